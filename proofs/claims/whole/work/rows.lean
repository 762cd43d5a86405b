section
-- ===== PART A: goes FIRST, ahead of the names: the tables' words, and 'selects' of the private methods out of them =====
/-- a private method of a class that the tables say can be made, by its rows of tables_1 -/
def lw_okq (q : MethodName × Nat) : Prop := (q.1.cls ≠ "java/lang/invoke/MethodHandle" ∧ q.1.cls ≠ "java/lang/invoke/VarHandle") ∧ Cond.instantiable q.1.cls q.2 ∈ tables_1 ∧ Cond.privateMethod q.1 ∈ tables_1 ∧ Cond.instanceMethod q.1 ∈ tables_1
theorem lw_p0 : lw_okq (⟨"TextMorph", "save", "()V"⟩, 8) := ⟨⟨by decide +kernel, by decide +kernel⟩, List.mem_of_getElem? (i := 21) (by decide +kernel), List.mem_of_getElem? (i := 253) (by decide +kernel), List.mem_of_getElem? (i := 254) (by decide +kernel)⟩
theorem lw_p1 : lw_okq (⟨"TextMorph", "refresh", "()V"⟩, 8) := ⟨⟨by decide +kernel, by decide +kernel⟩, List.mem_of_getElem? (i := 21) (by decide +kernel), List.mem_of_getElem? (i := 286) (by decide +kernel), List.mem_of_getElem? (i := 287) (by decide +kernel)⟩
theorem lw_p2 : lw_okq (⟨"TextMorph$Pairs", "unpairAll", "()V"⟩, 7) := ⟨⟨by decide +kernel, by decide +kernel⟩, List.mem_of_getElem? (i := 87) (by decide +kernel), List.mem_of_getElem? (i := 298) (by decide +kernel), List.mem_of_getElem? (i := 299) (by decide +kernel)⟩
theorem lw_p3 : lw_okq (⟨"TextMorph$Pairs", "pairCommon", "()V"⟩, 7) := ⟨⟨by decide +kernel, by decide +kernel⟩, List.mem_of_getElem? (i := 87) (by decide +kernel), List.mem_of_getElem? (i := 304) (by decide +kernel), List.mem_of_getElem? (i := 305) (by decide +kernel)⟩
theorem lw_p4 : lw_okq (⟨"TextMorph$Pairs", "measureLongest", "()V"⟩, 7) := ⟨⟨by decide +kernel, by decide +kernel⟩, List.mem_of_getElem? (i := 87) (by decide +kernel), List.mem_of_getElem? (i := 308) (by decide +kernel), List.mem_of_getElem? (i := 309) (by decide +kernel)⟩
theorem lw_p5 : lw_okq (⟨"TextMorph$Pairs", "partnerThatLeaves", "(III)I"⟩, 7) := ⟨⟨by decide +kernel, by decide +kernel⟩, List.mem_of_getElem? (i := 87) (by decide +kernel), List.mem_of_getElem? (i := 319) (by decide +kernel), List.mem_of_getElem? (i := 320) (by decide +kernel)⟩
theorem lw_p6 : lw_okq (⟨"TextMorph$Pairs", "pair", "(III)V"⟩, 7) := ⟨⟨by decide +kernel, by decide +kernel⟩, List.mem_of_getElem? (i := 87) (by decide +kernel), List.mem_of_getElem? (i := 323) (by decide +kernel), List.mem_of_getElem? (i := 324) (by decide +kernel)⟩
theorem lw_p7 : lw_okq (⟨"TextMorph$Pairs", "pairNearest", "(II)Z"⟩, 7) := ⟨⟨by decide +kernel, by decide +kernel⟩, List.mem_of_getElem? (i := 87) (by decide +kernel), List.mem_of_getElem? (i := 327) (by decide +kernel), List.mem_of_getElem? (i := 328) (by decide +kernel)⟩
theorem lw_p8 : lw_okq (⟨"TextMorph$Pairs", "mayBePaired", "(III)Z"⟩, 7) := ⟨⟨by decide +kernel, by decide +kernel⟩, List.mem_of_getElem? (i := 87) (by decide +kernel), List.mem_of_getElem? (i := 331) (by decide +kernel), List.mem_of_getElem? (i := 332) (by decide +kernel)⟩
theorem lw_p9 : lw_okq (⟨"TextMorph$Motion", "start", "()V"⟩, 13) := ⟨⟨by decide +kernel, by decide +kernel⟩, List.mem_of_getElem? (i := 123) (by decide +kernel), List.mem_of_getElem? (i := 354) (by decide +kernel), List.mem_of_getElem? (i := 355) (by decide +kernel)⟩
theorem lw_p10 : lw_okq (⟨"TextMorph$Motion", "record", "(I)V"⟩, 13) := ⟨⟨by decide +kernel, by decide +kernel⟩, List.mem_of_getElem? (i := 123) (by decide +kernel), List.mem_of_getElem? (i := 360) (by decide +kernel), List.mem_of_getElem? (i := 361) (by decide +kernel)⟩
theorem lw_p11 : lw_okq (⟨"TextMorph$Motion", "movePieces", "(I)V"⟩, 13) := ⟨⟨by decide +kernel, by decide +kernel⟩, List.mem_of_getElem? (i := 123) (by decide +kernel), List.mem_of_getElem? (i := 365) (by decide +kernel), List.mem_of_getElem? (i := 366) (by decide +kernel)⟩
theorem lw_p12 : lw_okq (⟨"TextMorph$Motion", "moveOrHold", "(II)V"⟩, 13) := ⟨⟨by decide +kernel, by decide +kernel⟩, List.mem_of_getElem? (i := 123) (by decide +kernel), List.mem_of_getElem? (i := 369) (by decide +kernel), List.mem_of_getElem? (i := 370) (by decide +kernel)⟩
theorem lw_p13 : lw_okq (⟨"TextMorph$Motion", "nextCell", "(II)I"⟩, 13) := ⟨⟨by decide +kernel, by decide +kernel⟩, List.mem_of_getElem? (i := 123) (by decide +kernel), List.mem_of_getElem? (i := 373) (by decide +kernel), List.mem_of_getElem? (i := 374) (by decide +kernel)⟩
theorem lw_p14 : lw_okq (⟨"TextMorph$Motion", "goesAlongRow", "(II)Z"⟩, 13) := ⟨⟨by decide +kernel, by decide +kernel⟩, List.mem_of_getElem? (i := 123) (by decide +kernel), List.mem_of_getElem? (i := 378) (by decide +kernel), List.mem_of_getElem? (i := 379) (by decide +kernel)⟩
theorem lw_p15 : lw_okq (⟨"TextMorph", "mixNumbers", "(J)J"⟩, 8) := ⟨⟨by decide +kernel, by decide +kernel⟩, List.mem_of_getElem? (i := 21) (by decide +kernel), List.mem_of_getElem? (i := 416) (by decide +kernel), List.mem_of_getElem? (i := 417) (by decide +kernel)⟩
def lw_privs_1 : List (MethodName × Nat) := [(⟨"TextMorph", "save", "()V"⟩, 8), (⟨"TextMorph", "refresh", "()V"⟩, 8), (⟨"TextMorph$Pairs", "unpairAll", "()V"⟩, 7), (⟨"TextMorph$Pairs", "pairCommon", "()V"⟩, 7), (⟨"TextMorph$Pairs", "measureLongest", "()V"⟩, 7), (⟨"TextMorph$Pairs", "partnerThatLeaves", "(III)I"⟩, 7), (⟨"TextMorph$Pairs", "pair", "(III)V"⟩, 7), (⟨"TextMorph$Pairs", "pairNearest", "(II)Z"⟩, 7), (⟨"TextMorph$Pairs", "mayBePaired", "(III)Z"⟩, 7), (⟨"TextMorph$Motion", "start", "()V"⟩, 13), (⟨"TextMorph$Motion", "record", "(I)V"⟩, 13), (⟨"TextMorph$Motion", "movePieces", "(I)V"⟩, 13), (⟨"TextMorph$Motion", "moveOrHold", "(II)V"⟩, 13), (⟨"TextMorph$Motion", "nextCell", "(II)I"⟩, 13), (⟨"TextMorph$Motion", "goesAlongRow", "(II)Z"⟩, 13), (⟨"TextMorph", "mixNumbers", "(J)J"⟩, 8)]
theorem lw_r1 : ∀ q ∈ lw_privs_1, lw_okq q := List.forall_mem_cons.mpr ⟨lw_p0, List.forall_mem_cons.mpr ⟨lw_p1, List.forall_mem_cons.mpr ⟨lw_p2, List.forall_mem_cons.mpr ⟨lw_p3, List.forall_mem_cons.mpr ⟨lw_p4, List.forall_mem_cons.mpr ⟨lw_p5, List.forall_mem_cons.mpr ⟨lw_p6, List.forall_mem_cons.mpr ⟨lw_p7, List.forall_mem_cons.mpr ⟨lw_p8, List.forall_mem_cons.mpr ⟨lw_p9, List.forall_mem_cons.mpr ⟨lw_p10, List.forall_mem_cons.mpr ⟨lw_p11, List.forall_mem_cons.mpr ⟨lw_p12, List.forall_mem_cons.mpr ⟨lw_p13, List.forall_mem_cons.mpr ⟨lw_p14, List.forall_mem_cons.mpr ⟨lw_p15, fun _ h => absurd h List.not_mem_nil⟩⟩⟩⟩⟩⟩⟩⟩⟩⟩⟩⟩⟩⟩⟩⟩
theorem lw_p16 : lw_okq (⟨"TextMorph$Morph", "distancesOfAll", "()I"⟩, 9) := ⟨⟨by decide +kernel, by decide +kernel⟩, List.mem_of_getElem? (i := 81) (by decide +kernel), List.mem_of_getElem? (i := 425) (by decide +kernel), List.mem_of_getElem? (i := 426) (by decide +kernel)⟩
theorem lw_p17 : lw_okq (⟨"TextMorph$Morph", "vanishes", "(I)Z"⟩, 9) := ⟨⟨by decide +kernel, by decide +kernel⟩, List.mem_of_getElem? (i := 81) (by decide +kernel), List.mem_of_getElem? (i := 429) (by decide +kernel), List.mem_of_getElem? (i := 430) (by decide +kernel)⟩
theorem lw_p18 : lw_okq (⟨"TextMorph$Morph", "stepsOfAll", "()I"⟩, 9) := ⟨⟨by decide +kernel, by decide +kernel⟩, List.mem_of_getElem? (i := 81) (by decide +kernel), List.mem_of_getElem? (i := 434) (by decide +kernel), List.mem_of_getElem? (i := 435) (by decide +kernel)⟩
theorem lw_p19 : lw_okq (⟨"TextMorph$Morph", "steps", "(I)I"⟩, 9) := ⟨⟨by decide +kernel, by decide +kernel⟩, List.mem_of_getElem? (i := 81) (by decide +kernel), List.mem_of_getElem? (i := 438) (by decide +kernel), List.mem_of_getElem? (i := 439) (by decide +kernel)⟩
theorem lw_p20 : lw_okq (⟨"TextMorph", "mixLetters", "(J)J"⟩, 8) := ⟨⟨by decide +kernel, by decide +kernel⟩, List.mem_of_getElem? (i := 21) (by decide +kernel), List.mem_of_getElem? (i := 449) (by decide +kernel), List.mem_of_getElem? (i := 450) (by decide +kernel)⟩
theorem lw_p21 : lw_okq (⟨"TextMorph", "mixFrames", "(J)J"⟩, 8) := ⟨⟨by decide +kernel, by decide +kernel⟩, List.mem_of_getElem? (i := 21) (by decide +kernel), List.mem_of_getElem? (i := 462) (by decide +kernel), List.mem_of_getElem? (i := 463) (by decide +kernel)⟩
theorem lw_p22 : lw_okq (⟨"TextMorph$Morph", "cellsWithLetters", "(I)I"⟩, 9) := ⟨⟨by decide +kernel, by decide +kernel⟩, List.mem_of_getElem? (i := 81) (by decide +kernel), List.mem_of_getElem? (i := 470) (by decide +kernel), List.mem_of_getElem? (i := 471) (by decide +kernel)⟩
theorem lw_p23 : lw_okq (⟨"TextMorph$Morph", "show", "(I[I)V"⟩, 9) := ⟨⟨by decide +kernel, by decide +kernel⟩, List.mem_of_getElem? (i := 81) (by decide +kernel), List.mem_of_getElem? (i := 474) (by decide +kernel), List.mem_of_getElem? (i := 475) (by decide +kernel)⟩
theorem lw_p24 : lw_okq (⟨"TextMorph$Morph", "isGone", "(II)Z"⟩, 9) := ⟨⟨by decide +kernel, by decide +kernel⟩, List.mem_of_getElem? (i := 81) (by decide +kernel), List.mem_of_getElem? (i := 483) (by decide +kernel), List.mem_of_getElem? (i := 484) (by decide +kernel)⟩
theorem lw_p25 : lw_okq (⟨"TextMorph$Morph", "movedBy", "(I)I"⟩, 9) := ⟨⟨by decide +kernel, by decide +kernel⟩, List.mem_of_getElem? (i := 81) (by decide +kernel), List.mem_of_getElem? (i := 487) (by decide +kernel), List.mem_of_getElem? (i := 488) (by decide +kernel)⟩
theorem lw_p26 : lw_okq (⟨"TextMorph$Morph", "pieceCode", "(II)I"⟩, 9) := ⟨⟨by decide +kernel, by decide +kernel⟩, List.mem_of_getElem? (i := 81) (by decide +kernel), List.mem_of_getElem? (i := 499) (by decide +kernel), List.mem_of_getElem? (i := 500) (by decide +kernel)⟩
theorem lw_p27 : lw_okq (⟨"TextMorph$Morph", "cellsThatDiffer", "(I)I"⟩, 9) := ⟨⟨by decide +kernel, by decide +kernel⟩, List.mem_of_getElem? (i := 81) (by decide +kernel), List.mem_of_getElem? (i := 508) (by decide +kernel), List.mem_of_getElem? (i := 509) (by decide +kernel)⟩
theorem lw_p28 : lw_okq (⟨"TextMorph$Morph", "sharedCells", "(I)I"⟩, 9) := ⟨⟨by decide +kernel, by decide +kernel⟩, List.mem_of_getElem? (i := 81) (by decide +kernel), List.mem_of_getElem? (i := 516) (by decide +kernel), List.mem_of_getElem? (i := 517) (by decide +kernel)⟩
theorem lw_p29 : lw_okq (⟨"TextMorph$Morph", "piecesLeft", "(I)I"⟩, 9) := ⟨⟨by decide +kernel, by decide +kernel⟩, List.mem_of_getElem? (i := 81) (by decide +kernel), List.mem_of_getElem? (i := 520) (by decide +kernel), List.mem_of_getElem? (i := 521) (by decide +kernel)⟩
theorem lw_p30 : lw_okq (⟨"java/lang/Throwable", "fillInStackTrace", "(I)Ljava/lang/Throwable;"⟩, 6) := ⟨⟨by decide +kernel, by decide +kernel⟩, List.mem_of_getElem? (i := 586) (by decide +kernel), List.mem_of_getElem? (i := 584) (by decide +kernel), List.mem_of_getElem? (i := 585) (by decide +kernel)⟩
theorem lw_p31 : lw_okq (⟨"TextMorph$Text", "numberLetters", "()V"⟩, 3) := ⟨⟨by decide +kernel, by decide +kernel⟩, List.mem_of_getElem? (i := 35) (by decide +kernel), List.mem_of_getElem? (i := 655) (by decide +kernel), List.mem_of_getElem? (i := 656) (by decide +kernel)⟩
def lw_privs_2 : List (MethodName × Nat) := [(⟨"TextMorph$Morph", "distancesOfAll", "()I"⟩, 9), (⟨"TextMorph$Morph", "vanishes", "(I)Z"⟩, 9), (⟨"TextMorph$Morph", "stepsOfAll", "()I"⟩, 9), (⟨"TextMorph$Morph", "steps", "(I)I"⟩, 9), (⟨"TextMorph", "mixLetters", "(J)J"⟩, 8), (⟨"TextMorph", "mixFrames", "(J)J"⟩, 8), (⟨"TextMorph$Morph", "cellsWithLetters", "(I)I"⟩, 9), (⟨"TextMorph$Morph", "show", "(I[I)V"⟩, 9), (⟨"TextMorph$Morph", "isGone", "(II)Z"⟩, 9), (⟨"TextMorph$Morph", "movedBy", "(I)I"⟩, 9), (⟨"TextMorph$Morph", "pieceCode", "(II)I"⟩, 9), (⟨"TextMorph$Morph", "cellsThatDiffer", "(I)I"⟩, 9), (⟨"TextMorph$Morph", "sharedCells", "(I)I"⟩, 9), (⟨"TextMorph$Morph", "piecesLeft", "(I)I"⟩, 9), (⟨"java/lang/Throwable", "fillInStackTrace", "(I)Ljava/lang/Throwable;"⟩, 6), (⟨"TextMorph$Text", "numberLetters", "()V"⟩, 3)]
theorem lw_r2 : ∀ q ∈ lw_privs_2, lw_okq q := List.forall_mem_cons.mpr ⟨lw_p16, List.forall_mem_cons.mpr ⟨lw_p17, List.forall_mem_cons.mpr ⟨lw_p18, List.forall_mem_cons.mpr ⟨lw_p19, List.forall_mem_cons.mpr ⟨lw_p20, List.forall_mem_cons.mpr ⟨lw_p21, List.forall_mem_cons.mpr ⟨lw_p22, List.forall_mem_cons.mpr ⟨lw_p23, List.forall_mem_cons.mpr ⟨lw_p24, List.forall_mem_cons.mpr ⟨lw_p25, List.forall_mem_cons.mpr ⟨lw_p26, List.forall_mem_cons.mpr ⟨lw_p27, List.forall_mem_cons.mpr ⟨lw_p28, List.forall_mem_cons.mpr ⟨lw_p29, List.forall_mem_cons.mpr ⟨lw_p30, List.forall_mem_cons.mpr ⟨lw_p31, fun _ h => absurd h List.not_mem_nil⟩⟩⟩⟩⟩⟩⟩⟩⟩⟩⟩⟩⟩⟩⟩⟩
theorem lw_p32 : lw_okq (⟨"TextMorph", "isPiece", "(I)Z"⟩, 8) := ⟨⟨by decide +kernel, by decide +kernel⟩, List.mem_of_getElem? (i := 21) (by decide +kernel), List.mem_of_getElem? (i := 726) (by decide +kernel), List.mem_of_getElem? (i := 727) (by decide +kernel)⟩
theorem lw_p33 : lw_okq (⟨"TextMorph", "isFrame", "(I)Z"⟩, 8) := ⟨⟨by decide +kernel, by decide +kernel⟩, List.mem_of_getElem? (i := 21) (by decide +kernel), List.mem_of_getElem? (i := 738) (by decide +kernel), List.mem_of_getElem? (i := 739) (by decide +kernel)⟩
theorem lw_p34 : lw_okq (⟨"TextMorphModel", "fresh", "()V"⟩, 21) := ⟨⟨by decide +kernel, by decide +kernel⟩, List.mem_of_getElem? (i := 783) (by decide +kernel), List.mem_of_getElem? (i := 789) (by decide +kernel), List.mem_of_getElem? (i := 790) (by decide +kernel)⟩
theorem lw_p35 : lw_okq (⟨"TextMorphModel", "save", "()V"⟩, 21) := ⟨⟨by decide +kernel, by decide +kernel⟩, List.mem_of_getElem? (i := 783) (by decide +kernel), List.mem_of_getElem? (i := 869) (by decide +kernel), List.mem_of_getElem? (i := 870) (by decide +kernel)⟩
theorem lw_p36 : lw_okq (⟨"TextMorphModel", "lettersOf", "(I)I"⟩, 21) := ⟨⟨by decide +kernel, by decide +kernel⟩, List.mem_of_getElem? (i := 783) (by decide +kernel), List.mem_of_getElem? (i := 873) (by decide +kernel), List.mem_of_getElem? (i := 874) (by decide +kernel)⟩
theorem lw_p37 : lw_okq (⟨"TextMorphModel", "replaced", "(II)I"⟩, 21) := ⟨⟨by decide +kernel, by decide +kernel⟩, List.mem_of_getElem? (i := 783) (by decide +kernel), List.mem_of_getElem? (i := 890) (by decide +kernel), List.mem_of_getElem? (i := 891) (by decide +kernel)⟩
theorem lw_p38 : lw_okq (⟨"TextMorphModel", "lay", "()V"⟩, 21) := ⟨⟨by decide +kernel, by decide +kernel⟩, List.mem_of_getElem? (i := 783) (by decide +kernel), List.mem_of_getElem? (i := 911) (by decide +kernel), List.mem_of_getElem? (i := 912) (by decide +kernel)⟩
theorem lw_p39 : lw_okq (⟨"TextMorphModel", "layLetters", "()V"⟩, 21) := ⟨⟨by decide +kernel, by decide +kernel⟩, List.mem_of_getElem? (i := 783) (by decide +kernel), List.mem_of_getElem? (i := 915) (by decide +kernel), List.mem_of_getElem? (i := 916) (by decide +kernel)⟩
theorem lw_p40 : lw_okq (⟨"TextMorphModel", "layCommon", "()V"⟩, 21) := ⟨⟨by decide +kernel, by decide +kernel⟩, List.mem_of_getElem? (i := 783) (by decide +kernel), List.mem_of_getElem? (i := 919) (by decide +kernel), List.mem_of_getElem? (i := 920) (by decide +kernel)⟩
theorem lw_p41 : lw_okq (⟨"TextMorphModel", "areEqual", "(II)Z"⟩, 21) := ⟨⟨by decide +kernel, by decide +kernel⟩, List.mem_of_getElem? (i := 783) (by decide +kernel), List.mem_of_getElem? (i := 923) (by decide +kernel), List.mem_of_getElem? (i := 924) (by decide +kernel)⟩
theorem lw_p42 : lw_okq (⟨"TextMorphModel", "pair", "(III)V"⟩, 21) := ⟨⟨by decide +kernel, by decide +kernel⟩, List.mem_of_getElem? (i := 783) (by decide +kernel), List.mem_of_getElem? (i := 927) (by decide +kernel), List.mem_of_getElem? (i := 928) (by decide +kernel)⟩
theorem lw_p43 : lw_okq (⟨"TextMorphModel", "layNearest", "(I)V"⟩, 21) := ⟨⟨by decide +kernel, by decide +kernel⟩, List.mem_of_getElem? (i := 783) (by decide +kernel), List.mem_of_getElem? (i := 931) (by decide +kernel), List.mem_of_getElem? (i := 932) (by decide +kernel)⟩
theorem lw_p44 : lw_okq (⟨"TextMorphModel", "canPair", "(III)Z"⟩, 21) := ⟨⟨by decide +kernel, by decide +kernel⟩, List.mem_of_getElem? (i := 783) (by decide +kernel), List.mem_of_getElem? (i := 935) (by decide +kernel), List.mem_of_getElem? (i := 936) (by decide +kernel)⟩
theorem lw_p45 : lw_okq (⟨"TextMorphModel", "distance", "(II)I"⟩, 21) := ⟨⟨by decide +kernel, by decide +kernel⟩, List.mem_of_getElem? (i := 783) (by decide +kernel), List.mem_of_getElem? (i := 939) (by decide +kernel), List.mem_of_getElem? (i := 940) (by decide +kernel)⟩
theorem lw_p46 : lw_okq (⟨"TextMorphModel", "of", "(I)I"⟩, 21) := ⟨⟨by decide +kernel, by decide +kernel⟩, List.mem_of_getElem? (i := 783) (by decide +kernel), List.mem_of_getElem? (i := 946) (by decide +kernel), List.mem_of_getElem? (i := 947) (by decide +kernel)⟩
theorem lw_p47 : lw_okq (⟨"TextMorphModel", "layFrames", "()V"⟩, 21) := ⟨⟨by decide +kernel, by decide +kernel⟩, List.mem_of_getElem? (i := 783) (by decide +kernel), List.mem_of_getElem? (i := 950) (by decide +kernel), List.mem_of_getElem? (i := 951) (by decide +kernel)⟩
def lw_privs_3 : List (MethodName × Nat) := [(⟨"TextMorph", "isPiece", "(I)Z"⟩, 8), (⟨"TextMorph", "isFrame", "(I)Z"⟩, 8), (⟨"TextMorphModel", "fresh", "()V"⟩, 21), (⟨"TextMorphModel", "save", "()V"⟩, 21), (⟨"TextMorphModel", "lettersOf", "(I)I"⟩, 21), (⟨"TextMorphModel", "replaced", "(II)I"⟩, 21), (⟨"TextMorphModel", "lay", "()V"⟩, 21), (⟨"TextMorphModel", "layLetters", "()V"⟩, 21), (⟨"TextMorphModel", "layCommon", "()V"⟩, 21), (⟨"TextMorphModel", "areEqual", "(II)Z"⟩, 21), (⟨"TextMorphModel", "pair", "(III)V"⟩, 21), (⟨"TextMorphModel", "layNearest", "(I)V"⟩, 21), (⟨"TextMorphModel", "canPair", "(III)Z"⟩, 21), (⟨"TextMorphModel", "distance", "(II)I"⟩, 21), (⟨"TextMorphModel", "of", "(I)I"⟩, 21), (⟨"TextMorphModel", "layFrames", "()V"⟩, 21)]
theorem lw_r3 : ∀ q ∈ lw_privs_3, lw_okq q := List.forall_mem_cons.mpr ⟨lw_p32, List.forall_mem_cons.mpr ⟨lw_p33, List.forall_mem_cons.mpr ⟨lw_p34, List.forall_mem_cons.mpr ⟨lw_p35, List.forall_mem_cons.mpr ⟨lw_p36, List.forall_mem_cons.mpr ⟨lw_p37, List.forall_mem_cons.mpr ⟨lw_p38, List.forall_mem_cons.mpr ⟨lw_p39, List.forall_mem_cons.mpr ⟨lw_p40, List.forall_mem_cons.mpr ⟨lw_p41, List.forall_mem_cons.mpr ⟨lw_p42, List.forall_mem_cons.mpr ⟨lw_p43, List.forall_mem_cons.mpr ⟨lw_p44, List.forall_mem_cons.mpr ⟨lw_p45, List.forall_mem_cons.mpr ⟨lw_p46, List.forall_mem_cons.mpr ⟨lw_p47, fun _ h => absurd h List.not_mem_nil⟩⟩⟩⟩⟩⟩⟩⟩⟩⟩⟩⟩⟩⟩⟩⟩
theorem lw_p48 : lw_okq (⟨"TextMorphModel", "ofKind", "(II)I"⟩, 21) := ⟨⟨by decide +kernel, by decide +kernel⟩, List.mem_of_getElem? (i := 783) (by decide +kernel), List.mem_of_getElem? (i := 954) (by decide +kernel), List.mem_of_getElem? (i := 955) (by decide +kernel)⟩
theorem lw_p49 : lw_okq (⟨"TextMorphModel", "layFrame", "()V"⟩, 21) := ⟨⟨by decide +kernel, by decide +kernel⟩, List.mem_of_getElem? (i := 783) (by decide +kernel), List.mem_of_getElem? (i := 958) (by decide +kernel), List.mem_of_getElem? (i := 959) (by decide +kernel)⟩
theorem lw_p50 : lw_okq (⟨"TextMorphModel", "isGoing", "(I)Z"⟩, 21) := ⟨⟨by decide +kernel, by decide +kernel⟩, List.mem_of_getElem? (i := 783) (by decide +kernel), List.mem_of_getElem? (i := 962) (by decide +kernel), List.mem_of_getElem? (i := 963) (by decide +kernel)⟩
theorem lw_p51 : lw_okq (⟨"TextMorphModel", "goal", "(I)I"⟩, 21) := ⟨⟨by decide +kernel, by decide +kernel⟩, List.mem_of_getElem? (i := 783) (by decide +kernel), List.mem_of_getElem? (i := 966) (by decide +kernel), List.mem_of_getElem? (i := 967) (by decide +kernel)⟩
theorem lw_p52 : lw_okq (⟨"TextMorphModel", "nextOf", "(I)I"⟩, 21) := ⟨⟨by decide +kernel, by decide +kernel⟩, List.mem_of_getElem? (i := 783) (by decide +kernel), List.mem_of_getElem? (i := 970) (by decide +kernel), List.mem_of_getElem? (i := 971) (by decide +kernel)⟩
theorem lw_p53 : lw_okq (⟨"TextMorphModel", "isTaken", "(II)Z"⟩, 21) := ⟨⟨by decide +kernel, by decide +kernel⟩, List.mem_of_getElem? (i := 783) (by decide +kernel), List.mem_of_getElem? (i := 974) (by decide +kernel), List.mem_of_getElem? (i := 975) (by decide +kernel)⟩
theorem lw_p54 : lw_okq (⟨"TextMorphModel", "firstMoving", "()I"⟩, 21) := ⟨⟨by decide +kernel, by decide +kernel⟩, List.mem_of_getElem? (i := 783) (by decide +kernel), List.mem_of_getElem? (i := 978) (by decide +kernel), List.mem_of_getElem? (i := 979) (by decide +kernel)⟩
theorem lw_p55 : lw_okq (⟨"TextMorphModel", "anyGoes", "()Z"⟩, 21) := ⟨⟨by decide +kernel, by decide +kernel⟩, List.mem_of_getElem? (i := 783) (by decide +kernel), List.mem_of_getElem? (i := 982) (by decide +kernel), List.mem_of_getElem? (i := 983) (by decide +kernel)⟩
theorem lw_p56 : lw_okq (⟨"TextMorphModel", "frames", "()I"⟩, 21) := ⟨⟨by decide +kernel, by decide +kernel⟩, List.mem_of_getElem? (i := 783) (by decide +kernel), List.mem_of_getElem? (i := 986) (by decide +kernel), List.mem_of_getElem? (i := 987) (by decide +kernel)⟩
theorem lw_p57 : lw_okq (⟨"TextMorphModel", "readText", "()I"⟩, 21) := ⟨⟨by decide +kernel, by decide +kernel⟩, List.mem_of_getElem? (i := 783) (by decide +kernel), List.mem_of_getElem? (i := 1002) (by decide +kernel), List.mem_of_getElem? (i := 1003) (by decide +kernel)⟩
theorem lw_p58 : lw_okq (⟨"TextMorphModel", "letterNow", "(III)I"⟩, 21) := ⟨⟨by decide +kernel, by decide +kernel⟩, List.mem_of_getElem? (i := 783) (by decide +kernel), List.mem_of_getElem? (i := 1014) (by decide +kernel), List.mem_of_getElem? (i := 1015) (by decide +kernel)⟩
theorem lw_p59 : lw_okq (⟨"TextMorphModel", "wayNow", "(II)I"⟩, 21) := ⟨⟨by decide +kernel, by decide +kernel⟩, List.mem_of_getElem? (i := 783) (by decide +kernel), List.mem_of_getElem? (i := 1022) (by decide +kernel), List.mem_of_getElem? (i := 1023) (by decide +kernel)⟩
theorem lw_p60 : lw_okq (⟨"TextMorphModel", "steps", "(I)I"⟩, 21) := ⟨⟨by decide +kernel, by decide +kernel⟩, List.mem_of_getElem? (i := 783) (by decide +kernel), List.mem_of_getElem? (i := 1026) (by decide +kernel), List.mem_of_getElem? (i := 1027) (by decide +kernel)⟩
theorem lw_p61 : lw_okq (⟨"TextMorphModel", "goneAt", "(I)I"⟩, 21) := ⟨⟨by decide +kernel, by decide +kernel⟩, List.mem_of_getElem? (i := 783) (by decide +kernel), List.mem_of_getElem? (i := 1030) (by decide +kernel), List.mem_of_getElem? (i := 1031) (by decide +kernel)⟩
theorem lw_p62 : lw_okq (⟨"TextMorphModel", "isFrame", "(I)Z"⟩, 21) := ⟨⟨by decide +kernel, by decide +kernel⟩, List.mem_of_getElem? (i := 783) (by decide +kernel), List.mem_of_getElem? (i := 1038) (by decide +kernel), List.mem_of_getElem? (i := 1039) (by decide +kernel)⟩
theorem lw_p63 : lw_okq (⟨"TextMorphModel", "shown", "(II)I"⟩, 21) := ⟨⟨by decide +kernel, by decide +kernel⟩, List.mem_of_getElem? (i := 783) (by decide +kernel), List.mem_of_getElem? (i := 1042) (by decide +kernel), List.mem_of_getElem? (i := 1043) (by decide +kernel)⟩
def lw_privs_4 : List (MethodName × Nat) := [(⟨"TextMorphModel", "ofKind", "(II)I"⟩, 21), (⟨"TextMorphModel", "layFrame", "()V"⟩, 21), (⟨"TextMorphModel", "isGoing", "(I)Z"⟩, 21), (⟨"TextMorphModel", "goal", "(I)I"⟩, 21), (⟨"TextMorphModel", "nextOf", "(I)I"⟩, 21), (⟨"TextMorphModel", "isTaken", "(II)Z"⟩, 21), (⟨"TextMorphModel", "firstMoving", "()I"⟩, 21), (⟨"TextMorphModel", "anyGoes", "()Z"⟩, 21), (⟨"TextMorphModel", "frames", "()I"⟩, 21), (⟨"TextMorphModel", "readText", "()I"⟩, 21), (⟨"TextMorphModel", "letterNow", "(III)I"⟩, 21), (⟨"TextMorphModel", "wayNow", "(II)I"⟩, 21), (⟨"TextMorphModel", "steps", "(I)I"⟩, 21), (⟨"TextMorphModel", "goneAt", "(I)I"⟩, 21), (⟨"TextMorphModel", "isFrame", "(I)Z"⟩, 21), (⟨"TextMorphModel", "shown", "(II)I"⟩, 21)]
theorem lw_r4 : ∀ q ∈ lw_privs_4, lw_okq q := List.forall_mem_cons.mpr ⟨lw_p48, List.forall_mem_cons.mpr ⟨lw_p49, List.forall_mem_cons.mpr ⟨lw_p50, List.forall_mem_cons.mpr ⟨lw_p51, List.forall_mem_cons.mpr ⟨lw_p52, List.forall_mem_cons.mpr ⟨lw_p53, List.forall_mem_cons.mpr ⟨lw_p54, List.forall_mem_cons.mpr ⟨lw_p55, List.forall_mem_cons.mpr ⟨lw_p56, List.forall_mem_cons.mpr ⟨lw_p57, List.forall_mem_cons.mpr ⟨lw_p58, List.forall_mem_cons.mpr ⟨lw_p59, List.forall_mem_cons.mpr ⟨lw_p60, List.forall_mem_cons.mpr ⟨lw_p61, List.forall_mem_cons.mpr ⟨lw_p62, List.forall_mem_cons.mpr ⟨lw_p63, fun _ h => absurd h List.not_mem_nil⟩⟩⟩⟩⟩⟩⟩⟩⟩⟩⟩⟩⟩⟩⟩⟩
theorem lw_p64 : lw_okq (⟨"TextMorphModel", "placeIn", "(II)I"⟩, 21) := ⟨⟨by decide +kernel, by decide +kernel⟩, List.mem_of_getElem? (i := 783) (by decide +kernel), List.mem_of_getElem? (i := 1046) (by decide +kernel), List.mem_of_getElem? (i := 1047) (by decide +kernel)⟩
theorem lw_p65 : lw_okq (⟨"TextMorphModel", "shownOf", "(II)I"⟩, 21) := ⟨⟨by decide +kernel, by decide +kernel⟩, List.mem_of_getElem? (i := 783) (by decide +kernel), List.mem_of_getElem? (i := 1050) (by decide +kernel), List.mem_of_getElem? (i := 1051) (by decide +kernel)⟩
theorem lw_p66 : lw_okq (⟨"TextMorphModel", "frameNow", "(II)I"⟩, 21) := ⟨⟨by decide +kernel, by decide +kernel⟩, List.mem_of_getElem? (i := 783) (by decide +kernel), List.mem_of_getElem? (i := 1062) (by decide +kernel), List.mem_of_getElem? (i := 1063) (by decide +kernel)⟩
theorem lw_p67 : lw_okq (⟨"TextMorphModel", "piecesIn", "(II)I"⟩, 21) := ⟨⟨by decide +kernel, by decide +kernel⟩, List.mem_of_getElem? (i := 783) (by decide +kernel), List.mem_of_getElem? (i := 1066) (by decide +kernel), List.mem_of_getElem? (i := 1067) (by decide +kernel)⟩
theorem lw_p68 : lw_okq (⟨"TextMorphModel", "counted", "(I)I"⟩, 21) := ⟨⟨by decide +kernel, by decide +kernel⟩, List.mem_of_getElem? (i := 783) (by decide +kernel), List.mem_of_getElem? (i := 1074) (by decide +kernel), List.mem_of_getElem? (i := 1075) (by decide +kernel)⟩
theorem lw_p69 : lw_okq (⟨"TextMorphModel", "sumOf", "(I)I"⟩, 21) := ⟨⟨by decide +kernel, by decide +kernel⟩, List.mem_of_getElem? (i := 783) (by decide +kernel), List.mem_of_getElem? (i := 1078) (by decide +kernel), List.mem_of_getElem? (i := 1079) (by decide +kernel)⟩
theorem lw_p70 : lw_okq (⟨"TextMorphModel", "ifNow", "(III)I"⟩, 21) := ⟨⟨by decide +kernel, by decide +kernel⟩, List.mem_of_getElem? (i := 783) (by decide +kernel), List.mem_of_getElem? (i := 1090) (by decide +kernel), List.mem_of_getElem? (i := 1091) (by decide +kernel)⟩
theorem lw_p71 : lw_okq (⟨"TextMorphModel", "bestNow", "()I"⟩, 21) := ⟨⟨by decide +kernel, by decide +kernel⟩, List.mem_of_getElem? (i := 783) (by decide +kernel), List.mem_of_getElem? (i := 1098) (by decide +kernel), List.mem_of_getElem? (i := 1099) (by decide +kernel)⟩
theorem lw_p72 : lw_okq (⟨"TextMorphModel", "likenessNow", "()D"⟩, 21) := ⟨⟨by decide +kernel, by decide +kernel⟩, List.mem_of_getElem? (i := 783) (by decide +kernel), List.mem_of_getElem? (i := 1106) (by decide +kernel), List.mem_of_getElem? (i := 1107) (by decide +kernel)⟩
theorem lw_p73 : lw_okq (⟨"TextMorphModel", "mix", "(J)V"⟩, 21) := ⟨⟨by decide +kernel, by decide +kernel⟩, List.mem_of_getElem? (i := 783) (by decide +kernel), List.mem_of_getElem? (i := 1116) (by decide +kernel), List.mem_of_getElem? (i := 1117) (by decide +kernel)⟩
theorem lw_p74 : lw_okq (⟨"TextMorphModel", "mixFrames", "()V"⟩, 21) := ⟨⟨by decide +kernel, by decide +kernel⟩, List.mem_of_getElem? (i := 783) (by decide +kernel), List.mem_of_getElem? (i := 1121) (by decide +kernel), List.mem_of_getElem? (i := 1122) (by decide +kernel)⟩
def lw_privs_5 : List (MethodName × Nat) := [(⟨"TextMorphModel", "placeIn", "(II)I"⟩, 21), (⟨"TextMorphModel", "shownOf", "(II)I"⟩, 21), (⟨"TextMorphModel", "frameNow", "(II)I"⟩, 21), (⟨"TextMorphModel", "piecesIn", "(II)I"⟩, 21), (⟨"TextMorphModel", "counted", "(I)I"⟩, 21), (⟨"TextMorphModel", "sumOf", "(I)I"⟩, 21), (⟨"TextMorphModel", "ifNow", "(III)I"⟩, 21), (⟨"TextMorphModel", "bestNow", "()I"⟩, 21), (⟨"TextMorphModel", "likenessNow", "()D"⟩, 21), (⟨"TextMorphModel", "mix", "(J)V"⟩, 21), (⟨"TextMorphModel", "mixFrames", "()V"⟩, 21)]
theorem lw_r5 : ∀ q ∈ lw_privs_5, lw_okq q := List.forall_mem_cons.mpr ⟨lw_p64, List.forall_mem_cons.mpr ⟨lw_p65, List.forall_mem_cons.mpr ⟨lw_p66, List.forall_mem_cons.mpr ⟨lw_p67, List.forall_mem_cons.mpr ⟨lw_p68, List.forall_mem_cons.mpr ⟨lw_p69, List.forall_mem_cons.mpr ⟨lw_p70, List.forall_mem_cons.mpr ⟨lw_p71, List.forall_mem_cons.mpr ⟨lw_p72, List.forall_mem_cons.mpr ⟨lw_p73, List.forall_mem_cons.mpr ⟨lw_p74, fun _ h => absurd h List.not_mem_nil⟩⟩⟩⟩⟩⟩⟩⟩⟩⟩⟩
def lw_privs : List (MethodName × Nat) := lw_privs_1 ++ (lw_privs_2 ++ (lw_privs_3 ++ (lw_privs_4 ++ (lw_privs_5))))
def lw_tbl : List Cond := k2_sels lw_privs ++ tables_1
theorem lw_privs_ok : ∀ q ∈ lw_privs, lw_okq q := by
  show ∀ q ∈ lw_privs_1 ++ (lw_privs_2 ++ (lw_privs_3 ++ (lw_privs_4 ++ (lw_privs_5)))), lw_okq q
  exact List.forall_mem_append.mpr ⟨lw_r1, List.forall_mem_append.mpr ⟨lw_r2, List.forall_mem_append.mpr ⟨lw_r3, List.forall_mem_append.mpr ⟨lw_r4, lw_r5⟩⟩⟩⟩
/-- the streams that the claim lets the run draw from -/
abbrev lw_cs : List Choice := [Jvm.Choice.named "NaN.bits"]
theorem lw_bits : nanBits ∈ lw_cs := by first | decide | exact List.mem_cons_self | simp [lw_cs, nanBits]

def RX0 : String := "TextMorph$Buffer"
def TX0 : u_T := fun k => match k with
  | 0 => ("TextMorph$Buffer", "signs", "[I", true)
  | 1 => ("TextMorph$Buffer", "cells", "[I", true)
  | _ => ("TextMorph$Buffer", "length", "I", false)
def tyX0 : Nat → FieldType := fun k => match k with
  | 0 => .array .int
  | 1 => .array .int
  | _ => .int
abbrev wsX00 : List Cond := u_ws RX0 TX0 3
theorem nmX0 : ∀ a, a < 3 → ∀ b, b < 3 → a ≠ b → (TX0 a).2.1 ≠ (TX0 b).2.1 := by decide +kernel
theorem tyX0_ok : ∀ k, k < 3 → parseFieldDescriptor (TX0 k).2.2.1 = some (tyX0 k) := by decide +kernel
abbrev cX0_init : ByteArray := prog_2_method_1_code
def yX0_init : MethodName := ⟨RX0, "<init>", "()V"⟩
abbrev cX0_read : ByteArray := prog_2_method_2_code
def yX0_read : MethodName := ⟨RX0, "read", "()I"⟩
def RX1 : String := "TextMorph$Morph"
def TX1 : u_T := fun k => match k with
  | 0 => ("TextMorph$Morph", "pairs", "LTextMorph$Pairs;", true)
  | 1 => ("TextMorph$Morph", "motion", "LTextMorph$Motion;", true)
  | 2 => ("TextMorph$Morph", "state", "LTextMorph$State;", true)
  | 3 => ("TextMorph$Morph", "goneFrom", "[I", true)
  | 4 => ("TextMorph$Morph", "thereFrom", "[I", true)
  | 5 => ("TextMorph$Morph", "shown", "[I", true)
  | 6 => ("TextMorph$Morph", "shownBefore", "[I", true)
  | 7 => ("TextMorph$Morph", "piecesIn", "[I", true)
  | _ => ("TextMorph$Morph", "stillFrames", "I", false)
def tyX1 : Nat → FieldType := fun k => match k with
  | 0 => .object "TextMorph$Pairs"
  | 1 => .object "TextMorph$Motion"
  | 2 => .object "TextMorph$State"
  | 3 => .array .int
  | 4 => .array .int
  | 5 => .array .int
  | 6 => .array .int
  | 7 => .array .int
  | _ => .int
abbrev wsX10 : List Cond := u_ws RX1 TX1 9
theorem nmX1 : ∀ a, a < 9 → ∀ b, b < 9 → a ≠ b → (TX1 a).2.1 ≠ (TX1 b).2.1 := by decide +kernel
theorem tyX1_ok : ∀ k, k < 9 → parseFieldDescriptor (TX1 k).2.2.1 = some (tyX1 k) := by decide +kernel
abbrev cX1_init : ByteArray := prog_3_method_1_code
def yX1_init : MethodName := ⟨RX1, "<init>", "(LTextMorph$State;)V"⟩
abbrev cX1_work : ByteArray := prog_3_method_2_code
def yX1_work : MethodName := ⟨RX1, "work", "()V"⟩
abbrev cX1_frames : ByteArray := prog_3_method_3_code
def yX1_frames : MethodName := ⟨RX1, "frames", "()I"⟩
abbrev cX1_number : ByteArray := prog_3_method_4_code
def yX1_number : MethodName := ⟨RX1, "number", "(I)I"⟩
abbrev cX1_letterProperty : ByteArray := prog_3_method_5_code
def yX1_letterProperty : MethodName := ⟨RX1, "letterProperty", "(III)I"⟩
abbrev cX1_wayProperty : ByteArray := prog_3_method_6_code
def yX1_wayProperty : MethodName := ⟨RX1, "wayProperty", "(II)I"⟩
abbrev cX1_cellOf : ByteArray := prog_3_method_7_code
def yX1_cellOf : MethodName := ⟨RX1, "cellOf", "(II)I"⟩
abbrev cX1_codeShown : ByteArray := prog_3_method_8_code
def yX1_codeShown : MethodName := ⟨RX1, "codeShown", "(II)I"⟩
abbrev cX1_frameProperty : ByteArray := prog_3_method_9_code
def yX1_frameProperty : MethodName := ⟨RX1, "frameProperty", "(II)I"⟩
abbrev cX1_distancesOfAll : ByteArray := prog_3_method_10_code
def yX1_distancesOfAll : MethodName := ⟨RX1, "distancesOfAll", "()I"⟩
abbrev cX1_stepsOfAll : ByteArray := prog_3_method_11_code
def yX1_stepsOfAll : MethodName := ⟨RX1, "stepsOfAll", "()I"⟩
abbrev cX1_steps : ByteArray := prog_3_method_12_code
def yX1_steps : MethodName := ⟨RX1, "steps", "(I)I"⟩
abbrev cX1_vanishes : ByteArray := prog_3_method_13_code
def yX1_vanishes : MethodName := ⟨RX1, "vanishes", "(I)Z"⟩
abbrev cX1_isGone : ByteArray := prog_3_method_14_code
def yX1_isGone : MethodName := ⟨RX1, "isGone", "(II)Z"⟩
abbrev cX1_movedBy : ByteArray := prog_3_method_15_code
def yX1_movedBy : MethodName := ⟨RX1, "movedBy", "(I)I"⟩
abbrev cX1_pieceCode : ByteArray := prog_3_method_16_code
def yX1_pieceCode : MethodName := ⟨RX1, "pieceCode", "(II)I"⟩
abbrev cX1_show : ByteArray := prog_3_method_17_code
def yX1_show : MethodName := ⟨RX1, "show", "(I[I)V"⟩
abbrev cX1_cellsWithLetters : ByteArray := prog_3_method_18_code
def yX1_cellsWithLetters : MethodName := ⟨RX1, "cellsWithLetters", "(I)I"⟩
abbrev cX1_cellsThatDiffer : ByteArray := prog_3_method_19_code
def yX1_cellsThatDiffer : MethodName := ⟨RX1, "cellsThatDiffer", "(I)I"⟩
abbrev cX1_sharedCells : ByteArray := prog_3_method_20_code
def yX1_sharedCells : MethodName := ⟨RX1, "sharedCells", "(I)I"⟩
abbrev cX1_piecesLeft : ByteArray := prog_3_method_21_code
def yX1_piecesLeft : MethodName := ⟨RX1, "piecesLeft", "(I)I"⟩
def RX2 : String := "TextMorph$Motion"
def TX2 : u_T := fun k => match k with
  | 0 => ("TextMorph$Motion", "goals", "[I", true)
  | 1 => ("TextMorph$Motion", "heldFrames", "[I", true)
  | 2 => ("TextMorph$Motion", "arrivals", "[I", true)
  | 3 => ("TextMorph$Motion", "frames", "I", false)
  | 4 => ("TextMorph$Motion", "heldInAll", "I", false)
  | 5 => ("TextMorph$Motion", "state", "LTextMorph$State;", true)
  | 6 => ("TextMorph$Motion", "pairs", "LTextMorph$Pairs;", true)
  | 7 => ("TextMorph$Motion", "cells", "[I", true)
  | 8 => ("TextMorph$Motion", "heldLately", "[I", true)
  | 9 => ("TextMorph$Motion", "piecesIn", "[I", true)
  | 10 => ("TextMorph$Motion", "heldPieces", "[I", true)
  | 11 => ("TextMorph$Motion", "track", "[I", true)
  | _ => ("TextMorph$Motion", "away", "I", false)
def tyX2 : Nat → FieldType := fun k => match k with
  | 0 => .array .int
  | 1 => .array .int
  | 2 => .array .int
  | 3 => .int
  | 4 => .int
  | 5 => .object "TextMorph$State"
  | 6 => .object "TextMorph$Pairs"
  | 7 => .array .int
  | 8 => .array .int
  | 9 => .array .int
  | 10 => .array .int
  | 11 => .array .int
  | _ => .int
abbrev wsX20 : List Cond := u_ws RX2 TX2 13
theorem nmX2 : ∀ a, a < 13 → ∀ b, b < 13 → a ≠ b → (TX2 a).2.1 ≠ (TX2 b).2.1 := by decide +kernel
theorem tyX2_ok : ∀ k, k < 13 → parseFieldDescriptor (TX2 k).2.2.1 = some (tyX2 k) := by decide +kernel
abbrev cX2_init : ByteArray := prog_4_method_1_code
def yX2_init : MethodName := ⟨RX2, "<init>", "(LTextMorph$State;LTextMorph$Pairs;)V"⟩
abbrev cX2_work : ByteArray := prog_4_method_2_code
def yX2_work : MethodName := ⟨RX2, "work", "()V"⟩
abbrev cX2_cellAfter : ByteArray := prog_4_method_3_code
def yX2_cellAfter : MethodName := ⟨RX2, "cellAfter", "(II)I"⟩
abbrev cX2_isAtGoalAfter : ByteArray := prog_4_method_4_code
def yX2_isAtGoalAfter : MethodName := ⟨RX2, "isAtGoalAfter", "(II)Z"⟩
abbrev cX2_heldIn : ByteArray := prog_4_method_5_code
def yX2_heldIn : MethodName := ⟨RX2, "heldIn", "(I)I"⟩
abbrev cX2_start : ByteArray := prog_4_method_6_code
def yX2_start : MethodName := ⟨RX2, "start", "()V"⟩
abbrev cX2_record : ByteArray := prog_4_method_7_code
def yX2_record : MethodName := ⟨RX2, "record", "(I)V"⟩
abbrev cX2_movePieces : ByteArray := prog_4_method_8_code
def yX2_movePieces : MethodName := ⟨RX2, "movePieces", "(I)V"⟩
abbrev cX2_moveOrHold : ByteArray := prog_4_method_9_code
def yX2_moveOrHold : MethodName := ⟨RX2, "moveOrHold", "(II)V"⟩
abbrev cX2_nextCell : ByteArray := prog_4_method_10_code
def yX2_nextCell : MethodName := ⟨RX2, "nextCell", "(II)I"⟩
abbrev cX2_goesAlongRow : ByteArray := prog_4_method_11_code
def yX2_goesAlongRow : MethodName := ⟨RX2, "goesAlongRow", "(II)Z"⟩
def RX3 : String := "TextMorph$Pairs"
def TX3 : u_T := fun k => match k with
  | 0 => ("TextMorph$Pairs", "partnerOfFirst", "[I", true)
  | 1 => ("TextMorph$Pairs", "partnerOfSecond", "[I", true)
  | 2 => ("TextMorph$Pairs", "kindOfFirst", "[I", true)
  | 3 => ("TextMorph$Pairs", "kindOfSecond", "[I", true)
  | 4 => ("TextMorph$Pairs", "ofKind", "[I", true)
  | 5 => ("TextMorph$Pairs", "state", "LTextMorph$State;", true)
  | _ => ("TextMorph$Pairs", "longest", "[I", true)
def tyX3 : Nat → FieldType := fun k => match k with
  | 0 => .array .int
  | 1 => .array .int
  | 2 => .array .int
  | 3 => .array .int
  | 4 => .array .int
  | 5 => .object "TextMorph$State"
  | _ => .array .int
abbrev wsX30 : List Cond := u_ws RX3 TX3 7
theorem nmX3 : ∀ a, a < 7 → ∀ b, b < 7 → a ≠ b → (TX3 a).2.1 ≠ (TX3 b).2.1 := by decide +kernel
theorem tyX3_ok : ∀ k, k < 7 → parseFieldDescriptor (TX3 k).2.2.1 = some (tyX3 k) := by decide +kernel
abbrev cX3_init : ByteArray := prog_5_method_1_code
def yX3_init : MethodName := ⟨RX3, "<init>", "(LTextMorph$State;)V"⟩
abbrev cX3_work : ByteArray := prog_5_method_2_code
def yX3_work : MethodName := ⟨RX3, "work", "()V"⟩
abbrev cX3_distance : ByteArray := prog_5_method_3_code
def yX3_distance : MethodName := ⟨RX3, "distance", "(II)I"⟩
abbrev cX3_unpairAll : ByteArray := prog_5_method_4_code
def yX3_unpairAll : MethodName := ⟨RX3, "unpairAll", "()V"⟩
abbrev cX3_pair : ByteArray := prog_5_method_5_code
def yX3_pair : MethodName := ⟨RX3, "pair", "(III)V"⟩
abbrev cX3_pairCommon : ByteArray := prog_5_method_6_code
def yX3_pairCommon : MethodName := ⟨RX3, "pairCommon", "()V"⟩
abbrev cX3_measureLongest : ByteArray := prog_5_method_7_code
def yX3_measureLongest : MethodName := ⟨RX3, "measureLongest", "()V"⟩
abbrev cX3_partnerThatLeaves : ByteArray := prog_5_method_8_code
def yX3_partnerThatLeaves : MethodName := ⟨RX3, "partnerThatLeaves", "(III)I"⟩
abbrev cX3_pairNearest : ByteArray := prog_5_method_9_code
def yX3_pairNearest : MethodName := ⟨RX3, "pairNearest", "(II)Z"⟩
abbrev cX3_mayBePaired : ByteArray := prog_5_method_10_code
def yX3_mayBePaired : MethodName := ⟨RX3, "mayBePaired", "(III)Z"⟩
def RX4 : String := "TextMorph$State"
def TX4 : u_T := fun k => match k with
  | 0 => ("TextMorph$State", "settings", "[I", true)
  | 1 => ("TextMorph$State", "first", "LTextMorph$Text;", false)
  | _ => ("TextMorph$State", "second", "LTextMorph$Text;", false)
def tyX4 : Nat → FieldType := fun k => match k with
  | 0 => .array .int
  | 1 => .object "TextMorph$Text"
  | _ => .object "TextMorph$Text"
abbrev wsX40 : List Cond := u_ws RX4 TX4 3
theorem nmX4 : ∀ a, a < 3 → ∀ b, b < 3 → a ≠ b → (TX4 a).2.1 ≠ (TX4 b).2.1 := by decide +kernel
theorem tyX4_ok : ∀ k, k < 3 → parseFieldDescriptor (TX4 k).2.2.1 = some (tyX4 k) := by decide +kernel
abbrev cX4_init : ByteArray := prog_6_method_1_code
def yX4_init : MethodName := ⟨RX4, "<init>", "()V"⟩
abbrev cX4_text : ByteArray := prog_6_method_2_code
def yX4_text : MethodName := ⟨RX4, "text", "(I)LTextMorph$Text;"⟩
abbrev cX4_clear : ByteArray := prog_6_method_3_code
def yX4_clear : MethodName := ⟨RX4, "clear", "()V"⟩
abbrev cX4_copyFrom : ByteArray := prog_6_method_4_code
def yX4_copyFrom : MethodName := ⟨RX4, "copyFrom", "(LTextMorph$State;)V"⟩
abbrev cX4_exchangeTexts : ByteArray := prog_6_method_5_code
def yX4_exchangeTexts : MethodName := ⟨RX4, "exchangeTexts", "()V"⟩
def RX5 : String := "TextMorph$Text"
def TX5 : u_T := fun k => match k with
  | 0 => ("TextMorph$Text", "codes", "[I", true)
  | 1 => ("TextMorph$Text", "cells", "[I", true)
  | _ => ("TextMorph$Text", "letters", "I", false)
def tyX5 : Nat → FieldType := fun k => match k with
  | 0 => .array .int
  | 1 => .array .int
  | _ => .int
abbrev wsX50 : List Cond := u_ws RX5 TX5 3
theorem nmX5 : ∀ a, a < 3 → ∀ b, b < 3 → a ≠ b → (TX5 a).2.1 ≠ (TX5 b).2.1 := by decide +kernel
theorem tyX5_ok : ∀ k, k < 3 → parseFieldDescriptor (TX5 k).2.2.1 = some (tyX5 k) := by decide +kernel
abbrev cX5_init : ByteArray := prog_7_method_1_code
def yX5_init : MethodName := ⟨RX5, "<init>", "()V"⟩
abbrev cX5_clear : ByteArray := prog_7_method_2_code
def yX5_clear : MethodName := ⟨RX5, "clear", "()V"⟩
abbrev cX5_takeCodes : ByteArray := prog_7_method_3_code
def yX5_takeCodes : MethodName := ⟨RX5, "takeCodes", "([I)V"⟩
abbrev cX5_copyFrom : ByteArray := prog_7_method_4_code
def yX5_copyFrom : MethodName := ⟨RX5, "copyFrom", "(LTextMorph$Text;)V"⟩
abbrev cX5_write : ByteArray := prog_7_method_5_code
def yX5_write : MethodName := ⟨RX5, "write", "(II)V"⟩
abbrev cX5_rowOf : ByteArray := prog_7_method_6_code
def yX5_rowOf : MethodName := ⟨RX5, "rowOf", "(I)I"⟩
abbrev cX5_columnOf : ByteArray := prog_7_method_7_code
def yX5_columnOf : MethodName := ⟨RX5, "columnOf", "(I)I"⟩
abbrev cX5_codeOf : ByteArray := prog_7_method_8_code
def yX5_codeOf : MethodName := ⟨RX5, "codeOf", "(I)I"⟩
abbrev cX5_numberLetters : ByteArray := prog_7_method_9_code
def yX5_numberLetters : MethodName := ⟨RX5, "numberLetters", "()V"⟩
def RX6 : String := "TextMorph"
def TX6 : u_T := fun k => match k with
  | 0 => ("TextMorph", "state", "LTextMorph$State;", true)
  | 1 => ("TextMorph", "morph", "LTextMorph$Morph;", true)
  | 2 => ("TextMorph", "tried", "LTextMorph$State;", true)
  | 3 => ("TextMorph", "trial", "LTextMorph$Morph;", true)
  | 4 => ("TextMorph", "saved", "[LTextMorph$State;", true)
  | 5 => ("TextMorph", "buffer", "LTextMorph$Buffer;", true)
  | 6 => ("TextMorph", "savedStates", "I", false)
  | _ => ("TextMorph", "stale", "Z", false)
def tyX6 : Nat → FieldType := fun k => match k with
  | 0 => .object "TextMorph$State"
  | 1 => .object "TextMorph$Morph"
  | 2 => .object "TextMorph$State"
  | 3 => .object "TextMorph$Morph"
  | 4 => .array (.object "TextMorph$State")
  | 5 => .object "TextMorph$Buffer"
  | 6 => .int
  | _ => .boolean
abbrev wsX60 : List Cond := u_ws RX6 TX6 8
theorem nmX6 : ∀ a, a < 8 → ∀ b, b < 8 → a ≠ b → (TX6 a).2.1 ≠ (TX6 b).2.1 := by decide +kernel
theorem tyX6_ok : ∀ k, k < 8 → parseFieldDescriptor (TX6 k).2.2.1 = some (tyX6 k) := by decide +kernel
abbrev cX6_init : ByteArray := prog_1_method_1_code
def yX6_init : MethodName := ⟨RX6, "<init>", "()V"⟩
abbrev cX6_begin : ByteArray := prog_1_method_2_code
def yX6_begin : MethodName := ⟨RX6, "begin", "()I"⟩
abbrev cX6_set : ByteArray := prog_1_method_3_code
def yX6_set : MethodName := ⟨RX6, "set", "(II)I"⟩
abbrev cX6_load : ByteArray := prog_1_method_4_code
def yX6_load : MethodName := ⟨RX6, "load", "(I)I"⟩
abbrev cX6_put : ByteArray := prog_1_method_5_code
def yX6_put : MethodName := ⟨RX6, "put", "(IIII)I"⟩
abbrev cX6_swap : ByteArray := prog_1_method_6_code
def yX6_swap : MethodName := ⟨RX6, "swap", "()I"⟩
abbrev cX6_undo : ByteArray := prog_1_method_7_code
def yX6_undo : MethodName := ⟨RX6, "undo", "()I"⟩
abbrev cX6_append : ByteArray := prog_1_method_8_code
def yX6_append : MethodName := ⟨RX6, "append", "(I)I"⟩
abbrev cX6_clearBuffer : ByteArray := prog_1_method_9_code
def yX6_clearBuffer : MethodName := ⟨RX6, "clearBuffer", "()I"⟩
abbrev cX6_firstError : ByteArray := prog_1_method_10_code
def yX6_firstError : MethodName := ⟨RX6, "firstError", "()I"⟩
abbrev cX6_letter : ByteArray := prog_1_method_11_code
def yX6_letter : MethodName := ⟨RX6, "letter", "(III)I"⟩
abbrev cX6_way : ByteArray := prog_1_method_12_code
def yX6_way : MethodName := ⟨RX6, "way", "(II)I"⟩
abbrev cX6_at : ByteArray := prog_1_method_13_code
def yX6_at : MethodName := ⟨RX6, "at", "(III)I"⟩
abbrev cX6_place : ByteArray := prog_1_method_14_code
def yX6_place : MethodName := ⟨RX6, "place", "(II)I"⟩
abbrev cX6_frame : ByteArray := prog_1_method_15_code
def yX6_frame : MethodName := ⟨RX6, "frame", "(II)I"⟩
abbrev cX6_count : ByteArray := prog_1_method_16_code
def yX6_count : MethodName := ⟨RX6, "count", "(I)I"⟩
abbrev cX6_setting : ByteArray := prog_1_method_17_code
def yX6_setting : MethodName := ⟨RX6, "setting", "(I)I"⟩
abbrev cX6_ifSet : ByteArray := prog_1_method_18_code
def yX6_ifSet : MethodName := ⟨RX6, "ifSet", "(III)I"⟩
abbrev cX6_best : ByteArray := prog_1_method_19_code
def yX6_best : MethodName := ⟨RX6, "best", "()I"⟩
abbrev cX6_likeness : ByteArray := prog_1_method_20_code
def yX6_likeness : MethodName := ⟨RX6, "likeness", "()D"⟩
abbrev cX6_digest : ByteArray := prog_1_method_21_code
def yX6_digest : MethodName := ⟨RX6, "digest", "()J"⟩
abbrev cX6_mixNumbers : ByteArray := prog_1_method_22_code
def yX6_mixNumbers : MethodName := ⟨RX6, "mixNumbers", "(J)J"⟩
abbrev cX6_mixLetters : ByteArray := prog_1_method_23_code
def yX6_mixLetters : MethodName := ⟨RX6, "mixLetters", "(J)J"⟩
abbrev cX6_mixFrames : ByteArray := prog_1_method_24_code
def yX6_mixFrames : MethodName := ⟨RX6, "mixFrames", "(J)J"⟩
abbrev cX6_mix : ByteArray := prog_1_method_25_code
def yX6_mix : MethodName := ⟨RX6, "mix", "(JJ)J"⟩
abbrev cX6_bits : ByteArray := prog_1_method_26_code
def yX6_bits : MethodName := ⟨RX6, "bits", "(D)J"⟩
abbrev cX6_save : ByteArray := prog_1_method_27_code
def yX6_save : MethodName := ⟨RX6, "save", "()V"⟩
abbrev cX6_refresh : ByteArray := prog_1_method_28_code
def yX6_refresh : MethodName := ⟨RX6, "refresh", "()V"⟩
abbrev cX6_isFrame : ByteArray := prog_1_method_29_code
def yX6_isFrame : MethodName := ⟨RX6, "isFrame", "(I)Z"⟩
abbrev cX6_isPiece : ByteArray := prog_1_method_30_code
def yX6_isPiece : MethodName := ⟨RX6, "isPiece", "(I)Z"⟩
abbrev cX6_isText : ByteArray := prog_1_method_31_code
def yX6_isText : MethodName := ⟨RX6, "isText", "(I)Z"⟩
abbrev cX6_isCell : ByteArray := prog_1_method_32_code
def yX6_isCell : MethodName := ⟨RX6, "isCell", "(II)Z"⟩
abbrev cX6_isLetter : ByteArray := prog_1_method_33_code
def yX6_isLetter : MethodName := ⟨RX6, "isLetter", "(I)Z"⟩
abbrev cX6_isSetting : ByteArray := prog_1_method_34_code
def yX6_isSetting : MethodName := ⟨RX6, "isSetting", "(I)Z"⟩
abbrev cX6_isValue : ByteArray := prog_1_method_35_code
def yX6_isValue : MethodName := ⟨RX6, "isValue", "(II)Z"⟩
def RX7 : String := "TextMorphModel"
def TX7 : u_T := fun k => match k with
  | 0 => ("TextMorphModel", "thrown", "I", false)
  | 1 => ("TextMorphModel", "z", "[I", true)
  | 2 => ("TextMorphModel", "saves", "I", false)
  | 3 => ("TextMorphModel", "saved", "[I", true)
  | 4 => ("TextMorphModel", "length", "I", false)
  | 5 => ("TextMorphModel", "text", "[I", true)
  | 6 => ("TextMorphModel", "many", "[I", true)
  | 7 => ("TextMorphModel", "cellOf", "[I", true)
  | 8 => ("TextMorphModel", "codeOf", "[I", true)
  | 9 => ("TextMorphModel", "partner", "[I", true)
  | 10 => ("TextMorphModel", "kindOf", "[I", true)
  | 11 => ("TextMorphModel", "longest", "[I", true)
  | 12 => ("TextMorphModel", "moving", "I", false)
  | 13 => ("TextMorphModel", "spot", "[I", true)
  | 14 => ("TextMorphModel", "heldIn", "[I", true)
  | 15 => ("TextMorphModel", "heldSum", "[I", true)
  | 16 => ("TextMorphModel", "heldNow", "[I", true)
  | 17 => ("TextMorphModel", "cell", "[I", true)
  | 18 => ("TextMorphModel", "arrives", "[I", true)
  | 19 => ("TextMorphModel", "read", "[I", true)
  | _ => ("TextMorphModel", "h", "J", false)
def tyX7 : Nat → FieldType := fun k => match k with
  | 0 => .int
  | 1 => .array .int
  | 2 => .int
  | 3 => .array .int
  | 4 => .int
  | 5 => .array .int
  | 6 => .array .int
  | 7 => .array .int
  | 8 => .array .int
  | 9 => .array .int
  | 10 => .array .int
  | 11 => .array .int
  | 12 => .int
  | 13 => .array .int
  | 14 => .array .int
  | 15 => .array .int
  | 16 => .array .int
  | 17 => .array .int
  | 18 => .array .int
  | 19 => .array .int
  | _ => .long
abbrev wsX70 : List Cond := u_ws RX7 TX7 21
theorem nmX7 : ∀ a, a < 21 → ∀ b, b < 21 → a ≠ b → (TX7 a).2.1 ≠ (TX7 b).2.1 := by decide +kernel
theorem tyX7_ok : ∀ k, k < 21 → parseFieldDescriptor (TX7 k).2.2.1 = some (tyX7 k) := by decide +kernel
abbrev cX7_init : ByteArray := prog_9_method_1_code
def yX7_init : MethodName := ⟨RX7, "<init>", "()V"⟩
abbrev cX7_thrown : ByteArray := prog_9_method_2_code
def yX7_thrown : MethodName := ⟨RX7, "thrown", "()I"⟩
abbrev cX7_within : ByteArray := prog_9_method_3_code
def yX7_within : MethodName := ⟨RX7, "within", "(III)Z"⟩
abbrev cX7_fresh : ByteArray := prog_9_method_4_code
def yX7_fresh : MethodName := ⟨RX7, "fresh", "()V"⟩
abbrev cX7_of : ByteArray := prog_9_method_5_code
def yX7_of : MethodName := ⟨RX7, "of", "(I)I"⟩
abbrev cX7_isLetter : ByteArray := prog_9_method_6_code
def yX7_isLetter : MethodName := ⟨RX7, "isLetter", "(I)Z"⟩
abbrev cX7_lettersOf : ByteArray := prog_9_method_7_code
def yX7_lettersOf : MethodName := ⟨RX7, "lettersOf", "(I)I"⟩
abbrev cX7_layLetters : ByteArray := prog_9_method_8_code
def yX7_layLetters : MethodName := ⟨RX7, "layLetters", "()V"⟩
abbrev cX7_pair : ByteArray := prog_9_method_9_code
def yX7_pair : MethodName := ⟨RX7, "pair", "(III)V"⟩
abbrev cX7_size : ByteArray := prog_9_method_10_code
def yX7_size : MethodName := ⟨RX7, "size", "(I)I"⟩
abbrev cX7_distance : ByteArray := prog_9_method_11_code
def yX7_distance : MethodName := ⟨RX7, "distance", "(II)I"⟩
abbrev cX7_areEqual : ByteArray := prog_9_method_12_code
def yX7_areEqual : MethodName := ⟨RX7, "areEqual", "(II)Z"⟩
abbrev cX7_layCommon : ByteArray := prog_9_method_13_code
def yX7_layCommon : MethodName := ⟨RX7, "layCommon", "()V"⟩
abbrev cX7_canPair : ByteArray := prog_9_method_14_code
def yX7_canPair : MethodName := ⟨RX7, "canPair", "(III)Z"⟩
abbrev cX7_layNearest : ByteArray := prog_9_method_15_code
def yX7_layNearest : MethodName := ⟨RX7, "layNearest", "(I)V"⟩
abbrev cX7_ofKind : ByteArray := prog_9_method_16_code
def yX7_ofKind : MethodName := ⟨RX7, "ofKind", "(II)I"⟩
abbrev cX7_isGoing : ByteArray := prog_9_method_17_code
def yX7_isGoing : MethodName := ⟨RX7, "isGoing", "(I)Z"⟩
abbrev cX7_goal : ByteArray := prog_9_method_18_code
def yX7_goal : MethodName := ⟨RX7, "goal", "(I)I"⟩
abbrev cX7_anyGoes : ByteArray := prog_9_method_19_code
def yX7_anyGoes : MethodName := ⟨RX7, "anyGoes", "()Z"⟩
abbrev cX7_nextOf : ByteArray := prog_9_method_20_code
def yX7_nextOf : MethodName := ⟨RX7, "nextOf", "(I)I"⟩
abbrev cX7_isTaken : ByteArray := prog_9_method_21_code
def yX7_isTaken : MethodName := ⟨RX7, "isTaken", "(II)Z"⟩
abbrev cX7_firstMoving : ByteArray := prog_9_method_22_code
def yX7_firstMoving : MethodName := ⟨RX7, "firstMoving", "()I"⟩
abbrev cX7_layFrame : ByteArray := prog_9_method_23_code
def yX7_layFrame : MethodName := ⟨RX7, "layFrame", "()V"⟩
abbrev cX7_layFrames : ByteArray := prog_9_method_24_code
def yX7_layFrames : MethodName := ⟨RX7, "layFrames", "()V"⟩
abbrev cX7_lay : ByteArray := prog_9_method_25_code
def yX7_lay : MethodName := ⟨RX7, "lay", "()V"⟩
abbrev cX7_frames : ByteArray := prog_9_method_26_code
def yX7_frames : MethodName := ⟨RX7, "frames", "()I"⟩
abbrev cX7_goneAt : ByteArray := prog_9_method_27_code
def yX7_goneAt : MethodName := ⟨RX7, "goneAt", "(I)I"⟩
abbrev cX7_placeIn : ByteArray := prog_9_method_28_code
def yX7_placeIn : MethodName := ⟨RX7, "placeIn", "(II)I"⟩
abbrev cX7_shownOf : ByteArray := prog_9_method_29_code
def yX7_shownOf : MethodName := ⟨RX7, "shownOf", "(II)I"⟩
abbrev cX7_shown : ByteArray := prog_9_method_30_code
def yX7_shown : MethodName := ⟨RX7, "shown", "(II)I"⟩
abbrev cX7_save : ByteArray := prog_9_method_31_code
def yX7_save : MethodName := ⟨RX7, "save", "()V"⟩
abbrev cX7_undo : ByteArray := prog_9_method_32_code
def yX7_undo : MethodName := ⟨RX7, "undo", "()I"⟩
abbrev cX7_begin : ByteArray := prog_9_method_33_code
def yX7_begin : MethodName := ⟨RX7, "begin", "()I"⟩
abbrev cX7_isValue : ByteArray := prog_9_method_34_code
def yX7_isValue : MethodName := ⟨RX7, "isValue", "(II)Z"⟩
abbrev cX7_isSetting : ByteArray := prog_9_method_35_code
def yX7_isSetting : MethodName := ⟨RX7, "isSetting", "(I)Z"⟩
abbrev cX7_replaced : ByteArray := prog_9_method_36_code
def yX7_replaced : MethodName := ⟨RX7, "replaced", "(II)I"⟩
abbrev cX7_set : ByteArray := prog_9_method_37_code
def yX7_set : MethodName := ⟨RX7, "set", "(II)I"⟩
abbrev cX7_isText : ByteArray := prog_9_method_38_code
def yX7_isText : MethodName := ⟨RX7, "isText", "(I)Z"⟩
abbrev cX7_isCell : ByteArray := prog_9_method_39_code
def yX7_isCell : MethodName := ⟨RX7, "isCell", "(II)Z"⟩
abbrev cX7_put : ByteArray := prog_9_method_40_code
def yX7_put : MethodName := ⟨RX7, "put", "(IIII)I"⟩
abbrev cX7_swap : ByteArray := prog_9_method_41_code
def yX7_swap : MethodName := ⟨RX7, "swap", "()I"⟩
abbrev cX7_append : ByteArray := prog_9_method_42_code
def yX7_append : MethodName := ⟨RX7, "append", "(I)I"⟩
abbrev cX7_clearBuffer : ByteArray := prog_9_method_43_code
def yX7_clearBuffer : MethodName := ⟨RX7, "clearBuffer", "()I"⟩
abbrev cX7_readText : ByteArray := prog_9_method_44_code
def yX7_readText : MethodName := ⟨RX7, "readText", "()I"⟩
abbrev cX7_firstError : ByteArray := prog_9_method_45_code
def yX7_firstError : MethodName := ⟨RX7, "firstError", "()I"⟩
abbrev cX7_load : ByteArray := prog_9_method_46_code
def yX7_load : MethodName := ⟨RX7, "load", "(I)I"⟩
abbrev cX7_letterNow : ByteArray := prog_9_method_47_code
def yX7_letterNow : MethodName := ⟨RX7, "letterNow", "(III)I"⟩
abbrev cX7_letter : ByteArray := prog_9_method_48_code
def yX7_letter : MethodName := ⟨RX7, "letter", "(III)I"⟩
abbrev cX7_steps : ByteArray := prog_9_method_49_code
def yX7_steps : MethodName := ⟨RX7, "steps", "(I)I"⟩
abbrev cX7_wayNow : ByteArray := prog_9_method_50_code
def yX7_wayNow : MethodName := ⟨RX7, "wayNow", "(II)I"⟩
abbrev cX7_way : ByteArray := prog_9_method_51_code
def yX7_way : MethodName := ⟨RX7, "way", "(II)I"⟩
abbrev cX7_isFrame : ByteArray := prog_9_method_52_code
def yX7_isFrame : MethodName := ⟨RX7, "isFrame", "(I)Z"⟩
abbrev cX7_at : ByteArray := prog_9_method_53_code
def yX7_at : MethodName := ⟨RX7, "at", "(III)I"⟩
abbrev cX7_place : ByteArray := prog_9_method_54_code
def yX7_place : MethodName := ⟨RX7, "place", "(II)I"⟩
abbrev cX7_piecesIn : ByteArray := prog_9_method_55_code
def yX7_piecesIn : MethodName := ⟨RX7, "piecesIn", "(II)I"⟩
abbrev cX7_frameNow : ByteArray := prog_9_method_56_code
def yX7_frameNow : MethodName := ⟨RX7, "frameNow", "(II)I"⟩
abbrev cX7_frame : ByteArray := prog_9_method_57_code
def yX7_frame : MethodName := ⟨RX7, "frame", "(II)I"⟩
abbrev cX7_sumOf : ByteArray := prog_9_method_58_code
def yX7_sumOf : MethodName := ⟨RX7, "sumOf", "(I)I"⟩
abbrev cX7_counted : ByteArray := prog_9_method_59_code
def yX7_counted : MethodName := ⟨RX7, "counted", "(I)I"⟩
abbrev cX7_count : ByteArray := prog_9_method_60_code
def yX7_count : MethodName := ⟨RX7, "count", "(I)I"⟩
abbrev cX7_setting : ByteArray := prog_9_method_61_code
def yX7_setting : MethodName := ⟨RX7, "setting", "(I)I"⟩
abbrev cX7_ifNow : ByteArray := prog_9_method_62_code
def yX7_ifNow : MethodName := ⟨RX7, "ifNow", "(III)I"⟩
abbrev cX7_ifSet : ByteArray := prog_9_method_63_code
def yX7_ifSet : MethodName := ⟨RX7, "ifSet", "(III)I"⟩
abbrev cX7_bestNow : ByteArray := prog_9_method_64_code
def yX7_bestNow : MethodName := ⟨RX7, "bestNow", "()I"⟩
abbrev cX7_best : ByteArray := prog_9_method_65_code
def yX7_best : MethodName := ⟨RX7, "best", "()I"⟩
abbrev cX7_likenessNow : ByteArray := prog_9_method_66_code
def yX7_likenessNow : MethodName := ⟨RX7, "likenessNow", "()D"⟩
abbrev cX7_likeness : ByteArray := prog_9_method_67_code
def yX7_likeness : MethodName := ⟨RX7, "likeness", "()D"⟩
abbrev cX7_mix : ByteArray := prog_9_method_68_code
def yX7_mix : MethodName := ⟨RX7, "mix", "(J)V"⟩
abbrev cX7_mixFrames : ByteArray := prog_9_method_69_code
def yX7_mixFrames : MethodName := ⟨RX7, "mixFrames", "()V"⟩
abbrev cX7_digest : ByteArray := prog_9_method_70_code
def yX7_digest : MethodName := ⟨RX7, "digest", "()J"⟩
def RJx145de : String := "java/io/Serializable"
def TJx145de : u_T := fun k => match k with
  | _ => ("", "", "", false)
def tyJx145de : Nat → FieldType := fun k => match k with
  | _ => .int
abbrev wsJx145de0 : List Cond := u_ws RJx145de TJx145de 0
theorem nmJx145de : ∀ a, a < 0 → ∀ b, b < 0 → a ≠ b → (TJx145de a).2.1 ≠ (TJx145de b).2.1 := by decide +kernel
theorem tyJx145de_ok : ∀ k, k < 0 → parseFieldDescriptor (TJx145de k).2.2.1 = some (tyJx145de k) := by decide +kernel
def RJxb160c : String := "java/lang/Comparable"
def TJxb160c : u_T := fun k => match k with
  | _ => ("", "", "", false)
def tyJxb160c : Nat → FieldType := fun k => match k with
  | _ => .int
abbrev wsJxb160c0 : List Cond := u_ws RJxb160c TJxb160c 0
theorem nmJxb160c : ∀ a, a < 0 → ∀ b, b < 0 → a ≠ b → (TJxb160c a).2.1 ≠ (TJxb160c b).2.1 := by decide +kernel
theorem tyJxb160c_ok : ∀ k, k < 0 → parseFieldDescriptor (TJxb160c k).2.2.1 = some (tyJxb160c k) := by decide +kernel
def RJxe99ae : String := "java/lang/Double"
def TJxe99ae : u_T := fun k => match k with
  | _ => ("", "", "", false)
def tyJxe99ae : Nat → FieldType := fun k => match k with
  | _ => .int
abbrev wsJxe99ae0 : List Cond := u_ws RJxe99ae TJxe99ae 0
theorem nmJxe99ae : ∀ a, a < 0 → ∀ b, b < 0 → a ≠ b → (TJxe99ae a).2.1 ≠ (TJxe99ae b).2.1 := by decide +kernel
theorem tyJxe99ae_ok : ∀ k, k < 0 → parseFieldDescriptor (TJxe99ae k).2.2.1 = some (tyJxe99ae k) := by decide +kernel
abbrev cJxe99ae_isNaN_b9ae7 : ByteArray := prog_10_method_6_code
def yJxe99ae_isNaN_b9ae7 : MethodName := ⟨RJxe99ae, "isNaN", "(D)Z"⟩
abbrev cJxe99ae_doubleToLongBits_ccdee : ByteArray := prog_10_method_23_code
def yJxe99ae_doubleToLongBits_ccdee : MethodName := ⟨RJxe99ae, "doubleToLongBits", "(D)J"⟩
def RJ9 : String := "java/lang/Math"
def TJ9 : u_T := fun k => match k with
  | _ => ("", "", "", false)
def tyJ9 : Nat → FieldType := fun k => match k with
  | _ => .int
abbrev wsJ90 : List Cond := u_ws RJ9 TJ9 0
theorem nmJ9 : ∀ a, a < 0 → ∀ b, b < 0 → a ≠ b → (TJ9 a).2.1 ≠ (TJ9 b).2.1 := by decide +kernel
theorem tyJ9_ok : ∀ k, k < 0 → parseFieldDescriptor (TJ9 k).2.2.1 = some (tyJ9 k) := by decide +kernel
abbrev cJ9_abs_0f7a4 : ByteArray := prog_15_method_59_code
def yJ9_abs_0f7a4 : MethodName := ⟨RJ9, "abs", "(I)I"⟩
abbrev cJ9_max_7cf53 : ByteArray := prog_15_method_65_code
def yJ9_max_7cf53 : MethodName := ⟨RJ9, "max", "(II)I"⟩
abbrev cJ9_min_7cf53 : ByteArray := prog_15_method_69_code
def yJ9_min_7cf53 : MethodName := ⟨RJ9, "min", "(II)I"⟩
def RJxd2413 : String := "java/lang/Number"
def TJxd2413 : u_T := fun k => match k with
  | _ => ("", "", "", false)
def tyJxd2413 : Nat → FieldType := fun k => match k with
  | _ => .int
abbrev wsJxd24130 : List Cond := u_ws RJxd2413 TJxd2413 0
theorem nmJxd2413 : ∀ a, a < 0 → ∀ b, b < 0 → a ≠ b → (TJxd2413 a).2.1 ≠ (TJxd2413 b).2.1 := by decide +kernel
theorem tyJxd2413_ok : ∀ k, k < 0 → parseFieldDescriptor (TJxd2413 k).2.2.1 = some (tyJxd2413 k) := by decide +kernel
def RJ0 : String := "java/lang/String"
def TJ0 : u_T := fun k => match k with
  | _ => ("", "", "", false)
def tyJ0 : Nat → FieldType := fun k => match k with
  | _ => .int
abbrev wsJ00 : List Cond := u_ws RJ0 TJ0 0
theorem nmJ0 : ∀ a, a < 0 → ∀ b, b < 0 → a ≠ b → (TJ0 a).2.1 ≠ (TJ0 b).2.1 := by decide +kernel
theorem tyJ0_ok : ∀ k, k < 0 → parseFieldDescriptor (TJ0 k).2.2.1 = some (tyJ0 k) := by decide +kernel
def RJ10 : String := "java/lang/System"
def TJ10 : u_T := fun k => match k with
  | _ => ("", "", "", false)
def tyJ10 : Nat → FieldType := fun k => match k with
  | _ => .int
abbrev wsJ100 : List Cond := u_ws RJ10 TJ10 0
theorem nmJ10 : ∀ a, a < 0 → ∀ b, b < 0 → a ≠ b → (TJ10 a).2.1 ≠ (TJ10 b).2.1 := by decide +kernel
theorem tyJ10_ok : ∀ k, k < 0 → parseFieldDescriptor (TJ10 k).2.2.1 = some (tyJ10 k) := by decide +kernel
def RJxfd54e : String := "java/lang/constant/Constable"
def TJxfd54e : u_T := fun k => match k with
  | _ => ("", "", "", false)
def tyJxfd54e : Nat → FieldType := fun k => match k with
  | _ => .int
abbrev wsJxfd54e0 : List Cond := u_ws RJxfd54e TJxfd54e 0
theorem nmJxfd54e : ∀ a, a < 0 → ∀ b, b < 0 → a ≠ b → (TJxfd54e a).2.1 ≠ (TJxfd54e b).2.1 := by decide +kernel
theorem tyJxfd54e_ok : ∀ k, k < 0 → parseFieldDescriptor (TJxfd54e k).2.2.1 = some (tyJxfd54e k) := by decide +kernel
def RJx3cf43 : String := "java/lang/constant/ConstantDesc"
def TJx3cf43 : u_T := fun k => match k with
  | _ => ("", "", "", false)
def tyJx3cf43 : Nat → FieldType := fun k => match k with
  | _ => .int
abbrev wsJx3cf430 : List Cond := u_ws RJx3cf43 TJx3cf43 0
theorem nmJx3cf43 : ∀ a, a < 0 → ∀ b, b < 0 → a ≠ b → (TJx3cf43 a).2.1 ≠ (TJx3cf43 b).2.1 := by decide +kernel
theorem tyJx3cf43_ok : ∀ k, k < 0 → parseFieldDescriptor (TJx3cf43 k).2.2.1 = some (tyJx3cf43 k) := by decide +kernel
def RJ7 : String := "java/util/Arrays"
def TJ7 : u_T := fun k => match k with
  | _ => ("", "", "", false)
def tyJ7 : Nat → FieldType := fun k => match k with
  | _ => .int
abbrev wsJ70 : List Cond := u_ws RJ7 TJ7 0
theorem nmJ7 : ∀ a, a < 0 → ∀ b, b < 0 → a ≠ b → (TJ7 a).2.1 ≠ (TJ7 b).2.1 := by decide +kernel
theorem tyJ7_ok : ∀ k, k < 0 → parseFieldDescriptor (TJ7 k).2.2.1 = some (tyJ7 k) := by decide +kernel
abbrev cJ7_fill_53178 : ByteArray := prog_21_method_103_code
def yJ7_fill_53178 : MethodName := ⟨RJ7, "fill", "([II)V"⟩
def RL : String := "TextMorphLaw"
abbrev cL_set : ByteArray := method_3_code
def yL_set : MethodName := ⟨RL, "set", "(LTextMorph;II[J)I"⟩
abbrev cL_load : ByteArray := method_4_code
def yL_load : MethodName := ⟨RL, "load", "(LTextMorph;I[J)I"⟩
abbrev cL_put : ByteArray := method_5_code
def yL_put : MethodName := ⟨RL, "put", "(LTextMorph;IIII[J)I"⟩
abbrev cL_undo : ByteArray := method_6_code
def yL_undo : MethodName := ⟨RL, "undo", "(LTextMorph;[J)I"⟩
abbrev cL_append : ByteArray := method_7_code
def yL_append : MethodName := ⟨RL, "append", "(LTextMorph;I[J)I"⟩
abbrev cL_letter : ByteArray := method_8_code
def yL_letter : MethodName := ⟨RL, "letter", "(LTextMorph;III[J)I"⟩
abbrev cL_way : ByteArray := method_9_code
def yL_way : MethodName := ⟨RL, "way", "(LTextMorph;II[J)I"⟩
abbrev cL_at : ByteArray := method_10_code
def yL_at : MethodName := ⟨RL, "at", "(LTextMorph;III[J)I"⟩
abbrev cL_place : ByteArray := method_11_code
def yL_place : MethodName := ⟨RL, "place", "(LTextMorph;II[J)I"⟩
abbrev cL_frame : ByteArray := method_12_code
def yL_frame : MethodName := ⟨RL, "frame", "(LTextMorph;II[J)I"⟩
abbrev cL_count : ByteArray := method_13_code
def yL_count : MethodName := ⟨RL, "count", "(LTextMorph;I[J)I"⟩
abbrev cL_setting : ByteArray := method_14_code
def yL_setting : MethodName := ⟨RL, "setting", "(LTextMorph;I[J)I"⟩
abbrev cL_ifSet : ByteArray := method_15_code
def yL_ifSet : MethodName := ⟨RL, "ifSet", "(LTextMorph;III[J)I"⟩
abbrev cL_law : ByteArray := code
def yL_law : MethodName := ⟨RL, "law", "([I)Z"⟩
abbrev vwCl : List vw_C := [(RX0, TX0, 3), (RX1, TX1, 9), (RX2, TX2, 13), (RX3, TX3, 7), (RX4, TX4, 3), (RX5, TX5, 3), (RX6, TX6, 8), (RX7, TX7, 21)]
theorem goodIn_sub {big ws : List Cond} (hm : ∀ w ∈ ws, w ∈ big) (h : ws.all goodWord = true) : GoodIn big ws := fun w hw => ⟨hm w hw, good_of_word (List.all_eq_true.mp h w hw)⟩
/-- the two links across the nest -/
def nwM : Cond := Cond.methodLinkNest "TextMorph$Buffer" (28 : Nat) ({ cls := "TextMorph", name := "isLetter", desc := "(I)Z" } : MethodName) "TextMorph"
def nwF : Cond := Cond.fieldLinkNest "TextMorph$State" (25 : Nat) "TextMorph" "VALUE_AT_FIRST" "[I" "TextMorph"
theorem nwM_in : nwM ∈ lw_tbl := List.mem_append_right _ (List.mem_of_getElem? (i := 399) (by decide +kernel))
theorem nwF_in : nwF ∈ lw_tbl := List.mem_append_right _ (List.mem_of_getElem? (i := 61) (by decide +kernel))
/-- words of exceptions that a call doesn't keep by itself, strings, casts that fail -/
def xCd (w : Cond) : Bool := match w with
  | .castable _ _ => true
  | .declares _ => true
  | _ => false
def xEx : List Cond := lw_tbl.filter xCd
def xStr : List (Nat × String) := [(71, "no such setting"), (82, "the value is out of range"), (92, "no such text"), (101, "the buffer has a syntax error"), (113, "no such text or cell"), (118, "neither a letter nor a blank"), (125, "the text would have too many letters"), (141, "no state is saved"), (146, "no such character"), (148, "the buffer is full"), (153, "no such text or letter"), (155, "no such property"), (164, "no such piece"), (173, "no such frame or cell"), (178, "no such frame or piece"), (183, "no such frame"), (188, "no such number"), (194, "the value or the number is out of range")]
def xNc : List (String × String) := [("java/lang/IllegalArgumentException", "java/lang/IndexOutOfBoundsException"), ("java/lang/IllegalStateException", "java/lang/IndexOutOfBoundsException"), ("java/lang/IllegalStateException", "java/lang/IllegalArgumentException")]
def NX (s : State) : Prop := ∀ w ∈ xEx, va_Nw w s
def XS (s : State) : Prop := ∀ z ∈ xStr, ∃ a : Nat, vk_R RX6 z.1 z.2 a s
def NC (s : State) : Prop := ∀ z ∈ xNc, va_Nc z.1 z.2 s
theorem xCd_ot {w : Cond} (h : xCd w = true) : w.onTables = true := by
  unfold xCd at h
  split at h
  · rfl
  · rfl
  · cases h
theorem xCd_warm {w : Cond} (h : xCd w = true) {s U : State} (hW : s.WarmedH U.vm) (z : va_Nw w s) : va_Nw w U := by
  have ho := xCd_ot h
  have z1 : w.before #[] s = true := va_Nw.use ho z
  have z2 : w.before #[] (s.setVm U.vm) = true := by
    unfold xCd at h
    split at h
    · rw [Cond.castable_setVm hW.alike]; exact z1
    · rw [Cond.declares_setVm hW.alike]; exact z1
    · cases h
  exact va_Nw.of (A := #[]) ho (va_tabs (A := #[]) (A' := #[]) (u := s.setVm U.vm) ho rfl z2)
def NF (s : State) : Prop := va_Nw nwM s ∧ va_Nw nwF s ∧ NX s ∧ XS s ∧ NC s ∧ va_AO RX4 s
theorem NF.same {u U : State} (h : u.vm = U.vm) (z : NF u) : NF U := ⟨va_Nw.same rfl h z.1, va_Nw.same rfl h z.2.1, fun w hw => va_Nw.same (xCd_ot (List.mem_filter.mp hw).2) h (z.2.2.1 w hw), fun q hq => by obtain ⟨a, ha⟩ := z.2.2.2.1 q hq; exact ⟨a, vk_R.same h.symm ha⟩, fun q hq => (z.2.2.2.2.1 q hq).moved (by rw [h]; exact Vm.Alike.refl _), z.2.2.2.2.2.moved (by rw [h]; exact Vm.Alike.refl _)⟩
theorem NF.warm {s U : State} (hW : s.WarmedH U.vm) (z : NF s) : NF U := ⟨va_Nw.warmM hW z.1, va_Nw.warmF hW z.2.1, fun w hw => xCd_warm (List.mem_filter.mp hw).2 hW (z.2.2.1 w hw), fun q hq => by obtain ⟨a, ha⟩ := z.2.2.2.1 q hq; exact ⟨a, vk_R.warm hW ha⟩, fun q hq => (z.2.2.2.2.1 q hq).moved hW.alike, z.2.2.2.2.2.moved hW.alike⟩
end
section
/-! ===== BEGIN exceptions that leave a method, and their catching by the caller (launches without stack traces) ===== -/
section VXA
/-! The laws vx_back, vx_callV, vx_callS, vx_callSW, vx_throw0, vx_throwS follow proofs of the library, with one case more: JvmDerived/Free/Laws.lean (Back.of_free), Shelf42/LK1.lean (callV, callS), Shelf/KitTraced.lean (throwNew0V, throwNewS). -/
/-- where a method has thrown q: the class by its name, the cell, what was written, the world -/
def vx_T (XC : String → State → State → Prop) (st : State) (q : Addr) (t : State) (mc ms : Nat) (free : Addr → Prop) : Prop :=
  ∃ (E : String) (ce : Cell) (L : List Loc), XC E st t ∧ t.heap[q]? = some ce ∧ ce.vm = .none ∧ st.vm.findClass E = some ce.cls ∧ st.WarmedH t.vm ∧ st.sameButNew ({ t with vm := st.vm } : State) L mc ms ∧ ∀ z ∈ L, free z.base
def vx_Q (Qc : Array Value → State → Outcome → State → Prop) (XC : String → State → State → Prop) (mc ms : Nat) (free : Addr → Prop) : Array Value → State → Outcome → State → Prop := fun a st o t =>
  (Qc a st o t ∧ ∃ L, FrameEnd st o t L mc ms ∧ ∀ q ∈ L, free q.base) ∨ ∃ q, o = .threw q ∧ vx_T XC st q t mc ms free
/-- a callee that returns or throws -/
def vx_Met (l : Launch) (y : MethodName) (ws : List Cond) (rm : Room) (Pc : Array Value → State → Prop) (Qc : Array Value → State → Outcome → State → Prop) (XC : String → State → State → Prop) (mc ms : Nat) (free : Addr → Prop) : Prop :=
  MetFree l y (headSpec ws rm) Pc (fun _ _ _ _ _ => True) (vx_Q Qc XC mc ms free)
def vx_Post (XC : String → State → State → Prop) (mc ms : Nat) (free : Addr → Prop) : Pt → Array Value → Addr → Pt → Prop := fun A a q B =>
  ∃ (g : JFrame) (mk : MethodId) (t : State) (L : List Loc) (E : String) (ce : Cell), B.U.heap = t.heap ∧ B.U.vm = t.vm ∧ XC E (A.U.calling g mk a) t ∧ t.heap[q]? = some ce ∧ ce.vm = .none ∧ A.U.vm.findClass E = some ce.cls ∧ B.locs = A.locs ++ L ∧ (∀ z ∈ L, free z.base) ∧ B.cells = A.cells + mc ∧ B.slots = A.slots + ms
def vx_Back (l : Launch) (R : Room) (p : Program) (e : Env) (below : List Frame) (s : State) (sargs : Array Value) (y : MethodName) (len W9 : Nat)
    (Pre : Pt → Array Value → Prop) (Post : Pt → Array Value → Option Value → Pt → Prop) (PostX : Pt → Array Value → Addr → Pt → Prop) : Prop :=
  ∀ (m : MethodId) (meth : Method) (c : Code) (A : Pt) (g : JFrame) (ig : Instr) (mk : MethodId) (a : Array Value),
    Stand p l e R s m sargs below meth c A.U A.locs A.cells A.slots → g.method = m → g.locals.size = c.maxLocals → decode c.code g.pc = .ok (ig, len) →
    2 * g.monitorRoom + (g.stack.map fun v => v.category).sum ≤ W9 → A.U.methodNamed? y = some mk → Pre A a →
    (∃ (v : Option Value) (B : Pt), Stand p l e R s m sargs below meth c B.U B.locs B.cells B.slots ∧ Post A a v B ∧
      Steps p.tables e below (doInvoke e (A.U.setTop g) [] mk a).1 (B.U.setTop { g with pc := g.pc + len, stack := v.toList ++ g.stack })) ∨
    (∃ (q : Addr) (B : Pt), Stand p l e R s m sargs below meth c B.U B.locs B.cells B.slots ∧ PostX A a q B ∧
      Steps p.tables e below (doInvoke e (A.U.setTop g) [] mk a).1 ((B.U.setTop g).pushFrame (.throwing q)))
section Payer
variable {l : Launch} {R : Room} {p : Program} {e : Env} {below : List Frame} {s : State} {sargs : Array Value} {y : MethodName} {len W9 : Nat}
theorem vx_back {ws : List Cond} {rm : Room} {Pc : Array Value → State → Prop} {Qc : Array Value → State → Outcome → State → Prop} {XC : String → State → State → Prop} {mc ms : Nat} {free : Addr → Prop} {bytes : ByteArray} {maxL : Nat} {ret : Option FieldType}
    (hM : vx_Met l y ws rm Pc Qc XC mc ms free) (hblind : FrameBlind Pc) (hrc : rm.cells = mc) (hrs : rm.slots = ms)
    (hframes : rm.frames + 1 ≤ R.frames) (hlocals : W9 + (maxL + 11) + rm.locals ≤ R.locals)
    (hws : ∀ w ∈ ws, ∀ a' U, s.WarmedH U.vm → w.before a' U = true) (hcode : Cond.code y bytes maxL ret ∈ ws) (hinit : ∀ a' U, s.WarmedH U.vm → (Cond.initialized y.cls).before a' U = true) :
    vx_Back l R p e below s sargs y len W9 (PreOf R mc ms Pc) (PostOf Qc mc ms free) (vx_Post XC mc ms free) := by
  intro m meth c A g ig mk a X hg hsize hdg hW hn hp
  have h1 : (headSpec ws rm).pre.before a A.U = true := atoms_intro fun w hw => hws w hw _ _ X.warmed
  have h2 : (Cond.code y bytes maxL ret).before a A.U = true := hws _ hcode _ _ X.warmed
  have h3 : (Cond.initialized y.cls).before a A.U = true := hinit _ _ X.warmed
  have h4 : A.cells + (headSpec ws rm).room.cells ≤ R.cells := by rw [show (headSpec ws rm).room.cells = mc from hrc]; exact hp.1
  have h5 : A.slots + (headSpec ws rm).room.slots ≤ R.slots := by rw [show (headSpec ws rm).room.slots = ms from hrs]; exact hp.2.1
  have hPc : Pc a (A.U.calling g mk a) := hblind _ _ _ _ hp.2.2
  obtain ⟨U, Ls, c0, s0⟩ := A
  dsimp only [Pt.U, Pt.locs, Pt.cells, Pt.slots] at h1 h2 h3 h4 h5 X hn hPc ⊢
  obtain ⟨methY, cY, hmY, hcY, -, hlY, -, -, -, -⟩ := Cond.code_spec hn h2
  obtain ⟨kY, hkY, -⟩ := className_of_methodNamed hn
  have hinitY : kY.init = .initialized := Cond.initialized_spec (findClass_of_methodNamed hn) hkY h3
  have h : At U g.method c below := by rw [hg]; exact X.here
  have hlocals9 : W9 + (maxL + 11) + (headSpec ws rm).room.locals ≤ R.locals := hlocals
  have happ : (headSpec ws rm).appliesLoose y e.platform (U.calling g mk a) = true :=
    Spec.appliesLoose_calling (g := g) h hdg hn hkY hinitY
      (X.room_calling (g := g) (R' := (headSpec ws rm).room) hsize hmY hcY hframes (by rw [hlY]; omega) h4 h5) h1
  obtain ⟨mid, hmid⟩ := h.above
  have hfr : (U.setTop g).frames = (.java g :: mid) ++ below := by rw [State.frames_setTop' g h.top, hmid]; rfl
  obtain ⟨o, s₂, hsteps, -, hend, hq⟩ := Steps.callFree hM p X.admits X.cas X.clock (acts := []) hfr happ hPc trivial
  have hq' : vx_Q Qc XC mc ms free a (U.calling g mk a) o s₂ := hq
  rw [State.frames_setTop' g h.top] at hend
  obtain ⟨g₀, hg0⟩ := Option.isSome_iff_exists.mp h.top
  obtain ⟨r, hr⟩ := State.topJava?_eq_some.mp hg0
  have hr' : (({ U with heap := s₂.heap, slotsUsed := s₂.slotsUsed } : State).setVm s₂.vm).frames = .java g₀ :: r := hr
  rcases hq' with ⟨hqc, L, hfe, hL⟩ | ⟨q, rfl, E, ce, L, hx, hce, hcv, hcl, hW₂, hsm, hL⟩
  · obtain ⟨⟨v, rfl⟩, hW₂, e2, q2, q3, q4, q5, q6⟩ := id hfe
    have e3 : s₂ = ({ (U.calling g mk a).setFrames s₂.frames with heap := s₂.heap, slotsUsed := s₂.slotsUsed } : State).setVm s₂.vm := by
      have : s₂ = ({ s₂ with vm := (U.calling g mk a).vm } : State).setVm s₂.vm := rfl
      rw [e2] at this
      exact this
    obtain ⟨c₂, i₂, len₂, hc₂, hd₂, hf₂⟩ := hend
    have hW' : U.WarmedH s₂.vm := hW₂
    have hcc : c₂ = c := by
      have h1 : s₂.code? g.method = U.code? g.method := by
        rw [State.code?_eq, State.code?_eq, hW'.alike.method?]
      exact Option.some.inj (hc₂.symm.trans (h1.trans h.code))
    subst hcc
    have hlen : len₂ = len := by rw [hdg] at hd₂; cases hd₂; rfl
    subst hlen
    have hs₂ : s₂ = (({ U with heap := s₂.heap, slotsUsed := s₂.slotsUsed } : State).setVm s₂.vm).setTop { g with pc := g.pc + len₂, stack := v.toList ++ g.stack } := by
      refine e3.trans ?_
      rw [hf₂, State.calling_eq h.top, State.setFrames_setFrames, State.setTop_of_frames _ hr', hr]
      rfl
    have hsame : U.sameButNew ({ U with heap := s₂.heap, slotsUsed := s₂.slotsUsed } : State) L mc ms := by
      refine ⟨?_, q2, q3, q4, q5, q6⟩
      obtain ⟨t, ht, -⟩ := State.frames_cons hr
      show ({ U with heap := s₂.heap, slotsUsed := s₂.slotsUsed } : State) = { U.setFrames U.frames with heap := s₂.heap, slotsUsed := s₂.slotsUsed }
      rw [State.setFrames_self ht]
    subst hg
    refine Or.inl ⟨v, ⟨(({ U with heap := s₂.heap, slotsUsed := s₂.slotsUsed } : State).setVm s₂.vm), Ls ++ L, c0 + mc, s0 + ms⟩,
      ⟨X.admits, X.cas, X.clock, X.frames, X.room, X.hears, X.method, X.code, (X.here.setHeapUsed s₂.heap s₂.slotsUsed).setVm hW'.alike, X.tail, State.WarmedH.trans X.warmed hW', X.limits, X.bytes, X.same.trans (hsame.setVm s.vm)⟩,
      ⟨g, mk, s₂, L, rfl, rfl, hqc, rfl, hL, rfl, rfl⟩, ?_⟩
    show Steps p.tables e below _ ((({ U with heap := s₂.heap, slotsUsed := s₂.slotsUsed } : State).setVm s₂.vm).setTop { g with pc := g.pc + len₂, stack := v.toList ++ g.stack })
    rw [← hs₂]
    exact hsteps
  · obtain ⟨e2, q2, q3, q4, q5, q6⟩ := id hsm
    have e3 : s₂ = ({ (U.calling g mk a).setFrames s₂.frames with heap := s₂.heap, slotsUsed := s₂.slotsUsed } : State).setVm s₂.vm := by
      have : s₂ = ({ s₂ with vm := (U.calling g mk a).vm } : State).setVm s₂.vm := rfl
      rw [e2] at this
      exact this
    have hf₂ : s₂.frames = .throwing q :: .java g :: U.frames.tail := hend
    have hW' : U.WarmedH s₂.vm := hW₂
    have hs₂ : s₂ = ((({ U with heap := s₂.heap, slotsUsed := s₂.slotsUsed } : State).setVm s₂.vm).setTop g).pushFrame (.throwing q) := by
      refine e3.trans ?_
      rw [hf₂, State.calling_eq h.top, State.setFrames_setFrames, State.pushFrame, State.frames_setTop _ hr', State.setTop_of_frames _ hr', State.setFrames_setFrames, hr]
      rfl
    have hsame : U.sameButNew ({ U with heap := s₂.heap, slotsUsed := s₂.slotsUsed } : State) L mc ms := by
      refine ⟨?_, q2, q3, q4, q5, q6⟩
      obtain ⟨t, ht, -⟩ := State.frames_cons hr
      show ({ U with heap := s₂.heap, slotsUsed := s₂.slotsUsed } : State) = { U.setFrames U.frames with heap := s₂.heap, slotsUsed := s₂.slotsUsed }
      rw [State.setFrames_self ht]
    subst hg
    refine Or.inr ⟨q, ⟨(({ U with heap := s₂.heap, slotsUsed := s₂.slotsUsed } : State).setVm s₂.vm), Ls ++ L, c0 + mc, s0 + ms⟩,
      ⟨X.admits, X.cas, X.clock, X.frames, X.room, X.hears, X.method, X.code, (X.here.setHeapUsed s₂.heap s₂.slotsUsed).setVm hW'.alike, X.tail, State.WarmedH.trans X.warmed hW', X.limits, X.bytes, X.same.trans (hsame.setVm s.vm)⟩,
      ⟨g, mk, s₂, L, E, ce, rfl, rfl, hx, hce, hcv, hcl, rfl, hL, rfl, rfl⟩, ?_⟩
    show Steps p.tables e below _ (((({ U with heap := s₂.heap, slotsUsed := s₂.slotsUsed } : State).setVm s₂.vm).setTop g).pushFrame (.throwing q))
    rw [← hs₂]
    exact hsteps
end Payer
section Calls
variable {p : Program} {l : Launch} {e : Env} {R : Room} {s : State} {m : MethodId} {args : Array Value} {below : List Frame} {meth : Method} {c : Code} {T : State} {locs : List Loc} {cells slots : Nat}
theorem vx_callV (X : Stand p l e R s m args below meth c T locs cells slots) (hexec : p.tables.exec = Jvm.exec) {own C : String} {index : Nat} {y : MethodName} {bytes : ByteArray} {maxL : Nat} {ret : Option FieldType}
    (hown : s.vm.findClass own = some m.cls) (hlink : (Cond.methodLink own index y).before args s = true) (hinst : (Cond.instanceMethod y).before args s = true) (hsel : (Cond.selects C y y).before args s = true)
    (hcode : (Cond.code y bytes maxL ret).before args s = true) (hy : y.cls ≠ "java/lang/invoke/MethodHandle" ∧ y.cls ≠ "java/lang/invoke/VarHandle")
    {W9 : Nat} {Pre : Pt → Array Value → Prop} {Post : Pt → Array Value → Option Value → Pt → Prop} {PostX : Pt → Array Value → Addr → Pt → Prop} (hK : vx_Back l R p e below s args y 3 W9 Pre Post PostX)
    {b : Addr} {cellB : Cell} (hcell : T.heap[b]? = some cellB) (hobj : cellB.vm.isStatics = false) (hcls : s.vm.findClass C = some cellB.cls)
    {g : JFrame} (hg : g.method = m) (hsize : g.locals.size = c.maxLocals) {argsL rest : List Value} (hlen : ∀ sig, parseMethodDescriptor y.desc = some sig → argsL.length = sig.parameters.length)
    (hstack : g.stack = argsL.reverse ++ .ref b :: rest) (hW : 2 * g.monitorRoom + (rest.map fun v => v.category).sum ≤ W9) (hdg : decode c.code g.pc = .ok (.invokevirtual index, 3))
    (hpre : ∀ vm₁, s.WarmedH vm₁ → Pre ⟨T.setVm vm₁, locs, cells, slots⟩ (Value.ref b :: argsL).toArray) :
    (∃ (v : Option Value) (vm₁ : Vm) (B : Pt), s.WarmedH vm₁ ∧ Stand p l e R s m args below meth c B.U B.locs B.cells B.slots ∧ Post ⟨T.setVm vm₁, locs, cells, slots⟩ (Value.ref b :: argsL).toArray v B ∧
      ∀ target, Steps p.tables e below (B.U.setTop { g with pc := g.pc + 3, stack := v.toList ++ rest }) target → Steps p.tables e below (T.setTop g) target) ∨
    (∃ (q : Addr) (vm₁ : Vm) (B : Pt), s.WarmedH vm₁ ∧ Stand p l e R s m args below meth c B.U B.locs B.cells B.slots ∧ PostX ⟨T.setVm vm₁, locs, cells, slots⟩ (Value.ref b :: argsL).toArray q B ∧
      Steps p.tables e below (T.setTop g) ((B.U.setTop { g with stack := rest }).pushFrame (.throwing q))) := by
  obtain ⟨mk, methM, hnamed, hmethM, hstM, habM⟩ := Cond.instanceMethod_spec hinst
  obtain ⟨methM', cM, hmethM', -, -, -, -, -, -, hsigM⟩ := Cond.code_spec hnamed hcode
  cases hmethM.symm.trans hmethM'
  obtain ⟨c2, r2, m2, q1, q2, q3, q4, kP, hkP, hkPi⟩ := Cond.selects_spec hsel
  cases hcls.symm.trans q1
  cases (State.methodFound?_of_named hnamed hy).symm.trans q2
  cases hnamed.symm.trans q3
  have hselP : selectMethod e.platform s.vm cellB.cls mk = .method mk := by rw [Launch.admits_selectMethod X.admits]; exact q4
  obtain ⟨vm₁, X₁, hstep₁⟩ := X.invokevirtual hexec hown hlink hnamed hmethM hstM hkP hkPi hy (a := b) (cell := cellB) hcell
    (fun z h => by rw [h] at hobj; cases hobj) hselP hmethM habM hkP hkPi (g := g) hg (argsL := argsL) (rest := rest) (hlen _ hsigM) hstack hdg
  rcases hK m meth c ⟨T.setVm vm₁, locs, cells, slots⟩ { g with stack := rest } (.invokevirtual index) mk (Value.ref b :: argsL).toArray X₁ hg hsize hdg hW (X₁.named hnamed) (hpre vm₁ X₁.warmed) with ⟨v, B, X', hpost, hsteps⟩ | ⟨q, B, X', hpost, hsteps⟩
  · exact Or.inl ⟨v, vm₁, B, X₁.warmed, X', hpost, fun target h => hstep₁ _ fun acts => by rw [doInvoke_state]; exact hsteps.trans h⟩
  · exact Or.inr ⟨q, vm₁, B, X₁.warmed, X', hpost, hstep₁ _ fun acts => by rw [doInvoke_state]; exact hsteps⟩
theorem vx_callS (X : Stand p l e R s m args below meth c T locs cells slots) (hexec : p.tables.exec = Jvm.exec) {own : String} {index : Nat} {y : MethodName} {bytes : ByteArray} {maxL : Nat} {ret : Option FieldType}
    (hown : s.vm.findClass own = some m.cls) (hlink : (Cond.methodLink own index y).before args s = true) (hstat : (Cond.static y).before args s = true) (hinit : (Cond.initialized y.cls).before args s = true)
    (hcode : (Cond.code y bytes maxL ret).before args s = true) (hy : y.cls ≠ "java/lang/invoke/MethodHandle" ∧ y.cls ≠ "java/lang/invoke/VarHandle")
    {W9 : Nat} {Pre : Pt → Array Value → Prop} {Post : Pt → Array Value → Option Value → Pt → Prop} {PostX : Pt → Array Value → Addr → Pt → Prop} (hK : vx_Back l R p e below s args y 3 W9 Pre Post PostX)
    {g : JFrame} (hg : g.method = m) (hsize : g.locals.size = c.maxLocals) {argsL rest : List Value} (hlen : ∀ sig, parseMethodDescriptor y.desc = some sig → argsL.length = sig.parameters.length)
    (hstack : g.stack = argsL.reverse ++ rest) (hW : 2 * g.monitorRoom + (rest.map fun v => v.category).sum ≤ W9) (hdg : decode c.code g.pc = .ok (.invokestatic index, 3))
    (hpre : ∀ vm₁, s.WarmedH vm₁ → Pre ⟨T.setVm vm₁, locs, cells, slots⟩ argsL.toArray) :
    (∃ (v : Option Value) (vm₁ : Vm) (B : Pt), s.WarmedH vm₁ ∧ Stand p l e R s m args below meth c B.U B.locs B.cells B.slots ∧ Post ⟨T.setVm vm₁, locs, cells, slots⟩ argsL.toArray v B ∧
      ∀ target, Steps p.tables e below (B.U.setTop { g with pc := g.pc + 3, stack := v.toList ++ rest }) target → Steps p.tables e below (T.setTop g) target) ∨
    (∃ (q : Addr) (vm₁ : Vm) (B : Pt), s.WarmedH vm₁ ∧ Stand p l e R s m args below meth c B.U B.locs B.cells B.slots ∧ PostX ⟨T.setVm vm₁, locs, cells, slots⟩ argsL.toArray q B ∧
      Steps p.tables e below (T.setTop g) ((B.U.setTop { g with stack := rest }).pushFrame (.throwing q))) := by
  obtain ⟨mk, hnamed⟩ := Cond.code_named hcode
  obtain ⟨methM, cM, hmethM, -, -, -, -, -, -, hsigM⟩ := Cond.code_spec hnamed hcode
  have hstatic : methM.isStatic = true := Cond.static_spec hnamed hmethM hstat
  obtain ⟨kP, hkP, -⟩ := className_of_methodNamed hnamed
  have hinitP : kP.init = .initialized := Cond.initialized_spec (findClass_of_methodNamed hnamed) hkP hinit
  obtain ⟨vm₁, X₁, hstep₁⟩ := X.invokestatic hexec hown hlink hnamed hmethM hstatic hkP hinitP hy (g := g) hg (argsL := argsL) (rest := rest) (hlen _ hsigM) hstack hdg
  rcases hK m meth c ⟨T.setVm vm₁, locs, cells, slots⟩ { g with stack := rest } (.invokestatic index) mk argsL.toArray X₁ hg hsize hdg hW (X₁.named hnamed) (hpre vm₁ X₁.warmed) with ⟨v, B, X', hpost, hsteps⟩ | ⟨q, B, X', hpost, hsteps⟩
  · exact Or.inl ⟨v, vm₁, B, X₁.warmed, X', hpost, fun target h => hstep₁ _ fun acts => by rw [doInvoke_state]; exact hsteps.trans h⟩
  · exact Or.inr ⟨q, vm₁, B, X₁.warmed, X', hpost, hstep₁ _ fun acts => by rw [doInvoke_state]; exact hsteps⟩
end Calls
theorem vx_cls {s : State} {T : State} {vm₁ : Vm} {E : String} {k : ClassId} (hW : s.WarmedH vm₁) (h : (T.setVm vm₁).vm.findClass E = some k) : s.vm.findClass E = some k := by
  have h1 : vm₁.findClass E = some k := h
  rw [hW.alike.findClass] at h1
  exact h1
/-- the method's frame g, with q thrown over it -/
def vx_W (p : Program) (l : Launch) (e : Env) (R : Room) (s : State) (m : MethodId) (args : Array Value) (below : List Frame) (meth : Method) (c : Code) (H : Heap) (locs : List Loc) (cells slots : Nat) (Q : State → Prop) (g : JFrame) (q : Addr) : Prop :=
  ∀ T : State, T.heap = H → Stand p l e R s m args below meth c T locs cells slots → ∃ t, Steps p.tables e below ((T.setTop g).pushFrame (.throwing q)) t ∧ Q t
def vx_Run (p : Program) (l : Launch) (e : Env) (R : Room) (s : State) (m : MethodId) (args : Array Value) (below : List Frame) (meth : Method) (c : Code) (H : Heap) (locs : List Loc) (cells slots mc ms : Nat) (g : JFrame) (rest : List Value) (Qa : State → Outcome → State → Prop) (XC : String → State → State → Prop) (free : Addr → Prop) : Prop :=
  ∀ T : State, T.heap = H → Stand p l e R s m args below meth c T locs cells slots →
    (∃ (v : Option Value) (st₀ t T' : State) (L : List Loc), st₀.heap = H ∧ Stand p l e R s m args below meth c T' (locs ++ L) (cells + mc) (slots + ms) ∧ (∀ q ∈ L, free q.base) ∧ T'.heap = t.heap ∧ T'.vm = t.vm ∧ Qa st₀ (.returned v) t ∧
      Goes p e below T g T' { g with pc := g.pc + 3, stack := v.toList ++ rest }) ∨
    (∃ (q : Addr) (st₀ t T' : State) (L : List Loc) (E : String) (ce : Cell), st₀.heap = H ∧ Stand p l e R s m args below meth c T' (locs ++ L) (cells + mc) (slots + ms) ∧ (∀ z ∈ L, free z.base) ∧ T'.heap = t.heap ∧ T'.vm = t.vm ∧ XC E st₀ t ∧ t.heap[q]? = some ce ∧ ce.vm = .none ∧ s.vm.findClass E = some ce.cls ∧
      Steps p.tables e below (T.setTop g) ((T'.setTop { g with stack := rest }).pushFrame (.throwing q)))
def vx_X {S : Type} (px : S → Prop) (B : String → S → State → Prop) (A : Nat → Prop) : String → State → State → Prop := fun E st t => ∃ u : S, px u ∧ B E u t ∧ va_F A st t
section Runs
variable {p : Program} {l : Launch} {e : Env} {R : Room} {s : State} {m : MethodId} {args : Array Value} {below : List Frame} {meth : Method} {c : Code} {H : Heap} {locs : List Loc} {cells slots : Nat}
variable {y : MethodName} {bytes cc : ByteArray} {maxL nL mc ms n index : Nat} {ret : Option FieldType} {ws : List Cond} {rm : Room} {Pc : Array Value → State → Prop} {Qc : Array Value → State → Outcome → State → Prop} {XC : String → State → State → Prop} {free : Addr → Prop} {Ts : List Cond} {own C : String} {b : Addr} {As rest : List Value} {g : JFrame}
theorem vx_callBack (cb : CallB R s args own index y bytes maxL ret ws rm mc ms n) (hM : vx_Met l y ws rm Pc Qc XC mc ms free) (hbl : FrameBlind Pc) : vx_Back l R p e below s args y 3 8 (PreOf R mc ms Pc) (PostOf Qc mc ms free) (vx_Post XC mc ms free) := by
  obtain ⟨hrc, hrs, hfr, hlo, hws, hcw, -, hini, -⟩ := cb
  exact vx_back (bytes := bytes) (maxL := maxL) (ret := ret) hM hbl hrc hrs hfr hlo hws hcw (fun a' U hW => word_at hW (Or.inl (by first | rfl | simp [Cond.onTables, Cond.keeps, Cond.steady])) hini)
theorem vx_runV (S : CallFix p m c cc nL s args Ts own) (hM : vx_Met l y ws rm Pc Qc XC mc ms free) (cw : CallW R s args own C index y bytes maxL ret ws rm mc ms n) (hp : PreV s H C b Pc As)
    (hg : g.method = m) (hn : As.length = n) (hsize : g.locals.size = nL) (hstack : g.stack = As.reverse ++ .ref b :: rest) (hW : 2 * g.monitorRoom + (rest.map fun v => v.category).sum ≤ 8) (hdg : decode cc g.pc = .ok (.invokevirtual index, 3)) (hf : cells + mc ≤ R.cells ∧ slots + ms ≤ R.slots) :
    vx_Run p l e R s m args below meth c H locs cells slots mc ms g rest (Qc (Value.ref b :: As).toArray) XC free := by
  have hK : vx_Back l R p e below s args y 3 8 (PreOf R mc ms Pc) (PostOf Qc mc ms free) (vx_Post XC mc ms free) := vx_callBack cw.1 hM hp.1
  obtain ⟨⟨-, -, -, -, -, -, hcode, -, hy, hlen, hl⟩, hin, hse⟩ := cw
  obtain ⟨hx, hb, hml, ho, -⟩ := S
  obtain ⟨-, ⟨cellB, hcB, hoB, hclB⟩, hPc⟩ := hp
  intro T hT X
  rcases vx_callV X hx (C := C) (bytes := bytes) (maxL := maxL) (ret := ret) ho hl hin hse hcode hy hK (by rw [hT]; exact hcB) hoB hclB hg (hsize.trans hml.symm) (argsL := As) (rest := rest) (fun sig h => hn.trans (hlen sig h)) hstack hW (by rw [hb]; exact hdg)
    (fun vm₁ hW₁ => ⟨hf.1, hf.2, hPc (T.setVm vm₁) hT hW₁⟩) with ⟨v, vm₁, ⟨U', l2, c2, s2⟩, hW₁, X', ⟨g', mk, t, L, e1, e2, hq, h1, hL, h2, h3⟩, st⟩ | ⟨q, vm₁, ⟨U', l2, c2, s2⟩, hW₁, X', ⟨g', mk, t, L, E, ce, e1, e2, hq, hce, hcv, hcl, h1, hL, h2, h3⟩, st⟩
  · dsimp only [Pt.U, Pt.locs, Pt.cells, Pt.slots] at X' e1 e2 h1 h2 h3 st
    subst h1; subst h2; subst h3
    exact Or.inl ⟨v, (T.setVm vm₁).calling g' mk (Value.ref b :: As).toArray, t, U', L, hT, X', hL, e1, e2, hq, st⟩
  · dsimp only [Pt.U, Pt.locs, Pt.cells, Pt.slots] at X' e1 e2 h1 h2 h3 st hcl
    subst h1; subst h2; subst h3
    exact Or.inr ⟨q, (T.setVm vm₁).calling g' mk (Value.ref b :: As).toArray, t, U', L, E, ce, hT, X', hL, e1, e2, hq, hce, hcv, vx_cls hW₁ hcl, st⟩
theorem vx_runS (S : CallFix p m c cc nL s args Ts own) (hM : vx_Met l y ws rm Pc Qc XC mc ms free) (cw : CallB R s args own index y bytes maxL ret ws rm mc ms n ∧ (Cond.static y).before args s = true) (hp : PreS s H Pc As)
    (hg : g.method = m) (hn : As.length = n) (hsize : g.locals.size = nL) (hstack : g.stack = As.reverse ++ rest) (hW : 2 * g.monitorRoom + (rest.map fun v => v.category).sum ≤ 8) (hdg : decode cc g.pc = .ok (.invokestatic index, 3)) (hf : cells + mc ≤ R.cells ∧ slots + ms ≤ R.slots) :
    vx_Run p l e R s m args below meth c H locs cells slots mc ms g rest (Qc As.toArray) XC free := by
  have hK : vx_Back l R p e below s args y 3 8 (PreOf R mc ms Pc) (PostOf Qc mc ms free) (vx_Post XC mc ms free) := vx_callBack cw.1 hM hp.1
  obtain ⟨⟨-, -, -, -, -, -, hcode, hini, hy, hlen, hl⟩, hstt⟩ := cw
  obtain ⟨hx, hb, hml, ho, -⟩ := S
  intro T hT X
  rcases vx_callS X hx (bytes := bytes) (maxL := maxL) (ret := ret) ho hl hstt hini hcode hy hK hg (hsize.trans hml.symm) (argsL := As) (rest := rest) (fun sig h => hn.trans (hlen sig h)) hstack hW (by rw [hb]; exact hdg)
    (fun vm₁ hW₁ => ⟨hf.1, hf.2, hp.2 (T.setVm vm₁) hT hW₁⟩) with ⟨v, vm₁, ⟨U', l2, c2, s2⟩, hW₁, X', ⟨g', mk, t, L, e1, e2, hq, h1, hL, h2, h3⟩, st⟩ | ⟨q, vm₁, ⟨U', l2, c2, s2⟩, hW₁, X', ⟨g', mk, t, L, E, ce, e1, e2, hq, hce, hcv, hcl, h1, hL, h2, h3⟩, st⟩
  · dsimp only [Pt.U, Pt.locs, Pt.cells, Pt.slots] at X' e1 e2 h1 h2 h3 st
    subst h1; subst h2; subst h3
    exact Or.inl ⟨v, (T.setVm vm₁).calling g' mk As.toArray, t, U', L, hT, X', hL, e1, e2, hq, st⟩
  · dsimp only [Pt.U, Pt.locs, Pt.cells, Pt.slots] at X' e1 e2 h1 h2 h3 st hcl
    subst h1; subst h2; subst h3
    exact Or.inr ⟨q, (T.setVm vm₁).calling g' mk As.toArray, t, U', L, E, ce, hT, X', hL, e1, e2, hq, hce, hcv, vx_cls hW₁ hcl, st⟩
end Runs
section Rows
variable {p : Program} {l : Launch} {e : Env} {R : Room} {s : State} {m : MethodId} {args : Array Value} {below : List Frame} {meth : Method} {c : Code} {H : Heap} {locs : List Loc} {cells slots : Nat} {Q : State → Prop}
variable {mc ms : Nat} {free : Addr → Prop} {A0 A1 : Nat → Prop} {H0 : Heap} {a : Array Value} {pc : Nat} {ls : Array Slot} {st0 rest : List Value}
theorem vx_keep {st₀ t T' : State} {L : List Loc} (h0 : st₀.heap = H) (e1 : T'.heap = t.heap) (hS : va_S A0 H0 H locs) (hA : ∀ q, q < H.size → A1 q → A0 q) (hf : ∀ q, free q → A0 q) (hL : ∀ q ∈ L, free q.base) (hF : va_F A1 st₀ t) :
    H.size ≤ T'.heap.size ∧ (∀ q : Nat, q < H.size → ¬ A1 q → T'.heap[q]? = H[q]?) ∧ va_S A0 H0 T'.heap (locs ++ L) := by
  obtain ⟨hz, hk⟩ := hF
  rw [h0] at hz hk
  exact ⟨by rw [e1]; exact hz, fun q h1 h2 => by rw [e1]; exact hk q h1 h2,
    ⟨Nat.le_trans hS.1 (by rw [e1]; exact hz), fun q h1 h2 => by rw [e1, hk q (Nat.lt_of_lt_of_le h1 hS.1) (fun z => h2 (hA q (Nat.lt_of_lt_of_le h1 hS.1) z))]; exact hS.2.1 q h1 h2, fun q hq => by
      rcases List.mem_append.mp hq with h | h
      · exact hS.2.2 q h
      · exact hf _ (hL q h)⟩⟩
theorem vx_calli {S SX : Type} {post : Int32 → S → Prop} {px : SX → Prop} {B : S → State → Prop} {BX : String → SX → State → Prop} {AX : Nat → Prop} (hr : vx_Run p l e R s m args below meth c H locs cells slots mc ms (F0 m pc ls st0) rest (va_Qi post B A1 a) (vx_X px BX AX) free) (hS : va_S A0 H0 H locs) (hA : ∀ q, q < H.size → A1 q → A0 q) (hf : ∀ q, free q → A0 q) (hAX : ∀ q, q < H.size → AX q → A0 q)
    (kx : ∀ (E : String) (ce : Cell) (q9 : Addr) (u : SX) (t : State) (H1 : Heap) (locs1 : List Loc), t.heap = H1 → s.vm.Alike t.vm → px u → BX E u t → H.size ≤ H1.size → (∀ q : Nat, q < H.size → ¬ AX q → H1[q]? = H[q]?) → va_S A0 H0 H1 locs1 → H1[q9]? = some ce → ce.vm = .none → s.vm.findClass E = some ce.cls → vx_W p l e R s m args below meth c H1 locs1 (cells + mc) (slots + ms) Q (F0 m pc ls rest) q9)
    (kk : ∀ (r : Int32) (u : S) (t : State) (H1 : Heap) (locs1 : List Loc), t.heap = H1 → s.vm.Alike t.vm → post r u → B u t → H.size ≤ H1.size → (∀ q : Nat, q < H.size → ¬ A1 q → H1[q]? = H[q]?) → va_S A0 H0 H1 locs1 → W p l e R s m args below meth c H1 locs1 (cells + mc) (slots + ms) Q (F0 m (pc + 3) ls (.int r :: rest))) : W p l e R s m args below meth c H locs cells slots Q (F0 m pc ls st0) := by
  intro T hT X
  rcases hr T hT X with ⟨v, st₀, t, T', L, h0, X', hL, e1, e2, ⟨⟨r, u, hv, hp, hb⟩, hF⟩, st⟩ | ⟨q, st₀, t, T', L, E, ce, h0, X', hL, e1, e2, ⟨u, hp, hb, hF⟩, hce, hcv, hcl, st⟩
  · cases hv
    obtain ⟨k1, k2, k3⟩ := vx_keep h0 e1 hS hA hf hL hF
    obtain ⟨t2, a1, b1⟩ := kk r u t T'.heap (locs ++ L) e1.symm (by rw [← e2]; exact X'.warmed.alike) hp hb k1 k2 k3 T' rfl X'
    exact ⟨t2, st t2 a1, b1⟩
  · obtain ⟨k1, k2, k3⟩ := vx_keep h0 e1 hS hAX hf hL hF
    obtain ⟨t2, a1, b1⟩ := kx E ce q u t T'.heap (locs ++ L) e1.symm (by rw [← e2]; exact X'.warmed.alike) hp hb k1 k2 k3 (by rw [e1]; exact hce) hcv hcl T' rfl X'
    exact ⟨t2, st.trans a1, b1⟩
theorem vx_calll {S SX : Type} {post : Int64 → S → Prop} {px : SX → Prop} {B : S → State → Prop} {BX : String → SX → State → Prop} {AX : Nat → Prop} (hr : vx_Run p l e R s m args below meth c H locs cells slots mc ms (F0 m pc ls st0) rest (va_Ql post B A1 a) (vx_X px BX AX) free) (hS : va_S A0 H0 H locs) (hA : ∀ q, q < H.size → A1 q → A0 q) (hf : ∀ q, free q → A0 q) (hAX : ∀ q, q < H.size → AX q → A0 q)
    (kx : ∀ (E : String) (ce : Cell) (q9 : Addr) (u : SX) (t : State) (H1 : Heap) (locs1 : List Loc), t.heap = H1 → s.vm.Alike t.vm → px u → BX E u t → H.size ≤ H1.size → (∀ q : Nat, q < H.size → ¬ AX q → H1[q]? = H[q]?) → va_S A0 H0 H1 locs1 → H1[q9]? = some ce → ce.vm = .none → s.vm.findClass E = some ce.cls → vx_W p l e R s m args below meth c H1 locs1 (cells + mc) (slots + ms) Q (F0 m pc ls rest) q9)
    (kk : ∀ (r : Int64) (u : S) (t : State) (H1 : Heap) (locs1 : List Loc), t.heap = H1 → s.vm.Alike t.vm → post r u → B u t → H.size ≤ H1.size → (∀ q : Nat, q < H.size → ¬ A1 q → H1[q]? = H[q]?) → va_S A0 H0 H1 locs1 → W p l e R s m args below meth c H1 locs1 (cells + mc) (slots + ms) Q (F0 m (pc + 3) ls (.long r :: rest))) : W p l e R s m args below meth c H locs cells slots Q (F0 m pc ls st0) := by
  intro T hT X
  rcases hr T hT X with ⟨v, st₀, t, T', L, h0, X', hL, e1, e2, ⟨⟨r, u, hv, hp, hb⟩, hF⟩, st⟩ | ⟨q, st₀, t, T', L, E, ce, h0, X', hL, e1, e2, ⟨u, hp, hb, hF⟩, hce, hcv, hcl, st⟩
  · cases hv
    obtain ⟨k1, k2, k3⟩ := vx_keep h0 e1 hS hA hf hL hF
    obtain ⟨t2, a1, b1⟩ := kk r u t T'.heap (locs ++ L) e1.symm (by rw [← e2]; exact X'.warmed.alike) hp hb k1 k2 k3 T' rfl X'
    exact ⟨t2, st t2 a1, b1⟩
  · obtain ⟨k1, k2, k3⟩ := vx_keep h0 e1 hS hAX hf hL hF
    obtain ⟨t2, a1, b1⟩ := kx E ce q u t T'.heap (locs ++ L) e1.symm (by rw [← e2]; exact X'.warmed.alike) hp hb k1 k2 k3 (by rw [e1]; exact hce) hcv hcl T' rfl X'
    exact ⟨t2, st.trans a1, b1⟩
theorem vx_callf {S SX : Type} {post : UInt32 → S → Prop} {px : SX → Prop} {B : S → State → Prop} {BX : String → SX → State → Prop} {AX : Nat → Prop} (hr : vx_Run p l e R s m args below meth c H locs cells slots mc ms (F0 m pc ls st0) rest (va_Qf post B A1 a) (vx_X px BX AX) free) (hS : va_S A0 H0 H locs) (hA : ∀ q, q < H.size → A1 q → A0 q) (hf : ∀ q, free q → A0 q) (hAX : ∀ q, q < H.size → AX q → A0 q)
    (kx : ∀ (E : String) (ce : Cell) (q9 : Addr) (u : SX) (t : State) (H1 : Heap) (locs1 : List Loc), t.heap = H1 → s.vm.Alike t.vm → px u → BX E u t → H.size ≤ H1.size → (∀ q : Nat, q < H.size → ¬ AX q → H1[q]? = H[q]?) → va_S A0 H0 H1 locs1 → H1[q9]? = some ce → ce.vm = .none → s.vm.findClass E = some ce.cls → vx_W p l e R s m args below meth c H1 locs1 (cells + mc) (slots + ms) Q (F0 m pc ls rest) q9)
    (kk : ∀ (r : UInt32) (u : S) (t : State) (H1 : Heap) (locs1 : List Loc), t.heap = H1 → s.vm.Alike t.vm → post r u → B u t → H.size ≤ H1.size → (∀ q : Nat, q < H.size → ¬ A1 q → H1[q]? = H[q]?) → va_S A0 H0 H1 locs1 → W p l e R s m args below meth c H1 locs1 (cells + mc) (slots + ms) Q (F0 m (pc + 3) ls (.float r :: rest))) : W p l e R s m args below meth c H locs cells slots Q (F0 m pc ls st0) := by
  intro T hT X
  rcases hr T hT X with ⟨v, st₀, t, T', L, h0, X', hL, e1, e2, ⟨⟨r, u, hv, hp, hb⟩, hF⟩, st⟩ | ⟨q, st₀, t, T', L, E, ce, h0, X', hL, e1, e2, ⟨u, hp, hb, hF⟩, hce, hcv, hcl, st⟩
  · cases hv
    obtain ⟨k1, k2, k3⟩ := vx_keep h0 e1 hS hA hf hL hF
    obtain ⟨t2, a1, b1⟩ := kk r u t T'.heap (locs ++ L) e1.symm (by rw [← e2]; exact X'.warmed.alike) hp hb k1 k2 k3 T' rfl X'
    exact ⟨t2, st t2 a1, b1⟩
  · obtain ⟨k1, k2, k3⟩ := vx_keep h0 e1 hS hAX hf hL hF
    obtain ⟨t2, a1, b1⟩ := kx E ce q u t T'.heap (locs ++ L) e1.symm (by rw [← e2]; exact X'.warmed.alike) hp hb k1 k2 k3 (by rw [e1]; exact hce) hcv hcl T' rfl X'
    exact ⟨t2, st.trans a1, b1⟩
theorem vx_calld {S SX : Type} {post : UInt64 → S → Prop} {px : SX → Prop} {B : S → State → Prop} {BX : String → SX → State → Prop} {AX : Nat → Prop} (hr : vx_Run p l e R s m args below meth c H locs cells slots mc ms (F0 m pc ls st0) rest (va_Qd post B A1 a) (vx_X px BX AX) free) (hS : va_S A0 H0 H locs) (hA : ∀ q, q < H.size → A1 q → A0 q) (hf : ∀ q, free q → A0 q) (hAX : ∀ q, q < H.size → AX q → A0 q)
    (kx : ∀ (E : String) (ce : Cell) (q9 : Addr) (u : SX) (t : State) (H1 : Heap) (locs1 : List Loc), t.heap = H1 → s.vm.Alike t.vm → px u → BX E u t → H.size ≤ H1.size → (∀ q : Nat, q < H.size → ¬ AX q → H1[q]? = H[q]?) → va_S A0 H0 H1 locs1 → H1[q9]? = some ce → ce.vm = .none → s.vm.findClass E = some ce.cls → vx_W p l e R s m args below meth c H1 locs1 (cells + mc) (slots + ms) Q (F0 m pc ls rest) q9)
    (kk : ∀ (r : UInt64) (u : S) (t : State) (H1 : Heap) (locs1 : List Loc), t.heap = H1 → s.vm.Alike t.vm → post r u → B u t → H.size ≤ H1.size → (∀ q : Nat, q < H.size → ¬ A1 q → H1[q]? = H[q]?) → va_S A0 H0 H1 locs1 → W p l e R s m args below meth c H1 locs1 (cells + mc) (slots + ms) Q (F0 m (pc + 3) ls (.double r :: rest))) : W p l e R s m args below meth c H locs cells slots Q (F0 m pc ls st0) := by
  intro T hT X
  rcases hr T hT X with ⟨v, st₀, t, T', L, h0, X', hL, e1, e2, ⟨⟨r, u, hv, hp, hb⟩, hF⟩, st⟩ | ⟨q, st₀, t, T', L, E, ce, h0, X', hL, e1, e2, ⟨u, hp, hb, hF⟩, hce, hcv, hcl, st⟩
  · cases hv
    obtain ⟨k1, k2, k3⟩ := vx_keep h0 e1 hS hA hf hL hF
    obtain ⟨t2, a1, b1⟩ := kk r u t T'.heap (locs ++ L) e1.symm (by rw [← e2]; exact X'.warmed.alike) hp hb k1 k2 k3 T' rfl X'
    exact ⟨t2, st t2 a1, b1⟩
  · obtain ⟨k1, k2, k3⟩ := vx_keep h0 e1 hS hAX hf hL hF
    obtain ⟨t2, a1, b1⟩ := kx E ce q u t T'.heap (locs ++ L) e1.symm (by rw [← e2]; exact X'.warmed.alike) hp hb k1 k2 k3 (by rw [e1]; exact hce) hcv hcl T' rfl X'
    exact ⟨t2, st.trans a1, b1⟩
theorem vx_callv {S SX : Type} {post : S → Prop} {px : SX → Prop} {B : S → State → Prop} {BX : String → SX → State → Prop} {AX : Nat → Prop} (hr : vx_Run p l e R s m args below meth c H locs cells slots mc ms (F0 m pc ls st0) rest (va_Qv post B A1 a) (vx_X px BX AX) free) (hS : va_S A0 H0 H locs) (hA : ∀ q, q < H.size → A1 q → A0 q) (hf : ∀ q, free q → A0 q) (hAX : ∀ q, q < H.size → AX q → A0 q)
    (kx : ∀ (E : String) (ce : Cell) (q9 : Addr) (u : SX) (t : State) (H1 : Heap) (locs1 : List Loc), t.heap = H1 → s.vm.Alike t.vm → px u → BX E u t → H.size ≤ H1.size → (∀ q : Nat, q < H.size → ¬ AX q → H1[q]? = H[q]?) → va_S A0 H0 H1 locs1 → H1[q9]? = some ce → ce.vm = .none → s.vm.findClass E = some ce.cls → vx_W p l e R s m args below meth c H1 locs1 (cells + mc) (slots + ms) Q (F0 m pc ls rest) q9)
    (kk : ∀ (u : S) (t : State) (H1 : Heap) (locs1 : List Loc), t.heap = H1 → s.vm.Alike t.vm → post u → B u t → H.size ≤ H1.size → (∀ q : Nat, q < H.size → ¬ A1 q → H1[q]? = H[q]?) → va_S A0 H0 H1 locs1 → W p l e R s m args below meth c H1 locs1 (cells + mc) (slots + ms) Q (F0 m (pc + 3) ls (rest))) : W p l e R s m args below meth c H locs cells slots Q (F0 m pc ls st0) := by
  intro T hT X
  rcases hr T hT X with ⟨v, st₀, t, T', L, h0, X', hL, e1, e2, ⟨⟨u, hv, hp, hb⟩, hF⟩, st⟩ | ⟨q, st₀, t, T', L, E, ce, h0, X', hL, e1, e2, ⟨u, hp, hb, hF⟩, hce, hcv, hcl, st⟩
  · cases hv
    obtain ⟨k1, k2, k3⟩ := vx_keep h0 e1 hS hA hf hL hF
    obtain ⟨t2, a1, b1⟩ := kk u t T'.heap (locs ++ L) e1.symm (by rw [← e2]; exact X'.warmed.alike) hp hb k1 k2 k3 T' rfl X'
    exact ⟨t2, st t2 a1, b1⟩
  · obtain ⟨k1, k2, k3⟩ := vx_keep h0 e1 hS hAX hf hL hF
    obtain ⟨t2, a1, b1⟩ := kx E ce q u t T'.heap (locs ++ L) e1.symm (by rw [← e2]; exact X'.warmed.alike) hp hb k1 k2 k3 (by rw [e1]; exact hce) hcv hcl T' rfl X'
    exact ⟨t2, st.trans a1, b1⟩
/-- caught by the row x of this method's table; the rows ahead don't take it -/
theorem vx_catch {own name : String} {E : String} {ce : Cell} {q : Addr} (hown : s.vm.findClass own = some m.cls) (pre : List ExceptionTableEntry) (x : ExceptionTableEntry) (suf : List ExceptionTableEntry) (hsplit : c.exceptionTable.toList = pre ++ x :: suf)
    (hpass : ∀ z ∈ pre, covers z pc = false ∨ (z.catchType ≠ 0 ∧ ∃ nm : String, (Cond.classLink own z.catchType nm).before args s = true ∧ va_Nc E nm s)) (hx : covers x pc = true) (h0 : x.catchType ≠ 0)
    (hlink : (Cond.classLink own x.catchType name).before args s = true) (hcast : (Cond.castable E name).before args s = true) (hcell : H[q]? = some ce) (hv : ce.vm = .none) (hcl : s.vm.findClass E = some ce.cls)
    (kk : W p l e R s m args below meth c H locs cells slots Q (F0 m x.handlerPc ls [.ref q])) : vx_W p l e R s m args below meth c H locs cells slots Q (F0 m pc ls rest) q := by
  intro T hT X
  have hpl : e.platform.magicAccessors = ({} : Platform).magicAccessors := by rw [X.admits.platform]
  obtain ⟨c3, c4, hc3, hc4, hasg⟩ := Cond.castable_spec hcast
  cases Option.some.inj (hc3.symm.trans hcl)
  obtain ⟨c5, hc5, hcl5⟩ := Cond.classLink_spec hown hlink e.platform hpl
  cases Option.some.inj (hc4.symm.trans hc5)
  obtain ⟨vm', X', st⟩ := X.thenCaughtThrough q (g := F0 m pc ls rest) rfl (Steps.refl _) (by rw [hT]; exact hcell) (by rw [hv]; rfl) (by obtain ⟨k9, h9, -⟩ := Vm.findClass_spec hcl; exact ⟨k9, h9⟩) pre x suf hsplit
    (fun z hz => by
      rcases hpass z hz with h | ⟨hz0, nm, hl1, hn1⟩
      · exact Or.inl h
      · obtain ⟨c6, hc6, hcl6⟩ := Cond.classLink_spec hown hl1 e.platform hpl
        obtain ⟨a8, b8, h1, h2, h3⟩ := hn1
        cases Option.some.inj (h1.symm.trans hcl)
        cases Option.some.inj (h2.symm.trans hc6)
        exact Or.inr ⟨hz0, _, hcl6, h3⟩) hx (Or.inr ⟨h0, c4, hcl5, hasg⟩)
  obtain ⟨t, a1, b1⟩ := kk (T.setVm vm') hT X'
  exact ⟨t, st.trans a1, b1⟩
end Rows
section Ends
variable {p : Program} {l : Launch} {e : Env} {R : Room} {s : State} {m : MethodId} {args : Array Value} {below : List Frame} {meth : Method} {c : Code} {H : Heap} {locs : List Loc} {cells slots : Nat} {Q : State → Prop}
variable {mc ms : Nat} {free : Addr → Prop} {A0 A1 : Nat → Prop} {H0 : Heap} {a : Array Value} {ls : Array Slot} {st0 rest : List Value}
variable {Qc : Array Value → State → Outcome → State → Prop} {XC : String → State → State → Prop}
/-- what a body that may throw owes at its end -/
def vx_MQ (below : List Frame) (Qc : Array Value → State → Outcome → State → Prop) (XC : String → State → State → Prop) (a : Array Value) (s : State) (mc ms : Nat) (free : Addr → Prop) : State → Prop := fun t =>
  ∃ o, t.status = .running ∧ Ended t below o ∧ vx_Q Qc XC mc ms free a s o t
theorem vx_ret {g : JFrame} {mc ms : Nat} (k : W p l e R s m args below meth c H locs cells slots (MQ below Qc args s mc ms free) g) : W p l e R s m args below meth c H locs cells slots (vx_MQ below Qc XC args s mc ms free) g := by
  intro T hT X
  obtain ⟨t, a1, o, b1, b2, b3, b4⟩ := k T hT X
  exact ⟨t, a1, o, b1, b2, Or.inl ⟨b3, b4⟩⟩
/-- not caught here: it goes on to the caller -/
theorem vx_widen {g : JFrame} {q : Addr} {k n : Nat} (h1 : cells ≤ k) (h2 : slots ≤ n) (kk : vx_W p l e R s m args below meth c H locs k n Q g q) : vx_W p l e R s m args below meth c H locs cells slots Q g q := fun T hT X => kk T hT (stand_widen X h1 h2)
theorem vx_out {pc : Nat} {E : String} {ce : Cell} {q : Addr} {mc ms : Nat} (hout : ∀ x ∈ c.exceptionTable.toList, covers x pc = false) (hlocks : meth.locks = false) (hcell : H[q]? = some ce) (hv : ce.vm = .none) (hcl : s.vm.findClass E = some ce.cls)
    (hx : ∀ t : State, t.heap = H → s.vm.Alike t.vm → XC E s t) (hf : ∀ z ∈ locs, free z.base) (hc : cells ≤ mc) (hs : slots ≤ ms) :
    vx_W p l e R s m args below meth c H locs cells slots (vx_MQ below Qc XC args s mc ms free) (F0 m pc ls rest) q := by
  intro T hT X
  obtain ⟨st1, hrun, hend, hW, hsm⟩ := X.leaveThrown q (g := F0 m pc ls rest) rfl rfl rfl hout hlocks
  have hcell9 : (T.setFrames (.throwing q :: below)).heap[q]? = some ce := by
    show T.heap[q]? = some ce
    rw [hT]; exact hcell
  exact ⟨_, st1, .threw q, hrun, hend, Or.inr ⟨q, rfl, E, ce, locs, hx _ hT hW.alike, hcell9, hv, hcl, hW, hsm.mono hc hs, hf⟩⟩
theorem vx_frame {U : State} {k n : Nat} (h : s.sameButNew ({ U with vm := s.vm } : State) locs k n) : s.heap.size ≤ U.heap.size ∧ ∀ q : Nat, q < s.heap.size → (∀ z ∈ locs, z.base ≠ q) → U.heap[q]? = s.heap[q]? := by
  obtain ⟨-, h2, -, -, -, h6⟩ := h
  refine ⟨h2, fun q hq hz => ?_⟩
  obtain ⟨c9, e1, e2, e3, e4⟩ := h6 q _ (Array.getElem?_eq_getElem hq)
  have hs : c9.slots = (s.heap[q]).slots := Array.ext_getElem? fun i => e4 i fun hm => hz _ hm rfl
  have h9 : c9 = s.heap[q] := by
    rw [hs] at e2
    exact e2
  have e5 : U.heap[q]? = some c9 := e1
  rw [e5, h9, Array.getElem?_eq_getElem hq]
/-- the words of a throw but the four that speak of the heap -/
def vx_no (w : Cond) : Bool := decide (w ≠ .isRef (.static Bundle.tN "UNASSIGNED_STACK" Bundle.steD)) && decide (w ≠ .isRef (.static Bundle.tN "SUPPRESSED_SENTINEL" Bundle.listD)) && decide (w ≠ .laysStatic Bundle.tN "UNASSIGNED_STACK" Bundle.steD) && decide (w ≠ .laysStatic Bundle.tN "SUPPRESSED_SENTINEL" Bundle.listD)
def vx_at0 (own : String) (ic : Nat) (X : String) (names : List String) : List Cond := (Bundle.ownAtoms0 own ic X names).filter vx_no
def vx_atS (own : String) (ic : Nat) (X : String) (names : List String) : List Cond := (Bundle.ownAtoms own ic X names).filter vx_no
/-- a word that the tables alone decide, or a good one -/
def vx_ot (w : Cond) : Bool := w.onTables || goodWord w
theorem vx_ot_at {args a' : Array Value} {s U : State} {w : Cond} (hW : s.WarmedH U.vm) (hvm : s.vm = U.vm) (hg : vx_ot w = true) (h : w.before args s = true) : w.before a' U = true := by
  simp only [vx_ot, Bool.or_eq_true] at hg
  rcases hg with hg | hg
  · exact va_tabs hg hvm h
  · exact word_at hW (good_of_word hg) h
/-- a list's words: the good ones out of the method's own list, the others by premises of their own -/
theorem vx_hat {args : Array Value} {s : State} {L B : List Cond} (h1 : ∀ w ∈ L.filter goodWord, w.before args s = true) (h2 : ∀ w ∈ L.filter (fun w => !goodWord w), w ∈ B) (h3 : ∀ w ∈ B, w.before args s = true) : ∀ w ∈ L, w.before args s = true := by
  intro w hw
  by_cases g : goodWord w = true
  · exact h1 w (List.mem_filter.mpr ⟨hw, g⟩)
  · refine h3 w (h2 w (List.mem_filter.mpr ⟨hw, ?_⟩))
    show (!goodWord w) = true
    cases hgw : goodWord w
    · rfl
    · exact absurd hgw g
theorem vx_c {args : Array Value} {s : State} {w : Cond} {B : List Cond} (h : w.before args s = true) (t : ∀ w ∈ B, w.before args s = true) : ∀ w' ∈ w :: B, w'.before args s = true := fun w' h' => (List.mem_cons.mp h').elim (fun e => by rw [e]; exact h) (t w')
theorem vx_n {args : Array Value} {s : State} : ∀ w ∈ ([] : List Cond), w.before args s = true := fun _ h => nomatch h
theorem vx_own {args : Array Value} {s : State} {L : List Cond} (h1 : ∀ w ∈ L.filter vx_no, w.before args s = true)
    (hU : (Cond.isRef (.static Bundle.tN "UNASSIGNED_STACK" Bundle.steD)).before args s = true) (hN : (Cond.isRef (.static Bundle.tN "SUPPRESSED_SENTINEL" Bundle.listD)).before args s = true)
    (lU : (Cond.laysStatic Bundle.tN "UNASSIGNED_STACK" Bundle.steD).before args s = true) (lN : (Cond.laysStatic Bundle.tN "SUPPRESSED_SENTINEL" Bundle.listD).before args s = true) : ∀ w ∈ L, w.before args s = true := by
  intro w hw
  by_cases e1 : w = .isRef (.static Bundle.tN "UNASSIGNED_STACK" Bundle.steD)
  · rw [e1]; exact hU
  · by_cases e2 : w = .isRef (.static Bundle.tN "SUPPRESSED_SENTINEL" Bundle.listD)
    · rw [e2]; exact hN
    · by_cases e3 : w = .laysStatic Bundle.tN "UNASSIGNED_STACK" Bundle.steD
      · rw [e3]; exact lU
      · by_cases e4 : w = .laysStatic Bundle.tN "SUPPRESSED_SENTINEL" Bundle.listD
        · rw [e4]; exact lN
        · exact h1 w (List.mem_filter.mpr ⟨hw, by unfold vx_no; rw [decide_eq_true e1, decide_eq_true e2, decide_eq_true e3, decide_eq_true e4]; rfl⟩)
/-- where a static field lies, its class's statics cell in H -/
def vx_L (C n d : String) (A : Nat → Prop) (U : State) (H : Heap) : Prop := ∃ (c : ClassId) (k : Class) (i : Nat) (f : Field) (a : Nat) (cell : Cell), U.vm.findClass C = some c ∧ U.fieldFound? C n d = some (c, k, i, f) ∧ f.isStatic = true ∧ k.statics = some a ∧ H[a]? = some cell ∧ cell.vm.isStatics = true ∧ cell.cls = c ∧ f.slot < cell.slots.size ∧ k.staticTypes[f.slot]? = some f.type ∧ ¬ A a
theorem vx_L.moved {C n d : String} {A : Nat → Prop} {u U : State} {H : Heap} (hvm : u.vm.Alike U.vm) (h : vx_L C n d A u H) : vx_L C n d A U H := by
  obtain ⟨c, k, i, f, a, cell, h1, h2, h3, h4, h5, h6, h7, h8, h9, h10⟩ := h
  obtain ⟨k', hi', he⟩ := State.fieldFound?_setVm hvm h2
  exact ⟨c, k', i, f, a, cell, by rw [hvm.findClass]; exact h1, hi', h3, by rw [he]; exact h4, h5, h6, h7, h8, by rw [he]; exact h9, h10⟩
theorem vx_L.kept {C n d : String} {A : Nat → Prop} {U : State} {H H1 : Heap} (h : vx_L C n d A U H) (hq : ∀ a : Nat, a < H.size → ¬ A a → H1[a]? = H[a]?) : vx_L C n d A U H1 := by
  obtain ⟨c, k, i, f, a, cell, h1, h2, h3, h4, h5, h6, h7, h8, h9, h10⟩ := h
  exact ⟨c, k, i, f, a, cell, h1, h2, h3, h4, by rw [hq a (Array.getElem?_eq_some_iff.mp h5).1 h10]; exact h5, h6, h7, h8, h9, h10⟩
theorem vx_L.narrow {C n d : String} {A B : Nat → Prop} {U : State} {H : Heap} (h : vx_L C n d A U H) (hAB : ∀ q, B q → A q) : vx_L C n d B U H := by
  obtain ⟨c, k, i, f, a, cell, h1, h2, h3, h4, h5, h6, h7, h8, h9, h10⟩ := h
  exact ⟨c, k, i, f, a, cell, h1, h2, h3, h4, h5, h6, h7, h8, h9, fun z => h10 (hAB _ z)⟩
theorem vx_L.word {C n d : String} {A : Nat → Prop} {s : State} {args : Array Value} (h : vx_L C n d A s s.heap) : (Cond.laysStatic C n d).before args s = true := by
  obtain ⟨c, k, i, f, a, cell, h1, h2, h3, h4, h5, h6, h7, h8, h9, -⟩ := h
  show (Cond.laysStatic C n d).holds args s none s [] = true
  exact Cond.laysStatic_of h1 h2 h3 h4 h5 h6 h7 h8 h9
/-- .. and what it holds: null or some reference -/
def vx_Zq (C n d : String) (A : Nat → Prop) (U : State) (H : Heap) : Prop := va_Zq C n d A U H ∧ vx_L C n d A U H
theorem vx_Zq.moved {C n d : String} {A : Nat → Prop} {u U : State} {H : Heap} (hvm : u.vm.Alike U.vm) (h : vx_Zq C n d A u H) : vx_Zq C n d A U H := ⟨va_Zq.moved hvm h.1, vx_L.moved hvm h.2⟩
theorem vx_Zq.kept {C n d : String} {A : Nat → Prop} {U : State} {H H1 : Heap} (h : vx_Zq C n d A U H) (hq : ∀ a : Nat, a < H.size → ¬ A a → H1[a]? = H[a]?) : vx_Zq C n d A U H1 := ⟨va_Zq.kept h.1 hq, vx_L.kept h.2 hq⟩
theorem vx_Zq.narrow {C n d : String} {A B : Nat → Prop} {U : State} {H : Heap} (h : vx_Zq C n d A U H) (hAB : ∀ q, B q → A q) : vx_Zq C n d B U H := ⟨va_Zq.narrow h.1 hAB, vx_L.narrow h.2 hAB⟩
theorem vx_Zqof {args : Array Value} {s : State} {C n d : String} {A : Nat → Prop} (hl : (Cond.laysStatic C n d).before args s = true) (hini : (Cond.initialized C).before args s = true) (h : (Cond.isRef (.static C n d)).before args s = true) (hA : ∀ a : Nat, a < s.heap.size → ¬ A a) : vx_Zq C n d A s s.heap := by
  refine ⟨va_Zqof hl hini h hA, ?_⟩
  obtain ⟨c, k, i, f, a, cell, h1, h2, h3, h4, h5, h6, h7, h8, h9⟩ := Cond.laysStatic_spec hl
  exact ⟨c, k, i, f, a, cell, h1, h2, h3, h4, h5, h6, h7, h8, h9, hA a (Array.getElem?_eq_some_iff.mp h5).1⟩
theorem vx_isRef {C n d : String} {v : Value} {A : Nat → Prop} {s : State} {args : Array Value} (h : va_Z C n d v A s s.heap) (hv : v.isRef = true) : (Cond.isRef (.static C n d)).before args s = true := by
  obtain ⟨cf, kf, fi, f, a, cell, h1, h2, h3, h4, h5, h6, h7, -⟩ := h
  have he : (Term.static C n d).eval args s none [] s = some v := by
    simp [Term.eval, State.fieldNamed?, h1, h2, h4, h5, h6, h7]
  simp only [Cond.before, Cond.holds, Cond.value, he]
  cases v <;> simp_all [Value.isRef]
theorem vx_isRefq {C n d : String} {A : Nat → Prop} {s : State} {args : Array Value} (h : va_Zq C n d A s s.heap) : (Cond.isRef (.static C n d)).before args s = true := by
  rcases h with h | ⟨t, h⟩
  · exact vx_isRef h rfl
  · exact vx_isRef h rfl
/-- the same frame, seen from here: as if the method were called anew in this heap -/
theorem vx_rebase {T : State} (X : Stand p l e R s m args below meth c T locs cells slots) {R' : Room} (hf : R'.frames ≤ R.frames) (hl : R'.locals ≤ R.locals) (hc : cells + R'.cells ≤ R.cells) (hs : slots + R'.slots ≤ R.slots) :
    Stand p l e R' ((T.setVm s.vm).setFrames (.invoking m args :: below)) m args below meth c T [] 0 0 := by
  have htop : (T.setVm s.vm).topJava?.isSome := X.here.top
  have hF : ((T.setVm s.vm).setFrames (.invoking m args :: below)).frames = .invoking m args :: below := State.frames_setFrames _ (State.cur_lt_of_top htop)
  obtain ⟨g₀, hg0⟩ := Option.isSome_iff_exists.mp htop
  obtain ⟨r, hr⟩ := State.topJava?_eq_some.mp hg0
  have hl9 : e.platform.stackLimits (T.setVm s.vm).me = e.platform.stackLimits s.me := X.limits
  have hb9 : (T.setVm s.vm).me.stackBytes = s.me.stackBytes := X.bytes
  refine ⟨X.admits, X.cas, X.clock, hF, ?_, X.hears, X.method, X.code, X.here, X.tail, X.warmed, ?_, ?_, ?_⟩
  · have h := X.room
    have hU : ((T.setVm s.vm).setFrames (.invoking m args :: below)).localsInUse = s.localsInUse := by
      rw [State.localsInUse_invoking hF (meth := meth) (c := c) X.method X.code, State.localsInUse_invoking X.frames X.method X.code]
    simp only [State.hasRoom, Bool.and_eq_true, decide_eq_true_eq] at h ⊢
    obtain ⟨⟨⟨⟨h1, h2, h3, h4, h5, h6⟩, h7⟩, h8⟩, h9⟩ := h
    rw [X.frames, List.length_cons] at h2 h3
    have q1 := X.heapSize
    have q2 := X.used
    simp only [hF, hU, List.length_cons, State.stackLimits_setFrames, State.stackBytes_setFrames, hl9, hb9]
    refine ⟨⟨⟨⟨by omega, by omega, by omega, by omega, by omega, h6⟩, ?_⟩, ?_⟩, X.book⟩
    · show T.heap.size + R'.cells ≤ e.platform.maxCells
      omega
    · show T.slotsUsed + R'.slots ≤ e.platform.maxSlots
      omega
  · rw [State.stackLimits_setFrames]; rfl
  · rw [State.stackBytes_setFrames]; rfl
  · refine ⟨?_, Nat.le_refl _, Nat.le_refl _, ?_, ?_, fun a c9 h9 => ⟨c9, h9, rfl, rfl, fun _ _ => rfl⟩⟩
    · obtain ⟨t, ht, -⟩ := State.frames_cons hr
      show T.setVm s.vm = { ((T.setVm s.vm).setFrames (.invoking m args :: below)).setFrames (T.setVm s.vm).frames with heap := T.heap, slotsUsed := T.slotsUsed }
      rw [State.setFrames_setFrames, State.setFrames_self ht]
      rfl
    · show T.slotsUsed = T.slotsUsed + ((T.heap.toList.drop T.heap.size).map (·.slots.size)).sum
      rw [List.drop_eq_nil_of_le (Nat.le_of_eq Array.length_toList)]
      rfl
    · show ((T.heap.toList.drop T.heap.size).map (·.slots.size)).sum ≤ 0
      rw [List.drop_eq_nil_of_le (Nat.le_of_eq Array.length_toList)]
      exact Nat.le_refl _
/-- 'throw new E()': new; dup; invokespecial; athrow -/
theorem vx_throw0 {cc : ByteArray} {pc : Nat} (hexec : p.tables.exec = Jvm.exec) (hb : c.code = cc) (hl : l.stackTraces = false) {own cls : String} {names : List String} {ik ic mc ms : Nat} {A : Nat → Prop}
    (hown : s.vm.findClass own = some m.cls) (hcls : Bundle.fit cls = true) (hnames : ∀ n ∈ names, Bundle.fit n = true)
    (hk : (Cond.classLink own ik cls).before args s = true) (hini : (Cond.initialized cls).before args s = true) (hat : ∀ w ∈ vx_at0 own ic cls names, w.before args s = true)
    (hgood : ∀ w ∈ Cond.classLink own ik cls :: Cond.initialized cls :: vx_at0 own ic cls names, vx_ot w = true)
    (hU : vx_Zq Bundle.tN "UNASSIGNED_STACK" Bundle.steD A s s.heap) (hN : vx_Zq Bundle.tN "SUPPRESSED_SENTINEL" Bundle.listD A s s.heap) (hS : va_S A s.heap H locs) (hsize : ls.size = c.maxLocals)
    (d0 : decode cc pc = .ok (.new ik, 3)) (d3 : decode cc (pc + 3) = .ok (.dup, 1)) (d4 : decode cc (pc + 4) = .ok (.invokespecial ic, 3)) (d7 : decode cc (pc + 7) = .ok (.athrow, 1))
    (hout : ∀ x ∈ c.exceptionTable.toList, covers x (pc + 7) = false)
    (hRframes : names.length + 3 < R.frames) (hRlocals : (rest.map fun v => v.category).sum + (13 * (names.length + 1) + 42) ≤ R.locals) (hRcells : cells + 1 ≤ R.cells) (hRslots : slots + 6 ≤ R.slots) (hlocks : meth.locks = false)
    (hx : ∀ t : State, s.vm.Alike t.vm → H.size ≤ t.heap.size → (∀ q : Nat, q < H.size → t.heap[q]? = H[q]?) → XC cls s t)
    (hf : ∀ z ∈ locs, free z.base) (hc : cells + 1 ≤ mc) (hs : slots + 6 ≤ ms) :
    W p l e R s m args below meth c H locs cells slots (vx_MQ below Qc XC args s mc ms free) (F0 m pc ls rest) := by
  intro T hT X
  have htr : e.platform.stackTraces = false := (show e.platform.stackTraces = l.stackTraces by rw [X.admits.platform]).trans hl
  have Y := vx_rebase X (R' := { frames := R.frames, locals := R.locals, cells := 1, slots := 6 }) (Nat.le_refl _) (Nat.le_refl _) hRcells hRslots
  obtain ⟨s', hA⟩ : ∃ z, z = (T.setVm s.vm).setFrames (.invoking m args :: below) := ⟨_, rfl⟩
  rw [← hA] at Y
  have hvm : s'.vm = s.vm := by rw [hA]; rfl
  have hhp : s'.heap = H := by rw [hA]; exact hT
  have hW0 : s.WarmedH s'.vm := by rw [hvm]; exact State.WarmedH.refl s
  have hat' : ∀ w ∈ vx_at0 own ic cls names, w.before args s' = true := fun w hw => vx_ot_at hW0 hvm.symm (hgood w (List.mem_cons_of_mem _ (List.mem_cons_of_mem _ hw))) (hat w hw)
  have hk' : (Cond.classLink own ik cls).before args s' = true := vx_ot_at hW0 hvm.symm (hgood _ List.mem_cons_self) hk
  have hini' : (Cond.initialized cls).before args s' = true := vx_ot_at hW0 hvm.symm (hgood _ (List.mem_cons_of_mem _ List.mem_cons_self)) hini
  have hU' : vx_Zq Bundle.tN "UNASSIGNED_STACK" Bundle.steD A s' s'.heap := by rw [hhp]; exact vx_Zq.moved hW0.alike (hU.kept hS.2.1)
  have hN' : vx_Zq Bundle.tN "SUPPRESSED_SENTINEL" Bundle.listD A s' s'.heap := by rw [hhp]; exact vx_Zq.moved hW0.alike (hN.kept hS.2.1)
  have h : ∀ w ∈ Bundle.ownAtoms0 own ic cls names, w.before args s' = true := vx_own hat' (vx_isRefq hU'.1) (vx_isRefq hN'.1) hU'.2.word hN'.2.word
  have hown' : s'.vm.findClass own = some m.cls := by rw [hvm]; exact hown
  have hins : (Cond.instantiable cls 6).before args s' = true := h _ (by simp [Bundle.ownAtoms0])
  obtain ⟨vm₁, cX, kX, hfX, hkX, -, -, X₁, st1⟩ := Y.newCold hexec (own := own) (C := cls) (index := ik) (n := 6) hown' hk' hins hini'
    (g := F0 m pc ls rest) rfl (by rw [hb]; exact d0) (Nat.le_refl _) (Nat.le_refl _)
  generalize hT1 : (T.setVm vm₁).pushCell { cls := cX, slots := kX.instanceTypes.map defaultValue, vm := .none } = T1 at X₁ st1
  have hcat : (Value.ref T.heap.size).category = 1 := rfl
  have hcellA : T1.heap[T.heap.size]? = some (freshCell cX kX) := by rw [← hT1]; exact State.heap_pushCell_size _ _
  have d3' : decode c.code (pc + 3) = .ok (.dup, 1) := by rw [hb]; exact d3
  obtain ⟨U, hsteps, hrun, hend, hW, hsame, ce, hce, hO⟩ := X₁.ctorThrow0 hexec htr (own := own) (cls := cls) (names := names) (ic := ic) hown' hcls hnames h (fun x hx => nomatch hx) hfX hkX hcellA (by rw [hhp, hT]; exact Nat.le_refl _)
    (g := { method := m, pc := pc + 4, locals := ls, stack := .ref T.heap.size :: .ref T.heap.size :: rest, locked := none }) rfl hsize rfl rfl (rest := rest) rfl
    (by rw [hb]; exact d4) (by rw [hb]; exact d7) hout hRframes (by simp only [List.map_cons, List.sum_cons, hcat]; omega) hlocks
  obtain ⟨f1, f2⟩ := vx_frame hsame
  rw [hhp] at f1 f2
  have hWs : s.WarmedH U.vm := State.WarmedH.trans hW0 hW
  have hcl : s.vm.findClass cls = some ce.cls := by
    have h9 := hO.cls
    rw [hvm] at h9
    exact h9
  have hall : s.sameButNew ({ U with vm := s.vm } : State) locs mc ms := by
    subst hA
    obtain ⟨e1, e2⟩ := hsame
    rw [State.setFrames_setFrames] at e1
    have h2 : (T.setVm s.vm).sameButNew ({ U with vm := s.vm } : State) [] (0 + 1) (0 + 6) := ⟨e1, e2⟩
    have h3 := X.same.trans h2
    rw [List.append_nil] at h3
    exact h3.mono hc hs
  refine ⟨U, ?_, .threw T.heap.size, hrun, hend, Or.inr ⟨T.heap.size, rfl, cls, ce, locs, hx U hWs.alike f1 (fun q hq => f2 q hq (fun z hz => nomatch hz)), hce, hO.vm, hcl, hWs, hall, hf⟩⟩
  refine st1 _ ?_
  show Steps p.tables e below (T1.setTop { method := m, pc := pc + 3, locals := ls, stack := .ref T.heap.size :: rest, locked := none }) _
  jvm_step X₁.here [X₁.here.top, hexec, d3', Value.category]
  exact hsteps
/-- 'throw new E("text")': new; dup; ldc; invokespecial; athrow -/
theorem vx_throwS {cc : ByteArray} {pc : Nat} (hexec : p.tables.exec = Jvm.exec) (hb : c.code = cc) (hl : l.stackTraces = false) {own cls text : String} {names : List String} {ik is ic mc ms sa : Nat} {A : Nat → Prop}
    (hown : s.vm.findClass own = some m.cls) (hcls : Bundle.fit cls = true) (hnames : ∀ n ∈ names, Bundle.fit n = true)
    (hk : (Cond.classLink own ik cls).before args s = true) (hini : (Cond.initialized cls).before args s = true) (hstr : vk_R own is text sa s) (hat : ∀ w ∈ vx_atS own ic cls names, w.before args s = true)
    (hgood : ∀ w ∈ Cond.classLink own ik cls :: Cond.initialized cls :: vx_atS own ic cls names, vx_ot w = true)
    (hU : vx_Zq Bundle.tN "UNASSIGNED_STACK" Bundle.steD A s s.heap) (hN : vx_Zq Bundle.tN "SUPPRESSED_SENTINEL" Bundle.listD A s s.heap) (hS : va_S A s.heap H locs) (hsize : ls.size = c.maxLocals)
    (d0 : decode cc pc = .ok (.new ik, 3)) (d3 : decode cc (pc + 3) = .ok (.dup, 1)) (d4 : decode cc (pc + 4) = .ok (.ldc is, 2)) (d6 : decode cc (pc + 6) = .ok (.invokespecial ic, 3)) (d9 : decode cc (pc + 9) = .ok (.athrow, 1))
    (hout : ∀ x ∈ c.exceptionTable.toList, covers x (pc + 9) = false)
    (hRframes : names.length + 3 < R.frames) (hRlocals : (rest.map fun v => v.category).sum + (13 * (names.length + 1) + 43) ≤ R.locals) (hRcells : cells + 1 ≤ R.cells) (hRslots : slots + 6 ≤ R.slots) (hlocks : meth.locks = false)
    (hx : ∀ t : State, s.vm.Alike t.vm → H.size ≤ t.heap.size → (∀ q : Nat, q < H.size → t.heap[q]? = H[q]?) → XC cls s t)
    (hf : ∀ z ∈ locs, free z.base) (hc : cells + 1 ≤ mc) (hs : slots + 6 ≤ ms) :
    W p l e R s m args below meth c H locs cells slots (vx_MQ below Qc XC args s mc ms free) (F0 m pc ls rest) := by
  intro T hT X
  have htr : e.platform.stackTraces = false := (show e.platform.stackTraces = l.stackTraces by rw [X.admits.platform]).trans hl
  have Y := vx_rebase X (R' := { frames := R.frames, locals := R.locals, cells := 1, slots := 6 }) (Nat.le_refl _) (Nat.le_refl _) hRcells hRslots
  obtain ⟨s', hA⟩ : ∃ z, z = (T.setVm s.vm).setFrames (.invoking m args :: below) := ⟨_, rfl⟩
  rw [← hA] at Y
  have hvm : s'.vm = s.vm := by rw [hA]; rfl
  have hhp : s'.heap = H := by rw [hA]; exact hT
  have hW0 : s.WarmedH s'.vm := by rw [hvm]; exact State.WarmedH.refl s
  have hat' : ∀ w ∈ vx_atS own ic cls names, w.before args s' = true := fun w hw => vx_ot_at hW0 hvm.symm (hgood w (List.mem_cons_of_mem _ (List.mem_cons_of_mem _ hw))) (hat w hw)
  have hk' : (Cond.classLink own ik cls).before args s' = true := vx_ot_at hW0 hvm.symm (hgood _ List.mem_cons_self) hk
  have hini' : (Cond.initialized cls).before args s' = true := vx_ot_at hW0 hvm.symm (hgood _ (List.mem_cons_of_mem _ List.mem_cons_self)) hini
  have hU' : vx_Zq Bundle.tN "UNASSIGNED_STACK" Bundle.steD A s' s'.heap := by rw [hhp]; exact vx_Zq.moved hW0.alike (hU.kept hS.2.1)
  have hN' : vx_Zq Bundle.tN "SUPPRESSED_SENTINEL" Bundle.listD A s' s'.heap := by rw [hhp]; exact vx_Zq.moved hW0.alike (hN.kept hS.2.1)
  have h : ∀ w ∈ Bundle.ownAtoms own ic cls names, w.before args s' = true := vx_own hat' (vx_isRefq hU'.1) (vx_isRefq hN'.1) hU'.2.word hN'.2.word
  have hown' : s'.vm.findClass own = some m.cls := by rw [hvm]; exact hown
  have hins : (Cond.instantiable cls 6).before args s' = true := h _ (by simp [Bundle.ownAtoms])
  obtain ⟨vm₁, cX, kX, hfX, hkX, -, -, X₁, st1⟩ := Y.newCold hexec (own := own) (C := cls) (index := ik) (n := 6) hown' hk' hins hini'
    (g := F0 m pc ls rest) rfl (by rw [hb]; exact d0) (Nat.le_refl _) (Nat.le_refl _)
  generalize hT1 : (T.setVm vm₁).pushCell { cls := cX, slots := kX.instanceTypes.map defaultValue, vm := .none } = T1 at X₁ st1
  have hcat : (Value.ref T.heap.size).category = 1 := rfl
  have hcellA : T1.heap[T.heap.size]? = some (freshCell cX kX) := by rw [← hT1]; exact State.heap_pushCell_size _ _
  have d3' : decode c.code (pc + 3) = .ok (.dup, 1) := by rw [hb]; exact d3
  have d4' : decode c.code (pc + 4) = .ok (.ldc is, 2) := by rw [hb]; exact d4
  have hstr' : vk_R own is text sa s' := vk_R.warm hW0 hstr
  obtain ⟨U, hsteps, hrun, hend, hW, hsame, ce, hce, hO⟩ := X₁.ctorThrowS hexec htr (own := own) (cls := cls) (names := names) (ic := ic) hown' hcls hnames h (fun x hx => nomatch hx) hfX hkX hcellA (by rw [hhp, hT]; exact Nat.le_refl _) (msg := .ref sa) rfl
    (g := { method := m, pc := pc + 6, locals := ls, stack := .ref sa :: .ref T.heap.size :: .ref T.heap.size :: rest, locked := none }) rfl hsize rfl rfl (rest := rest) rfl
    (by rw [hb]; exact d6) (by rw [hb]; exact d9) hout hRframes (by simp only [List.map_cons, List.sum_cons, hcat]; omega) hlocks
  obtain ⟨f1, f2⟩ := vx_frame hsame
  rw [hhp] at f1 f2
  have hWs : s.WarmedH U.vm := State.WarmedH.trans hW0 hW
  have hcl : s.vm.findClass cls = some ce.cls := by
    have h9 := hO.cls
    rw [hvm] at h9
    exact h9
  have hall : s.sameButNew ({ U with vm := s.vm } : State) locs mc ms := by
    subst hA
    obtain ⟨e1, e2⟩ := hsame
    rw [State.setFrames_setFrames] at e1
    have h2 : (T.setVm s.vm).sameButNew ({ U with vm := s.vm } : State) [] (0 + 1) (0 + 6) := ⟨e1, e2⟩
    have h3 := X.same.trans h2
    rw [List.append_nil] at h3
    exact h3.mono hc hs
  refine ⟨U, ?_, .threw T.heap.size, hrun, hend, Or.inr ⟨T.heap.size, rfl, cls, ce, locs, hx U hWs.alike f1 (fun q hq => f2 q hq (fun z hz => nomatch hz)), hce, hO.vm, hcl, hWs, hall, hf⟩⟩
  refine st1 _ ?_
  show Steps p.tables e below (T1.setTop { method := m, pc := pc + 3, locals := ls, stack := .ref T.heap.size :: rest, locked := none }) _
  jvm_step X₁.here [X₁.here.top, hexec, d3', Value.category]
  exact X₁.ldcString hexec (own := own) (text := text) (index := is) (a := sa) hown' hstr'.1 hstr'.2
    (g := { method := m, pc := pc + 4, locals := ls, stack := .ref T.heap.size :: .ref T.heap.size :: rest, locked := none }) rfl d4' _ hsteps
/-- 'throw new E("text")', the text by a wide index -/
theorem vx_throwSW {cc : ByteArray} {pc : Nat} (hexec : p.tables.exec = Jvm.exec) (hb : c.code = cc) (hl : l.stackTraces = false) {own cls text : String} {names : List String} {ik is ic mc ms sa : Nat} {A : Nat → Prop}
    (hown : s.vm.findClass own = some m.cls) (hcls : Bundle.fit cls = true) (hnames : ∀ n ∈ names, Bundle.fit n = true)
    (hk : (Cond.classLink own ik cls).before args s = true) (hini : (Cond.initialized cls).before args s = true) (hstr : vk_R own is text sa s) (hat : ∀ w ∈ vx_atS own ic cls names, w.before args s = true)
    (hgood : ∀ w ∈ Cond.classLink own ik cls :: Cond.initialized cls :: vx_atS own ic cls names, vx_ot w = true)
    (hU : vx_Zq Bundle.tN "UNASSIGNED_STACK" Bundle.steD A s s.heap) (hN : vx_Zq Bundle.tN "SUPPRESSED_SENTINEL" Bundle.listD A s s.heap) (hS : va_S A s.heap H locs) (hsize : ls.size = c.maxLocals)
    (d0 : decode cc pc = .ok (.new ik, 3)) (d3 : decode cc (pc + 3) = .ok (.dup, 1)) (d4 : decode cc (pc + 4) = .ok (.ldc_w is, 3)) (d7 : decode cc (pc + 7) = .ok (.invokespecial ic, 3)) (d10 : decode cc (pc + 10) = .ok (.athrow, 1))
    (hout : ∀ x ∈ c.exceptionTable.toList, covers x (pc + 10) = false)
    (hRframes : names.length + 3 < R.frames) (hRlocals : (rest.map fun v => v.category).sum + (13 * (names.length + 1) + 43) ≤ R.locals) (hRcells : cells + 1 ≤ R.cells) (hRslots : slots + 6 ≤ R.slots) (hlocks : meth.locks = false)
    (hx : ∀ t : State, s.vm.Alike t.vm → H.size ≤ t.heap.size → (∀ q : Nat, q < H.size → t.heap[q]? = H[q]?) → XC cls s t)
    (hf : ∀ z ∈ locs, free z.base) (hc : cells + 1 ≤ mc) (hs : slots + 6 ≤ ms) :
    W p l e R s m args below meth c H locs cells slots (vx_MQ below Qc XC args s mc ms free) (F0 m pc ls rest) := by
  intro T hT X
  have htr : e.platform.stackTraces = false := (show e.platform.stackTraces = l.stackTraces by rw [X.admits.platform]).trans hl
  have Y := vx_rebase X (R' := { frames := R.frames, locals := R.locals, cells := 1, slots := 6 }) (Nat.le_refl _) (Nat.le_refl _) hRcells hRslots
  obtain ⟨s', hA⟩ : ∃ z, z = (T.setVm s.vm).setFrames (.invoking m args :: below) := ⟨_, rfl⟩
  rw [← hA] at Y
  have hvm : s'.vm = s.vm := by rw [hA]; rfl
  have hhp : s'.heap = H := by rw [hA]; exact hT
  have hW0 : s.WarmedH s'.vm := by rw [hvm]; exact State.WarmedH.refl s
  have hat' : ∀ w ∈ vx_atS own ic cls names, w.before args s' = true := fun w hw => vx_ot_at hW0 hvm.symm (hgood w (List.mem_cons_of_mem _ (List.mem_cons_of_mem _ hw))) (hat w hw)
  have hk' : (Cond.classLink own ik cls).before args s' = true := vx_ot_at hW0 hvm.symm (hgood _ List.mem_cons_self) hk
  have hini' : (Cond.initialized cls).before args s' = true := vx_ot_at hW0 hvm.symm (hgood _ (List.mem_cons_of_mem _ List.mem_cons_self)) hini
  have hU' : vx_Zq Bundle.tN "UNASSIGNED_STACK" Bundle.steD A s' s'.heap := by rw [hhp]; exact vx_Zq.moved hW0.alike (hU.kept hS.2.1)
  have hN' : vx_Zq Bundle.tN "SUPPRESSED_SENTINEL" Bundle.listD A s' s'.heap := by rw [hhp]; exact vx_Zq.moved hW0.alike (hN.kept hS.2.1)
  have h : ∀ w ∈ Bundle.ownAtoms own ic cls names, w.before args s' = true := vx_own hat' (vx_isRefq hU'.1) (vx_isRefq hN'.1) hU'.2.word hN'.2.word
  have hown' : s'.vm.findClass own = some m.cls := by rw [hvm]; exact hown
  have hins : (Cond.instantiable cls 6).before args s' = true := h _ (by simp [Bundle.ownAtoms])
  obtain ⟨vm₁, cX, kX, hfX, hkX, -, -, X₁, st1⟩ := Y.newCold hexec (own := own) (C := cls) (index := ik) (n := 6) hown' hk' hins hini'
    (g := F0 m pc ls rest) rfl (by rw [hb]; exact d0) (Nat.le_refl _) (Nat.le_refl _)
  generalize hT1 : (T.setVm vm₁).pushCell { cls := cX, slots := kX.instanceTypes.map defaultValue, vm := .none } = T1 at X₁ st1
  have hcat : (Value.ref T.heap.size).category = 1 := rfl
  have hcellA : T1.heap[T.heap.size]? = some (freshCell cX kX) := by rw [← hT1]; exact State.heap_pushCell_size _ _
  have d3' : decode c.code (pc + 3) = .ok (.dup, 1) := by rw [hb]; exact d3
  have d4' : decode c.code (pc + 4) = .ok (.ldc_w is, 3) := by rw [hb]; exact d4
  have hstr' : vk_R own is text sa s' := vk_R.warm hW0 hstr
  obtain ⟨U, hsteps, hrun, hend, hW, hsame, ce, hce, hO⟩ := X₁.ctorThrowS hexec htr (own := own) (cls := cls) (names := names) (ic := ic) hown' hcls hnames h (fun x hx => nomatch hx) hfX hkX hcellA (by rw [hhp, hT]; exact Nat.le_refl _) (msg := .ref sa) rfl
    (g := { method := m, pc := pc + 7, locals := ls, stack := .ref sa :: .ref T.heap.size :: .ref T.heap.size :: rest, locked := none }) rfl hsize rfl rfl (rest := rest) rfl
    (by rw [hb]; exact d7) (by rw [hb]; exact d10) hout hRframes (by simp only [List.map_cons, List.sum_cons, hcat]; omega) hlocks
  obtain ⟨f1, f2⟩ := vx_frame hsame
  rw [hhp] at f1 f2
  have hWs : s.WarmedH U.vm := State.WarmedH.trans hW0 hW
  have hcl : s.vm.findClass cls = some ce.cls := by
    have h9 := hO.cls
    rw [hvm] at h9
    exact h9
  have hall : s.sameButNew ({ U with vm := s.vm } : State) locs mc ms := by
    subst hA
    obtain ⟨e1, e2⟩ := hsame
    rw [State.setFrames_setFrames] at e1
    have h2 : (T.setVm s.vm).sameButNew ({ U with vm := s.vm } : State) [] (0 + 1) (0 + 6) := ⟨e1, e2⟩
    have h3 := X.same.trans h2
    rw [List.append_nil] at h3
    exact h3.mono hc hs
  refine ⟨U, ?_, .threw T.heap.size, hrun, hend, Or.inr ⟨T.heap.size, rfl, cls, ce, locs, hx U hWs.alike f1 (fun q hq => f2 q hq (fun z hz => nomatch hz)), hce, hO.vm, hcl, hWs, hall, hf⟩⟩
  refine st1 _ ?_
  show Steps p.tables e below (T1.setTop { method := m, pc := pc + 3, locals := ls, stack := .ref T.heap.size :: rest, locked := none }) _
  jvm_step X₁.here [X₁.here.top, hexec, d3', Value.category]
  exact X₁.ldcStringW hexec (own := own) (text := text) (index := is) (a := sa) hown' hstr'.1 hstr'.2
    (g := { method := m, pc := pc + 4, locals := ls, stack := .ref T.heap.size :: .ref T.heap.size :: rest, locked := none }) rfl d4' _ hsteps
end Ends
section Bodies
variable {l : Launch}
theorem vx_ofW {y : MethodName} {ws ws' : List Cond} {rm : Room} {Pc : Array Value → State → Prop} {Qc : Array Value → State → Outcome → State → Prop} {XC : String → State → State → Prop} {mc ms : Nat} {free : Addr → Prop} {cc : ByteArray} {maxL : Nat} {ret : Option FieldType}
    (hy : plainName y.cls = true) (hw : ws = Cond.code y cc maxL ret :: ws')
    (body : ∀ p e s m args below meth c s₁, BodyLoose p l y (headSpec ws rm) cc maxL ret e s m args below meth c s₁ → c.maxLocals = maxL → (∀ x ∈ c.exceptionTable.toList, False) → Pc args s →
      W p l e (headSpec ws rm).room s m args below meth c s.heap [] 0 0 (vx_MQ below Qc XC args s mc ms free) (entryFrame m args maxL)) : vx_Met l y ws rm Pc Qc XC mc ms free := by
  refine MetFree.of_bodyS (code := cc) (maxLocals := maxL) (ret := ret) hy ?_ ?_
  · intro args s m h hn
    obtain ⟨meth, c, h1, h2, h3, h4, h5, h6, -, -⟩ := Cond.code_spec hn (atoms_spec (ws := ws) h _ (by rw [hw]; exact List.mem_cons_self))
    exact ⟨meth, c, h1, h2, h3, h4, h5, h6⟩
  · intro p e s m args below meth c s₁ B hml hP _
    have hh0 : s₁.heap = s.heap := by rw [B.state]; rfl
    have ht : ∀ x ∈ c.exceptionTable.toList, False := by
      obtain ⟨meth9, c9, h1, h2, -, -, -, -, h7, -⟩ := Cond.code_spec B.named (atoms_spec (ws := ws) B.pre _ (by rw [hw]; exact List.mem_cons_self))
      cases Option.some.inj (h1.symm.trans B.method)
      cases Option.some.inj (h2.symm.trans (Stand.of_body B).code)
      intro x hx
      rw [Array.isEmpty_iff.mp h7] at hx
      cases hx
    obtain ⟨t, a1, o, b1, b2, b3⟩ := body p e s m args below meth c s₁ B hml ht hP s₁ hh0 (Stand.of_body B)
    exact ⟨t, o, a1, b1, b2, b3⟩
/-- the table of a body with handlers -/
theorem vx_table {p : Program} {x y : MethodName} {S : Spec} {cc bytes : ByteArray} {maxL maxL' : Nat} {ret ret' : Option FieldType} {e : Env} {s s₁ : State} {m : MethodId} {args : Array Value} {below : List Frame} {meth : Method} {c : Code} {hh : List (Nat × Nat × Nat × Nat)}
    (B : BodyLoose p l y S cc maxL ret e s m args below meth c s₁) (h : (Cond.codeWith y bytes maxL' ret' hh).before args s = true) : c.exceptionTable.toList = tableOf hh := by
  obtain ⟨m9, meth9, c9, hn9, h1, h2, -, -, h6, -⟩ := Cond.codeWith_spec h
  cases Option.some.inj (hn9.symm.trans B.named)
  cases Option.some.inj (h1.symm.trans B.method)
  cases Option.some.inj (h2.symm.trans (Stand.of_body B).code)
  rw [← h6, table_eq]
end Bodies
end VXA
/-! ===== END ===== -/
/-! ===== BEGIN a static call of a method with an exception table ===== -/
section VXS
variable {p : Program} {l : Launch} {e : Env} {R : Room} {s : State} {m : MethodId} {args : Array Value} {below : List Frame} {meth : Method} {c : Code} {T : State} {H : Heap} {locs : List Loc} {cells slots : Nat}
abbrev vx_CSW (R : Room) (s : State) (args : Array Value) (own : String) (index : Nat) (y : MethodName) (bytes : ByteArray) (maxL : Nat) (ret : Option FieldType) (hh : List (Nat × Nat × Nat × Nat)) (ws : List Cond) (rm : Room) (mc ms n : Nat) : Prop :=
  (rm.cells = mc ∧ rm.slots = ms ∧ rm.frames + 1 ≤ R.frames ∧ 8 + (maxL + 11) + rm.locals ≤ R.locals ∧ (∀ w ∈ ws, ∀ (a' : Array Value) (U : State), s.WarmedH U.vm → w.before a' U = true) ∧ Cond.codeWith y bytes maxL ret hh ∈ ws) ∧
  (Cond.codeWith y bytes maxL ret hh).before args s = true ∧ (Cond.initialized y.cls).before args s = true ∧ (y.cls ≠ "java/lang/invoke/MethodHandle" ∧ y.cls ≠ "java/lang/invoke/VarHandle") ∧
  (∀ sig, parseMethodDescriptor y.desc = some sig → n = sig.parameters.length) ∧ (Cond.methodLink own index y).before args s = true ∧ (Cond.static y).before args s = true
theorem vx_cwSW {own : String} {index maxL mc ms : Nat} {y : MethodName} {bytes : ByteArray} {ret : Option FieldType} {hh : List (Nat × Nat × Nat × Nat)} {Ts ws ws' : List Cond} {rm : Room} (n : Nat) (ht : ∀ w ∈ Ts, w.before args s = true) (hT : GoodIn Ts (va_wsS own index y ws)) (hw : ws = Cond.codeWith y bytes maxL ret hh :: ws') (hrc : rm.cells = mc) (hrs : rm.slots = ms)
    (hd : y.cls ≠ "java/lang/invoke/MethodHandle" ∧ y.cls ≠ "java/lang/invoke/VarHandle" ∧ (parseMethodDescriptor y.desc).map (fun d => d.parameters.length) = some n) (hR : rm.frames + 1 ≤ R.frames ∧ 8 + (maxL + 11) + rm.locals ≤ R.locals) :
    vx_CSW R s args own index y bytes maxL ret hh ws rm mc ms n := by
  have ok : ∀ w ∈ va_wsS own index y ws, w.before args s = true := fun w h => ht w (hT w h).1
  have hG : GoodIn Ts ws := fun w h => hT w (by unfold va_wsS; exact List.mem_append_right _ h)
  have hc : Cond.codeWith y bytes maxL ret hh ∈ ws := by rw [hw]; exact List.mem_cons_self
  refine ⟨⟨hrc, hrs, hR.1, hR.2, pay_in ht hG, hc⟩, ht _ (hG _ hc).1, ok _ (by simp [va_wsS]), ⟨hd.1, hd.2.1⟩, fun sig h => ?_, ok _ (by simp [va_wsS]), ok _ (by simp [va_wsS])⟩
  have h2 := hd.2.2
  rw [h] at h2
  exact (Option.some.inj h2).symm
theorem vx_callSW (X : Stand p l e R s m args below meth c T locs cells slots) (hexec : p.tables.exec = Jvm.exec) {own : String} {index : Nat} {y : MethodName} {bytes : ByteArray} {maxL : Nat} {ret : Option FieldType} {hh : List (Nat × Nat × Nat × Nat)}
    (hown : s.vm.findClass own = some m.cls) (hlink : (Cond.methodLink own index y).before args s = true) (hstat : (Cond.static y).before args s = true) (hinit : (Cond.initialized y.cls).before args s = true)
    (hcode : (Cond.codeWith y bytes maxL ret hh).before args s = true) (hy : y.cls ≠ "java/lang/invoke/MethodHandle" ∧ y.cls ≠ "java/lang/invoke/VarHandle")
    {W9 : Nat} {Pre : Pt → Array Value → Prop} {Post : Pt → Array Value → Option Value → Pt → Prop} (hK : Back l R p e below s args y 3 W9 Pre Post)
    {g : JFrame} (hg : g.method = m) (hsize : g.locals.size = c.maxLocals) {argsL rest : List Value} (hlen : ∀ sig, parseMethodDescriptor y.desc = some sig → argsL.length = sig.parameters.length)
    (hstack : g.stack = argsL.reverse ++ rest) (hW : 2 * g.monitorRoom + (rest.map fun v => v.category).sum ≤ W9) (hdg : decode c.code g.pc = .ok (.invokestatic index, 3))
    (hpre : ∀ vm₁, s.WarmedH vm₁ → Pre ⟨T.setVm vm₁, locs, cells, slots⟩ argsL.toArray) :
    ∃ (v : Option Value) (vm₁ : Vm) (B : Pt), s.WarmedH vm₁ ∧ Stand p l e R s m args below meth c B.U B.locs B.cells B.slots ∧ Post ⟨T.setVm vm₁, locs, cells, slots⟩ argsL.toArray v B ∧
      ∀ target, Steps p.tables e below (B.U.setTop { g with pc := g.pc + 3, stack := v.toList ++ rest }) target → Steps p.tables e below (T.setTop g) target := by
  obtain ⟨mk, methM, cM, hnamed, hmethM, -, -, -, -, -, -, hsigM⟩ := Cond.codeWith_spec hcode
  have hstatic : methM.isStatic = true := Cond.static_spec hnamed hmethM hstat
  obtain ⟨kP, hkP, -⟩ := className_of_methodNamed hnamed
  have hinitP : kP.init = .initialized := Cond.initialized_spec (findClass_of_methodNamed hnamed) hkP hinit
  obtain ⟨vm₁, X₁, hstep₁⟩ := X.invokestatic hexec hown hlink hnamed hmethM hstatic hkP hinitP hy (g := g) hg (argsL := argsL) (rest := rest) (hlen _ hsigM) hstack hdg
  obtain ⟨v, B, X', hpost, hsteps⟩ := hK m meth c ⟨T.setVm vm₁, locs, cells, slots⟩ { g with stack := rest } (.invokestatic index) mk argsL.toArray X₁ hg hsize hdg hW (X₁.named hnamed) (hpre vm₁ X₁.warmed)
  exact ⟨v, vm₁, B, X₁.warmed, X', hpost, fun target h => hstep₁ _ fun acts => by rw [doInvoke_state]; exact hsteps.trans h⟩
theorem vx_runSW {y : MethodName} {bytes cc : ByteArray} {maxL nL mc ms n index : Nat} {ret : Option FieldType} {hh : List (Nat × Nat × Nat × Nat)} {ws : List Cond} {rm : Room} {Pc : Array Value → State → Prop} {Qc : Array Value → State → Outcome → State → Prop} {free : Addr → Prop} {Ts : List Cond} {own : String} {As rest : List Value} {g : JFrame}
    (S : CallFix p m c cc nL s args Ts own) (hM : Met l y ws rm Pc Qc mc ms free) (cw : vx_CSW R s args own index y bytes maxL ret hh ws rm mc ms n) (hp : PreS s H Pc As)
    (hg : g.method = m) (hn : As.length = n) (hsize : g.locals.size = nL) (hstack : g.stack = As.reverse ++ rest) (hW : 2 * g.monitorRoom + (rest.map fun v => v.category).sum ≤ 8) (hdg : decode cc g.pc = .ok (.invokestatic index, 3)) (hf : cells + mc ≤ R.cells ∧ slots + ms ≤ R.slots) :
    va_Run p l e R s m args below meth c H locs cells slots mc ms g rest (Qc As.toArray) (free) := by
  obtain ⟨⟨hrc, hrs, hfr, hlo, hws, hcw⟩, hcode, hini, hy, hlen, hl, hstt⟩ := cw
  have hK : Back l R p e below s args y 3 8 (PreOf R mc ms Pc) (PostOf Qc mc ms free) := va_backW (hh := hh) (bytes := bytes) (maxL := maxL) (ret := ret) hM hp.1 hrc hrs hfr hlo hws hcw (fun a' U hW => word_at hW (Or.inl (by first | rfl | simp [Cond.onTables, Cond.keeps, Cond.steady])) hini)
  obtain ⟨hx, hb, hml, ho, -⟩ := S
  intro T hT X
  obtain ⟨v, vm₁, ⟨U', l2, c2, s2⟩, hW₁, X', ⟨g', mk, t, L, e1, e2, hq, h1, hL, h2, h3⟩, st⟩ := vx_callSW X hx (hh := hh) (bytes := bytes) (maxL := maxL) (ret := ret) ho hl hstt hini hcode hy hK hg (hsize.trans hml.symm) (argsL := As) (rest := rest) (fun sig h => hn.trans (hlen sig h)) hstack hW (by rw [hb]; exact hdg)
    (fun vm₁ hW₁ => ⟨hf.1, hf.2, hp.2 (T.setVm vm₁) hT hW₁⟩)
  dsimp only [Pt.U, Pt.locs, Pt.cells, Pt.slots] at X' e1 e2 h1 h2 h3 st
  subst h1; subst h2; subst h3
  exact ⟨v, (T.setVm vm₁).calling g' mk As.toArray, t, U', L, hT, X', hL, e1, e2, hq, st⟩
/-- not caught here, past rows that name other classes: it goes on to the caller -/
theorem vx_outP {p : Program} {l : Launch} {e : Env} {R : Room} {s : State} {m : MethodId} {args : Array Value} {below : List Frame} {meth : Method} {c : Code} {H : Heap} {locs : List Loc} {cells slots : Nat} {free : Addr → Prop} {ls : Array Slot} {rest : List Value} {Qc : Array Value → State → Outcome → State → Prop} {XC : String → State → State → Prop}
    {pc : Nat} {own E : String} {ce : Cell} {q : Addr} {mc ms : Nat} (hown : s.vm.findClass own = some m.cls) (hlocks : meth.locks = false)
    (hpass : ∀ z ∈ c.exceptionTable.toList, covers z pc = false ∨ (z.catchType ≠ 0 ∧ ∃ nm : String, (Cond.classLink own z.catchType nm).before args s = true ∧ va_Nc E nm s)) (hcell : H[q]? = some ce) (hv : ce.vm = .none) (hcl : s.vm.findClass E = some ce.cls)
    (hx : ∀ t : State, t.heap = H → s.vm.Alike t.vm → XC E s t) (hf : ∀ z ∈ locs, free z.base) (hc : cells ≤ mc) (hs : slots ≤ ms) :
    vx_W p l e R s m args below meth c H locs cells slots (vx_MQ below Qc XC args s mc ms free) (F0 m pc ls rest) q := by
  intro T hT X
  have hpl : e.platform.magicAccessors = ({} : Platform).magicAccessors := by rw [X.admits.platform]
  obtain ⟨vm', hW', X', st⟩ := X.outThrough hlocks q (g := F0 m pc ls rest) rfl rfl rfl (cell := ce) (by rw [hT]; exact hcell) (by rw [hv]; rfl)
    (by obtain ⟨k9, h9, -⟩ := Vm.findClass_spec hcl; exact ⟨k9, h9⟩) (fun z hz => by
      rcases hpass z hz with h | ⟨hz0, nm, hl1, hn1⟩
      · exact Or.inl h
      · obtain ⟨c6, hc6, hcl6⟩ := Cond.classLink_spec hown hl1 e.platform hpl
        obtain ⟨a8, b8, h1, h2, h3⟩ := hn1
        cases Option.some.inj (h1.symm.trans hcl)
        cases Option.some.inj (h2.symm.trans hc6)
        exact Or.inr ⟨hz0, _, hcl6, h3⟩)
  obtain ⟨g₀, hfr⟩ := X'.frames_eq
  have hcell9 : ((T.setVm vm').setFrames (.throwing q :: below)).heap[q]? = some ce := by
    show T.heap[q]? = some ce
    rw [hT]; exact hcell
  have hend : Ended ((T.setVm vm').setFrames (.throwing q :: below)) below (.threw q) := State.frames_setFrames _ (State.cur_lt_of_frames hfr)
  refine ⟨(T.setVm vm').setFrames (.throwing q :: below), ?_, .threw q, X'.here.running, hend, Or.inr ⟨q, rfl, E, ce, locs, hx _ hT (X'.ends _).1.alike, hcell9, hv, hcl, (X'.ends _).1, (X'.ends _).2.mono hc hs, hf⟩⟩
  rw [X.pushThrowing_eq]
  exact st
/-- a thing of a world lies in the heap -/
theorem vx_lt {D : va_G} {cl : List vw_C} {ws : va_W} {H1 : Heap} (h : va_P D cl ws H1) {k : Nat} {q : Nat × va_E} (hk : ws[k]? = some q) : q.1 < H1.size := (h k q hk).lt
end VXS
/-! ===== END ===== -/
/-! ===== BEGIN methods with a table of their own: called by a name, returning or throwing ===== -/
section VXH
/-! vx_backW, vx_callVX, vx_callSX, vx_callVW, vx_runVW, vx_runVX, vx_runSX, vx_ofWH follow the same proofs as their sisters above (Free/Laws.lean, Shelf42/LK1.lean); vx_outP calls Shelf42/NT130.lean (outThrough). -/
section
variable {l : Launch} {R : Room} {p : Program} {e : Env} {below : List Frame} {s : State} {sargs : Array Value} {y : MethodName} {len W9 : Nat}
theorem vx_backW {ws : List Cond} {rm : Room} {Pc : Array Value → State → Prop} {Qc : Array Value → State → Outcome → State → Prop} {XC : String → State → State → Prop} {mc ms : Nat} {free : Addr → Prop} {bytes : ByteArray} {maxL : Nat} {ret : Option FieldType} {hh : List (Nat × Nat × Nat × Nat)}
    (hM : vx_Met l y ws rm Pc Qc XC mc ms free) (hblind : FrameBlind Pc) (hrc : rm.cells = mc) (hrs : rm.slots = ms)
    (hframes : rm.frames + 1 ≤ R.frames) (hlocals : W9 + (maxL + 11) + rm.locals ≤ R.locals)
    (hws : ∀ w ∈ ws, ∀ a' U, s.WarmedH U.vm → w.before a' U = true) (hcode : Cond.codeWith y bytes maxL ret hh ∈ ws) (hinit : ∀ a' U, s.WarmedH U.vm → (Cond.initialized y.cls).before a' U = true) :
    vx_Back l R p e below s sargs y len W9 (PreOf R mc ms Pc) (PostOf Qc mc ms free) (vx_Post XC mc ms free) := by
  intro m meth c A g ig mk a X hg hsize hdg hW hn hp
  have h1 : (headSpec ws rm).pre.before a A.U = true := atoms_intro fun w hw => hws w hw _ _ X.warmed
  have h2 : (Cond.codeWith y bytes maxL ret hh).before a A.U = true := hws _ hcode _ _ X.warmed
  have h3 : (Cond.initialized y.cls).before a A.U = true := hinit _ _ X.warmed
  have h4 : A.cells + (headSpec ws rm).room.cells ≤ R.cells := by rw [show (headSpec ws rm).room.cells = mc from hrc]; exact hp.1
  have h5 : A.slots + (headSpec ws rm).room.slots ≤ R.slots := by rw [show (headSpec ws rm).room.slots = ms from hrs]; exact hp.2.1
  have hPc : Pc a (A.U.calling g mk a) := hblind _ _ _ _ hp.2.2
  obtain ⟨U, Ls, c0, s0⟩ := A
  dsimp only [Pt.U, Pt.locs, Pt.cells, Pt.slots] at h1 h2 h3 h4 h5 X hn hPc ⊢
  obtain ⟨m9, methY, cY, hn9, hmY, hcY, -, hlY, -⟩ := Cond.codeWith_spec h2
  cases Option.some.inj (hn9.symm.trans hn)
  obtain ⟨kY, hkY, -⟩ := className_of_methodNamed hn
  have hinitY : kY.init = .initialized := Cond.initialized_spec (findClass_of_methodNamed hn) hkY h3
  have h : At U g.method c below := by rw [hg]; exact X.here
  have hlocals9 : W9 + (maxL + 11) + (headSpec ws rm).room.locals ≤ R.locals := hlocals
  have happ : (headSpec ws rm).appliesLoose y e.platform (U.calling g mk a) = true :=
    Spec.appliesLoose_calling (g := g) h hdg hn hkY hinitY
      (X.room_calling (g := g) (R' := (headSpec ws rm).room) hsize hmY hcY hframes (by rw [hlY]; omega) h4 h5) h1
  obtain ⟨mid, hmid⟩ := h.above
  have hfr : (U.setTop g).frames = (.java g :: mid) ++ below := by rw [State.frames_setTop' g h.top, hmid]; rfl
  obtain ⟨o, s₂, hsteps, -, hend, hq⟩ := Steps.callFree hM p X.admits X.cas X.clock (acts := []) hfr happ hPc trivial
  have hq' : vx_Q Qc XC mc ms free a (U.calling g mk a) o s₂ := hq
  rw [State.frames_setTop' g h.top] at hend
  obtain ⟨g₀, hg0⟩ := Option.isSome_iff_exists.mp h.top
  obtain ⟨r, hr⟩ := State.topJava?_eq_some.mp hg0
  have hr' : (({ U with heap := s₂.heap, slotsUsed := s₂.slotsUsed } : State).setVm s₂.vm).frames = .java g₀ :: r := hr
  rcases hq' with ⟨hqc, L, hfe, hL⟩ | ⟨q, rfl, E, ce, L, hx, hce, hcv, hcl, hW₂, hsm, hL⟩
  · obtain ⟨⟨v, rfl⟩, hW₂, e2, q2, q3, q4, q5, q6⟩ := id hfe
    have e3 : s₂ = ({ (U.calling g mk a).setFrames s₂.frames with heap := s₂.heap, slotsUsed := s₂.slotsUsed } : State).setVm s₂.vm := by
      have : s₂ = ({ s₂ with vm := (U.calling g mk a).vm } : State).setVm s₂.vm := rfl
      rw [e2] at this
      exact this
    obtain ⟨c₂, i₂, len₂, hc₂, hd₂, hf₂⟩ := hend
    have hW' : U.WarmedH s₂.vm := hW₂
    have hcc : c₂ = c := by
      have h1 : s₂.code? g.method = U.code? g.method := by
        rw [State.code?_eq, State.code?_eq, hW'.alike.method?]
      exact Option.some.inj (hc₂.symm.trans (h1.trans h.code))
    subst hcc
    have hlen : len₂ = len := by rw [hdg] at hd₂; cases hd₂; rfl
    subst hlen
    have hs₂ : s₂ = (({ U with heap := s₂.heap, slotsUsed := s₂.slotsUsed } : State).setVm s₂.vm).setTop { g with pc := g.pc + len₂, stack := v.toList ++ g.stack } := by
      refine e3.trans ?_
      rw [hf₂, State.calling_eq h.top, State.setFrames_setFrames, State.setTop_of_frames _ hr', hr]
      rfl
    have hsame : U.sameButNew ({ U with heap := s₂.heap, slotsUsed := s₂.slotsUsed } : State) L mc ms := by
      refine ⟨?_, q2, q3, q4, q5, q6⟩
      obtain ⟨t, ht, -⟩ := State.frames_cons hr
      show ({ U with heap := s₂.heap, slotsUsed := s₂.slotsUsed } : State) = { U.setFrames U.frames with heap := s₂.heap, slotsUsed := s₂.slotsUsed }
      rw [State.setFrames_self ht]
    subst hg
    refine Or.inl ⟨v, ⟨(({ U with heap := s₂.heap, slotsUsed := s₂.slotsUsed } : State).setVm s₂.vm), Ls ++ L, c0 + mc, s0 + ms⟩,
      ⟨X.admits, X.cas, X.clock, X.frames, X.room, X.hears, X.method, X.code, (X.here.setHeapUsed s₂.heap s₂.slotsUsed).setVm hW'.alike, X.tail, State.WarmedH.trans X.warmed hW', X.limits, X.bytes, X.same.trans (hsame.setVm s.vm)⟩,
      ⟨g, mk, s₂, L, rfl, rfl, hqc, rfl, hL, rfl, rfl⟩, ?_⟩
    show Steps p.tables e below _ ((({ U with heap := s₂.heap, slotsUsed := s₂.slotsUsed } : State).setVm s₂.vm).setTop { g with pc := g.pc + len₂, stack := v.toList ++ g.stack })
    rw [← hs₂]
    exact hsteps
  · obtain ⟨e2, q2, q3, q4, q5, q6⟩ := id hsm
    have e3 : s₂ = ({ (U.calling g mk a).setFrames s₂.frames with heap := s₂.heap, slotsUsed := s₂.slotsUsed } : State).setVm s₂.vm := by
      have : s₂ = ({ s₂ with vm := (U.calling g mk a).vm } : State).setVm s₂.vm := rfl
      rw [e2] at this
      exact this
    have hf₂ : s₂.frames = .throwing q :: .java g :: U.frames.tail := hend
    have hW' : U.WarmedH s₂.vm := hW₂
    have hs₂ : s₂ = ((({ U with heap := s₂.heap, slotsUsed := s₂.slotsUsed } : State).setVm s₂.vm).setTop g).pushFrame (.throwing q) := by
      refine e3.trans ?_
      rw [hf₂, State.calling_eq h.top, State.setFrames_setFrames, State.pushFrame, State.frames_setTop _ hr', State.setTop_of_frames _ hr', State.setFrames_setFrames, hr]
      rfl
    have hsame : U.sameButNew ({ U with heap := s₂.heap, slotsUsed := s₂.slotsUsed } : State) L mc ms := by
      refine ⟨?_, q2, q3, q4, q5, q6⟩
      obtain ⟨t, ht, -⟩ := State.frames_cons hr
      show ({ U with heap := s₂.heap, slotsUsed := s₂.slotsUsed } : State) = { U.setFrames U.frames with heap := s₂.heap, slotsUsed := s₂.slotsUsed }
      rw [State.setFrames_self ht]
    subst hg
    refine Or.inr ⟨q, ⟨(({ U with heap := s₂.heap, slotsUsed := s₂.slotsUsed } : State).setVm s₂.vm), Ls ++ L, c0 + mc, s0 + ms⟩,
      ⟨X.admits, X.cas, X.clock, X.frames, X.room, X.hears, X.method, X.code, (X.here.setHeapUsed s₂.heap s₂.slotsUsed).setVm hW'.alike, X.tail, State.WarmedH.trans X.warmed hW', X.limits, X.bytes, X.same.trans (hsame.setVm s.vm)⟩,
      ⟨g, mk, s₂, L, E, ce, rfl, rfl, hx, hce, hcv, hcl, rfl, hL, rfl, rfl⟩, ?_⟩
    show Steps p.tables e below _ (((({ U with heap := s₂.heap, slotsUsed := s₂.slotsUsed } : State).setVm s₂.vm).setTop g).pushFrame (.throwing q))
    rw [← hs₂]
    exact hsteps
end
variable {p : Program} {l : Launch} {e : Env} {R : Room} {s : State} {m : MethodId} {args : Array Value} {below : List Frame} {meth : Method} {c : Code} {T : State} {H : Heap} {locs : List Loc} {cells slots : Nat}
theorem vx_callVX (X : Stand p l e R s m args below meth c T locs cells slots) (hexec : p.tables.exec = Jvm.exec) {own C : String} {index : Nat} {y : MethodName} {bytes : ByteArray} {maxL : Nat} {ret : Option FieldType} {hh : List (Nat × Nat × Nat × Nat)}
    (hown : s.vm.findClass own = some m.cls) (hlink : (Cond.methodLink own index y).before args s = true) (hinst : (Cond.instanceMethod y).before args s = true) (hsel : (Cond.selects C y y).before args s = true)
    (hcode : (Cond.codeWith y bytes maxL ret hh).before args s = true) (hy : y.cls ≠ "java/lang/invoke/MethodHandle" ∧ y.cls ≠ "java/lang/invoke/VarHandle")
    {W9 : Nat} {Pre : Pt → Array Value → Prop} {Post : Pt → Array Value → Option Value → Pt → Prop} {PostX : Pt → Array Value → Addr → Pt → Prop} (hK : vx_Back l R p e below s args y 3 W9 Pre Post PostX)
    {b : Addr} {cellB : Cell} (hcell : T.heap[b]? = some cellB) (hobj : cellB.vm.isStatics = false) (hcls : s.vm.findClass C = some cellB.cls)
    {g : JFrame} (hg : g.method = m) (hsize : g.locals.size = c.maxLocals) {argsL rest : List Value} (hlen : ∀ sig, parseMethodDescriptor y.desc = some sig → argsL.length = sig.parameters.length)
    (hstack : g.stack = argsL.reverse ++ .ref b :: rest) (hW : 2 * g.monitorRoom + (rest.map fun v => v.category).sum ≤ W9) (hdg : decode c.code g.pc = .ok (.invokevirtual index, 3))
    (hpre : ∀ vm₁, s.WarmedH vm₁ → Pre ⟨T.setVm vm₁, locs, cells, slots⟩ (Value.ref b :: argsL).toArray) :
    (∃ (v : Option Value) (vm₁ : Vm) (B : Pt), s.WarmedH vm₁ ∧ Stand p l e R s m args below meth c B.U B.locs B.cells B.slots ∧ Post ⟨T.setVm vm₁, locs, cells, slots⟩ (Value.ref b :: argsL).toArray v B ∧
      ∀ target, Steps p.tables e below (B.U.setTop { g with pc := g.pc + 3, stack := v.toList ++ rest }) target → Steps p.tables e below (T.setTop g) target) ∨
    (∃ (q : Addr) (vm₁ : Vm) (B : Pt), s.WarmedH vm₁ ∧ Stand p l e R s m args below meth c B.U B.locs B.cells B.slots ∧ PostX ⟨T.setVm vm₁, locs, cells, slots⟩ (Value.ref b :: argsL).toArray q B ∧
      Steps p.tables e below (T.setTop g) ((B.U.setTop { g with stack := rest }).pushFrame (.throwing q))) := by
  obtain ⟨mk, methM, hnamed, hmethM, hstM, habM⟩ := Cond.instanceMethod_spec hinst
  obtain ⟨m8, methM', cM, hn8, hmethM', -, -, -, -, -, -, hsigM⟩ := Cond.codeWith_spec hcode
  cases Option.some.inj (hn8.symm.trans hnamed)
  cases hmethM.symm.trans hmethM'
  obtain ⟨c2, r2, m2, q1, q2, q3, q4, kP, hkP, hkPi⟩ := Cond.selects_spec hsel
  cases hcls.symm.trans q1
  cases (State.methodFound?_of_named hnamed hy).symm.trans q2
  cases hnamed.symm.trans q3
  have hselP : selectMethod e.platform s.vm cellB.cls mk = .method mk := by rw [Launch.admits_selectMethod X.admits]; exact q4
  obtain ⟨vm₁, X₁, hstep₁⟩ := X.invokevirtual hexec hown hlink hnamed hmethM hstM hkP hkPi hy (a := b) (cell := cellB) hcell
    (fun z h => by rw [h] at hobj; cases hobj) hselP hmethM habM hkP hkPi (g := g) hg (argsL := argsL) (rest := rest) (hlen _ hsigM) hstack hdg
  rcases hK m meth c ⟨T.setVm vm₁, locs, cells, slots⟩ { g with stack := rest } (.invokevirtual index) mk (Value.ref b :: argsL).toArray X₁ hg hsize hdg hW (X₁.named hnamed) (hpre vm₁ X₁.warmed) with ⟨v, B, X', hpost, hsteps⟩ | ⟨q, B, X', hpost, hsteps⟩
  · exact Or.inl ⟨v, vm₁, B, X₁.warmed, X', hpost, fun target h => hstep₁ _ fun acts => by rw [doInvoke_state]; exact hsteps.trans h⟩
  · exact Or.inr ⟨q, vm₁, B, X₁.warmed, X', hpost, hstep₁ _ fun acts => by rw [doInvoke_state]; exact hsteps⟩
theorem vx_callSX (X : Stand p l e R s m args below meth c T locs cells slots) (hexec : p.tables.exec = Jvm.exec) {own : String} {index : Nat} {y : MethodName} {bytes : ByteArray} {maxL : Nat} {ret : Option FieldType} {hh : List (Nat × Nat × Nat × Nat)}
    (hown : s.vm.findClass own = some m.cls) (hlink : (Cond.methodLink own index y).before args s = true) (hstat : (Cond.static y).before args s = true) (hinit : (Cond.initialized y.cls).before args s = true)
    (hcode : (Cond.codeWith y bytes maxL ret hh).before args s = true) (hy : y.cls ≠ "java/lang/invoke/MethodHandle" ∧ y.cls ≠ "java/lang/invoke/VarHandle")
    {W9 : Nat} {Pre : Pt → Array Value → Prop} {Post : Pt → Array Value → Option Value → Pt → Prop} {PostX : Pt → Array Value → Addr → Pt → Prop} (hK : vx_Back l R p e below s args y 3 W9 Pre Post PostX)
    {g : JFrame} (hg : g.method = m) (hsize : g.locals.size = c.maxLocals) {argsL rest : List Value} (hlen : ∀ sig, parseMethodDescriptor y.desc = some sig → argsL.length = sig.parameters.length)
    (hstack : g.stack = argsL.reverse ++ rest) (hW : 2 * g.monitorRoom + (rest.map fun v => v.category).sum ≤ W9) (hdg : decode c.code g.pc = .ok (.invokestatic index, 3))
    (hpre : ∀ vm₁, s.WarmedH vm₁ → Pre ⟨T.setVm vm₁, locs, cells, slots⟩ argsL.toArray) :
    (∃ (v : Option Value) (vm₁ : Vm) (B : Pt), s.WarmedH vm₁ ∧ Stand p l e R s m args below meth c B.U B.locs B.cells B.slots ∧ Post ⟨T.setVm vm₁, locs, cells, slots⟩ argsL.toArray v B ∧
      ∀ target, Steps p.tables e below (B.U.setTop { g with pc := g.pc + 3, stack := v.toList ++ rest }) target → Steps p.tables e below (T.setTop g) target) ∨
    (∃ (q : Addr) (vm₁ : Vm) (B : Pt), s.WarmedH vm₁ ∧ Stand p l e R s m args below meth c B.U B.locs B.cells B.slots ∧ PostX ⟨T.setVm vm₁, locs, cells, slots⟩ argsL.toArray q B ∧
      Steps p.tables e below (T.setTop g) ((B.U.setTop { g with stack := rest }).pushFrame (.throwing q))) := by
  obtain ⟨mk, methM, cM, hnamed, hmethM, -, -, -, -, -, -, hsigM⟩ := Cond.codeWith_spec hcode
  have hstatic : methM.isStatic = true := Cond.static_spec hnamed hmethM hstat
  obtain ⟨kP, hkP, -⟩ := className_of_methodNamed hnamed
  have hinitP : kP.init = .initialized := Cond.initialized_spec (findClass_of_methodNamed hnamed) hkP hinit
  obtain ⟨vm₁, X₁, hstep₁⟩ := X.invokestatic hexec hown hlink hnamed hmethM hstatic hkP hinitP hy (g := g) hg (argsL := argsL) (rest := rest) (hlen _ hsigM) hstack hdg
  rcases hK m meth c ⟨T.setVm vm₁, locs, cells, slots⟩ { g with stack := rest } (.invokestatic index) mk argsL.toArray X₁ hg hsize hdg hW (X₁.named hnamed) (hpre vm₁ X₁.warmed) with ⟨v, B, X', hpost, hsteps⟩ | ⟨q, B, X', hpost, hsteps⟩
  · exact Or.inl ⟨v, vm₁, B, X₁.warmed, X', hpost, fun target h => hstep₁ _ fun acts => by rw [doInvoke_state]; exact hsteps.trans h⟩
  · exact Or.inr ⟨q, vm₁, B, X₁.warmed, X', hpost, hstep₁ _ fun acts => by rw [doInvoke_state]; exact hsteps⟩
theorem vx_callVW (X : Stand p l e R s m args below meth c T locs cells slots) (hexec : p.tables.exec = Jvm.exec) {own C : String} {index : Nat} {y : MethodName} {bytes : ByteArray} {maxL : Nat} {ret : Option FieldType} {hh : List (Nat × Nat × Nat × Nat)}
    (hown : s.vm.findClass own = some m.cls) (hlink : (Cond.methodLink own index y).before args s = true) (hinst : (Cond.instanceMethod y).before args s = true) (hsel : (Cond.selects C y y).before args s = true)
    (hcode : (Cond.codeWith y bytes maxL ret hh).before args s = true) (hy : y.cls ≠ "java/lang/invoke/MethodHandle" ∧ y.cls ≠ "java/lang/invoke/VarHandle")
    {W9 : Nat} {Pre : Pt → Array Value → Prop} {Post : Pt → Array Value → Option Value → Pt → Prop} (hK : Back l R p e below s args y 3 W9 Pre Post)
    {b : Addr} {cellB : Cell} (hcell : T.heap[b]? = some cellB) (hobj : cellB.vm.isStatics = false) (hcls : s.vm.findClass C = some cellB.cls)
    {g : JFrame} (hg : g.method = m) (hsize : g.locals.size = c.maxLocals) {argsL rest : List Value} (hlen : ∀ sig, parseMethodDescriptor y.desc = some sig → argsL.length = sig.parameters.length)
    (hstack : g.stack = argsL.reverse ++ .ref b :: rest) (hW : 2 * g.monitorRoom + (rest.map fun v => v.category).sum ≤ W9) (hdg : decode c.code g.pc = .ok (.invokevirtual index, 3))
    (hpre : ∀ vm₁, s.WarmedH vm₁ → Pre ⟨T.setVm vm₁, locs, cells, slots⟩ (Value.ref b :: argsL).toArray) :
    ∃ (v : Option Value) (vm₁ : Vm) (B : Pt), s.WarmedH vm₁ ∧ Stand p l e R s m args below meth c B.U B.locs B.cells B.slots ∧ Post ⟨T.setVm vm₁, locs, cells, slots⟩ (Value.ref b :: argsL).toArray v B ∧
      ∀ target, Steps p.tables e below (B.U.setTop { g with pc := g.pc + 3, stack := v.toList ++ rest }) target → Steps p.tables e below (T.setTop g) target := by
  obtain ⟨mk, methM, hnamed, hmethM, hstM, habM⟩ := Cond.instanceMethod_spec hinst
  obtain ⟨m8, methM', cM, hn8, hmethM', -, -, -, -, -, -, hsigM⟩ := Cond.codeWith_spec hcode
  cases Option.some.inj (hn8.symm.trans hnamed)
  cases hmethM.symm.trans hmethM'
  obtain ⟨c2, r2, m2, q1, q2, q3, q4, kP, hkP, hkPi⟩ := Cond.selects_spec hsel
  cases hcls.symm.trans q1
  cases (State.methodFound?_of_named hnamed hy).symm.trans q2
  cases hnamed.symm.trans q3
  have hselP : selectMethod e.platform s.vm cellB.cls mk = .method mk := by rw [Launch.admits_selectMethod X.admits]; exact q4
  obtain ⟨vm₁, X₁, hstep₁⟩ := X.invokevirtual hexec hown hlink hnamed hmethM hstM hkP hkPi hy (a := b) (cell := cellB) hcell
    (fun z h => by rw [h] at hobj; cases hobj) hselP hmethM habM hkP hkPi (g := g) hg (argsL := argsL) (rest := rest) (hlen _ hsigM) hstack hdg
  obtain ⟨v, B, X', hpost, hsteps⟩ := hK m meth c ⟨T.setVm vm₁, locs, cells, slots⟩ { g with stack := rest } (.invokevirtual index) mk (Value.ref b :: argsL).toArray X₁ hg hsize hdg hW (X₁.named hnamed) (hpre vm₁ X₁.warmed)
  exact ⟨v, vm₁, B, X₁.warmed, X', hpost, fun target h => hstep₁ _ fun acts => by rw [doInvoke_state]; exact hsteps.trans h⟩
abbrev vx_CVW (R : Room) (s : State) (args : Array Value) (own C : String) (index : Nat) (y : MethodName) (bytes : ByteArray) (maxL : Nat) (ret : Option FieldType) (hh : List (Nat × Nat × Nat × Nat)) (ws : List Cond) (rm : Room) (mc ms n : Nat) : Prop :=
  (rm.cells = mc ∧ rm.slots = ms ∧ rm.frames + 1 ≤ R.frames ∧ 8 + (maxL + 11) + rm.locals ≤ R.locals ∧ (∀ w ∈ ws, ∀ (a' : Array Value) (U : State), s.WarmedH U.vm → w.before a' U = true) ∧ Cond.codeWith y bytes maxL ret hh ∈ ws) ∧
  (Cond.codeWith y bytes maxL ret hh).before args s = true ∧ (Cond.initialized y.cls).before args s = true ∧ (y.cls ≠ "java/lang/invoke/MethodHandle" ∧ y.cls ≠ "java/lang/invoke/VarHandle") ∧
  (∀ sig, parseMethodDescriptor y.desc = some sig → n = sig.parameters.length) ∧ (Cond.methodLink own index y).before args s = true ∧ (Cond.instanceMethod y).before args s = true ∧ (Cond.selects C y y).before args s = true
theorem vx_cwVW {own C : String} {index maxL mc ms : Nat} {y : MethodName} {bytes : ByteArray} {ret : Option FieldType} {hh : List (Nat × Nat × Nat × Nat)} {Ts ws ws' : List Cond} {rm : Room} (n : Nat) (ht : ∀ w ∈ Ts, w.before args s = true) (hT : GoodIn Ts (wsV own index C y ws)) (hw : ws = Cond.codeWith y bytes maxL ret hh :: ws') (hrc : rm.cells = mc) (hrs : rm.slots = ms)
    (hd : y.cls = C ∧ y.cls ≠ "java/lang/invoke/MethodHandle" ∧ y.cls ≠ "java/lang/invoke/VarHandle" ∧ (parseMethodDescriptor y.desc).map (fun d => d.parameters.length) = some n) (hR : rm.frames + 1 ≤ R.frames ∧ 8 + (maxL + 11) + rm.locals ≤ R.locals) :
    vx_CVW R s args own C index y bytes maxL ret hh ws rm mc ms n := by
  obtain ⟨hC, hd⟩ := hd
  subst hC
  have ok : ∀ w ∈ wsV own index y.cls y ws, w.before args s = true := fun w h => ht w (hT w h).1
  have hG : GoodIn Ts ws := fun w h => hT w (by unfold wsV; exact List.mem_append_right _ h)
  have hc : Cond.codeWith y bytes maxL ret hh ∈ ws := by rw [hw]; exact List.mem_cons_self
  refine ⟨⟨hrc, hrs, hR.1, hR.2, pay_in ht hG, hc⟩, ht _ (hG _ hc).1, ok _ (by simp [wsV]), ⟨hd.1, hd.2.1⟩, fun sig h => ?_, ok _ (by simp [wsV]), ok _ (by simp [wsV]), ok _ (by simp [wsV])⟩
  have h2 := hd.2.2
  rw [h] at h2
  exact (Option.some.inj h2).symm
theorem vx_runVW {y : MethodName} {bytes cc : ByteArray} {maxL nL mc ms n index : Nat} {ret : Option FieldType} {hh : List (Nat × Nat × Nat × Nat)} {ws : List Cond} {rm : Room} {Pc : Array Value → State → Prop} {Qc : Array Value → State → Outcome → State → Prop} {free : Addr → Prop} {Ts : List Cond} {own C : String} {b : Addr} {As rest : List Value} {g : JFrame}
    (S : CallFix p m c cc nL s args Ts own) (hM : Met l y ws rm Pc Qc mc ms free) (cw : vx_CVW R s args own C index y bytes maxL ret hh ws rm mc ms n) (hp : PreV s H C b Pc As)
    (hg : g.method = m) (hn : As.length = n) (hsize : g.locals.size = nL) (hstack : g.stack = As.reverse ++ .ref b :: rest) (hW : 2 * g.monitorRoom + (rest.map fun v => v.category).sum ≤ 8) (hdg : decode cc g.pc = .ok (.invokevirtual index, 3)) (hf : cells + mc ≤ R.cells ∧ slots + ms ≤ R.slots) :
    va_Run p l e R s m args below meth c H locs cells slots mc ms g rest (Qc (Value.ref b :: As).toArray) free := by
  obtain ⟨⟨hrc, hrs, hfr, hlo, hws, hcw⟩, hcode, hini, hy, hlen, hl, hin, hse⟩ := cw
  have hK : Back l R p e below s args y 3 8 (PreOf R mc ms Pc) (PostOf Qc mc ms free) := va_backW (hh := hh) (bytes := bytes) (maxL := maxL) (ret := ret) hM hp.1 hrc hrs hfr hlo hws hcw (fun a' U hW => word_at hW (Or.inl (by first | rfl | simp [Cond.onTables, Cond.keeps, Cond.steady])) hini)
  obtain ⟨hx, hb, hml, ho, -⟩ := S
  obtain ⟨-, ⟨cellB, hcB, hoB, hclB⟩, hPc⟩ := hp
  intro T hT X
  obtain ⟨v, vm₁, ⟨U', l2, c2, s2⟩, hW₁, X', ⟨g', mk, t, L, e1, e2, hq, h1, hL, h2, h3⟩, st⟩ := vx_callVW X hx (C := C) (hh := hh) (bytes := bytes) (maxL := maxL) (ret := ret) ho hl hin hse hcode hy hK (by rw [hT]; exact hcB) hoB hclB hg (hsize.trans hml.symm) (argsL := As) (rest := rest) (fun sig h => hn.trans (hlen sig h)) hstack hW (by rw [hb]; exact hdg)
    (fun vm₁ hW₁ => ⟨hf.1, hf.2, hPc (T.setVm vm₁) hT hW₁⟩)
  dsimp only [Pt.U, Pt.locs, Pt.cells, Pt.slots] at X' e1 e2 h1 h2 h3 st
  subst h1; subst h2; subst h3
  exact ⟨v, (T.setVm vm₁).calling g' mk (Value.ref b :: As).toArray, t, U', L, hT, X', hL, e1, e2, hq, st⟩
section
variable {y : MethodName} {bytes cc : ByteArray} {maxL nL mc ms n index : Nat} {ret : Option FieldType} {ws : List Cond} {rm : Room} {Pc : Array Value → State → Prop} {Qc : Array Value → State → Outcome → State → Prop} {XC : String → State → State → Prop} {free : Addr → Prop} {Ts : List Cond} {own C : String} {b : Addr} {As rest : List Value} {g : JFrame}
theorem vx_runVX {hh : List (Nat × Nat × Nat × Nat)} (S : CallFix p m c cc nL s args Ts own) (hM : vx_Met l y ws rm Pc Qc XC mc ms free) (cw : vx_CVW R s args own C index y bytes maxL ret hh ws rm mc ms n) (hp : PreV s H C b Pc As)
    (hg : g.method = m) (hn : As.length = n) (hsize : g.locals.size = nL) (hstack : g.stack = As.reverse ++ .ref b :: rest) (hW : 2 * g.monitorRoom + (rest.map fun v => v.category).sum ≤ 8) (hdg : decode cc g.pc = .ok (.invokevirtual index, 3)) (hf : cells + mc ≤ R.cells ∧ slots + ms ≤ R.slots) :
    vx_Run p l e R s m args below meth c H locs cells slots mc ms g rest (Qc (Value.ref b :: As).toArray) XC free := by
  obtain ⟨⟨hrc, hrs, hfr, hlo, hws, hcw⟩, hcode, hini, hy, hlen, hl, hin, hse⟩ := cw
  have hK : vx_Back l R p e below s args y 3 8 (PreOf R mc ms Pc) (PostOf Qc mc ms free) (vx_Post XC mc ms free) := vx_backW (hh := hh) (bytes := bytes) (maxL := maxL) (ret := ret) hM hp.1 hrc hrs hfr hlo hws hcw (fun a' U hW => word_at hW (Or.inl (by first | rfl | simp [Cond.onTables, Cond.keeps, Cond.steady])) hini)
  obtain ⟨hx, hb, hml, ho, -⟩ := S
  obtain ⟨-, ⟨cellB, hcB, hoB, hclB⟩, hPc⟩ := hp
  intro T hT X
  rcases vx_callVX X hx (C := C) (hh := hh) (bytes := bytes) (maxL := maxL) (ret := ret) ho hl hin hse hcode hy hK (by rw [hT]; exact hcB) hoB hclB hg (hsize.trans hml.symm) (argsL := As) (rest := rest) (fun sig h => hn.trans (hlen sig h)) hstack hW (by rw [hb]; exact hdg)
    (fun vm₁ hW₁ => ⟨hf.1, hf.2, hPc (T.setVm vm₁) hT hW₁⟩) with ⟨v, vm₁, ⟨U', l2, c2, s2⟩, hW₁, X', ⟨g', mk, t, L, e1, e2, hq, h1, hL, h2, h3⟩, st⟩ | ⟨q, vm₁, ⟨U', l2, c2, s2⟩, hW₁, X', ⟨g', mk, t, L, E, ce, e1, e2, hq, hce, hcv, hcl, h1, hL, h2, h3⟩, st⟩
  · dsimp only [Pt.U, Pt.locs, Pt.cells, Pt.slots] at X' e1 e2 h1 h2 h3 st
    subst h1; subst h2; subst h3
    exact Or.inl ⟨v, (T.setVm vm₁).calling g' mk (Value.ref b :: As).toArray, t, U', L, hT, X', hL, e1, e2, hq, st⟩
  · dsimp only [Pt.U, Pt.locs, Pt.cells, Pt.slots] at X' e1 e2 h1 h2 h3 st hcl
    subst h1; subst h2; subst h3
    exact Or.inr ⟨q, (T.setVm vm₁).calling g' mk (Value.ref b :: As).toArray, t, U', L, E, ce, hT, X', hL, e1, e2, hq, hce, hcv, vx_cls hW₁ hcl, st⟩
theorem vx_runSX {hh : List (Nat × Nat × Nat × Nat)} (S : CallFix p m c cc nL s args Ts own) (hM : vx_Met l y ws rm Pc Qc XC mc ms free) (cw : vx_CSW R s args own index y bytes maxL ret hh ws rm mc ms n) (hp : PreS s H Pc As)
    (hg : g.method = m) (hn : As.length = n) (hsize : g.locals.size = nL) (hstack : g.stack = As.reverse ++ rest) (hW : 2 * g.monitorRoom + (rest.map fun v => v.category).sum ≤ 8) (hdg : decode cc g.pc = .ok (.invokestatic index, 3)) (hf : cells + mc ≤ R.cells ∧ slots + ms ≤ R.slots) :
    vx_Run p l e R s m args below meth c H locs cells slots mc ms g rest (Qc As.toArray) XC free := by
  obtain ⟨⟨hrc, hrs, hfr, hlo, hws, hcw⟩, hcode, hini, hy, hlen, hl, hstt⟩ := cw
  have hK : vx_Back l R p e below s args y 3 8 (PreOf R mc ms Pc) (PostOf Qc mc ms free) (vx_Post XC mc ms free) := vx_backW (hh := hh) (bytes := bytes) (maxL := maxL) (ret := ret) hM hp.1 hrc hrs hfr hlo hws hcw (fun a' U hW => word_at hW (Or.inl (by first | rfl | simp [Cond.onTables, Cond.keeps, Cond.steady])) hini)
  obtain ⟨hx, hb, hml, ho, -⟩ := S
  intro T hT X
  rcases vx_callSX X hx (hh := hh) (bytes := bytes) (maxL := maxL) (ret := ret) ho hl hstt hini hcode hy hK hg (hsize.trans hml.symm) (argsL := As) (rest := rest) (fun sig h => hn.trans (hlen sig h)) hstack hW (by rw [hb]; exact hdg)
    (fun vm₁ hW₁ => ⟨hf.1, hf.2, hp.2 (T.setVm vm₁) hT hW₁⟩) with ⟨v, vm₁, ⟨U', l2, c2, s2⟩, hW₁, X', ⟨g', mk, t, L, e1, e2, hq, h1, hL, h2, h3⟩, st⟩ | ⟨q, vm₁, ⟨U', l2, c2, s2⟩, hW₁, X', ⟨g', mk, t, L, E, ce, e1, e2, hq, hce, hcv, hcl, h1, hL, h2, h3⟩, st⟩
  · dsimp only [Pt.U, Pt.locs, Pt.cells, Pt.slots] at X' e1 e2 h1 h2 h3 st
    subst h1; subst h2; subst h3
    exact Or.inl ⟨v, (T.setVm vm₁).calling g' mk As.toArray, t, U', L, hT, X', hL, e1, e2, hq, st⟩
  · dsimp only [Pt.U, Pt.locs, Pt.cells, Pt.slots] at X' e1 e2 h1 h2 h3 st hcl
    subst h1; subst h2; subst h3
    exact Or.inr ⟨q, (T.setVm vm₁).calling g' mk As.toArray, t, U', L, E, ce, hT, X', hL, e1, e2, hq, hce, hcv, vx_cls hW₁ hcl, st⟩
end
end VXH
theorem vx_ofWH {l : Launch} {y : MethodName} {ws ws' : List Cond} {rm : Room} {Pc : Array Value → State → Prop} {Qc : Array Value → State → Outcome → State → Prop} {XC : String → State → State → Prop} {mc ms : Nat} {free : Addr → Prop} {cc : ByteArray} {maxL : Nat} {ret : Option FieldType} {hh : List (Nat × Nat × Nat × Nat)}
    (hy : plainName y.cls = true) (hw : ws = Cond.codeWith y cc maxL ret hh :: ws')
    (body : ∀ p e s m args below meth c s₁, BodyLoose p l y (headSpec ws rm) cc maxL ret e s m args below meth c s₁ → c.maxLocals = maxL → Pc args s →
      W p l e (headSpec ws rm).room s m args below meth c s.heap [] 0 0 (vx_MQ below Qc XC args s mc ms free) (entryFrame m args maxL)) : vx_Met l y ws rm Pc Qc XC mc ms free := by
  refine MetFree.of_bodyS (code := cc) (maxLocals := maxL) (ret := ret) hy ?_ ?_
  · intro args s m h hn
    obtain ⟨m9, meth, c, hn9, h1, h2, h3, h4, -, h5, h6, -⟩ := Cond.codeWith_spec (atoms_spec (ws := ws) h _ (by rw [hw]; exact List.mem_cons_self))
    cases hn.symm.trans hn9
    exact ⟨meth, c, h1, h2, h3, h4, h5, h6⟩
  · intro p e s m args below meth c s₁ B hml hP _
    have hh0 : s₁.heap = s.heap := by rw [B.state]; rfl
    obtain ⟨t, a1, o, b1, b2, b3⟩ := body p e s m args below meth c s₁ B hml hP s₁ hh0 (Stand.of_body B)
    exact ⟨t, o, a1, b1, b2, b3⟩
/-! ===== END ===== -/
end
section
/-! THE ABSTRACT MACHINE: values are mathematical ints, the heap is a tuple of functions; one row an instruction -/
abbrev AV : Type := Int ⊕ (Option Nat ⊕ (Int64 ⊕ UInt64))
abbrev vI (i : Int) : AV := .inl i
abbrev vR (a : Nat) : AV := .inr (.inl (some a))
abbrev vN : AV := .inr (.inl none)
abbrev vQ (r : Option Nat) : AV := .inr (.inl r)
abbrev vL (x : Int64) : AV := .inr (.inr (.inl x))
abbrev vD (x : UInt64) : AV := .inr (.inr (.inr x))
def ab (v : Value) : Option AV := match v with
  | .int x => some (vI x.toInt)
  | .ref a => some (vR a)
  | .null => some vN
  | .long x => some (vL x)
  | .double b => some (vD b)
  | _ => none
def acat (v : AV) : Nat := match v with
  | .inr (.inr _) => 2
  | _ => 1
theorem ab_int {r : Value} {i : Int} (h : ab r = some (vI i)) : ∃ x : Int32, r = .int x ∧ x.toInt = i := by
  cases r <;> simp [ab, vI, vR, vN, vL, vD] at h
  exact ⟨_, rfl, h⟩
theorem ab_ref {r : Value} {a : Nat} (h : ab r = some (vR a)) : r = .ref a := by
  cases r <;> simp [ab, vI, vR, vN, vL, vD] at h
  rw [h]
theorem ab_null {r : Value} (h : ab r = some vN) : r = .null := by
  cases r <;> simp [ab, vI, vR, vN, vL, vD] at h
  rfl
theorem ab_q {r : Value} {o : Option Nat} (h : ab r = some (vQ o)) : r = va_rf o := by
  cases o with
  | none => exact ab_null h
  | some a => exact ab_ref h
theorem ab_long {r : Value} {x : Int64} (h : ab r = some (vL x)) : r = .long x := by
  cases r <;> simp [ab, vI, vR, vN, vL, vD] at h
  rw [h]
theorem ab_dbl {r : Value} {x : UInt64} (h : ab r = some (vD x)) : r = .double x := by
  cases r <;> simp [ab, vI, vR, vN, vL, vD] at h
  rw [h]
theorem ab_cat {r : Value} {v : AV} (h : ab r = some v) : r.category = acat v := by
  cases r <;> simp [ab] at h <;> subst h <;> rfl
theorem ab_rf (o : Option Nat) : ab (va_rf o) = some (vQ o) := by cases o <;> rfl
/-- the abstract heap: (first address that may be written, size), kinds, int fields, references, longs, int arrays, reference arrays, long arrays -/
abbrev AH : Type := (Nat × Nat) × (Nat → Nat × Nat) × (Nat → Nat → Int) × (Nat → Nat → Option Nat) × (Nat → Nat → Int64) × (Nat → Int → Int) × (Nat → Int → Option Nat) × (Nat → Int → Int64)
def hlo (h : AH) : Nat := h.1.1
def hn (h : AH) : Nat := h.1.2
def hkd (h : AH) : Nat → Nat × Nat := h.2.1
def hfI (h : AH) : Nat → Nat → Int := h.2.2.1
def hfR (h : AH) : Nat → Nat → Option Nat := h.2.2.2.1
def hfL (h : AH) : Nat → Nat → Int64 := h.2.2.2.2.1
def haI (h : AH) : Nat → Int → Int := h.2.2.2.2.2.1
def haR (h : AH) : Nat → Int → Option Nat := h.2.2.2.2.2.2.1
def haL (h : AH) : Nat → Int → Int64 := h.2.2.2.2.2.2.2
def u1 {α : Type} (f : Int → α) (i : Int) (v : α) : Int → α := fun j => if j = i then v else f j
def u0 {α : Type} (f : Nat → α) (a : Nat) (v : α) : Nat → α := fun q => if q = a then v else f q
def sfI (h : AH) (a k : Nat) (v : Int) : AH := (h.1, hkd h, u0 (hfI h) a (u0 (hfI h a) k v), hfR h, hfL h, haI h, haR h, haL h)
def sfR (h : AH) (a k : Nat) (v : Option Nat) : AH := (h.1, hkd h, hfI h, u0 (hfR h) a (u0 (hfR h a) k v), hfL h, haI h, haR h, haL h)
def sfL (h : AH) (a k : Nat) (v : Int64) : AH := (h.1, hkd h, hfI h, hfR h, u0 (hfL h) a (u0 (hfL h a) k v), haI h, haR h, haL h)
def saI (h : AH) (a : Nat) (f : Int → Int) : AH := (h.1, hkd h, hfI h, hfR h, hfL h, u0 (haI h) a f, haR h, haL h)
def saR (h : AH) (a : Nat) (f : Int → Option Nat) : AH := (h.1, hkd h, hfI h, hfR h, hfL h, haI h, u0 (haR h) a f, haL h)
def saL (h : AH) (a : Nat) (f : Int → Int64) : AH := (h.1, hkd h, hfI h, hfR h, hfL h, haI h, haR h, u0 (haL h) a f)
def nOb (h : AH) (c : Nat) : AH := ((hlo h, hn h + 1), u0 (hkd h) (hn h) (c + 4, 0), u0 (hfI h) (hn h) (fun _ => 0), u0 (hfR h) (hn h) (fun _ => none), u0 (hfL h) (hn h) (fun _ => 0), haI h, haR h, haL h)
def nAI (h : AH) (n : Nat) : AH := ((hlo h, hn h + 1), u0 (hkd h) (hn h) (1, n), hfI h, hfR h, hfL h, u0 (haI h) (hn h) (fun _ => 0), haR h, haL h)
def nAL (h : AH) (n : Nat) : AH := ((hlo h, hn h + 1), u0 (hkd h) (hn h) (2, n), hfI h, hfR h, hfL h, haI h, haR h, u0 (haL h) (hn h) (fun _ => 0))
def nAR (h : AH) (n : Nat) : AH := ((hlo h, hn h + 1), u0 (hkd h) (hn h) (3, n), hfI h, hfR h, hfL h, haI h, u0 (haR h) (hn h) (fun _ => none), haL h)
/-- garbage: k cells that nobody knows -/
def nGb (h : AH) (k : Nat) : AH := ((hlo h, hn h + k), hkd h, hfI h, hfR h, hfL h, haI h, haR h, haL h)
def inR (z : Int) : Prop := -2147483648 ≤ z ∧ z ≤ 2147483647
def vwTy (c : Nat) : Nat → FieldType := match c with
  | 0 => tyX0
  | 1 => tyX1
  | 2 => tyX2
  | 3 => tyX3
  | 4 => tyX4
  | 5 => tyX5
  | 6 => tyX6
  | _ => tyX7
def fvr (h : AH) (q c k : Nat) (v : Value) : Prop := match vwTy c k with
  | .int => ∃ x : Int32, v = .int x ∧ x.toInt = hfI h q k
  | .boolean => ∃ x : Int32, v = .int x ∧ x.toInt = hfI h q k
  | .long => v = .long (hfL h q k)
  | _ => v = va_rf (hfR h q k)
def RC (s : State) (D : va_G) (h : AH) (H : Heap) (q : Nat) : Prop := match hkd h q with
  | (0, _) => True
  | (1, n) => ∃ cell : Cell, H[q]? = some cell ∧ s.isArrayOf cell .int ∧ cell.vm ≠ .unknown ∧ cell.slots.size = n ∧ n < 2147483648 ∧ ∀ j : Nat, j < n → ∃ x : Int32, cell.slots[j]? = some (.int x) ∧ x.toInt = haI h q j
  | (2, n) => ∃ cell : Cell, H[q]? = some cell ∧ s.isArrayOf cell .long ∧ cell.vm ≠ .unknown ∧ cell.slots.size = n ∧ n < 2147483648 ∧ ∀ j : Nat, j < n → cell.slots[j]? = some (.long (haL h q j))
  | (3, n) => ∃ (cA : ClassId) (f : Nat → Option Nat), H[q]? = some (arrV cA n (fun j => va_rf (f j))) ∧ ArrOfT s cA (.object RX4) ∧ va_RA s cA (.object RX4) ∧ n < 2147483648 ∧ ∀ j : Nat, j < n → f j = haR h q j
  | (c + 4, _) => ∃ (r : vw_C) (V : Nat → Value), vwCl[c]? = some r ∧ t_OB q (D.1 c) r.2.2 (D.2 c) H V ∧ ∀ k, k < r.2.2 → fvr h q c k (V k)
def Rel (s : State) (D : va_G) (H0 : Heap) (h : AH) (H : Heap) : Prop := hlo h = H0.size ∧ hn h = H.size ∧ H0.size ≤ H.size ∧ (∀ q : Nat, q < H0.size → H[q]? = H0[q]?) ∧ ∀ q, RC s D h H q
def agr (h h' : AH) (q : Nat) : Prop := hkd h' q = hkd h q ∧ hfI h' q = hfI h q ∧ hfR h' q = hfR h q ∧ hfL h' q = hfL h q ∧ haI h' q = haI h q ∧ haR h' q = haR h q ∧ haL h' q = haL h q
theorem RC.congr {s : State} {D : va_G} {h h' : AH} {H H' : Heap} {q : Nat} (e : agr h h' q) (eH : H'[q]? = H[q]?) (r : RC s D h H q) : RC s D h' H' q := by
  obtain ⟨e1, e2, e3, e4, e5, e6, e7⟩ := e
  unfold RC fvr t_OB at r ⊢
  rw [e1]
  simp only [e2, e3, e4, e5, e6, e7, eH]
  exact r
theorem RC.moved {s u : State} {D : va_G} {h : AH} {H : Heap} {q : Nat} (hvm : s.vm.Alike u.vm) (r : RC s D h H q) : RC u D h H q := by
  unfold RC at r ⊢
  split at r
  · trivial
  · obtain ⟨cell, h1, h2, h3⟩ := r
    exact ⟨cell, h1, State.isArrayOf_alike hvm h2, h3⟩
  · obtain ⟨cell, h1, h2, h3⟩ := r
    exact ⟨cell, h1, State.isArrayOf_alike hvm h2, h3⟩
  · obtain ⟨cA, f, h1, h2, h3, h4⟩ := r
    exact ⟨cA, f, h1, arrOfT_moved hvm h2, h3.moved hvm, h4⟩
  · exact r
theorem Rel.moved {s u : State} {D : va_G} {H0 : Heap} {h : AH} {H : Heap} (hvm : s.vm.Alike u.vm) (r : Rel s D H0 h H) : Rel u D H0 h H := ⟨r.1, r.2.1, r.2.2.1, r.2.2.2.1, fun q => (r.2.2.2.2 q).moved hvm⟩
theorem Rel.upd {s : State} {D : va_G} {H0 : Heap} {h h' : AH} {H H' : Heap} {a : Nat} (r : Rel s D H0 h H) (z : H'.size = H.size) (oq : ∀ q, q ≠ a → H'[q]? = H[q]?) (ha : hlo h ≤ a) (e1 : h'.1 = h.1) (e : ∀ q, q ≠ a → agr h h' q) (ra : RC s D h' H' a) : Rel s D H0 h' H' := by
  obtain ⟨r1, r2, r3, r4, r5⟩ := r
  refine ⟨by unfold hlo at *; rw [e1]; exact r1, by unfold hn at *; rw [e1, z]; exact r2, by rw [z]; exact r3, fun q hq => ?_, fun q => ?_⟩
  · rw [oq q (by rw [r1] at ha; omega)]
    exact r4 q hq
  · by_cases hq : q = a
    · subst hq; exact ra
    · exact (r5 q).congr (e q hq) (oq q hq)
theorem Rel.new {s : State} {D : va_G} {H0 : Heap} {h h' : AH} {H H' : Heap} (r : Rel s D H0 h H) (z : H'.size = H.size + 1) (oq : ∀ q, q < H.size → H'[q]? = H[q]?) (e1 : h'.1 = (hlo h, hn h + 1)) (e : ∀ q, q ≠ hn h → agr h h' q) (ra : RC s D h' H' (hn h)) : Rel s D H0 h' H' := by
  obtain ⟨r1, r2, r3, r4, r5⟩ := r
  refine ⟨by unfold hlo at *; rw [e1]; exact r1, by rw [z, ← r2]; show h'.1.2 = _; rw [e1], by rw [z]; omega, fun q hq => ?_, fun q => ?_⟩
  · rw [oq q (by omega)]
    exact r4 q hq
  · by_cases hq : q = hn h
    · subst hq; exact ra
    · by_cases hl : q < H.size
      · exact (r5 q).congr (e q hq) (oq q hl)
      · have e9 : hkd h' q = hkd h q := (e q hq).1
        have r9 := r5 q
        have hnone : H[q]? = none := by simp; omega
        unfold RC at r9 ⊢
        rw [e9]
        split at r9
        · trivial
        · obtain ⟨cell, h1, -⟩ := r9; rw [hnone] at h1; cases h1
        · obtain ⟨cell, h1, -⟩ := r9; rw [hnone] at h1; cases h1
        · obtain ⟨cA, f, h1, -⟩ := r9; rw [hnone] at h1; cases h1
        · obtain ⟨r, V, -, ⟨cell, h1, -⟩, -⟩ := r9; rw [hnone] at h1; cases h1
/-- locals, stack -/
def envOf : Nat → List AV → Nat → Option AV
  | _, [] => fun _ => none
  | k, v :: vs => fun j => if j = k then some v else envOf (k + acat v) vs j
def es (env : Nat → Option AV) (i : Nat) (v : AV) : Nat → Option AV := fun j => if j = i then some v else if j + 1 = i ∧ (env j).elim 0 acat = 2 then none else if j = i + 1 ∧ acat v = 2 then none else env j
def LR (n : Nat) (env : Nat → Option AV) (ls : Array Slot) : Prop := lv_wf ls ∧ ls.size = n ∧ ∀ (i : Nat) (v : AV), env i = some v → ∃ r : Value, ls[i]? = some (.val r) ∧ ab r = some v
def SR (st : List AV) (rs : List Value) : Prop := rs.map ab = st.map some
theorem SR.nil : SR [] [] := rfl
theorem SR.cons {v : AV} {r : Value} {st : List AV} {rs : List Value} (h : ab r = some v) (hs : SR st rs) : SR (v :: st) (r :: rs) := by
  unfold SR at *; simp [h, hs]
theorem SR.pop {v : AV} {st : List AV} {rs : List Value} (h : SR (v :: st) rs) : ∃ (r : Value) (rs' : List Value), rs = r :: rs' ∧ ab r = some v ∧ SR st rs' := by
  unfold SR at *
  cases rs with
  | nil => simp at h
  | cons r rs => simp at h; exact ⟨r, rs, rfl, h.1, h.2⟩
theorem SR.empty {rs : List Value} (h : SR [] rs) : rs = [] := by
  unfold SR at h; simpa using h
theorem SR.int {i : Int} {st : List AV} {rs : List Value} (h : SR (vI i :: st) rs) : ∃ (x : Int32) (rs' : List Value), rs = .int x :: rs' ∧ x.toInt = i ∧ SR st rs' := by
  obtain ⟨r, rs', e, e2, h2⟩ := h.pop
  obtain ⟨x, rfl, e3⟩ := ab_int e2
  exact ⟨x, rs', e, e3, h2⟩
theorem SR.ref {a : Nat} {st : List AV} {rs : List Value} (h : SR (vR a :: st) rs) : ∃ (rs' : List Value), rs = .ref a :: rs' ∧ SR st rs' := by
  obtain ⟨r, rs', e, e2, h2⟩ := h.pop
  rw [ab_ref e2] at e
  exact ⟨rs', e, h2⟩
theorem SR.long {a : Int64} {st : List AV} {rs : List Value} (h : SR (vL a :: st) rs) : ∃ (rs' : List Value), rs = .long a :: rs' ∧ SR st rs' := by
  obtain ⟨r, rs', e, e2, h2⟩ := h.pop
  rw [ab_long e2] at e
  exact ⟨rs', e, h2⟩
theorem SR.dbl {a : UInt64} {st : List AV} {rs : List Value} (h : SR (vD a :: st) rs) : ∃ (rs' : List Value), rs = .double a :: rs' ∧ SR st rs' := by
  obtain ⟨r, rs', e, e2, h2⟩ := h.pop
  rw [ab_dbl e2] at e
  exact ⟨rs', e, h2⟩
theorem SR.sum {st : List AV} {rs : List Value} (h : SR st rs) : (rs.map fun v => v.category).sum = (st.map acat).sum := by
  induction st generalizing rs with
  | nil => rw [h.empty]; rfl
  | cons v st ih =>
    obtain ⟨r, rs', rfl, e, h2⟩ := h.pop
    simp [ab_cat e, ih h2]
theorem SR.split {as st : List AV} {rs : List Value} (h : SR (as ++ st) rs) : ∃ As rs' : List Value, rs = As ++ rs' ∧ SR as As ∧ SR st rs' := by
  induction as generalizing rs with
  | nil => exact ⟨[], rs, rfl, SR.nil, h⟩
  | cons v as ih =>
    obtain ⟨r, rs', rfl, e, h2⟩ := h.pop
    obtain ⟨As, rs2, rfl, e2, h3⟩ := ih h2
    exact ⟨r :: As, rs2, rfl, e2.cons e, h3⟩
theorem SR.rev {as : List AV} {As : List Value} (h : SR as.reverse As) : SR as As.reverse := by
  unfold SR at *
  rw [List.map_reverse, h, List.map_reverse, List.reverse_reverse]
theorem SR.len {as : List AV} {As : List Value} (h : SR as As) : As.length = as.length := by
  unfold SR at h
  have := congrArg List.length h
  simpa using this
/-- the tables' words that a call may be paid with -/
def xTb : List Cond := lw_tbl.filter goodWord
theorem xTb_in {w : Cond} (h : w ∈ lw_tbl) (g : goodWord w = true) : w ∈ xTb := List.mem_filter.mpr ⟨h, g⟩
theorem xTb_of : ∀ w ∈ xTb, w ∈ lw_tbl := fun _ h => (List.mem_filter.mp h).1
end
section
/-! ROWS OF THE ABSTRACT MACHINE -/
abbrev GG : Type := va_G × Heap × (Nat → Nat)
def ZF (s : State) (H0 : Heap) (z : Nat → Nat) : Prop := va_Z "TextMorph" "LEAST_VALUE" "[I" (.ref (z 0)) (fun q => H0.size ≤ q) s H0 ∧ va_Z "TextMorph" "MOST_VALUE" "[I" (.ref (z 1)) (fun q => H0.size ≤ q) s H0 ∧ va_Z "TextMorph" "VALUE_AT_FIRST" "[I" (.ref (z 2)) (fun q => H0.size ≤ q) s H0 ∧ vx_Zq Bundle.tN "UNASSIGNED_STACK" Bundle.steD (fun q => H0.size ≤ q) s H0 ∧ vx_Zq Bundle.tN "SUPPRESSED_SENTINEL" Bundle.listD (fun q => H0.size ≤ q) s H0
theorem ZF.moved {s u : State} {H0 : Heap} {z : Nat → Nat} (hvm : s.vm.Alike u.vm) (h : ZF s H0 z) : ZF u H0 z := ⟨h.1.moved hvm, h.2.1.moved hvm, h.2.2.1.moved hvm, h.2.2.2.1.moved hvm, h.2.2.2.2.moved hvm⟩
/-- what holds of a frame all along -/
def CF (G : GG) (p : Program) (s : State) (m : MethodId) (args : Array Value) (meth : Method) (c : Code) (cc : ByteArray) (own : String) : Prop :=
  p.tables.exec = Jvm.exec ∧ c.code = cc ∧ s.vm.findClass own = some m.cls ∧ (∀ w ∈ xTb, w.before args s = true) ∧ meth.locks = false ∧ va_K G.1 vwCl [] s ∧ ZF s G.2.1 G.2.2 ∧ NF s
def AW (G : GG) (p : Program) (l : Launch) (e : Env) (R : Room) (s : State) (m : MethodId) (args : Array Value) (below : List Frame) (meth : Method) (c : Code) (bc bs : Nat) (Qf : State → Prop) (pc : Nat) (env : Nat → Option AV) (st : List AV) (h : AH) : Prop :=
  ∀ (ls : Array Slot) (rs : List Value) (H : Heap) (locs : List Loc), LR c.maxLocals env ls → SR st rs → Rel s G.1 G.2.1 h H → (∀ q ∈ locs, G.2.1.size ≤ q.base) → W p l e R s m args below meth c H locs bc bs Qf (F0 m pc ls rs)
theorem inR_add {x y : Int32} (h : inR (x.toInt + y.toInt)) : (x + y).toInt = x.toInt + y.toInt := by
  unfold inR at h; rw [Int32.toInt_add, Int.bmod_def]; split <;> omega
theorem inR_sub {x y : Int32} (h : inR (x.toInt - y.toInt)) : (x - y).toInt = x.toInt - y.toInt := by
  unfold inR at h; rw [Int32.toInt_sub, Int.bmod_def]; split <;> omega
theorem inR_mul {x y : Int32} (h : inR (x.toInt * y.toInt)) : (x * y).toInt = x.toInt * y.toInt := by
  unfold inR at h; rw [Int32.toInt_mul, Int.bmod_def]
  generalize x.toInt * y.toInt = z at h ⊢
  split <;> omega
theorem inR_neg {x : Int32} (h : inR (-x.toInt)) : (-x).toInt = -x.toInt := by
  unfold inR at h; rw [Int32.toInt_neg, Int.bmod_def]; split <;> omega
theorem inR_divP {x y : Int32} (hx : 0 ≤ x.toInt) (hy : 0 < y.toInt) : (x / y).toInt = x.toInt / y.toInt := by
  rw [Int32.toInt_div_of_ne_right _ _ (by intro h; rw [h] at hy; revert hy; decide), Int.tdiv_eq_ediv_of_nonneg hx]
theorem inR_remP {x y : Int32} (hx : 0 ≤ x.toInt) (_hy : 0 < y.toInt) : (x - x / y * y).toInt = x.toInt % y.toInt := by
  rw [rem_toInt, Int.tmod_eq_emod_of_nonneg hx]
theorem ofInt_toInt {n : Int} (h : inR n) : (Int32.ofInt n).toInt = n := by
  unfold inR at h; exact Int32.toInt_ofInt_of_le (by omega) (by omega)
theorem toInt_0 {x : Int32} : x = 0 ↔ x.toInt = 0 := by
  rw [← Int32.toInt_inj]; simp
theorem toInt_eq {x y : Int32} : x = y ↔ x.toInt = y.toInt := Int32.toInt_inj.symm
theorem toInt_lt0 {x : Int32} : x < 0 ↔ x.toInt < 0 := by
  rw [Int32.lt_iff_toInt_lt]; simp
theorem toInt_le0 {x : Int32} : x ≤ 0 ↔ x.toInt ≤ 0 := by
  rw [Int32.le_iff_toInt_le]; simp
theorem toInt_gt0 {x : Int32} : 0 < x ↔ 0 < x.toInt := by
  rw [Int32.lt_iff_toInt_lt]; simp
theorem toInt_ge0 {x : Int32} : 0 ≤ x ↔ 0 ≤ x.toInt := by
  rw [Int32.le_iff_toInt_le]; simp
theorem toInt_lt {x y : Int32} : x < y ↔ x.toInt < y.toInt := Int32.lt_iff_toInt_lt
theorem toInt_le {x y : Int32} : x ≤ y ↔ x.toInt ≤ y.toInt := Int32.le_iff_toInt_le
theorem inR_toInt (x : Int32) : inR x.toInt := by
  have h1 := x.toInt_lt
  have h2 := x.le_toInt
  unfold inR; omega
theorem xclamp {x : Int32} {n : Nat} (h0 : 0 ≤ x.toInt) (h1 : x.toInt < (n : Int)) : ¬ (x < 0 ∨ n ≤ x.toNatClampNeg) ∧ x.toNatClampNeg < n ∧ ((x.toNatClampNeg : Nat) : Int) = x.toInt := by
  have e : ((x.toNatClampNeg : Nat) : Int) = x.toInt := by
    show ((x.toInt.toNat : Nat) : Int) = x.toInt
    omega
  refine ⟨?_, by omega, e⟩
  rintro (h | h)
  · rw [toInt_lt0] at h; omega
  · omega
theorem LR.store1 {n : Nat} {env : Nat → Option AV} {ls : Array Slot} {i : Nat} {r : Value} {v : AV} (h : LR n env ls) (hi : i < n) (hv : ab r = some v) (hc : r.category = 1) : ∃ (lv : List (Nat × Value)), lv_has ls n lv ∧ ∀ ls', lv_has ls' n ((i, r) :: lv.filter (fun q => !(q.1 == i) && !(q.1 + 1 == i && q.2.category == 2))) → LR n (es env i v) ls' := by
  obtain ⟨w, sz, he⟩ := h
  refine ⟨(List.range n).filterMap (fun j => (env j).bind fun _ => match ls[j]? with | some (.val r) => some (j, r) | _ => none), ⟨sz, w, fun q hq => ?_⟩, fun ls' h' => ⟨h'.2.1, h'.1, fun j v' hj => ?_⟩⟩
  · obtain ⟨j, -, hj⟩ := List.mem_filterMap.mp hq
    obtain ⟨v', hv', hj⟩ := Option.bind_eq_some_iff.mp hj
    split at hj
    next r heq => cases hj; exact heq
    next => cases hj
  · unfold es at hj
    split at hj
    next hji =>
      cases hj
      subst hji
      exact ⟨r, h'.2.2 (j, r) List.mem_cons_self, hv⟩
    next hji =>
      split at hj
      · cases hj
      next hk =>
        split at hj
        · cases hj
        obtain ⟨r', e1, e2⟩ := he j v' hj
        refine ⟨r', h'.2.2 (j, r') (List.mem_cons_of_mem _ (List.mem_filter.mpr ⟨List.mem_filterMap.mpr ⟨j, List.mem_range.mpr ?_, ?_⟩, ?_⟩)), e2⟩
        · rw [← sz]; exact lv_lt e1
        · rw [hj, e1]; rfl
        · simp only [Bool.and_eq_true, Bool.not_eq_true', beq_eq_false_iff_ne, ne_eq]
          refine ⟨hji, ?_⟩
          rw [Bool.and_eq_false_iff]
          by_cases h1 : j + 1 = i
          · right
            have : ¬ acat v' = 2 := fun q => hk ⟨h1, by rw [hj]; exact q⟩
            rw [ab_cat e2]; simpa using this
          · left; simpa using h1
theorem LR.store2 {n : Nat} {env : Nat → Option AV} {ls : Array Slot} {i : Nat} {r : Value} {v : AV} (h : LR n env ls) (hi : i + 1 < n) (hv : ab r = some v) (hc : r.category = 2) : ∃ (lv : List (Nat × Value)), lv_has ls n lv ∧ ∀ ls', lv_has ls' n ((i, r) :: lv.filter (fun q => !(q.1 == i) && (!(q.1 == i + 1) && !(q.1 + 1 == i && q.2.category == 2)))) → LR n (es env i v) ls' := by
  obtain ⟨w, sz, he⟩ := h
  refine ⟨(List.range n).filterMap (fun j => (env j).bind fun _ => match ls[j]? with | some (.val r) => some (j, r) | _ => none), ⟨sz, w, fun q hq => ?_⟩, fun ls' h' => ⟨h'.2.1, h'.1, fun j v' hj => ?_⟩⟩
  · obtain ⟨j, -, hj⟩ := List.mem_filterMap.mp hq
    obtain ⟨v', hv', hj⟩ := Option.bind_eq_some_iff.mp hj
    split at hj
    next r heq => cases hj; exact heq
    next => cases hj
  · unfold es at hj
    split at hj
    next hji =>
      cases hj
      subst hji
      exact ⟨r, h'.2.2 (j, r) List.mem_cons_self, hv⟩
    next hji =>
      split at hj
      · cases hj
      next hk =>
        split at hj
        · cases hj
        next hk2 =>
        obtain ⟨r', e1, e2⟩ := he j v' hj
        refine ⟨r', h'.2.2 (j, r') (List.mem_cons_of_mem _ (List.mem_filter.mpr ⟨List.mem_filterMap.mpr ⟨j, List.mem_range.mpr ?_, ?_⟩, ?_⟩)), e2⟩
        · rw [← sz]; exact lv_lt e1
        · rw [hj, e1]; rfl
        · have hi1 : ¬ j = i + 1 := fun q => hk2 ⟨q, by rw [← ab_cat hv]; exact hc⟩
          have : (j == i) = false := by simpa using hji
          have h3 : (j == i + 1) = false := by simpa using hi1
          have h4 : (j + 1 == i && r'.category == 2) = false := by
            rw [Bool.and_eq_false_iff]
            by_cases h1 : j + 1 = i
            · right
              have : ¬ acat v' = 2 := fun q => hk ⟨h1, by rw [hj]; exact q⟩
              rw [ab_cat e2]; simpa using this
            · left; simpa using h1
          simp only [this, h3, h4]; rfl
def eSub (l : List (Nat × AV)) (env : Nat → Option AV) : Prop := match l with
  | [] => True
  | (i, v) :: r => env i = some v ∧ eSub r env
def eOf (l : List (Nat × AV)) : Nat → Option AV := match l with
  | [] => fun _ => none
  | (i, v) :: r => fun j => if j = i then some v else eOf r j
theorem eSub.of {l : List (Nat × AV)} {env : Nat → Option AV} (h : eSub l env) : ∀ i v, eOf l i = some v → env i = some v := by
  induction l with
  | nil => intro i v hi; cases hi
  | cons q l ih =>
    intro i v hi
    obtain ⟨h1, h2⟩ := h
    unfold eOf at hi
    split at hi
    next e => subst e; cases hi; exact h1
    next => exact ih h2 i v hi
section AWR
variable {G : GG} {p : Program} {l : Launch} {e : Env} {R : Room} {s : State} {m : MethodId} {args : Array Value} {below : List Frame} {meth : Method} {c : Code} {bc bs : Nat} {Qf : State → Prop} {cc : ByteArray} {own : String}
variable {pc : Nat} {env : Nat → Option AV} {st : List AV} {h : AH}
/-- fewer locals, canonical -/
theorem aw_sub (l0 : List (Nat × AV)) (hs : eSub l0 env) (kk : AW G p l e R s m args below meth c bc bs Qf pc (eOf l0) st h) : AW G p l e R s m args below meth c bc bs Qf pc env st h :=
  fun ls rs H locs hL hS hR hf => kk ls rs H locs ⟨hL.1, hL.2.1, fun i v hi => hL.2.2 i v (hs.of i v hi)⟩ hS hR hf
theorem aw_iconst (C : CF G p s m args meth c cc own) {n i : Int} (hdg : decode cc pc = .ok (.iconst n, 1)) (hv : (Int32.ofInt n).toInt = i) (kk : AW G p l e R s m args below meth c bc bs Qf (pc + 1) env (vI i :: st) h) : AW G p l e R s m args below meth c bc bs Qf pc env st h :=
  fun ls rs H locs hL hS hR hf => lv_iconst C.1 C.2.1 hdg rfl (kk ls _ H locs hL (hS.cons (by rw [← hv]; rfl)) hR hf)
theorem aw_bipush (C : CF G p s m args meth c cc own) {n i : Int} (hdg : decode cc pc = .ok (.bipush n, 2)) (hv : (Int8.ofInt n).toInt32.toInt = i) (kk : AW G p l e R s m args below meth c bc bs Qf (pc + 2) env (vI i :: st) h) : AW G p l e R s m args below meth c bc bs Qf pc env st h :=
  fun ls rs H locs hL hS hR hf => lv_bipush C.1 C.2.1 hdg rfl (kk ls _ H locs hL (hS.cons (by rw [← hv]; rfl)) hR hf)
theorem aw_sipush (C : CF G p s m args meth c cc own) {n i : Int} (hdg : decode cc pc = .ok (.sipush n, 3)) (hv : (Int16.ofInt n).toInt32.toInt = i) (kk : AW G p l e R s m args below meth c bc bs Qf (pc + 3) env (vI i :: st) h) : AW G p l e R s m args below meth c bc bs Qf pc env st h :=
  fun ls rs H locs hL hS hR hf => lv_sipush C.1 C.2.1 hdg rfl (kk ls _ H locs hL (hS.cons (by rw [← hv]; rfl)) hR hf)
theorem aw_lconst (C : CF G p s m args meth c cc own) {n : Fin 2} {x : Int64} (hdg : decode cc pc = .ok (.lconst n, 1)) (hv : Int64.ofNat (n : Nat) = x) (kk : AW G p l e R s m args below meth c bc bs Qf (pc + 1) env (vL x :: st) h) : AW G p l e R s m args below meth c bc bs Qf pc env st h :=
  fun ls rs H locs hL hS hR hf => lv_lconst C.1 C.2.1 hdg hv (kk ls _ H locs hL (hS.cons rfl) hR hf)
theorem aw_dconst0 (C : CF G p s m args meth c cc own) (hdg : decode cc pc = .ok (.dconst 0, 1)) (kk : AW G p l e R s m args below meth c bc bs Qf (pc + 1) env (vD FP.dconst0 :: st) h) : AW G p l e R s m args below meth c bc bs Qf pc env st h :=
  fun ls rs H locs hL hS hR hf => lv_dconst0 C.1 C.2.1 hdg (kk ls _ H locs hL (hS.cons rfl) hR hf)
theorem aw_dconst1 (C : CF G p s m args meth c cc own) (hdg : decode cc pc = .ok (.dconst 1, 1)) (kk : AW G p l e R s m args below meth c bc bs Qf (pc + 1) env (vD FP.dconst1 :: st) h) : AW G p l e R s m args below meth c bc bs Qf pc env st h :=
  fun ls rs H locs hL hS hR hf => lv_dconst1 C.1 C.2.1 hdg (kk ls _ H locs hL (hS.cons rfl) hR hf)
theorem aw_ldc2 (C : CF G p s m args meth c cc own) {index : Nat} {x : Int64} (hw : Cond.constantLong own index x ∈ xTb) (hdg : decode cc pc = .ok (.ldc2_w index, 3)) (kk : AW G p l e R s m args below meth c bc bs Qf (pc + 3) env (vL x :: st) h) : AW G p l e R s m args below meth c bc bs Qf pc env st h :=
  fun ls rs H locs hL hS hR hf => lv_ldc2 C.1 C.2.1 C.2.2.1 (C.2.2.2.1 _ hw) hdg (kk ls _ H locs hL (hS.cons rfl) hR hf)
theorem aw_ldc2d (C : CF G p s m args meth c cc own) {index : Nat} {x : UInt64} (hw : Cond.constantDouble own index x ∈ xTb) (hdg : decode cc pc = .ok (.ldc2_w index, 3)) (kk : AW G p l e R s m args below meth c bc bs Qf (pc + 3) env (vD x :: st) h) : AW G p l e R s m args below meth c bc bs Qf pc env st h :=
  fun ls rs H locs hL hS hR hf => lv_ldc2d C.1 C.2.1 C.2.2.1 (C.2.2.2.1 _ hw) hdg (kk ls _ H locs hL (hS.cons rfl) hR hf)
theorem aw_iload_n (C : CF G p s m args meth c cc own) {k : Fin 4} {i : Nat} {x : Int} (hdg : decode cc pc = .ok (.iload_n k, 1)) (hi : (k : Nat) = i) (hl : env i = some (vI x)) (kk : AW G p l e R s m args below meth c bc bs Qf (pc + 1) env (vI x :: st) h) : AW G p l e R s m args below meth c bc bs Qf pc env st h := by
  intro ls rs H locs hL hS hR hf
  obtain ⟨r, h1, h2⟩ := hL.2.2 _ _ hl
  obtain ⟨y, rfl, h3⟩ := ab_int h2
  exact lv_iload_n C.1 C.2.1 hdg hi h1 (kk ls _ H locs hL (hS.cons h2) hR hf)
theorem aw_iload (C : CF G p s m args meth c cc own) {i : Nat} {x : Int} (hdg : decode cc pc = .ok (.iload i, 2)) (hl : env i = some (vI x)) (kk : AW G p l e R s m args below meth c bc bs Qf (pc + 2) env (vI x :: st) h) : AW G p l e R s m args below meth c bc bs Qf pc env st h := by
  intro ls rs H locs hL hS hR hf
  obtain ⟨r, h1, h2⟩ := hL.2.2 _ _ hl
  obtain ⟨y, rfl, h3⟩ := ab_int h2
  exact lv_iload C.1 C.2.1 hdg h1 (kk ls _ H locs hL (hS.cons h2) hR hf)
theorem aw_lload_n (C : CF G p s m args meth c cc own) {k : Fin 4} {i : Nat} {x : Int64} (hdg : decode cc pc = .ok (.lload_n k, 1)) (hi : (k : Nat) = i) (hl : env i = some (vL x)) (kk : AW G p l e R s m args below meth c bc bs Qf (pc + 1) env (vL x :: st) h) : AW G p l e R s m args below meth c bc bs Qf pc env st h := by
  intro ls rs H locs hL hS hR hf
  obtain ⟨r, h1, h2⟩ := hL.2.2 _ _ hl
  have h3 := ab_long h2
  subst h3
  exact lv_lload_n C.1 C.2.1 hdg hi h1 (kk ls _ H locs hL (hS.cons h2) hR hf)
theorem aw_lload (C : CF G p s m args meth c cc own) {i : Nat} {x : Int64} (hdg : decode cc pc = .ok (.lload i, 2)) (hl : env i = some (vL x)) (kk : AW G p l e R s m args below meth c bc bs Qf (pc + 2) env (vL x :: st) h) : AW G p l e R s m args below meth c bc bs Qf pc env st h := by
  intro ls rs H locs hL hS hR hf
  obtain ⟨r, h1, h2⟩ := hL.2.2 _ _ hl
  have h3 := ab_long h2
  subst h3
  exact lv_lload C.1 C.2.1 hdg h1 (kk ls _ H locs hL (hS.cons h2) hR hf)
theorem aw_dload_n (C : CF G p s m args meth c cc own) {k : Fin 4} {i : Nat} {x : UInt64} (hdg : decode cc pc = .ok (.dload_n k, 1)) (hi : (k : Nat) = i) (hl : env i = some (vD x)) (kk : AW G p l e R s m args below meth c bc bs Qf (pc + 1) env (vD x :: st) h) : AW G p l e R s m args below meth c bc bs Qf pc env st h := by
  intro ls rs H locs hL hS hR hf
  obtain ⟨r, h1, h2⟩ := hL.2.2 _ _ hl
  have h3 := ab_dbl h2
  subst h3
  exact lv_dload_n C.1 C.2.1 hdg hi h1 (kk ls _ H locs hL (hS.cons h2) hR hf)
theorem aw_dload (C : CF G p s m args meth c cc own) {i : Nat} {x : UInt64} (hdg : decode cc pc = .ok (.dload i, 2)) (hl : env i = some (vD x)) (kk : AW G p l e R s m args below meth c bc bs Qf (pc + 2) env (vD x :: st) h) : AW G p l e R s m args below meth c bc bs Qf pc env st h := by
  intro ls rs H locs hL hS hR hf
  obtain ⟨r, h1, h2⟩ := hL.2.2 _ _ hl
  have h3 := ab_dbl h2
  subst h3
  exact lv_dload C.1 C.2.1 hdg h1 (kk ls _ H locs hL (hS.cons h2) hR hf)
theorem aw_aload_n (C : CF G p s m args meth c cc own) {k : Fin 4} {i : Nat} {x : Nat} (hdg : decode cc pc = .ok (.aload_n k, 1)) (hi : (k : Nat) = i) (hl : env i = some (vR x)) (kk : AW G p l e R s m args below meth c bc bs Qf (pc + 1) env (vR x :: st) h) : AW G p l e R s m args below meth c bc bs Qf pc env st h := by
  intro ls rs H locs hL hS hR hf
  obtain ⟨r, h1, h2⟩ := hL.2.2 _ _ hl
  have h3 := ab_ref h2
  subst h3
  exact lv_aload_n C.1 C.2.1 hdg hi h1 (kk ls _ H locs hL (hS.cons h2) hR hf)
theorem aw_aload (C : CF G p s m args meth c cc own) {i : Nat} {x : Nat} (hdg : decode cc pc = .ok (.aload i, 2)) (hl : env i = some (vR x)) (kk : AW G p l e R s m args below meth c bc bs Qf (pc + 2) env (vR x :: st) h) : AW G p l e R s m args below meth c bc bs Qf pc env st h := by
  intro ls rs H locs hL hS hR hf
  obtain ⟨r, h1, h2⟩ := hL.2.2 _ _ hl
  have h3 := ab_ref h2
  subst h3
  exact lv_aload C.1 C.2.1 hdg h1 (kk ls _ H locs hL (hS.cons h2) hR hf)
theorem aw_istore_n (C : CF G p s m args meth c cc own) {k : Fin 4} {i : Nat} {x : Int} (hdg : decode cc pc = .ok (.istore_n k, 1)) (hi : (k : Nat) = i) (hn : i < c.maxLocals) (kk : AW G p l e R s m args below meth c bc bs Qf (pc + 1) (es env i (vI x)) st h) : AW G p l e R s m args below meth c bc bs Qf pc env (vI x :: st) h := by
  intro ls rs H locs hL hS hR hf
  obtain ⟨y, rs', rfl, e1, hS'⟩ := hS.int
  obtain ⟨lv, h1, h2⟩ := hL.store1 (i := i) (r := .int y) (v := vI x) hn (by rw [← e1]; rfl) rfl
  exact lv_istore_n C.1 C.2.1 hdg hi h1 hn rfl (fun ls' h' => kk ls' _ H locs (h2 ls' h') hS' hR hf)
theorem aw_istore (C : CF G p s m args meth c cc own) {i : Nat} {x : Int} (hdg : decode cc pc = .ok (.istore i, 2)) (hn : i < c.maxLocals) (kk : AW G p l e R s m args below meth c bc bs Qf (pc + 2) (es env i (vI x)) st h) : AW G p l e R s m args below meth c bc bs Qf pc env (vI x :: st) h := by
  intro ls rs H locs hL hS hR hf
  obtain ⟨y, rs', rfl, e1, hS'⟩ := hS.int
  obtain ⟨lv, h1, h2⟩ := hL.store1 (i := i) (r := .int y) (v := vI x) hn (by rw [← e1]; rfl) rfl
  exact lv_istore C.1 C.2.1 hdg h1 hn rfl (fun ls' h' => kk ls' _ H locs (h2 ls' h') hS' hR hf)
theorem aw_astore_n (C : CF G p s m args meth c cc own) {k : Fin 4} {i : Nat} {x : Nat} (hdg : decode cc pc = .ok (.astore_n k, 1)) (hi : (k : Nat) = i) (hn : i < c.maxLocals) (kk : AW G p l e R s m args below meth c bc bs Qf (pc + 1) (es env i (vR x)) st h) : AW G p l e R s m args below meth c bc bs Qf pc env (vR x :: st) h := by
  intro ls rs H locs hL hS hR hf
  obtain ⟨rs', rfl, hS'⟩ := hS.ref
  obtain ⟨lv, h1, h2⟩ := hL.store1 (i := i) (r := .ref x) (v := vR x) hn rfl rfl
  exact lv_astore_n C.1 C.2.1 hdg hi h1 hn rfl (fun ls' h' => kk ls' _ H locs (h2 ls' h') hS' hR hf)
theorem aw_astore (C : CF G p s m args meth c cc own) {i : Nat} {x : Nat} (hdg : decode cc pc = .ok (.astore i, 2)) (hn : i < c.maxLocals) (kk : AW G p l e R s m args below meth c bc bs Qf (pc + 2) (es env i (vR x)) st h) : AW G p l e R s m args below meth c bc bs Qf pc env (vR x :: st) h := by
  intro ls rs H locs hL hS hR hf
  obtain ⟨rs', rfl, hS'⟩ := hS.ref
  obtain ⟨lv, h1, h2⟩ := hL.store1 (i := i) (r := .ref x) (v := vR x) hn rfl rfl
  exact lv_astore C.1 C.2.1 hdg h1 hn rfl (fun ls' h' => kk ls' _ H locs (h2 ls' h') hS' hR hf)
theorem aw_lstore_n (C : CF G p s m args meth c cc own) {k : Fin 4} {i : Nat} {x : Int64} (hdg : decode cc pc = .ok (.lstore_n k, 1)) (hi : (k : Nat) = i) (hn : i + 1 < c.maxLocals) (kk : AW G p l e R s m args below meth c bc bs Qf (pc + 1) (es env i (vL x)) st h) : AW G p l e R s m args below meth c bc bs Qf pc env (vL x :: st) h := by
  intro ls rs H locs hL hS hR hf
  obtain ⟨rs', rfl, hS'⟩ := hS.long
  obtain ⟨lv, h1, h2⟩ := hL.store2 (i := i) (r := .long x) (v := vL x) hn rfl rfl
  exact lv_lstore_n C.1 C.2.1 hdg hi h1 hn rfl (fun ls' h' => kk ls' _ H locs (h2 ls' h') hS' hR hf)
theorem aw_lstore (C : CF G p s m args meth c cc own) {i : Nat} {x : Int64} (hdg : decode cc pc = .ok (.lstore i, 2)) (hn : i + 1 < c.maxLocals) (kk : AW G p l e R s m args below meth c bc bs Qf (pc + 2) (es env i (vL x)) st h) : AW G p l e R s m args below meth c bc bs Qf pc env (vL x :: st) h := by
  intro ls rs H locs hL hS hR hf
  obtain ⟨rs', rfl, hS'⟩ := hS.long
  obtain ⟨lv, h1, h2⟩ := hL.store2 (i := i) (r := .long x) (v := vL x) hn rfl rfl
  exact lv_lstore C.1 C.2.1 hdg h1 hn rfl (fun ls' h' => kk ls' _ H locs (h2 ls' h') hS' hR hf)
theorem aw_dstore_n (C : CF G p s m args meth c cc own) {k : Fin 4} {i : Nat} {x : UInt64} (hdg : decode cc pc = .ok (.dstore_n k, 1)) (hi : (k : Nat) = i) (hn : i + 1 < c.maxLocals) (kk : AW G p l e R s m args below meth c bc bs Qf (pc + 1) (es env i (vD x)) st h) : AW G p l e R s m args below meth c bc bs Qf pc env (vD x :: st) h := by
  intro ls rs H locs hL hS hR hf
  obtain ⟨rs', rfl, hS'⟩ := hS.dbl
  obtain ⟨lv, h1, h2⟩ := hL.store2 (i := i) (r := .double x) (v := vD x) hn rfl rfl
  exact lv_dstore_n C.1 C.2.1 hdg hi h1 hn rfl (fun ls' h' => kk ls' _ H locs (h2 ls' h') hS' hR hf)
theorem aw_dstore (C : CF G p s m args meth c cc own) {i : Nat} {x : UInt64} (hdg : decode cc pc = .ok (.dstore i, 2)) (hn : i + 1 < c.maxLocals) (kk : AW G p l e R s m args below meth c bc bs Qf (pc + 2) (es env i (vD x)) st h) : AW G p l e R s m args below meth c bc bs Qf pc env (vD x :: st) h := by
  intro ls rs H locs hL hS hR hf
  obtain ⟨rs', rfl, hS'⟩ := hS.dbl
  obtain ⟨lv, h1, h2⟩ := hL.store2 (i := i) (r := .double x) (v := vD x) hn rfl rfl
  exact lv_dstore C.1 C.2.1 hdg h1 hn rfl (fun ls' h' => kk ls' _ H locs (h2 ls' h') hS' hR hf)
theorem aw_iinc (C : CF G p s m args meth c cc own) {i : Nat} {n k x : Int} (hdg : decode cc pc = .ok (.iinc i n, 3)) (hk : (Int32.ofInt n).toInt = k) (hl : env i = some (vI x)) (hn : i < c.maxLocals) (hr : inR (x + k)) (kk : AW G p l e R s m args below meth c bc bs Qf (pc + 3) (es env i (vI (x + k))) st h) : AW G p l e R s m args below meth c bc bs Qf pc env st h := by
  intro ls rs H locs hL hS hR hf
  obtain ⟨r, h1, h2⟩ := hL.2.2 _ _ hl
  obtain ⟨y, rfl, h3⟩ := ab_int h2
  obtain ⟨lv, g1, g2⟩ := hL.store1 (i := i) (r := .int (y + Int32.ofInt n)) (v := vI (x + k)) hn (by rw [← h3, ← hk]; show some (vI _) = _; rw [inR_add (by rw [h3, hk]; exact hr)]) rfl
  have g1' : lv_has ls c.maxLocals ((i, .int y) :: lv) := ⟨g1.1, g1.2.1, fun q hq => by
    rcases List.mem_cons.mp hq with rfl | hq
    · exact h1
    · exact g1.2.2 q hq⟩
  refine lv_iinc C.1 C.2.1 hdg g1' (k := 0) rfl rfl hn rfl (fun ls' h' => kk ls' _ H locs (g2 ls' ?_) hS hR hf)
  rw [List.filter_cons_of_neg (by simp)] at h'
  exact h'
theorem aw_iadd (C : CF G p s m args meth c cc own) {a b : Int} (hdg : decode cc pc = .ok (.iadd, 1)) (hr : inR (a + b)) (kk : AW G p l e R s m args below meth c bc bs Qf (pc + 1) env (vI (a + b) :: st) h) : AW G p l e R s m args below meth c bc bs Qf pc env (vI b :: vI a :: st) h := by
  intro ls rs H locs hL hS hR hf
  obtain ⟨y, rs1, rfl, rfl, hS1⟩ := hS.int
  obtain ⟨x, rs2, rfl, rfl, hS2⟩ := hS1.int
  exact lv_iadd C.1 C.2.1 hdg (kk ls _ H locs hL (hS2.cons (by show some (vI _) = _; rw [inR_add hr])) hR hf)
theorem aw_isub (C : CF G p s m args meth c cc own) {a b : Int} (hdg : decode cc pc = .ok (.isub, 1)) (hr : inR (a - b)) (kk : AW G p l e R s m args below meth c bc bs Qf (pc + 1) env (vI (a - b) :: st) h) : AW G p l e R s m args below meth c bc bs Qf pc env (vI b :: vI a :: st) h := by
  intro ls rs H locs hL hS hR hf
  obtain ⟨y, rs1, rfl, rfl, hS1⟩ := hS.int
  obtain ⟨x, rs2, rfl, rfl, hS2⟩ := hS1.int
  exact lv_isub C.1 C.2.1 hdg (kk ls _ H locs hL (hS2.cons (by show some (vI _) = _; rw [inR_sub hr])) hR hf)
theorem aw_imul (C : CF G p s m args meth c cc own) {a b : Int} (hdg : decode cc pc = .ok (.imul, 1)) (hr : inR (a * b)) (kk : AW G p l e R s m args below meth c bc bs Qf (pc + 1) env (vI (a * b) :: st) h) : AW G p l e R s m args below meth c bc bs Qf pc env (vI b :: vI a :: st) h := by
  intro ls rs H locs hL hS hR hf
  obtain ⟨y, rs1, rfl, rfl, hS1⟩ := hS.int
  obtain ⟨x, rs2, rfl, rfl, hS2⟩ := hS1.int
  exact lv_imul C.1 C.2.1 hdg (kk ls _ H locs hL (hS2.cons (by show some (vI _) = _; rw [inR_mul hr])) hR hf)
theorem aw_idiv (C : CF G p s m args meth c cc own) {a b : Int} (hdg : decode cc pc = .ok (.idiv, 1)) (hr : 0 ≤ a ∧ 0 < b) (kk : AW G p l e R s m args below meth c bc bs Qf (pc + 1) env (vI (a / b) :: st) h) : AW G p l e R s m args below meth c bc bs Qf pc env (vI b :: vI a :: st) h := by
  intro ls rs H locs hL hS hR hf
  obtain ⟨y, rs1, rfl, rfl, hS1⟩ := hS.int
  obtain ⟨x, rs2, rfl, rfl, hS2⟩ := hS1.int
  exact lv_idiv C.1 C.2.1 hdg (by rw [toInt_0]; omega) (kk ls _ H locs hL (hS2.cons (by show some (vI _) = _; rw [inR_divP hr.1 hr.2])) hR hf)
theorem aw_irem (C : CF G p s m args meth c cc own) {a b : Int} (hdg : decode cc pc = .ok (.irem, 1)) (hr : 0 ≤ a ∧ 0 < b) (kk : AW G p l e R s m args below meth c bc bs Qf (pc + 1) env (vI (a % b) :: st) h) : AW G p l e R s m args below meth c bc bs Qf pc env (vI b :: vI a :: st) h := by
  intro ls rs H locs hL hS hR hf
  obtain ⟨y, rs1, rfl, rfl, hS1⟩ := hS.int
  obtain ⟨x, rs2, rfl, rfl, hS2⟩ := hS1.int
  exact lv_irem C.1 C.2.1 hdg (by rw [toInt_0]; omega) (kk ls _ H locs hL (hS2.cons (by show some (vI _) = _; rw [inR_remP hr.1 hr.2])) hR hf)
theorem aw_ineg (C : CF G p s m args meth c cc own) {a : Int} (hdg : decode cc pc = .ok (.ineg, 1)) (hr : inR (-a)) (kk : AW G p l e R s m args below meth c bc bs Qf (pc + 1) env (vI (-a) :: st) h) : AW G p l e R s m args below meth c bc bs Qf pc env (vI a :: st) h := by
  intro ls rs H locs hL hS hR hf
  obtain ⟨x, rs1, rfl, rfl, hS1⟩ := hS.int
  exact lv_ineg C.1 C.2.1 hdg (kk ls _ H locs hL (hS1.cons (by show some (vI _) = _; rw [inR_neg hr])) hR hf)
theorem and31 (x : Int32) : (x &&& 31).toInt = x.toInt % 32 := by
  have h : (x &&& 31).toBitVec = x.toBitVec &&& 31#32 := rfl
  have h2 : (x.toBitVec &&& 31#32).toNat = x.toBitVec.toNat % 32 := by
    rw [BitVec.toNat_and]
    exact Nat.and_two_pow_sub_one_eq_mod _ 5
  show (x &&& 31).toBitVec.toInt = x.toBitVec.toInt % 32
  rw [h, BitVec.toInt_eq_toNat_cond, BitVec.toInt_eq_toNat_cond, h2]
  have h3 := x.toBitVec.isLt
  split <;> split <;> omega
/-- only with the constant 31 -/
theorem aw_iand31 (C : CF G p s m args meth c cc own) {a : Int} (hdg : decode cc pc = .ok (.iand, 1)) (kk : AW G p l e R s m args below meth c bc bs Qf (pc + 1) env (vI (a % 32) :: st) h) : AW G p l e R s m args below meth c bc bs Qf pc env (vI 31 :: vI a :: st) h := by
  intro ls rs H locs hL hS hR hf
  obtain ⟨y, rs1, rfl, e1, hS1⟩ := hS.int
  obtain ⟨x, rs2, rfl, rfl, hS2⟩ := hS1.int
  have : y = 31 := by rw [toInt_eq, e1]; rfl
  subst this
  exact lv_iand C.1 C.2.1 hdg (kk ls _ H locs hL (hS2.cons (by show some (vI _) = _; rw [and31])) hR hf)
theorem aw_i2l (C : CF G p s m args meth c cc own) {a : Int} (hdg : decode cc pc = .ok (.i2l, 1)) (kk : AW G p l e R s m args below meth c bc bs Qf (pc + 1) env (vL (Int64.ofInt a) :: st) h) : AW G p l e R s m args below meth c bc bs Qf pc env (vI a :: st) h := by
  intro ls rs H locs hL hS hR hf
  obtain ⟨x, rs1, rfl, rfl, hS1⟩ := hS.int
  refine lv_i2l C.1 C.2.1 hdg rfl (kk ls _ H locs hL (hS1.cons ?_) hR hf)
  show some (vL x.toInt64) = _
  rw [show x.toInt64 = Int64.ofInt x.toInt from by rw [Int64.ofInt_int32ToInt]]
theorem aw_i2d (C : CF G p s m args meth c cc own) {a : Int} (hdg : decode cc pc = .ok (.i2d, 1)) (kk : AW G p l e R s m args below meth c bc bs Qf (pc + 1) env (vD (FP.i2d (Int32.ofInt a)) :: st) h) : AW G p l e R s m args below meth c bc bs Qf pc env (vI a :: st) h := by
  intro ls rs H locs hL hS hR hf
  obtain ⟨x, rs1, rfl, rfl, hS1⟩ := hS.int
  exact lv_i2d C.1 C.2.1 hdg (kk ls _ H locs hL (hS1.cons (by rw [Int32.ofInt_toInt]; rfl)) hR hf)
theorem aw_ladd (C : CF G p s m args meth c cc own) {a b : Int64} (hdg : decode cc pc = .ok (.ladd, 1)) (kk : AW G p l e R s m args below meth c bc bs Qf (pc + 1) env (vL (a + b) :: st) h) : AW G p l e R s m args below meth c bc bs Qf pc env (vL b :: vL a :: st) h := by
  intro ls rs H locs hL hS hR hf
  obtain ⟨rs1, rfl, hS1⟩ := hS.long
  obtain ⟨rs2, rfl, hS2⟩ := hS1.long
  exact lv_ladd C.1 C.2.1 hdg (kk ls _ H locs hL (hS2.cons rfl) hR hf)
theorem aw_lsub (C : CF G p s m args meth c cc own) {a b : Int64} (hdg : decode cc pc = .ok (.lsub, 1)) (kk : AW G p l e R s m args below meth c bc bs Qf (pc + 1) env (vL (a - b) :: st) h) : AW G p l e R s m args below meth c bc bs Qf pc env (vL b :: vL a :: st) h := by
  intro ls rs H locs hL hS hR hf
  obtain ⟨rs1, rfl, hS1⟩ := hS.long
  obtain ⟨rs2, rfl, hS2⟩ := hS1.long
  exact lv_lsub C.1 C.2.1 hdg (kk ls _ H locs hL (hS2.cons rfl) hR hf)
theorem aw_lmul (C : CF G p s m args meth c cc own) {a b : Int64} (hdg : decode cc pc = .ok (.lmul, 1)) (kk : AW G p l e R s m args below meth c bc bs Qf (pc + 1) env (vL (a * b) :: st) h) : AW G p l e R s m args below meth c bc bs Qf pc env (vL b :: vL a :: st) h := by
  intro ls rs H locs hL hS hR hf
  obtain ⟨rs1, rfl, hS1⟩ := hS.long
  obtain ⟨rs2, rfl, hS2⟩ := hS1.long
  exact lv_lmul C.1 C.2.1 hdg (kk ls _ H locs hL (hS2.cons rfl) hR hf)
theorem aw_lshl (C : CF G p s m args meth c cc own) {a : Int64} {b : Int} (hdg : decode cc pc = .ok (.lshl, 1)) (kk : AW G p l e R s m args below meth c bc bs Qf (pc + 1) env (vL (a <<< ((Int32.ofInt b).toInt64 &&& 63)) :: st) h) : AW G p l e R s m args below meth c bc bs Qf pc env (vI b :: vL a :: st) h := by
  intro ls rs H locs hL hS hR hf
  obtain ⟨x, rs1, rfl, rfl, hS1⟩ := hS.int
  obtain ⟨rs2, rfl, hS2⟩ := hS1.long
  exact lv_lshl C.1 C.2.1 hdg rfl (kk ls _ H locs hL (hS2.cons (by rw [Int32.ofInt_toInt]; rfl)) hR hf)
theorem aw_lcmp (C : CF G p s m args meth c cc own) {a b : Int64} (hdg : decode cc pc = .ok (.lcmp, 1)) (kk : AW G p l e R s m args below meth c bc bs Qf (pc + 1) env (vI (lg_cmp a b).toInt :: st) h) : AW G p l e R s m args below meth c bc bs Qf pc env (vL b :: vL a :: st) h := by
  intro ls rs H locs hL hS hR hf
  obtain ⟨rs1, rfl, hS1⟩ := hS.long
  obtain ⟨rs2, rfl, hS2⟩ := hS1.long
  exact W.lcmp C.1 C.2.1 hdg (kk ls _ H locs hL (hS2.cons rfl) hR hf)
theorem aw_dsub (C : CF G p s m args meth c cc own) {a b : UInt64} (hdg : decode cc pc = .ok (.dsub, 1)) (hr : vf_n64 (FP.dsub a b)) (kk : AW G p l e R s m args below meth c bc bs Qf (pc + 1) env (vD (FP.dsub a b) :: st) h) : AW G p l e R s m args below meth c bc bs Qf pc env (vD b :: vD a :: st) h := by
  intro ls rs H locs hL hS hR hf
  obtain ⟨rs1, rfl, hS1⟩ := hS.dbl
  obtain ⟨rs2, rfl, hS2⟩ := hS1.dbl
  exact lv_dsub C.1 C.2.1 hdg hr (kk ls _ H locs hL (hS2.cons rfl) hR hf)
theorem aw_dmul (C : CF G p s m args meth c cc own) {a b : UInt64} (hdg : decode cc pc = .ok (.dmul, 1)) (hr : vf_n64 (FP.dmul a b)) (kk : AW G p l e R s m args below meth c bc bs Qf (pc + 1) env (vD (FP.dmul a b) :: st) h) : AW G p l e R s m args below meth c bc bs Qf pc env (vD b :: vD a :: st) h := by
  intro ls rs H locs hL hS hR hf
  obtain ⟨rs1, rfl, hS1⟩ := hS.dbl
  obtain ⟨rs2, rfl, hS2⟩ := hS1.dbl
  exact lv_dmul C.1 C.2.1 hdg hr (kk ls _ H locs hL (hS2.cons rfl) hR hf)
theorem aw_ddiv (C : CF G p s m args meth c cc own) {a b : UInt64} (hdg : decode cc pc = .ok (.ddiv, 1)) (hr : vf_n64 (FP.ddiv a b)) (kk : AW G p l e R s m args below meth c bc bs Qf (pc + 1) env (vD (FP.ddiv a b) :: st) h) : AW G p l e R s m args below meth c bc bs Qf pc env (vD b :: vD a :: st) h := by
  intro ls rs H locs hL hS hR hf
  obtain ⟨rs1, rfl, hS1⟩ := hS.dbl
  obtain ⟨rs2, rfl, hS2⟩ := hS1.dbl
  exact lv_ddiv C.1 C.2.1 hdg hr (kk ls _ H locs hL (hS2.cons rfl) hR hf)
theorem aw_dcmp (C : CF G p s m args meth c cc own) {a b : UInt64} {op : CmpOp} (hdg : decode cc pc = .ok (.dcmp op, 1)) (kk : AW G p l e R s m args below meth c bc bs Qf (pc + 1) env (vI (Op.cmpValue (FP.dcmp a b) op).toInt :: st) h) : AW G p l e R s m args below meth c bc bs Qf pc env (vD b :: vD a :: st) h := by
  intro ls rs H locs hL hS hR hf
  obtain ⟨rs1, rfl, hS1⟩ := hS.dbl
  obtain ⟨rs2, rfl, hS2⟩ := hS1.dbl
  exact lv_dcmp C.1 C.2.1 hdg (kk ls _ H locs hL (hS2.cons rfl) hR hf)
theorem aw_d2l (C : CF G p s m args meth c cc own) {a : UInt64} (hdg : decode cc pc = .ok (.d2l, 1)) (kk : AW G p l e R s m args below meth c bc bs Qf (pc + 1) env (vL (FP.d2l a) :: st) h) : AW G p l e R s m args below meth c bc bs Qf pc env (vD a :: st) h := by
  intro ls rs H locs hL hS hR hf
  obtain ⟨rs1, rfl, hS1⟩ := hS.dbl
  exact lv_d2l C.1 C.2.1 hdg (kk ls _ H locs hL (hS1.cons rfl) hR hf)
theorem aw_dup (C : CF G p s m args meth c cc own) {v : AV} (hdg : decode cc pc = .ok (.dup, 1)) (hv : acat v = 1) (kk : AW G p l e R s m args below meth c bc bs Qf (pc + 1) env (v :: v :: st) h) : AW G p l e R s m args below meth c bc bs Qf pc env (v :: st) h := by
  intro ls rs H locs hL hS hR hf
  obtain ⟨r, rs1, rfl, e1, hS1⟩ := hS.pop
  exact lv_dup C.1 C.2.1 hdg (by rw [ab_cat e1]; exact hv) (kk ls _ H locs hL ((hS1.cons e1).cons e1) hR hf)
theorem aw_pop (C : CF G p s m args meth c cc own) {v : AV} (hdg : decode cc pc = .ok (.pop, 1)) (hv : acat v = 1) (kk : AW G p l e R s m args below meth c bc bs Qf (pc + 1) env st h) : AW G p l e R s m args below meth c bc bs Qf pc env (v :: st) h := by
  intro ls rs H locs hL hS hR hf
  obtain ⟨r, rs1, rfl, e1, hS1⟩ := hS.pop
  exact lv_pop C.1 C.2.1 hdg (by rw [ab_cat e1]; exact hv) (kk ls _ H locs hL hS1 hR hf)
theorem aw_dup2 (C : CF G p s m args meth c cc own) {v w : AV} (hdg : decode cc pc = .ok (.dup2, 1)) (hv : acat v = 1) (hw : acat w = 1) (kk : AW G p l e R s m args below meth c bc bs Qf (pc + 1) env (v :: w :: v :: w :: st) h) : AW G p l e R s m args below meth c bc bs Qf pc env (v :: w :: st) h := by
  intro ls rs H locs hL hS hR hf
  obtain ⟨r, rs1, rfl, e1, hS1⟩ := hS.pop
  obtain ⟨r2, rs2, rfl, e2, hS2⟩ := hS1.pop
  exact lv_dup2_11 C.1 C.2.1 hdg (by rw [ab_cat e1]; exact hv) (by rw [ab_cat e2]; exact hw) (kk ls _ H locs hL ((((hS2.cons e2).cons e1).cons e2).cons e1) hR hf)
theorem aw_dup_x1 (C : CF G p s m args meth c cc own) {v w : AV} (hdg : decode cc pc = .ok (.dup_x1, 1)) (hv : acat v = 1) (hw : acat w = 1) (kk : AW G p l e R s m args below meth c bc bs Qf (pc + 1) env (v :: w :: v :: st) h) : AW G p l e R s m args below meth c bc bs Qf pc env (v :: w :: st) h := by
  intro ls rs H locs hL hS hR hf
  obtain ⟨r, rs1, rfl, e1, hS1⟩ := hS.pop
  obtain ⟨r2, rs2, rfl, e2, hS2⟩ := hS1.pop
  exact lv_dup_x1 C.1 C.2.1 hdg (by rw [ab_cat e1]; exact hv) (by rw [ab_cat e2]; exact hw) (kk ls _ H locs hL (((hS2.cons e1).cons e2).cons e1) hR hf)
theorem aw_goto (C : CF G p s m args meth c cc own) {off : Int} {tgt : Nat} (hdg : decode cc pc = .ok (.goto off, 3)) (ht : (pc : Int) + off = (tgt : Int)) (kk : AW G p l e R s m args below meth c bc bs Qf tgt env st h) : AW G p l e R s m args below meth c bc bs Qf pc env st h :=
  fun ls rs H locs hL hS hR hf => lv_goto C.1 C.2.1 hdg ht (kk ls _ H locs hL hS hR hf)
theorem aw_if_eq (C : CF G p s m args meth c cc own) {off a : Int} {tgt : Nat} (hdg : decode cc pc = .ok (.ifCond .eq off, 3)) (ht : (pc : Int) + off = (tgt : Int)) (kt : a = 0 → AW G p l e R s m args below meth c bc bs Qf tgt env st h) (kf : ¬ a = 0 → AW G p l e R s m args below meth c bc bs Qf (pc + 3) env st h) : AW G p l e R s m args below meth c bc bs Qf pc env (vI a :: st) h := by
  intro ls rs H locs hL hS hR hf
  obtain ⟨x, rs1, rfl, rfl, hS1⟩ := hS.int
  exact lv_if_eq C.1 C.2.1 hdg ht (fun q => kt (toInt_0.mp q) ls _ H locs hL hS1 hR hf) (fun q => kf (fun z => q (toInt_0.mpr z)) ls _ H locs hL hS1 hR hf)
theorem aw_if_ne (C : CF G p s m args meth c cc own) {off a : Int} {tgt : Nat} (hdg : decode cc pc = .ok (.ifCond .ne off, 3)) (ht : (pc : Int) + off = (tgt : Int)) (kt : ¬ a = 0 → AW G p l e R s m args below meth c bc bs Qf tgt env st h) (kf : a = 0 → AW G p l e R s m args below meth c bc bs Qf (pc + 3) env st h) : AW G p l e R s m args below meth c bc bs Qf pc env (vI a :: st) h := by
  intro ls rs H locs hL hS hR hf
  obtain ⟨x, rs1, rfl, rfl, hS1⟩ := hS.int
  exact lv_if_ne C.1 C.2.1 hdg ht (fun q => kt (fun z => q (toInt_0.mpr z)) ls _ H locs hL hS1 hR hf) (fun q => kf (toInt_0.mp q) ls _ H locs hL hS1 hR hf)
theorem aw_if_lt (C : CF G p s m args meth c cc own) {off a : Int} {tgt : Nat} (hdg : decode cc pc = .ok (.ifCond .lt off, 3)) (ht : (pc : Int) + off = (tgt : Int)) (kt : a < 0 → AW G p l e R s m args below meth c bc bs Qf tgt env st h) (kf : ¬ a < 0 → AW G p l e R s m args below meth c bc bs Qf (pc + 3) env st h) : AW G p l e R s m args below meth c bc bs Qf pc env (vI a :: st) h := by
  intro ls rs H locs hL hS hR hf
  obtain ⟨x, rs1, rfl, rfl, hS1⟩ := hS.int
  exact lv_if_lt C.1 C.2.1 hdg ht (fun q => kt (toInt_lt0.mp q) ls _ H locs hL hS1 hR hf) (fun q => kf (fun z => q (toInt_lt0.mpr z)) ls _ H locs hL hS1 hR hf)
theorem aw_if_ge (C : CF G p s m args meth c cc own) {off a : Int} {tgt : Nat} (hdg : decode cc pc = .ok (.ifCond .ge off, 3)) (ht : (pc : Int) + off = (tgt : Int)) (kt : 0 ≤ a → AW G p l e R s m args below meth c bc bs Qf tgt env st h) (kf : ¬ 0 ≤ a → AW G p l e R s m args below meth c bc bs Qf (pc + 3) env st h) : AW G p l e R s m args below meth c bc bs Qf pc env (vI a :: st) h := by
  intro ls rs H locs hL hS hR hf
  obtain ⟨x, rs1, rfl, rfl, hS1⟩ := hS.int
  exact lv_if_ge C.1 C.2.1 hdg ht (fun q => kt (toInt_ge0.mp q) ls _ H locs hL hS1 hR hf) (fun q => kf (fun z => q (toInt_ge0.mpr z)) ls _ H locs hL hS1 hR hf)
theorem aw_if_gt (C : CF G p s m args meth c cc own) {off a : Int} {tgt : Nat} (hdg : decode cc pc = .ok (.ifCond .gt off, 3)) (ht : (pc : Int) + off = (tgt : Int)) (kt : 0 < a → AW G p l e R s m args below meth c bc bs Qf tgt env st h) (kf : ¬ 0 < a → AW G p l e R s m args below meth c bc bs Qf (pc + 3) env st h) : AW G p l e R s m args below meth c bc bs Qf pc env (vI a :: st) h := by
  intro ls rs H locs hL hS hR hf
  obtain ⟨x, rs1, rfl, rfl, hS1⟩ := hS.int
  exact lv_if_gt C.1 C.2.1 hdg ht (fun q => kt (toInt_gt0.mp q) ls _ H locs hL hS1 hR hf) (fun q => kf (fun z => q (toInt_gt0.mpr z)) ls _ H locs hL hS1 hR hf)
theorem aw_if_le (C : CF G p s m args meth c cc own) {off a : Int} {tgt : Nat} (hdg : decode cc pc = .ok (.ifCond .le off, 3)) (ht : (pc : Int) + off = (tgt : Int)) (kt : a ≤ 0 → AW G p l e R s m args below meth c bc bs Qf tgt env st h) (kf : ¬ a ≤ 0 → AW G p l e R s m args below meth c bc bs Qf (pc + 3) env st h) : AW G p l e R s m args below meth c bc bs Qf pc env (vI a :: st) h := by
  intro ls rs H locs hL hS hR hf
  obtain ⟨x, rs1, rfl, rfl, hS1⟩ := hS.int
  exact lv_if_le C.1 C.2.1 hdg ht (fun q => kt (toInt_le0.mp q) ls _ H locs hL hS1 hR hf) (fun q => kf (fun z => q (toInt_le0.mpr z)) ls _ H locs hL hS1 hR hf)
theorem aw_icmp_eq (C : CF G p s m args meth c cc own) {off a b : Int} {tgt : Nat} (hdg : decode cc pc = .ok (.if_icmp .eq off, 3)) (ht : (pc : Int) + off = (tgt : Int)) (kt : a = b → AW G p l e R s m args below meth c bc bs Qf tgt env st h) (kf : ¬ a = b → AW G p l e R s m args below meth c bc bs Qf (pc + 3) env st h) : AW G p l e R s m args below meth c bc bs Qf pc env (vI b :: vI a :: st) h := by
  intro ls rs H locs hL hS hR hf
  obtain ⟨y, rs1, rfl, rfl, hS1⟩ := hS.int
  obtain ⟨x, rs2, rfl, rfl, hS2⟩ := hS1.int
  exact lv_icmp_eq C.1 C.2.1 hdg ht (fun q => kt (toInt_eq.mp q) ls _ H locs hL hS2 hR hf) (fun q => kf (fun z => q (toInt_eq.mpr z)) ls _ H locs hL hS2 hR hf)
theorem aw_icmp_ne (C : CF G p s m args meth c cc own) {off a b : Int} {tgt : Nat} (hdg : decode cc pc = .ok (.if_icmp .ne off, 3)) (ht : (pc : Int) + off = (tgt : Int)) (kt : ¬ a = b → AW G p l e R s m args below meth c bc bs Qf tgt env st h) (kf : a = b → AW G p l e R s m args below meth c bc bs Qf (pc + 3) env st h) : AW G p l e R s m args below meth c bc bs Qf pc env (vI b :: vI a :: st) h := by
  intro ls rs H locs hL hS hR hf
  obtain ⟨y, rs1, rfl, rfl, hS1⟩ := hS.int
  obtain ⟨x, rs2, rfl, rfl, hS2⟩ := hS1.int
  exact lv_icmp_ne C.1 C.2.1 hdg ht (fun q => kt (fun z => q (toInt_eq.mpr z)) ls _ H locs hL hS2 hR hf) (fun q => kf (toInt_eq.mp q) ls _ H locs hL hS2 hR hf)
theorem aw_icmp_lt (C : CF G p s m args meth c cc own) {off a b : Int} {tgt : Nat} (hdg : decode cc pc = .ok (.if_icmp .lt off, 3)) (ht : (pc : Int) + off = (tgt : Int)) (kt : a < b → AW G p l e R s m args below meth c bc bs Qf tgt env st h) (kf : ¬ a < b → AW G p l e R s m args below meth c bc bs Qf (pc + 3) env st h) : AW G p l e R s m args below meth c bc bs Qf pc env (vI b :: vI a :: st) h := by
  intro ls rs H locs hL hS hR hf
  obtain ⟨y, rs1, rfl, rfl, hS1⟩ := hS.int
  obtain ⟨x, rs2, rfl, rfl, hS2⟩ := hS1.int
  exact lv_icmp_lt C.1 C.2.1 hdg ht (fun q => kt (toInt_lt.mp q) ls _ H locs hL hS2 hR hf) (fun q => kf (fun z => q (toInt_lt.mpr z)) ls _ H locs hL hS2 hR hf)
theorem aw_icmp_ge (C : CF G p s m args meth c cc own) {off a b : Int} {tgt : Nat} (hdg : decode cc pc = .ok (.if_icmp .ge off, 3)) (ht : (pc : Int) + off = (tgt : Int)) (kt : b ≤ a → AW G p l e R s m args below meth c bc bs Qf tgt env st h) (kf : ¬ b ≤ a → AW G p l e R s m args below meth c bc bs Qf (pc + 3) env st h) : AW G p l e R s m args below meth c bc bs Qf pc env (vI b :: vI a :: st) h := by
  intro ls rs H locs hL hS hR hf
  obtain ⟨y, rs1, rfl, rfl, hS1⟩ := hS.int
  obtain ⟨x, rs2, rfl, rfl, hS2⟩ := hS1.int
  exact lv_icmp_ge C.1 C.2.1 hdg ht (fun q => kt (toInt_le.mp q) ls _ H locs hL hS2 hR hf) (fun q => kf (fun z => q (toInt_le.mpr z)) ls _ H locs hL hS2 hR hf)
theorem aw_icmp_gt (C : CF G p s m args meth c cc own) {off a b : Int} {tgt : Nat} (hdg : decode cc pc = .ok (.if_icmp .gt off, 3)) (ht : (pc : Int) + off = (tgt : Int)) (kt : b < a → AW G p l e R s m args below meth c bc bs Qf tgt env st h) (kf : ¬ b < a → AW G p l e R s m args below meth c bc bs Qf (pc + 3) env st h) : AW G p l e R s m args below meth c bc bs Qf pc env (vI b :: vI a :: st) h := by
  intro ls rs H locs hL hS hR hf
  obtain ⟨y, rs1, rfl, rfl, hS1⟩ := hS.int
  obtain ⟨x, rs2, rfl, rfl, hS2⟩ := hS1.int
  exact lv_icmp_gt C.1 C.2.1 hdg ht (fun q => kt (toInt_lt.mp q) ls _ H locs hL hS2 hR hf) (fun q => kf (fun z => q (toInt_lt.mpr z)) ls _ H locs hL hS2 hR hf)
theorem aw_icmp_le (C : CF G p s m args meth c cc own) {off a b : Int} {tgt : Nat} (hdg : decode cc pc = .ok (.if_icmp .le off, 3)) (ht : (pc : Int) + off = (tgt : Int)) (kt : a ≤ b → AW G p l e R s m args below meth c bc bs Qf tgt env st h) (kf : ¬ a ≤ b → AW G p l e R s m args below meth c bc bs Qf (pc + 3) env st h) : AW G p l e R s m args below meth c bc bs Qf pc env (vI b :: vI a :: st) h := by
  intro ls rs H locs hL hS hR hf
  obtain ⟨y, rs1, rfl, rfl, hS1⟩ := hS.int
  obtain ⟨x, rs2, rfl, rfl, hS2⟩ := hS1.int
  exact lv_icmp_le C.1 C.2.1 hdg ht (fun q => kt (toInt_le.mp q) ls _ H locs hL hS2 hR hf) (fun q => kf (fun z => q (toInt_le.mpr z)) ls _ H locs hL hS2 hR hf)
/-- a switch: the value as a mathematical int -/
theorem aw_lookup (C : CF G p s m args meth c cc own) {dflt : Int} {ps : Array (Int × Int)} {len : Nat} {a off : Int} {tgt : Nat} (hdg : decode cc pc = .ok (.lookupswitch dflt ps, len)) (hp : (ps.toList.zip (ps.toList.drop 1)).all (fun (a, next) => a.1 < next.1) = true) (ho : Op.lookupswitch.offset ps.toList dflt a = off) (ht : (pc : Int) + off = (tgt : Int)) (kk : AW G p l e R s m args below meth c bc bs Qf tgt env st h) : AW G p l e R s m args below meth c bc bs Qf pc env (vI a :: st) h := by
  intro ls rs H locs hL hS hR hf
  obtain ⟨x, rs1, rfl, rfl, hS1⟩ := hS.int
  exact lv_lookup C.1 C.2.1 hdg hp ho ht (kk ls _ H locs hL hS1 hR hf)
theorem aw_tableOut (C : CF G p s m args meth c cc own) {dflt lo hi : Int} {offs : Array Int} {len : Nat} {a : Int} {tgt : Nat} (hdg : decode cc pc = .ok (.tableswitch dflt lo hi offs, len)) (ha : a < lo ∨ hi < a) (ht : (pc : Int) + dflt = (tgt : Int)) (kk : AW G p l e R s m args below meth c bc bs Qf tgt env st h) : AW G p l e R s m args below meth c bc bs Qf pc env (vI a :: st) h := by
  intro ls rs H locs hL hS hR hf
  obtain ⟨x, rs1, rfl, rfl, hS1⟩ := hS.int
  exact lv_tableOut C.1 C.2.1 hdg ha ht (kk ls _ H locs hL hS1 hR hf)
theorem aw_tableIn (C : CF G p s m args meth c cc own) {dflt lo hi : Int} {offs : Array Int} {len : Nat} {a off : Int} {tgt : Nat} (hdg : decode cc pc = .ok (.tableswitch dflt lo hi offs, len)) (h1 : ¬ a < lo) (h2 : ¬ hi < a) (ho : offs[(a - lo).toNat]? = some off) (ht : (pc : Int) + off = (tgt : Int)) (kk : AW G p l e R s m args below meth c bc bs Qf tgt env st h) : AW G p l e R s m args below meth c bc bs Qf pc env (vI a :: st) h := by
  intro ls rs H locs hL hS hR hf
  obtain ⟨x, rs1, rfl, rfl, hS1⟩ := hS.int
  exact lv_tableIn C.1 C.2.1 hdg h1 h2 ho ht (kk ls _ H locs hL hS1 hR hf)
end AWR
end
section
/-! HEAP ROWS, CALLS, METHODS -/
theorem mem_idx {ws : List Cond} (ps : List Nat) (h : ws = ps.filterMap (fun i => tables_1[i]?)) (g : ws.all goodWord = true) : ∀ w ∈ ws, w ∈ xTb := by
  intro w hw
  have hg := List.all_eq_true.mp g w hw
  rw [h] at hw
  obtain ⟨i, -, hi⟩ := List.mem_filterMap.mp hw
  exact xTb_in (List.mem_append_right _ (List.mem_of_getElem? hi)) hg
theorem tb (i : Nat) {w : Cond} (h : tables_1[i]? = some w) (g : goodWord w = true) : w ∈ xTb := xTb_in (List.mem_append_right _ (List.mem_of_getElem? h)) g
theorem tbp (i : Nat) {y : MethodName} {n : Nat} (h : lw_privs[i]? = some (y, n)) : Cond.selects y.cls y y ∈ xTb := xTb_in (List.mem_append_left _ (List.mem_map.mpr ⟨(y, n), List.mem_of_getElem? h, rfl⟩)) rfl
def CI (ci : Nat) (C : String) (T : u_T) (N : Nat) : Prop := vwCl[ci]? = some (C, T, N) ∧ (∀ w ∈ u_ws C T N, w ∈ xTb) ∧ (∀ k, k < N → parseFieldDescriptor (T k).2.2.1 = some (vwTy ci k)) ∧ (∀ a, a < N → ∀ b, b < N → a ≠ b → (T a).2.1 ≠ (T b).2.1)
theorem ci0 : CI 0 RX0 TX0 3 := ⟨rfl, mem_idx [216, 218, 220] (by decide +kernel) (by decide +kernel), tyX0_ok, nmX0⟩
theorem ci1 : CI 1 RX1 TX1 9 := ⟨rfl, mem_idx [184, 186, 188, 190, 192, 194, 196, 198, 200] (by decide +kernel) (by decide +kernel), tyX1_ok, nmX1⟩
theorem ci2 : CI 2 RX2 TX2 13 := ⟨rfl, mem_idx [146, 148, 150, 152, 154, 156, 158, 160, 162, 164, 166, 168, 170] (by decide +kernel) (by decide +kernel), tyX2_ok, nmX2⟩
theorem ci3 : CI 3 RX3 TX3 7 := ⟨rfl, mem_idx [107, 109, 111, 113, 115, 117, 119] (by decide +kernel) (by decide +kernel), tyX3_ok, nmX3⟩
theorem ci4 : CI 4 RX4 TX4 3 := ⟨rfl, mem_idx [73, 75, 77] (by decide +kernel) (by decide +kernel), tyX4_ok, nmX4⟩
theorem ci5 : CI 5 RX5 TX5 3 := ⟨rfl, mem_idx [53, 55, 57] (by decide +kernel) (by decide +kernel), tyX5_ok, nmX5⟩
theorem ci6 : CI 6 RX6 TX6 8 := ⟨rfl, mem_idx [231, 233, 235, 237, 239, 241, 243, 245] (by decide +kernel) (by decide +kernel), tyX6_ok, nmX6⟩
theorem ci7 : CI 7 RX7 TX7 21 := ⟨rfl, mem_idx [813, 815, 817, 819, 821, 823, 825, 827, 829, 831, 833, 835, 837, 839, 841, 843, 845, 847, 849, 851, 853] (by decide +kernel) (by decide +kernel), tyX7_ok, nmX7⟩
theorem RC.obj {s : State} {D : va_G} {h : AH} {H : Heap} {q ci : Nat} {C : String} {T : u_T} {N : Nat} (I : CI ci C T N) (rc : RC s D h H q) (hk : (hkd h q).1 = ci + 4) : ∃ V : Nat → Value, t_OB q (D.1 ci) N (D.2 ci) H V ∧ ∀ k, k < N → fvr h q ci k (V k) := by
  unfold RC at rc
  generalize hkd h q = kd at rc hk
  obtain ⟨k1, k2⟩ := kd
  subst hk
  obtain ⟨r, V, hr, h1, h2⟩ := rc
  have : r = (C, T, N) := Option.some.inj (hr.symm.trans I.1)
  subst this
  exact ⟨V, h1, h2⟩
theorem RC.ofObj {s : State} {D : va_G} {h : AH} {H : Heap} {q ci : Nat} {C : String} {T : u_T} {N : Nat} (I : CI ci C T N) (hk : (hkd h q).1 = ci + 4) {V : Nat → Value} (h1 : t_OB q (D.1 ci) N (D.2 ci) H V) (h2 : ∀ k, k < N → fvr h q ci k (V k)) : RC s D h H q := by
  unfold RC
  generalize hkd h q = kd at hk
  obtain ⟨k1, k2⟩ := kd
  subst hk
  exact ⟨_, V, I.1, h1, h2⟩
theorem RC.arrI {s : State} {D : va_G} {h : AH} {H : Heap} {q n : Nat} (rc : RC s D h H q) (hk : hkd h q = (1, n)) : ∃ cell : Cell, H[q]? = some cell ∧ s.isArrayOf cell .int ∧ cell.vm ≠ .unknown ∧ cell.slots.size = n ∧ n < 2147483648 ∧ ∀ j : Nat, j < n → ∃ x : Int32, cell.slots[j]? = some (.int x) ∧ x.toInt = haI h q j := by
  unfold RC at rc; rw [hk] at rc; exact rc
theorem RC.arrL {s : State} {D : va_G} {h : AH} {H : Heap} {q n : Nat} (rc : RC s D h H q) (hk : hkd h q = (2, n)) : ∃ cell : Cell, H[q]? = some cell ∧ s.isArrayOf cell .long ∧ cell.vm ≠ .unknown ∧ cell.slots.size = n ∧ n < 2147483648 ∧ ∀ j : Nat, j < n → cell.slots[j]? = some (.long (haL h q j)) := by
  unfold RC at rc; rw [hk] at rc; exact rc
theorem RC.arrR {s : State} {D : va_G} {h : AH} {H : Heap} {q n : Nat} (rc : RC s D h H q) (hk : hkd h q = (3, n)) : ∃ (cA : ClassId) (f : Nat → Option Nat), H[q]? = some (arrV cA n (fun j => va_rf (f j))) ∧ ArrOfT s cA (.object RX4) ∧ va_RA s cA (.object RX4) ∧ n < 2147483648 ∧ ∀ j : Nat, j < n → f j = haR h q j := by
  unfold RC at rc; rw [hk] at rc; exact rc
theorem objP {D : va_G} {ci : Nat} {C : String} {T : u_T} {N : Nat} {H : Heap} {a : Nat} {V : Nat → Value} (I : CI ci C T N) (h1 : t_OB a (D.1 ci) N (D.2 ci) H V) : va_P D vwCl [(a, .inr (ci, (List.range N).map V))] H := by
  intro k q hq
  have hz : k < 1 := (List.getElem?_eq_some_iff.mp hq).1
  rw [show k = 0 by omega] at hq
  cases hq
  refine ⟨_, I.1, h1.to (fun j hj => ?_)⟩
  show V j = ((List.range N).map V).getD j .null
  rw [List.getD_eq_getElem?_getD, List.getElem?_map, List.getElem?_range hj]; rfl
theorem objget {N k : Nat} {V : Nat → Value} (hk : k < N) : ((List.range N).map V)[k]? = some (V k) := by
  rw [List.getElem?_map, List.getElem?_range hk]; rfl
theorem u0_s {α : Type} {f : Nat → α} {a : Nat} {v : α} : u0 f a v a = v := by simp [u0]
theorem u0_n {α : Type} {f : Nat → α} {a q : Nat} {v : α} (h : q ≠ a) : u0 f a v q = f q := by simp [u0, h]
theorem u1_s {α : Type} {f : Int → α} {a : Int} {v : α} : u1 f a v a = v := by simp [u1]
theorem u1_n {α : Type} {f : Int → α} {a q : Int} {v : α} (h : q ≠ a) : u1 f a v q = f q := by simp [u1, h]
section AWH
variable {G : GG} {p : Program} {l : Launch} {e : Env} {R : Room} {s : State} {m : MethodId} {args : Array Value} {below : List Frame} {meth : Method} {c : Code} {bc bs : Nat} {Qf : State → Prop} {cc : ByteArray} {own : String}
variable {pc : Nat} {env : Nat → Option AV} {st : List AV} {h : AH}
theorem get_core (C : CF G p s m args meth c cc own) {ci k idx : Nat} {Cn : String} {T : u_T} {N : Nat} (I : CI ci Cn T N) (hk : k < N) (hw : Cond.fieldLink own idx (T k).1 (T k).2.1 (T k).2.2.1 ∈ xTb) (hdg : decode cc pc = .ok (.getfield idx, 3)) {a : Nat} (ha : (hkd h a).1 = ci + 4) {P : AV → Prop} (hP : ∀ r, fvr h a ci k r → ∃ v, ab r = some v ∧ P v) (kk : ∀ v, P v → AW G p l e R s m args below meth c bc bs Qf (pc + 3) env (v :: st) h) : AW G p l e R s m args below meth c bc bs Qf pc env (vR a :: st) h := by
  intro ls rs H locs hL hS hR hf
  obtain ⟨rs1, rfl, hS1⟩ := hS.ref
  obtain ⟨V, h1, h2⟩ := (hR.2.2.2.2 a).obj I ha
  obtain ⟨v, e1, e2⟩ := hP _ (h2 k hk)
  exact va_get C.1 C.2.1 C.2.2.2.1 I.2.1 C.2.2.1 C.2.2.2.2.2.1 (objP I h1) 0 rfl I.1 k hk (C.2.2.2.1 _ hw) (fun _ h9 => h9) (objget hk) hdg (kk v e2 ls _ H locs hL (hS1.cons e1) hR hf)
theorem aw_getI (C : CF G p s m args meth c cc own) {ci k idx : Nat} {Cn : String} {T : u_T} {N : Nat} (I : CI ci Cn T N) (hk : k < N) (hw : Cond.fieldLink own idx (T k).1 (T k).2.1 (T k).2.2.1 ∈ xTb) (hdg : decode cc pc = .ok (.getfield idx, 3)) {a : Nat} (hty : vwTy ci k = .int) (ha : (hkd h a).1 = ci + 4) (kk : AW G p l e R s m args below meth c bc bs Qf (pc + 3) env (vI (hfI h a k) :: st) h) : AW G p l e R s m args below meth c bc bs Qf pc env (vR a :: st) h :=
  get_core C I hk hw hdg ha (P := fun v => v = vI (hfI h a k)) (fun r hr => by unfold fvr at hr; rw [hty] at hr; obtain ⟨x, rfl, hx⟩ := hr; exact ⟨_, rfl, by rw [hx]⟩) (fun v hv => by rw [hv]; exact kk)
theorem aw_getZ (C : CF G p s m args meth c cc own) {ci k idx : Nat} {Cn : String} {T : u_T} {N : Nat} (I : CI ci Cn T N) (hk : k < N) (hw : Cond.fieldLink own idx (T k).1 (T k).2.1 (T k).2.2.1 ∈ xTb) (hdg : decode cc pc = .ok (.getfield idx, 3)) {a : Nat} (hty : vwTy ci k = .boolean) (ha : (hkd h a).1 = ci + 4) (kk : AW G p l e R s m args below meth c bc bs Qf (pc + 3) env (vI (hfI h a k) :: st) h) : AW G p l e R s m args below meth c bc bs Qf pc env (vR a :: st) h :=
  get_core C I hk hw hdg ha (P := fun v => v = vI (hfI h a k)) (fun r hr => by unfold fvr at hr; rw [hty] at hr; obtain ⟨x, rfl, hx⟩ := hr; exact ⟨_, rfl, by rw [hx]⟩) (fun v hv => by rw [hv]; exact kk)
theorem aw_getL (C : CF G p s m args meth c cc own) {ci k idx : Nat} {Cn : String} {T : u_T} {N : Nat} (I : CI ci Cn T N) (hk : k < N) (hw : Cond.fieldLink own idx (T k).1 (T k).2.1 (T k).2.2.1 ∈ xTb) (hdg : decode cc pc = .ok (.getfield idx, 3)) {a : Nat} (hty : vwTy ci k = .long) (ha : (hkd h a).1 = ci + 4) (kk : AW G p l e R s m args below meth c bc bs Qf (pc + 3) env (vL (hfL h a k) :: st) h) : AW G p l e R s m args below meth c bc bs Qf pc env (vR a :: st) h :=
  get_core C I hk hw hdg ha (P := fun v => v = vL (hfL h a k)) (fun r hr => by unfold fvr at hr; rw [hty] at hr; subst hr; exact ⟨_, rfl, rfl⟩) (fun v hv => by rw [hv]; exact kk)
def isRefTy (t : FieldType) : Bool := match t with
  | .object _ => true
  | .array _ => true
  | _ => false
theorem fvr_ref {h : AH} {q c k : Nat} {v : Value} (hty : isRefTy (vwTy c k) = true) : fvr h q c k v ↔ v = va_rf (hfR h q k) := by
  unfold fvr
  generalize vwTy c k = t at hty
  cases t <;> simp [isRefTy] at hty ⊢
/-- a reference that isn't null: b -/
theorem aw_getR (C : CF G p s m args meth c cc own) {ci k idx : Nat} {Cn : String} {T : u_T} {N : Nat} (I : CI ci Cn T N) (hk : k < N) (hw : Cond.fieldLink own idx (T k).1 (T k).2.1 (T k).2.2.1 ∈ xTb) (hdg : decode cc pc = .ok (.getfield idx, 3)) {a b : Nat} (hty : isRefTy (vwTy ci k) = true) (ha : (hkd h a).1 = ci + 4) (hb : hfR h a k = some b) (kk : AW G p l e R s m args below meth c bc bs Qf (pc + 3) env (vR b :: st) h) : AW G p l e R s m args below meth c bc bs Qf pc env (vR a :: st) h :=
  get_core C I hk hw hdg ha (P := fun v => v = vR b) (fun r hr => by rw [fvr_ref hty] at hr; subst hr; exact ⟨vR b, by rw [hb]; rfl, rfl⟩) (fun v hv => by rw [hv]; exact kk)
theorem put_core (C : CF G p s m args meth c cc own) {ci k idx : Nat} {Cn : String} {T : u_T} {N : Nat} (I : CI ci Cn T N) (hk : k < N) (hw : Cond.fieldLink own idx (T k).1 (T k).2.1 (T k).2.2.1 ∈ xTb) (hfin : (T k).2.2.2 = false ∨ ((T k).2.2.2 = true ∧ meth.name = "<init>" ∧ (T k).1 = own)) (hdg : decode cc pc = .ok (.putfield idx, 3)) {a : Nat} (ha : (hkd h a).1 = ci + 4) (hlw : hlo h ≤ a) {v : AV} {h' : AH}
    (e1 : h'.1 = h.1) (e2 : ∀ q, q ≠ a → agr h h' q) (ek : hkd h' a = hkd h a) (eo : ∀ j, j ≠ k → ∀ r, fvr h a ci j r → fvr h' a ci j r) (hv : ∀ r, ab r = some v → narrow (vwTy ci k) r = r ∧ fits (vwTy ci k) r = true ∧ fvr h' a ci k r)
    (kk : AW G p l e R s m args below meth c bc bs Qf (pc + 3) env st h') : AW G p l e R s m args below meth c bc bs Qf pc env (v :: vR a :: st) h := by
  intro ls rs H locs hL hS hR hf
  obtain ⟨r, rs1, rfl, er, hS1⟩ := hS.pop
  obtain ⟨rs2, rfl, hS2⟩ := hS1.ref
  obtain ⟨V, h1, h2⟩ := (hR.2.2.2.2 a).obj I ha
  obtain ⟨n1, n2, n3⟩ := hv r er
  obtain ⟨cell, q1, q2, q3, q4⟩ := h1
  have hK := C.2.2.2.2.2.1
  have hap := va_apart (own := own) C.2.2.2.1 I.2.1 (vwTy ci) I.2.2.1 I.2.2.2 hK I.1
  obtain ⟨hSl, hfc, kC, hkC, hkind⟩ := hK.1 ci _ I.1
  obtain ⟨cf, kf, fi, f, hi, hsl⟩ := hSl k hk
  have hlay := C.2.2.2.1 _ (I.2.1 _ (u_in_lay hk))
  have fin : ∀ H' : Heap, H'[a]? = some (cell.setSlot f.slot r) → H'.size = H.size → (∀ q, q ≠ a → H'[q]? = H[q]?) → Rel s G.1 G.2.1 h' H' := by
    intro H' g1 g2 g3
    rw [hsl] at g1
    refine hR.upd g2 g3 hlw e1 e2 (RC.ofObj I (by rw [ek]; exact ha) (V := updV V k r) ⟨_, g1, q2, q3, t_set q4 hap hk r⟩ (fun j hj => ?_))
    by_cases hjk : j = k
    · subst hjk; simpa [updV] using n3
    · simp only [updV, if_neg hjk]; exact eo j hjk _ (h2 j hj)
  have hlo' : ∀ q ∈ locs ++ [⟨a, f.slot⟩], G.2.1.size ≤ q.base := by
    intro q hq
    rcases List.mem_append.mp hq with hq | hq
    · exact hf q hq
    · rw [List.mem_singleton.mp hq]; rw [hR.1] at hlw; exact hlw
  rcases hfin with hfin | ⟨hfin, hin2, hdecl⟩
  · unfold u_lay at hlay
    rw [if_neg (by rw [hfin]; decide)] at hlay
    have hst := (u_facts hfc hkC (u_lays C.2.2.2.1 I.2.1 hk) hi).1
    have h6 := u_store hfc hkC hkind hlay hi (I.2.2.1 k hk) n1 n2
    exact W.putK C.1 C.2.1 (f := f) ⟨C.2.2.1, C.2.2.2.1 _ hw, ⟨_, _, _, hi⟩, hst⟩ (by rw [q2]; exact h6) q1 q3 (by rw [hsl]; exact k2_hasslot (q4 k hk)) rfl rfl hdg fun H' g1 g2 g3 => kk ls _ H' _ hL hS2 (fin H' g1 g2 g3) hlo'
  · unfold u_lay at hlay
    rw [if_pos hfin] at hlay
    have hst := (u_facts hfc hkC (u_lays C.2.2.2.1 I.2.1 hk) hi).1
    have hcf : m.cls = cf := by
      obtain ⟨_, _, c', _, _, _, -, -, hf', -, -, -, hown2, -⟩ := Cond.laysFinal_spec hlay
      have e1 : c' = cf := by have := hi.symm.trans hf'; simp at this; exact this.1.symm
      rw [hdecl] at hown2
      rw [← e1]; exact Option.some.inj (C.2.2.1.symm.trans hown2)
    have h6 := u_fits hfc hkC hkind (Or.inr hlay) hi (I.2.2.1 k hk) n1 n2
    exact W.putFinK C.1 C.2.1 C.2.2.1 (C.2.2.2.1 _ hw) hi hst hcf hin2 (by rw [q2]; exact h6) q1 q3 (by rw [hsl]; exact k2_hasslot (q4 k hk)) rfl rfl hdg fun H' g1 g2 g3 => kk ls _ H' _ hL hS2 (fin H' g1 g2 g3) hlo'
theorem agr_sfI {h : AH} {a k : Nat} {v : Int} : ∀ q, q ≠ a → agr h (sfI h a k v) q := fun q hq => ⟨rfl, u0_n hq, rfl, rfl, rfl, rfl, rfl⟩
theorem agr_sfR {h : AH} {a k : Nat} {v : Option Nat} : ∀ q, q ≠ a → agr h (sfR h a k v) q := fun q hq => ⟨rfl, rfl, u0_n hq, rfl, rfl, rfl, rfl⟩
theorem agr_sfL {h : AH} {a k : Nat} {v : Int64} : ∀ q, q ≠ a → agr h (sfL h a k v) q := fun q hq => ⟨rfl, rfl, rfl, u0_n hq, rfl, rfl, rfl⟩
theorem sfI_s {h : AH} {a k : Nat} {v : Int} : hfI (sfI h a k v) a k = v := by show u0 (hfI h) a (u0 (hfI h a) k v) a k = v; rw [u0_s, u0_s]
theorem sfI_n {h : AH} {a k j : Nat} {v : Int} (hj : j ≠ k) : hfI (sfI h a k v) a j = hfI h a j := by show u0 (hfI h) a (u0 (hfI h a) k v) a j = _; rw [u0_s, u0_n hj]
theorem sfR_s {h : AH} {a k : Nat} {v : Option Nat} : hfR (sfR h a k v) a k = v := by show u0 (hfR h) a (u0 (hfR h a) k v) a k = v; rw [u0_s, u0_s]
theorem sfR_n {h : AH} {a k j : Nat} {v : Option Nat} (hj : j ≠ k) : hfR (sfR h a k v) a j = hfR h a j := by show u0 (hfR h) a (u0 (hfR h a) k v) a j = _; rw [u0_s, u0_n hj]
theorem sfL_s {h : AH} {a k : Nat} {v : Int64} : hfL (sfL h a k v) a k = v := by show u0 (hfL h) a (u0 (hfL h a) k v) a k = v; rw [u0_s, u0_s]
theorem sfL_n {h : AH} {a k j : Nat} {v : Int64} (hj : j ≠ k) : hfL (sfL h a k v) a j = hfL h a j := by show u0 (hfL h) a (u0 (hfL h a) k v) a j = _; rw [u0_s, u0_n hj]
theorem fvr_sfI {h : AH} {a c k j : Nat} {v : Int} (hj : j ≠ k) {r : Value} (hr : fvr h a c j r) : fvr (sfI h a k v) a c j r := by
  unfold fvr at hr ⊢
  rw [sfI_n hj]; exact hr
theorem fvr_sfR {h : AH} {a c k j : Nat} {v : Option Nat} (hj : j ≠ k) {r : Value} (hr : fvr h a c j r) : fvr (sfR h a k v) a c j r := by
  unfold fvr at hr ⊢
  rw [sfR_n hj]; exact hr
theorem fvr_sfL {h : AH} {a c k j : Nat} {v : Int64} (hj : j ≠ k) {r : Value} (hr : fvr h a c j r) : fvr (sfL h a k v) a c j r := by
  unfold fvr at hr ⊢
  rw [sfL_n hj]; exact hr
theorem aw_putI (C : CF G p s m args meth c cc own) {ci k idx : Nat} {Cn : String} {T : u_T} {N : Nat} (I : CI ci Cn T N) (hk : k < N) (hw : Cond.fieldLink own idx (T k).1 (T k).2.1 (T k).2.2.1 ∈ xTb) (hfin : (T k).2.2.2 = false ∨ ((T k).2.2.2 = true ∧ meth.name = "<init>" ∧ (T k).1 = own)) (hdg : decode cc pc = .ok (.putfield idx, 3)) {a : Nat} {i : Int} (hty : vwTy ci k = .int) (ha : (hkd h a).1 = ci + 4 ∧ hlo h ≤ a)
    (kk : AW G p l e R s m args below meth c bc bs Qf (pc + 3) env st (sfI h a k i)) : AW G p l e R s m args below meth c bc bs Qf pc env (vI i :: vR a :: st) h :=
  put_core (h' := sfI h a k i) C I hk hw hfin hdg ha.1 ha.2 rfl agr_sfI rfl (fun j hj r hr => fvr_sfI hj hr) (fun r hr => by
    obtain ⟨x, rfl, hx⟩ := ab_int hr
    rw [hty]
    refine ⟨rfl, rfl, ?_⟩
    unfold fvr; rw [hty, sfI_s]; exact ⟨x, rfl, hx⟩) kk
theorem aw_putZ (C : CF G p s m args meth c cc own) {ci k idx : Nat} {Cn : String} {T : u_T} {N : Nat} (I : CI ci Cn T N) (hk : k < N) (hw : Cond.fieldLink own idx (T k).1 (T k).2.1 (T k).2.2.1 ∈ xTb) (hfin : (T k).2.2.2 = false ∨ ((T k).2.2.2 = true ∧ meth.name = "<init>" ∧ (T k).1 = own)) (hdg : decode cc pc = .ok (.putfield idx, 3)) {a : Nat} {i : Int} (hty : vwTy ci k = .boolean) (ha : (hkd h a).1 = ci + 4 ∧ hlo h ≤ a) (hz : i = 0 ∨ i = 1)
    (kk : AW G p l e R s m args below meth c bc bs Qf (pc + 3) env st (sfI h a k i)) : AW G p l e R s m args below meth c bc bs Qf pc env (vI i :: vR a :: st) h :=
  put_core (h' := sfI h a k i) C I hk hw hfin hdg ha.1 ha.2 rfl agr_sfI rfl (fun j hj r hr => fvr_sfI hj hr) (fun r hr => by
    obtain ⟨x, rfl, hx⟩ := ab_int hr
    have hx2 : x = 0 ∨ x = 1 := by
      rcases hz with hz | hz
      · left; rw [toInt_eq, hx, hz]; rfl
      · right; rw [toInt_eq, hx, hz]; rfl
    rw [hty]
    refine ⟨by rcases hx2 with rfl | rfl <;> rfl, by rcases hx2 with rfl | rfl <;> rfl, ?_⟩
    unfold fvr; rw [hty, sfI_s]; exact ⟨x, rfl, hx⟩) kk
theorem aw_putL (C : CF G p s m args meth c cc own) {ci k idx : Nat} {Cn : String} {T : u_T} {N : Nat} (I : CI ci Cn T N) (hk : k < N) (hw : Cond.fieldLink own idx (T k).1 (T k).2.1 (T k).2.2.1 ∈ xTb) (hfin : (T k).2.2.2 = false ∨ ((T k).2.2.2 = true ∧ meth.name = "<init>" ∧ (T k).1 = own)) (hdg : decode cc pc = .ok (.putfield idx, 3)) {a : Nat} {i : Int64} (hty : vwTy ci k = .long) (ha : (hkd h a).1 = ci + 4 ∧ hlo h ≤ a)
    (kk : AW G p l e R s m args below meth c bc bs Qf (pc + 3) env st (sfL h a k i)) : AW G p l e R s m args below meth c bc bs Qf pc env (vL i :: vR a :: st) h :=
  put_core (h' := sfL h a k i) C I hk hw hfin hdg ha.1 ha.2 rfl agr_sfL rfl (fun j hj r hr => fvr_sfL hj hr) (fun r hr => by
    have := ab_long hr
    subst this
    rw [hty]
    refine ⟨rfl, rfl, ?_⟩
    unfold fvr; rw [hty, sfL_s]) kk
theorem aw_putR (C : CF G p s m args meth c cc own) {ci k idx : Nat} {Cn : String} {T : u_T} {N : Nat} (I : CI ci Cn T N) (hk : k < N) (hw : Cond.fieldLink own idx (T k).1 (T k).2.1 (T k).2.2.1 ∈ xTb) (hfin : (T k).2.2.2 = false ∨ ((T k).2.2.2 = true ∧ meth.name = "<init>" ∧ (T k).1 = own)) (hdg : decode cc pc = .ok (.putfield idx, 3)) {a b : Nat} (hty : isRefTy (vwTy ci k) = true) (ha : (hkd h a).1 = ci + 4 ∧ hlo h ≤ a)
    (kk : AW G p l e R s m args below meth c bc bs Qf (pc + 3) env st (sfR h a k (some b))) : AW G p l e R s m args below meth c bc bs Qf pc env (vR b :: vR a :: st) h :=
  put_core (h' := sfR h a k (some b)) C I hk hw hfin hdg ha.1 ha.2 rfl agr_sfR rfl (fun j hj r hr => fvr_sfR hj hr) (fun r hr => by
    have := ab_ref hr
    subst this
    have hz : narrow (vwTy ci k) (.ref b) = .ref b ∧ fits (vwTy ci k) (.ref b) = true := by
      generalize vwTy ci k = t at hty
      cases t <;> simp [isRefTy] at hty <;> exact ⟨rfl, rfl⟩
    refine ⟨hz.1, hz.2, ?_⟩
    rw [fvr_ref hty, sfR_s]; rfl) kk
theorem aw_iald (C : CF G p s m args meth c cc own) (hdg : decode cc pc = .ok (.iaload, 1)) {a n : Nat} {i : Int} (ha : hkd h a = (1, n) ∧ 0 ≤ i ∧ i < (n : Int)) (kk : AW G p l e R s m args below meth c bc bs Qf (pc + 1) env (vI (haI h a i) :: st) h) : AW G p l e R s m args below meth c bc bs Qf pc env (vI i :: vR a :: st) h := by
  intro ls rs H locs hL hS hR hf
  obtain ⟨x, rs1, rfl, rfl, hS1⟩ := hS.int
  obtain ⟨rs2, rfl, hS2⟩ := hS1.ref
  obtain ⟨cell, c1, c2, c3, c4, c5, c6⟩ := (hR.2.2.2.2 a).arrI ha.1
  obtain ⟨d1, d2, d3⟩ := xclamp ha.2.1 ha.2.2
  obtain ⟨y, y1, y2⟩ := c6 _ d2
  rw [d3] at y2
  exact W.iald C.1 C.2.1 c1 c2 c3 (by rw [c4]; exact d1) y1 rfl rfl hdg (kk ls _ H locs hL (hS2.cons (by rw [← y2]; rfl)) hR hf)
theorem aw_lald (C : CF G p s m args meth c cc own) (hdg : decode cc pc = .ok (.laload, 1)) {a n : Nat} {i : Int} (ha : hkd h a = (2, n) ∧ 0 ≤ i ∧ i < (n : Int)) (kk : AW G p l e R s m args below meth c bc bs Qf (pc + 1) env (vL (haL h a i) :: st) h) : AW G p l e R s m args below meth c bc bs Qf pc env (vI i :: vR a :: st) h := by
  intro ls rs H locs hL hS hR hf
  obtain ⟨x, rs1, rfl, rfl, hS1⟩ := hS.int
  obtain ⟨rs2, rfl, hS2⟩ := hS1.ref
  obtain ⟨cell, c1, c2, c3, c4, c5, c6⟩ := (hR.2.2.2.2 a).arrL ha.1
  obtain ⟨d1, d2, d3⟩ := xclamp ha.2.1 ha.2.2
  have y1 := c6 _ d2
  rw [d3] at y1
  exact W.lald C.1 C.2.1 c1 c2 c3 (by rw [c4]; exact d1) y1 rfl rfl hdg (kk ls _ H locs hL (hS2.cons rfl) hR hf)
theorem aw_aald (C : CF G p s m args meth c cc own) (hdg : decode cc pc = .ok (.aaload, 1)) {a n b : Nat} {i : Int} (ha : hkd h a = (3, n) ∧ 0 ≤ i ∧ i < (n : Int)) (hb : haR h a i = some b) (kk : AW G p l e R s m args below meth c bc bs Qf (pc + 1) env (vR b :: st) h) : AW G p l e R s m args below meth c bc bs Qf pc env (vI i :: vR a :: st) h := by
  intro ls rs H locs hL hS hR hf
  obtain ⟨x, rs1, rfl, rfl, hS1⟩ := hS.int
  obtain ⟨rs2, rfl, hS2⟩ := hS1.ref
  obtain ⟨cA, f, c1, c2, c3, c5, c6⟩ := (hR.2.2.2.2 a).arrR ha.1
  obtain ⟨d1, d2, d3⟩ := xclamp ha.2.1 ha.2.2
  have y1 := c6 _ d2
  rw [d3, hb] at y1
  exact W.aald (v := .ref b) (ty := .object RX4) C.1 C.2.1 c1 (c2 n _) rfl (fun q => by cases q) (by rw [arrV_size]; exact d1) (by rw [arrV_read _ _ d2, y1]; rfl) rfl rfl hdg (kk ls _ H locs hL (hS2.cons rfl) hR hf)
theorem aw_alen (C : CF G p s m args meth c cc own) (hdg : decode cc pc = .ok (.arraylength, 1)) {a n : Nat} (ha : hkd h a = (1, n)) (kk : AW G p l e R s m args below meth c bc bs Qf (pc + 1) env (vI (n : Int) :: st) h) : AW G p l e R s m args below meth c bc bs Qf pc env (vR a :: st) h := by
  intro ls rs H locs hL hS hR hf
  obtain ⟨rs2, rfl, hS2⟩ := hS.ref
  obtain ⟨cell, c1, c2, c3, c4, c5, c6⟩ := (hR.2.2.2.2 a).arrI ha
  refine W.alen (n := Int32.ofNat n) C.1 C.2.1 c1 c2 (by rw [c4]) rfl rfl hdg (kk ls _ H locs hL (hS2.cons ?_) hR hf)
  show some (vI (Int32.ofNat n).toInt) = _
  rw [show (Int32.ofNat n).toInt = (n : Int) from nI_toInt c5]
theorem agr_saI {h : AH} {a : Nat} {f : Int → Int} : ∀ q, q ≠ a → agr h (saI h a f) q := fun q hq => ⟨rfl, rfl, rfl, rfl, u0_n hq, rfl, rfl⟩
theorem agr_saL {h : AH} {a : Nat} {f : Int → Int64} : ∀ q, q ≠ a → agr h (saL h a f) q := fun q hq => ⟨rfl, rfl, rfl, rfl, rfl, rfl, u0_n hq⟩
theorem agr_saR {h : AH} {a : Nat} {f : Int → Option Nat} : ∀ q, q ≠ a → agr h (saR h a f) q := fun q hq => ⟨rfl, rfl, rfl, rfl, rfl, u0_n hq, rfl⟩
theorem saI_s {h : AH} {a : Nat} {f : Int → Int} : haI (saI h a f) a = f := u0_s
theorem saL_s {h : AH} {a : Nat} {f : Int → Int64} : haL (saL h a f) a = f := u0_s
theorem saR_s {h : AH} {a : Nat} {f : Int → Option Nat} : haR (saR h a f) a = f := u0_s
theorem slot_set {cell : Cell} {i j : Nat} {v : Value} (hi : i < cell.slots.size) : (cell.setSlot i v).slots[j]? = if j = i then some v else cell.slots[j]? := by
  by_cases h : j = i
  · subst h; simp [Cell.setSlot, hi]
  · rw [if_neg h]; simp [Cell.setSlot, Array.getElem?_setIfInBounds, Ne.symm h]
theorem lo_add {locs : List Loc} {lo a k : Nat} (hf : ∀ q ∈ locs, lo ≤ q.base) (h : lo ≤ a) : ∀ q ∈ locs ++ [(⟨a, k⟩ : Loc)], lo ≤ q.base := by
  intro q hq
  rcases List.mem_append.mp hq with hq | hq
  · exact hf q hq
  · rw [List.mem_singleton.mp hq]; exact h
theorem aw_iast (C : CF G p s m args meth c cc own) (hdg : decode cc pc = .ok (.iastore, 1)) {a n : Nat} {i v : Int} (ha : hkd h a = (1, n) ∧ 0 ≤ i ∧ i < (n : Int) ∧ hlo h ≤ a) (kk : AW G p l e R s m args below meth c bc bs Qf (pc + 1) env st (saI h a (u1 (haI h a) i v))) : AW G p l e R s m args below meth c bc bs Qf pc env (vI v :: vI i :: vR a :: st) h := by
  intro ls rs H locs hL hS hR hf
  obtain ⟨y, rs0, rfl, rfl, hS0⟩ := hS.int
  obtain ⟨x, rs1, rfl, rfl, hS1⟩ := hS0.int
  obtain ⟨rs2, rfl, hS2⟩ := hS1.ref
  obtain ⟨cell, c1, c2, c3, c4, c5, c6⟩ := (hR.2.2.2.2 a).arrI ha.1
  obtain ⟨d1, d2, d3⟩ := xclamp ha.2.1 ha.2.2.1
  refine W.iast C.1 C.2.1 c1 c2 c3 (by rw [c4]; exact d1) rfl rfl hdg fun H' g1 g2 g3 => kk ls _ H' _ hL hS2 (hR.upd g2 g3 ha.2.2.2 rfl agr_saI ?_) (lo_add hf (by rw [← hR.1]; exact ha.2.2.2))
  unfold RC
  rw [show hkd (saI h a (u1 (haI h a) x.toInt y.toInt)) a = (1, n) from ha.1]
  refine ⟨_, g1, c2, c3, by rw [k2_slotsz]; exact c4, c5, fun j hj => ?_⟩
  rw [slot_set (by rw [c4]; exact d2), saI_s]
  by_cases hji : j = x.toNatClampNeg
  · rw [if_pos hji]
    refine ⟨y, rfl, ?_⟩
    rw [show ((j : Nat) : Int) = x.toInt by rw [hji]; exact d3, u1_s]
  · rw [if_neg hji]
    obtain ⟨z, z1, z2⟩ := c6 j hj
    exact ⟨z, z1, by rw [u1_n (by omega)]; exact z2⟩
theorem aw_last (C : CF G p s m args meth c cc own) (hdg : decode cc pc = .ok (.lastore, 1)) {a n : Nat} {i : Int} {v : Int64} (ha : hkd h a = (2, n) ∧ 0 ≤ i ∧ i < (n : Int) ∧ hlo h ≤ a) (kk : AW G p l e R s m args below meth c bc bs Qf (pc + 1) env st (saL h a (u1 (haL h a) i v))) : AW G p l e R s m args below meth c bc bs Qf pc env (vL v :: vI i :: vR a :: st) h := by
  intro ls rs H locs hL hS hR hf
  obtain ⟨rs0, rfl, hS0⟩ := hS.long
  obtain ⟨x, rs1, rfl, rfl, hS1⟩ := hS0.int
  obtain ⟨rs2, rfl, hS2⟩ := hS1.ref
  obtain ⟨cell, c1, c2, c3, c4, c5, c6⟩ := (hR.2.2.2.2 a).arrL ha.1
  obtain ⟨d1, d2, d3⟩ := xclamp ha.2.1 ha.2.2.1
  refine W.last C.1 C.2.1 c1 c2 c3 (by rw [c4]; exact d1) rfl rfl hdg fun H' g1 g2 g3 => kk ls _ H' _ hL hS2 (hR.upd g2 g3 ha.2.2.2 rfl agr_saL ?_) (lo_add hf (by rw [← hR.1]; exact ha.2.2.2))
  unfold RC
  rw [show hkd (saL h a (u1 (haL h a) x.toInt v)) a = (2, n) from ha.1]
  refine ⟨_, g1, c2, c3, by rw [k2_slotsz]; exact c4, c5, fun j hj => ?_⟩
  rw [slot_set (by rw [c4]; exact d2), saL_s]
  by_cases hji : j = x.toNatClampNeg
  · rw [if_pos hji, show ((j : Nat) : Int) = x.toInt by rw [hji]; exact d3, u1_s]
  · rw [if_neg hji, u1_n (by omega)]
    exact c6 j hj
theorem aw_aast (C : CF G p s m args meth c cc own) (hdg : decode cc pc = .ok (.aastore, 1)) {a n b : Nat} {i : Int} (ha : hkd h a = (3, n) ∧ 0 ≤ i ∧ i < (n : Int) ∧ hlo h ≤ a) (hb : (hkd h b).1 = 8) (kk : AW G p l e R s m args below meth c bc bs Qf (pc + 1) env st (saR h a (u1 (haR h a) i (some b)))) : AW G p l e R s m args below meth c bc bs Qf pc env (vR b :: vI i :: vR a :: st) h := by
  intro ls rs H locs hL hS hR hf
  obtain ⟨rs0, rfl, hS0⟩ := hS.ref
  obtain ⟨x, rs1, rfl, rfl, hS1⟩ := hS0.int
  obtain ⟨rs2, rfl, hS2⟩ := hS1.ref
  obtain ⟨cA, f, c1, c2, c3, c5, c6⟩ := (hR.2.2.2.2 a).arrR ha.1
  obtain ⟨d1, d2, d3⟩ := xclamp ha.2.1 ha.2.2.1
  obtain ⟨V, ⟨cellV, v1, v2, v3, -⟩, -⟩ := (hR.2.2.2.2 b).obj ci4 hb
  have hcls := (C.2.2.2.2.2.1.1 4 _ ci4.1).2
  obtain ⟨kA, comp, k1, k2, k3, -⟩ := id c3
  have hcomp : comp = G.1.1 4 := Option.some.inj (k3.symm.trans hcls.1)
  subst hcomp
  obtain ⟨kC, hkC, -⟩ := hcls.2
  refine W.aast C.1 C.2.1 c1 (fun q h => by cases h) (fun h => by cases h) k1 k2 rfl hkC ⟨fun q => d1 (Or.inl q), by rw [arrV_size]; exact d2⟩ v1 (fun q h => by rw [v3] at h; cases h) (by rw [v2]; exact hkC) (by rw [v2]; exact va_assign hcls) rfl rfl hdg fun H' g1 g2 g3 => kk ls _ H' _ hL hS2 (hR.upd g2 g3 ha.2.2.2 rfl agr_saR ?_) (lo_add hf (by rw [← hR.1]; exact ha.2.2.2))
  unfold RC
  rw [show hkd (saR h a (u1 (haR h a) x.toInt (some b))) a = (3, n) from ha.1]
  refine ⟨cA, fun j => if j = x.toNatClampNeg then some b else f j, ?_, c2, c3, c5, fun j hj => ?_⟩
  · rw [g1, arrV_store]
    congr 2
    funext j
    by_cases hji : j = x.toNatClampNeg
    · simp [updV, hji, va_rf]
    · simp [updV, hji]
  · rw [saR_s]
    show (if j = x.toNatClampNeg then some b else f j) = _
    by_cases hji : j = x.toNatClampNeg
    · rw [if_pos hji, show ((j : Nat) : Int) = x.toInt by rw [hji]; exact d3, u1_s]
    · rw [if_neg hji, u1_n (by omega)]
      exact c6 j hj
theorem agr_nAI {h : AH} {n : Nat} : ∀ q, q ≠ hn h → agr h (nAI h n) q := fun q hq => ⟨u0_n hq, rfl, rfl, rfl, u0_n hq, rfl, rfl⟩
theorem agr_nAL {h : AH} {n : Nat} : ∀ q, q ≠ hn h → agr h (nAL h n) q := fun q hq => ⟨u0_n hq, rfl, rfl, rfl, rfl, rfl, u0_n hq⟩
theorem agr_nAR {h : AH} {n : Nat} : ∀ q, q ≠ hn h → agr h (nAR h n) q := fun q hq => ⟨u0_n hq, rfl, rfl, rfl, rfl, u0_n hq, rfl⟩
theorem agr_nOb {h : AH} {n : Nat} : ∀ q, q ≠ hn h → agr h (nOb h n) q := fun q hq => ⟨u0_n hq, u0_n hq, u0_n hq, u0_n hq, rfl, rfl, rfl⟩
theorem aw_newI (C : CF G p s m args meth c cc own) (hw : Cond.arrayClass .int ∈ xTb) (hdg : decode cc pc = .ok (.newarray .int, 2)) {n : Nat} (hn1 : n ≤ 100000) (hcells : bc + 1 ≤ R.cells) (hslots : bs + n ≤ R.slots) (kk : AW G p l e R s m args below meth c (bc + 1) (bs + n) Qf (pc + 2) env (vR (hn h) :: st) (nAI h n)) : AW G p l e R s m args below meth c bc bs Qf pc env (vI (n : Int) :: st) h := by
  intro ls rs H locs hL hS hR hf
  obtain ⟨x, rs1, rfl, e1, hS1⟩ := hS.int
  have e2 : x.toNatClampNeg = n := by show x.toInt.toNat = n; omega
  refine W.newaK (atype := .int) C.1 C.2.1 (C.2.2.2.1 _ hw) rfl hdg rfl (by rw [toInt_lt0]; omega) e2 (by show n * 4 ≤ _; omega) hcells hslots hR.2.1.symm fun H' cA g1 g2 g3 g4 => ?_
  refine kk ls _ H' locs hL (hS1.cons rfl) (hR.new (by rw [g2, hR.2.1]) (fun q hq => g3 q (by rw [hR.2.1]; exact hq)) rfl agr_nAI ?_) hf
  unfold RC
  rw [show hkd (nAI h n) (hn h) = (1, n) from u0_s]
  refine ⟨_, g1, g4 n _, (fun q => by cases q), arrV_size _ _ _, by omega, fun j hj => ⟨0, arrV_read _ _ hj, ?_⟩⟩
  rw [show haI (nAI h n) (hn h) = fun _ => 0 from u0_s]; rfl
theorem aw_newL (C : CF G p s m args meth c cc own) (hw : Cond.arrayClass .long ∈ xTb) (hdg : decode cc pc = .ok (.newarray .long, 2)) {n : Nat} (hn1 : n ≤ 100000) (hcells : bc + 1 ≤ R.cells) (hslots : bs + n ≤ R.slots) (kk : AW G p l e R s m args below meth c (bc + 1) (bs + n) Qf (pc + 2) env (vR (hn h) :: st) (nAL h n)) : AW G p l e R s m args below meth c bc bs Qf pc env (vI (n : Int) :: st) h := by
  intro ls rs H locs hL hS hR hf
  obtain ⟨x, rs1, rfl, e1, hS1⟩ := hS.int
  have e2 : x.toNatClampNeg = n := by show x.toInt.toNat = n; omega
  refine W.newaK (atype := .long) C.1 C.2.1 (C.2.2.2.1 _ hw) rfl hdg rfl (by rw [toInt_lt0]; omega) e2 (by show n * 8 ≤ _; omega) hcells hslots hR.2.1.symm fun H' cA g1 g2 g3 g4 => ?_
  refine kk ls _ H' locs hL (hS1.cons rfl) (hR.new (by rw [g2, hR.2.1]) (fun q hq => g3 q (by rw [hR.2.1]; exact hq)) rfl agr_nAL ?_) hf
  unfold RC
  rw [show hkd (nAL h n) (hn h) = (2, n) from u0_s]
  refine ⟨_, g1, g4 n _, (fun q => by cases q), arrV_size _ _ _, by omega, fun j hj => ?_⟩
  rw [arrV_read _ _ hj, show haL (nAL h n) (hn h) = fun _ => 0 from u0_s]; rfl
theorem aw_newR (C : CF G p s m args meth c cc own) {idx : Nat} (hw : Cond.classLink own idx RX4 ∈ xTb) (hw2 : va_AO RX4 s) (hdg : decode cc pc = .ok (.anewarray idx, 3)) {n : Nat} (hn1 : n ≤ 100000) (hcells : bc + 1 ≤ R.cells) (hslots : bs + n ≤ R.slots) (kk : AW G p l e R s m args below meth c (bc + 1) (bs + n) Qf (pc + 3) env (vR (hn h) :: st) (nAR h n)) : AW G p l e R s m args below meth c bc bs Qf pc env (vI (n : Int) :: st) h := by
  intro ls rs H locs hL hS hR hf
  obtain ⟨x, rs1, rfl, e1, hS1⟩ := hS.int
  have e2 : x.toNatClampNeg = n := by show x.toInt.toNat = n; omega
  refine W.anew C.1 C.2.1 C.2.2.1 (C.2.2.2.1 _ hw) (va_AO.use hw2) rfl hdg rfl (by rw [toInt_lt0]; omega) (by rw [e2]; omega) hcells (by rw [e2]; exact hslots) fun cA kA comp f1 f2 f3 f4 => ?_
  rw [e2, ← hR.2.1]
  refine kk ls _ _ locs hL (hS1.cons rfl) (hR.new (by rw [Array.size_push]) (fun q hq => by rw [Array.getElem?_push, if_neg (Nat.ne_of_lt hq)]) rfl agr_nAR ?_) hf
  unfold RC
  rw [show hkd (nAR h n) (hn h) = (3, n) from u0_s]
  refine ⟨cA, fun _ => none, ?_, fun N z => ⟨(fun k h => by cases h), kA, f2, comp, f3⟩, ⟨kA, comp, f2, f3, f4, f1⟩, by omega, fun j hj => ?_⟩
  · rw [hR.2.1, Array.getElem?_push_size, ← arrV_new]; rfl
  · rw [show haR (nAR h n) (hn h) = fun _ => none from u0_s]
def okTy (t : FieldType) : Bool := match t with
  | .int => true
  | .boolean => true
  | .long => true
  | .object _ => true
  | .array _ => true
  | _ => false
theorem aw_new (C : CF G p s m args meth c cc own) {ci idx : Nat} {Cn : String} {T : u_T} {N : Nat} (I : CI ci Cn T N) (hw : Cond.classLink own idx Cn ∈ xTb) (hw2 : Cond.instantiable Cn N ∈ xTb) (hw3 : Cond.initialized Cn ∈ xTb) (hok : ∀ k, k < N → okTy (vwTy ci k) = true) (hdg : decode cc pc = .ok (.new idx, 3)) (hcells : bc + 1 ≤ R.cells) (hslots : bs + N ≤ R.slots) (kk : AW G p l e R s m args below meth c (bc + 1) (bs + N) Qf (pc + 3) env (vR (hn h) :: st) (nOb h ci)) : AW G p l e R s m args below meth c bc bs Qf pc env st h := by
  intro ls rs H locs hL hS hR hf
  have hKn := C.2.2.2.2.2.1.1 ci _ I.1
  refine W.newcK C.1 C.2.1 C.2.2.1 (C.2.2.2.1 _ hw) (C.2.2.2.1 _ hw2) (C.2.2.2.1 _ hw3) rfl hdg hcells hslots hKn.2.1 hR.2.1.symm fun H' kC g0 g1 g2 g3 => ?_
  refine kk ls _ H' locs hL (hS.cons rfl) (hR.new (by rw [g2, hR.2.1]) (fun q hq => g3 q (by rw [hR.2.1]; exact hq)) rfl agr_nOb ?_) hf
  refine RC.ofObj I (by rw [show hkd (nOb h ci) (hn h) = (ci + 4, 0) from u0_s]) (u_born (vwTy ci) C.2.2.2.1 I.2.1 hKn g0 g1 I.2.2.1) (fun k hk => ?_)
  unfold fvr
  rw [show hfI (nOb h ci) (hn h) = fun _ => 0 from u0_s, show hfR (nOb h ci) (hn h) = fun _ => none from u0_s, show hfL (nOb h ci) (hn h) = fun _ => 0 from u0_s]
  have hk2 := hok k hk
  generalize vwTy ci k = t at hk2 ⊢
  cases t <;> first | rfl | exact ⟨0, rfl, rfl⟩ | (simp [okTy] at hk2)
end AWH
end
section
/-! STATICS, MATH, COPIES, CALLS, METHODS -/
theorem good_all : GoodIn xTb xTb := fun w h => ⟨h, good_of_word (List.mem_filter.mp h).2⟩
def PcA (G : GG) (As : List Value) (h : AH) : Array Value → State → Prop := fun v U => v = As.toArray ∧ Rel U G.1 G.2.1 h U.heap ∧ va_K G.1 vwCl [] U ∧ ZF U G.2.1 G.2.2 ∧ NF U
def frA (G : GG) : Addr → Prop := fun q => G.2.1.size ≤ q
def QG (G : GG) (Q : Option AV → AH → Prop) : Array Value → State → Outcome → State → Prop := fun _ _ o t => ∃ (r : Option Value) (v : Option AV) (h' : AH), o = .returned r ∧ r.map ab = v.map some ∧ Q v h' ∧ Rel t G.1 G.2.1 h' t.heap
def oI (Q : Int → AH → Prop) : Option AV → AH → Prop := fun v h => ∃ i, v = some (vI i) ∧ Q i h
def oR (Q : Nat → AH → Prop) : Option AV → AH → Prop := fun v h => ∃ i, v = some (vR i) ∧ Q i h
def oL (Q : Int64 → AH → Prop) : Option AV → AH → Prop := fun v h => ∃ i, v = some (vL i) ∧ Q i h
def oD (Q : UInt64 → AH → Prop) : Option AV → AH → Prop := fun v h => ∃ i, v = some (vD i) ∧ Q i h
def oV (Q : AH → Prop) : Option AV → AH → Prop := fun v h => v = none ∧ Q h
/-- a join: the rest once, its entries many -/
def jn {α : Type} (K : α) (B : α → Prop) : Prop := B K
def cpI (f g : Int → Int) (sp dp n : Int) : Int → Int := fun j => if dp ≤ j ∧ j < dp + n then f (sp + (j - dp)) else g j
theorem envOf_in {as : List AV} : ∀ {As : List Value} {k i : Nat} {v : AV}, As.map ab = as.map some → envOf k as i = some v → ∃ r, (i, r) ∈ lv_args k As ∧ ab r = some v := by
  induction as with
  | nil => intro As k i v _ h; cases h
  | cons a as ih =>
    intro As k i v hA h
    cases As with
    | nil => simp at hA
    | cons A As =>
      simp only [List.map_cons, List.cons.injEq] at hA
      obtain ⟨h1, h2⟩ := hA
      unfold envOf at h
      unfold lv_args
      split at h
      next e => subst e; cases h; exact ⟨A, List.mem_cons_self, h1⟩
      next e =>
        have e2 : (if A.category = 2 then k + 2 else k + 1) = k + acat a := by
          rw [ab_cat h1]
          have : acat a = 1 ∨ acat a = 2 := by
            rcases a with _ | _ | _ <;> simp [acat]
          rcases this with q | q <;> simp [q]
        rw [e2]
        obtain ⟨r, r1, r2⟩ := ih h2 h
        exact ⟨r, List.mem_cons_of_mem _ r1, r2⟩
theorem sl_len {as : List AV} : ∀ {As : List Value}, As.map ab = as.map some → (lg_sl As).length = (as.map acat).sum := by
  induction as with
  | nil => intro As h; simp at h; subst h; rfl
  | cons a as ih =>
    intro As hA
    cases As with
    | nil => simp at hA
    | cons A As =>
      simp only [List.map_cons, List.cons.injEq] at hA
      obtain ⟨h1, h2⟩ := hA
      have e1 : acat a = A.category := (ab_cat h1).symm
      have e2 := ih h2
      unfold lg_sl at e2 ⊢
      rw [List.flatMap_cons, List.length_append, e2, List.map_cons, List.sum_cons, e1]
      congr 1
      rcases lv_cat A with q | q <;> simp [q]
theorem met_of {G : GG} {l : Launch} {y : MethodName} {cc : ByteArray} {maxL : Nat} {ret : Option FieldType} {rm : Room} {mc ms : Nat} {as : List AV} {As : List Value} {h : AH} {Q : Option AV → AH → Prop} (hA : As.map ab = as.map some) (hy : plainName y.cls = true) (hlen : (as.map acat).sum ≤ maxL)
    (body : ∀ (p : Program) (e : Env) (s : State) (m : MethodId) (args : Array Value) (below : List Frame) (meth : Method) (c : Code), CF G p s m args meth c cc y.cls → c.maxLocals = maxL → meth.sig.returnType = ret → meth.name = y.name → AW G p l e rm s m args below meth c 0 0 (MQ below (QG G Q) args s mc ms (frA G)) 0 (envOf 0 as) [] h) :
    Met l y (.code y cc maxL ret :: xTb) rm (PcA G As h) (QG G Q) mc ms (frA G) := by
  refine MetFree.of_bodyS (code := cc) (maxLocals := maxL) (ret := ret) hy ?_ ?_
  · intro args s m h hn
    obtain ⟨meth, c, h1, h2, h3, h4, h5, h6, -, -⟩ := Cond.code_spec hn (atoms_spec (ws := .code y cc maxL ret :: xTb) h _ List.mem_cons_self)
    exact ⟨meth, c, h1, h2, h3, h4, h5, h6⟩
  · intro p e s m args below meth c s₁ B hml hP _
    have hh0 : s₁.heap = s.heap := by rw [B.state]; rfl
    obtain ⟨rfl, hrel, hK, hZ, hN⟩ := hP
    have hts := atoms_spec (ws := .code y cc maxL ret :: xTb) B.pre
    have C : CF G p s m As.toArray meth c cc y.cls := ⟨B.exec, B.bytes, findClass_of_methodNamed B.named, fun w hw => hts w (List.mem_cons_of_mem _ hw), B.notSynchronized, hK, hZ, hN⟩
    have hE := lv_entry As (n := maxL) (by rw [sl_len hA]; exact hlen)
    have K := body p e s m As.toArray below meth c C hml B.returns (name_of_methodNamed B.named B.method).1 ((lg_sl As ++ List.replicate (maxL - (lg_sl As).length) Slot.unset).toArray) [] s.heap [] ⟨hE.2.1, by rw [hml]; exact hE.1, fun i v hi => by
      obtain ⟨r, r1, r2⟩ := envOf_in hA hi
      exact ⟨r, hE.2.2 (i, r) r1, r2⟩⟩ SR.nil hrel (fun q hq => by cases hq)
    have K2 : W p l e (headSpec (.code y cc maxL ret :: xTb) rm).room s m As.toArray below meth c s.heap [] 0 0 (MQ below (QG G Q) As.toArray s mc ms (frA G)) (entryFrame m As.toArray maxL) := by
      rw [lg_entry_eq]; exact K
    obtain ⟨t, a1, o, b1, b2, b3⟩ := K2 s₁ hh0 (Stand.of_body B)
    exact ⟨t, o, a1, b1, b2, ⟨b3.1, b3.2⟩⟩
section AWC
variable {G : GG} {p : Program} {l : Launch} {e : Env} {R : Room} {s : State} {m : MethodId} {args : Array Value} {below : List Frame} {meth : Method} {c : Code} {bc bs : Nat} {Qf : State → Prop} {cc : ByteArray} {own : String}
variable {pc : Nat} {env : Nat → Option AV} {st : List AV} {h : AH}
theorem aw_gets (C : CF G p s m args meth c cc own) {idx v : Nat} {n : String} (hZ : va_Z "TextMorph" n "[I" (.ref v) (fun q => G.2.1.size ≤ q) s G.2.1) (hw : Cond.fieldLink own idx "TextMorph" n "[I" ∈ xTb) (hdg : decode cc pc = .ok (.getstatic idx, 3)) (kk : AW G p l e R s m args below meth c bc bs Qf (pc + 3) env (vR v :: st) h) : AW G p l e R s m args below meth c bc bs Qf pc env st h := by
  intro ls rs H locs hL hS hR hf
  obtain ⟨cf, kf, fi, f, a, cell, h1, h2, h3, h4, h5, h6, h7, h8⟩ := hZ
  exact W.gets C.1 C.2.1 C.2.2.1 (C.2.2.2.1 _ hw) h1 h2 h3 h4 (by rw [hR.2.2.2.1 a (Nat.not_le.mp h8)]; exact h5) (fun e => by rw [e] at h6; cases h6) h7 rfl hdg (kk ls _ H locs hL (hS.cons rfl) hR hf)
theorem aw_getsN (C : CF G p s m args meth c cc own) {idx v : Nat} {n host : String} (hZ : va_Z "TextMorph" n "[I" (.ref v) (fun q => G.2.1.size ≤ q) s G.2.1) (hw : nwF = Cond.fieldLinkNest own idx "TextMorph" n "[I" host) (hdg : decode cc pc = .ok (.getstatic idx, 3)) (kk : AW G p l e R s m args below meth c bc bs Qf (pc + 3) env (vR v :: st) h) : AW G p l e R s m args below meth c bc bs Qf pc env st h := by
  intro ls rs H locs hL hS hR hf
  obtain ⟨cf, kf, fi, f, a, cell, h1, h2, h3, h4, h5, h6, h7, h8⟩ := hZ
  exact va_WgetsN C.1 C.2.1 C.2.2.1 (by rw [← hw]; exact va_Nw.use rfl C.2.2.2.2.2.2.2.2.1) h1 h2 h3 h4 (by rw [hR.2.2.2.1 a (Nat.not_le.mp h8)]; exact h5) (fun e => by rw [e] at h6; cases h6) h7 rfl hdg (kk ls _ H locs hL (hS.cons rfl) hR hf)
theorem aw_mmax (C : CF G p s m args meth c cc own) {idx : Nat} (hw : Cond.methodLink own idx Lib.Math.max.name ∈ xTb) (hw2 : Cond.static Lib.Math.max.name ∈ xTb) (hw3 : Cond.initialized "java/lang/Math" ∈ xTb) (hw4 : Cond.code Lib.Math.max.name Lib.Math.max.code 2 (some .int) ∈ xTb) (hR1 : 1 ≤ R.frames ∧ 21 ≤ R.locals ∧ bc ≤ R.cells ∧ bs ≤ R.slots) (hr : (st.map acat).sum ≤ 8) (hdg : decode cc pc = .ok (.invokestatic idx, 3)) {a b : Int} (kk : AW G p l e R s m args below meth c bc bs Qf (pc + 3) env (vI (if a < b then b else a) :: st) h) : AW G p l e R s m args below meth c bc bs Qf pc env (vI b :: vI a :: st) h := by
  intro ls rs H locs hL hS hR hf
  obtain ⟨y, rs0, rfl, rfl, hS0⟩ := hS.int
  obtain ⟨x, rs1, rfl, rfl, hS1⟩ := hS0.int
  refine va_mmax C.1 C.2.1 hL.2.1.symm C.2.2.1 (C.2.2.2.1 _ hw) (C.2.2.2.1 _ hw2) (C.2.2.2.1 _ hw3) (C.2.2.2.1 _ hw4) hR1.1 (by rw [hS1.sum]; omega) hR1.2.2.1 hR1.2.2.2 hdg (kk ls _ H locs hL (hS1.cons ?_) hR hf)
  by_cases q : x < y
  · rw [if_pos q, if_pos (toInt_lt.mp q)]; rfl
  · rw [if_neg q, if_neg (fun z => q (toInt_lt.mpr z))]; rfl
theorem aw_mmin (C : CF G p s m args meth c cc own) {idx : Nat} (hw : Cond.methodLink own idx Lib.Math.min.name ∈ xTb) (hw2 : Cond.static Lib.Math.min.name ∈ xTb) (hw3 : Cond.initialized "java/lang/Math" ∈ xTb) (hw4 : Cond.code Lib.Math.min.name Lib.Math.min.code 2 (some .int) ∈ xTb) (hR1 : 1 ≤ R.frames ∧ 21 ≤ R.locals ∧ bc ≤ R.cells ∧ bs ≤ R.slots) (hr : (st.map acat).sum ≤ 8) (hdg : decode cc pc = .ok (.invokestatic idx, 3)) {a b : Int} (kk : AW G p l e R s m args below meth c bc bs Qf (pc + 3) env (vI (if b < a then b else a) :: st) h) : AW G p l e R s m args below meth c bc bs Qf pc env (vI b :: vI a :: st) h := by
  intro ls rs H locs hL hS hR hf
  obtain ⟨y, rs0, rfl, rfl, hS0⟩ := hS.int
  obtain ⟨x, rs1, rfl, rfl, hS1⟩ := hS0.int
  refine va_mmin C.1 C.2.1 hL.2.1.symm C.2.2.1 (C.2.2.2.1 _ hw) (C.2.2.2.1 _ hw2) (C.2.2.2.1 _ hw3) (C.2.2.2.1 _ hw4) hR1.1 (by rw [hS1.sum]; omega) hR1.2.2.1 hR1.2.2.2 hdg (kk ls _ H locs hL (hS1.cons ?_) hR hf)
  by_cases q : y < x
  · rw [if_pos q, if_pos (toInt_lt.mp q)]; rfl
  · rw [if_neg q, if_neg (fun z => q (toInt_lt.mpr z))]; rfl
theorem aw_mabs (C : CF G p s m args meth c cc own) {idx : Nat} (hw : Cond.methodLink own idx Lib.Math.abs.name ∈ xTb) (hw2 : Cond.static Lib.Math.abs.name ∈ xTb) (hw3 : Cond.initialized "java/lang/Math" ∈ xTb) (hw4 : Cond.code Lib.Math.abs.name Lib.Math.abs.code 1 (some .int) ∈ xTb) (hR1 : 1 ≤ R.frames ∧ 21 ≤ R.locals ∧ bc ≤ R.cells ∧ bs ≤ R.slots) (hr : (st.map acat).sum ≤ 8) (hdg : decode cc pc = .ok (.invokestatic idx, 3)) {a : Int} (ha : inR (0 - a)) (kk : AW G p l e R s m args below meth c bc bs Qf (pc + 3) env (vI (if 0 ≤ a then a else 0 - a) :: st) h) : AW G p l e R s m args below meth c bc bs Qf pc env (vI a :: st) h := by
  intro ls rs H locs hL hS hR hf
  obtain ⟨x, rs1, rfl, rfl, hS1⟩ := hS.int
  refine va_mabs C.1 C.2.1 hL.2.1.symm C.2.2.1 (C.2.2.2.1 _ hw) (C.2.2.2.1 _ hw2) (C.2.2.2.1 _ hw3) (C.2.2.2.1 _ hw4) hR1.1 (by rw [hS1.sum]; omega) hR1.2.2.1 hR1.2.2.2 hdg (kk ls _ H locs hL (hS1.cons ?_) hR hf)
  by_cases q : 0 ≤ x
  · rw [if_pos q, if_pos (toInt_ge0.mp q)]; rfl
  · rw [if_neg q, if_neg (fun z => q (toInt_ge0.mpr z))]
    show some (vI (0 - x).toInt) = _
    rw [inR_sub (show inR ((0 : Int32).toInt - x.toInt) from ha)]; rfl
theorem aw_d2raw (C : CF G p s m args meth c cc own) {idx : Nat} (hw : Cond.methodLink own idx ⟨"java/lang/Double", "doubleToRawLongBits", "(D)J"⟩ ∈ xTb) (hw2 : Cond.native ⟨"java/lang/Double", "doubleToRawLongBits", "(D)J"⟩ ∈ xTb) (hw3 : Cond.static ⟨"java/lang/Double", "doubleToRawLongBits", "(D)J"⟩ ∈ xTb) (hw4 : Cond.initialized "java/lang/Double" ∈ xTb) (hR1 : 1 ≤ R.frames ∧ 23 ≤ R.locals) (hr : (st.map acat).sum ≤ 8) (hdg : decode cc pc = .ok (.invokestatic idx, 3)) {a : UInt64} (kk : AW G p l e R s m args below meth c bc bs Qf (pc + 3) env (vL a.toInt64 :: st) h) : AW G p l e R s m args below meth c bc bs Qf pc env (vD a :: st) h := by
  intro ls rs H locs hL hS hR hf
  obtain ⟨rs1, rfl, hS1⟩ := hS.dbl
  exact vn_d2l C.1 C.2.1 hL.2.1.symm C.2.2.1 (C.2.2.2.1 _ hw) (C.2.2.2.1 _ hw2) (C.2.2.2.1 _ hw3) (C.2.2.2.1 _ hw4) hR1.1 (by rw [hS1.sum]; omega) hdg (kk ls _ H locs hL (hS1.cons rfl) hR hf)
theorem aw_copy (C : CF G p s m args meth c cc own) {idx : Nat} (hw : Cond.methodLink own idx arraycopyName ∈ xTb) (hw2 : Cond.native arraycopyName ∈ xTb) (hw3 : Cond.static arraycopyName ∈ xTb) (hw4 : Cond.initialized "java/lang/System" ∈ xTb) (hR1 : 1 ≤ R.frames ∧ 40 ≤ R.locals) (hr : (st.map acat).sum ≤ 8) (hdg : decode cc pc = .ok (.invokestatic idx, 3)) {a b na nb : Nat} {sp dp n : Int} (ha : hkd h a = (1, na)) (hb : hkd h b = (1, nb) ∧ hlo h ≤ b) (hz : 0 ≤ sp ∧ 0 ≤ dp ∧ 0 ≤ n ∧ sp + n ≤ (na : Int) ∧ dp + n ≤ (nb : Int)) (kk : AW G p l e R s m args below meth c bc bs Qf (pc + 3) env st (saI h b (cpI (haI h a) (haI h b) sp dp n))) : AW G p l e R s m args below meth c bc bs Qf pc env (vI n :: vI dp :: vR b :: vI sp :: vR a :: st) h := by
  intro ls rs H locs hL hS hR hf
  obtain ⟨n', rs1, rfl, rfl, hS1⟩ := hS.int
  obtain ⟨dp', rs2, rfl, rfl, hS2⟩ := hS1.int
  obtain ⟨rs3, rfl, hS3⟩ := hS2.ref
  obtain ⟨sp', rs4, rfl, rfl, hS4⟩ := hS3.int
  obtain ⟨rs5, rfl, hS5⟩ := hS4.ref
  obtain ⟨ca, c1, c2, c3, c4, c5, c6⟩ := (hR.2.2.2.2 a).arrI ha
  obtain ⟨cb, d1, d2, d3, d4, d5, d6⟩ := (hR.2.2.2.2 b).arrI hb.1
  obtain ⟨z1, z2, z3, z4, z5⟩ := hz
  have es : ((sp'.toNatClampNeg : Nat) : Int) = sp'.toInt := by show ((sp'.toInt.toNat : Nat) : Int) = _; omega
  have ed : ((dp'.toNatClampNeg : Nat) : Int) = dp'.toInt := by show ((dp'.toInt.toNat : Nat) : Int) = _; omega
  have en : ((n'.toNatClampNeg : Nat) : Int) = n'.toInt := by show ((n'.toInt.toNat : Nat) : Int) = _; omega
  obtain ⟨o1, ka, hka, cma, hkka⟩ := c2
  obtain ⟨o2, kb, hkb, cmb, hkkb⟩ := id d2
  have hval : ∀ i, i < n'.toNatClampNeg → ∃ x : Int32, ca.slots.getD (sp'.toNatClampNeg + i) .null = .int x ∧ x.toInt = haI h a (sp'.toInt + (i : Int)) := by
    intro i hi
    obtain ⟨x, x1, x2⟩ := c6 (sp'.toNatClampNeg + i) (by omega)
    refine ⟨x, by rw [Array.getD_eq_getD_getElem?, x1]; rfl, ?_⟩
    rw [x2]; congr 1; omega
  intro T hT X
  obtain ⟨vm', X', step⟩ := X.arraycopy C.1 C.2.2.1 (C.2.2.2.1 _ hw) (C.2.2.2.1 _ hw2) (C.2.2.2.1 _ hw3) (C.2.2.2.1 _ hw4) (src := a) (dst := b) (cs := ca) (cd := cb) (srcPos := sp') (destPos := dp') (n := n') (by rw [hT]; exact c1) (by rw [hT]; exact d1) o1 o2 c3 d3 hka hkb hkka hkkb rfl
    (by rw [toInt_lt0]; omega) (by rw [toInt_lt0]; omega) (by rw [toInt_lt0]; omega) (by rw [c4]; omega) (by rw [d4]; omega)
    (fun vm₁ _ i hi => by
      obtain ⟨x, x1, -⟩ := hval i hi
      rw [x1]
      exact ⟨rfl, trivial⟩)
    (g := F0 m pc ls (.int n' :: .int dp' :: .ref b :: .int sp' :: .ref a :: rs5)) rfl hL.2.1 (rest := rs5) rfl (by rw [C.2.1]; exact hdg) hR1.1 (by
      have hw9 : nativeFrameWords "java/lang/System" "arraycopy" 5 + 11 ≤ 32 := by decide
      show 2 * 0 + _ + _ ≤ _
      rw [hS5.sum]; omega)
  have hlen : (ca.stretch sp'.toNatClampNeg n'.toNatClampNeg).length = n'.toNatClampNeg := by simp [Cell.stretch]
  have hl : b < H.size := (Array.getElem?_eq_some_iff.mp d1).1
  have hheap : ((T.setVm vm').setCell b (copied ca cb sp' dp' n')).heap = H.setIfInBounds b (copied ca cb sp' dp' n') := by rw [← hT]; rfl
  have hfacts := Cell.storeRun_facts cb dp'.toNatClampNeg (ca.stretch sp'.toNatClampNeg n'.toNatClampNeg)
  obtain ⟨t, a1, b1⟩ := kk ls rs5 (H.setIfInBounds b (copied ca cb sp' dp' n')) _ hL hS5 (hR.upd (a := b) (by simp) (fun q hq => by simp [Array.getElem?_setIfInBounds, Ne.symm hq]) hb.2 rfl agr_saI (by
      unfold RC
      rw [show hkd (saI h b (cpI (haI h a) (haI h b) sp'.toInt dp'.toInt n'.toInt)) b = (1, nb) from hb.1]
      refine ⟨copied ca cb sp' dp' n', by simp [Array.getElem?_setIfInBounds, hl], ?_, ?_, ?_, d5, fun j hj => ?_⟩
      · refine ⟨fun k hk => o2 k (by rw [← hfacts.2.1]; exact hk), kb, ?_, cmb, hkkb⟩
        show s.vm.classes[(cb.storeRun dp'.toNatClampNeg (ca.stretch sp'.toNatClampNeg n'.toNatClampNeg)).cls]? = _
        rw [hfacts.1]; exact hkb
      · show (cb.storeRun dp'.toNatClampNeg (ca.stretch sp'.toNatClampNeg n'.toNatClampNeg)).vm ≠ _
        rw [hfacts.2.1]; exact d3
      · show (cb.storeRun dp'.toNatClampNeg (ca.stretch sp'.toNatClampNeg n'.toNatClampNeg)).slots.size = _
        rw [hfacts.2.2.1]; exact d4
      · rw [saI_s]
        show ∃ x, (cb.storeRun dp'.toNatClampNeg (ca.stretch sp'.toNatClampNeg n'.toNatClampNeg)).slots[j]? = _ ∧ _
        rw [Cell.storeRun_get _ _ _ _ (by rw [hlen, d4]; omega), hlen]
        unfold cpI
        by_cases hin : dp'.toNatClampNeg ≤ j ∧ j < dp'.toNatClampNeg + n'.toNatClampNeg
        · rw [if_pos hin, if_pos (by omega)]
          obtain ⟨x, x1, x2⟩ := hval (j - dp'.toNatClampNeg) (by omega)
          refine ⟨x, ?_, ?_⟩
          · unfold Cell.stretch
            rw [List.getElem?_map, List.getElem?_range (by omega)]
            show some (ca.slots.getD (sp'.toNatClampNeg + (j - dp'.toNatClampNeg)) .null) = _
            rw [x1]
          · rw [x2]; congr 1; omega
        · rw [if_neg hin, if_neg (by omega)]
          exact d6 j hj)) (by
      intro q hq
      rcases List.mem_append.mp hq with hq | hq
      · exact hf q hq
      · obtain ⟨z, -, hz⟩ := List.mem_map.mp hq
        rw [← hz]
        show G.2.1.size ≤ b
        rw [← hR.1]; exact hb.2) _ hheap X'
  exact ⟨t, step t a1, b1⟩
theorem aw_objInit (C : CF G p s m args meth c cc own) {idx : Nat} (hw : Cond.methodLink own idx Lib.objectInit ∈ xTb) (hw2 : Cond.instanceMethod Lib.objectInit ∈ xTb) (hw3 : Cond.code Lib.objectInit ⟨#[0xb1]⟩ 1 none ∈ xTb) (hR1 : 1 ≤ R.frames ∧ 20 ≤ R.locals) (hr : (st.map acat).sum ≤ 8) (hdg : decode cc pc = .ok (.invokespecial idx, 3)) {a : Nat} (kk : AW G p l e R s m args below meth c bc bs Qf (pc + 3) env st h) : AW G p l e R s m args below meth c bc bs Qf pc env (vR a :: st) h := by
  intro ls rs H locs hL hS hR hf
  obtain ⟨rs1, rfl, hS1⟩ := hS.ref
  exact W.objInit C.1 C.2.1 C.2.2.1 (C.2.2.2.1 _ hw) (C.2.2.2.1 _ hw2) (C.2.2.2.1 _ hw3) rfl hL.2.1 rfl hdg hR1.1 (by show 2 * 0 + _ + 12 ≤ _; rw [hS1.sum]; omega) (kk ls _ H locs hL hS1 hR hf)
theorem aw_run {mc ms : Nat} {Q : Option AV → AH → Prop} {ls : Array Slot} {rs rest : List Value} {H : Heap} {locs : List Loc} {a : Array Value} (hrun : va_Run p l e R s m args below meth c H locs bc bs mc ms (F0 m pc ls rs) rest (QG G Q a) (frA G)) (hL : LR c.maxLocals env ls) (hS : SR st rest) (hf : ∀ q ∈ locs, G.2.1.size ≤ q.base)
    (kk : ∀ (v : Option AV) (h' : AH), Q v h' → AW G p l e R s m args below meth c (bc + mc) (bs + ms) Qf (pc + 3) env (v.toList ++ st) h') : W p l e R s m args below meth c H locs bc bs Qf (F0 m pc ls rs) := by
  intro T hT X
  obtain ⟨v, st₀, t, T', L, h0, X', hLf, e1, e2, ⟨r, av, h', hv, hav, hq, hrel⟩, st1⟩ := hrun T hT X
  cases hv
  have hal : t.vm.Alike s.vm := by rw [← e2]; exact (X'.warmed.alike).symm
  have hrel2 : Rel s G.1 G.2.1 h' T'.heap := by rw [e1]; exact hrel.moved hal
  have hS2 : SR (av.toList ++ st) (v.toList ++ rest) := by
    cases v with
    | none => cases av with
      | none => exact hS
      | some _ => simp at hav
    | some w => cases av with
      | none => simp at hav
      | some z => exact hS.cons (by simpa using hav)
  obtain ⟨t2, a1, b1⟩ := kk av h' hq ls _ T'.heap (locs ++ L) hL hS2 hrel2 (fun q hq => by
    rcases List.mem_append.mp hq with hq | hq
    · exact hf q hq
    · exact hLf q hq) T' rfl X'
  exact ⟨t2, st1 t2 a1, b1⟩
theorem PcA.blind {As : List Value} {h : AH} : FrameBlind (PcA G As h) := fun a U g mk q => ⟨q.1, q.2.1.moved (u := U.calling g mk a) (Vm.Alike.refl U.vm), va_K.moved (u := U) (U := U.calling g mk a) (Vm.Alike.refl U.vm) q.2.2.1, q.2.2.2.1.moved (u := U.calling g mk a) (Vm.Alike.refl U.vm), NF.same (u := U) (U := U.calling g mk a) rfl q.2.2.2.2⟩
theorem PcA.at {As : List Value} {H : Heap} (C : CF G p s m args meth c cc own) (hR : Rel s G.1 G.2.1 h H) : ∀ U : State, U.heap = H → s.WarmedH U.vm → PcA G As h As.toArray U := fun U hU hW => ⟨rfl, by rw [hU]; exact hR.moved hW.alike, va_K.moved hW.alike C.2.2.2.2.2.1, C.2.2.2.2.2.2.1.moved hW.alike, C.2.2.2.2.2.2.2.warm hW⟩
theorem good_cons {y : MethodName} {bytes : ByteArray} {maxL : Nat} {ret : Option FieldType} (hw : Cond.code y bytes maxL ret ∈ xTb) : GoodIn xTb (.code y bytes maxL ret :: xTb) := fun w h => by
  rcases List.mem_cons.mp h with rfl | h
  · exact good_all _ hw
  · exact good_all _ h
theorem aw_callV (C : CF G p s m args meth c cc own) {ci idx maxL mc ms b : Nat} {Cn : String} {T : u_T} {N : Nat} {y : MethodName} {bytes : ByteArray} {ret : Option FieldType} {rm : Room} {Q : Option AV → AH → Prop} {as st0 : List AV} (I : CI ci Cn T N)
    (hM : ∀ As : List Value, As.map ab = (vR b :: as).map some → Met l y (.code y bytes maxL ret :: xTb) rm (PcA G As h) (QG G Q) mc ms (frA G))
    (hw : Cond.methodLink own idx y ∈ xTb) (hw2 : Cond.instanceMethod y ∈ xTb) (hw3 : Cond.selects y.cls y y ∈ xTb) (hw4 : Cond.initialized y.cls ∈ xTb) (hw5 : Cond.code y bytes maxL ret ∈ xTb) (hrm : rm.cells = mc ∧ rm.slots = ms)
    (hd : y.cls = Cn ∧ y.cls ≠ "java/lang/invoke/MethodHandle" ∧ y.cls ≠ "java/lang/invoke/VarHandle" ∧ (parseMethodDescriptor y.desc).map (fun d => d.parameters.length) = some as.length) (hR1 : rm.frames + 1 ≤ R.frames ∧ 8 + (maxL + 11) + rm.locals ≤ R.locals) (hR2 : bc + mc ≤ R.cells ∧ bs + ms ≤ R.slots) (hr : (st.map acat).sum ≤ 8)
    (hdg : decode cc pc = .ok (.invokevirtual idx, 3)) (hst : st0 = as.reverse ++ vR b :: st) (hb : (hkd h b).1 = ci + 4)
    (kk : ∀ (v : Option AV) (h' : AH), Q v h' → AW G p l e R s m args below meth c (bc + mc) (bs + ms) Qf (pc + 3) env (v.toList ++ st) h') : AW G p l e R s m args below meth c bc bs Qf pc env st0 h := by
  subst hst
  intro ls rs H locs hL hS hR hf
  obtain ⟨Ar, rs1, rfl, hA, hS1⟩ := hS.split
  obtain ⟨rs2, rfl, hS2⟩ := hS1.ref
  obtain ⟨V, ⟨cell, v1, v2, v3, -⟩, -⟩ := (hR.2.2.2.2 b).obj I hb
  have hA' : SR as Ar.reverse := hA.rev
  have hM' := hM (.ref b :: Ar.reverse) (by have := hA'; unfold SR at this; simp [this]; rfl)
  obtain ⟨hd1, hd2, hd3, hd4⟩ := hd
  refine aw_run (va_runV (As := Ar.reverse) (rest := rs2) (C := Cn) ⟨C.1, C.2.1, rfl, C.2.2.1, C.2.2.2.1⟩ hM' ⟨callB_of as.length C.2.2.2.1 (good_cons hw5) rfl hrm.1 hrm.2 (C.2.2.2.1 _ hw4) (C.2.2.2.1 _ hw) ⟨hd2, hd3, hd4⟩ hR1, C.2.2.2.1 _ hw2, by rw [← hd1]; exact C.2.2.2.1 _ hw3⟩ ⟨PcA.blind, ⟨cell, v1, by rw [v3]; rfl, by rw [v2]; exact (C.2.2.2.2.2.1.1 ci _ I.1).2.1⟩, PcA.at C hR⟩ rfl hA'.len hL.2.1 (by simp) (by show 2 * 0 + _ ≤ 8; rw [hS2.sum]; omega) hdg hR2) hL hS2 hf kk
theorem aw_callS (C : CF G p s m args meth c cc own) {idx maxL mc ms : Nat} {y : MethodName} {bytes : ByteArray} {ret : Option FieldType} {rm : Room} {Q : Option AV → AH → Prop} {as st0 : List AV}
    (hM : ∀ As : List Value, As.map ab = as.map some → Met l y (.code y bytes maxL ret :: xTb) rm (PcA G As h) (QG G Q) mc ms (frA G))
    (hw : Cond.methodLink own idx y ∈ xTb) (hw2 : Cond.static y ∈ xTb) (hw4 : Cond.initialized y.cls ∈ xTb) (hw5 : Cond.code y bytes maxL ret ∈ xTb) (hrm : rm.cells = mc ∧ rm.slots = ms)
    (hd : y.cls ≠ "java/lang/invoke/MethodHandle" ∧ y.cls ≠ "java/lang/invoke/VarHandle" ∧ (parseMethodDescriptor y.desc).map (fun d => d.parameters.length) = some as.length) (hR1 : rm.frames + 1 ≤ R.frames ∧ 8 + (maxL + 11) + rm.locals ≤ R.locals) (hR2 : bc + mc ≤ R.cells ∧ bs + ms ≤ R.slots) (hr : (st.map acat).sum ≤ 8)
    (hdg : decode cc pc = .ok (.invokestatic idx, 3)) (hst : st0 = as.reverse ++ st)
    (kk : ∀ (v : Option AV) (h' : AH), Q v h' → AW G p l e R s m args below meth c (bc + mc) (bs + ms) Qf (pc + 3) env (v.toList ++ st) h') : AW G p l e R s m args below meth c bc bs Qf pc env st0 h := by
  subst hst
  intro ls rs H locs hL hS hR hf
  obtain ⟨Ar, rs2, rfl, hA, hS2⟩ := hS.split
  have hA' : SR as Ar.reverse := hA.rev
  have hM' := hM Ar.reverse hA'
  exact aw_run (va_runS (As := Ar.reverse) (rest := rs2) ⟨C.1, C.2.1, rfl, C.2.2.1, C.2.2.2.1⟩ hM' ⟨callB_of as.length C.2.2.2.1 (good_cons hw5) rfl hrm.1 hrm.2 (C.2.2.2.1 _ hw4) (C.2.2.2.1 _ hw) hd hR1, C.2.2.2.1 _ hw2⟩ ⟨PcA.blind, PcA.at C hR⟩ rfl hA'.len hL.2.1 (by simp) (by show 2 * 0 + _ ≤ 8; rw [hS2.sum]; omega) hdg hR2) hL hS2 hf kk
theorem aw_callSN (C : CF G p s m args meth c cc own) {idx maxL mc ms : Nat} {y : MethodName} {host : String} {bytes : ByteArray} {ret : Option FieldType} {rm : Room} {Q : Option AV → AH → Prop} {as st0 : List AV}
    (hM : ∀ As : List Value, As.map ab = as.map some → Met l y (.code y bytes maxL ret :: xTb) rm (PcA G As h) (QG G Q) mc ms (frA G))
    (hw : nwM = Cond.methodLinkNest own idx y host) (hw2 : Cond.static y ∈ xTb) (hw4 : Cond.initialized y.cls ∈ xTb) (hw5 : Cond.code y bytes maxL ret ∈ xTb) (hrm : rm.cells = mc ∧ rm.slots = ms)
    (hd : y.cls ≠ "java/lang/invoke/MethodHandle" ∧ y.cls ≠ "java/lang/invoke/VarHandle" ∧ (parseMethodDescriptor y.desc).map (fun d => d.parameters.length) = some as.length) (hR1 : rm.frames + 1 ≤ R.frames ∧ 8 + (maxL + 11) + rm.locals ≤ R.locals) (hR2 : bc + mc ≤ R.cells ∧ bs + ms ≤ R.slots) (hr : (st.map acat).sum ≤ 8)
    (hdg : decode cc pc = .ok (.invokestatic idx, 3)) (hst : st0 = as.reverse ++ st)
    (kk : ∀ (v : Option AV) (h' : AH), Q v h' → AW G p l e R s m args below meth c (bc + mc) (bs + ms) Qf (pc + 3) env (v.toList ++ st) h') : AW G p l e R s m args below meth c bc bs Qf pc env st0 h := by
  subst hst
  intro ls rs H locs hL hS hR hf
  obtain ⟨Ar, rs2, rfl, hA, hS2⟩ := hS.split
  have hA' : SR as Ar.reverse := hA.rev
  have hM' := hM Ar.reverse hA'
  exact aw_run (va_runSN (As := Ar.reverse) (rest := rs2) ⟨C.1, C.2.1, rfl, C.2.2.1, C.2.2.2.1⟩ hM' ⟨va_cnB as.length C.2.2.2.1 (good_cons hw5) rfl hrm.1 hrm.2 (by rw [← hw]; exact C.2.2.2.2.2.2.2.1) (C.2.2.2.1 _ hw4) hd hR1, C.2.2.2.1 _ hw2, trivial⟩ ⟨PcA.blind, PcA.at C hR⟩ rfl hA'.len hL.2.1 (by simp) (by show 2 * 0 + _ ≤ 8; rw [hS2.sum]; omega) hdg hR2) hL hS2 hf kk
theorem aw_callI (C : CF G p s m args meth c cc own) {idx maxL mc ms b : Nat} {y : MethodName} {bytes : ByteArray} {rm : Room} {Q : Option AV → AH → Prop} {as st0 : List AV}
    (hM : ∀ As : List Value, As.map ab = (vR b :: as).map some → Met l y (.code y bytes maxL none :: xTb) rm (PcA G As h) (QG G Q) mc ms (frA G))
    (hw : Cond.methodLink own idx y ∈ xTb) (hw2 : Cond.instanceMethod y ∈ xTb) (hw4 : Cond.initialized y.cls ∈ xTb) (hw5 : Cond.code y bytes maxL none ∈ xTb) (hrm : rm.cells = mc ∧ rm.slots = ms) (hy1 : y.name = "<init>")
    (hd : y.cls ≠ "java/lang/invoke/MethodHandle" ∧ y.cls ≠ "java/lang/invoke/VarHandle" ∧ (parseMethodDescriptor y.desc).map (fun d => d.parameters.length) = some as.length) (hR1 : rm.frames + 1 ≤ R.frames ∧ 8 + (maxL + 11) + rm.locals ≤ R.locals) (hR2 : bc + mc ≤ R.cells ∧ bs + ms ≤ R.slots) (hr : (st.map acat).sum ≤ 8)
    (hdg : decode cc pc = .ok (.invokespecial idx, 3)) (hst : st0 = as.reverse ++ vR b :: st)
    (kk : ∀ (v : Option AV) (h' : AH), Q v h' → AW G p l e R s m args below meth c (bc + mc) (bs + ms) Qf (pc + 3) env (v.toList ++ st) h') : AW G p l e R s m args below meth c bc bs Qf pc env st0 h := by
  subst hst
  intro ls rs H locs hL hS hR hf
  obtain ⟨Ar, rs1, rfl, hA, hS1⟩ := hS.split
  obtain ⟨rs2, rfl, hS2⟩ := hS1.ref
  have hA' : SR as Ar.reverse := hA.rev
  have hM' := hM (.ref b :: Ar.reverse) (by have := hA'; unfold SR at this; simp [this]; rfl)
  exact aw_run (va_runI (As := Ar.reverse) (rest := rs2) ⟨C.1, C.2.1, rfl, C.2.2.1, C.2.2.2.1⟩ hM' (cwI as.length C.2.2.2.1 (good_cons hw5) rfl hrm.1 hrm.2 (C.2.2.2.1 _ hw4) (C.2.2.2.1 _ hw) (C.2.2.2.1 _ hw2) hy1 hd hR1) ⟨PcA.blind, PcA.at C hR⟩ rfl hA'.len hL.2.1 (by simp) (by show 2 * 0 + _ ≤ 8; rw [hS2.sum]; omega) hdg hR2) hL hS2 hf kk
theorem aw_iret (C : CF G p s m args meth c cc own) {mc ms : Nat} {Q : Option AV → AH → Prop} {i : Int} (hr : meth.sig.returnType = some .int) (hdg : decode cc pc = .ok (.ireturn, 1)) (hb : bc ≤ mc ∧ bs ≤ ms) (hq : Q (some (vI i)) h) : AW G p l e R s m args below meth c bc bs (MQ below (QG G Q) args s mc ms (frA G)) pc env [vI i] h := by
  intro ls rs H locs hL hS hR hf
  obtain ⟨x, rs1, rfl, rfl, hS1⟩ := hS.int
  obtain rfl := hS1.empty
  refine W.widen hb.1 hb.2 ?_
  exact W.iret C.1 C.2.1 hr (fun t ht hW => ⟨_, _, h, rfl, rfl, hq, by rw [ht]; exact hR.moved hW.alike⟩) hf hdg C.2.2.2.2.1
theorem aw_zret (C : CF G p s m args meth c cc own) {mc ms : Nat} {Q : Option AV → AH → Prop} {i : Int} (hr : meth.sig.returnType = some .boolean) (hdg : decode cc pc = .ok (.ireturn, 1)) (hb : bc ≤ mc ∧ bs ≤ ms) (hz : i = 0 ∨ i = 1) (hq : Q (some (vI i)) h) : AW G p l e R s m args below meth c bc bs (MQ below (QG G Q) args s mc ms (frA G)) pc env [vI i] h := by
  intro ls rs H locs hL hS hR hf
  obtain ⟨x, rs1, rfl, e1, hS1⟩ := hS.int
  obtain rfl := hS1.empty
  have hx2 : x = 0 ∨ x = 1 := by
    rcases hz with hz | hz
    · left; rw [toInt_eq, e1, hz]; rfl
    · right; rw [toInt_eq, e1, hz]; rfl
  refine W.widen hb.1 hb.2 ?_
  exact W.zret C.1 C.2.1 hr (by rcases hx2 with rfl | rfl <;> rfl) (fun t ht hW => ⟨_, _, h, rfl, by rw [← e1]; rfl, hq, by rw [ht]; exact hR.moved hW.alike⟩) hf hdg C.2.2.2.2.1
theorem aw_lret (C : CF G p s m args meth c cc own) {mc ms : Nat} {Q : Option AV → AH → Prop} {i : Int64} (hr : meth.sig.returnType = some .long) (hdg : decode cc pc = .ok (.lreturn, 1)) (hb : bc ≤ mc ∧ bs ≤ ms) (hq : Q (some (vL i)) h) : AW G p l e R s m args below meth c bc bs (MQ below (QG G Q) args s mc ms (frA G)) pc env [vL i] h := by
  intro ls rs H locs hL hS hR hf
  obtain ⟨rs1, rfl, hS1⟩ := hS.long
  obtain rfl := hS1.empty
  refine W.widen hb.1 hb.2 ?_
  exact W.lret C.1 C.2.1 hr (fun t ht hW => ⟨_, _, h, rfl, rfl, hq, by rw [ht]; exact hR.moved hW.alike⟩) hf hdg C.2.2.2.2.1
theorem aw_dret (C : CF G p s m args meth c cc own) {mc ms : Nat} {Q : Option AV → AH → Prop} {i : UInt64} (hr : meth.sig.returnType = some .double) (hdg : decode cc pc = .ok (.dreturn, 1)) (hb : bc ≤ mc ∧ bs ≤ ms) (hq : Q (some (vD i)) h) : AW G p l e R s m args below meth c bc bs (MQ below (QG G Q) args s mc ms (frA G)) pc env [vD i] h := by
  intro ls rs H locs hL hS hR hf
  obtain ⟨rs1, rfl, hS1⟩ := hS.dbl
  obtain rfl := hS1.empty
  refine W.widen hb.1 hb.2 ?_
  exact W.dret C.1 C.2.1 hr (fun t ht hW => ⟨_, _, h, rfl, rfl, hq, by rw [ht]; exact hR.moved hW.alike⟩) hf hdg C.2.2.2.2.1
theorem aw_vret (C : CF G p s m args meth c cc own) {mc ms : Nat} {Q : Option AV → AH → Prop} (hr : meth.sig.returnType = none) (hdg : decode cc pc = .ok (.return_, 1)) (hb : bc ≤ mc ∧ bs ≤ ms) (hq : Q none h) : AW G p l e R s m args below meth c bc bs (MQ below (QG G Q) args s mc ms (frA G)) pc env [] h := by
  intro ls rs H locs hL hS hR hf
  obtain rfl := hS.empty
  refine W.widen hb.1 hb.2 ?_
  exact W.vret C.1 C.2.1 hr (fun t ht hW => ⟨_, _, h, rfl, rfl, hq, by rw [ht]; exact hR.moved hW.alike⟩) hf hdg C.2.2.2.2.1
theorem aw_aret (C : CF G p s m args meth c cc own) {mc ms : Nat} {Q : Option AV → AH → Prop} {a : Nat} {n : String} (hr : meth.sig.returnType = some (.object n)) (hdg : decode cc pc = .ok (.areturn, 1)) (hb : bc ≤ mc ∧ bs ≤ ms) (hq : Q (some (vR a)) h) : AW G p l e R s m args below meth c bc bs (MQ below (QG G Q) args s mc ms (frA G)) pc env [vR a] h := by
  intro ls rs H locs hL hS hR hf
  obtain ⟨rs1, rfl, hS1⟩ := hS.ref
  obtain rfl := hS1.empty
  refine W.widen hb.1 hb.2 ?_
  exact W.aret C.1 C.2.1 hr (Or.inl ⟨n, rfl⟩) (Or.inr ⟨a, rfl⟩) (fun t ht hW => ⟨_, _, h, rfl, rfl, hq, by rw [ht]; exact hR.moved hW.alike⟩) hf hdg C.2.2.2.2.1
end AWC
end
section
/-! EXCEPTIONS: a method that throws, its caller that catches -/
def XG (G : GG) (X : String → AH → Prop) : String → State → State → Prop := fun E _ t => ∃ h', X E h' ∧ Rel t G.1 G.2.1 h' t.heap
theorem Rel.gb {s : State} {D : va_G} {H0 : Heap} {h : AH} {H H' : Heap} (r : Rel s D H0 h H) (z : H.size ≤ H'.size) (oq : ∀ q : Nat, q < H.size → H'[q]? = H[q]?) : Rel s D H0 (nGb h (H'.size - H.size)) H' := by
  obtain ⟨r1, r2, r3, r4, r5⟩ := r
  refine ⟨r1, ?_, by omega, fun q hq => by rw [oq q (by omega)]; exact r4 q hq, fun q => ?_⟩
  · show hn h + (H'.size - H.size) = H'.size
    omega
  · have e : agr h (nGb h (H'.size - H.size)) q := ⟨rfl, rfl, rfl, rfl, rfl, rfl, rfl⟩
    by_cases hl : q < H.size
    · exact (r5 q).congr e (oq q hl)
    · have r9 := r5 q
      have hnone : H[q]? = none := by simp; omega
      unfold RC at r9 ⊢
      rw [e.1]
      split at r9
      · trivial
      · obtain ⟨cell, h1, -⟩ := r9; rw [hnone] at h1; cases h1
      · obtain ⟨cell, h1, -⟩ := r9; rw [hnone] at h1; cases h1
      · obtain ⟨cA, f, h1, -⟩ := r9; rw [hnone] at h1; cases h1
      · obtain ⟨r, V, -, ⟨cell, h1, -⟩, -⟩ := r9; rw [hnone] at h1; cases h1
theorem met_ofX {G : GG} {l : Launch} {y : MethodName} {cc : ByteArray} {maxL : Nat} {ret : Option FieldType} {rm : Room} {mc ms : Nat} {as : List AV} {As : List Value} {h : AH} {Q : Option AV → AH → Prop} {X : String → AH → Prop} (hA : As.map ab = as.map some) (hy : plainName y.cls = true) (hlen : (as.map acat).sum ≤ maxL)
    (body : ∀ (p : Program) (e : Env) (s : State) (m : MethodId) (args : Array Value) (below : List Frame) (meth : Method) (c : Code), CF G p s m args meth c cc y.cls → c.maxLocals = maxL → meth.sig.returnType = ret → meth.name = y.name → (∀ x ∈ c.exceptionTable.toList, False) → Rel s G.1 G.2.1 h s.heap → AW G p l e rm s m args below meth c 0 0 (vx_MQ below (QG G Q) (XG G X) args s mc ms (frA G)) 0 (envOf 0 as) [] h) :
    vx_Met l y (.code y cc maxL ret :: xTb) rm (PcA G As h) (QG G Q) (XG G X) mc ms (frA G) := by
  refine vx_ofW (cc := cc) (maxL := maxL) (ret := ret) hy rfl ?_
  intro p e s m args below meth c s₁ B hml htab hP
  obtain ⟨rfl, hrel, hK, hZ, hN⟩ := hP
  have hts := atoms_spec (ws := .code y cc maxL ret :: xTb) B.pre
  have C : CF G p s m As.toArray meth c cc y.cls := ⟨B.exec, B.bytes, findClass_of_methodNamed B.named, fun w hw => hts w (List.mem_cons_of_mem _ hw), B.notSynchronized, hK, hZ, hN⟩
  have hE := lv_entry As (n := maxL) (by rw [sl_len hA]; exact hlen)
  have K := body p e s m As.toArray below meth c C hml B.returns (name_of_methodNamed B.named B.method).1 htab hrel ((lg_sl As ++ List.replicate (maxL - (lg_sl As).length) Slot.unset).toArray) [] s.heap [] ⟨hE.2.1, by rw [hml]; exact hE.1, fun i v hi => by
    obtain ⟨r, r1, r2⟩ := envOf_in hA hi
    exact ⟨r, hE.2.2 (i, r) r1, r2⟩⟩ SR.nil hrel (fun q hq => by cases hq)
  rw [lg_entry_eq]; exact K
theorem met_ofH {G : GG} {l : Launch} {y : MethodName} {cc : ByteArray} {maxL : Nat} {ret : Option FieldType} {hh : List (Nat × Nat × Nat × Nat)} {rm : Room} {mc ms : Nat} {as : List AV} {As : List Value} {h : AH} {Q : Option AV → AH → Prop} (hA : As.map ab = as.map some) (hy : plainName y.cls = true) (hlen : (as.map acat).sum ≤ maxL)
    (body : ∀ (p : Program) (e : Env) (s : State) (m : MethodId) (args : Array Value) (below : List Frame) (meth : Method) (c : Code), CF G p s m args meth c cc y.cls → c.maxLocals = maxL → meth.sig.returnType = ret → meth.name = y.name → c.exceptionTable.toList = tableOf hh → AW G p l e rm s m args below meth c 0 0 (MQ below (QG G Q) args s mc ms (frA G)) 0 (envOf 0 as) [] h) :
    Met l y (.codeWith y cc maxL ret hh :: xTb) rm (PcA G As h) (QG G Q) mc ms (frA G) := by
  refine va_MetW (cc := cc) (maxL := maxL) (ret := ret) (hh := hh) hy rfl ?_
  intro p e s m args below meth c s₁ B hml hP
  obtain ⟨rfl, hrel, hK, hZ, hN⟩ := hP
  have hts := atoms_spec (ws := .codeWith y cc maxL ret hh :: xTb) B.pre
  have C : CF G p s m As.toArray meth c cc y.cls := ⟨B.exec, B.bytes, findClass_of_methodNamed B.named, fun w hw => hts w (List.mem_cons_of_mem _ hw), B.notSynchronized, hK, hZ, hN⟩
  have hE := lv_entry As (n := maxL) (by rw [sl_len hA]; exact hlen)
  have K := body p e s m As.toArray below meth c C hml B.returns (name_of_methodNamed B.named B.method).1 (vx_table (x := y) B (hts _ List.mem_cons_self)) ((lg_sl As ++ List.replicate (maxL - (lg_sl As).length) Slot.unset).toArray) [] s.heap [] ⟨hE.2.1, by rw [hml]; exact hE.1, fun i v hi => by
    obtain ⟨r, r1, r2⟩ := envOf_in hA hi
    exact ⟨r, hE.2.2 (i, r) r1, r2⟩⟩ SR.nil hrel (fun q hq => by cases hq)
  rw [lg_entry_eq]; exact K
section AWX
variable {G : GG} {p : Program} {l : Launch} {e : Env} {R : Room} {s : State} {m : MethodId} {args : Array Value} {below : List Frame} {meth : Method} {c : Code} {bc bs : Nat} {Qf : State → Prop} {cc : ByteArray} {own : String}
variable {pc : Nat} {env : Nat → Option AV} {st : List AV} {h : AH}
theorem aw_vx {Q : Option AV → AH → Prop} {X : String → AH → Prop} {mc ms : Nat} (k : AW G p l e R s m args below meth c bc bs (MQ below (QG G Q) args s mc ms (frA G)) pc env st h) : AW G p l e R s m args below meth c bc bs (vx_MQ below (QG G Q) (XG G X) args s mc ms (frA G)) pc env st h :=
  fun ls rs H locs hL hS hR hf => vx_ret (k ls rs H locs hL hS hR hf)
theorem aw_throw (C : CF G p s m args meth c cc own) (hst : l.stackTraces = false) (htab : ∀ x ∈ c.exceptionTable.toList, False) {h0 : AH} (hR0 : Rel s G.1 G.2.1 h0 s.heap) (hle : hn h0 ≤ hn h) {cls text : String} {names : List String} {ik is ic mc ms : Nat} {Q : Option AV → AH → Prop} {X : String → AH → Prop}
    (hcls : Bundle.fit cls = true) (hnames : ∀ n ∈ names, Bundle.fit n = true) (hk : Cond.classLink own ik cls ∈ xTb) (hini : Cond.initialized cls ∈ xTb) (ho : own = RX6) (hstr : (is, text) ∈ xStr) (hat : ∀ w ∈ vx_atS own ic cls names, w ∈ lw_tbl) (hgood : (vx_atS own ic cls names).all vx_ot = true) (hcd : (vx_atS own ic cls names).all (fun w => goodWord w || xCd w) = true)
    (d0 : decode cc pc = .ok (.new ik, 3)) (d3 : decode cc (pc + 3) = .ok (.dup, 1)) (d4 : decode cc (pc + 4) = .ok (.ldc is, 2)) (d6 : decode cc (pc + 6) = .ok (.invokespecial ic, 3)) (d9 : decode cc (pc + 9) = .ok (.athrow, 1))
    (hroom : names.length + 3 < R.frames ∧ 8 + (13 * (names.length + 1) + 43) ≤ R.locals ∧ bc + 1 ≤ R.cells ∧ bs + 6 ≤ R.slots) (hr : (st.map acat).sum ≤ 8) (hb : bc + 1 ≤ mc ∧ bs + 6 ≤ ms) (hx : ∀ k, X cls (nGb h k)) : AW G p l e R s m args below meth c bc bs (vx_MQ below (QG G Q) (XG G X) args s mc ms (frA G)) pc env st h := by
  intro ls rs H locs hL hS hR hf
  obtain ⟨-, -, -, -, -, -, hZF, hNF⟩ := id C
  obtain ⟨sa, hsa⟩ := hNF.2.2.2.1 _ hstr
  have low : ∀ a : Nat, a < G.2.1.size → ¬ (G.2.1.size ≤ a) → s.heap[a]? = G.2.1[a]? := fun a h1 _ => hR0.2.2.2.1 a h1
  have hatT : ∀ w ∈ vx_atS own ic cls names, w.before args s = true := by
    intro w hw
    have h1 := List.all_eq_true.mp hcd w hw
    simp only [Bool.or_eq_true] at h1
    rcases h1 with h1 | h1
    · exact C.2.2.2.1 _ (xTb_in (hat w hw) h1)
    · exact va_Nw.use (xCd_ot h1) (hNF.2.2.1 w (List.mem_filter.mpr ⟨hat w hw, h1⟩))
  refine vx_throwS (A := fun q => G.2.1.size ≤ q) C.1 C.2.1 hst C.2.2.1 hcls hnames (C.2.2.2.1 _ hk) (C.2.2.2.1 _ hini) (by rw [ho]; exact hsa) hatT ?_ (hZF.2.2.2.1.kept low) (hZF.2.2.2.2.kept low) ⟨by rw [← hR0.2.1, ← hR.2.1]; exact hle, fun q h1 h2 => ?_, hf⟩ hL.2.1 d0 d3 d4 d6 d9 (fun x hx => (htab x hx).elim) hroom.1 (by rw [hS.sum]; omega) hroom.2.2.1 hroom.2.2.2 C.2.2.2.2.1 (fun t hal hz hq => ⟨_, hx (t.heap.size - H.size), ?_⟩) hf hb.1 hb.2
  · intro w hw
    rcases List.mem_cons.mp hw with rfl | hw
    · rfl
    · rcases List.mem_cons.mp hw with rfl | hw
      · rfl
      · exact List.all_eq_true.mp hgood w hw
  · have h3 : q < G.2.1.size := Nat.not_le.mp h2
    rw [hR.2.2.2.1 q h3, hR0.2.2.2.1 q h3]
  · exact (hR.gb hz hq).moved hal
/-- thrown here: E, over this frame -/
def AX (G : GG) (p : Program) (l : Launch) (e : Env) (R : Room) (s : State) (m : MethodId) (args : Array Value) (below : List Frame) (meth : Method) (c : Code) (bc bs : Nat) (Qf : State → Prop) (E : String) (pc : Nat) (env : Nat → Option AV) (st : List AV) (h : AH) : Prop :=
  ∀ (ls : Array Slot) (rs : List Value) (H : Heap) (locs : List Loc) (q : Addr) (ce : Cell), LR c.maxLocals env ls → SR st rs → Rel s G.1 G.2.1 h H → (∀ q ∈ locs, G.2.1.size ≤ q.base) → H[q]? = some ce → ce.vm = .none → s.vm.findClass E = some ce.cls → vx_W p l e R s m args below meth c H locs bc bs Qf (F0 m pc ls rs) q
theorem ax_catch (C : CF G p s m args meth c cc own) {E : String} {hh : List (Nat × Nat × Nat × Nat)} (htab : c.exceptionTable.toList = tableOf hh) (pre : List ExceptionTableEntry) (x : ExceptionTableEntry) (suf : List ExceptionTableEntry) (hsplit : tableOf hh = pre ++ x :: suf)
    (hpass : ∀ z ∈ pre, z.catchType ≠ 0 ∧ ∃ nm : String, Cond.classLink own z.catchType nm ∈ xTb ∧ (E, nm) ∈ xNc) (hx : covers x pc = true) (h0 : x.catchType ≠ 0) (hlink : Cond.classLink own x.catchType E ∈ xTb) (hcast : Cond.castable E E ∈ xEx)
    (kk : ∀ q, AW G p l e R s m args below meth c bc bs Qf x.handlerPc env [vR q] h) : AX G p l e R s m args below meth c bc bs Qf E pc env st h := by
  intro ls rs H locs q ce hL hS hR hf hq hv hcl
  exact vx_catch C.2.2.1 pre x suf (htab.trans hsplit) (fun z hz => by
    obtain ⟨h1, nm, h2, h3⟩ := hpass z hz
    exact Or.inr ⟨h1, nm, C.2.2.2.1 _ h2, C.2.2.2.2.2.2.2.2.2.2.2.1 _ h3⟩) hx h0 (C.2.2.2.1 _ hlink) (va_Nw.use rfl (C.2.2.2.2.2.2.2.2.2.1 _ hcast)) hq hv hcl (kk q ls _ H locs hL (SR.nil.cons rfl) hR hf)
theorem aw_callVX (C : CF G p s m args meth c cc own) {ci idx maxL mc ms b : Nat} {Cn : String} {T : u_T} {N : Nat} {y : MethodName} {bytes : ByteArray} {ret : Option FieldType} {rm : Room} {Q : Option AV → AH → Prop} {X : String → AH → Prop} {as st0 : List AV} (I : CI ci Cn T N)
    (hM : ∀ As : List Value, As.map ab = (vR b :: as).map some → vx_Met l y (.code y bytes maxL ret :: xTb) rm (PcA G As h) (QG G Q) (XG G X) mc ms (frA G))
    (hw : Cond.methodLink own idx y ∈ xTb) (hw2 : Cond.instanceMethod y ∈ xTb) (hw3 : Cond.selects y.cls y y ∈ xTb) (hw4 : Cond.initialized y.cls ∈ xTb) (hw5 : Cond.code y bytes maxL ret ∈ xTb) (hrm : rm.cells = mc ∧ rm.slots = ms)
    (hd : y.cls = Cn ∧ y.cls ≠ "java/lang/invoke/MethodHandle" ∧ y.cls ≠ "java/lang/invoke/VarHandle" ∧ (parseMethodDescriptor y.desc).map (fun d => d.parameters.length) = some as.length) (hR1 : rm.frames + 1 ≤ R.frames ∧ 8 + (maxL + 11) + rm.locals ≤ R.locals) (hR2 : bc + mc ≤ R.cells ∧ bs + ms ≤ R.slots) (hr : (st.map acat).sum ≤ 8)
    (hdg : decode cc pc = .ok (.invokevirtual idx, 3)) (hst : st0 = as.reverse ++ vR b :: st) (hb : (hkd h b).1 = ci + 4)
    (kk : ∀ (v : Option AV) (h' : AH), Q v h' → AW G p l e R s m args below meth c (bc + mc) (bs + ms) Qf (pc + 3) env (v.toList ++ st) h')
    (kx : ∀ (E : String) (h' : AH), X E h' → AX G p l e R s m args below meth c (bc + mc) (bs + ms) Qf E pc env st h') : AW G p l e R s m args below meth c bc bs Qf pc env st0 h := by
  subst hst
  intro ls rs H locs hL hS hR hf
  obtain ⟨Ar, rs1, rfl, hA, hS1⟩ := hS.split
  obtain ⟨rs2, rfl, hS2⟩ := hS1.ref
  obtain ⟨V, ⟨cell, v1, v2, v3, -⟩, -⟩ := (hR.2.2.2.2 b).obj I hb
  have hA' : SR as Ar.reverse := hA.rev
  have hM' := hM (.ref b :: Ar.reverse) (by have := hA'; unfold SR at this; simp [this]; rfl)
  obtain ⟨hd1, hd2, hd3, hd4⟩ := hd
  have hrun := vx_runV (meth := meth) (As := Ar.reverse) (rest := rs2) (C := Cn) (g := F0 m pc ls (Ar ++ .ref b :: rs2)) (cells := bc) (slots := bs) (below := below) (e := e) (locs := locs) ⟨C.1, C.2.1, rfl, C.2.2.1, C.2.2.2.1⟩ hM' ⟨callB_of as.length C.2.2.2.1 (good_cons hw5) rfl hrm.1 hrm.2 (C.2.2.2.1 _ hw4) (C.2.2.2.1 _ hw) ⟨hd2, hd3, hd4⟩ hR1, C.2.2.2.1 _ hw2, by rw [← hd1]; exact C.2.2.2.1 _ hw3⟩ ⟨PcA.blind, ⟨cell, v1, by rw [v3]; rfl, by rw [v2]; exact (C.2.2.2.2.2.1.1 ci _ I.1).2.1⟩, PcA.at C hR⟩ rfl hA'.len hL.2.1 (by simp) (by show 2 * 0 + _ ≤ 8; rw [hS2.sum]; omega) hdg hR2
  intro T hT Xs
  have lo2 : ∀ (L : List Loc), (∀ q ∈ L, frA G q.base) → ∀ q ∈ locs ++ L, G.2.1.size ≤ q.base := fun L hLf q hq => by
    rcases List.mem_append.mp hq with hq | hq
    · exact hf q hq
    · exact hLf q hq
  rcases hrun T hT Xs with ⟨v, st₀, t, T', L, hh0, X', hLf, e1, e2, ⟨r, av, h', hv, hav, hq, hrel⟩, st1⟩ | ⟨q, st₀, t, T', L, E, ce, hh0, X', hLf, e1, e2, ⟨h', hxx, hrel⟩, hce, hcv, hcl, st1⟩
  · cases hv
    have hal : t.vm.Alike s.vm := by rw [← e2]; exact (X'.warmed.alike).symm
    have hrel2 : Rel s G.1 G.2.1 h' T'.heap := by rw [e1]; exact hrel.moved hal
    have hSv : SR (av.toList ++ st) (v.toList ++ rs2) := by
      cases v with
      | none => cases av with
        | none => exact hS2
        | some _ => simp at hav
      | some w => cases av with
        | none => simp at hav
        | some z => exact hS2.cons (by simpa using hav)
    obtain ⟨t2, a1, b1⟩ := kk av h' hq ls _ T'.heap (locs ++ L) hL hSv hrel2 (lo2 L hLf) T' rfl X'
    exact ⟨t2, st1 t2 a1, b1⟩
  · have hal : t.vm.Alike s.vm := by rw [← e2]; exact (X'.warmed.alike).symm
    have hrel2 : Rel s G.1 G.2.1 h' T'.heap := by rw [e1]; exact hrel.moved hal
    obtain ⟨t2, a1, b1⟩ := kx E h' hxx ls rs2 T'.heap (locs ++ L) q ce hL hS2 hrel2 (lo2 L hLf) (by rw [e1]; exact hce) hcv hcl T' rfl X'
    exact ⟨t2, st1.trans a1, b1⟩
theorem good_consW {y : MethodName} {bytes : ByteArray} {maxL : Nat} {ret : Option FieldType} {hh : List (Nat × Nat × Nat × Nat)} (hw : Cond.codeWith y bytes maxL ret hh ∈ xTb) : GoodIn xTb (.codeWith y bytes maxL ret hh :: xTb) := fun w h => by
  rcases List.mem_cons.mp h with rfl | h
  · exact good_all _ hw
  · exact good_all _ h
theorem aw_callSW (C : CF G p s m args meth c cc own) {idx maxL mc ms : Nat} {y : MethodName} {bytes : ByteArray} {ret : Option FieldType} {hh : List (Nat × Nat × Nat × Nat)} {rm : Room} {Q : Option AV → AH → Prop} {as st0 : List AV}
    (hM : ∀ As : List Value, As.map ab = as.map some → Met l y (.codeWith y bytes maxL ret hh :: xTb) rm (PcA G As h) (QG G Q) mc ms (frA G))
    (hw : Cond.methodLink own idx y ∈ xTb) (hw2 : Cond.static y ∈ xTb) (hw4 : Cond.initialized y.cls ∈ xTb) (hw5 : Cond.codeWith y bytes maxL ret hh ∈ xTb) (hrm : rm.cells = mc ∧ rm.slots = ms)
    (hd : y.cls ≠ "java/lang/invoke/MethodHandle" ∧ y.cls ≠ "java/lang/invoke/VarHandle" ∧ (parseMethodDescriptor y.desc).map (fun d => d.parameters.length) = some as.length) (hR1 : rm.frames + 1 ≤ R.frames ∧ 8 + (maxL + 11) + rm.locals ≤ R.locals) (hR2 : bc + mc ≤ R.cells ∧ bs + ms ≤ R.slots) (hr : (st.map acat).sum ≤ 8)
    (hdg : decode cc pc = .ok (.invokestatic idx, 3)) (hst : st0 = as.reverse ++ st)
    (kk : ∀ (v : Option AV) (h' : AH), Q v h' → AW G p l e R s m args below meth c (bc + mc) (bs + ms) Qf (pc + 3) env (v.toList ++ st) h') : AW G p l e R s m args below meth c bc bs Qf pc env st0 h := by
  subst hst
  intro ls rs H locs hL hS hR hf
  obtain ⟨Ar, rs2, rfl, hA, hS2⟩ := hS.split
  have hA' : SR as Ar.reverse := hA.rev
  have hM' := hM Ar.reverse hA'
  have ht := C.2.2.2.1
  refine aw_run (vx_runSW (hh := hh) (As := Ar.reverse) (rest := rs2) ⟨C.1, C.2.1, rfl, C.2.2.1, C.2.2.2.1⟩ hM' ⟨⟨hrm.1, hrm.2, hR1.1, hR1.2, pay_in ht (good_consW hw5), List.mem_cons_self⟩, ht _ hw5, ht _ hw4, ⟨hd.1, hd.2.1⟩, fun sig hs => ?_, ht _ hw, ht _ hw2⟩ ⟨PcA.blind, PcA.at C hR⟩ rfl hA'.len hL.2.1 (by simp) (by show 2 * 0 + _ ≤ 8; rw [hS2.sum]; omega) hdg hR2) hL hS2 hf kk
  have h2 := hd.2.2
  rw [hs] at h2
  exact (Option.some.inj h2).symm
end AWX
end
section
def okA (h : AH) (a c : Nat) : Prop := (hkd h a).1 = c + 4
def okP (h : AH) (a c : Nat) : Prop := (hkd h a).1 = c + 4 ∧ hlo h ≤ a
def okI (h : AH) (a : Nat) (i : Int) : Prop := ∃ n : Nat, hkd h a = (1, n) ∧ 0 ≤ i ∧ i < (n : Int)
def okJ (h : AH) (a : Nat) (i : Int) : Prop := ∃ n : Nat, hkd h a = (2, n) ∧ 0 ≤ i ∧ i < (n : Int)
def okQ (h : AH) (a : Nat) (i : Int) : Prop := ∃ n : Nat, hkd h a = (3, n) ∧ 0 ≤ i ∧ i < (n : Int)
def okW (h : AH) (a : Nat) (i : Int) : Prop := ∃ n : Nat, hkd h a = (1, n) ∧ 0 ≤ i ∧ i < (n : Int) ∧ hlo h ≤ a
def okV (h : AH) (a : Nat) (i : Int) : Prop := ∃ n : Nat, hkd h a = (2, n) ∧ 0 ≤ i ∧ i < (n : Int) ∧ hlo h ≤ a
def okU (h : AH) (a : Nat) (i : Int) : Prop := ∃ n : Nat, hkd h a = (3, n) ∧ 0 ≤ i ∧ i < (n : Int) ∧ hlo h ≤ a
def okC (h : AH) (a : Nat) (sp : Int) (b : Nat) (dp n : Int) : Prop := ∃ na nb : Nat, hkd h a = (1, na) ∧ (hkd h b = (1, nb) ∧ hlo h ≤ b) ∧ 0 ≤ sp ∧ 0 ≤ dp ∧ 0 ≤ n ∧ sp + n ≤ (na : Int) ∧ dp + n ≤ (nb : Int)
theorem jn_out {α : Type} {K : α} {B : α → Prop} (h : jn K B) : ∃ k, k = K ∧ B k := ⟨K, rfl, h⟩
section AWN
variable {G : GG} {p : Program} {l : Launch} {e : Env} {R : Room} {s : State} {m : MethodId} {args : Array Value} {below : List Frame} {meth : Method} {c : Code} {bc bs : Nat} {Qf : State → Prop} {cc : ByteArray} {own : String}
variable {pc : Nat} {env : Nat → Option AV} {st : List AV} {h : AH}
theorem aw_nmI {x : Int} (k : ∀ y : Int, y = x → AW G p l e R s m args below meth c bc bs Qf pc env (vI y :: st) h) : AW G p l e R s m args below meth c bc bs Qf pc env (vI x :: st) h := k x rfl
theorem aw_nmR {x : Nat} (k : ∀ y : Nat, y = x → AW G p l e R s m args below meth c bc bs Qf pc env (vR y :: st) h) : AW G p l e R s m args below meth c bc bs Qf pc env (vR x :: st) h := k x rfl
theorem aw_nmL {x : Int64} (k : ∀ y : Int64, y = x → AW G p l e R s m args below meth c bc bs Qf pc env (vL y :: st) h) : AW G p l e R s m args below meth c bc bs Qf pc env (vL x :: st) h := k x rfl
theorem aw_nmD {x : UInt64} (k : ∀ y : UInt64, y = x → AW G p l e R s m args below meth c bc bs Qf pc env (vD y :: st) h) : AW G p l e R s m args below meth c bc bs Qf pc env (vD x :: st) h := k x rfl
theorem aw_nmH (k : ∀ h' : AH, h' = h → AW G p l e R s m args below meth c bc bs Qf pc env st h') : AW G p l e R s m args below meth c bc bs Qf pc env st h := k h rfl
theorem aw_iincN (C : CF G p s m args meth c cc own) {i : Nat} {n k x : Int} (hdg : decode cc pc = .ok (.iinc i n, 3)) (hk : (Int32.ofInt n).toInt = k) (hl : env i = some (vI x)) (hn : i < c.maxLocals) (hr : inR (x + k)) (kk : ∀ y : Int, y = x + k → AW G p l e R s m args below meth c bc bs Qf (pc + 3) (es env i (vI y)) st h) : AW G p l e R s m args below meth c bc bs Qf pc env st h := aw_iinc C hdg hk hl hn hr (kk _ rfl)
end AWN
def xnms : List String := ["java/lang/RuntimeException", "java/lang/Exception"]
theorem xfits : ∀ n ∈ xnms, Bundle.fit n = true := by decide +kernel
theorem xfit_I : Bundle.fit "java/lang/IndexOutOfBoundsException" = true := by decide +kernel
theorem xat0_I : (vx_atS RX6 73 "java/lang/IndexOutOfBoundsException" xnms).all (fun w => decide (w ∈ lw_tbl)) = true := by decide +kernel
theorem xat_I : ∀ w ∈ vx_atS RX6 73 "java/lang/IndexOutOfBoundsException" xnms, w ∈ lw_tbl := fun w hw => of_decide_eq_true (List.all_eq_true.mp xat0_I w hw)
theorem xgd_I : (vx_atS RX6 73 "java/lang/IndexOutOfBoundsException" xnms).all vx_ot = true := by decide +kernel
theorem xcd_I : (vx_atS RX6 73 "java/lang/IndexOutOfBoundsException" xnms).all (fun w => goodWord w || xCd w) = true := by decide +kernel
theorem xcast_I : Cond.castable "java/lang/IndexOutOfBoundsException" "java/lang/IndexOutOfBoundsException" ∈ xEx := List.mem_filter.mpr ⟨List.mem_append_right _ (List.mem_of_getElem? (i := 549) (by decide +kernel)), rfl⟩
theorem xfit_A : Bundle.fit "java/lang/IllegalArgumentException" = true := by decide +kernel
theorem xat0_A : (vx_atS RX6 84 "java/lang/IllegalArgumentException" xnms).all (fun w => decide (w ∈ lw_tbl)) = true := by decide +kernel
theorem xat_A : ∀ w ∈ vx_atS RX6 84 "java/lang/IllegalArgumentException" xnms, w ∈ lw_tbl := fun w hw => of_decide_eq_true (List.all_eq_true.mp xat0_A w hw)
theorem xgd_A : (vx_atS RX6 84 "java/lang/IllegalArgumentException" xnms).all vx_ot = true := by decide +kernel
theorem xcd_A : (vx_atS RX6 84 "java/lang/IllegalArgumentException" xnms).all (fun w => goodWord w || xCd w) = true := by decide +kernel
theorem xcast_A : Cond.castable "java/lang/IllegalArgumentException" "java/lang/IllegalArgumentException" ∈ xEx := List.mem_filter.mpr ⟨List.mem_append_right _ (List.mem_of_getElem? (i := 624) (by decide +kernel)), rfl⟩
theorem xfit_S : Bundle.fit "java/lang/IllegalStateException" = true := by decide +kernel
theorem xat0_S : (vx_atS RX6 127 "java/lang/IllegalStateException" xnms).all (fun w => decide (w ∈ lw_tbl)) = true := by decide +kernel
theorem xat_S : ∀ w ∈ vx_atS RX6 127 "java/lang/IllegalStateException" xnms, w ∈ lw_tbl := fun w hw => of_decide_eq_true (List.all_eq_true.mp xat0_S w hw)
theorem xgd_S : (vx_atS RX6 127 "java/lang/IllegalStateException" xnms).all vx_ot = true := by decide +kernel
theorem xcd_S : (vx_atS RX6 127 "java/lang/IllegalStateException" xnms).all (fun w => goodWord w || xCd w) = true := by decide +kernel
theorem xcast_S : Cond.castable "java/lang/IllegalStateException" "java/lang/IllegalStateException" ∈ xEx := List.mem_filter.mpr ⟨List.mem_append_right _ (List.mem_of_getElem? (i := 674) (by decide +kernel)), rfl⟩
end
section
theorem tw1 : Cond.initialized "TextMorph" ∈ xTb := tb 1 (by decide +kernel) rfl
theorem tw2 : Cond.initialized "TextMorph$State" ∈ xTb := tb 2 (by decide +kernel) rfl
theorem tw3 : Cond.initialized "TextMorph$Text" ∈ xTb := tb 3 (by decide +kernel) rfl
theorem tw4 : Cond.initialized "java/util/Arrays" ∈ xTb := tb 4 (by decide +kernel) rfl
theorem tw5 : Cond.initialized "java/lang/System" ∈ xTb := tb 5 (by decide +kernel) rfl
theorem tw6 : Cond.initialized "TextMorph$Morph" ∈ xTb := tb 6 (by decide +kernel) rfl
theorem tw7 : Cond.initialized "TextMorph$Pairs" ∈ xTb := tb 7 (by decide +kernel) rfl
theorem tw8 : Cond.initialized "TextMorph$Motion" ∈ xTb := tb 8 (by decide +kernel) rfl
theorem tw9 : Cond.initialized "TextMorph$Buffer" ∈ xTb := tb 9 (by decide +kernel) rfl
theorem tw10 : Cond.initialized "TextMorphModel" ∈ xTb := tb 10 (by decide +kernel) rfl
theorem tw14 : Cond.initialized "java/lang/IndexOutOfBoundsException" ∈ xTb := tb 14 (by decide +kernel) rfl
theorem tw15 : Cond.initialized "java/lang/IllegalArgumentException" ∈ xTb := tb 15 (by decide +kernel) rfl
theorem tw16 : Cond.initialized "java/lang/IllegalStateException" ∈ xTb := tb 16 (by decide +kernel) rfl
theorem tw17 : Cond.initialized "java/lang/Math" ∈ xTb := tb 17 (by decide +kernel) rfl
theorem tw19 : Cond.initialized "java/lang/Double" ∈ xTb := tb 19 (by decide +kernel) rfl
theorem tw25 : Cond.methodLink "TextMorph" (3 : Nat) ({ cls := "java/lang/Object", name := "<init>", desc := "()V" } : MethodName) ∈ xTb := tb 25 (by decide +kernel) rfl
theorem tw26 : Cond.instanceMethod ({ cls := "java/lang/Object", name := "<init>", desc := "()V" } : MethodName) ∈ xTb := tb 26 (by decide +kernel) rfl
theorem tw27 : Cond.code ({ cls := "java/lang/Object", name := "<init>", desc := "()V" } : MethodName) object_method_1_code (1 : Nat) (Option.none : Option FieldType) ∈ xTb := tb 27 (by decide +kernel) rfl
theorem tw28 : Cond.classLink "TextMorph" (9 : Nat) "TextMorph$State" ∈ xTb := tb 28 (by decide +kernel) rfl
theorem tw29 : Cond.instantiable "TextMorph$State" (3 : Nat) ∈ xTb := tb 29 (by decide +kernel) rfl
theorem tw30 : Cond.methodLink "TextMorph" (11 : Nat) ({ cls := "TextMorph$State", name := "<init>", desc := "()V" } : MethodName) ∈ xTb := tb 30 (by decide +kernel) rfl
theorem tw31 : Cond.instanceMethod ({ cls := "TextMorph$State", name := "<init>", desc := "()V" } : MethodName) ∈ xTb := tb 31 (by decide +kernel) rfl
theorem tw32 : Cond.code ({ cls := "TextMorph$State", name := "<init>", desc := "()V" } : MethodName) prog_6_method_1_code (1 : Nat) (Option.none : Option FieldType) ∈ xTb := tb 32 (by decide +kernel) rfl
theorem tw33 : Cond.methodLink "TextMorph$State" (3 : Nat) ({ cls := "java/lang/Object", name := "<init>", desc := "()V" } : MethodName) ∈ xTb := tb 33 (by decide +kernel) rfl
theorem tw34 : Cond.classLink "TextMorph$State" (15 : Nat) "TextMorph$Text" ∈ xTb := tb 34 (by decide +kernel) rfl
theorem tw35 : Cond.instantiable "TextMorph$Text" (3 : Nat) ∈ xTb := tb 35 (by decide +kernel) rfl
theorem tw36 : Cond.methodLink "TextMorph$State" (17 : Nat) ({ cls := "TextMorph$Text", name := "<init>", desc := "()V" } : MethodName) ∈ xTb := tb 36 (by decide +kernel) rfl
theorem tw37 : Cond.instanceMethod ({ cls := "TextMorph$Text", name := "<init>", desc := "()V" } : MethodName) ∈ xTb := tb 37 (by decide +kernel) rfl
theorem tw38 : Cond.code ({ cls := "TextMorph$Text", name := "<init>", desc := "()V" } : MethodName) prog_7_method_1_code (1 : Nat) (Option.none : Option FieldType) ∈ xTb := tb 38 (by decide +kernel) rfl
theorem tw39 : Cond.methodLink "TextMorph$Text" (3 : Nat) ({ cls := "java/lang/Object", name := "<init>", desc := "()V" } : MethodName) ∈ xTb := tb 39 (by decide +kernel) rfl
theorem tw40 : Cond.methodLink "TextMorph$Text" (22 : Nat) ({ cls := "java/util/Arrays", name := "fill", desc := "([II)V" } : MethodName) ∈ xTb := tb 40 (by decide +kernel) rfl
theorem tw41 : Cond.static ({ cls := "java/util/Arrays", name := "fill", desc := "([II)V" } : MethodName) ∈ xTb := tb 41 (by decide +kernel) rfl
theorem tw42 : Cond.code ({ cls := "java/util/Arrays", name := "fill", desc := "([II)V" } : MethodName) prog_21_method_103_code (4 : Nat) (Option.none : Option FieldType) ∈ xTb := tb 42 (by decide +kernel) rfl
theorem tw43 : Cond.fieldLink "TextMorph$Text" (9 : Nat) "TextMorph$Text" "codes" "[I" ∈ xTb := tb 43 (by decide +kernel) rfl
theorem tw44 : Cond.fieldLink "TextMorph" (120 : Nat) "TextMorph$Text" "codes" "[I" ∈ xTb := tb 44 (by decide +kernel) rfl
theorem tw45 : Cond.fieldLink "TextMorph$Text" (15 : Nat) "TextMorph$Text" "cells" "[I" ∈ xTb := tb 45 (by decide +kernel) rfl
theorem tw46 : Cond.fieldLink "TextMorph$Motion" (90 : Nat) "TextMorph$Text" "cells" "[I" ∈ xTb := tb 46 (by decide +kernel) rfl
theorem tw47 : Cond.fieldLink "TextMorph$Morph" (177 : Nat) "TextMorph$Text" "cells" "[I" ∈ xTb := tb 47 (by decide +kernel) rfl
theorem tw48 : Cond.fieldLink "TextMorph$Text" (18 : Nat) "TextMorph$Text" "letters" "I" ∈ xTb := tb 48 (by decide +kernel) rfl
theorem tw49 : Cond.fieldLink "TextMorph" (57 : Nat) "TextMorph$Text" "letters" "I" ∈ xTb := tb 49 (by decide +kernel) rfl
theorem tw50 : Cond.fieldLink "TextMorph$Morph" (69 : Nat) "TextMorph$Text" "letters" "I" ∈ xTb := tb 50 (by decide +kernel) rfl
theorem tw51 : Cond.fieldLink "TextMorph$Pairs" (73 : Nat) "TextMorph$Text" "letters" "I" ∈ xTb := tb 51 (by decide +kernel) rfl
theorem tw52 : Cond.fieldLink "TextMorph$Motion" (85 : Nat) "TextMorph$Text" "letters" "I" ∈ xTb := tb 52 (by decide +kernel) rfl
theorem tw60 : Cond.arrayClass FieldType.int ∈ xTb := tb 60 (by decide +kernel) rfl
theorem tw63 : Cond.methodLink "TextMorph$State" (28 : Nat) ({ cls := "java/lang/System", name := "arraycopy", desc := "(Ljava/lang/Object;ILjava/lang/Object;II)V" } : MethodName) ∈ xTb := tb 63 (by decide +kernel) rfl
theorem tw64 : Cond.static ({ cls := "java/lang/System", name := "arraycopy", desc := "(Ljava/lang/Object;ILjava/lang/Object;II)V" } : MethodName) ∈ xTb := tb 64 (by decide +kernel) rfl
theorem tw65 : Cond.native ({ cls := "java/lang/System", name := "arraycopy", desc := "(Ljava/lang/Object;ILjava/lang/Object;II)V" } : MethodName) ∈ xTb := tb 65 (by decide +kernel) rfl
theorem tw66 : Cond.fieldLink "TextMorph$State" (9 : Nat) "TextMorph$State" "settings" "[I" ∈ xTb := tb 66 (by decide +kernel) rfl
theorem tw67 : Cond.fieldLink "TextMorph$Morph" (57 : Nat) "TextMorph$State" "settings" "[I" ∈ xTb := tb 67 (by decide +kernel) rfl
theorem tw68 : Cond.fieldLink "TextMorph$Pairs" (40 : Nat) "TextMorph$State" "settings" "[I" ∈ xTb := tb 68 (by decide +kernel) rfl
theorem tw69 : Cond.fieldLink "TextMorph" (85 : Nat) "TextMorph$State" "settings" "[I" ∈ xTb := tb 69 (by decide +kernel) rfl
theorem tw70 : Cond.fieldLink "TextMorph$Motion" (107 : Nat) "TextMorph$State" "settings" "[I" ∈ xTb := tb 70 (by decide +kernel) rfl
theorem tw71 : Cond.fieldLink "TextMorph$State" (18 : Nat) "TextMorph$State" "first" "LTextMorph$Text;" ∈ xTb := tb 71 (by decide +kernel) rfl
theorem tw72 : Cond.fieldLink "TextMorph$State" (22 : Nat) "TextMorph$State" "second" "LTextMorph$Text;" ∈ xTb := tb 72 (by decide +kernel) rfl
theorem tw80 : Cond.classLink "TextMorph" (16 : Nat) "TextMorph$Morph" ∈ xTb := tb 80 (by decide +kernel) rfl
theorem tw81 : Cond.instantiable "TextMorph$Morph" (9 : Nat) ∈ xTb := tb 81 (by decide +kernel) rfl
theorem tw82 : Cond.methodLink "TextMorph" (18 : Nat) ({ cls := "TextMorph$Morph", name := "<init>", desc := "(LTextMorph$State;)V" } : MethodName) ∈ xTb := tb 82 (by decide +kernel) rfl
theorem tw83 : Cond.instanceMethod ({ cls := "TextMorph$Morph", name := "<init>", desc := "(LTextMorph$State;)V" } : MethodName) ∈ xTb := tb 83 (by decide +kernel) rfl
theorem tw84 : Cond.code ({ cls := "TextMorph$Morph", name := "<init>", desc := "(LTextMorph$State;)V" } : MethodName) prog_3_method_1_code (2 : Nat) (Option.none : Option FieldType) ∈ xTb := tb 84 (by decide +kernel) rfl
theorem tw85 : Cond.methodLink "TextMorph$Morph" (3 : Nat) ({ cls := "java/lang/Object", name := "<init>", desc := "()V" } : MethodName) ∈ xTb := tb 85 (by decide +kernel) rfl
theorem tw86 : Cond.classLink "TextMorph$Morph" (35 : Nat) "TextMorph$Pairs" ∈ xTb := tb 86 (by decide +kernel) rfl
theorem tw87 : Cond.instantiable "TextMorph$Pairs" (7 : Nat) ∈ xTb := tb 87 (by decide +kernel) rfl
theorem tw88 : Cond.methodLink "TextMorph$Morph" (37 : Nat) ({ cls := "TextMorph$Pairs", name := "<init>", desc := "(LTextMorph$State;)V" } : MethodName) ∈ xTb := tb 88 (by decide +kernel) rfl
theorem tw89 : Cond.instanceMethod ({ cls := "TextMorph$Pairs", name := "<init>", desc := "(LTextMorph$State;)V" } : MethodName) ∈ xTb := tb 89 (by decide +kernel) rfl
theorem tw90 : Cond.code ({ cls := "TextMorph$Pairs", name := "<init>", desc := "(LTextMorph$State;)V" } : MethodName) prog_5_method_1_code (2 : Nat) (Option.none : Option FieldType) ∈ xTb := tb 90 (by decide +kernel) rfl
theorem tw91 : Cond.methodLink "TextMorph$Pairs" (3 : Nat) ({ cls := "java/lang/Object", name := "<init>", desc := "()V" } : MethodName) ∈ xTb := tb 91 (by decide +kernel) rfl
theorem tw92 : Cond.fieldLink "TextMorph$Pairs" (9 : Nat) "TextMorph$Pairs" "partnerOfFirst" "[I" ∈ xTb := tb 92 (by decide +kernel) rfl
theorem tw93 : Cond.fieldLink "TextMorph$Morph" (95 : Nat) "TextMorph$Pairs" "partnerOfFirst" "[I" ∈ xTb := tb 93 (by decide +kernel) rfl
theorem tw94 : Cond.fieldLink "TextMorph$Motion" (91 : Nat) "TextMorph$Pairs" "partnerOfFirst" "[I" ∈ xTb := tb 94 (by decide +kernel) rfl
theorem tw95 : Cond.fieldLink "TextMorph$Pairs" (15 : Nat) "TextMorph$Pairs" "partnerOfSecond" "[I" ∈ xTb := tb 95 (by decide +kernel) rfl
theorem tw96 : Cond.fieldLink "TextMorph$Morph" (98 : Nat) "TextMorph$Pairs" "partnerOfSecond" "[I" ∈ xTb := tb 96 (by decide +kernel) rfl
theorem tw97 : Cond.fieldLink "TextMorph$Pairs" (18 : Nat) "TextMorph$Pairs" "kindOfFirst" "[I" ∈ xTb := tb 97 (by decide +kernel) rfl
theorem tw98 : Cond.fieldLink "TextMorph$Morph" (74 : Nat) "TextMorph$Pairs" "kindOfFirst" "[I" ∈ xTb := tb 98 (by decide +kernel) rfl
theorem tw99 : Cond.fieldLink "TextMorph$Pairs" (21 : Nat) "TextMorph$Pairs" "kindOfSecond" "[I" ∈ xTb := tb 99 (by decide +kernel) rfl
theorem tw100 : Cond.fieldLink "TextMorph$Morph" (80 : Nat) "TextMorph$Pairs" "kindOfSecond" "[I" ∈ xTb := tb 100 (by decide +kernel) rfl
theorem tw101 : Cond.fieldLink "TextMorph$Pairs" (24 : Nat) "TextMorph$Pairs" "ofKind" "[I" ∈ xTb := tb 101 (by decide +kernel) rfl
theorem tw102 : Cond.fieldLink "TextMorph$Motion" (61 : Nat) "TextMorph$Pairs" "ofKind" "[I" ∈ xTb := tb 102 (by decide +kernel) rfl
theorem tw103 : Cond.fieldLink "TextMorph$Morph" (62 : Nat) "TextMorph$Pairs" "ofKind" "[I" ∈ xTb := tb 103 (by decide +kernel) rfl
theorem tw104 : Cond.fieldLink "TextMorph" (212 : Nat) "TextMorph$Pairs" "ofKind" "[I" ∈ xTb := tb 104 (by decide +kernel) rfl
theorem tw105 : Cond.fieldLink "TextMorph$Pairs" (30 : Nat) "TextMorph$Pairs" "state" "LTextMorph$State;" ∈ xTb := tb 105 (by decide +kernel) rfl
theorem tw106 : Cond.fieldLink "TextMorph$Pairs" (27 : Nat) "TextMorph$Pairs" "longest" "[I" ∈ xTb := tb 106 (by decide +kernel) rfl
theorem tw122 : Cond.classLink "TextMorph$Morph" (44 : Nat) "TextMorph$Motion" ∈ xTb := tb 122 (by decide +kernel) rfl
theorem tw123 : Cond.instantiable "TextMorph$Motion" (13 : Nat) ∈ xTb := tb 123 (by decide +kernel) rfl
theorem tw124 : Cond.methodLink "TextMorph$Morph" (46 : Nat) ({ cls := "TextMorph$Motion", name := "<init>", desc := "(LTextMorph$State;LTextMorph$Pairs;)V" } : MethodName) ∈ xTb := tb 124 (by decide +kernel) rfl
theorem tw125 : Cond.instanceMethod ({ cls := "TextMorph$Motion", name := "<init>", desc := "(LTextMorph$State;LTextMorph$Pairs;)V" } : MethodName) ∈ xTb := tb 125 (by decide +kernel) rfl
theorem tw126 : Cond.code ({ cls := "TextMorph$Motion", name := "<init>", desc := "(LTextMorph$State;LTextMorph$Pairs;)V" } : MethodName) prog_4_method_1_code (3 : Nat) (Option.none : Option FieldType) ∈ xTb := tb 126 (by decide +kernel) rfl
theorem tw127 : Cond.methodLink "TextMorph$Motion" (3 : Nat) ({ cls := "java/lang/Object", name := "<init>", desc := "()V" } : MethodName) ∈ xTb := tb 127 (by decide +kernel) rfl
theorem tw128 : Cond.fieldLink "TextMorph$Motion" (9 : Nat) "TextMorph$Motion" "goals" "[I" ∈ xTb := tb 128 (by decide +kernel) rfl
theorem tw129 : Cond.fieldLink "TextMorph$Motion" (15 : Nat) "TextMorph$Motion" "heldFrames" "[I" ∈ xTb := tb 129 (by decide +kernel) rfl
theorem tw130 : Cond.fieldLink "TextMorph$Morph" (118 : Nat) "TextMorph$Motion" "heldFrames" "[I" ∈ xTb := tb 130 (by decide +kernel) rfl
theorem tw131 : Cond.fieldLink "TextMorph$Motion" (18 : Nat) "TextMorph$Motion" "arrivals" "[I" ∈ xTb := tb 131 (by decide +kernel) rfl
theorem tw132 : Cond.fieldLink "TextMorph$Morph" (125 : Nat) "TextMorph$Motion" "arrivals" "[I" ∈ xTb := tb 132 (by decide +kernel) rfl
theorem tw133 : Cond.fieldLink "TextMorph$Motion" (21 : Nat) "TextMorph$Motion" "frames" "I" ∈ xTb := tb 133 (by decide +kernel) rfl
theorem tw134 : Cond.fieldLink "TextMorph$Morph" (77 : Nat) "TextMorph$Motion" "frames" "I" ∈ xTb := tb 134 (by decide +kernel) rfl
theorem tw135 : Cond.fieldLink "TextMorph$Motion" (25 : Nat) "TextMorph$Motion" "heldInAll" "I" ∈ xTb := tb 135 (by decide +kernel) rfl
theorem tw136 : Cond.fieldLink "TextMorph$Morph" (92 : Nat) "TextMorph$Motion" "heldInAll" "I" ∈ xTb := tb 136 (by decide +kernel) rfl
theorem tw137 : Cond.fieldLink "TextMorph" (203 : Nat) "TextMorph$Motion" "heldInAll" "I" ∈ xTb := tb 137 (by decide +kernel) rfl
theorem tw138 : Cond.fieldLink "TextMorph$Motion" (46 : Nat) "TextMorph$Motion" "state" "LTextMorph$State;" ∈ xTb := tb 138 (by decide +kernel) rfl
theorem tw139 : Cond.fieldLink "TextMorph$Motion" (50 : Nat) "TextMorph$Motion" "pairs" "LTextMorph$Pairs;" ∈ xTb := tb 139 (by decide +kernel) rfl
theorem tw140 : Cond.fieldLink "TextMorph$Motion" (28 : Nat) "TextMorph$Motion" "cells" "[I" ∈ xTb := tb 140 (by decide +kernel) rfl
theorem tw141 : Cond.fieldLink "TextMorph$Motion" (31 : Nat) "TextMorph$Motion" "heldLately" "[I" ∈ xTb := tb 141 (by decide +kernel) rfl
theorem tw142 : Cond.fieldLink "TextMorph$Motion" (34 : Nat) "TextMorph$Motion" "piecesIn" "[I" ∈ xTb := tb 142 (by decide +kernel) rfl
theorem tw143 : Cond.fieldLink "TextMorph$Motion" (37 : Nat) "TextMorph$Motion" "heldPieces" "[I" ∈ xTb := tb 143 (by decide +kernel) rfl
theorem tw144 : Cond.fieldLink "TextMorph$Motion" (40 : Nat) "TextMorph$Motion" "track" "[I" ∈ xTb := tb 144 (by decide +kernel) rfl
theorem tw145 : Cond.fieldLink "TextMorph$Motion" (43 : Nat) "TextMorph$Motion" "away" "I" ∈ xTb := tb 145 (by decide +kernel) rfl
theorem tw173 : Cond.fieldLink "TextMorph$Morph" (40 : Nat) "TextMorph$Morph" "pairs" "LTextMorph$Pairs;" ∈ xTb := tb 173 (by decide +kernel) rfl
theorem tw174 : Cond.fieldLink "TextMorph" (208 : Nat) "TextMorph$Morph" "pairs" "LTextMorph$Pairs;" ∈ xTb := tb 174 (by decide +kernel) rfl
theorem tw175 : Cond.fieldLink "TextMorph$Morph" (49 : Nat) "TextMorph$Morph" "motion" "LTextMorph$Motion;" ∈ xTb := tb 175 (by decide +kernel) rfl
theorem tw176 : Cond.fieldLink "TextMorph" (199 : Nat) "TextMorph$Morph" "motion" "LTextMorph$Motion;" ∈ xTb := tb 176 (by decide +kernel) rfl
theorem tw177 : Cond.fieldLink "TextMorph$Morph" (31 : Nat) "TextMorph$Morph" "state" "LTextMorph$State;" ∈ xTb := tb 177 (by decide +kernel) rfl
theorem tw178 : Cond.fieldLink "TextMorph$Morph" (9 : Nat) "TextMorph$Morph" "goneFrom" "[I" ∈ xTb := tb 178 (by decide +kernel) rfl
theorem tw179 : Cond.fieldLink "TextMorph$Morph" (15 : Nat) "TextMorph$Morph" "thereFrom" "[I" ∈ xTb := tb 179 (by decide +kernel) rfl
theorem tw180 : Cond.fieldLink "TextMorph$Morph" (18 : Nat) "TextMorph$Morph" "shown" "[I" ∈ xTb := tb 180 (by decide +kernel) rfl
theorem tw181 : Cond.fieldLink "TextMorph$Morph" (21 : Nat) "TextMorph$Morph" "shownBefore" "[I" ∈ xTb := tb 181 (by decide +kernel) rfl
theorem tw182 : Cond.fieldLink "TextMorph$Morph" (24 : Nat) "TextMorph$Morph" "piecesIn" "[I" ∈ xTb := tb 182 (by decide +kernel) rfl
theorem tw183 : Cond.fieldLink "TextMorph$Morph" (27 : Nat) "TextMorph$Morph" "stillFrames" "I" ∈ xTb := tb 183 (by decide +kernel) rfl
theorem tw204 : Cond.classLink "TextMorph" (35 : Nat) "TextMorph$Buffer" ∈ xTb := tb 204 (by decide +kernel) rfl
theorem tw205 : Cond.instantiable "TextMorph$Buffer" (3 : Nat) ∈ xTb := tb 205 (by decide +kernel) rfl
theorem tw206 : Cond.methodLink "TextMorph" (37 : Nat) ({ cls := "TextMorph$Buffer", name := "<init>", desc := "()V" } : MethodName) ∈ xTb := tb 206 (by decide +kernel) rfl
theorem tw207 : Cond.instanceMethod ({ cls := "TextMorph$Buffer", name := "<init>", desc := "()V" } : MethodName) ∈ xTb := tb 207 (by decide +kernel) rfl
theorem tw208 : Cond.code ({ cls := "TextMorph$Buffer", name := "<init>", desc := "()V" } : MethodName) prog_2_method_1_code (1 : Nat) (Option.none : Option FieldType) ∈ xTb := tb 208 (by decide +kernel) rfl
theorem tw209 : Cond.methodLink "TextMorph$Buffer" (3 : Nat) ({ cls := "java/lang/Object", name := "<init>", desc := "()V" } : MethodName) ∈ xTb := tb 209 (by decide +kernel) rfl
theorem tw210 : Cond.fieldLink "TextMorph$Buffer" (9 : Nat) "TextMorph$Buffer" "signs" "[I" ∈ xTb := tb 210 (by decide +kernel) rfl
theorem tw211 : Cond.fieldLink "TextMorph" (150 : Nat) "TextMorph$Buffer" "signs" "[I" ∈ xTb := tb 211 (by decide +kernel) rfl
theorem tw212 : Cond.fieldLink "TextMorph$Buffer" (15 : Nat) "TextMorph$Buffer" "cells" "[I" ∈ xTb := tb 212 (by decide +kernel) rfl
theorem tw213 : Cond.fieldLink "TextMorph" (103 : Nat) "TextMorph$Buffer" "cells" "[I" ∈ xTb := tb 213 (by decide +kernel) rfl
theorem tw214 : Cond.fieldLink "TextMorph$Buffer" (18 : Nat) "TextMorph$Buffer" "length" "I" ∈ xTb := tb 214 (by decide +kernel) rfl
theorem tw215 : Cond.fieldLink "TextMorph" (98 : Nat) "TextMorph$Buffer" "length" "I" ∈ xTb := tb 215 (by decide +kernel) rfl
theorem tw223 : Cond.fieldLink "TextMorph" (12 : Nat) "TextMorph" "state" "LTextMorph$State;" ∈ xTb := tb 223 (by decide +kernel) rfl
theorem tw224 : Cond.fieldLink "TextMorph" (21 : Nat) "TextMorph" "morph" "LTextMorph$Morph;" ∈ xTb := tb 224 (by decide +kernel) rfl
theorem tw225 : Cond.fieldLink "TextMorph" (25 : Nat) "TextMorph" "tried" "LTextMorph$State;" ∈ xTb := tb 225 (by decide +kernel) rfl
theorem tw226 : Cond.fieldLink "TextMorph" (28 : Nat) "TextMorph" "trial" "LTextMorph$Morph;" ∈ xTb := tb 226 (by decide +kernel) rfl
theorem tw227 : Cond.fieldLink "TextMorph" (31 : Nat) "TextMorph" "saved" "[LTextMorph$State;" ∈ xTb := tb 227 (by decide +kernel) rfl
theorem tw228 : Cond.fieldLink "TextMorph" (38 : Nat) "TextMorph" "buffer" "LTextMorph$Buffer;" ∈ xTb := tb 228 (by decide +kernel) rfl
theorem tw229 : Cond.fieldLink "TextMorph" (42 : Nat) "TextMorph" "savedStates" "I" ∈ xTb := tb 229 (by decide +kernel) rfl
theorem tw230 : Cond.fieldLink "TextMorph" (46 : Nat) "TextMorph" "stale" "Z" ∈ xTb := tb 230 (by decide +kernel) rfl
theorem tw252 : Cond.methodLink "TextMorph" (50 : Nat) ({ cls := "TextMorph", name := "save", desc := "()V" } : MethodName) ∈ xTb := tb 252 (by decide +kernel) rfl
theorem tw254 : Cond.instanceMethod ({ cls := "TextMorph", name := "save", desc := "()V" } : MethodName) ∈ xTb := tb 254 (by decide +kernel) rfl
theorem tw255 : Cond.code ({ cls := "TextMorph", name := "save", desc := "()V" } : MethodName) prog_1_method_27_code (3 : Nat) (Option.none : Option FieldType) ∈ xTb := tb 255 (by decide +kernel) rfl
theorem tw256 : Cond.methodLink "TextMorph" (143 : Nat) ({ cls := "TextMorph$State", name := "copyFrom", desc := "(LTextMorph$State;)V" } : MethodName) ∈ xTb := tb 256 (by decide +kernel) rfl
theorem tw257 : Cond.instanceMethod ({ cls := "TextMorph$State", name := "copyFrom", desc := "(LTextMorph$State;)V" } : MethodName) ∈ xTb := tb 257 (by decide +kernel) rfl
theorem tw258 : Cond.selects "TextMorph$State" ({ cls := "TextMorph$State", name := "copyFrom", desc := "(LTextMorph$State;)V" } : MethodName) ({ cls := "TextMorph$State", name := "copyFrom", desc := "(LTextMorph$State;)V" } : MethodName) ∈ xTb := tb 258 (by decide +kernel) rfl
theorem tw259 : Cond.code ({ cls := "TextMorph$State", name := "copyFrom", desc := "(LTextMorph$State;)V" } : MethodName) prog_6_method_4_code (2 : Nat) (Option.none : Option FieldType) ∈ xTb := tb 259 (by decide +kernel) rfl
theorem tw260 : Cond.methodLink "TextMorph$State" (37 : Nat) ({ cls := "TextMorph$Text", name := "copyFrom", desc := "(LTextMorph$Text;)V" } : MethodName) ∈ xTb := tb 260 (by decide +kernel) rfl
theorem tw261 : Cond.instanceMethod ({ cls := "TextMorph$Text", name := "copyFrom", desc := "(LTextMorph$Text;)V" } : MethodName) ∈ xTb := tb 261 (by decide +kernel) rfl
theorem tw262 : Cond.selects "TextMorph$Text" ({ cls := "TextMorph$Text", name := "copyFrom", desc := "(LTextMorph$Text;)V" } : MethodName) ({ cls := "TextMorph$Text", name := "copyFrom", desc := "(LTextMorph$Text;)V" } : MethodName) ∈ xTb := tb 262 (by decide +kernel) rfl
theorem tw263 : Cond.code ({ cls := "TextMorph$Text", name := "copyFrom", desc := "(LTextMorph$Text;)V" } : MethodName) prog_7_method_4_code (2 : Nat) (Option.none : Option FieldType) ∈ xTb := tb 263 (by decide +kernel) rfl
theorem tw264 : Cond.methodLink "TextMorph$Text" (28 : Nat) ({ cls := "java/lang/System", name := "arraycopy", desc := "(Ljava/lang/Object;ILjava/lang/Object;II)V" } : MethodName) ∈ xTb := tb 264 (by decide +kernel) rfl
theorem tw265 : Cond.methodLink "TextMorph" (53 : Nat) ({ cls := "TextMorph$State", name := "text", desc := "(I)LTextMorph$Text;" } : MethodName) ∈ xTb := tb 265 (by decide +kernel) rfl
theorem tw266 : Cond.instanceMethod ({ cls := "TextMorph$State", name := "text", desc := "(I)LTextMorph$Text;" } : MethodName) ∈ xTb := tb 266 (by decide +kernel) rfl
theorem tw267 : Cond.selects "TextMorph$State" ({ cls := "TextMorph$State", name := "text", desc := "(I)LTextMorph$Text;" } : MethodName) ({ cls := "TextMorph$State", name := "text", desc := "(I)LTextMorph$Text;" } : MethodName) ∈ xTb := tb 267 (by decide +kernel) rfl
theorem tw268 : Cond.code ({ cls := "TextMorph$State", name := "text", desc := "(I)LTextMorph$Text;" } : MethodName) prog_6_method_2_code (2 : Nat) (Option.some (FieldType.object "TextMorph$Text")) ∈ xTb := tb 268 (by decide +kernel) rfl
theorem tw269 : Cond.methodLink "TextMorph" (62 : Nat) ({ cls := "TextMorph$State", name := "clear", desc := "()V" } : MethodName) ∈ xTb := tb 269 (by decide +kernel) rfl
theorem tw270 : Cond.instanceMethod ({ cls := "TextMorph$State", name := "clear", desc := "()V" } : MethodName) ∈ xTb := tb 270 (by decide +kernel) rfl
theorem tw271 : Cond.selects "TextMorph$State" ({ cls := "TextMorph$State", name := "clear", desc := "()V" } : MethodName) ({ cls := "TextMorph$State", name := "clear", desc := "()V" } : MethodName) ∈ xTb := tb 271 (by decide +kernel) rfl
theorem tw272 : Cond.code ({ cls := "TextMorph$State", name := "clear", desc := "()V" } : MethodName) prog_6_method_3_code (1 : Nat) (Option.none : Option FieldType) ∈ xTb := tb 272 (by decide +kernel) rfl
theorem tw273 : Cond.methodLink "TextMorph$State" (34 : Nat) ({ cls := "TextMorph$Text", name := "clear", desc := "()V" } : MethodName) ∈ xTb := tb 273 (by decide +kernel) rfl
theorem tw274 : Cond.instanceMethod ({ cls := "TextMorph$Text", name := "clear", desc := "()V" } : MethodName) ∈ xTb := tb 274 (by decide +kernel) rfl
theorem tw275 : Cond.selects "TextMorph$Text" ({ cls := "TextMorph$Text", name := "clear", desc := "()V" } : MethodName) ({ cls := "TextMorph$Text", name := "clear", desc := "()V" } : MethodName) ∈ xTb := tb 275 (by decide +kernel) rfl
theorem tw276 : Cond.code ({ cls := "TextMorph$Text", name := "clear", desc := "()V" } : MethodName) prog_7_method_2_code (1 : Nat) (Option.none : Option FieldType) ∈ xTb := tb 276 (by decide +kernel) rfl
theorem tw281 : Cond.methodLink "TextMorph" (132 : Nat) ({ cls := "TextMorph$State", name := "exchangeTexts", desc := "()V" } : MethodName) ∈ xTb := tb 281 (by decide +kernel) rfl
theorem tw282 : Cond.instanceMethod ({ cls := "TextMorph$State", name := "exchangeTexts", desc := "()V" } : MethodName) ∈ xTb := tb 282 (by decide +kernel) rfl
theorem tw283 : Cond.selects "TextMorph$State" ({ cls := "TextMorph$State", name := "exchangeTexts", desc := "()V" } : MethodName) ({ cls := "TextMorph$State", name := "exchangeTexts", desc := "()V" } : MethodName) ∈ xTb := tb 283 (by decide +kernel) rfl
theorem tw284 : Cond.code ({ cls := "TextMorph$State", name := "exchangeTexts", desc := "()V" } : MethodName) prog_6_method_5_code (2 : Nat) (Option.none : Option FieldType) ∈ xTb := tb 284 (by decide +kernel) rfl
theorem tw285 : Cond.methodLink "TextMorph" (135 : Nat) ({ cls := "TextMorph", name := "refresh", desc := "()V" } : MethodName) ∈ xTb := tb 285 (by decide +kernel) rfl
theorem tw287 : Cond.instanceMethod ({ cls := "TextMorph", name := "refresh", desc := "()V" } : MethodName) ∈ xTb := tb 287 (by decide +kernel) rfl
theorem tw288 : Cond.code ({ cls := "TextMorph", name := "refresh", desc := "()V" } : MethodName) prog_1_method_28_code (1 : Nat) (Option.none : Option FieldType) ∈ xTb := tb 288 (by decide +kernel) rfl
theorem tw289 : Cond.methodLink "TextMorph" (196 : Nat) ({ cls := "TextMorph$Morph", name := "work", desc := "()V" } : MethodName) ∈ xTb := tb 289 (by decide +kernel) rfl
theorem tw290 : Cond.instanceMethod ({ cls := "TextMorph$Morph", name := "work", desc := "()V" } : MethodName) ∈ xTb := tb 290 (by decide +kernel) rfl
theorem tw291 : Cond.selects "TextMorph$Morph" ({ cls := "TextMorph$Morph", name := "work", desc := "()V" } : MethodName) ({ cls := "TextMorph$Morph", name := "work", desc := "()V" } : MethodName) ∈ xTb := tb 291 (by decide +kernel) rfl
theorem tw292 : Cond.code ({ cls := "TextMorph$Morph", name := "work", desc := "()V" } : MethodName) prog_3_method_2_code (3 : Nat) (Option.none : Option FieldType) ∈ xTb := tb 292 (by decide +kernel) rfl
theorem tw293 : Cond.methodLink "TextMorph$Morph" (53 : Nat) ({ cls := "TextMorph$Pairs", name := "work", desc := "()V" } : MethodName) ∈ xTb := tb 293 (by decide +kernel) rfl
theorem tw294 : Cond.instanceMethod ({ cls := "TextMorph$Pairs", name := "work", desc := "()V" } : MethodName) ∈ xTb := tb 294 (by decide +kernel) rfl
theorem tw295 : Cond.selects "TextMorph$Pairs" ({ cls := "TextMorph$Pairs", name := "work", desc := "()V" } : MethodName) ({ cls := "TextMorph$Pairs", name := "work", desc := "()V" } : MethodName) ∈ xTb := tb 295 (by decide +kernel) rfl
theorem tw296 : Cond.code ({ cls := "TextMorph$Pairs", name := "work", desc := "()V" } : MethodName) prog_5_method_2_code (3 : Nat) (Option.none : Option FieldType) ∈ xTb := tb 296 (by decide +kernel) rfl
theorem tw297 : Cond.methodLink "TextMorph$Pairs" (34 : Nat) ({ cls := "TextMorph$Pairs", name := "unpairAll", desc := "()V" } : MethodName) ∈ xTb := tb 297 (by decide +kernel) rfl
theorem tw299 : Cond.instanceMethod ({ cls := "TextMorph$Pairs", name := "unpairAll", desc := "()V" } : MethodName) ∈ xTb := tb 299 (by decide +kernel) rfl
theorem tw300 : Cond.code ({ cls := "TextMorph$Pairs", name := "unpairAll", desc := "()V" } : MethodName) prog_5_method_4_code (1 : Nat) (Option.none : Option FieldType) ∈ xTb := tb 300 (by decide +kernel) rfl
theorem tw301 : Cond.methodLink "TextMorph$Pairs" (67 : Nat) ({ cls := "java/util/Arrays", name := "fill", desc := "([II)V" } : MethodName) ∈ xTb := tb 301 (by decide +kernel) rfl
theorem tw302 : Cond.methodLink "TextMorph$Pairs" (49 : Nat) ({ cls := "TextMorph$State", name := "text", desc := "(I)LTextMorph$Text;" } : MethodName) ∈ xTb := tb 302 (by decide +kernel) rfl
theorem tw303 : Cond.methodLink "TextMorph$Pairs" (37 : Nat) ({ cls := "TextMorph$Pairs", name := "pairCommon", desc := "()V" } : MethodName) ∈ xTb := tb 303 (by decide +kernel) rfl
theorem tw305 : Cond.instanceMethod ({ cls := "TextMorph$Pairs", name := "pairCommon", desc := "()V" } : MethodName) ∈ xTb := tb 305 (by decide +kernel) rfl
theorem tw306 : Cond.code ({ cls := "TextMorph$Pairs", name := "pairCommon", desc := "()V" } : MethodName) prog_5_method_6_code (5 : Nat) (Option.none : Option FieldType) ∈ xTb := tb 306 (by decide +kernel) rfl
theorem tw307 : Cond.methodLink "TextMorph$Pairs" (77 : Nat) ({ cls := "TextMorph$Pairs", name := "measureLongest", desc := "()V" } : MethodName) ∈ xTb := tb 307 (by decide +kernel) rfl
theorem tw309 : Cond.instanceMethod ({ cls := "TextMorph$Pairs", name := "measureLongest", desc := "()V" } : MethodName) ∈ xTb := tb 309 (by decide +kernel) rfl
theorem tw310 : Cond.code ({ cls := "TextMorph$Pairs", name := "measureLongest", desc := "()V" } : MethodName) prog_5_method_7_code (6 : Nat) (Option.none : Option FieldType) ∈ xTb := tb 310 (by decide +kernel) rfl
theorem tw311 : Cond.methodLink "TextMorph$Pairs" (88 : Nat) ({ cls := "TextMorph$Text", name := "codeOf", desc := "(I)I" } : MethodName) ∈ xTb := tb 311 (by decide +kernel) rfl
theorem tw312 : Cond.instanceMethod ({ cls := "TextMorph$Text", name := "codeOf", desc := "(I)I" } : MethodName) ∈ xTb := tb 312 (by decide +kernel) rfl
theorem tw313 : Cond.selects "TextMorph$Text" ({ cls := "TextMorph$Text", name := "codeOf", desc := "(I)I" } : MethodName) ({ cls := "TextMorph$Text", name := "codeOf", desc := "(I)I" } : MethodName) ∈ xTb := tb 313 (by decide +kernel) rfl
theorem tw314 : Cond.code ({ cls := "TextMorph$Text", name := "codeOf", desc := "(I)I" } : MethodName) prog_7_method_8_code (2 : Nat) (Option.some FieldType.int) ∈ xTb := tb 314 (by decide +kernel) rfl
theorem tw315 : Cond.methodLink "TextMorph$Pairs" (91 : Nat) ({ cls := "java/lang/Math", name := "max", desc := "(II)I" } : MethodName) ∈ xTb := tb 315 (by decide +kernel) rfl
theorem tw316 : Cond.static ({ cls := "java/lang/Math", name := "max", desc := "(II)I" } : MethodName) ∈ xTb := tb 316 (by decide +kernel) rfl
theorem tw317 : Cond.code ({ cls := "java/lang/Math", name := "max", desc := "(II)I" } : MethodName) prog_15_method_65_code (2 : Nat) (Option.some FieldType.int) ∈ xTb := tb 317 (by decide +kernel) rfl
theorem tw318 : Cond.methodLink "TextMorph$Pairs" (80 : Nat) ({ cls := "TextMorph$Pairs", name := "partnerThatLeaves", desc := "(III)I" } : MethodName) ∈ xTb := tb 318 (by decide +kernel) rfl
theorem tw320 : Cond.instanceMethod ({ cls := "TextMorph$Pairs", name := "partnerThatLeaves", desc := "(III)I" } : MethodName) ∈ xTb := tb 320 (by decide +kernel) rfl
theorem tw321 : Cond.code ({ cls := "TextMorph$Pairs", name := "partnerThatLeaves", desc := "(III)I" } : MethodName) prog_5_method_8_code (6 : Nat) (Option.some FieldType.int) ∈ xTb := tb 321 (by decide +kernel) rfl
theorem tw322 : Cond.methodLink "TextMorph$Pairs" (84 : Nat) ({ cls := "TextMorph$Pairs", name := "pair", desc := "(III)V" } : MethodName) ∈ xTb := tb 322 (by decide +kernel) rfl
theorem tw324 : Cond.instanceMethod ({ cls := "TextMorph$Pairs", name := "pair", desc := "(III)V" } : MethodName) ∈ xTb := tb 324 (by decide +kernel) rfl
theorem tw325 : Cond.code ({ cls := "TextMorph$Pairs", name := "pair", desc := "(III)V" } : MethodName) prog_5_method_5_code (4 : Nat) (Option.none : Option FieldType) ∈ xTb := tb 325 (by decide +kernel) rfl
theorem tw326 : Cond.methodLink "TextMorph$Pairs" (45 : Nat) ({ cls := "TextMorph$Pairs", name := "pairNearest", desc := "(II)Z" } : MethodName) ∈ xTb := tb 326 (by decide +kernel) rfl
theorem tw328 : Cond.instanceMethod ({ cls := "TextMorph$Pairs", name := "pairNearest", desc := "(II)Z" } : MethodName) ∈ xTb := tb 328 (by decide +kernel) rfl
theorem tw329 : Cond.code ({ cls := "TextMorph$Pairs", name := "pairNearest", desc := "(II)Z" } : MethodName) prog_5_method_9_code (8 : Nat) (Option.some FieldType.boolean) ∈ xTb := tb 329 (by decide +kernel) rfl
theorem tw330 : Cond.methodLink "TextMorph$Pairs" (95 : Nat) ({ cls := "TextMorph$Pairs", name := "mayBePaired", desc := "(III)Z" } : MethodName) ∈ xTb := tb 330 (by decide +kernel) rfl
theorem tw332 : Cond.instanceMethod ({ cls := "TextMorph$Pairs", name := "mayBePaired", desc := "(III)Z" } : MethodName) ∈ xTb := tb 332 (by decide +kernel) rfl
theorem tw333 : Cond.code ({ cls := "TextMorph$Pairs", name := "mayBePaired", desc := "(III)Z" } : MethodName) prog_5_method_10_code (4 : Nat) (Option.some FieldType.boolean) ∈ xTb := tb 333 (by decide +kernel) rfl
theorem tw334 : Cond.methodLink "TextMorph$Pairs" (64 : Nat) ({ cls := "TextMorph$Text", name := "rowOf", desc := "(I)I" } : MethodName) ∈ xTb := tb 334 (by decide +kernel) rfl
theorem tw335 : Cond.instanceMethod ({ cls := "TextMorph$Text", name := "rowOf", desc := "(I)I" } : MethodName) ∈ xTb := tb 335 (by decide +kernel) rfl
theorem tw336 : Cond.selects "TextMorph$Text" ({ cls := "TextMorph$Text", name := "rowOf", desc := "(I)I" } : MethodName) ({ cls := "TextMorph$Text", name := "rowOf", desc := "(I)I" } : MethodName) ∈ xTb := tb 336 (by decide +kernel) rfl
theorem tw337 : Cond.code ({ cls := "TextMorph$Text", name := "rowOf", desc := "(I)I" } : MethodName) prog_7_method_6_code (2 : Nat) (Option.some FieldType.int) ∈ xTb := tb 337 (by decide +kernel) rfl
theorem tw338 : Cond.methodLink "TextMorph$Pairs" (99 : Nat) ({ cls := "TextMorph$Pairs", name := "distance", desc := "(II)I" } : MethodName) ∈ xTb := tb 338 (by decide +kernel) rfl
theorem tw339 : Cond.instanceMethod ({ cls := "TextMorph$Pairs", name := "distance", desc := "(II)I" } : MethodName) ∈ xTb := tb 339 (by decide +kernel) rfl
theorem tw340 : Cond.selects "TextMorph$Pairs" ({ cls := "TextMorph$Pairs", name := "distance", desc := "(II)I" } : MethodName) ({ cls := "TextMorph$Pairs", name := "distance", desc := "(II)I" } : MethodName) ∈ xTb := tb 340 (by decide +kernel) rfl
theorem tw341 : Cond.code ({ cls := "TextMorph$Pairs", name := "distance", desc := "(II)I" } : MethodName) prog_5_method_3_code (5 : Nat) (Option.some FieldType.int) ∈ xTb := tb 341 (by decide +kernel) rfl
theorem tw342 : Cond.methodLink "TextMorph$Pairs" (53 : Nat) ({ cls := "TextMorph$Text", name := "columnOf", desc := "(I)I" } : MethodName) ∈ xTb := tb 342 (by decide +kernel) rfl
theorem tw343 : Cond.instanceMethod ({ cls := "TextMorph$Text", name := "columnOf", desc := "(I)I" } : MethodName) ∈ xTb := tb 343 (by decide +kernel) rfl
theorem tw344 : Cond.selects "TextMorph$Text" ({ cls := "TextMorph$Text", name := "columnOf", desc := "(I)I" } : MethodName) ({ cls := "TextMorph$Text", name := "columnOf", desc := "(I)I" } : MethodName) ∈ xTb := tb 344 (by decide +kernel) rfl
theorem tw345 : Cond.code ({ cls := "TextMorph$Text", name := "columnOf", desc := "(I)I" } : MethodName) prog_7_method_7_code (2 : Nat) (Option.some FieldType.int) ∈ xTb := tb 345 (by decide +kernel) rfl
theorem tw346 : Cond.methodLink "TextMorph$Pairs" (59 : Nat) ({ cls := "java/lang/Math", name := "abs", desc := "(I)I" } : MethodName) ∈ xTb := tb 346 (by decide +kernel) rfl
theorem tw347 : Cond.static ({ cls := "java/lang/Math", name := "abs", desc := "(I)I" } : MethodName) ∈ xTb := tb 347 (by decide +kernel) rfl
theorem tw348 : Cond.code ({ cls := "java/lang/Math", name := "abs", desc := "(I)I" } : MethodName) prog_15_method_59_code (1 : Nat) (Option.some FieldType.int) ∈ xTb := tb 348 (by decide +kernel) rfl
theorem tw349 : Cond.methodLink "TextMorph$Morph" (56 : Nat) ({ cls := "TextMorph$Motion", name := "work", desc := "()V" } : MethodName) ∈ xTb := tb 349 (by decide +kernel) rfl
theorem tw350 : Cond.instanceMethod ({ cls := "TextMorph$Motion", name := "work", desc := "()V" } : MethodName) ∈ xTb := tb 350 (by decide +kernel) rfl
theorem tw351 : Cond.selects "TextMorph$Motion" ({ cls := "TextMorph$Motion", name := "work", desc := "()V" } : MethodName) ({ cls := "TextMorph$Motion", name := "work", desc := "()V" } : MethodName) ∈ xTb := tb 351 (by decide +kernel) rfl
theorem tw352 : Cond.code ({ cls := "TextMorph$Motion", name := "work", desc := "()V" } : MethodName) prog_4_method_2_code (3 : Nat) (Option.none : Option FieldType) ∈ xTb := tb 352 (by decide +kernel) rfl
theorem tw353 : Cond.methodLink "TextMorph$Motion" (54 : Nat) ({ cls := "TextMorph$Motion", name := "start", desc := "()V" } : MethodName) ∈ xTb := tb 353 (by decide +kernel) rfl
theorem tw355 : Cond.instanceMethod ({ cls := "TextMorph$Motion", name := "start", desc := "()V" } : MethodName) ∈ xTb := tb 355 (by decide +kernel) rfl
theorem tw356 : Cond.code ({ cls := "TextMorph$Motion", name := "start", desc := "()V" } : MethodName) prog_4_method_6_code (3 : Nat) (Option.none : Option FieldType) ∈ xTb := tb 356 (by decide +kernel) rfl
theorem tw357 : Cond.methodLink "TextMorph$Motion" (73 : Nat) ({ cls := "java/util/Arrays", name := "fill", desc := "([II)V" } : MethodName) ∈ xTb := tb 357 (by decide +kernel) rfl
theorem tw358 : Cond.methodLink "TextMorph$Motion" (79 : Nat) ({ cls := "TextMorph$State", name := "text", desc := "(I)LTextMorph$Text;" } : MethodName) ∈ xTb := tb 358 (by decide +kernel) rfl
theorem tw359 : Cond.methodLink "TextMorph$Motion" (57 : Nat) ({ cls := "TextMorph$Motion", name := "record", desc := "(I)V" } : MethodName) ∈ xTb := tb 359 (by decide +kernel) rfl
theorem tw361 : Cond.instanceMethod ({ cls := "TextMorph$Motion", name := "record", desc := "(I)V" } : MethodName) ∈ xTb := tb 361 (by decide +kernel) rfl
theorem tw362 : Cond.code ({ cls := "TextMorph$Motion", name := "record", desc := "(I)V" } : MethodName) prog_4_method_7_code (2 : Nat) (Option.none : Option FieldType) ∈ xTb := tb 362 (by decide +kernel) rfl
theorem tw363 : Cond.methodLink "TextMorph$Motion" (94 : Nat) ({ cls := "java/lang/System", name := "arraycopy", desc := "(Ljava/lang/Object;ILjava/lang/Object;II)V" } : MethodName) ∈ xTb := tb 363 (by decide +kernel) rfl
theorem tw364 : Cond.methodLink "TextMorph$Motion" (66 : Nat) ({ cls := "TextMorph$Motion", name := "movePieces", desc := "(I)V" } : MethodName) ∈ xTb := tb 364 (by decide +kernel) rfl
theorem tw366 : Cond.instanceMethod ({ cls := "TextMorph$Motion", name := "movePieces", desc := "(I)V" } : MethodName) ∈ xTb := tb 366 (by decide +kernel) rfl
theorem tw367 : Cond.code ({ cls := "TextMorph$Motion", name := "movePieces", desc := "(I)V" } : MethodName) prog_4_method_8_code (3 : Nat) (Option.none : Option FieldType) ∈ xTb := tb 367 (by decide +kernel) rfl
theorem tw368 : Cond.methodLink "TextMorph$Motion" (100 : Nat) ({ cls := "TextMorph$Motion", name := "moveOrHold", desc := "(II)V" } : MethodName) ∈ xTb := tb 368 (by decide +kernel) rfl
theorem tw370 : Cond.instanceMethod ({ cls := "TextMorph$Motion", name := "moveOrHold", desc := "(II)V" } : MethodName) ∈ xTb := tb 370 (by decide +kernel) rfl
theorem tw371 : Cond.code ({ cls := "TextMorph$Motion", name := "moveOrHold", desc := "(II)V" } : MethodName) prog_4_method_9_code (4 : Nat) (Option.none : Option FieldType) ∈ xTb := tb 371 (by decide +kernel) rfl
theorem tw372 : Cond.methodLink "TextMorph$Motion" (104 : Nat) ({ cls := "TextMorph$Motion", name := "nextCell", desc := "(II)I" } : MethodName) ∈ xTb := tb 372 (by decide +kernel) rfl
theorem tw374 : Cond.instanceMethod ({ cls := "TextMorph$Motion", name := "nextCell", desc := "(II)I" } : MethodName) ∈ xTb := tb 374 (by decide +kernel) rfl
theorem tw375 : Cond.code ({ cls := "TextMorph$Motion", name := "nextCell", desc := "(II)I" } : MethodName) prog_4_method_10_code (5 : Nat) (Option.some FieldType.int) ∈ xTb := tb 375 (by decide +kernel) rfl
theorem tw376 : Cond.methodLink "TextMorph$Motion" (110 : Nat) ({ cls := "java/lang/Math", name := "abs", desc := "(I)I" } : MethodName) ∈ xTb := tb 376 (by decide +kernel) rfl
theorem tw377 : Cond.methodLink "TextMorph$Motion" (116 : Nat) ({ cls := "TextMorph$Motion", name := "goesAlongRow", desc := "(II)Z" } : MethodName) ∈ xTb := tb 377 (by decide +kernel) rfl
theorem tw379 : Cond.instanceMethod ({ cls := "TextMorph$Motion", name := "goesAlongRow", desc := "(II)Z" } : MethodName) ∈ xTb := tb 379 (by decide +kernel) rfl
theorem tw380 : Cond.code ({ cls := "TextMorph$Motion", name := "goesAlongRow", desc := "(II)Z" } : MethodName) prog_4_method_11_code (3 : Nat) (Option.some FieldType.boolean) ∈ xTb := tb 380 (by decide +kernel) rfl
theorem tw381 : Cond.methodLink "TextMorph$Morph" (65 : Nat) ({ cls := "TextMorph$State", name := "text", desc := "(I)LTextMorph$Text;" } : MethodName) ∈ xTb := tb 381 (by decide +kernel) rfl
theorem tw382 : Cond.methodLink "TextMorph" (138 : Nat) ({ cls := "TextMorph$Morph", name := "frames", desc := "()I" } : MethodName) ∈ xTb := tb 382 (by decide +kernel) rfl
theorem tw383 : Cond.instanceMethod ({ cls := "TextMorph$Morph", name := "frames", desc := "()I" } : MethodName) ∈ xTb := tb 383 (by decide +kernel) rfl
theorem tw384 : Cond.selects "TextMorph$Morph" ({ cls := "TextMorph$Morph", name := "frames", desc := "()I" } : MethodName) ({ cls := "TextMorph$Morph", name := "frames", desc := "()I" } : MethodName) ∈ xTb := tb 384 (by decide +kernel) rfl
theorem tw385 : Cond.code ({ cls := "TextMorph$Morph", name := "frames", desc := "()I" } : MethodName) prog_3_method_3_code (1 : Nat) (Option.some FieldType.int) ∈ xTb := tb 385 (by decide +kernel) rfl
theorem tw394 : Cond.methodLink "TextMorph" (94 : Nat) ({ cls := "TextMorph$Buffer", name := "read", desc := "()I" } : MethodName) ∈ xTb := tb 394 (by decide +kernel) rfl
theorem tw395 : Cond.instanceMethod ({ cls := "TextMorph$Buffer", name := "read", desc := "()I" } : MethodName) ∈ xTb := tb 395 (by decide +kernel) rfl
theorem tw396 : Cond.selects "TextMorph$Buffer" ({ cls := "TextMorph$Buffer", name := "read", desc := "()I" } : MethodName) ({ cls := "TextMorph$Buffer", name := "read", desc := "()I" } : MethodName) ∈ xTb := tb 396 (by decide +kernel) rfl
theorem tw397 : Cond.code ({ cls := "TextMorph$Buffer", name := "read", desc := "()I" } : MethodName) prog_2_method_2_code (6 : Nat) (Option.some FieldType.int) ∈ xTb := tb 397 (by decide +kernel) rfl
theorem tw398 : Cond.methodLink "TextMorph$Buffer" (22 : Nat) ({ cls := "java/util/Arrays", name := "fill", desc := "([II)V" } : MethodName) ∈ xTb := tb 398 (by decide +kernel) rfl
theorem tw400 : Cond.static ({ cls := "TextMorph", name := "isLetter", desc := "(I)Z" } : MethodName) ∈ xTb := tb 400 (by decide +kernel) rfl
theorem tw401 : Cond.code ({ cls := "TextMorph", name := "isLetter", desc := "(I)Z" } : MethodName) prog_1_method_33_code (1 : Nat) (Option.some FieldType.boolean) ∈ xTb := tb 401 (by decide +kernel) rfl
theorem tw403 : Cond.instanceMethod ({ cls := "TextMorph", name := "best", desc := "()I" } : MethodName) ∈ xTb := tb 403 (by decide +kernel) rfl
theorem tw404 : Cond.selects "TextMorph" ({ cls := "TextMorph", name := "best", desc := "()I" } : MethodName) ({ cls := "TextMorph", name := "best", desc := "()I" } : MethodName) ∈ xTb := tb 404 (by decide +kernel) rfl
theorem tw405 : Cond.code ({ cls := "TextMorph", name := "best", desc := "()I" } : MethodName) prog_1_method_19_code (7 : Nat) (Option.some FieldType.int) ∈ xTb := tb 405 (by decide +kernel) rfl
theorem tw407 : Cond.instanceMethod ({ cls := "TextMorph", name := "likeness", desc := "()D" } : MethodName) ∈ xTb := tb 407 (by decide +kernel) rfl
theorem tw408 : Cond.selects "TextMorph" ({ cls := "TextMorph", name := "likeness", desc := "()D" } : MethodName) ({ cls := "TextMorph", name := "likeness", desc := "()D" } : MethodName) ∈ xTb := tb 408 (by decide +kernel) rfl
theorem tw409 : Cond.code ({ cls := "TextMorph", name := "likeness", desc := "()D" } : MethodName) prog_1_method_20_code (2 : Nat) (Option.some FieldType.double) ∈ xTb := tb 409 (by decide +kernel) rfl
theorem tw414 : Cond.constantLong "TextMorph" (217 : Nat) (2111 : Int64) ∈ xTb := tb 414 (by decide +kernel) rfl
theorem tw415 : Cond.methodLink "TextMorph" (219 : Nat) ({ cls := "TextMorph", name := "mixNumbers", desc := "(J)J" } : MethodName) ∈ xTb := tb 415 (by decide +kernel) rfl
theorem tw417 : Cond.instanceMethod ({ cls := "TextMorph", name := "mixNumbers", desc := "(J)J" } : MethodName) ∈ xTb := tb 417 (by decide +kernel) rfl
theorem tw418 : Cond.code ({ cls := "TextMorph", name := "mixNumbers", desc := "(J)J" } : MethodName) prog_1_method_22_code (6 : Nat) (Option.some FieldType.long) ∈ xTb := tb 418 (by decide +kernel) rfl
theorem tw419 : Cond.methodLink "TextMorph" (190 : Nat) ({ cls := "TextMorph$Morph", name := "number", desc := "(I)I" } : MethodName) ∈ xTb := tb 419 (by decide +kernel) rfl
theorem tw420 : Cond.instanceMethod ({ cls := "TextMorph$Morph", name := "number", desc := "(I)I" } : MethodName) ∈ xTb := tb 420 (by decide +kernel) rfl
theorem tw421 : Cond.selects "TextMorph$Morph" ({ cls := "TextMorph$Morph", name := "number", desc := "(I)I" } : MethodName) ({ cls := "TextMorph$Morph", name := "number", desc := "(I)I" } : MethodName) ∈ xTb := tb 421 (by decide +kernel) rfl
theorem tw422 : Cond.code ({ cls := "TextMorph$Morph", name := "number", desc := "(I)I" } : MethodName) prog_3_method_4_code (2 : Nat) (Option.some FieldType.int) ∈ xTb := tb 422 (by decide +kernel) rfl
theorem tw423 : Cond.methodLink "TextMorph$Morph" (83 : Nat) ({ cls := "TextMorph$Morph", name := "frames", desc := "()I" } : MethodName) ∈ xTb := tb 423 (by decide +kernel) rfl
theorem tw424 : Cond.methodLink "TextMorph$Morph" (86 : Nat) ({ cls := "TextMorph$Morph", name := "distancesOfAll", desc := "()I" } : MethodName) ∈ xTb := tb 424 (by decide +kernel) rfl
theorem tw426 : Cond.instanceMethod ({ cls := "TextMorph$Morph", name := "distancesOfAll", desc := "()I" } : MethodName) ∈ xTb := tb 426 (by decide +kernel) rfl
theorem tw427 : Cond.code ({ cls := "TextMorph$Morph", name := "distancesOfAll", desc := "()I" } : MethodName) prog_3_method_10_code (3 : Nat) (Option.some FieldType.int) ∈ xTb := tb 427 (by decide +kernel) rfl
theorem tw428 : Cond.methodLink "TextMorph$Morph" (121 : Nat) ({ cls := "TextMorph$Morph", name := "vanishes", desc := "(I)Z" } : MethodName) ∈ xTb := tb 428 (by decide +kernel) rfl
theorem tw430 : Cond.instanceMethod ({ cls := "TextMorph$Morph", name := "vanishes", desc := "(I)Z" } : MethodName) ∈ xTb := tb 430 (by decide +kernel) rfl
theorem tw431 : Cond.code ({ cls := "TextMorph$Morph", name := "vanishes", desc := "(I)Z" } : MethodName) prog_3_method_13_code (2 : Nat) (Option.some FieldType.boolean) ∈ xTb := tb 431 (by decide +kernel) rfl
theorem tw432 : Cond.methodLink "TextMorph$Morph" (111 : Nat) ({ cls := "TextMorph$Pairs", name := "distance", desc := "(II)I" } : MethodName) ∈ xTb := tb 432 (by decide +kernel) rfl
theorem tw433 : Cond.methodLink "TextMorph$Morph" (89 : Nat) ({ cls := "TextMorph$Morph", name := "stepsOfAll", desc := "()I" } : MethodName) ∈ xTb := tb 433 (by decide +kernel) rfl
theorem tw435 : Cond.instanceMethod ({ cls := "TextMorph$Morph", name := "stepsOfAll", desc := "()I" } : MethodName) ∈ xTb := tb 435 (by decide +kernel) rfl
theorem tw436 : Cond.code ({ cls := "TextMorph$Morph", name := "stepsOfAll", desc := "()I" } : MethodName) prog_3_method_11_code (3 : Nat) (Option.some FieldType.int) ∈ xTb := tb 436 (by decide +kernel) rfl
theorem tw437 : Cond.methodLink "TextMorph$Morph" (115 : Nat) ({ cls := "TextMorph$Morph", name := "steps", desc := "(I)I" } : MethodName) ∈ xTb := tb 437 (by decide +kernel) rfl
theorem tw439 : Cond.instanceMethod ({ cls := "TextMorph$Morph", name := "steps", desc := "(I)I" } : MethodName) ∈ xTb := tb 439 (by decide +kernel) rfl
theorem tw440 : Cond.code ({ cls := "TextMorph$Morph", name := "steps", desc := "(I)I" } : MethodName) prog_3_method_12_code (3 : Nat) (Option.some FieldType.int) ∈ xTb := tb 440 (by decide +kernel) rfl
theorem tw441 : Cond.methodLink "TextMorph$Morph" (105 : Nat) ({ cls := "TextMorph$Text", name := "columnOf", desc := "(I)I" } : MethodName) ∈ xTb := tb 441 (by decide +kernel) rfl
theorem tw442 : Cond.methodLink "TextMorph$Morph" (157 : Nat) ({ cls := "java/lang/Math", name := "abs", desc := "(I)I" } : MethodName) ∈ xTb := tb 442 (by decide +kernel) rfl
theorem tw443 : Cond.methodLink "TextMorph$Morph" (101 : Nat) ({ cls := "TextMorph$Text", name := "rowOf", desc := "(I)I" } : MethodName) ∈ xTb := tb 443 (by decide +kernel) rfl
theorem tw444 : Cond.methodLink "TextMorph" (232 : Nat) ({ cls := "TextMorph", name := "mix", desc := "(JJ)J" } : MethodName) ∈ xTb := tb 444 (by decide +kernel) rfl
theorem tw445 : Cond.static ({ cls := "TextMorph", name := "mix", desc := "(JJ)J" } : MethodName) ∈ xTb := tb 445 (by decide +kernel) rfl
theorem tw446 : Cond.code ({ cls := "TextMorph", name := "mix", desc := "(JJ)J" } : MethodName) prog_1_method_25_code (4 : Nat) (Option.some FieldType.long) ∈ xTb := tb 446 (by decide +kernel) rfl
theorem tw447 : Cond.constantLong "TextMorph" (244 : Nat) (31 : Int64) ∈ xTb := tb 447 (by decide +kernel) rfl
theorem tw448 : Cond.methodLink "TextMorph" (223 : Nat) ({ cls := "TextMorph", name := "mixLetters", desc := "(J)J" } : MethodName) ∈ xTb := tb 448 (by decide +kernel) rfl
theorem tw450 : Cond.instanceMethod ({ cls := "TextMorph", name := "mixLetters", desc := "(J)J" } : MethodName) ∈ xTb := tb 450 (by decide +kernel) rfl
theorem tw451 : Cond.code ({ cls := "TextMorph", name := "mixLetters", desc := "(J)J" } : MethodName) prog_1_method_23_code (8 : Nat) (Option.some FieldType.long) ∈ xTb := tb 451 (by decide +kernel) rfl
theorem tw452 : Cond.methodLink "TextMorph" (157 : Nat) ({ cls := "TextMorph$Morph", name := "letterProperty", desc := "(III)I" } : MethodName) ∈ xTb := tb 452 (by decide +kernel) rfl
theorem tw453 : Cond.instanceMethod ({ cls := "TextMorph$Morph", name := "letterProperty", desc := "(III)I" } : MethodName) ∈ xTb := tb 453 (by decide +kernel) rfl
theorem tw454 : Cond.selects "TextMorph$Morph" ({ cls := "TextMorph$Morph", name := "letterProperty", desc := "(III)I" } : MethodName) ({ cls := "TextMorph$Morph", name := "letterProperty", desc := "(III)I" } : MethodName) ∈ xTb := tb 454 (by decide +kernel) rfl
theorem tw455 : Cond.code ({ cls := "TextMorph$Morph", name := "letterProperty", desc := "(III)I" } : MethodName) prog_3_method_5_code (5 : Nat) (Option.some FieldType.int) ∈ xTb := tb 455 (by decide +kernel) rfl
theorem tw456 : Cond.methodLink "TextMorph$Morph" (108 : Nat) ({ cls := "TextMorph$Text", name := "codeOf", desc := "(I)I" } : MethodName) ∈ xTb := tb 456 (by decide +kernel) rfl
theorem tw457 : Cond.methodLink "TextMorph" (166 : Nat) ({ cls := "TextMorph$Morph", name := "wayProperty", desc := "(II)I" } : MethodName) ∈ xTb := tb 457 (by decide +kernel) rfl
theorem tw458 : Cond.instanceMethod ({ cls := "TextMorph$Morph", name := "wayProperty", desc := "(II)I" } : MethodName) ∈ xTb := tb 458 (by decide +kernel) rfl
theorem tw459 : Cond.selects "TextMorph$Morph" ({ cls := "TextMorph$Morph", name := "wayProperty", desc := "(II)I" } : MethodName) ({ cls := "TextMorph$Morph", name := "wayProperty", desc := "(II)I" } : MethodName) ∈ xTb := tb 459 (by decide +kernel) rfl
theorem tw460 : Cond.code ({ cls := "TextMorph$Morph", name := "wayProperty", desc := "(II)I" } : MethodName) prog_3_method_6_code (3 : Nat) (Option.some FieldType.int) ∈ xTb := tb 460 (by decide +kernel) rfl
theorem tw461 : Cond.methodLink "TextMorph" (226 : Nat) ({ cls := "TextMorph", name := "mixFrames", desc := "(J)J" } : MethodName) ∈ xTb := tb 461 (by decide +kernel) rfl
theorem tw463 : Cond.instanceMethod ({ cls := "TextMorph", name := "mixFrames", desc := "(J)J" } : MethodName) ∈ xTb := tb 463 (by decide +kernel) rfl
theorem tw464 : Cond.code ({ cls := "TextMorph", name := "mixFrames", desc := "(J)J" } : MethodName) prog_1_method_24_code (7 : Nat) (Option.some FieldType.long) ∈ xTb := tb 464 (by decide +kernel) rfl
theorem tw465 : Cond.methodLink "TextMorph" (185 : Nat) ({ cls := "TextMorph$Morph", name := "frameProperty", desc := "(II)I" } : MethodName) ∈ xTb := tb 465 (by decide +kernel) rfl
theorem tw466 : Cond.instanceMethod ({ cls := "TextMorph$Morph", name := "frameProperty", desc := "(II)I" } : MethodName) ∈ xTb := tb 466 (by decide +kernel) rfl
theorem tw467 : Cond.selects "TextMorph$Morph" ({ cls := "TextMorph$Morph", name := "frameProperty", desc := "(II)I" } : MethodName) ({ cls := "TextMorph$Morph", name := "frameProperty", desc := "(II)I" } : MethodName) ∈ xTb := tb 467 (by decide +kernel) rfl
theorem tw468 : Cond.code ({ cls := "TextMorph$Morph", name := "frameProperty", desc := "(II)I" } : MethodName) prog_3_method_9_code (3 : Nat) (Option.some FieldType.int) ∈ xTb := tb 468 (by decide +kernel) rfl
theorem tw469 : Cond.methodLink "TextMorph$Morph" (142 : Nat) ({ cls := "TextMorph$Morph", name := "cellsWithLetters", desc := "(I)I" } : MethodName) ∈ xTb := tb 469 (by decide +kernel) rfl
theorem tw471 : Cond.instanceMethod ({ cls := "TextMorph$Morph", name := "cellsWithLetters", desc := "(I)I" } : MethodName) ∈ xTb := tb 471 (by decide +kernel) rfl
theorem tw472 : Cond.code ({ cls := "TextMorph$Morph", name := "cellsWithLetters", desc := "(I)I" } : MethodName) prog_3_method_18_code (4 : Nat) (Option.some FieldType.int) ∈ xTb := tb 472 (by decide +kernel) rfl
theorem tw473 : Cond.methodLink "TextMorph$Morph" (138 : Nat) ({ cls := "TextMorph$Morph", name := "show", desc := "(I[I)V" } : MethodName) ∈ xTb := tb 473 (by decide +kernel) rfl
theorem tw475 : Cond.instanceMethod ({ cls := "TextMorph$Morph", name := "show", desc := "(I[I)V" } : MethodName) ∈ xTb := tb 475 (by decide +kernel) rfl
theorem tw476 : Cond.code ({ cls := "TextMorph$Morph", name := "show", desc := "(I[I)V" } : MethodName) prog_3_method_17_code (5 : Nat) (Option.none : Option FieldType) ∈ xTb := tb 476 (by decide +kernel) rfl
theorem tw477 : Cond.methodLink "TextMorph$Morph" (171 : Nat) ({ cls := "java/util/Arrays", name := "fill", desc := "([II)V" } : MethodName) ∈ xTb := tb 477 (by decide +kernel) rfl
theorem tw478 : Cond.methodLink "TextMorph$Morph" (180 : Nat) ({ cls := "TextMorph$Morph", name := "cellOf", desc := "(II)I" } : MethodName) ∈ xTb := tb 478 (by decide +kernel) rfl
theorem tw479 : Cond.instanceMethod ({ cls := "TextMorph$Morph", name := "cellOf", desc := "(II)I" } : MethodName) ∈ xTb := tb 479 (by decide +kernel) rfl
theorem tw480 : Cond.selects "TextMorph$Morph" ({ cls := "TextMorph$Morph", name := "cellOf", desc := "(II)I" } : MethodName) ({ cls := "TextMorph$Morph", name := "cellOf", desc := "(II)I" } : MethodName) ∈ xTb := tb 480 (by decide +kernel) rfl
theorem tw481 : Cond.code ({ cls := "TextMorph$Morph", name := "cellOf", desc := "(II)I" } : MethodName) prog_3_method_7_code (3 : Nat) (Option.some FieldType.int) ∈ xTb := tb 481 (by decide +kernel) rfl
theorem tw482 : Cond.methodLink "TextMorph$Morph" (128 : Nat) ({ cls := "TextMorph$Morph", name := "isGone", desc := "(II)Z" } : MethodName) ∈ xTb := tb 482 (by decide +kernel) rfl
theorem tw484 : Cond.instanceMethod ({ cls := "TextMorph$Morph", name := "isGone", desc := "(II)Z" } : MethodName) ∈ xTb := tb 484 (by decide +kernel) rfl
theorem tw485 : Cond.code ({ cls := "TextMorph$Morph", name := "isGone", desc := "(II)Z" } : MethodName) prog_3_method_14_code (3 : Nat) (Option.some FieldType.boolean) ∈ xTb := tb 485 (by decide +kernel) rfl
theorem tw486 : Cond.methodLink "TextMorph$Morph" (132 : Nat) ({ cls := "TextMorph$Morph", name := "movedBy", desc := "(I)I" } : MethodName) ∈ xTb := tb 486 (by decide +kernel) rfl
theorem tw488 : Cond.instanceMethod ({ cls := "TextMorph$Morph", name := "movedBy", desc := "(I)I" } : MethodName) ∈ xTb := tb 488 (by decide +kernel) rfl
theorem tw489 : Cond.code ({ cls := "TextMorph$Morph", name := "movedBy", desc := "(I)I" } : MethodName) prog_3_method_15_code (2 : Nat) (Option.some FieldType.int) ∈ xTb := tb 489 (by decide +kernel) rfl
theorem tw490 : Cond.methodLink "TextMorph$Morph" (162 : Nat) ({ cls := "java/lang/Math", name := "min", desc := "(II)I" } : MethodName) ∈ xTb := tb 490 (by decide +kernel) rfl
theorem tw491 : Cond.static ({ cls := "java/lang/Math", name := "min", desc := "(II)I" } : MethodName) ∈ xTb := tb 491 (by decide +kernel) rfl
theorem tw492 : Cond.code ({ cls := "java/lang/Math", name := "min", desc := "(II)I" } : MethodName) prog_15_method_69_code (2 : Nat) (Option.some FieldType.int) ∈ xTb := tb 492 (by decide +kernel) rfl
theorem tw493 : Cond.methodLink "TextMorph$Morph" (165 : Nat) ({ cls := "java/lang/Math", name := "max", desc := "(II)I" } : MethodName) ∈ xTb := tb 493 (by decide +kernel) rfl
theorem tw494 : Cond.methodLink "TextMorph$Morph" (135 : Nat) ({ cls := "TextMorph$Motion", name := "cellAfter", desc := "(II)I" } : MethodName) ∈ xTb := tb 494 (by decide +kernel) rfl
theorem tw495 : Cond.instanceMethod ({ cls := "TextMorph$Motion", name := "cellAfter", desc := "(II)I" } : MethodName) ∈ xTb := tb 495 (by decide +kernel) rfl
theorem tw496 : Cond.selects "TextMorph$Motion" ({ cls := "TextMorph$Motion", name := "cellAfter", desc := "(II)I" } : MethodName) ({ cls := "TextMorph$Motion", name := "cellAfter", desc := "(II)I" } : MethodName) ∈ xTb := tb 496 (by decide +kernel) rfl
theorem tw497 : Cond.code ({ cls := "TextMorph$Motion", name := "cellAfter", desc := "(II)I" } : MethodName) prog_4_method_3_code (3 : Nat) (Option.some FieldType.int) ∈ xTb := tb 497 (by decide +kernel) rfl
theorem tw498 : Cond.methodLink "TextMorph$Morph" (183 : Nat) ({ cls := "TextMorph$Morph", name := "pieceCode", desc := "(II)I" } : MethodName) ∈ xTb := tb 498 (by decide +kernel) rfl
theorem tw500 : Cond.instanceMethod ({ cls := "TextMorph$Morph", name := "pieceCode", desc := "(II)I" } : MethodName) ∈ xTb := tb 500 (by decide +kernel) rfl
theorem tw501 : Cond.code ({ cls := "TextMorph$Morph", name := "pieceCode", desc := "(II)I" } : MethodName) prog_3_method_16_code (4 : Nat) (Option.some FieldType.int) ∈ xTb := tb 501 (by decide +kernel) rfl
theorem tw502 : Cond.methodLink "TextMorph$Morph" (168 : Nat) ({ cls := "TextMorph$Motion", name := "isAtGoalAfter", desc := "(II)Z" } : MethodName) ∈ xTb := tb 502 (by decide +kernel) rfl
theorem tw503 : Cond.instanceMethod ({ cls := "TextMorph$Motion", name := "isAtGoalAfter", desc := "(II)Z" } : MethodName) ∈ xTb := tb 503 (by decide +kernel) rfl
theorem tw504 : Cond.selects "TextMorph$Motion" ({ cls := "TextMorph$Motion", name := "isAtGoalAfter", desc := "(II)Z" } : MethodName) ({ cls := "TextMorph$Motion", name := "isAtGoalAfter", desc := "(II)Z" } : MethodName) ∈ xTb := tb 504 (by decide +kernel) rfl
theorem tw505 : Cond.code ({ cls := "TextMorph$Motion", name := "isAtGoalAfter", desc := "(II)Z" } : MethodName) prog_4_method_4_code (3 : Nat) (Option.some FieldType.boolean) ∈ xTb := tb 505 (by decide +kernel) rfl
theorem tw506 : Cond.methodLink "TextMorph$Motion" (69 : Nat) ({ cls := "TextMorph$Motion", name := "cellAfter", desc := "(II)I" } : MethodName) ∈ xTb := tb 506 (by decide +kernel) rfl
theorem tw507 : Cond.methodLink "TextMorph$Morph" (145 : Nat) ({ cls := "TextMorph$Morph", name := "cellsThatDiffer", desc := "(I)I" } : MethodName) ∈ xTb := tb 507 (by decide +kernel) rfl
theorem tw509 : Cond.instanceMethod ({ cls := "TextMorph$Morph", name := "cellsThatDiffer", desc := "(I)I" } : MethodName) ∈ xTb := tb 509 (by decide +kernel) rfl
theorem tw510 : Cond.code ({ cls := "TextMorph$Morph", name := "cellsThatDiffer", desc := "(I)I" } : MethodName) prog_3_method_19_code (4 : Nat) (Option.some FieldType.int) ∈ xTb := tb 510 (by decide +kernel) rfl
theorem tw511 : Cond.methodLink "TextMorph$Morph" (148 : Nat) ({ cls := "TextMorph$Motion", name := "heldIn", desc := "(I)I" } : MethodName) ∈ xTb := tb 511 (by decide +kernel) rfl
theorem tw512 : Cond.instanceMethod ({ cls := "TextMorph$Motion", name := "heldIn", desc := "(I)I" } : MethodName) ∈ xTb := tb 512 (by decide +kernel) rfl
theorem tw513 : Cond.selects "TextMorph$Motion" ({ cls := "TextMorph$Motion", name := "heldIn", desc := "(I)I" } : MethodName) ({ cls := "TextMorph$Motion", name := "heldIn", desc := "(I)I" } : MethodName) ∈ xTb := tb 513 (by decide +kernel) rfl
theorem tw514 : Cond.code ({ cls := "TextMorph$Motion", name := "heldIn", desc := "(I)I" } : MethodName) prog_4_method_5_code (2 : Nat) (Option.some FieldType.int) ∈ xTb := tb 514 (by decide +kernel) rfl
theorem tw515 : Cond.methodLink "TextMorph$Morph" (151 : Nat) ({ cls := "TextMorph$Morph", name := "sharedCells", desc := "(I)I" } : MethodName) ∈ xTb := tb 515 (by decide +kernel) rfl
theorem tw517 : Cond.instanceMethod ({ cls := "TextMorph$Morph", name := "sharedCells", desc := "(I)I" } : MethodName) ∈ xTb := tb 517 (by decide +kernel) rfl
theorem tw518 : Cond.code ({ cls := "TextMorph$Morph", name := "sharedCells", desc := "(I)I" } : MethodName) prog_3_method_20_code (5 : Nat) (Option.some FieldType.int) ∈ xTb := tb 518 (by decide +kernel) rfl
theorem tw519 : Cond.methodLink "TextMorph$Morph" (154 : Nat) ({ cls := "TextMorph$Morph", name := "piecesLeft", desc := "(I)I" } : MethodName) ∈ xTb := tb 519 (by decide +kernel) rfl
theorem tw521 : Cond.instanceMethod ({ cls := "TextMorph$Morph", name := "piecesLeft", desc := "(I)I" } : MethodName) ∈ xTb := tb 521 (by decide +kernel) rfl
theorem tw522 : Cond.code ({ cls := "TextMorph$Morph", name := "piecesLeft", desc := "(I)I" } : MethodName) prog_3_method_21_code (4 : Nat) (Option.some FieldType.int) ∈ xTb := tb 522 (by decide +kernel) rfl
theorem tw523 : Cond.methodLink "TextMorph" (175 : Nat) ({ cls := "TextMorph$Morph", name := "codeShown", desc := "(II)I" } : MethodName) ∈ xTb := tb 523 (by decide +kernel) rfl
theorem tw524 : Cond.instanceMethod ({ cls := "TextMorph$Morph", name := "codeShown", desc := "(II)I" } : MethodName) ∈ xTb := tb 524 (by decide +kernel) rfl
theorem tw525 : Cond.selects "TextMorph$Morph" ({ cls := "TextMorph$Morph", name := "codeShown", desc := "(II)I" } : MethodName) ({ cls := "TextMorph$Morph", name := "codeShown", desc := "(II)I" } : MethodName) ∈ xTb := tb 525 (by decide +kernel) rfl
theorem tw526 : Cond.code ({ cls := "TextMorph$Morph", name := "codeShown", desc := "(II)I" } : MethodName) prog_3_method_8_code (3 : Nat) (Option.some FieldType.int) ∈ xTb := tb 526 (by decide +kernel) rfl
theorem tw527 : Cond.methodLink "TextMorph" (229 : Nat) ({ cls := "TextMorph", name := "best", desc := "()I" } : MethodName) ∈ xTb := tb 527 (by decide +kernel) rfl
theorem tw528 : Cond.methodLink "TextMorph" (236 : Nat) ({ cls := "TextMorph", name := "likeness", desc := "()D" } : MethodName) ∈ xTb := tb 528 (by decide +kernel) rfl
theorem tw529 : Cond.methodLink "TextMorph" (240 : Nat) ({ cls := "TextMorph", name := "bits", desc := "(D)J" } : MethodName) ∈ xTb := tb 529 (by decide +kernel) rfl
theorem tw530 : Cond.static ({ cls := "TextMorph", name := "bits", desc := "(D)J" } : MethodName) ∈ xTb := tb 530 (by decide +kernel) rfl
theorem tw531 : Cond.code ({ cls := "TextMorph", name := "bits", desc := "(D)J" } : MethodName) prog_1_method_26_code (6 : Nat) (Option.some FieldType.long) ∈ xTb := tb 531 (by decide +kernel) rfl
theorem tw532 : Cond.constantLong "TextMorph" (246 : Nat) (1023 : Int64) ∈ xTb := tb 532 (by decide +kernel) rfl
theorem tw533 : Cond.constantDouble "TextMorph" (248 : Nat) (4611686018427387904 : UInt64) ∈ xTb := tb 533 (by decide +kernel) rfl
theorem tw534 : Cond.constantDouble "TextMorph" (250 : Nat) (4841369599423283200 : UInt64) ∈ xTb := tb 534 (by decide +kernel) rfl
theorem tw538 : Cond.classLink "TextMorphLaw" (13 : Nat) "java/lang/IndexOutOfBoundsException" ∈ xTb := tb 538 (by decide +kernel) rfl
theorem tw539 : Cond.classLink "TextMorphLaw" (15 : Nat) "java/lang/IllegalArgumentException" ∈ xTb := tb 539 (by decide +kernel) rfl
theorem tw540 : Cond.methodLink "TextMorphLaw" (7 : Nat) ({ cls := "TextMorph", name := "set", desc := "(II)I" } : MethodName) ∈ xTb := tb 540 (by decide +kernel) rfl
theorem tw541 : Cond.instanceMethod ({ cls := "TextMorph", name := "set", desc := "(II)I" } : MethodName) ∈ xTb := tb 541 (by decide +kernel) rfl
theorem tw542 : Cond.selects "TextMorph" ({ cls := "TextMorph", name := "set", desc := "(II)I" } : MethodName) ({ cls := "TextMorph", name := "set", desc := "(II)I" } : MethodName) ∈ xTb := tb 542 (by decide +kernel) rfl
theorem tw543 : Cond.code ({ cls := "TextMorph", name := "set", desc := "(II)I" } : MethodName) prog_1_method_3_code (4 : Nat) (Option.some FieldType.int) ∈ xTb := tb 543 (by decide +kernel) rfl
theorem tw544 : Cond.methodLink "TextMorph" (65 : Nat) ({ cls := "TextMorph", name := "isSetting", desc := "(I)Z" } : MethodName) ∈ xTb := tb 544 (by decide +kernel) rfl
theorem tw545 : Cond.static ({ cls := "TextMorph", name := "isSetting", desc := "(I)Z" } : MethodName) ∈ xTb := tb 545 (by decide +kernel) rfl
theorem tw546 : Cond.code ({ cls := "TextMorph", name := "isSetting", desc := "(I)Z" } : MethodName) prog_1_method_34_code (1 : Nat) (Option.some FieldType.boolean) ∈ xTb := tb 546 (by decide +kernel) rfl
theorem tw547 : Cond.classLink "TextMorph" (69 : Nat) "java/lang/IndexOutOfBoundsException" ∈ xTb := tb 547 (by decide +kernel) rfl
theorem tw615 : Cond.methodLink "TextMorph" (76 : Nat) ({ cls := "TextMorph", name := "isValue", desc := "(II)Z" } : MethodName) ∈ xTb := tb 615 (by decide +kernel) rfl
theorem tw616 : Cond.static ({ cls := "TextMorph", name := "isValue", desc := "(II)Z" } : MethodName) ∈ xTb := tb 616 (by decide +kernel) rfl
theorem tw617 : Cond.code ({ cls := "TextMorph", name := "isValue", desc := "(II)Z" } : MethodName) prog_1_method_35_code (2 : Nat) (Option.some FieldType.boolean) ∈ xTb := tb 617 (by decide +kernel) rfl
theorem tw618 : Cond.fieldLink "TextMorph" (252 : Nat) "TextMorph" "LEAST_VALUE" "[I" ∈ xTb := tb 618 (by decide +kernel) rfl
theorem tw620 : Cond.fieldLink "TextMorph" (255 : Nat) "TextMorph" "MOST_VALUE" "[I" ∈ xTb := tb 620 (by decide +kernel) rfl
theorem tw622 : Cond.classLink "TextMorph" (80 : Nat) "java/lang/IllegalArgumentException" ∈ xTb := tb 622 (by decide +kernel) rfl
theorem tw641 : Cond.methodLink "TextMorphLaw" (17 : Nat) ({ cls := "TextMorph", name := "load", desc := "(I)I" } : MethodName) ∈ xTb := tb 641 (by decide +kernel) rfl
theorem tw642 : Cond.instanceMethod ({ cls := "TextMorph", name := "load", desc := "(I)I" } : MethodName) ∈ xTb := tb 642 (by decide +kernel) rfl
theorem tw643 : Cond.selects "TextMorph" ({ cls := "TextMorph", name := "load", desc := "(I)I" } : MethodName) ({ cls := "TextMorph", name := "load", desc := "(I)I" } : MethodName) ∈ xTb := tb 643 (by decide +kernel) rfl
theorem tw644 : Cond.code ({ cls := "TextMorph", name := "load", desc := "(I)I" } : MethodName) prog_1_method_4_code (2 : Nat) (Option.some FieldType.int) ∈ xTb := tb 644 (by decide +kernel) rfl
theorem tw645 : Cond.methodLink "TextMorph" (89 : Nat) ({ cls := "TextMorph", name := "isText", desc := "(I)Z" } : MethodName) ∈ xTb := tb 645 (by decide +kernel) rfl
theorem tw646 : Cond.static ({ cls := "TextMorph", name := "isText", desc := "(I)Z" } : MethodName) ∈ xTb := tb 646 (by decide +kernel) rfl
theorem tw647 : Cond.code ({ cls := "TextMorph", name := "isText", desc := "(I)Z" } : MethodName) prog_1_method_31_code (1 : Nat) (Option.some FieldType.boolean) ∈ xTb := tb 647 (by decide +kernel) rfl
theorem tw650 : Cond.methodLink "TextMorph" (106 : Nat) ({ cls := "TextMorph$Text", name := "takeCodes", desc := "([I)V" } : MethodName) ∈ xTb := tb 650 (by decide +kernel) rfl
theorem tw651 : Cond.instanceMethod ({ cls := "TextMorph$Text", name := "takeCodes", desc := "([I)V" } : MethodName) ∈ xTb := tb 651 (by decide +kernel) rfl
theorem tw652 : Cond.selects "TextMorph$Text" ({ cls := "TextMorph$Text", name := "takeCodes", desc := "([I)V" } : MethodName) ({ cls := "TextMorph$Text", name := "takeCodes", desc := "([I)V" } : MethodName) ∈ xTb := tb 652 (by decide +kernel) rfl
theorem tw653 : Cond.code ({ cls := "TextMorph$Text", name := "takeCodes", desc := "([I)V" } : MethodName) prog_7_method_3_code (2 : Nat) (Option.none : Option FieldType) ∈ xTb := tb 653 (by decide +kernel) rfl
theorem tw654 : Cond.methodLink "TextMorph$Text" (34 : Nat) ({ cls := "TextMorph$Text", name := "numberLetters", desc := "()V" } : MethodName) ∈ xTb := tb 654 (by decide +kernel) rfl
theorem tw656 : Cond.instanceMethod ({ cls := "TextMorph$Text", name := "numberLetters", desc := "()V" } : MethodName) ∈ xTb := tb 656 (by decide +kernel) rfl
theorem tw657 : Cond.code ({ cls := "TextMorph$Text", name := "numberLetters", desc := "()V" } : MethodName) prog_7_method_9_code (2 : Nat) (Option.none : Option FieldType) ∈ xTb := tb 657 (by decide +kernel) rfl
theorem tw661 : Cond.classLink "TextMorphLaw" (25 : Nat) "java/lang/IllegalStateException" ∈ xTb := tb 661 (by decide +kernel) rfl
theorem tw662 : Cond.methodLink "TextMorphLaw" (21 : Nat) ({ cls := "TextMorph", name := "put", desc := "(IIII)I" } : MethodName) ∈ xTb := tb 662 (by decide +kernel) rfl
theorem tw663 : Cond.instanceMethod ({ cls := "TextMorph", name := "put", desc := "(IIII)I" } : MethodName) ∈ xTb := tb 663 (by decide +kernel) rfl
theorem tw664 : Cond.selects "TextMorph" ({ cls := "TextMorph", name := "put", desc := "(IIII)I" } : MethodName) ({ cls := "TextMorph", name := "put", desc := "(IIII)I" } : MethodName) ∈ xTb := tb 664 (by decide +kernel) rfl
theorem tw665 : Cond.code ({ cls := "TextMorph", name := "put", desc := "(IIII)I" } : MethodName) prog_1_method_5_code (7 : Nat) (Option.some FieldType.int) ∈ xTb := tb 665 (by decide +kernel) rfl
theorem tw666 : Cond.methodLink "TextMorph" (110 : Nat) ({ cls := "TextMorph", name := "isCell", desc := "(II)Z" } : MethodName) ∈ xTb := tb 666 (by decide +kernel) rfl
theorem tw667 : Cond.static ({ cls := "TextMorph", name := "isCell", desc := "(II)Z" } : MethodName) ∈ xTb := tb 667 (by decide +kernel) rfl
theorem tw668 : Cond.code ({ cls := "TextMorph", name := "isCell", desc := "(II)Z" } : MethodName) prog_1_method_32_code (2 : Nat) (Option.some FieldType.boolean) ∈ xTb := tb 668 (by decide +kernel) rfl
theorem tw670 : Cond.methodLink "TextMorph" (115 : Nat) ({ cls := "TextMorph", name := "isLetter", desc := "(I)Z" } : MethodName) ∈ xTb := tb 670 (by decide +kernel) rfl
theorem tw672 : Cond.classLink "TextMorph" (123 : Nat) "java/lang/IllegalStateException" ∈ xTb := tb 672 (by decide +kernel) rfl
theorem tw688 : Cond.methodLink "TextMorph" (128 : Nat) ({ cls := "TextMorph$Text", name := "write", desc := "(II)V" } : MethodName) ∈ xTb := tb 688 (by decide +kernel) rfl
theorem tw689 : Cond.instanceMethod ({ cls := "TextMorph$Text", name := "write", desc := "(II)V" } : MethodName) ∈ xTb := tb 689 (by decide +kernel) rfl
theorem tw690 : Cond.selects "TextMorph$Text" ({ cls := "TextMorph$Text", name := "write", desc := "(II)V" } : MethodName) ({ cls := "TextMorph$Text", name := "write", desc := "(II)V" } : MethodName) ∈ xTb := tb 690 (by decide +kernel) rfl
theorem tw691 : Cond.code ({ cls := "TextMorph$Text", name := "write", desc := "(II)V" } : MethodName) prog_7_method_5_code (3 : Nat) (Option.none : Option FieldType) ∈ xTb := tb 691 (by decide +kernel) rfl
theorem tw695 : Cond.methodLink "TextMorphLaw" (27 : Nat) ({ cls := "TextMorph", name := "undo", desc := "()I" } : MethodName) ∈ xTb := tb 695 (by decide +kernel) rfl
theorem tw696 : Cond.instanceMethod ({ cls := "TextMorph", name := "undo", desc := "()I" } : MethodName) ∈ xTb := tb 696 (by decide +kernel) rfl
theorem tw697 : Cond.selects "TextMorph" ({ cls := "TextMorph", name := "undo", desc := "()I" } : MethodName) ({ cls := "TextMorph", name := "undo", desc := "()I" } : MethodName) ∈ xTb := tb 697 (by decide +kernel) rfl
theorem tw698 : Cond.code ({ cls := "TextMorph", name := "undo", desc := "()I" } : MethodName) prog_1_method_7_code (1 : Nat) (Option.some FieldType.int) ∈ xTb := tb 698 (by decide +kernel) rfl
theorem tw703 : Cond.methodLink "TextMorphLaw" (31 : Nat) ({ cls := "TextMorph", name := "append", desc := "(I)I" } : MethodName) ∈ xTb := tb 703 (by decide +kernel) rfl
theorem tw704 : Cond.instanceMethod ({ cls := "TextMorph", name := "append", desc := "(I)I" } : MethodName) ∈ xTb := tb 704 (by decide +kernel) rfl
theorem tw705 : Cond.selects "TextMorph" ({ cls := "TextMorph", name := "append", desc := "(I)I" } : MethodName) ({ cls := "TextMorph", name := "append", desc := "(I)I" } : MethodName) ∈ xTb := tb 705 (by decide +kernel) rfl
theorem tw706 : Cond.code ({ cls := "TextMorph", name := "append", desc := "(I)I" } : MethodName) prog_1_method_8_code (2 : Nat) (Option.some FieldType.int) ∈ xTb := tb 706 (by decide +kernel) rfl
theorem tw712 : Cond.methodLink "TextMorphLaw" (34 : Nat) ({ cls := "TextMorph", name := "letter", desc := "(III)I" } : MethodName) ∈ xTb := tb 712 (by decide +kernel) rfl
theorem tw713 : Cond.instanceMethod ({ cls := "TextMorph", name := "letter", desc := "(III)I" } : MethodName) ∈ xTb := tb 713 (by decide +kernel) rfl
theorem tw714 : Cond.selects "TextMorph" ({ cls := "TextMorph", name := "letter", desc := "(III)I" } : MethodName) ({ cls := "TextMorph", name := "letter", desc := "(III)I" } : MethodName) ∈ xTb := tb 714 (by decide +kernel) rfl
theorem tw715 : Cond.code ({ cls := "TextMorph", name := "letter", desc := "(III)I" } : MethodName) prog_1_method_11_code (4 : Nat) (Option.some FieldType.int) ∈ xTb := tb 715 (by decide +kernel) rfl
theorem tw721 : Cond.methodLink "TextMorphLaw" (38 : Nat) ({ cls := "TextMorph", name := "way", desc := "(II)I" } : MethodName) ∈ xTb := tb 721 (by decide +kernel) rfl
theorem tw722 : Cond.instanceMethod ({ cls := "TextMorph", name := "way", desc := "(II)I" } : MethodName) ∈ xTb := tb 722 (by decide +kernel) rfl
theorem tw723 : Cond.selects "TextMorph" ({ cls := "TextMorph", name := "way", desc := "(II)I" } : MethodName) ({ cls := "TextMorph", name := "way", desc := "(II)I" } : MethodName) ∈ xTb := tb 723 (by decide +kernel) rfl
theorem tw724 : Cond.code ({ cls := "TextMorph", name := "way", desc := "(II)I" } : MethodName) prog_1_method_12_code (3 : Nat) (Option.some FieldType.int) ∈ xTb := tb 724 (by decide +kernel) rfl
theorem tw725 : Cond.methodLink "TextMorph" (161 : Nat) ({ cls := "TextMorph", name := "isPiece", desc := "(I)Z" } : MethodName) ∈ xTb := tb 725 (by decide +kernel) rfl
theorem tw727 : Cond.instanceMethod ({ cls := "TextMorph", name := "isPiece", desc := "(I)Z" } : MethodName) ∈ xTb := tb 727 (by decide +kernel) rfl
theorem tw728 : Cond.code ({ cls := "TextMorph", name := "isPiece", desc := "(I)Z" } : MethodName) prog_1_method_30_code (2 : Nat) (Option.some FieldType.boolean) ∈ xTb := tb 728 (by decide +kernel) rfl
theorem tw733 : Cond.methodLink "TextMorphLaw" (41 : Nat) ({ cls := "TextMorph", name := "at", desc := "(III)I" } : MethodName) ∈ xTb := tb 733 (by decide +kernel) rfl
theorem tw734 : Cond.instanceMethod ({ cls := "TextMorph", name := "at", desc := "(III)I" } : MethodName) ∈ xTb := tb 734 (by decide +kernel) rfl
theorem tw735 : Cond.selects "TextMorph" ({ cls := "TextMorph", name := "at", desc := "(III)I" } : MethodName) ({ cls := "TextMorph", name := "at", desc := "(III)I" } : MethodName) ∈ xTb := tb 735 (by decide +kernel) rfl
theorem tw736 : Cond.code ({ cls := "TextMorph", name := "at", desc := "(III)I" } : MethodName) prog_1_method_13_code (4 : Nat) (Option.some FieldType.int) ∈ xTb := tb 736 (by decide +kernel) rfl
theorem tw737 : Cond.methodLink "TextMorph" (170 : Nat) ({ cls := "TextMorph", name := "isFrame", desc := "(I)Z" } : MethodName) ∈ xTb := tb 737 (by decide +kernel) rfl
theorem tw739 : Cond.instanceMethod ({ cls := "TextMorph", name := "isFrame", desc := "(I)Z" } : MethodName) ∈ xTb := tb 739 (by decide +kernel) rfl
theorem tw740 : Cond.code ({ cls := "TextMorph", name := "isFrame", desc := "(I)Z" } : MethodName) prog_1_method_29_code (2 : Nat) (Option.some FieldType.boolean) ∈ xTb := tb 740 (by decide +kernel) rfl
theorem tw745 : Cond.methodLink "TextMorphLaw" (44 : Nat) ({ cls := "TextMorph", name := "place", desc := "(II)I" } : MethodName) ∈ xTb := tb 745 (by decide +kernel) rfl
theorem tw746 : Cond.instanceMethod ({ cls := "TextMorph", name := "place", desc := "(II)I" } : MethodName) ∈ xTb := tb 746 (by decide +kernel) rfl
theorem tw747 : Cond.selects "TextMorph" ({ cls := "TextMorph", name := "place", desc := "(II)I" } : MethodName) ({ cls := "TextMorph", name := "place", desc := "(II)I" } : MethodName) ∈ xTb := tb 747 (by decide +kernel) rfl
theorem tw748 : Cond.code ({ cls := "TextMorph", name := "place", desc := "(II)I" } : MethodName) prog_1_method_14_code (3 : Nat) (Option.some FieldType.int) ∈ xTb := tb 748 (by decide +kernel) rfl
theorem tw750 : Cond.methodLink "TextMorph" (180 : Nat) ({ cls := "TextMorph$Morph", name := "cellOf", desc := "(II)I" } : MethodName) ∈ xTb := tb 750 (by decide +kernel) rfl
theorem tw754 : Cond.methodLink "TextMorphLaw" (47 : Nat) ({ cls := "TextMorph", name := "frame", desc := "(II)I" } : MethodName) ∈ xTb := tb 754 (by decide +kernel) rfl
theorem tw755 : Cond.instanceMethod ({ cls := "TextMorph", name := "frame", desc := "(II)I" } : MethodName) ∈ xTb := tb 755 (by decide +kernel) rfl
theorem tw756 : Cond.selects "TextMorph" ({ cls := "TextMorph", name := "frame", desc := "(II)I" } : MethodName) ({ cls := "TextMorph", name := "frame", desc := "(II)I" } : MethodName) ∈ xTb := tb 756 (by decide +kernel) rfl
theorem tw757 : Cond.code ({ cls := "TextMorph", name := "frame", desc := "(II)I" } : MethodName) prog_1_method_15_code (3 : Nat) (Option.some FieldType.int) ∈ xTb := tb 757 (by decide +kernel) rfl
theorem tw762 : Cond.methodLink "TextMorphLaw" (50 : Nat) ({ cls := "TextMorph", name := "count", desc := "(I)I" } : MethodName) ∈ xTb := tb 762 (by decide +kernel) rfl
theorem tw763 : Cond.instanceMethod ({ cls := "TextMorph", name := "count", desc := "(I)I" } : MethodName) ∈ xTb := tb 763 (by decide +kernel) rfl
theorem tw764 : Cond.selects "TextMorph" ({ cls := "TextMorph", name := "count", desc := "(I)I" } : MethodName) ({ cls := "TextMorph", name := "count", desc := "(I)I" } : MethodName) ∈ xTb := tb 764 (by decide +kernel) rfl
theorem tw765 : Cond.code ({ cls := "TextMorph", name := "count", desc := "(I)I" } : MethodName) prog_1_method_16_code (2 : Nat) (Option.some FieldType.int) ∈ xTb := tb 765 (by decide +kernel) rfl
theorem tw770 : Cond.methodLink "TextMorphLaw" (53 : Nat) ({ cls := "TextMorph", name := "setting", desc := "(I)I" } : MethodName) ∈ xTb := tb 770 (by decide +kernel) rfl
theorem tw771 : Cond.instanceMethod ({ cls := "TextMorph", name := "setting", desc := "(I)I" } : MethodName) ∈ xTb := tb 771 (by decide +kernel) rfl
theorem tw772 : Cond.selects "TextMorph" ({ cls := "TextMorph", name := "setting", desc := "(I)I" } : MethodName) ({ cls := "TextMorph", name := "setting", desc := "(I)I" } : MethodName) ∈ xTb := tb 772 (by decide +kernel) rfl
theorem tw773 : Cond.code ({ cls := "TextMorph", name := "setting", desc := "(I)I" } : MethodName) prog_1_method_17_code (2 : Nat) (Option.some FieldType.int) ∈ xTb := tb 773 (by decide +kernel) rfl
theorem tw777 : Cond.methodLink "TextMorphLaw" (56 : Nat) ({ cls := "TextMorph", name := "ifSet", desc := "(III)I" } : MethodName) ∈ xTb := tb 777 (by decide +kernel) rfl
theorem tw778 : Cond.instanceMethod ({ cls := "TextMorph", name := "ifSet", desc := "(III)I" } : MethodName) ∈ xTb := tb 778 (by decide +kernel) rfl
theorem tw779 : Cond.selects "TextMorph" ({ cls := "TextMorph", name := "ifSet", desc := "(III)I" } : MethodName) ({ cls := "TextMorph", name := "ifSet", desc := "(III)I" } : MethodName) ∈ xTb := tb 779 (by decide +kernel) rfl
theorem tw780 : Cond.code ({ cls := "TextMorph", name := "ifSet", desc := "(III)I" } : MethodName) prog_1_method_18_code (4 : Nat) (Option.some FieldType.int) ∈ xTb := tb 780 (by decide +kernel) rfl
theorem tw787 : Cond.methodLink "TextMorphModel" (1 : Nat) ({ cls := "java/lang/Object", name := "<init>", desc := "()V" } : MethodName) ∈ xTb := tb 787 (by decide +kernel) rfl
theorem tw788 : Cond.methodLink "TextMorphModel" (58 : Nat) ({ cls := "TextMorphModel", name := "fresh", desc := "()V" } : MethodName) ∈ xTb := tb 788 (by decide +kernel) rfl
theorem tw790 : Cond.instanceMethod ({ cls := "TextMorphModel", name := "fresh", desc := "()V" } : MethodName) ∈ xTb := tb 790 (by decide +kernel) rfl
theorem tw791 : Cond.code ({ cls := "TextMorphModel", name := "fresh", desc := "()V" } : MethodName) prog_9_method_4_code (2 : Nat) (Option.none : Option FieldType) ∈ xTb := tb 791 (by decide +kernel) rfl
theorem tw792 : Cond.fieldLink "TextMorphModel" (61 : Nat) "TextMorphModel" "thrown" "I" ∈ xTb := tb 792 (by decide +kernel) rfl
theorem tw793 : Cond.fieldLink "TextMorphModel" (7 : Nat) "TextMorphModel" "z" "[I" ∈ xTb := tb 793 (by decide +kernel) rfl
theorem tw794 : Cond.fieldLink "TextMorphModel" (143 : Nat) "TextMorphModel" "saves" "I" ∈ xTb := tb 794 (by decide +kernel) rfl
theorem tw795 : Cond.fieldLink "TextMorphModel" (13 : Nat) "TextMorphModel" "saved" "[I" ∈ xTb := tb 795 (by decide +kernel) rfl
theorem tw796 : Cond.fieldLink "TextMorphModel" (176 : Nat) "TextMorphModel" "length" "I" ∈ xTb := tb 796 (by decide +kernel) rfl
theorem tw797 : Cond.fieldLink "TextMorphModel" (16 : Nat) "TextMorphModel" "text" "[I" ∈ xTb := tb 797 (by decide +kernel) rfl
theorem tw798 : Cond.fieldLink "TextMorphModel" (19 : Nat) "TextMorphModel" "many" "[I" ∈ xTb := tb 798 (by decide +kernel) rfl
theorem tw799 : Cond.fieldLink "TextMorphModel" (22 : Nat) "TextMorphModel" "cellOf" "[I" ∈ xTb := tb 799 (by decide +kernel) rfl
theorem tw800 : Cond.fieldLink "TextMorphModel" (25 : Nat) "TextMorphModel" "codeOf" "[I" ∈ xTb := tb 800 (by decide +kernel) rfl
theorem tw801 : Cond.fieldLink "TextMorphModel" (28 : Nat) "TextMorphModel" "partner" "[I" ∈ xTb := tb 801 (by decide +kernel) rfl
theorem tw802 : Cond.fieldLink "TextMorphModel" (31 : Nat) "TextMorphModel" "kindOf" "[I" ∈ xTb := tb 802 (by decide +kernel) rfl
theorem tw803 : Cond.fieldLink "TextMorphModel" (34 : Nat) "TextMorphModel" "longest" "[I" ∈ xTb := tb 803 (by decide +kernel) rfl
theorem tw804 : Cond.fieldLink "TextMorphModel" (101 : Nat) "TextMorphModel" "moving" "I" ∈ xTb := tb 804 (by decide +kernel) rfl
theorem tw805 : Cond.fieldLink "TextMorphModel" (37 : Nat) "TextMorphModel" "spot" "[I" ∈ xTb := tb 805 (by decide +kernel) rfl
theorem tw806 : Cond.fieldLink "TextMorphModel" (40 : Nat) "TextMorphModel" "heldIn" "[I" ∈ xTb := tb 806 (by decide +kernel) rfl
theorem tw807 : Cond.fieldLink "TextMorphModel" (43 : Nat) "TextMorphModel" "heldSum" "[I" ∈ xTb := tb 807 (by decide +kernel) rfl
theorem tw808 : Cond.fieldLink "TextMorphModel" (46 : Nat) "TextMorphModel" "heldNow" "[I" ∈ xTb := tb 808 (by decide +kernel) rfl
theorem tw809 : Cond.fieldLink "TextMorphModel" (49 : Nat) "TextMorphModel" "cell" "[I" ∈ xTb := tb 809 (by decide +kernel) rfl
theorem tw810 : Cond.fieldLink "TextMorphModel" (52 : Nat) "TextMorphModel" "arrives" "[I" ∈ xTb := tb 810 (by decide +kernel) rfl
theorem tw811 : Cond.fieldLink "TextMorphModel" (55 : Nat) "TextMorphModel" "read" "[I" ∈ xTb := tb 811 (by decide +kernel) rfl
theorem tw812 : Cond.fieldLink "TextMorphModel" (224 : Nat) "TextMorphModel" "h" "J" ∈ xTb := tb 812 (by decide +kernel) rfl
theorem tw868 : Cond.methodLink "TextMorphModel" (146 : Nat) ({ cls := "TextMorphModel", name := "save", desc := "()V" } : MethodName) ∈ xTb := tb 868 (by decide +kernel) rfl
theorem tw870 : Cond.instanceMethod ({ cls := "TextMorphModel", name := "save", desc := "()V" } : MethodName) ∈ xTb := tb 870 (by decide +kernel) rfl
theorem tw871 : Cond.code ({ cls := "TextMorphModel", name := "save", desc := "()V" } : MethodName) prog_9_method_31_code (2 : Nat) (Option.none : Option FieldType) ∈ xTb := tb 871 (by decide +kernel) rfl
theorem tw872 : Cond.methodLink "TextMorphModel" (149 : Nat) ({ cls := "TextMorphModel", name := "lettersOf", desc := "(I)I" } : MethodName) ∈ xTb := tb 872 (by decide +kernel) rfl
theorem tw874 : Cond.instanceMethod ({ cls := "TextMorphModel", name := "lettersOf", desc := "(I)I" } : MethodName) ∈ xTb := tb 874 (by decide +kernel) rfl
theorem tw875 : Cond.code ({ cls := "TextMorphModel", name := "lettersOf", desc := "(I)I" } : MethodName) prog_9_method_7_code (4 : Nat) (Option.some FieldType.int) ∈ xTb := tb 875 (by decide +kernel) rfl
theorem tw880 : Cond.methodLink "TextMorphModel" (152 : Nat) ({ cls := "TextMorphModel", name := "isSetting", desc := "(I)Z" } : MethodName) ∈ xTb := tb 880 (by decide +kernel) rfl
theorem tw881 : Cond.static ({ cls := "TextMorphModel", name := "isSetting", desc := "(I)Z" } : MethodName) ∈ xTb := tb 881 (by decide +kernel) rfl
theorem tw882 : Cond.code ({ cls := "TextMorphModel", name := "isSetting", desc := "(I)Z" } : MethodName) prog_9_method_35_code (1 : Nat) (Option.some FieldType.boolean) ∈ xTb := tb 882 (by decide +kernel) rfl
theorem tw883 : Cond.methodLink "TextMorphModel" (65 : Nat) ({ cls := "TextMorphModel", name := "within", desc := "(III)Z" } : MethodName) ∈ xTb := tb 883 (by decide +kernel) rfl
theorem tw884 : Cond.static ({ cls := "TextMorphModel", name := "within", desc := "(III)Z" } : MethodName) ∈ xTb := tb 884 (by decide +kernel) rfl
theorem tw885 : Cond.code ({ cls := "TextMorphModel", name := "within", desc := "(III)Z" } : MethodName) prog_9_method_3_code (3 : Nat) (Option.some FieldType.boolean) ∈ xTb := tb 885 (by decide +kernel) rfl
theorem tw886 : Cond.methodLink "TextMorphModel" (155 : Nat) ({ cls := "TextMorphModel", name := "isValue", desc := "(II)Z" } : MethodName) ∈ xTb := tb 886 (by decide +kernel) rfl
theorem tw887 : Cond.static ({ cls := "TextMorphModel", name := "isValue", desc := "(II)Z" } : MethodName) ∈ xTb := tb 887 (by decide +kernel) rfl
theorem tw888 : Cond.code ({ cls := "TextMorphModel", name := "isValue", desc := "(II)Z" } : MethodName) prog_9_method_34_code (2 : Nat) (Option.some FieldType.boolean) ∈ xTb := tb 888 (by decide +kernel) rfl
theorem tw889 : Cond.methodLink "TextMorphModel" (158 : Nat) ({ cls := "TextMorphModel", name := "replaced", desc := "(II)I" } : MethodName) ∈ xTb := tb 889 (by decide +kernel) rfl
theorem tw891 : Cond.instanceMethod ({ cls := "TextMorphModel", name := "replaced", desc := "(II)I" } : MethodName) ∈ xTb := tb 891 (by decide +kernel) rfl
theorem tw892 : Cond.code ({ cls := "TextMorphModel", name := "replaced", desc := "(II)I" } : MethodName) prog_9_method_36_code (4 : Nat) (Option.some FieldType.int) ∈ xTb := tb 892 (by decide +kernel) rfl
theorem tw897 : Cond.methodLink "TextMorphModel" (161 : Nat) ({ cls := "TextMorphModel", name := "isText", desc := "(I)Z" } : MethodName) ∈ xTb := tb 897 (by decide +kernel) rfl
theorem tw898 : Cond.static ({ cls := "TextMorphModel", name := "isText", desc := "(I)Z" } : MethodName) ∈ xTb := tb 898 (by decide +kernel) rfl
theorem tw899 : Cond.code ({ cls := "TextMorphModel", name := "isText", desc := "(I)Z" } : MethodName) prog_9_method_38_code (1 : Nat) (Option.some FieldType.boolean) ∈ xTb := tb 899 (by decide +kernel) rfl
theorem tw900 : Cond.methodLink "TextMorphModel" (164 : Nat) ({ cls := "TextMorphModel", name := "isCell", desc := "(II)Z" } : MethodName) ∈ xTb := tb 900 (by decide +kernel) rfl
theorem tw901 : Cond.static ({ cls := "TextMorphModel", name := "isCell", desc := "(II)Z" } : MethodName) ∈ xTb := tb 901 (by decide +kernel) rfl
theorem tw902 : Cond.code ({ cls := "TextMorphModel", name := "isCell", desc := "(II)Z" } : MethodName) prog_9_method_39_code (2 : Nat) (Option.some FieldType.boolean) ∈ xTb := tb 902 (by decide +kernel) rfl
theorem tw903 : Cond.methodLink "TextMorphModel" (167 : Nat) ({ cls := "TextMorphModel", name := "isLetter", desc := "(I)Z" } : MethodName) ∈ xTb := tb 903 (by decide +kernel) rfl
theorem tw904 : Cond.static ({ cls := "TextMorphModel", name := "isLetter", desc := "(I)Z" } : MethodName) ∈ xTb := tb 904 (by decide +kernel) rfl
theorem tw905 : Cond.code ({ cls := "TextMorphModel", name := "isLetter", desc := "(I)Z" } : MethodName) prog_9_method_6_code (1 : Nat) (Option.some FieldType.boolean) ∈ xTb := tb 905 (by decide +kernel) rfl
theorem tw910 : Cond.methodLink "TextMorphModel" (170 : Nat) ({ cls := "TextMorphModel", name := "lay", desc := "()V" } : MethodName) ∈ xTb := tb 910 (by decide +kernel) rfl
theorem tw912 : Cond.instanceMethod ({ cls := "TextMorphModel", name := "lay", desc := "()V" } : MethodName) ∈ xTb := tb 912 (by decide +kernel) rfl
theorem tw913 : Cond.code ({ cls := "TextMorphModel", name := "lay", desc := "()V" } : MethodName) prog_9_method_25_code (1 : Nat) (Option.none : Option FieldType) ∈ xTb := tb 913 (by decide +kernel) rfl
theorem tw914 : Cond.methodLink "TextMorphModel" (121 : Nat) ({ cls := "TextMorphModel", name := "layLetters", desc := "()V" } : MethodName) ∈ xTb := tb 914 (by decide +kernel) rfl
theorem tw916 : Cond.instanceMethod ({ cls := "TextMorphModel", name := "layLetters", desc := "()V" } : MethodName) ∈ xTb := tb 916 (by decide +kernel) rfl
theorem tw917 : Cond.code ({ cls := "TextMorphModel", name := "layLetters", desc := "()V" } : MethodName) prog_9_method_8_code (4 : Nat) (Option.none : Option FieldType) ∈ xTb := tb 917 (by decide +kernel) rfl
theorem tw918 : Cond.methodLink "TextMorphModel" (124 : Nat) ({ cls := "TextMorphModel", name := "layCommon", desc := "()V" } : MethodName) ∈ xTb := tb 918 (by decide +kernel) rfl
theorem tw920 : Cond.instanceMethod ({ cls := "TextMorphModel", name := "layCommon", desc := "()V" } : MethodName) ∈ xTb := tb 920 (by decide +kernel) rfl
theorem tw921 : Cond.code ({ cls := "TextMorphModel", name := "layCommon", desc := "()V" } : MethodName) prog_9_method_13_code (6 : Nat) (Option.none : Option FieldType) ∈ xTb := tb 921 (by decide +kernel) rfl
theorem tw922 : Cond.methodLink "TextMorphModel" (76 : Nat) ({ cls := "TextMorphModel", name := "areEqual", desc := "(II)Z" } : MethodName) ∈ xTb := tb 922 (by decide +kernel) rfl
theorem tw924 : Cond.instanceMethod ({ cls := "TextMorphModel", name := "areEqual", desc := "(II)Z" } : MethodName) ∈ xTb := tb 924 (by decide +kernel) rfl
theorem tw925 : Cond.code ({ cls := "TextMorphModel", name := "areEqual", desc := "(II)Z" } : MethodName) prog_9_method_12_code (3 : Nat) (Option.some FieldType.boolean) ∈ xTb := tb 925 (by decide +kernel) rfl
theorem tw926 : Cond.methodLink "TextMorphModel" (80 : Nat) ({ cls := "TextMorphModel", name := "pair", desc := "(III)V" } : MethodName) ∈ xTb := tb 926 (by decide +kernel) rfl
theorem tw928 : Cond.instanceMethod ({ cls := "TextMorphModel", name := "pair", desc := "(III)V" } : MethodName) ∈ xTb := tb 928 (by decide +kernel) rfl
theorem tw929 : Cond.code ({ cls := "TextMorphModel", name := "pair", desc := "(III)V" } : MethodName) prog_9_method_9_code (4 : Nat) (Option.none : Option FieldType) ∈ xTb := tb 929 (by decide +kernel) rfl
theorem tw930 : Cond.methodLink "TextMorphModel" (127 : Nat) ({ cls := "TextMorphModel", name := "layNearest", desc := "(I)V" } : MethodName) ∈ xTb := tb 930 (by decide +kernel) rfl
theorem tw932 : Cond.instanceMethod ({ cls := "TextMorphModel", name := "layNearest", desc := "(I)V" } : MethodName) ∈ xTb := tb 932 (by decide +kernel) rfl
theorem tw933 : Cond.code ({ cls := "TextMorphModel", name := "layNearest", desc := "(I)V" } : MethodName) prog_9_method_15_code (7 : Nat) (Option.none : Option FieldType) ∈ xTb := tb 933 (by decide +kernel) rfl
theorem tw934 : Cond.methodLink "TextMorphModel" (88 : Nat) ({ cls := "TextMorphModel", name := "canPair", desc := "(III)Z" } : MethodName) ∈ xTb := tb 934 (by decide +kernel) rfl
theorem tw936 : Cond.instanceMethod ({ cls := "TextMorphModel", name := "canPair", desc := "(III)Z" } : MethodName) ∈ xTb := tb 936 (by decide +kernel) rfl
theorem tw937 : Cond.code ({ cls := "TextMorphModel", name := "canPair", desc := "(III)Z" } : MethodName) prog_9_method_14_code (7 : Nat) (Option.some FieldType.boolean) ∈ xTb := tb 937 (by decide +kernel) rfl
theorem tw938 : Cond.methodLink "TextMorphModel" (84 : Nat) ({ cls := "TextMorphModel", name := "distance", desc := "(II)I" } : MethodName) ∈ xTb := tb 938 (by decide +kernel) rfl
theorem tw940 : Cond.instanceMethod ({ cls := "TextMorphModel", name := "distance", desc := "(II)I" } : MethodName) ∈ xTb := tb 940 (by decide +kernel) rfl
theorem tw941 : Cond.code ({ cls := "TextMorphModel", name := "distance", desc := "(II)I" } : MethodName) prog_9_method_11_code (5 : Nat) (Option.some FieldType.int) ∈ xTb := tb 941 (by decide +kernel) rfl
theorem tw942 : Cond.methodLink "TextMorphModel" (69 : Nat) ({ cls := "TextMorphModel", name := "size", desc := "(I)I" } : MethodName) ∈ xTb := tb 942 (by decide +kernel) rfl
theorem tw943 : Cond.static ({ cls := "TextMorphModel", name := "size", desc := "(I)I" } : MethodName) ∈ xTb := tb 943 (by decide +kernel) rfl
theorem tw944 : Cond.code ({ cls := "TextMorphModel", name := "size", desc := "(I)I" } : MethodName) prog_9_method_10_code (1 : Nat) (Option.some FieldType.int) ∈ xTb := tb 944 (by decide +kernel) rfl
theorem tw945 : Cond.methodLink "TextMorphModel" (73 : Nat) ({ cls := "TextMorphModel", name := "of", desc := "(I)I" } : MethodName) ∈ xTb := tb 945 (by decide +kernel) rfl
theorem tw947 : Cond.instanceMethod ({ cls := "TextMorphModel", name := "of", desc := "(I)I" } : MethodName) ∈ xTb := tb 947 (by decide +kernel) rfl
theorem tw948 : Cond.code ({ cls := "TextMorphModel", name := "of", desc := "(I)I" } : MethodName) prog_9_method_5_code (2 : Nat) (Option.some FieldType.int) ∈ xTb := tb 948 (by decide +kernel) rfl
theorem tw949 : Cond.methodLink "TextMorphModel" (131 : Nat) ({ cls := "TextMorphModel", name := "layFrames", desc := "()V" } : MethodName) ∈ xTb := tb 949 (by decide +kernel) rfl
theorem tw951 : Cond.instanceMethod ({ cls := "TextMorphModel", name := "layFrames", desc := "()V" } : MethodName) ∈ xTb := tb 951 (by decide +kernel) rfl
theorem tw952 : Cond.code ({ cls := "TextMorphModel", name := "layFrames", desc := "()V" } : MethodName) prog_9_method_24_code (2 : Nat) (Option.none : Option FieldType) ∈ xTb := tb 952 (by decide +kernel) rfl
theorem tw953 : Cond.methodLink "TextMorphModel" (98 : Nat) ({ cls := "TextMorphModel", name := "ofKind", desc := "(II)I" } : MethodName) ∈ xTb := tb 953 (by decide +kernel) rfl
theorem tw955 : Cond.instanceMethod ({ cls := "TextMorphModel", name := "ofKind", desc := "(II)I" } : MethodName) ∈ xTb := tb 955 (by decide +kernel) rfl
theorem tw956 : Cond.code ({ cls := "TextMorphModel", name := "ofKind", desc := "(II)I" } : MethodName) prog_9_method_16_code (5 : Nat) (Option.some FieldType.int) ∈ xTb := tb 956 (by decide +kernel) rfl
theorem tw957 : Cond.methodLink "TextMorphModel" (114 : Nat) ({ cls := "TextMorphModel", name := "layFrame", desc := "()V" } : MethodName) ∈ xTb := tb 957 (by decide +kernel) rfl
theorem tw959 : Cond.instanceMethod ({ cls := "TextMorphModel", name := "layFrame", desc := "()V" } : MethodName) ∈ xTb := tb 959 (by decide +kernel) rfl
theorem tw960 : Cond.code ({ cls := "TextMorphModel", name := "layFrame", desc := "()V" } : MethodName) prog_9_method_23_code (4 : Nat) (Option.none : Option FieldType) ∈ xTb := tb 960 (by decide +kernel) rfl
theorem tw961 : Cond.methodLink "TextMorphModel" (94 : Nat) ({ cls := "TextMorphModel", name := "isGoing", desc := "(I)Z" } : MethodName) ∈ xTb := tb 961 (by decide +kernel) rfl
theorem tw963 : Cond.instanceMethod ({ cls := "TextMorphModel", name := "isGoing", desc := "(I)Z" } : MethodName) ∈ xTb := tb 963 (by decide +kernel) rfl
theorem tw964 : Cond.code ({ cls := "TextMorphModel", name := "isGoing", desc := "(I)Z" } : MethodName) prog_9_method_17_code (2 : Nat) (Option.some FieldType.boolean) ∈ xTb := tb 964 (by decide +kernel) rfl
theorem tw965 : Cond.methodLink "TextMorphModel" (91 : Nat) ({ cls := "TextMorphModel", name := "goal", desc := "(I)I" } : MethodName) ∈ xTb := tb 965 (by decide +kernel) rfl
theorem tw967 : Cond.instanceMethod ({ cls := "TextMorphModel", name := "goal", desc := "(I)I" } : MethodName) ∈ xTb := tb 967 (by decide +kernel) rfl
theorem tw968 : Cond.code ({ cls := "TextMorphModel", name := "goal", desc := "(I)I" } : MethodName) prog_9_method_18_code (2 : Nat) (Option.some FieldType.int) ∈ xTb := tb 968 (by decide +kernel) rfl
theorem tw969 : Cond.methodLink "TextMorphModel" (104 : Nat) ({ cls := "TextMorphModel", name := "nextOf", desc := "(I)I" } : MethodName) ∈ xTb := tb 969 (by decide +kernel) rfl
theorem tw971 : Cond.instanceMethod ({ cls := "TextMorphModel", name := "nextOf", desc := "(I)I" } : MethodName) ∈ xTb := tb 971 (by decide +kernel) rfl
theorem tw972 : Cond.code ({ cls := "TextMorphModel", name := "nextOf", desc := "(I)I" } : MethodName) prog_9_method_20_code (6 : Nat) (Option.some FieldType.int) ∈ xTb := tb 972 (by decide +kernel) rfl
theorem tw973 : Cond.methodLink "TextMorphModel" (107 : Nat) ({ cls := "TextMorphModel", name := "isTaken", desc := "(II)Z" } : MethodName) ∈ xTb := tb 973 (by decide +kernel) rfl
theorem tw975 : Cond.instanceMethod ({ cls := "TextMorphModel", name := "isTaken", desc := "(II)Z" } : MethodName) ∈ xTb := tb 975 (by decide +kernel) rfl
theorem tw976 : Cond.code ({ cls := "TextMorphModel", name := "isTaken", desc := "(II)Z" } : MethodName) prog_9_method_21_code (5 : Nat) (Option.some FieldType.boolean) ∈ xTb := tb 976 (by decide +kernel) rfl
theorem tw977 : Cond.methodLink "TextMorphModel" (110 : Nat) ({ cls := "TextMorphModel", name := "firstMoving", desc := "()I" } : MethodName) ∈ xTb := tb 977 (by decide +kernel) rfl
theorem tw979 : Cond.instanceMethod ({ cls := "TextMorphModel", name := "firstMoving", desc := "()I" } : MethodName) ∈ xTb := tb 979 (by decide +kernel) rfl
theorem tw980 : Cond.code ({ cls := "TextMorphModel", name := "firstMoving", desc := "()I" } : MethodName) prog_9_method_22_code (1 : Nat) (Option.some FieldType.int) ∈ xTb := tb 980 (by decide +kernel) rfl
theorem tw981 : Cond.methodLink "TextMorphModel" (117 : Nat) ({ cls := "TextMorphModel", name := "anyGoes", desc := "()Z" } : MethodName) ∈ xTb := tb 981 (by decide +kernel) rfl
theorem tw983 : Cond.instanceMethod ({ cls := "TextMorphModel", name := "anyGoes", desc := "()Z" } : MethodName) ∈ xTb := tb 983 (by decide +kernel) rfl
theorem tw984 : Cond.code ({ cls := "TextMorphModel", name := "anyGoes", desc := "()Z" } : MethodName) prog_9_method_19_code (3 : Nat) (Option.some FieldType.boolean) ∈ xTb := tb 984 (by decide +kernel) rfl
theorem tw985 : Cond.methodLink "TextMorphModel" (173 : Nat) ({ cls := "TextMorphModel", name := "frames", desc := "()I" } : MethodName) ∈ xTb := tb 985 (by decide +kernel) rfl
theorem tw987 : Cond.instanceMethod ({ cls := "TextMorphModel", name := "frames", desc := "()I" } : MethodName) ∈ xTb := tb 987 (by decide +kernel) rfl
theorem tw988 : Cond.code ({ cls := "TextMorphModel", name := "frames", desc := "()I" } : MethodName) prog_9_method_26_code (1 : Nat) (Option.some FieldType.int) ∈ xTb := tb 988 (by decide +kernel) rfl
theorem tw1001 : Cond.methodLink "TextMorphModel" (179 : Nat) ({ cls := "TextMorphModel", name := "readText", desc := "()I" } : MethodName) ∈ xTb := tb 1001 (by decide +kernel) rfl
theorem tw1003 : Cond.instanceMethod ({ cls := "TextMorphModel", name := "readText", desc := "()I" } : MethodName) ∈ xTb := tb 1003 (by decide +kernel) rfl
theorem tw1004 : Cond.code ({ cls := "TextMorphModel", name := "readText", desc := "()I" } : MethodName) prog_9_method_44_code (8 : Nat) (Option.some FieldType.int) ∈ xTb := tb 1004 (by decide +kernel) rfl
theorem tw1013 : Cond.methodLink "TextMorphModel" (182 : Nat) ({ cls := "TextMorphModel", name := "letterNow", desc := "(III)I" } : MethodName) ∈ xTb := tb 1013 (by decide +kernel) rfl
theorem tw1015 : Cond.instanceMethod ({ cls := "TextMorphModel", name := "letterNow", desc := "(III)I" } : MethodName) ∈ xTb := tb 1015 (by decide +kernel) rfl
theorem tw1016 : Cond.code ({ cls := "TextMorphModel", name := "letterNow", desc := "(III)I" } : MethodName) prog_9_method_47_code (5 : Nat) (Option.some FieldType.int) ∈ xTb := tb 1016 (by decide +kernel) rfl
theorem tw1021 : Cond.methodLink "TextMorphModel" (189 : Nat) ({ cls := "TextMorphModel", name := "wayNow", desc := "(II)I" } : MethodName) ∈ xTb := tb 1021 (by decide +kernel) rfl
theorem tw1023 : Cond.instanceMethod ({ cls := "TextMorphModel", name := "wayNow", desc := "(II)I" } : MethodName) ∈ xTb := tb 1023 (by decide +kernel) rfl
theorem tw1024 : Cond.code ({ cls := "TextMorphModel", name := "wayNow", desc := "(II)I" } : MethodName) prog_9_method_50_code (3 : Nat) (Option.some FieldType.int) ∈ xTb := tb 1024 (by decide +kernel) rfl
theorem tw1025 : Cond.methodLink "TextMorphModel" (186 : Nat) ({ cls := "TextMorphModel", name := "steps", desc := "(I)I" } : MethodName) ∈ xTb := tb 1025 (by decide +kernel) rfl
theorem tw1027 : Cond.instanceMethod ({ cls := "TextMorphModel", name := "steps", desc := "(I)I" } : MethodName) ∈ xTb := tb 1027 (by decide +kernel) rfl
theorem tw1028 : Cond.code ({ cls := "TextMorphModel", name := "steps", desc := "(I)I" } : MethodName) prog_9_method_49_code (4 : Nat) (Option.some FieldType.int) ∈ xTb := tb 1028 (by decide +kernel) rfl
theorem tw1029 : Cond.methodLink "TextMorphModel" (134 : Nat) ({ cls := "TextMorphModel", name := "goneAt", desc := "(I)I" } : MethodName) ∈ xTb := tb 1029 (by decide +kernel) rfl
theorem tw1031 : Cond.instanceMethod ({ cls := "TextMorphModel", name := "goneAt", desc := "(I)I" } : MethodName) ∈ xTb := tb 1031 (by decide +kernel) rfl
theorem tw1032 : Cond.code ({ cls := "TextMorphModel", name := "goneAt", desc := "(I)I" } : MethodName) prog_9_method_27_code (4 : Nat) (Option.some FieldType.int) ∈ xTb := tb 1032 (by decide +kernel) rfl
theorem tw1037 : Cond.methodLink "TextMorphModel" (192 : Nat) ({ cls := "TextMorphModel", name := "isFrame", desc := "(I)Z" } : MethodName) ∈ xTb := tb 1037 (by decide +kernel) rfl
theorem tw1039 : Cond.instanceMethod ({ cls := "TextMorphModel", name := "isFrame", desc := "(I)Z" } : MethodName) ∈ xTb := tb 1039 (by decide +kernel) rfl
theorem tw1040 : Cond.code ({ cls := "TextMorphModel", name := "isFrame", desc := "(I)Z" } : MethodName) prog_9_method_52_code (2 : Nat) (Option.some FieldType.boolean) ∈ xTb := tb 1040 (by decide +kernel) rfl
theorem tw1041 : Cond.methodLink "TextMorphModel" (195 : Nat) ({ cls := "TextMorphModel", name := "shown", desc := "(II)I" } : MethodName) ∈ xTb := tb 1041 (by decide +kernel) rfl
theorem tw1043 : Cond.instanceMethod ({ cls := "TextMorphModel", name := "shown", desc := "(II)I" } : MethodName) ∈ xTb := tb 1043 (by decide +kernel) rfl
theorem tw1044 : Cond.code ({ cls := "TextMorphModel", name := "shown", desc := "(II)I" } : MethodName) prog_9_method_30_code (5 : Nat) (Option.some FieldType.int) ∈ xTb := tb 1044 (by decide +kernel) rfl
theorem tw1045 : Cond.methodLink "TextMorphModel" (137 : Nat) ({ cls := "TextMorphModel", name := "placeIn", desc := "(II)I" } : MethodName) ∈ xTb := tb 1045 (by decide +kernel) rfl
theorem tw1047 : Cond.instanceMethod ({ cls := "TextMorphModel", name := "placeIn", desc := "(II)I" } : MethodName) ∈ xTb := tb 1047 (by decide +kernel) rfl
theorem tw1048 : Cond.code ({ cls := "TextMorphModel", name := "placeIn", desc := "(II)I" } : MethodName) prog_9_method_28_code (4 : Nat) (Option.some FieldType.int) ∈ xTb := tb 1048 (by decide +kernel) rfl
theorem tw1049 : Cond.methodLink "TextMorphModel" (140 : Nat) ({ cls := "TextMorphModel", name := "shownOf", desc := "(II)I" } : MethodName) ∈ xTb := tb 1049 (by decide +kernel) rfl
theorem tw1051 : Cond.instanceMethod ({ cls := "TextMorphModel", name := "shownOf", desc := "(II)I" } : MethodName) ∈ xTb := tb 1051 (by decide +kernel) rfl
theorem tw1052 : Cond.code ({ cls := "TextMorphModel", name := "shownOf", desc := "(II)I" } : MethodName) prog_9_method_29_code (4 : Nat) (Option.some FieldType.int) ∈ xTb := tb 1052 (by decide +kernel) rfl
theorem tw1061 : Cond.methodLink "TextMorphModel" (201 : Nat) ({ cls := "TextMorphModel", name := "frameNow", desc := "(II)I" } : MethodName) ∈ xTb := tb 1061 (by decide +kernel) rfl
theorem tw1063 : Cond.instanceMethod ({ cls := "TextMorphModel", name := "frameNow", desc := "(II)I" } : MethodName) ∈ xTb := tb 1063 (by decide +kernel) rfl
theorem tw1064 : Cond.code ({ cls := "TextMorphModel", name := "frameNow", desc := "(II)I" } : MethodName) prog_9_method_56_code (5 : Nat) (Option.some FieldType.int) ∈ xTb := tb 1064 (by decide +kernel) rfl
theorem tw1065 : Cond.methodLink "TextMorphModel" (198 : Nat) ({ cls := "TextMorphModel", name := "piecesIn", desc := "(II)I" } : MethodName) ∈ xTb := tb 1065 (by decide +kernel) rfl
theorem tw1067 : Cond.instanceMethod ({ cls := "TextMorphModel", name := "piecesIn", desc := "(II)I" } : MethodName) ∈ xTb := tb 1067 (by decide +kernel) rfl
theorem tw1068 : Cond.code ({ cls := "TextMorphModel", name := "piecesIn", desc := "(II)I" } : MethodName) prog_9_method_55_code (5 : Nat) (Option.some FieldType.int) ∈ xTb := tb 1068 (by decide +kernel) rfl
theorem tw1073 : Cond.methodLink "TextMorphModel" (207 : Nat) ({ cls := "TextMorphModel", name := "counted", desc := "(I)I" } : MethodName) ∈ xTb := tb 1073 (by decide +kernel) rfl
theorem tw1075 : Cond.instanceMethod ({ cls := "TextMorphModel", name := "counted", desc := "(I)I" } : MethodName) ∈ xTb := tb 1075 (by decide +kernel) rfl
theorem tw1076 : Cond.code ({ cls := "TextMorphModel", name := "counted", desc := "(I)I" } : MethodName) prog_9_method_59_code (2 : Nat) (Option.some FieldType.int) ∈ xTb := tb 1076 (by decide +kernel) rfl
theorem tw1077 : Cond.methodLink "TextMorphModel" (204 : Nat) ({ cls := "TextMorphModel", name := "sumOf", desc := "(I)I" } : MethodName) ∈ xTb := tb 1077 (by decide +kernel) rfl
theorem tw1079 : Cond.instanceMethod ({ cls := "TextMorphModel", name := "sumOf", desc := "(I)I" } : MethodName) ∈ xTb := tb 1079 (by decide +kernel) rfl
theorem tw1080 : Cond.code ({ cls := "TextMorphModel", name := "sumOf", desc := "(I)I" } : MethodName) prog_9_method_58_code (5 : Nat) (Option.some FieldType.int) ∈ xTb := tb 1080 (by decide +kernel) rfl
theorem tw1089 : Cond.methodLink "TextMorphModel" (210 : Nat) ({ cls := "TextMorphModel", name := "ifNow", desc := "(III)I" } : MethodName) ∈ xTb := tb 1089 (by decide +kernel) rfl
theorem tw1091 : Cond.instanceMethod ({ cls := "TextMorphModel", name := "ifNow", desc := "(III)I" } : MethodName) ∈ xTb := tb 1091 (by decide +kernel) rfl
theorem tw1092 : Cond.code ({ cls := "TextMorphModel", name := "ifNow", desc := "(III)I" } : MethodName) prog_9_method_62_code (6 : Nat) (Option.some FieldType.int) ∈ xTb := tb 1092 (by decide +kernel) rfl
theorem tw1097 : Cond.methodLink "TextMorphModel" (213 : Nat) ({ cls := "TextMorphModel", name := "bestNow", desc := "()I" } : MethodName) ∈ xTb := tb 1097 (by decide +kernel) rfl
theorem tw1099 : Cond.instanceMethod ({ cls := "TextMorphModel", name := "bestNow", desc := "()I" } : MethodName) ∈ xTb := tb 1099 (by decide +kernel) rfl
theorem tw1100 : Cond.code ({ cls := "TextMorphModel", name := "bestNow", desc := "()I" } : MethodName) prog_9_method_64_code (8 : Nat) (Option.some FieldType.int) ∈ xTb := tb 1100 (by decide +kernel) rfl
theorem tw1105 : Cond.methodLink "TextMorphModel" (218 : Nat) ({ cls := "TextMorphModel", name := "likenessNow", desc := "()D" } : MethodName) ∈ xTb := tb 1105 (by decide +kernel) rfl
theorem tw1107 : Cond.instanceMethod ({ cls := "TextMorphModel", name := "likenessNow", desc := "()D" } : MethodName) ∈ xTb := tb 1107 (by decide +kernel) rfl
theorem tw1108 : Cond.code ({ cls := "TextMorphModel", name := "likenessNow", desc := "()D" } : MethodName) prog_9_method_66_code (2 : Nat) (Option.some FieldType.double) ∈ xTb := tb 1108 (by decide +kernel) rfl
theorem tw1109 : Cond.constantDouble "TextMorphModel" (216 : Nat) (4611686018427387904 : UInt64) ∈ xTb := tb 1109 (by decide +kernel) rfl
theorem tw1114 : Cond.constantLong "TextMorphModel" (232 : Nat) (2111 : Int64) ∈ xTb := tb 1114 (by decide +kernel) rfl
theorem tw1115 : Cond.methodLink "TextMorphModel" (228 : Nat) ({ cls := "TextMorphModel", name := "mix", desc := "(J)V" } : MethodName) ∈ xTb := tb 1115 (by decide +kernel) rfl
theorem tw1117 : Cond.instanceMethod ({ cls := "TextMorphModel", name := "mix", desc := "(J)V" } : MethodName) ∈ xTb := tb 1117 (by decide +kernel) rfl
theorem tw1118 : Cond.code ({ cls := "TextMorphModel", name := "mix", desc := "(J)V" } : MethodName) prog_9_method_68_code (3 : Nat) (Option.none : Option FieldType) ∈ xTb := tb 1118 (by decide +kernel) rfl
theorem tw1119 : Cond.constantLong "TextMorphModel" (222 : Nat) (31 : Int64) ∈ xTb := tb 1119 (by decide +kernel) rfl
theorem tw1120 : Cond.methodLink "TextMorphModel" (234 : Nat) ({ cls := "TextMorphModel", name := "mixFrames", desc := "()V" } : MethodName) ∈ xTb := tb 1120 (by decide +kernel) rfl
theorem tw1122 : Cond.instanceMethod ({ cls := "TextMorphModel", name := "mixFrames", desc := "()V" } : MethodName) ∈ xTb := tb 1122 (by decide +kernel) rfl
theorem tw1123 : Cond.code ({ cls := "TextMorphModel", name := "mixFrames", desc := "()V" } : MethodName) prog_9_method_69_code (4 : Nat) (Option.none : Option FieldType) ∈ xTb := tb 1123 (by decide +kernel) rfl
theorem tw1124 : Cond.methodLink "TextMorphModel" (237 : Nat) ({ cls := "java/lang/Double", name := "doubleToLongBits", desc := "(D)J" } : MethodName) ∈ xTb := tb 1124 (by decide +kernel) rfl
theorem tw1125 : Cond.static ({ cls := "java/lang/Double", name := "doubleToLongBits", desc := "(D)J" } : MethodName) ∈ xTb := tb 1125 (by decide +kernel) rfl
theorem tw1126 : Cond.code ({ cls := "java/lang/Double", name := "doubleToLongBits", desc := "(D)J" } : MethodName) prog_10_method_23_code (2 : Nat) (Option.some FieldType.long) ∈ xTb := tb 1126 (by decide +kernel) rfl
theorem tw1127 : Cond.methodLink "java/lang/Double" (122 : Nat) ({ cls := "java/lang/Double", name := "isNaN", desc := "(D)Z" } : MethodName) ∈ xTb := tb 1127 (by decide +kernel) rfl
theorem tw1128 : Cond.static ({ cls := "java/lang/Double", name := "isNaN", desc := "(D)Z" } : MethodName) ∈ xTb := tb 1128 (by decide +kernel) rfl
theorem tw1129 : Cond.code ({ cls := "java/lang/Double", name := "isNaN", desc := "(D)Z" } : MethodName) prog_10_method_6_code (2 : Nat) (Option.some FieldType.boolean) ∈ xTb := tb 1129 (by decide +kernel) rfl
theorem tw1130 : Cond.methodLink "java/lang/Double" (134 : Nat) ({ cls := "java/lang/Double", name := "doubleToRawLongBits", desc := "(D)J" } : MethodName) ∈ xTb := tb 1130 (by decide +kernel) rfl
theorem tw1131 : Cond.static ({ cls := "java/lang/Double", name := "doubleToRawLongBits", desc := "(D)J" } : MethodName) ∈ xTb := tb 1131 (by decide +kernel) rfl
theorem tw1132 : Cond.native ({ cls := "java/lang/Double", name := "doubleToRawLongBits", desc := "(D)J" } : MethodName) ∈ xTb := tb 1132 (by decide +kernel) rfl
theorem tw1133 : Cond.constantLong "java/lang/Double" (137 : Nat) (9221120237041090560 : Int64) ∈ xTb := tb 1133 (by decide +kernel) rfl
end
