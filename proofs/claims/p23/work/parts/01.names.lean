-- ===== PART A: goes FIRST, ahead of the names: the tables' words, and 'selects' of the private methods out of them =====
/-- a private method of a class that the tables say can be made, by its rows of tables_1 -/
def lw_okq (q : MethodName × Nat) : Prop := (q.1.cls ≠ "java/lang/invoke/MethodHandle" ∧ q.1.cls ≠ "java/lang/invoke/VarHandle") ∧ Cond.instantiable q.1.cls q.2 ∈ tables_1 ∧ Cond.privateMethod q.1 ∈ tables_1 ∧ Cond.instanceMethod q.1 ∈ tables_1
theorem lw_p0 : lw_okq (⟨"java/lang/Throwable", "fillInStackTrace", "(I)Ljava/lang/Throwable;"⟩, 6) := ⟨⟨by decide +kernel, by decide +kernel⟩, List.mem_of_getElem? (i := 286) (by decide +kernel), List.mem_of_getElem? (i := 284) (by decide +kernel), List.mem_of_getElem? (i := 285) (by decide +kernel)⟩
theorem lw_p1 : lw_okq (⟨"TextMorph", "refresh", "()V"⟩, 8) := ⟨⟨by decide +kernel, by decide +kernel⟩, List.mem_of_getElem? (i := 18) (by decide +kernel), List.mem_of_getElem? (i := 316) (by decide +kernel), List.mem_of_getElem? (i := 317) (by decide +kernel)⟩
theorem lw_p2 : lw_okq (⟨"TextMorph$Pairs", "unpairAll", "()V"⟩, 7) := ⟨⟨by decide +kernel, by decide +kernel⟩, List.mem_of_getElem? (i := 84) (by decide +kernel), List.mem_of_getElem? (i := 328) (by decide +kernel), List.mem_of_getElem? (i := 329) (by decide +kernel)⟩
theorem lw_p3 : lw_okq (⟨"TextMorph$Pairs", "pairCommon", "()V"⟩, 7) := ⟨⟨by decide +kernel, by decide +kernel⟩, List.mem_of_getElem? (i := 84) (by decide +kernel), List.mem_of_getElem? (i := 337) (by decide +kernel), List.mem_of_getElem? (i := 338) (by decide +kernel)⟩
theorem lw_p4 : lw_okq (⟨"TextMorph$Pairs", "measureLongest", "()V"⟩, 7) := ⟨⟨by decide +kernel, by decide +kernel⟩, List.mem_of_getElem? (i := 84) (by decide +kernel), List.mem_of_getElem? (i := 341) (by decide +kernel), List.mem_of_getElem? (i := 342) (by decide +kernel)⟩
theorem lw_p5 : lw_okq (⟨"TextMorph$Pairs", "partnerThatLeaves", "(III)I"⟩, 7) := ⟨⟨by decide +kernel, by decide +kernel⟩, List.mem_of_getElem? (i := 84) (by decide +kernel), List.mem_of_getElem? (i := 352) (by decide +kernel), List.mem_of_getElem? (i := 353) (by decide +kernel)⟩
theorem lw_p6 : lw_okq (⟨"TextMorph$Pairs", "pair", "(III)V"⟩, 7) := ⟨⟨by decide +kernel, by decide +kernel⟩, List.mem_of_getElem? (i := 84) (by decide +kernel), List.mem_of_getElem? (i := 356) (by decide +kernel), List.mem_of_getElem? (i := 357) (by decide +kernel)⟩
theorem lw_p7 : lw_okq (⟨"TextMorph$Pairs", "pairNearest", "(II)Z"⟩, 7) := ⟨⟨by decide +kernel, by decide +kernel⟩, List.mem_of_getElem? (i := 84) (by decide +kernel), List.mem_of_getElem? (i := 360) (by decide +kernel), List.mem_of_getElem? (i := 361) (by decide +kernel)⟩
theorem lw_p8 : lw_okq (⟨"TextMorph$Pairs", "mayBePaired", "(III)Z"⟩, 7) := ⟨⟨by decide +kernel, by decide +kernel⟩, List.mem_of_getElem? (i := 84) (by decide +kernel), List.mem_of_getElem? (i := 364) (by decide +kernel), List.mem_of_getElem? (i := 365) (by decide +kernel)⟩
theorem lw_p9 : lw_okq (⟨"TextMorph$Motion", "start", "()V"⟩, 13) := ⟨⟨by decide +kernel, by decide +kernel⟩, List.mem_of_getElem? (i := 120) (by decide +kernel), List.mem_of_getElem? (i := 387) (by decide +kernel), List.mem_of_getElem? (i := 388) (by decide +kernel)⟩
theorem lw_p10 : lw_okq (⟨"TextMorph$Motion", "isAway", "(I)Z"⟩, 13) := ⟨⟨by decide +kernel, by decide +kernel⟩, List.mem_of_getElem? (i := 120) (by decide +kernel), List.mem_of_getElem? (i := 393) (by decide +kernel), List.mem_of_getElem? (i := 394) (by decide +kernel)⟩
theorem lw_p11 : lw_okq (⟨"TextMorph$Motion", "record", "(I)V"⟩, 13) := ⟨⟨by decide +kernel, by decide +kernel⟩, List.mem_of_getElem? (i := 120) (by decide +kernel), List.mem_of_getElem? (i := 397) (by decide +kernel), List.mem_of_getElem? (i := 398) (by decide +kernel)⟩
theorem lw_p12 : lw_okq (⟨"TextMorph$Motion", "moveOrHold", "(II)V"⟩, 13) := ⟨⟨by decide +kernel, by decide +kernel⟩, List.mem_of_getElem? (i := 120) (by decide +kernel), List.mem_of_getElem? (i := 402) (by decide +kernel), List.mem_of_getElem? (i := 403) (by decide +kernel)⟩
theorem lw_p13 : lw_okq (⟨"TextMorph$Motion", "nextCell", "(II)I"⟩, 13) := ⟨⟨by decide +kernel, by decide +kernel⟩, List.mem_of_getElem? (i := 120) (by decide +kernel), List.mem_of_getElem? (i := 406) (by decide +kernel), List.mem_of_getElem? (i := 407) (by decide +kernel)⟩
theorem lw_p14 : lw_okq (⟨"TextMorph$Motion", "goesAlongRow", "(II)Z"⟩, 13) := ⟨⟨by decide +kernel, by decide +kernel⟩, List.mem_of_getElem? (i := 120) (by decide +kernel), List.mem_of_getElem? (i := 411) (by decide +kernel), List.mem_of_getElem? (i := 412) (by decide +kernel)⟩
theorem lw_p15 : lw_okq (⟨"TextMorph$Morph", "distancesOfAll", "()I"⟩, 9) := ⟨⟨by decide +kernel, by decide +kernel⟩, List.mem_of_getElem? (i := 78) (by decide +kernel), List.mem_of_getElem? (i := 424) (by decide +kernel), List.mem_of_getElem? (i := 425) (by decide +kernel)⟩
def lw_privs_1 : List (MethodName × Nat) := [(⟨"java/lang/Throwable", "fillInStackTrace", "(I)Ljava/lang/Throwable;"⟩, 6), (⟨"TextMorph", "refresh", "()V"⟩, 8), (⟨"TextMorph$Pairs", "unpairAll", "()V"⟩, 7), (⟨"TextMorph$Pairs", "pairCommon", "()V"⟩, 7), (⟨"TextMorph$Pairs", "measureLongest", "()V"⟩, 7), (⟨"TextMorph$Pairs", "partnerThatLeaves", "(III)I"⟩, 7), (⟨"TextMorph$Pairs", "pair", "(III)V"⟩, 7), (⟨"TextMorph$Pairs", "pairNearest", "(II)Z"⟩, 7), (⟨"TextMorph$Pairs", "mayBePaired", "(III)Z"⟩, 7), (⟨"TextMorph$Motion", "start", "()V"⟩, 13), (⟨"TextMorph$Motion", "isAway", "(I)Z"⟩, 13), (⟨"TextMorph$Motion", "record", "(I)V"⟩, 13), (⟨"TextMorph$Motion", "moveOrHold", "(II)V"⟩, 13), (⟨"TextMorph$Motion", "nextCell", "(II)I"⟩, 13), (⟨"TextMorph$Motion", "goesAlongRow", "(II)Z"⟩, 13), (⟨"TextMorph$Morph", "distancesOfAll", "()I"⟩, 9)]
theorem lw_r1 : ∀ q ∈ lw_privs_1, lw_okq q := List.forall_mem_cons.mpr ⟨lw_p0, List.forall_mem_cons.mpr ⟨lw_p1, List.forall_mem_cons.mpr ⟨lw_p2, List.forall_mem_cons.mpr ⟨lw_p3, List.forall_mem_cons.mpr ⟨lw_p4, List.forall_mem_cons.mpr ⟨lw_p5, List.forall_mem_cons.mpr ⟨lw_p6, List.forall_mem_cons.mpr ⟨lw_p7, List.forall_mem_cons.mpr ⟨lw_p8, List.forall_mem_cons.mpr ⟨lw_p9, List.forall_mem_cons.mpr ⟨lw_p10, List.forall_mem_cons.mpr ⟨lw_p11, List.forall_mem_cons.mpr ⟨lw_p12, List.forall_mem_cons.mpr ⟨lw_p13, List.forall_mem_cons.mpr ⟨lw_p14, List.forall_mem_cons.mpr ⟨lw_p15, fun _ h => absurd h List.not_mem_nil⟩⟩⟩⟩⟩⟩⟩⟩⟩⟩⟩⟩⟩⟩⟩⟩
theorem lw_p16 : lw_okq (⟨"TextMorph$Morph", "vanishes", "(I)Z"⟩, 9) := ⟨⟨by decide +kernel, by decide +kernel⟩, List.mem_of_getElem? (i := 78) (by decide +kernel), List.mem_of_getElem? (i := 428) (by decide +kernel), List.mem_of_getElem? (i := 429) (by decide +kernel)⟩
theorem lw_p17 : lw_okq (⟨"TextMorph$Morph", "stepsOfAll", "()I"⟩, 9) := ⟨⟨by decide +kernel, by decide +kernel⟩, List.mem_of_getElem? (i := 78) (by decide +kernel), List.mem_of_getElem? (i := 433) (by decide +kernel), List.mem_of_getElem? (i := 434) (by decide +kernel)⟩
theorem lw_p18 : lw_okq (⟨"TextMorph$Morph", "steps", "(I)I"⟩, 9) := ⟨⟨by decide +kernel, by decide +kernel⟩, List.mem_of_getElem? (i := 78) (by decide +kernel), List.mem_of_getElem? (i := 437) (by decide +kernel), List.mem_of_getElem? (i := 438) (by decide +kernel)⟩
theorem lw_p19 : lw_okq (⟨"TextMorph", "isFrame", "(I)Z"⟩, 8) := ⟨⟨by decide +kernel, by decide +kernel⟩, List.mem_of_getElem? (i := 18) (by decide +kernel), List.mem_of_getElem? (i := 482) (by decide +kernel), List.mem_of_getElem? (i := 483) (by decide +kernel)⟩
theorem lw_p20 : lw_okq (⟨"TextMorph$Morph", "show", "(I[I)V"⟩, 9) := ⟨⟨by decide +kernel, by decide +kernel⟩, List.mem_of_getElem? (i := 78) (by decide +kernel), List.mem_of_getElem? (i := 510) (by decide +kernel), List.mem_of_getElem? (i := 511) (by decide +kernel)⟩
theorem lw_p21 : lw_okq (⟨"TextMorph$Morph", "isGone", "(II)Z"⟩, 9) := ⟨⟨by decide +kernel, by decide +kernel⟩, List.mem_of_getElem? (i := 78) (by decide +kernel), List.mem_of_getElem? (i := 520) (by decide +kernel), List.mem_of_getElem? (i := 521) (by decide +kernel)⟩
theorem lw_p22 : lw_okq (⟨"TextMorph$Morph", "movedBy", "(I)I"⟩, 9) := ⟨⟨by decide +kernel, by decide +kernel⟩, List.mem_of_getElem? (i := 78) (by decide +kernel), List.mem_of_getElem? (i := 524) (by decide +kernel), List.mem_of_getElem? (i := 525) (by decide +kernel)⟩
theorem lw_p23 : lw_okq (⟨"TextMorph$Morph", "pieceCode", "(II)I"⟩, 9) := ⟨⟨by decide +kernel, by decide +kernel⟩, List.mem_of_getElem? (i := 78) (by decide +kernel), List.mem_of_getElem? (i := 536) (by decide +kernel), List.mem_of_getElem? (i := 537) (by decide +kernel)⟩
theorem lw_p24 : lw_okq (⟨"TextMorph", "isPiece", "(I)Z"⟩, 8) := ⟨⟨by decide +kernel, by decide +kernel⟩, List.mem_of_getElem? (i := 18) (by decide +kernel), List.mem_of_getElem? (i := 549) (by decide +kernel), List.mem_of_getElem? (i := 550) (by decide +kernel)⟩
theorem lw_p25 : lw_okq (⟨"TextMorph$Morph", "cellsWithLetters", "(I)I"⟩, 9) := ⟨⟨by decide +kernel, by decide +kernel⟩, List.mem_of_getElem? (i := 78) (by decide +kernel), List.mem_of_getElem? (i := 566) (by decide +kernel), List.mem_of_getElem? (i := 567) (by decide +kernel)⟩
theorem lw_p26 : lw_okq (⟨"TextMorph$Morph", "cellsThatDiffer", "(I)I"⟩, 9) := ⟨⟨by decide +kernel, by decide +kernel⟩, List.mem_of_getElem? (i := 78) (by decide +kernel), List.mem_of_getElem? (i := 570) (by decide +kernel), List.mem_of_getElem? (i := 571) (by decide +kernel)⟩
theorem lw_p27 : lw_okq (⟨"TextMorph$Morph", "sharedCells", "(I)I"⟩, 9) := ⟨⟨by decide +kernel, by decide +kernel⟩, List.mem_of_getElem? (i := 78) (by decide +kernel), List.mem_of_getElem? (i := 578) (by decide +kernel), List.mem_of_getElem? (i := 579) (by decide +kernel)⟩
theorem lw_p28 : lw_okq (⟨"TextMorph$Morph", "piecesLeft", "(I)I"⟩, 9) := ⟨⟨by decide +kernel, by decide +kernel⟩, List.mem_of_getElem? (i := 78) (by decide +kernel), List.mem_of_getElem? (i := 582) (by decide +kernel), List.mem_of_getElem? (i := 583) (by decide +kernel)⟩
theorem lw_p29 : lw_okq (⟨"TextMorph", "save", "()V"⟩, 8) := ⟨⟨by decide +kernel, by decide +kernel⟩, List.mem_of_getElem? (i := 18) (by decide +kernel), List.mem_of_getElem? (i := 687) (by decide +kernel), List.mem_of_getElem? (i := 688) (by decide +kernel)⟩
theorem lw_p30 : lw_okq (⟨"TextMorph$Text", "numberLetters", "()V"⟩, 3) := ⟨⟨by decide +kernel, by decide +kernel⟩, List.mem_of_getElem? (i := 32) (by decide +kernel), List.mem_of_getElem? (i := 704) (by decide +kernel), List.mem_of_getElem? (i := 705) (by decide +kernel)⟩
def lw_privs_2 : List (MethodName × Nat) := [(⟨"TextMorph$Morph", "vanishes", "(I)Z"⟩, 9), (⟨"TextMorph$Morph", "stepsOfAll", "()I"⟩, 9), (⟨"TextMorph$Morph", "steps", "(I)I"⟩, 9), (⟨"TextMorph", "isFrame", "(I)Z"⟩, 8), (⟨"TextMorph$Morph", "show", "(I[I)V"⟩, 9), (⟨"TextMorph$Morph", "isGone", "(II)Z"⟩, 9), (⟨"TextMorph$Morph", "movedBy", "(I)I"⟩, 9), (⟨"TextMorph$Morph", "pieceCode", "(II)I"⟩, 9), (⟨"TextMorph", "isPiece", "(I)Z"⟩, 8), (⟨"TextMorph$Morph", "cellsWithLetters", "(I)I"⟩, 9), (⟨"TextMorph$Morph", "cellsThatDiffer", "(I)I"⟩, 9), (⟨"TextMorph$Morph", "sharedCells", "(I)I"⟩, 9), (⟨"TextMorph$Morph", "piecesLeft", "(I)I"⟩, 9), (⟨"TextMorph", "save", "()V"⟩, 8), (⟨"TextMorph$Text", "numberLetters", "()V"⟩, 3)]
theorem lw_r2 : ∀ q ∈ lw_privs_2, lw_okq q := List.forall_mem_cons.mpr ⟨lw_p16, List.forall_mem_cons.mpr ⟨lw_p17, List.forall_mem_cons.mpr ⟨lw_p18, List.forall_mem_cons.mpr ⟨lw_p19, List.forall_mem_cons.mpr ⟨lw_p20, List.forall_mem_cons.mpr ⟨lw_p21, List.forall_mem_cons.mpr ⟨lw_p22, List.forall_mem_cons.mpr ⟨lw_p23, List.forall_mem_cons.mpr ⟨lw_p24, List.forall_mem_cons.mpr ⟨lw_p25, List.forall_mem_cons.mpr ⟨lw_p26, List.forall_mem_cons.mpr ⟨lw_p27, List.forall_mem_cons.mpr ⟨lw_p28, List.forall_mem_cons.mpr ⟨lw_p29, List.forall_mem_cons.mpr ⟨lw_p30, fun _ h => absurd h List.not_mem_nil⟩⟩⟩⟩⟩⟩⟩⟩⟩⟩⟩⟩⟩⟩⟩
def lw_privs : List (MethodName × Nat) := lw_privs_1 ++ (lw_privs_2)
def lw_tbl : List Cond := k2_sels lw_privs ++ tables_1
theorem lw_privs_ok : ∀ q ∈ lw_privs, lw_okq q := by
  show ∀ q ∈ lw_privs_1 ++ (lw_privs_2), lw_okq q
  exact List.forall_mem_append.mpr ⟨lw_r1, lw_r2⟩
/-- the streams that the claim lets the run draw from -/
abbrev lw_cs : List Choice := [Jvm.Choice.named "NaN.bits"]
theorem lw_bits : nanBits ∈ lw_cs := by first | decide | exact List.mem_cons_self | simp [lw_cs, nanBits]

def RX0 : String := "TextMorph$Buffer"
def TX0 : u_T := fun k => match k with
  | 0 => ("TextMorph$Buffer", "signs", "[I", true)
  | 1 => ("TextMorph$Buffer", "cells", "[I", true)
  | _ => ("TextMorph$Buffer", "length", "I", false)
def tyX0 : Nat → FieldType := fun k => match k with
  | 0 => .array .int
  | 1 => .array .int
  | _ => .int
abbrev wsX00 : List Cond := u_ws RX0 TX0 3
theorem nmX0 : ∀ a, a < 3 → ∀ b, b < 3 → a ≠ b → (TX0 a).2.1 ≠ (TX0 b).2.1 := by decide +kernel
theorem tyX0_ok : ∀ k, k < 3 → parseFieldDescriptor (TX0 k).2.2.1 = some (tyX0 k) := by decide +kernel
abbrev cX0_init : ByteArray := prog_2_method_1_code
def yX0_init : MethodName := ⟨RX0, "<init>", "()V"⟩
abbrev cX0_read : ByteArray := prog_2_method_2_code
def yX0_read : MethodName := ⟨RX0, "read", "()I"⟩
def RX1 : String := "TextMorph$Morph"
def TX1 : u_T := fun k => match k with
  | 0 => ("TextMorph$Morph", "pairs", "LTextMorph$Pairs;", true)
  | 1 => ("TextMorph$Morph", "motion", "LTextMorph$Motion;", true)
  | 2 => ("TextMorph$Morph", "state", "LTextMorph$State;", true)
  | 3 => ("TextMorph$Morph", "goneFrom", "[I", true)
  | 4 => ("TextMorph$Morph", "thereFrom", "[I", true)
  | 5 => ("TextMorph$Morph", "shown", "[I", true)
  | 6 => ("TextMorph$Morph", "shownBefore", "[I", true)
  | 7 => ("TextMorph$Morph", "piecesIn", "[I", true)
  | _ => ("TextMorph$Morph", "stillFrames", "I", false)
def tyX1 : Nat → FieldType := fun k => match k with
  | 0 => .object "TextMorph$Pairs"
  | 1 => .object "TextMorph$Motion"
  | 2 => .object "TextMorph$State"
  | 3 => .array .int
  | 4 => .array .int
  | 5 => .array .int
  | 6 => .array .int
  | 7 => .array .int
  | _ => .int
abbrev wsX10 : List Cond := u_ws RX1 TX1 9
theorem nmX1 : ∀ a, a < 9 → ∀ b, b < 9 → a ≠ b → (TX1 a).2.1 ≠ (TX1 b).2.1 := by decide +kernel
theorem tyX1_ok : ∀ k, k < 9 → parseFieldDescriptor (TX1 k).2.2.1 = some (tyX1 k) := by decide +kernel
abbrev cX1_init : ByteArray := prog_3_method_1_code
def yX1_init : MethodName := ⟨RX1, "<init>", "(LTextMorph$State;)V"⟩
abbrev cX1_work : ByteArray := prog_3_method_2_code
def yX1_work : MethodName := ⟨RX1, "work", "()V"⟩
abbrev cX1_frames : ByteArray := prog_3_method_3_code
def yX1_frames : MethodName := ⟨RX1, "frames", "()I"⟩
abbrev cX1_number : ByteArray := prog_3_method_4_code
def yX1_number : MethodName := ⟨RX1, "number", "(I)I"⟩
abbrev cX1_letterProperty : ByteArray := prog_3_method_5_code
def yX1_letterProperty : MethodName := ⟨RX1, "letterProperty", "(III)I"⟩
abbrev cX1_wayProperty : ByteArray := prog_3_method_6_code
def yX1_wayProperty : MethodName := ⟨RX1, "wayProperty", "(II)I"⟩
abbrev cX1_cellOf : ByteArray := prog_3_method_7_code
def yX1_cellOf : MethodName := ⟨RX1, "cellOf", "(II)I"⟩
abbrev cX1_codeShown : ByteArray := prog_3_method_8_code
def yX1_codeShown : MethodName := ⟨RX1, "codeShown", "(II)I"⟩
abbrev cX1_frameProperty : ByteArray := prog_3_method_9_code
def yX1_frameProperty : MethodName := ⟨RX1, "frameProperty", "(II)I"⟩
abbrev cX1_distancesOfAll : ByteArray := prog_3_method_10_code
def yX1_distancesOfAll : MethodName := ⟨RX1, "distancesOfAll", "()I"⟩
abbrev cX1_stepsOfAll : ByteArray := prog_3_method_11_code
def yX1_stepsOfAll : MethodName := ⟨RX1, "stepsOfAll", "()I"⟩
abbrev cX1_steps : ByteArray := prog_3_method_12_code
def yX1_steps : MethodName := ⟨RX1, "steps", "(I)I"⟩
abbrev cX1_vanishes : ByteArray := prog_3_method_13_code
def yX1_vanishes : MethodName := ⟨RX1, "vanishes", "(I)Z"⟩
abbrev cX1_isGone : ByteArray := prog_3_method_14_code
def yX1_isGone : MethodName := ⟨RX1, "isGone", "(II)Z"⟩
abbrev cX1_movedBy : ByteArray := prog_3_method_15_code
def yX1_movedBy : MethodName := ⟨RX1, "movedBy", "(I)I"⟩
abbrev cX1_pieceCode : ByteArray := prog_3_method_16_code
def yX1_pieceCode : MethodName := ⟨RX1, "pieceCode", "(II)I"⟩
abbrev cX1_show : ByteArray := prog_3_method_17_code
def yX1_show : MethodName := ⟨RX1, "show", "(I[I)V"⟩
abbrev cX1_cellsWithLetters : ByteArray := prog_3_method_18_code
def yX1_cellsWithLetters : MethodName := ⟨RX1, "cellsWithLetters", "(I)I"⟩
abbrev cX1_cellsThatDiffer : ByteArray := prog_3_method_19_code
def yX1_cellsThatDiffer : MethodName := ⟨RX1, "cellsThatDiffer", "(I)I"⟩
abbrev cX1_sharedCells : ByteArray := prog_3_method_20_code
def yX1_sharedCells : MethodName := ⟨RX1, "sharedCells", "(I)I"⟩
abbrev cX1_piecesLeft : ByteArray := prog_3_method_21_code
def yX1_piecesLeft : MethodName := ⟨RX1, "piecesLeft", "(I)I"⟩
def RX2 : String := "TextMorph$Motion"
def TX2 : u_T := fun k => match k with
  | 0 => ("TextMorph$Motion", "goals", "[I", true)
  | 1 => ("TextMorph$Motion", "heldFrames", "[I", true)
  | 2 => ("TextMorph$Motion", "arrivals", "[I", true)
  | 3 => ("TextMorph$Motion", "frames", "I", false)
  | 4 => ("TextMorph$Motion", "heldInAll", "I", false)
  | 5 => ("TextMorph$Motion", "state", "LTextMorph$State;", true)
  | 6 => ("TextMorph$Motion", "pairs", "LTextMorph$Pairs;", true)
  | 7 => ("TextMorph$Motion", "cells", "[I", true)
  | 8 => ("TextMorph$Motion", "heldLately", "[I", true)
  | 9 => ("TextMorph$Motion", "piecesIn", "[I", true)
  | 10 => ("TextMorph$Motion", "heldPieces", "[I", true)
  | 11 => ("TextMorph$Motion", "track", "[I", true)
  | _ => ("TextMorph$Motion", "away", "I", false)
def tyX2 : Nat → FieldType := fun k => match k with
  | 0 => .array .int
  | 1 => .array .int
  | 2 => .array .int
  | 3 => .int
  | 4 => .int
  | 5 => .object "TextMorph$State"
  | 6 => .object "TextMorph$Pairs"
  | 7 => .array .int
  | 8 => .array .int
  | 9 => .array .int
  | 10 => .array .int
  | 11 => .array .int
  | _ => .int
abbrev wsX20 : List Cond := u_ws RX2 TX2 13
theorem nmX2 : ∀ a, a < 13 → ∀ b, b < 13 → a ≠ b → (TX2 a).2.1 ≠ (TX2 b).2.1 := by decide +kernel
theorem tyX2_ok : ∀ k, k < 13 → parseFieldDescriptor (TX2 k).2.2.1 = some (tyX2 k) := by decide +kernel
abbrev cX2_init : ByteArray := prog_4_method_1_code
def yX2_init : MethodName := ⟨RX2, "<init>", "(LTextMorph$State;LTextMorph$Pairs;)V"⟩
abbrev cX2_work : ByteArray := prog_4_method_2_code
def yX2_work : MethodName := ⟨RX2, "work", "()V"⟩
abbrev cX2_cellAfter : ByteArray := prog_4_method_3_code
def yX2_cellAfter : MethodName := ⟨RX2, "cellAfter", "(II)I"⟩
abbrev cX2_isAtGoalAfter : ByteArray := prog_4_method_4_code
def yX2_isAtGoalAfter : MethodName := ⟨RX2, "isAtGoalAfter", "(II)Z"⟩
abbrev cX2_heldIn : ByteArray := prog_4_method_5_code
def yX2_heldIn : MethodName := ⟨RX2, "heldIn", "(I)I"⟩
abbrev cX2_start : ByteArray := prog_4_method_6_code
def yX2_start : MethodName := ⟨RX2, "start", "()V"⟩
abbrev cX2_record : ByteArray := prog_4_method_7_code
def yX2_record : MethodName := ⟨RX2, "record", "(I)V"⟩
abbrev cX2_isAway : ByteArray := prog_4_method_8_code
def yX2_isAway : MethodName := ⟨RX2, "isAway", "(I)Z"⟩
abbrev cX2_moveOrHold : ByteArray := prog_4_method_9_code
def yX2_moveOrHold : MethodName := ⟨RX2, "moveOrHold", "(II)V"⟩
abbrev cX2_nextCell : ByteArray := prog_4_method_10_code
def yX2_nextCell : MethodName := ⟨RX2, "nextCell", "(II)I"⟩
abbrev cX2_goesAlongRow : ByteArray := prog_4_method_11_code
def yX2_goesAlongRow : MethodName := ⟨RX2, "goesAlongRow", "(II)Z"⟩
def RX3 : String := "TextMorph$Pairs"
def TX3 : u_T := fun k => match k with
  | 0 => ("TextMorph$Pairs", "partnerOfFirst", "[I", true)
  | 1 => ("TextMorph$Pairs", "partnerOfSecond", "[I", true)
  | 2 => ("TextMorph$Pairs", "kindOfFirst", "[I", true)
  | 3 => ("TextMorph$Pairs", "kindOfSecond", "[I", true)
  | 4 => ("TextMorph$Pairs", "ofKind", "[I", true)
  | 5 => ("TextMorph$Pairs", "state", "LTextMorph$State;", true)
  | _ => ("TextMorph$Pairs", "longest", "[I", true)
def tyX3 : Nat → FieldType := fun k => match k with
  | 0 => .array .int
  | 1 => .array .int
  | 2 => .array .int
  | 3 => .array .int
  | 4 => .array .int
  | 5 => .object "TextMorph$State"
  | _ => .array .int
abbrev wsX30 : List Cond := u_ws RX3 TX3 7
theorem nmX3 : ∀ a, a < 7 → ∀ b, b < 7 → a ≠ b → (TX3 a).2.1 ≠ (TX3 b).2.1 := by decide +kernel
theorem tyX3_ok : ∀ k, k < 7 → parseFieldDescriptor (TX3 k).2.2.1 = some (tyX3 k) := by decide +kernel
abbrev cX3_init : ByteArray := prog_5_method_1_code
def yX3_init : MethodName := ⟨RX3, "<init>", "(LTextMorph$State;)V"⟩
abbrev cX3_work : ByteArray := prog_5_method_2_code
def yX3_work : MethodName := ⟨RX3, "work", "()V"⟩
abbrev cX3_distance : ByteArray := prog_5_method_3_code
def yX3_distance : MethodName := ⟨RX3, "distance", "(II)I"⟩
abbrev cX3_unpairAll : ByteArray := prog_5_method_4_code
def yX3_unpairAll : MethodName := ⟨RX3, "unpairAll", "()V"⟩
abbrev cX3_pair : ByteArray := prog_5_method_5_code
def yX3_pair : MethodName := ⟨RX3, "pair", "(III)V"⟩
abbrev cX3_pairCommon : ByteArray := prog_5_method_6_code
def yX3_pairCommon : MethodName := ⟨RX3, "pairCommon", "()V"⟩
abbrev cX3_measureLongest : ByteArray := prog_5_method_7_code
def yX3_measureLongest : MethodName := ⟨RX3, "measureLongest", "()V"⟩
abbrev cX3_partnerThatLeaves : ByteArray := prog_5_method_8_code
def yX3_partnerThatLeaves : MethodName := ⟨RX3, "partnerThatLeaves", "(III)I"⟩
abbrev cX3_pairNearest : ByteArray := prog_5_method_9_code
def yX3_pairNearest : MethodName := ⟨RX3, "pairNearest", "(II)Z"⟩
abbrev cX3_mayBePaired : ByteArray := prog_5_method_10_code
def yX3_mayBePaired : MethodName := ⟨RX3, "mayBePaired", "(III)Z"⟩
def RX4 : String := "TextMorph$State"
def TX4 : u_T := fun k => match k with
  | 0 => ("TextMorph$State", "settings", "[I", true)
  | 1 => ("TextMorph$State", "first", "LTextMorph$Text;", false)
  | _ => ("TextMorph$State", "second", "LTextMorph$Text;", false)
def tyX4 : Nat → FieldType := fun k => match k with
  | 0 => .array .int
  | 1 => .object "TextMorph$Text"
  | _ => .object "TextMorph$Text"
abbrev wsX40 : List Cond := u_ws RX4 TX4 3
theorem nmX4 : ∀ a, a < 3 → ∀ b, b < 3 → a ≠ b → (TX4 a).2.1 ≠ (TX4 b).2.1 := by decide +kernel
theorem tyX4_ok : ∀ k, k < 3 → parseFieldDescriptor (TX4 k).2.2.1 = some (tyX4 k) := by decide +kernel
abbrev cX4_init : ByteArray := prog_6_method_1_code
def yX4_init : MethodName := ⟨RX4, "<init>", "()V"⟩
abbrev cX4_text : ByteArray := prog_6_method_2_code
def yX4_text : MethodName := ⟨RX4, "text", "(I)LTextMorph$Text;"⟩
abbrev cX4_copyFrom : ByteArray := prog_6_method_4_code
def yX4_copyFrom : MethodName := ⟨RX4, "copyFrom", "(LTextMorph$State;)V"⟩
abbrev cX4_exchangeTexts : ByteArray := prog_6_method_5_code
def yX4_exchangeTexts : MethodName := ⟨RX4, "exchangeTexts", "()V"⟩
def RX5 : String := "TextMorph$Text"
def TX5 : u_T := fun k => match k with
  | 0 => ("TextMorph$Text", "codes", "[I", true)
  | 1 => ("TextMorph$Text", "cells", "[I", true)
  | _ => ("TextMorph$Text", "letters", "I", false)
def tyX5 : Nat → FieldType := fun k => match k with
  | 0 => .array .int
  | 1 => .array .int
  | _ => .int
abbrev wsX50 : List Cond := u_ws RX5 TX5 3
theorem nmX5 : ∀ a, a < 3 → ∀ b, b < 3 → a ≠ b → (TX5 a).2.1 ≠ (TX5 b).2.1 := by decide +kernel
theorem tyX5_ok : ∀ k, k < 3 → parseFieldDescriptor (TX5 k).2.2.1 = some (tyX5 k) := by decide +kernel
abbrev cX5_init : ByteArray := prog_7_method_1_code
def yX5_init : MethodName := ⟨RX5, "<init>", "()V"⟩
abbrev cX5_takeCodes : ByteArray := prog_7_method_3_code
def yX5_takeCodes : MethodName := ⟨RX5, "takeCodes", "([I)V"⟩
abbrev cX5_copyFrom : ByteArray := prog_7_method_4_code
def yX5_copyFrom : MethodName := ⟨RX5, "copyFrom", "(LTextMorph$Text;)V"⟩
abbrev cX5_write : ByteArray := prog_7_method_5_code
def yX5_write : MethodName := ⟨RX5, "write", "(II)V"⟩
abbrev cX5_rowOf : ByteArray := prog_7_method_6_code
def yX5_rowOf : MethodName := ⟨RX5, "rowOf", "(I)I"⟩
abbrev cX5_columnOf : ByteArray := prog_7_method_7_code
def yX5_columnOf : MethodName := ⟨RX5, "columnOf", "(I)I"⟩
abbrev cX5_codeOf : ByteArray := prog_7_method_8_code
def yX5_codeOf : MethodName := ⟨RX5, "codeOf", "(I)I"⟩
abbrev cX5_numberLetters : ByteArray := prog_7_method_9_code
def yX5_numberLetters : MethodName := ⟨RX5, "numberLetters", "()V"⟩
def RX6 : String := "TextMorph"
def TX6 : u_T := fun k => match k with
  | 0 => ("TextMorph", "state", "LTextMorph$State;", true)
  | 1 => ("TextMorph", "morph", "LTextMorph$Morph;", true)
  | 2 => ("TextMorph", "tried", "LTextMorph$State;", true)
  | 3 => ("TextMorph", "trial", "LTextMorph$Morph;", true)
  | 4 => ("TextMorph", "saved", "[LTextMorph$State;", true)
  | 5 => ("TextMorph", "buffer", "LTextMorph$Buffer;", true)
  | 6 => ("TextMorph", "savedStates", "I", false)
  | _ => ("TextMorph", "stale", "Z", false)
def tyX6 : Nat → FieldType := fun k => match k with
  | 0 => .object "TextMorph$State"
  | 1 => .object "TextMorph$Morph"
  | 2 => .object "TextMorph$State"
  | 3 => .object "TextMorph$Morph"
  | 4 => .array (.object "TextMorph$State")
  | 5 => .object "TextMorph$Buffer"
  | 6 => .int
  | _ => .boolean
abbrev wsX60 : List Cond := u_ws RX6 TX6 8
theorem nmX6 : ∀ a, a < 8 → ∀ b, b < 8 → a ≠ b → (TX6 a).2.1 ≠ (TX6 b).2.1 := by decide +kernel
theorem tyX6_ok : ∀ k, k < 8 → parseFieldDescriptor (TX6 k).2.2.1 = some (tyX6 k) := by decide +kernel
abbrev cX6_init : ByteArray := prog_1_method_1_code
def yX6_init : MethodName := ⟨RX6, "<init>", "()V"⟩
abbrev cX6_set : ByteArray := prog_1_method_3_code
def yX6_set : MethodName := ⟨RX6, "set", "(II)I"⟩
abbrev cX6_load : ByteArray := prog_1_method_4_code
def yX6_load : MethodName := ⟨RX6, "load", "(I)I"⟩
abbrev cX6_put : ByteArray := prog_1_method_5_code
def yX6_put : MethodName := ⟨RX6, "put", "(IIII)I"⟩
abbrev cX6_swap : ByteArray := prog_1_method_6_code
def yX6_swap : MethodName := ⟨RX6, "swap", "()I"⟩
abbrev cX6_append : ByteArray := prog_1_method_8_code
def yX6_append : MethodName := ⟨RX6, "append", "(I)I"⟩
abbrev cX6_clearBuffer : ByteArray := prog_1_method_9_code
def yX6_clearBuffer : MethodName := ⟨RX6, "clearBuffer", "()I"⟩
abbrev cX6_firstError : ByteArray := prog_1_method_10_code
def yX6_firstError : MethodName := ⟨RX6, "firstError", "()I"⟩
abbrev cX6_letter : ByteArray := prog_1_method_11_code
def yX6_letter : MethodName := ⟨RX6, "letter", "(III)I"⟩
abbrev cX6_way : ByteArray := prog_1_method_12_code
def yX6_way : MethodName := ⟨RX6, "way", "(II)I"⟩
abbrev cX6_at : ByteArray := prog_1_method_13_code
def yX6_at : MethodName := ⟨RX6, "at", "(III)I"⟩
abbrev cX6_place : ByteArray := prog_1_method_14_code
def yX6_place : MethodName := ⟨RX6, "place", "(II)I"⟩
abbrev cX6_frame : ByteArray := prog_1_method_15_code
def yX6_frame : MethodName := ⟨RX6, "frame", "(II)I"⟩
abbrev cX6_count : ByteArray := prog_1_method_16_code
def yX6_count : MethodName := ⟨RX6, "count", "(I)I"⟩
abbrev cX6_setting : ByteArray := prog_1_method_17_code
def yX6_setting : MethodName := ⟨RX6, "setting", "(I)I"⟩
abbrev cX6_likeness : ByteArray := prog_1_method_20_code
def yX6_likeness : MethodName := ⟨RX6, "likeness", "()D"⟩
abbrev cX6_save : ByteArray := prog_1_method_27_code
def yX6_save : MethodName := ⟨RX6, "save", "()V"⟩
abbrev cX6_refresh : ByteArray := prog_1_method_28_code
def yX6_refresh : MethodName := ⟨RX6, "refresh", "()V"⟩
abbrev cX6_isFrame : ByteArray := prog_1_method_29_code
def yX6_isFrame : MethodName := ⟨RX6, "isFrame", "(I)Z"⟩
abbrev cX6_isPiece : ByteArray := prog_1_method_30_code
def yX6_isPiece : MethodName := ⟨RX6, "isPiece", "(I)Z"⟩
abbrev cX6_isText : ByteArray := prog_1_method_31_code
def yX6_isText : MethodName := ⟨RX6, "isText", "(I)Z"⟩
abbrev cX6_isCell : ByteArray := prog_1_method_32_code
def yX6_isCell : MethodName := ⟨RX6, "isCell", "(II)Z"⟩
abbrev cX6_isLetter : ByteArray := prog_1_method_33_code
def yX6_isLetter : MethodName := ⟨RX6, "isLetter", "(I)Z"⟩
abbrev cX6_isSetting : ByteArray := prog_1_method_34_code
def yX6_isSetting : MethodName := ⟨RX6, "isSetting", "(I)Z"⟩
abbrev cX6_isValue : ByteArray := prog_1_method_35_code
def yX6_isValue : MethodName := ⟨RX6, "isValue", "(II)Z"⟩
def RX7 : String := "TextMorphModel"
def TX7 : u_T := fun k => match k with
  | _ => ("", "", "", false)
def tyX7 : Nat → FieldType := fun k => match k with
  | _ => .int
abbrev wsX70 : List Cond := u_ws RX7 TX7 0
theorem nmX7 : ∀ a, a < 0 → ∀ b, b < 0 → a ≠ b → (TX7 a).2.1 ≠ (TX7 b).2.1 := by decide +kernel
theorem tyX7_ok : ∀ k, k < 0 → parseFieldDescriptor (TX7 k).2.2.1 = some (tyX7 k) := by decide +kernel
def RJx145de : String := "java/io/Serializable"
def TJx145de : u_T := fun k => match k with
  | _ => ("", "", "", false)
def tyJx145de : Nat → FieldType := fun k => match k with
  | _ => .int
abbrev wsJx145de0 : List Cond := u_ws RJx145de TJx145de 0
theorem nmJx145de : ∀ a, a < 0 → ∀ b, b < 0 → a ≠ b → (TJx145de a).2.1 ≠ (TJx145de b).2.1 := by decide +kernel
theorem tyJx145de_ok : ∀ k, k < 0 → parseFieldDescriptor (TJx145de k).2.2.1 = some (tyJx145de k) := by decide +kernel
def RJ9 : String := "java/lang/Math"
def TJ9 : u_T := fun k => match k with
  | _ => ("", "", "", false)
def tyJ9 : Nat → FieldType := fun k => match k with
  | _ => .int
abbrev wsJ90 : List Cond := u_ws RJ9 TJ9 0
theorem nmJ9 : ∀ a, a < 0 → ∀ b, b < 0 → a ≠ b → (TJ9 a).2.1 ≠ (TJ9 b).2.1 := by decide +kernel
theorem tyJ9_ok : ∀ k, k < 0 → parseFieldDescriptor (TJ9 k).2.2.1 = some (tyJ9 k) := by decide +kernel
abbrev cJ9_abs_0f7a4 : ByteArray := prog_14_method_59_code
def yJ9_abs_0f7a4 : MethodName := ⟨RJ9, "abs", "(I)I"⟩
abbrev cJ9_max_7cf53 : ByteArray := prog_14_method_65_code
def yJ9_max_7cf53 : MethodName := ⟨RJ9, "max", "(II)I"⟩
abbrev cJ9_min_7cf53 : ByteArray := prog_14_method_69_code
def yJ9_min_7cf53 : MethodName := ⟨RJ9, "min", "(II)I"⟩
def RJ0 : String := "java/lang/String"
def TJ0 : u_T := fun k => match k with
  | _ => ("", "", "", false)
def tyJ0 : Nat → FieldType := fun k => match k with
  | _ => .int
abbrev wsJ00 : List Cond := u_ws RJ0 TJ0 0
theorem nmJ0 : ∀ a, a < 0 → ∀ b, b < 0 → a ≠ b → (TJ0 a).2.1 ≠ (TJ0 b).2.1 := by decide +kernel
theorem tyJ0_ok : ∀ k, k < 0 → parseFieldDescriptor (TJ0 k).2.2.1 = some (tyJ0 k) := by decide +kernel
def RJ10 : String := "java/lang/System"
def TJ10 : u_T := fun k => match k with
  | _ => ("", "", "", false)
def tyJ10 : Nat → FieldType := fun k => match k with
  | _ => .int
abbrev wsJ100 : List Cond := u_ws RJ10 TJ10 0
theorem nmJ10 : ∀ a, a < 0 → ∀ b, b < 0 → a ≠ b → (TJ10 a).2.1 ≠ (TJ10 b).2.1 := by decide +kernel
theorem tyJ10_ok : ∀ k, k < 0 → parseFieldDescriptor (TJ10 k).2.2.1 = some (tyJ10 k) := by decide +kernel
def RJ7 : String := "java/util/Arrays"
def TJ7 : u_T := fun k => match k with
  | _ => ("", "", "", false)
def tyJ7 : Nat → FieldType := fun k => match k with
  | _ => .int
abbrev wsJ70 : List Cond := u_ws RJ7 TJ7 0
theorem nmJ7 : ∀ a, a < 0 → ∀ b, b < 0 → a ≠ b → (TJ7 a).2.1 ≠ (TJ7 b).2.1 := by decide +kernel
theorem tyJ7_ok : ∀ k, k < 0 → parseFieldDescriptor (TJ7 k).2.2.1 = some (tyJ7 k) := by decide +kernel
abbrev cJ7_fill_53178 : ByteArray := prog_19_method_103_code
def yJ7_fill_53178 : MethodName := ⟨RJ7, "fill", "([II)V"⟩
def RL : String := "TextMorphLaw"
abbrev cL_cell : ByteArray := method_2_code
def yL_cell : MethodName := ⟨RL, "cell", "([II)I"⟩
abbrev cL_at : ByteArray := method_3_code
def yL_at : MethodName := ⟨RL, "at", "(II)I"⟩
abbrev cL_abs : ByteArray := method_4_code
def yL_abs : MethodName := ⟨RL, "abs", "(I)I"⟩
abbrev cL_far : ByteArray := method_5_code
def yL_far : MethodName := ⟨RL, "far", "(II[I[I[I)I"⟩
abbrev cL_common : ByteArray := method_6_code
def yL_common : MethodName := ⟨RL, "common", "([I[I[I[I)V"⟩
abbrev cL_taken : ByteArray := method_7_code
def yL_taken : MethodName := ⟨RL, "taken", "(I[I[I)Z"⟩
abbrev cL_near : ByteArray := method_8_code
def yL_near : MethodName := ⟨RL, "near", "(I[I[I[I[I[I)V"⟩
abbrev cL_pairs : ByteArray := method_9_code
def yL_pairs : MethodName := ⟨RL, "pairs", "([I[I[I[I[I)V"⟩
abbrev cL_many : ByteArray := method_10_code
def yL_many : MethodName := ⟨RL, "many", "(I[I[I)I"⟩
abbrev cL_goes : ByteArray := method_11_code
def yL_goes : MethodName := ⟨RL, "goes", "([I[I[I[I)Z"⟩
abbrev cL_next : ByteArray := method_12_code
def yL_next : MethodName := ⟨RL, "next", "(III)I"⟩
abbrev cL_move : ByteArray := method_13_code
def yL_move : MethodName := ⟨RL, "move", "([I[I[I[I[I[I)I"⟩
abbrev cL_shown : ByteArray := method_14_code
def yL_shown : MethodName := ⟨RL, "shown", "(IIZ[I[I[I[I[I)I"⟩
abbrev cL_frame : ByteArray := method_15_code
def yL_frame : MethodName := ⟨RL, "frame", "(LTextMorph;IIIZI[I[I[I[I[I)Z"⟩
abbrev cL_told : ByteArray := method_16_code
def yL_told : MethodName := ⟨RL, "told", "(LTextMorph;I[I[I[I[I)Z"⟩
abbrev cL_letters : ByteArray := method_17_code
def yL_letters : MethodName := ⟨RL, "letters", "(LTextMorph;[I[I[I[I[I[I[I)Z"⟩
abbrev cL_counts : ByteArray := method_18_code
def yL_counts : MethodName := ⟨RL, "counts", "(LTextMorph;III[I[I[I[I[I[I)Z"⟩
abbrev cL_change : ByteArray := method_19_code
def yL_change : MethodName := ⟨RL, "change", "(III[I[I)I"⟩
abbrev cL_load : ByteArray := method_20_code
def yL_load : MethodName := ⟨RL, "load", "(LTextMorph;III[I[I)Z"⟩
abbrev cL_act : ByteArray := method_21_code
def yL_act : MethodName := ⟨RL, "act", "(LTextMorph;III[I[I[I[I)Z"⟩
abbrev cL_law : ByteArray := code
def yL_law : MethodName := ⟨RL, "law", "([I)Z"⟩
abbrev vwCl : List vw_C := [(RX0, TX0, 3), (RX1, TX1, 9), (RX2, TX2, 13), (RX3, TX3, 7), (RX4, TX4, 3), (RX5, TX5, 3), (RX6, TX6, 8)]
theorem goodIn_sub {big ws : List Cond} (hm : ∀ w ∈ ws, w ∈ big) (h : ws.all goodWord = true) : GoodIn big ws := fun w hw => ⟨hm w hw, good_of_word (List.all_eq_true.mp h w hw)⟩
/-- the two links across the nest -/
def nwM : Cond := Cond.methodLinkNest "TextMorph$Buffer" (28 : Nat) ({ cls := "TextMorph", name := "isLetter", desc := "(I)Z" } : MethodName) "TextMorph"
def nwF : Cond := Cond.fieldLinkNest "TextMorph$State" (25 : Nat) "TextMorph" "VALUE_AT_FIRST" "[I" "TextMorph"
theorem nwM_in : nwM ∈ lw_tbl := List.mem_append_right _ (List.mem_of_getElem? (i := 677) (by decide +kernel))
theorem nwF_in : nwF ∈ lw_tbl := List.mem_append_right _ (List.mem_of_getElem? (i := 58) (by decide +kernel))
/-- words of exceptions that a call doesn't keep by itself, strings, casts that fail -/
def xCd (w : Cond) : Bool := match w with
  | .castable _ _ => true
  | .declares _ => true
  | _ => false
def xEx : List Cond := ([] : List Cond).filter xCd
def xStr : List (Nat × String) := []
def xNc : List (String × String) := []
def NX (s : State) : Prop := ∀ w ∈ xEx, va_Nw w s
def XS (s : State) : Prop := ∀ z ∈ xStr, ∃ a : Nat, vk_R RX6 z.1 z.2 a s
def NC (s : State) : Prop := ∀ z ∈ xNc, va_Nc z.1 z.2 s
theorem xCd_ot {w : Cond} (h : xCd w = true) : w.onTables = true := by
  unfold xCd at h
  split at h
  · rfl
  · rfl
  · cases h
theorem xCd_warm {w : Cond} (h : xCd w = true) {s U : State} (hW : s.WarmedH U.vm) (z : va_Nw w s) : va_Nw w U := by
  have ho := xCd_ot h
  have z1 : w.before #[] s = true := va_Nw.use ho z
  have z2 : w.before #[] (s.setVm U.vm) = true := by
    unfold xCd at h
    split at h
    · rw [Cond.castable_setVm hW.alike]; exact z1
    · rw [Cond.declares_setVm hW.alike]; exact z1
    · cases h
  exact va_Nw.of (A := #[]) ho (va_tabs (A := #[]) (A' := #[]) (u := s.setVm U.vm) ho rfl z2)
def NF (s : State) : Prop := va_Nw nwM s ∧ va_Nw nwF s ∧ NX s ∧ XS s ∧ NC s ∧ va_AO RX4 s
theorem NF.same {u U : State} (h : u.vm = U.vm) (z : NF u) : NF U := ⟨va_Nw.same rfl h z.1, va_Nw.same rfl h z.2.1, fun w hw => va_Nw.same (xCd_ot (List.mem_filter.mp hw).2) h (z.2.2.1 w hw), fun q hq => by obtain ⟨a, ha⟩ := z.2.2.2.1 q hq; exact ⟨a, vk_R.same h.symm ha⟩, fun q hq => (z.2.2.2.2.1 q hq).moved (by rw [h]; exact Vm.Alike.refl _), z.2.2.2.2.2.moved (by rw [h]; exact Vm.Alike.refl _)⟩
theorem NF.warm {s U : State} (hW : s.WarmedH U.vm) (z : NF s) : NF U := ⟨va_Nw.warmM hW z.1, va_Nw.warmF hW z.2.1, fun w hw => xCd_warm (List.mem_filter.mp hw).2 hW (z.2.2.1 w hw), fun q hq => by obtain ⟨a, ha⟩ := z.2.2.2.1 q hq; exact ⟨a, vk_R.warm hW ha⟩, fun q hq => (z.2.2.2.2.1 q hq).moved hW.alike, z.2.2.2.2.2.moved hW.alike⟩
