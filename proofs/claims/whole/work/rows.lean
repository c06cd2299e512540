section
-- ===== PART A: goes FIRST, ahead of the names: the tables' words, and 'selects' of the private methods out of them =====
/-- a private method of a class that the tables say can be made, by its rows of tables_1 -/
def lw_okq (q : MethodName × Nat) : Prop := (q.1.cls ≠ "java/lang/invoke/MethodHandle" ∧ q.1.cls ≠ "java/lang/invoke/VarHandle") ∧ Cond.instantiable q.1.cls q.2 ∈ tables_1 ∧ Cond.privateMethod q.1 ∈ tables_1 ∧ Cond.instanceMethod q.1 ∈ tables_1
theorem lw_p0 : lw_okq (⟨"PaperRepeatsModel", "cells", "()I"⟩, 22) := ⟨⟨by decide +kernel, by decide +kernel⟩, List.mem_of_getElem? (i := 737) (by decide +kernel), List.mem_of_getElem? (i := 823) (by decide +kernel), List.mem_of_getElem? (i := 824) (by decide +kernel)⟩
theorem lw_p1 : lw_okq (⟨"PaperRepeatsModel", "noCell", "(I)Z"⟩, 22) := ⟨⟨by decide +kernel, by decide +kernel⟩, List.mem_of_getElem? (i := 737) (by decide +kernel), List.mem_of_getElem? (i := 831) (by decide +kernel), List.mem_of_getElem? (i := 832) (by decide +kernel)⟩
theorem lw_p2 : lw_okq (⟨"PaperRepeatsModel", "isColour", "(I)Z"⟩, 22) := ⟨⟨by decide +kernel, by decide +kernel⟩, List.mem_of_getElem? (i := 737) (by decide +kernel), List.mem_of_getElem? (i := 835) (by decide +kernel), List.mem_of_getElem? (i := 836) (by decide +kernel)⟩
theorem lw_p3 : lw_okq (⟨"PaperRepeatsModel", "noMove", "(I)Z"⟩, 22) := ⟨⟨by decide +kernel, by decide +kernel⟩, List.mem_of_getElem? (i := 737) (by decide +kernel), List.mem_of_getElem? (i := 856) (by decide +kernel), List.mem_of_getElem? (i := 857) (by decide +kernel)⟩
theorem lw_p4 : lw_okq (⟨"PaperRepeatsModel", "isTurn", "(I)Z"⟩, 22) := ⟨⟨by decide +kernel, by decide +kernel⟩, List.mem_of_getElem? (i := 737) (by decide +kernel), List.mem_of_getElem? (i := 860) (by decide +kernel), List.mem_of_getElem? (i := 861) (by decide +kernel)⟩
theorem lw_p5 : lw_okq (⟨"PaperRepeatsModel", "ledTo", "(II)I"⟩, 22) := ⟨⟨by decide +kernel, by decide +kernel⟩, List.mem_of_getElem? (i := 737) (by decide +kernel), List.mem_of_getElem? (i := 864) (by decide +kernel), List.mem_of_getElem? (i := 865) (by decide +kernel)⟩
theorem lw_p6 : lw_okq (⟨"PaperRepeatsModel", "two", "(II)I"⟩, 22) := ⟨⟨by decide +kernel, by decide +kernel⟩, List.mem_of_getElem? (i := 737) (by decide +kernel), List.mem_of_getElem? (i := 881) (by decide +kernel), List.mem_of_getElem? (i := 882) (by decide +kernel)⟩
theorem lw_p7 : lw_okq (⟨"PaperRepeatsModel", "keepsIt", "(I)Z"⟩, 22) := ⟨⟨by decide +kernel, by decide +kernel⟩, List.mem_of_getElem? (i := 737) (by decide +kernel), List.mem_of_getElem? (i := 900) (by decide +kernel), List.mem_of_getElem? (i := 901) (by decide +kernel)⟩
theorem lw_p8 : lw_okq (⟨"PaperRepeatsModel", "layShifts", "()I"⟩, 22) := ⟨⟨by decide +kernel, by decide +kernel⟩, List.mem_of_getElem? (i := 737) (by decide +kernel), List.mem_of_getElem? (i := 921) (by decide +kernel), List.mem_of_getElem? (i := 922) (by decide +kernel)⟩
theorem lw_p9 : lw_okq (⟨"PaperRepeatsModel", "isMirrored", "(I)Z"⟩, 22) := ⟨⟨by decide +kernel, by decide +kernel⟩, List.mem_of_getElem? (i := 737) (by decide +kernel), List.mem_of_getElem? (i := 930) (by decide +kernel), List.mem_of_getElem? (i := 931) (by decide +kernel)⟩
theorem lw_p10 : lw_okq (⟨"PaperRepeatsModel", "isMirror", "(I)Z"⟩, 22) := ⟨⟨by decide +kernel, by decide +kernel⟩, List.mem_of_getElem? (i := 737) (by decide +kernel), List.mem_of_getElem? (i := 934) (by decide +kernel), List.mem_of_getElem? (i := 935) (by decide +kernel)⟩
theorem lw_p11 : lw_okq (⟨"PaperRepeatsModel", "fits", "(I)Z"⟩, 22) := ⟨⟨by decide +kernel, by decide +kernel⟩, List.mem_of_getElem? (i := 737) (by decide +kernel), List.mem_of_getElem? (i := 946) (by decide +kernel), List.mem_of_getElem? (i := 947) (by decide +kernel)⟩
theorem lw_p12 : lw_okq (⟨"PaperRepeatsModel", "allBehind", "(I)Z"⟩, 22) := ⟨⟨by decide +kernel, by decide +kernel⟩, List.mem_of_getElem? (i := 737) (by decide +kernel), List.mem_of_getElem? (i := 950) (by decide +kernel), List.mem_of_getElem? (i := 951) (by decide +kernel)⟩
theorem lw_p13 : lw_okq (⟨"PaperRepeatsModel", "isBehindShift", "(I)Z"⟩, 22) := ⟨⟨by decide +kernel, by decide +kernel⟩, List.mem_of_getElem? (i := 737) (by decide +kernel), List.mem_of_getElem? (i := 954) (by decide +kernel), List.mem_of_getElem? (i := 955) (by decide +kernel)⟩
theorem lw_p14 : lw_okq (⟨"PaperRepeatsModel", "paintMany", "()I"⟩, 22) := ⟨⟨by decide +kernel, by decide +kernel⟩, List.mem_of_getElem? (i := 737) (by decide +kernel), List.mem_of_getElem? (i := 962) (by decide +kernel), List.mem_of_getElem? (i := 963) (by decide +kernel)⟩
theorem lw_p15 : lw_okq (⟨"PaperRepeatsModel", "noPaint", "(I)Z"⟩, 22) := ⟨⟨by decide +kernel, by decide +kernel⟩, List.mem_of_getElem? (i := 737) (by decide +kernel), List.mem_of_getElem? (i := 970) (by decide +kernel), List.mem_of_getElem? (i := 971) (by decide +kernel)⟩
def lw_privs_1 : List (MethodName × Nat) := [(⟨"PaperRepeatsModel", "cells", "()I"⟩, 22), (⟨"PaperRepeatsModel", "noCell", "(I)Z"⟩, 22), (⟨"PaperRepeatsModel", "isColour", "(I)Z"⟩, 22), (⟨"PaperRepeatsModel", "noMove", "(I)Z"⟩, 22), (⟨"PaperRepeatsModel", "isTurn", "(I)Z"⟩, 22), (⟨"PaperRepeatsModel", "ledTo", "(II)I"⟩, 22), (⟨"PaperRepeatsModel", "two", "(II)I"⟩, 22), (⟨"PaperRepeatsModel", "keepsIt", "(I)Z"⟩, 22), (⟨"PaperRepeatsModel", "layShifts", "()I"⟩, 22), (⟨"PaperRepeatsModel", "isMirrored", "(I)Z"⟩, 22), (⟨"PaperRepeatsModel", "isMirror", "(I)Z"⟩, 22), (⟨"PaperRepeatsModel", "fits", "(I)Z"⟩, 22), (⟨"PaperRepeatsModel", "allBehind", "(I)Z"⟩, 22), (⟨"PaperRepeatsModel", "isBehindShift", "(I)Z"⟩, 22), (⟨"PaperRepeatsModel", "paintMany", "()I"⟩, 22), (⟨"PaperRepeatsModel", "noPaint", "(I)Z"⟩, 22)]
theorem lw_r1 : ∀ q ∈ lw_privs_1, lw_okq q := List.forall_mem_cons.mpr ⟨lw_p0, List.forall_mem_cons.mpr ⟨lw_p1, List.forall_mem_cons.mpr ⟨lw_p2, List.forall_mem_cons.mpr ⟨lw_p3, List.forall_mem_cons.mpr ⟨lw_p4, List.forall_mem_cons.mpr ⟨lw_p5, List.forall_mem_cons.mpr ⟨lw_p6, List.forall_mem_cons.mpr ⟨lw_p7, List.forall_mem_cons.mpr ⟨lw_p8, List.forall_mem_cons.mpr ⟨lw_p9, List.forall_mem_cons.mpr ⟨lw_p10, List.forall_mem_cons.mpr ⟨lw_p11, List.forall_mem_cons.mpr ⟨lw_p12, List.forall_mem_cons.mpr ⟨lw_p13, List.forall_mem_cons.mpr ⟨lw_p14, List.forall_mem_cons.mpr ⟨lw_p15, fun _ h => absurd h List.not_mem_nil⟩⟩⟩⟩⟩⟩⟩⟩⟩⟩⟩⟩⟩⟩⟩⟩
theorem lw_p16 : lw_okq (⟨"PaperRepeatsModel", "lay", "(I)V"⟩, 22) := ⟨⟨by decide +kernel, by decide +kernel⟩, List.mem_of_getElem? (i := 737) (by decide +kernel), List.mem_of_getElem? (i := 974) (by decide +kernel), List.mem_of_getElem? (i := 975) (by decide +kernel)⟩
theorem lw_p17 : lw_okq (⟨"PaperRepeatsModel", "keepsPainted", "(I)Z"⟩, 22) := ⟨⟨by decide +kernel, by decide +kernel⟩, List.mem_of_getElem? (i := 737) (by decide +kernel), List.mem_of_getElem? (i := 982) (by decide +kernel), List.mem_of_getElem? (i := 983) (by decide +kernel)⟩
theorem lw_p18 : lw_okq (⟨"PaperRepeatsModel", "leastPaint", "(I)I"⟩, 22) := ⟨⟨by decide +kernel, by decide +kernel⟩, List.mem_of_getElem? (i := 737) (by decide +kernel), List.mem_of_getElem? (i := 990) (by decide +kernel), List.mem_of_getElem? (i := 991) (by decide +kernel)⟩
theorem lw_p19 : lw_okq (⟨"PaperRepeatsModel", "layRings", "(I)I"⟩, 22) := ⟨⟨by decide +kernel, by decide +kernel⟩, List.mem_of_getElem? (i := 737) (by decide +kernel), List.mem_of_getElem? (i := 1014) (by decide +kernel), List.mem_of_getElem? (i := 1015) (by decide +kernel)⟩
theorem lw_p20 : lw_okq (⟨"PaperRepeatsModel", "mostOf", "(I)I"⟩, 22) := ⟨⟨by decide +kernel, by decide +kernel⟩, List.mem_of_getElem? (i := 737) (by decide +kernel), List.mem_of_getElem? (i := 1026) (by decide +kernel), List.mem_of_getElem? (i := 1027) (by decide +kernel)⟩
theorem lw_p21 : lw_okq (⟨"PaperRepeatsModel", "reckon", "(I)I"⟩, 22) := ⟨⟨by decide +kernel, by decide +kernel⟩, List.mem_of_getElem? (i := 737) (by decide +kernel), List.mem_of_getElem? (i := 1030) (by decide +kernel), List.mem_of_getElem? (i := 1031) (by decide +kernel)⟩
theorem lw_p22 : lw_okq (⟨"PaperRepeatsModel", "power", "(I)J"⟩, 22) := ⟨⟨by decide +kernel, by decide +kernel⟩, List.mem_of_getElem? (i := 737) (by decide +kernel), List.mem_of_getElem? (i := 1047) (by decide +kernel), List.mem_of_getElem? (i := 1048) (by decide +kernel)⟩
theorem lw_p23 : lw_okq (⟨"PaperRepeatsModel", "layFirst", "()I"⟩, 22) := ⟨⟨by decide +kernel, by decide +kernel⟩, List.mem_of_getElem? (i := 737) (by decide +kernel), List.mem_of_getElem? (i := 1063) (by decide +kernel), List.mem_of_getElem? (i := 1064) (by decide +kernel)⟩
theorem lw_p24 : lw_okq (⟨"PaperRepeatsModel", "layPieces", "()V"⟩, 22) := ⟨⟨by decide +kernel, by decide +kernel⟩, List.mem_of_getElem? (i := 737) (by decide +kernel), List.mem_of_getElem? (i := 1075) (by decide +kernel), List.mem_of_getElem? (i := 1076) (by decide +kernel)⟩
def lw_privs_2 : List (MethodName × Nat) := [(⟨"PaperRepeatsModel", "lay", "(I)V"⟩, 22), (⟨"PaperRepeatsModel", "keepsPainted", "(I)Z"⟩, 22), (⟨"PaperRepeatsModel", "leastPaint", "(I)I"⟩, 22), (⟨"PaperRepeatsModel", "layRings", "(I)I"⟩, 22), (⟨"PaperRepeatsModel", "mostOf", "(I)I"⟩, 22), (⟨"PaperRepeatsModel", "reckon", "(I)I"⟩, 22), (⟨"PaperRepeatsModel", "power", "(I)J"⟩, 22), (⟨"PaperRepeatsModel", "layFirst", "()I"⟩, 22), (⟨"PaperRepeatsModel", "layPieces", "()V"⟩, 22)]
theorem lw_r2 : ∀ q ∈ lw_privs_2, lw_okq q := List.forall_mem_cons.mpr ⟨lw_p16, List.forall_mem_cons.mpr ⟨lw_p17, List.forall_mem_cons.mpr ⟨lw_p18, List.forall_mem_cons.mpr ⟨lw_p19, List.forall_mem_cons.mpr ⟨lw_p20, List.forall_mem_cons.mpr ⟨lw_p21, List.forall_mem_cons.mpr ⟨lw_p22, List.forall_mem_cons.mpr ⟨lw_p23, List.forall_mem_cons.mpr ⟨lw_p24, fun _ h => absurd h List.not_mem_nil⟩⟩⟩⟩⟩⟩⟩⟩⟩
def lw_privs : List (MethodName × Nat) := lw_privs_1 ++ (lw_privs_2)
def lw_tbl : List Cond := k2_sels lw_privs ++ tables_1
theorem lw_privs_ok : ∀ q ∈ lw_privs, lw_okq q := by
  show ∀ q ∈ lw_privs_1 ++ (lw_privs_2), lw_okq q
  exact List.forall_mem_append.mpr ⟨lw_r1, lw_r2⟩
end
section
def RX0 : String := "PaperRepeats$Census"
def TX0 : u_T := fun k => match k with
  | 0 => ("PaperRepeats$Census", "grid", "LPaperRepeats$Grid;", true)
  | _ => ("PaperRepeats$Census", "isPassed", "[Z", true)
def tyX0 : Nat → FieldType := fun k => match k with
  | 0 => .object "PaperRepeats$Grid"
  | _ => .array .boolean
abbrev wsX00 : List Cond := u_ws RX0 TX0 2
theorem nmX0 : ∀ a, a < 2 → ∀ b, b < 2 → a ≠ b → (TX0 a).2.1 ≠ (TX0 b).2.1 := by decide +kernel
theorem tyX0_ok : ∀ k, k < 2 → parseFieldDescriptor (TX0 k).2.2.1 = some (tyX0 k) := by decide +kernel
abbrev cX0_init : ByteArray := prog_2_method_1_code
def yX0_init : MethodName := ⟨RX0, "<init>", "(LPaperRepeats$Grid;)V"⟩
abbrev cX0_power : ByteArray := prog_2_method_2_code
def yX0_power : MethodName := ⟨RX0, "power", "(II)J"⟩
abbrev cX0_unlike : ByteArray := prog_2_method_3_code
def yX0_unlike : MethodName := ⟨RX0, "unlike", "(I)J"⟩
abbrev cX0_roundsOf : ByteArray := prog_2_method_4_code
def yX0_roundsOf : MethodName := ⟨RX0, "roundsOf", "(I)I"⟩
abbrev cX0_passRound : ByteArray := prog_2_method_5_code
def yX0_passRound : MethodName := ⟨RX0, "passRound", "(II)V"⟩
def RX1 : String := "PaperRepeats$Grid"
def TX1 : u_T := fun k => match k with
  | 0 => ("PaperRepeats$Grid", "width", "I", false)
  | 1 => ("PaperRepeats$Grid", "height", "I", false)
  | _ => ("PaperRepeats$Grid", "cells", "I", false)
def tyX1 : Nat → FieldType := fun k => match k with
  | 0 => .int
  | 1 => .int
  | _ => .int
abbrev wsX10 : List Cond := u_ws RX1 TX1 3
theorem nmX1 : ∀ a, a < 3 → ∀ b, b < 3 → a ≠ b → (TX1 a).2.1 ≠ (TX1 b).2.1 := by decide +kernel
theorem tyX1_ok : ∀ k, k < 3 → parseFieldDescriptor (TX1 k).2.2.1 = some (tyX1 k) := by decide +kernel
abbrev cX1_init : ByteArray := prog_3_method_1_code
def yX1_init : MethodName := ⟨RX1, "<init>", "()V"⟩
abbrev cX1_resize : ByteArray := prog_3_method_2_code
def yX1_resize : MethodName := ⟨RX1, "resize", "(II)V"⟩
abbrev cX1_hasCell : ByteArray := prog_3_method_3_code
def yX1_hasCell : MethodName := ⟨RX1, "hasCell", "(I)Z"⟩
abbrev cX1_hasTurn : ByteArray := prog_3_method_4_code
def yX1_hasTurn : MethodName := ⟨RX1, "hasTurn", "(I)Z"⟩
abbrev cX1_hasMove : ByteArray := prog_3_method_5_code
def yX1_hasMove : MethodName := ⟨RX1, "hasMove", "(I)Z"⟩
abbrev cX1_numbers : ByteArray := prog_3_method_6_code
def yX1_numbers : MethodName := ⟨RX1, "numbers", "()I"⟩
abbrev cX1_moveCount : ByteArray := prog_3_method_7_code
def yX1_moveCount : MethodName := ⟨RX1, "moveCount", "()I"⟩
abbrev cX1_turnOf : ByteArray := prog_3_method_8_code
def yX1_turnOf : MethodName := ⟨RX1, "turnOf", "(I)I"⟩
abbrev cX1_shiftOf : ByteArray := prog_3_method_9_code
def yX1_shiftOf : MethodName := ⟨RX1, "shiftOf", "(I)I"⟩
abbrev cX1_columnOf : ByteArray := prog_3_method_10_code
def yX1_columnOf : MethodName := ⟨RX1, "columnOf", "(I)I"⟩
abbrev cX1_rowOf : ByteArray := prog_3_method_11_code
def yX1_rowOf : MethodName := ⟨RX1, "rowOf", "(I)I"⟩
abbrev cX1_cellAt : ByteArray := prog_3_method_12_code
def yX1_cellAt : MethodName := ⟨RX1, "cellAt", "(II)I"⟩
abbrev cX1_turnedX : ByteArray := prog_3_method_13_code
def yX1_turnedX : MethodName := ⟨RX1, "turnedX", "(III)I"⟩
abbrev cX1_turnedY : ByteArray := prog_3_method_14_code
def yX1_turnedY : MethodName := ⟨RX1, "turnedY", "(III)I"⟩
abbrev cX1_target : ByteArray := prog_3_method_15_code
def yX1_target : MethodName := ⟨RX1, "target", "(II)I"⟩
abbrev cX1_join : ByteArray := prog_3_method_16_code
def yX1_join : MethodName := ⟨RX1, "join", "(II)I"⟩
abbrev cX1_joinTurns : ByteArray := prog_3_method_17_code
def yX1_joinTurns : MethodName := ⟨RX1, "joinTurns", "(II)I"⟩
abbrev cX1_undoing : ByteArray := prog_3_method_18_code
def yX1_undoing : MethodName := ⟨RX1, "undoing", "(I)I"⟩
abbrev cX1_undoingTurn : ByteArray := prog_3_method_19_code
def yX1_undoingTurn : MethodName := ⟨RX1, "undoingTurn", "(I)I"⟩
abbrev cX1_isStill : ByteArray := prog_3_method_20_code
def yX1_isStill : MethodName := ⟨RX1, "isStill", "(I)Z"⟩
abbrev cX1_timesTillStill : ByteArray := prog_3_method_21_code
def yX1_timesTillStill : MethodName := ⟨RX1, "timesTillStill", "(I)I"⟩
def RX2 : String := "PaperRepeats$Kinds"
def TX2 : u_T := fun k => match k with
  | 0 => ("PaperRepeats$Kinds", "grid", "LPaperRepeats$Grid;", true)
  | _ => ("PaperRepeats$Kinds", "patch", "LPaperRepeats$Patch;", true)
def tyX2 : Nat → FieldType := fun k => match k with
  | 0 => .object "PaperRepeats$Grid"
  | _ => .object "PaperRepeats$Patch"
abbrev wsX20 : List Cond := u_ws RX2 TX2 2
theorem nmX2 : ∀ a, a < 2 → ∀ b, b < 2 → a ≠ b → (TX2 a).2.1 ≠ (TX2 b).2.1 := by decide +kernel
theorem tyX2_ok : ∀ k, k < 2 → parseFieldDescriptor (TX2 k).2.2.1 = some (tyX2 k) := by decide +kernel
abbrev cX2_init : ByteArray := prog_4_method_1_code
def yX2_init : MethodName := ⟨RX2, "<init>", "(LPaperRepeats$Grid;LPaperRepeats$Patch;)V"⟩
abbrev cX2_isMirror : ByteArray := prog_4_method_2_code
def yX2_isMirror : MethodName := ⟨RX2, "isMirror", "(II)Z"⟩
abbrev cX2_isAlong : ByteArray := prog_4_method_3_code
def yX2_isAlong : MethodName := ⟨RX2, "isAlong", "(II)Z"⟩
abbrev cX2_hasMirror : ByteArray := prog_4_method_4_code
def yX2_hasMirror : MethodName := ⟨RX2, "hasMirror", "(I)Z"⟩
abbrev cX2_isMirrorBehindShift : ByteArray := prog_4_method_5_code
def yX2_isMirrorBehindShift : MethodName := ⟨RX2, "isMirrorBehindShift", "(II)Z"⟩
abbrev cX2_allMirrorsBehindShifts : ByteArray := prog_4_method_6_code
def yX2_allMirrorsBehindShifts : MethodName := ⟨RX2, "allMirrorsBehindShifts", "()Z"⟩
abbrev cX2_number : ByteArray := prog_4_method_7_code
def yX2_number : MethodName := ⟨RX2, "number", "()I"⟩
abbrev cX2_kindWithHalf : ByteArray := prog_4_method_8_code
def yX2_kindWithHalf : MethodName := ⟨RX2, "kindWithHalf", "(IZ)I"⟩
abbrev cX2_kindWithoutTurns : ByteArray := prog_4_method_9_code
def yX2_kindWithoutTurns : MethodName := ⟨RX2, "kindWithoutTurns", "(IZ)I"⟩
abbrev cX2_fitCount : ByteArray := prog_4_method_10_code
def yX2_fitCount : MethodName := ⟨RX2, "fitCount", "()I"⟩
abbrev cX2_mirroredCount : ByteArray := prog_4_method_11_code
def yX2_mirroredCount : MethodName := ⟨RX2, "mirroredCount", "()I"⟩
def RX3 : String := "PaperRepeats$Likes"
def TX3 : u_T := fun k => match k with
  | 0 => ("PaperRepeats$Likes", "grid", "LPaperRepeats$Grid;", true)
  | _ => ("PaperRepeats$Likes", "patch", "LPaperRepeats$Patch;", true)
def tyX3 : Nat → FieldType := fun k => match k with
  | 0 => .object "PaperRepeats$Grid"
  | _ => .object "PaperRepeats$Patch"
abbrev wsX30 : List Cond := u_ws RX3 TX3 2
theorem nmX3 : ∀ a, a < 2 → ∀ b, b < 2 → a ≠ b → (TX3 a).2.1 ≠ (TX3 b).2.1 := by decide +kernel
theorem tyX3_ok : ∀ k, k < 2 → parseFieldDescriptor (TX3 k).2.2.1 = some (tyX3 k) := by decide +kernel
abbrev cX3_init : ByteArray := prog_5_method_1_code
def yX3_init : MethodName := ⟨RX3, "<init>", "(LPaperRepeats$Grid;LPaperRepeats$Patch;)V"⟩
abbrev cX3_total : ByteArray := prog_5_method_2_code
def yX3_total : MethodName := ⟨RX3, "total", "()I"⟩
abbrev cX3_hueInFirst : ByteArray := prog_5_method_3_code
def yX3_hueInFirst : MethodName := ⟨RX3, "hueInFirst", "(I)I"⟩
abbrev cX3_moveToFirst : ByteArray := prog_5_method_4_code
def yX3_moveToFirst : MethodName := ⟨RX3, "moveToFirst", "()I"⟩
abbrev cX3_isAhead : ByteArray := prog_5_method_5_code
def yX3_isAhead : MethodName := ⟨RX3, "isAhead", "(II)Z"⟩
def RX4 : String := "PaperRepeats$Paints"
def TX4 : u_T := fun k => match k with
  | 0 => ("PaperRepeats$Paints", "grid", "LPaperRepeats$Grid;", true)
  | 1 => ("PaperRepeats$Paints", "patch", "LPaperRepeats$Patch;", true)
  | _ => ("PaperRepeats$Paints", "asked", "[I", true)
def tyX4 : Nat → FieldType := fun k => match k with
  | 0 => .object "PaperRepeats$Grid"
  | 1 => .object "PaperRepeats$Patch"
  | _ => .array .int
abbrev wsX40 : List Cond := u_ws RX4 TX4 3
theorem nmX4 : ∀ a, a < 3 → ∀ b, b < 3 → a ≠ b → (TX4 a).2.1 ≠ (TX4 b).2.1 := by decide +kernel
theorem tyX4_ok : ∀ k, k < 3 → parseFieldDescriptor (TX4 k).2.2.1 = some (tyX4 k) := by decide +kernel
abbrev cX4_init : ByteArray := prog_6_method_1_code
def yX4_init : MethodName := ⟨RX4, "<init>", "(LPaperRepeats$Grid;LPaperRepeats$Patch;)V"⟩
abbrev cX4_total : ByteArray := prog_6_method_2_code
def yX4_total : MethodName := ⟨RX4, "total", "()I"⟩
abbrev cX4_has : ByteArray := prog_6_method_3_code
def yX4_has : MethodName := ⟨RX4, "has", "(I)Z"⟩
abbrev cX4_given : ByteArray := prog_6_method_4_code
def yX4_given : MethodName := ⟨RX4, "given", "(II)I"⟩
abbrev cX4_isKeptBy : ByteArray := prog_6_method_5_code
def yX4_isKeptBy : MethodName := ⟨RX4, "isKeptBy", "(II)Z"⟩
abbrev cX4_askFor : ByteArray := prog_6_method_6_code
def yX4_askFor : MethodName := ⟨RX4, "askFor", "(I)Z"⟩
abbrev cX4_givesWhatIsAsked : ByteArray := prog_6_method_7_code
def yX4_givesWhatIsAsked : MethodName := ⟨RX4, "givesWhatIsAsked", "(I)Z"⟩
abbrev cX4_leastFor : ByteArray := prog_6_method_8_code
def yX4_leastFor : MethodName := ⟨RX4, "leastFor", "(I)I"⟩
abbrev cX4_movesWithSome : ByteArray := prog_6_method_9_code
def yX4_movesWithSome : MethodName := ⟨RX4, "movesWithSome", "()I"⟩
def RX5 : String := "PaperRepeats$Patch"
def TX5 : u_T := fun k => match k with
  | 0 => ("PaperRepeats$Patch", "grid", "LPaperRepeats$Grid;", true)
  | 1 => ("PaperRepeats$Patch", "hueAt", "[I", true)
  | 2 => ("PaperRepeats$Patch", "before", "[I", true)
  | _ => ("PaperRepeats$Patch", "hues", "I", false)
def tyX5 : Nat → FieldType := fun k => match k with
  | 0 => .object "PaperRepeats$Grid"
  | 1 => .array .int
  | 2 => .array .int
  | _ => .int
abbrev wsX50 : List Cond := u_ws RX5 TX5 4
theorem nmX5 : ∀ a, a < 4 → ∀ b, b < 4 → a ≠ b → (TX5 a).2.1 ≠ (TX5 b).2.1 := by decide +kernel
theorem tyX5_ok : ∀ k, k < 4 → parseFieldDescriptor (TX5 k).2.2.1 = some (tyX5 k) := by decide +kernel
abbrev cX5_init : ByteArray := prog_7_method_1_code
def yX5_init : MethodName := ⟨RX5, "<init>", "(LPaperRepeats$Grid;)V"⟩
abbrev cX5_clear : ByteArray := prog_7_method_2_code
def yX5_clear : MethodName := ⟨RX5, "clear", "()V"⟩
abbrev cX5_isHue : ByteArray := prog_7_method_3_code
def yX5_isHue : MethodName := ⟨RX5, "isHue", "(I)Z"⟩
abbrev cX5_allows : ByteArray := prog_7_method_4_code
def yX5_allows : MethodName := ⟨RX5, "allows", "(I)Z"⟩
abbrev cX5_allowHues : ByteArray := prog_7_method_5_code
def yX5_allowHues : MethodName := ⟨RX5, "allowHues", "(I)V"⟩
abbrev cX5_allowsFigures : ByteArray := prog_7_method_6_code
def yX5_allowsFigures : MethodName := ⟨RX5, "allowsFigures", "(II)Z"⟩
abbrev cX5_dyeFigures : ByteArray := prog_7_method_7_code
def yX5_dyeFigures : MethodName := ⟨RX5, "dyeFigures", "(III)I"⟩
abbrev cX5_hiddenCount : ByteArray := prog_7_method_8_code
def yX5_hiddenCount : MethodName := ⟨RX5, "hiddenCount", "()I"⟩
abbrev cX5_usedHues : ByteArray := prog_7_method_9_code
def yX5_usedHues : MethodName := ⟨RX5, "usedHues", "()I"⟩
abbrev cX5_isKeptBy : ByteArray := prog_7_method_10_code
def yX5_isKeptBy : MethodName := ⟨RX5, "isKeptBy", "(I)Z"⟩
abbrev cX5_keepersOf : ByteArray := prog_7_method_11_code
def yX5_keepersOf : MethodName := ⟨RX5, "keepersOf", "(I)I"⟩
abbrev cX5_keepersOfAll : ByteArray := prog_7_method_12_code
def yX5_keepersOfAll : MethodName := ⟨RX5, "keepersOfAll", "()I"⟩
abbrev cX5_keeperNumber : ByteArray := prog_7_method_13_code
def yX5_keeperNumber : MethodName := ⟨RX5, "keeperNumber", "(I)I"⟩
abbrev cX5_moveBy : ByteArray := prog_7_method_14_code
def yX5_moveBy : MethodName := ⟨RX5, "moveBy", "(I)I"⟩
def RX6 : String := "PaperRepeats$Pieces"
def TX6 : u_T := fun k => match k with
  | 0 => ("PaperRepeats$Pieces", "grid", "LPaperRepeats$Grid;", true)
  | 1 => ("PaperRepeats$Pieces", "patch", "LPaperRepeats$Patch;", true)
  | 2 => ("PaperRepeats$Pieces", "line", "[I", true)
  | 3 => ("PaperRepeats$Pieces", "isReached", "[Z", true)
  | 4 => ("PaperRepeats$Pieces", "placeX", "[I", true)
  | 5 => ("PaperRepeats$Pieces", "placeY", "[I", true)
  | 6 => ("PaperRepeats$Pieces", "end", "I", false)
  | _ => ("PaperRepeats$Pieces", "runsOn", "Z", false)
def tyX6 : Nat → FieldType := fun k => match k with
  | 0 => .object "PaperRepeats$Grid"
  | 1 => .object "PaperRepeats$Patch"
  | 2 => .array .int
  | 3 => .array .boolean
  | 4 => .array .int
  | 5 => .array .int
  | 6 => .int
  | _ => .boolean
abbrev wsX60 : List Cond := u_ws RX6 TX6 8
theorem nmX6 : ∀ a, a < 8 → ∀ b, b < 8 → a ≠ b → (TX6 a).2.1 ≠ (TX6 b).2.1 := by decide +kernel
theorem tyX6_ok : ∀ k, k < 8 → parseFieldDescriptor (TX6 k).2.2.1 = some (tyX6 k) := by decide +kernel
abbrev cX6_init : ByteArray := prog_8_method_1_code
def yX6_init : MethodName := ⟨RX6, "<init>", "(LPaperRepeats$Grid;LPaperRepeats$Patch;)V"⟩
abbrev cX6_total : ByteArray := prog_8_method_2_code
def yX6_total : MethodName := ⟨RX6, "total", "(Z)I"⟩
abbrev cX6_sizeAt : ByteArray := prog_8_method_3_code
def yX6_sizeAt : MethodName := ⟨RX6, "sizeAt", "(I)I"⟩
abbrev cX6_leaveAll : ByteArray := prog_8_method_4_code
def yX6_leaveAll : MethodName := ⟨RX6, "leaveAll", "()V"⟩
abbrev cX6_walk : ByteArray := prog_8_method_5_code
def yX6_walk : MethodName := ⟨RX6, "walk", "(I)V"⟩
abbrev cX6_step : ByteArray := prog_8_method_6_code
def yX6_step : MethodName := ⟨RX6, "step", "(III)V"⟩
abbrev cX6_arrive : ByteArray := prog_8_method_7_code
def yX6_arrive : MethodName := ⟨RX6, "arrive", "(III)V"⟩
def RX7 : String := "PaperRepeats$Told"
def TX7 : u_T := fun k => match k with
  | 0 => ("PaperRepeats$Told", "grid", "LPaperRepeats$Grid;", true)
  | 1 => ("PaperRepeats$Told", "patch", "LPaperRepeats$Patch;", true)
  | 2 => ("PaperRepeats$Told", "moves", "[I", true)
  | 3 => ("PaperRepeats$Told", "ringOf", "[I", true)
  | 4 => ("PaperRepeats$Told", "line", "[I", true)
  | 5 => ("PaperRepeats$Told", "isMade", "[Z", true)
  | _ => ("PaperRepeats$Told", "size", "I", false)
def tyX7 : Nat → FieldType := fun k => match k with
  | 0 => .object "PaperRepeats$Grid"
  | 1 => .object "PaperRepeats$Patch"
  | 2 => .array .int
  | 3 => .array .int
  | 4 => .array .int
  | 5 => .array .boolean
  | _ => .int
abbrev wsX70 : List Cond := u_ws RX7 TX7 7
theorem nmX7 : ∀ a, a < 7 → ∀ b, b < 7 → a ≠ b → (TX7 a).2.1 ≠ (TX7 b).2.1 := by decide +kernel
theorem tyX7_ok : ∀ k, k < 7 → parseFieldDescriptor (TX7 k).2.2.1 = some (tyX7 k) := by decide +kernel
abbrev cX7_init : ByteArray := prog_9_method_1_code
def yX7_init : MethodName := ⟨RX7, "<init>", "(LPaperRepeats$Grid;LPaperRepeats$Patch;)V"⟩
abbrev cX7_forget : ByteArray := prog_9_method_2_code
def yX7_forget : MethodName := ⟨RX7, "forget", "()V"⟩
abbrev cX7_add : ByteArray := prog_9_method_3_code
def yX7_add : MethodName := ⟨RX7, "add", "(I)V"⟩
abbrev cX7_markRings : ByteArray := prog_9_method_4_code
def yX7_markRings : MethodName := ⟨RX7, "markRings", "()V"⟩
abbrev cX7_markRing : ByteArray := prog_9_method_5_code
def yX7_markRing : MethodName := ⟨RX7, "markRing", "(I)V"⟩
abbrev cX7_movesMade : ByteArray := prog_9_method_6_code
def yX7_movesMade : MethodName := ⟨RX7, "movesMade", "()I"⟩
abbrev cX7_ringCount : ByteArray := prog_9_method_7_code
def yX7_ringCount : MethodName := ⟨RX7, "ringCount", "()I"⟩
abbrev cX7_cellsOf : ByteArray := prog_9_method_8_code
def yX7_cellsOf : MethodName := ⟨RX7, "cellsOf", "(II)I"⟩
abbrev cX7_commonHue : ByteArray := prog_9_method_9_code
def yX7_commonHue : MethodName := ⟨RX7, "commonHue", "(I)I"⟩
abbrev cX7_hueCount : ByteArray := prog_9_method_10_code
def yX7_hueCount : MethodName := ⟨RX7, "hueCount", "(I)I"⟩
abbrev cX7_onlyHue : ByteArray := prog_9_method_11_code
def yX7_onlyHue : MethodName := ⟨RX7, "onlyHue", "(I)I"⟩
abbrev cX7_tornCount : ByteArray := prog_9_method_12_code
def yX7_tornCount : MethodName := ⟨RX7, "tornCount", "()I"⟩
abbrev cX7_paintRings : ByteArray := prog_9_method_13_code
def yX7_paintRings : MethodName := ⟨RX7, "paintRings", "(Z)I"⟩
abbrev cX7_paintRing : ByteArray := prog_9_method_14_code
def yX7_paintRing : MethodName := ⟨RX7, "paintRing", "(IIZ)I"⟩
def RX8 : String := "PaperRepeats"
def TX8 : u_T := fun k => match k with
  | 0 => ("PaperRepeats", "grid", "LPaperRepeats$Grid;", true)
  | 1 => ("PaperRepeats", "patch", "LPaperRepeats$Patch;", true)
  | 2 => ("PaperRepeats", "kinds", "LPaperRepeats$Kinds;", true)
  | 3 => ("PaperRepeats", "paints", "LPaperRepeats$Paints;", true)
  | 4 => ("PaperRepeats", "told", "LPaperRepeats$Told;", true)
  | 5 => ("PaperRepeats", "census", "LPaperRepeats$Census;", true)
  | 6 => ("PaperRepeats", "likes", "LPaperRepeats$Likes;", true)
  | _ => ("PaperRepeats", "pieces", "LPaperRepeats$Pieces;", true)
def tyX8 : Nat → FieldType := fun k => match k with
  | 0 => .object "PaperRepeats$Grid"
  | 1 => .object "PaperRepeats$Patch"
  | 2 => .object "PaperRepeats$Kinds"
  | 3 => .object "PaperRepeats$Paints"
  | 4 => .object "PaperRepeats$Told"
  | 5 => .object "PaperRepeats$Census"
  | 6 => .object "PaperRepeats$Likes"
  | _ => .object "PaperRepeats$Pieces"
abbrev wsX80 : List Cond := u_ws RX8 TX8 8
theorem nmX8 : ∀ a, a < 8 → ∀ b, b < 8 → a ≠ b → (TX8 a).2.1 ≠ (TX8 b).2.1 := by decide +kernel
theorem tyX8_ok : ∀ k, k < 8 → parseFieldDescriptor (TX8 k).2.2.1 = some (tyX8 k) := by decide +kernel
abbrev cX8_init : ByteArray := prog_1_method_1_code
def yX8_init : MethodName := ⟨RX8, "<init>", "()V"⟩
abbrev cX8_patch : ByteArray := prog_1_method_2_code
def yX8_patch : MethodName := ⟨RX8, "patch", "(II)I"⟩
abbrev cX8_colours : ByteArray := prog_1_method_3_code
def yX8_colours : MethodName := ⟨RX8, "colours", "(I)I"⟩
abbrev cX8_dye : ByteArray := prog_1_method_4_code
def yX8_dye : MethodName := ⟨RX8, "dye", "(II)I"⟩
abbrev cX8_dyes : ByteArray := prog_1_method_5_code
def yX8_dyes : MethodName := ⟨RX8, "dyes", "(III)I"⟩
abbrev cX8_at : ByteArray := prog_1_method_6_code
def yX8_at : MethodName := ⟨RX8, "at", "(I)I"⟩
abbrev cX8_moves : ByteArray := prog_1_method_7_code
def yX8_moves : MethodName := ⟨RX8, "moves", "()I"⟩
abbrev cX8_lead : ByteArray := prog_1_method_8_code
def yX8_lead : MethodName := ⟨RX8, "lead", "(II)I"⟩
abbrev cX8_behind : ByteArray := prog_1_method_9_code
def yX8_behind : MethodName := ⟨RX8, "behind", "(II)I"⟩
abbrev cX8_back : ByteArray := prog_1_method_10_code
def yX8_back : MethodName := ⟨RX8, "back", "(I)I"⟩
abbrev cX8_order : ByteArray := prog_1_method_11_code
def yX8_order : MethodName := ⟨RX8, "order", "(I)I"⟩
abbrev cX8_keeps : ByteArray := prog_1_method_12_code
def yX8_keeps : MethodName := ⟨RX8, "keeps", "(I)I"⟩
abbrev cX8_kept : ByteArray := prog_1_method_13_code
def yX8_kept : MethodName := ⟨RX8, "kept", "(I)I"⟩
abbrev cX8_keeper : ByteArray := prog_1_method_14_code
def yX8_keeper : MethodName := ⟨RX8, "keeper", "(I)I"⟩
abbrev cX8_go : ByteArray := prog_1_method_15_code
def yX8_go : MethodName := ⟨RX8, "go", "(I)I"⟩
abbrev cX8_least : ByteArray := prog_1_method_16_code
def yX8_least : MethodName := ⟨RX8, "least", "()I"⟩
abbrev cX8_mirrored : ByteArray := prog_1_method_17_code
def yX8_mirrored : MethodName := ⟨RX8, "mirrored", "(I)I"⟩
abbrev cX8_mirror : ByteArray := prog_1_method_18_code
def yX8_mirror : MethodName := ⟨RX8, "mirror", "(I)I"⟩
abbrev cX8_kind : ByteArray := prog_1_method_19_code
def yX8_kind : MethodName := ⟨RX8, "kind", "()I"⟩
abbrev cX8_paints : ByteArray := prog_1_method_20_code
def yX8_paints : MethodName := ⟨RX8, "paints", "()I"⟩
abbrev cX8_paint : ByteArray := prog_1_method_21_code
def yX8_paint : MethodName := ⟨RX8, "paint", "(II)I"⟩
abbrev cX8_keepsBy : ByteArray := prog_1_method_22_code
def yX8_keepsBy : MethodName := ⟨RX8, "keepsBy", "(II)I"⟩
abbrev cX8_by : ByteArray := prog_1_method_23_code
def yX8_by : MethodName := ⟨RX8, "by", "(I)I"⟩
abbrev cX8_swaps : ByteArray := prog_1_method_24_code
def yX8_swaps : MethodName := ⟨RX8, "swaps", "()I"⟩
abbrev cX8_tell : ByteArray := prog_1_method_25_code
def yX8_tell : MethodName := ⟨RX8, "tell", "(I)I"⟩
abbrev cX8_untell : ByteArray := prog_1_method_26_code
def yX8_untell : MethodName := ⟨RX8, "untell", "()I"⟩
abbrev cX8_together : ByteArray := prog_1_method_27_code
def yX8_together : MethodName := ⟨RX8, "together", "()I"⟩
abbrev cX8_rings : ByteArray := prog_1_method_28_code
def yX8_rings : MethodName := ⟨RX8, "rings", "()I"⟩
abbrev cX8_ring : ByteArray := prog_1_method_29_code
def yX8_ring : MethodName := ⟨RX8, "ring", "(I)I"⟩
abbrev cX8_mend : ByteArray := prog_1_method_30_code
def yX8_mend : MethodName := ⟨RX8, "mend", "(Z)I"⟩
abbrev cX8_sure : ByteArray := prog_1_method_31_code
def yX8_sure : MethodName := ⟨RX8, "sure", "(I)I"⟩
abbrev cX8_torn : ByteArray := prog_1_method_32_code
def yX8_torn : MethodName := ⟨RX8, "torn", "()I"⟩
abbrev cX8_papers : ByteArray := prog_1_method_33_code
def yX8_papers : MethodName := ⟨RX8, "papers", "()J"⟩
abbrev cX8_upTo : ByteArray := prog_1_method_34_code
def yX8_upTo : MethodName := ⟨RX8, "upTo", "()J"⟩
abbrev cX8_like : ByteArray := prog_1_method_35_code
def yX8_like : MethodName := ⟨RX8, "like", "()I"⟩
abbrev cX8_first : ByteArray := prog_1_method_36_code
def yX8_first : MethodName := ⟨RX8, "first", "(I)I"⟩
abbrev cX8_toFirst : ByteArray := prog_1_method_37_code
def yX8_toFirst : MethodName := ⟨RX8, "toFirst", "()I"⟩
abbrev cX8_pieces : ByteArray := prog_1_method_38_code
def yX8_pieces : MethodName := ⟨RX8, "pieces", "(Z)I"⟩
abbrev cX8_piece : ByteArray := prog_1_method_39_code
def yX8_piece : MethodName := ⟨RX8, "piece", "(I)I"⟩
abbrev cX8_count : ByteArray := prog_1_method_40_code
def yX8_count : MethodName := ⟨RX8, "count", "(I)I"⟩
abbrev cX8_oneIf : ByteArray := prog_1_method_41_code
def yX8_oneIf : MethodName := ⟨RX8, "oneIf", "(Z)I"⟩
def RX9 : String := "PaperRepeatsModel"
def TX9 : u_T := fun k => match k with
  | 0 => ("PaperRepeatsModel", "thrown", "I", false)
  | 1 => ("PaperRepeatsModel", "w", "I", false)
  | 2 => ("PaperRepeatsModel", "h", "I", false)
  | 3 => ("PaperRepeatsModel", "colours", "I", false)
  | 4 => ("PaperRepeatsModel", "dye", "[I", true)
  | 5 => ("PaperRepeatsModel", "next", "[I", true)
  | 6 => ("PaperRepeatsModel", "best", "[I", true)
  | 7 => ("PaperRepeatsModel", "ring", "[I", true)
  | 8 => ("PaperRepeatsModel", "many", "[I", true)
  | 9 => ("PaperRepeatsModel", "told", "[I", true)
  | 10 => ("PaperRepeatsModel", "tolds", "I", false)
  | 11 => ("PaperRepeatsModel", "isMade", "[Z", true)
  | 12 => ("PaperRepeatsModel", "queue", "[I", true)
  | 13 => ("PaperRepeatsModel", "isShift", "[Z", true)
  | 14 => ("PaperRepeatsModel", "paint", "[I", true)
  | 15 => ("PaperRepeatsModel", "piece", "[I", true)
  | 16 => ("PaperRepeatsModel", "overX", "[I", true)
  | 17 => ("PaperRepeatsModel", "overY", "[I", true)
  | 18 => ("PaperRepeatsModel", "runs", "[Z", true)
  | 19 => ("PaperRepeatsModel", "walk", "[I", true)
  | 20 => ("PaperRepeatsModel", "pieceMany", "I", false)
  | _ => ("PaperRepeatsModel", "images", "[I", true)
def tyX9 : Nat → FieldType := fun k => match k with
  | 0 => .int
  | 1 => .int
  | 2 => .int
  | 3 => .int
  | 4 => .array .int
  | 5 => .array .int
  | 6 => .array .int
  | 7 => .array .int
  | 8 => .array .int
  | 9 => .array .int
  | 10 => .int
  | 11 => .array .boolean
  | 12 => .array .int
  | 13 => .array .boolean
  | 14 => .array .int
  | 15 => .array .int
  | 16 => .array .int
  | 17 => .array .int
  | 18 => .array .boolean
  | 19 => .array .int
  | 20 => .int
  | _ => .array .int
abbrev wsX90 : List Cond := u_ws RX9 TX9 22
theorem nmX9 : ∀ a, a < 22 → ∀ b, b < 22 → a ≠ b → (TX9 a).2.1 ≠ (TX9 b).2.1 := by decide +kernel
theorem tyX9_ok : ∀ k, k < 22 → parseFieldDescriptor (TX9 k).2.2.1 = some (tyX9 k) := by decide +kernel
abbrev cX9_init : ByteArray := prog_11_method_1_code
def yX9_init : MethodName := ⟨RX9, "<init>", "()V"⟩
abbrev cX9_in : ByteArray := prog_11_method_3_code
def yX9_in : MethodName := ⟨RX9, "in", "(JJJ)Z"⟩
abbrev cX9_cells : ByteArray := prog_11_method_4_code
def yX9_cells : MethodName := ⟨RX9, "cells", "()I"⟩
abbrev cX9_noCell : ByteArray := prog_11_method_5_code
def yX9_noCell : MethodName := ⟨RX9, "noCell", "(I)Z"⟩
abbrev cX9_isTurn : ByteArray := prog_11_method_6_code
def yX9_isTurn : MethodName := ⟨RX9, "isTurn", "(I)Z"⟩
abbrev cX9_noMove : ByteArray := prog_11_method_7_code
def yX9_noMove : MethodName := ⟨RX9, "noMove", "(I)Z"⟩
abbrev cX9_rest : ByteArray := prog_11_method_8_code
def yX9_rest : MethodName := ⟨RX9, "rest", "(II)I"⟩
abbrev cX9_turnedX : ByteArray := prog_11_method_9_code
def yX9_turnedX : MethodName := ⟨RX9, "turnedX", "(III)I"⟩
abbrev cX9_turnedY : ByteArray := prog_11_method_10_code
def yX9_turnedY : MethodName := ⟨RX9, "turnedY", "(III)I"⟩
abbrev cX9_ledTo : ByteArray := prog_11_method_11_code
def yX9_ledTo : MethodName := ⟨RX9, "ledTo", "(II)I"⟩
abbrev cX9_patch : ByteArray := prog_11_method_12_code
def yX9_patch : MethodName := ⟨RX9, "patch", "(II)I"⟩
abbrev cX9_colours : ByteArray := prog_11_method_13_code
def yX9_colours : MethodName := ⟨RX9, "colours", "(I)I"⟩
abbrev cX9_isColour : ByteArray := prog_11_method_14_code
def yX9_isColour : MethodName := ⟨RX9, "isColour", "(I)Z"⟩
abbrev cX9_dye : ByteArray := prog_11_method_15_code
def yX9_dye : MethodName := ⟨RX9, "dye", "(II)I"⟩
abbrev cX9_dyes : ByteArray := prog_11_method_16_code
def yX9_dyes : MethodName := ⟨RX9, "dyes", "(III)I"⟩
abbrev cX9_at : ByteArray := prog_11_method_17_code
def yX9_at : MethodName := ⟨RX9, "at", "(I)I"⟩
abbrev cX9_moves : ByteArray := prog_11_method_18_code
def yX9_moves : MethodName := ⟨RX9, "moves", "()I"⟩
abbrev cX9_lead : ByteArray := prog_11_method_19_code
def yX9_lead : MethodName := ⟨RX9, "lead", "(II)I"⟩
abbrev cX9_turnOf : ByteArray := prog_11_method_20_code
def yX9_turnOf : MethodName := ⟨RX9, "turnOf", "(II)I"⟩
abbrev cX9_two : ByteArray := prog_11_method_21_code
def yX9_two : MethodName := ⟨RX9, "two", "(II)I"⟩
abbrev cX9_behind : ByteArray := prog_11_method_22_code
def yX9_behind : MethodName := ⟨RX9, "behind", "(II)I"⟩
abbrev cX9_back : ByteArray := prog_11_method_23_code
def yX9_back : MethodName := ⟨RX9, "back", "(I)I"⟩
abbrev cX9_order : ByteArray := prog_11_method_24_code
def yX9_order : MethodName := ⟨RX9, "order", "(I)I"⟩
abbrev cX9_keepsIt : ByteArray := prog_11_method_25_code
def yX9_keepsIt : MethodName := ⟨RX9, "keepsIt", "(I)Z"⟩
abbrev cX9_keeps : ByteArray := prog_11_method_26_code
def yX9_keeps : MethodName := ⟨RX9, "keeps", "(I)I"⟩
abbrev cX9_kept : ByteArray := prog_11_method_27_code
def yX9_kept : MethodName := ⟨RX9, "kept", "(I)I"⟩
abbrev cX9_keeper : ByteArray := prog_11_method_28_code
def yX9_keeper : MethodName := ⟨RX9, "keeper", "(I)I"⟩
abbrev cX9_go : ByteArray := prog_11_method_29_code
def yX9_go : MethodName := ⟨RX9, "go", "(I)I"⟩
abbrev cX9_layShifts : ByteArray := prog_11_method_30_code
def yX9_layShifts : MethodName := ⟨RX9, "layShifts", "()I"⟩
abbrev cX9_least : ByteArray := prog_11_method_31_code
def yX9_least : MethodName := ⟨RX9, "least", "()I"⟩
abbrev cX9_isMirror : ByteArray := prog_11_method_32_code
def yX9_isMirror : MethodName := ⟨RX9, "isMirror", "(I)Z"⟩
abbrev cX9_isMirrored : ByteArray := prog_11_method_33_code
def yX9_isMirrored : MethodName := ⟨RX9, "isMirrored", "(I)Z"⟩
abbrev cX9_mirrored : ByteArray := prog_11_method_34_code
def yX9_mirrored : MethodName := ⟨RX9, "mirrored", "(I)I"⟩
abbrev cX9_mirror : ByteArray := prog_11_method_35_code
def yX9_mirror : MethodName := ⟨RX9, "mirror", "(I)I"⟩
abbrev cX9_fits : ByteArray := prog_11_method_36_code
def yX9_fits : MethodName := ⟨RX9, "fits", "(I)Z"⟩
abbrev cX9_isBehindShift : ByteArray := prog_11_method_37_code
def yX9_isBehindShift : MethodName := ⟨RX9, "isBehindShift", "(I)Z"⟩
abbrev cX9_allBehind : ByteArray := prog_11_method_38_code
def yX9_allBehind : MethodName := ⟨RX9, "allBehind", "(I)Z"⟩
abbrev cX9_kind : ByteArray := prog_11_method_39_code
def yX9_kind : MethodName := ⟨RX9, "kind", "()I"⟩
abbrev cX9_paintMany : ByteArray := prog_11_method_40_code
def yX9_paintMany : MethodName := ⟨RX9, "paintMany", "()I"⟩
abbrev cX9_paints : ByteArray := prog_11_method_41_code
def yX9_paints : MethodName := ⟨RX9, "paints", "()I"⟩
abbrev cX9_lay : ByteArray := prog_11_method_42_code
def yX9_lay : MethodName := ⟨RX9, "lay", "(I)V"⟩
abbrev cX9_noPaint : ByteArray := prog_11_method_43_code
def yX9_noPaint : MethodName := ⟨RX9, "noPaint", "(I)Z"⟩
abbrev cX9_paint : ByteArray := prog_11_method_44_code
def yX9_paint : MethodName := ⟨RX9, "paint", "(II)I"⟩
abbrev cX9_keepsPainted : ByteArray := prog_11_method_45_code
def yX9_keepsPainted : MethodName := ⟨RX9, "keepsPainted", "(I)Z"⟩
abbrev cX9_keepsBy : ByteArray := prog_11_method_46_code
def yX9_keepsBy : MethodName := ⟨RX9, "keepsBy", "(II)I"⟩
abbrev cX9_leastPaint : ByteArray := prog_11_method_47_code
def yX9_leastPaint : MethodName := ⟨RX9, "leastPaint", "(I)I"⟩
abbrev cX9_by : ByteArray := prog_11_method_48_code
def yX9_by : MethodName := ⟨RX9, "by", "(I)I"⟩
abbrev cX9_swaps : ByteArray := prog_11_method_49_code
def yX9_swaps : MethodName := ⟨RX9, "swaps", "()I"⟩
abbrev cX9_tell : ByteArray := prog_11_method_50_code
def yX9_tell : MethodName := ⟨RX9, "tell", "(I)I"⟩
abbrev cX9_untell : ByteArray := prog_11_method_51_code
def yX9_untell : MethodName := ⟨RX9, "untell", "()I"⟩
abbrev cX9_together : ByteArray := prog_11_method_52_code
def yX9_together : MethodName := ⟨RX9, "together", "()I"⟩
abbrev cX9_layRings : ByteArray := prog_11_method_53_code
def yX9_layRings : MethodName := ⟨RX9, "layRings", "(I)I"⟩
abbrev cX9_rings : ByteArray := prog_11_method_54_code
def yX9_rings : MethodName := ⟨RX9, "rings", "()I"⟩
abbrev cX9_ring : ByteArray := prog_11_method_55_code
def yX9_ring : MethodName := ⟨RX9, "ring", "(I)I"⟩
abbrev cX9_reckon : ByteArray := prog_11_method_56_code
def yX9_reckon : MethodName := ⟨RX9, "reckon", "(I)I"⟩
abbrev cX9_mostOf : ByteArray := prog_11_method_57_code
def yX9_mostOf : MethodName := ⟨RX9, "mostOf", "(I)I"⟩
abbrev cX9_mend : ByteArray := prog_11_method_58_code
def yX9_mend : MethodName := ⟨RX9, "mend", "(Z)I"⟩
abbrev cX9_sure : ByteArray := prog_11_method_59_code
def yX9_sure : MethodName := ⟨RX9, "sure", "(I)I"⟩
abbrev cX9_torn : ByteArray := prog_11_method_60_code
def yX9_torn : MethodName := ⟨RX9, "torn", "()I"⟩
abbrev cX9_power : ByteArray := prog_11_method_61_code
def yX9_power : MethodName := ⟨RX9, "power", "(I)J"⟩
abbrev cX9_papers : ByteArray := prog_11_method_62_code
def yX9_papers : MethodName := ⟨RX9, "papers", "()J"⟩
abbrev cX9_upTo : ByteArray := prog_11_method_63_code
def yX9_upTo : MethodName := ⟨RX9, "upTo", "()J"⟩
abbrev cX9_like : ByteArray := prog_11_method_64_code
def yX9_like : MethodName := ⟨RX9, "like", "()I"⟩
abbrev cX9_layFirst : ByteArray := prog_11_method_65_code
def yX9_layFirst : MethodName := ⟨RX9, "layFirst", "()I"⟩
abbrev cX9_first : ByteArray := prog_11_method_66_code
def yX9_first : MethodName := ⟨RX9, "first", "(I)I"⟩
abbrev cX9_toFirst : ByteArray := prog_11_method_67_code
def yX9_toFirst : MethodName := ⟨RX9, "toFirst", "()I"⟩
abbrev cX9_layPieces : ByteArray := prog_11_method_68_code
def yX9_layPieces : MethodName := ⟨RX9, "layPieces", "()V"⟩
abbrev cX9_pieces : ByteArray := prog_11_method_69_code
def yX9_pieces : MethodName := ⟨RX9, "pieces", "(Z)I"⟩
abbrev cX9_piece : ByteArray := prog_11_method_70_code
def yX9_piece : MethodName := ⟨RX9, "piece", "(I)I"⟩
abbrev cX9_count : ByteArray := prog_11_method_71_code
def yX9_count : MethodName := ⟨RX9, "count", "(I)I"⟩
def RJ6 : String := "java/lang/Integer"
def TJ6 : u_T := fun k => match k with
  | _ => ("", "", "", false)
def tyJ6 : Nat → FieldType := fun k => match k with
  | _ => .int
abbrev wsJ60 : List Cond := u_ws RJ6 TJ6 0
theorem nmJ6 : ∀ a, a < 0 → ∀ b, b < 0 → a ≠ b → (TJ6 a).2.1 ≠ (TJ6 b).2.1 := by decide +kernel
theorem tyJ6_ok : ∀ k, k < 0 → parseFieldDescriptor (TJ6 k).2.2.1 = some (tyJ6 k) := by decide +kernel
abbrev cJ6_bitCount_0f7a4 : ByteArray := prog_12_method_49_code
def yJ6_bitCount_0f7a4 : MethodName := ⟨RJ6, "bitCount", "(I)I"⟩
abbrev zm_classes : List vw_C := [(RX0, TX0, 2), (RX1, TX1, 3), (RX2, TX2, 2), (RX3, TX3, 2), (RX4, TX4, 3), (RX5, TX5, 4), (RX6, TX6, 8), (RX7, TX7, 7), (RX8, TX8, 8), (RX9, TX9, 22)]
end
section
/-! THE MINI MACHINE. A world of 38 cells of a fixed shape: only numbers change. mem k j: the number in slot j of cell k. References are places in the shape. -/
abbrev zm_Mem : Type := Nat → Nat → Int32
abbrev zm_Post : Type := Int32 → Int64 → zm_Mem → Prop
abbrev zm_ShE : Type := (Nat × List (Option Nat)) ⊕ (Bool × Nat)
/-- the shape: an object (its class's number, a reference to a cell or a number a field), or an array (of booleans?, length) -/
def zm_sh : List zm_ShE := [
  .inl (8, [some 1, some 2, some 5, some 6, some 8, some 13, some 15, some 16]),
  .inl (1, [none, none, none]),
  .inl (5, [some 1, some 3, some 4, none]), .inr (false, 36), .inr (false, 36),
  .inl (2, [some 1, some 2]),
  .inl (4, [some 1, some 2, some 7]), .inr (false, 4),
  .inl (7, [some 1, some 2, some 9, some 10, some 11, some 12, none]), .inr (false, 4), .inr (false, 36), .inr (false, 288), .inr (true, 288),
  .inl (0, [some 1, some 14]), .inr (true, 36),
  .inl (3, [some 1, some 2]),
  .inl (6, [some 1, some 2, some 17, some 18, some 19, some 20, none, none]), .inr (false, 36), .inr (true, 36), .inr (false, 36), .inr (false, 36),
  .inl (9, [none, none, none, none, some 22, some 23, some 24, some 25, some 26, some 27, none, some 28, some 29, some 30, some 31, some 32, some 33, some 34, some 35, some 36, none, some 37]),
  .inr (false, 36), .inr (false, 36), .inr (false, 36), .inr (false, 36), .inr (false, 4), .inr (false, 4), .inr (true, 288), .inr (false, 288), .inr (true, 36), .inr (false, 4), .inr (false, 36), .inr (false, 36), .inr (false, 36), .inr (true, 36), .inr (false, 36), .inr (false, 10368)]
def zm_fv (ad : Nat → Nat) (f : Nat → Int32) (j : Nat) (r : Option Nat) : Value := match r with
  | some k => .ref (ad k)
  | none => .int (f j)
def zm_cell (c1 c2 : ClassId) (ad : Nat → Nat) (f : Nat → Int32) (e : zm_ShE) : va_E := match e with
  | .inl o => .inr (o.1, o.2.mapIdx (zm_fv ad f))
  | .inr a => .inl (if a.1 = true then c2 else c1, a.2, .inl f)
def zm_pic (c1 c2 : ClassId) (ad : Nat → Nat) (mem : zm_Mem) : va_W := zm_sh.mapIdx (fun k e => (ad k, zm_cell c1 c2 ad (mem k) e))
/-- one number of the world is another -/
def zm_st (mem : zm_Mem) (k i : Nat) (x : Int32) : zm_Mem := fun q j => if q = k ∧ j = i then x else mem q j
theorem zm_at {c1 c2 : ClassId} {ad : Nat → Nat} {mem : zm_Mem} {k : Nat} {e : zm_ShE} (h : zm_sh[k]? = some e) : (zm_pic c1 c2 ad mem)[k]? = some (ad k, zm_cell c1 c2 ad (mem k) e) := by
  simp [zm_pic, List.getElem?_mapIdx, h]
theorem zm_set {c1 c2 : ClassId} {ad : Nat → Nat} {mem mem' : zm_Mem} {k : Nat} {e : zm_ShE} (h : zm_sh[k]? = some e) (ho : ∀ q, q ≠ k → mem' q = mem q) : (zm_pic c1 c2 ad mem).set k (ad k, zm_cell c1 c2 ad (mem' k) e) = zm_pic c1 c2 ad mem' := by
  apply List.ext_getElem?
  intro i
  have hl : k < zm_sh.length := (List.getElem?_eq_some_iff.mp h).1
  by_cases hi : i = k
  · subst hi
    rw [List.getElem?_set_self (by simpa [zm_pic] using hl), zm_at h]
  · rw [List.getElem?_set_ne (Ne.symm hi)]
    simp [zm_pic, List.getElem?_mapIdx, ho i hi]
theorem zm_dom {c1 c2 : ClassId} {ad : Nat → Nat} {mem mem' : zm_Mem} {A : Nat → Prop} (h : va_D A (zm_pic c1 c2 ad mem)) : va_D A (zm_pic c1 c2 ad mem') := by
  have key : ∀ (k : Nat) (q : Nat × va_E), (zm_pic c1 c2 ad mem')[k]? = some q → ∃ q' : Nat × va_E, (zm_pic c1 c2 ad mem)[k]? = some q' ∧ q'.1 = q.1 := by
    intro k q hq
    simp only [zm_pic, List.getElem?_mapIdx] at hq ⊢
    cases he : zm_sh[k]? with
    | none => rw [he] at hq; cases hq
    | some e => rw [he] at hq; cases hq; exact ⟨_, rfl, rfl⟩
  refine ⟨fun i j p q hp hq e => ?_, fun k q hq => ?_⟩
  · obtain ⟨p', h1, h2⟩ := key i p hp
    obtain ⟨q', h3, h4⟩ := key j q hq
    exact h.1 i j p' q' h1 h3 (by rw [h2, h4, e])
  · obtain ⟨q', h1, h2⟩ := key k q hq
    rw [← h2]
    exact h.2 k q' h1
theorem zm_Asame {c1 c2 : ClassId} {ad : Nat → Nat} {mem mem' : zm_Mem} {sz : Nat} {q : Nat} (h : va_A (zm_pic c1 c2 ad mem') sz q) : va_A (zm_pic c1 c2 ad mem) sz q := by
  rcases h with ⟨k, e, h⟩ | h
  · refine Or.inl ?_
    simp only [zm_pic, List.getElem?_mapIdx] at h ⊢
    cases he : zm_sh[k]? with
    | none => rw [he] at h; cases h
    | some e' =>
      rw [he] at h
      have h2 := Option.some.inj h
      refine ⟨k, zm_cell c1 c2 ad (mem k) e', ?_⟩
      rw [he]
      show some _ = some _
      rw [← (Prod.mk.inj h2).1]
  · exact Or.inr h
/-- the words that ride with every method: those of the tables that stay -/
def zm_tb : List Cond := lw_tbl.filter goodWord
theorem zm_tb_in {w : Cond} (i : Nat) (h : lw_tbl[i]? = some w) (hg : goodWord w = true) : w ∈ zm_tb := List.mem_filter.mpr ⟨List.mem_of_getElem? h, hg⟩
theorem zm_tb_good {L : List Cond} (h : ∀ w ∈ L, w ∈ zm_tb) : GoodIn zm_tb L := fun w hw => ⟨h w hw, good_of_word (List.mem_filter.mp (h w hw)).2⟩
def zm_tys (c1 c2 : ClassId) : List (ClassId × FieldType) := [(c1, .int), (c2, .boolean)]
def zm_NW : List (String × Nat × String × String × String × String) := [("PaperRepeats$Kinds", 28, "PaperRepeats$Grid", "width", "I", "PaperRepeats"), ("PaperRepeats$Pieces", 36, "PaperRepeats$Grid", "cells", "I", "PaperRepeats"), ("PaperRepeats", 79, "PaperRepeats$Grid", "cells", "I", "PaperRepeats"), ("PaperRepeats$Told", 40, "PaperRepeats$Grid", "cells", "I", "PaperRepeats"), ("PaperRepeats$Census", 40, "PaperRepeats$Grid", "cells", "I", "PaperRepeats"), ("PaperRepeats$Kinds", 40, "PaperRepeats$Grid", "cells", "I", "PaperRepeats"), ("PaperRepeats$Paints", 36, "PaperRepeats$Grid", "cells", "I", "PaperRepeats"), ("PaperRepeats$Patch", 30, "PaperRepeats$Grid", "cells", "I", "PaperRepeats"), ("PaperRepeats$Likes", 54, "PaperRepeats$Grid", "cells", "I", "PaperRepeats"), ("PaperRepeats$Pieces", 42, "PaperRepeats$Patch", "hueAt", "[I", "PaperRepeats"), ("PaperRepeats$Likes", 28, "PaperRepeats$Patch", "hueAt", "[I", "PaperRepeats"), ("PaperRepeats", 97, "PaperRepeats$Patch", "hueAt", "[I", "PaperRepeats"), ("PaperRepeats$Paints", 41, "PaperRepeats$Patch", "hueAt", "[I", "PaperRepeats"), ("PaperRepeats$Told", 56, "PaperRepeats$Patch", "hueAt", "[I", "PaperRepeats"), ("PaperRepeats$Paints", 23, "PaperRepeats$Patch", "hues", "I", "PaperRepeats"), ("PaperRepeats", 83, "PaperRepeats$Patch", "hues", "I", "PaperRepeats"), ("PaperRepeats$Told", 61, "PaperRepeats$Patch", "hues", "I", "PaperRepeats"), ("PaperRepeats", 196, "PaperRepeats$Told", "ringOf", "[I", "PaperRepeats"), ("PaperRepeats", 184, "PaperRepeats$Told", "size", "I", "PaperRepeats")]
def zm_rows : Nat → Int32 := fun j => ([0, 1, 2, 3, 0, 1, 3, 2, 0, 2, 1, 3, 0, 2, 3, 1, 0, 3, 1, 2, 0, 3, 2, 1, 1, 0, 2, 3, 1, 0, 3, 2, 1, 2, 0, 3, 1, 2, 3, 0, 1, 3, 0, 2, 1, 3, 2, 0, 2, 0, 1, 3, 2, 0, 3, 1, 2, 1, 0, 3, 2, 1, 3, 0, 2, 3, 0, 1, 2, 3, 1, 0, 3, 0, 1, 2, 3, 0, 2, 1, 3, 1, 0, 2, 3, 1, 2, 0, 3, 2, 0, 1, 3, 2, 1, 0] : List Int32).getD j 0
def zm_env (A : Nat → Prop) (U : State) (H : Heap) : Prop := (∀ t ∈ zm_NW, va_Nw (.fieldLinkNest t.1 t.2.1 t.2.2.1 t.2.2.2.1 t.2.2.2.2.1 t.2.2.2.2.2) U) ∧ ∃ r : Nat, va_Z RX4 "ROWS" "[I" (.ref r) A U H ∧ va_X r 96 zm_rows U H ∧ ¬ A r ∧ r < H.size
theorem zm_env.go {A B : Nat → Prop} {s U : State} {H0 H : Heap} {locs : List Loc} (h : zm_env A s H0) (hW : s.WarmedH U.vm) (hS : va_S A H0 H locs) (hB : ∀ q, B q → A q) : zm_env B U H := by
  obtain ⟨h1, r, h2, h3, h4, h5⟩ := h
  refine ⟨fun t ht => va_Nw.warmF hW (h1 t ht), r, ?_, ?_, fun z => h4 (hB r z), Nat.lt_of_lt_of_le h5 hS.1⟩
  · exact ((h2.kept (H1 := H) (fun a ha hn => hS.2.1 a ha hn)).narrow hB).moved hW.alike
  · exact (h3.kept (hS.2.1 r h5 h4)).moved hW.alike
abbrev zm_Sig : Type := MethodName × ByteArray × Nat × Option FieldType × Nat × Nat
def zm_ws (g : zm_Sig) : List Cond := .code g.1 g.2.1 g.2.2.1 g.2.2.2.1 :: zm_tb
def zm_rm (g : zm_Sig) : Room := { frames := g.2.2.2.2.1, cells := 0, slots := 0, locals := g.2.2.2.2.2 }
def zm_v (ad : Nat → Nat) (v : Value) : Value := match v with
  | .ref k => .ref (ad k)
  | w => w
theorem zm_v_cat (ad : Nat → Nat) (v : Value) : (zm_v ad v).category = v.category := by cases v <;> rfl
def zm_B (D : va_G) (c1 c2 : ClassId) (ad : Nat → Nat) (A : Nat → Prop) (mem : zm_Mem) (t : State) : Prop := va_P D zm_classes (zm_pic c1 c2 ad mem) t.heap ∧ va_K D zm_classes (zm_tys c1 c2) t ∧ va_D A (zm_pic c1 c2 ad mem)
def zm_Q (ret : Option FieldType) (post : zm_Post) (B : zm_Mem → State → Prop) (A : Nat → Prop) : Array Value → State → Outcome → State → Prop := match ret with
  | none => va_Qv (fun u => post 0 0 u) B A
  | some .long => va_Ql (fun r u => post 0 r u) B A
  | some _ => va_Qi (fun r u => post r 0 u) B A
def zm_Pc (D : va_G) (c1 c2 : ClassId) (ad : Nat → Nat) (sz : Nat) (as : List Value) (mem : zm_Mem) : Array Value → State → Prop := fun v U => v = (as.map (zm_v ad)).toArray ∧ U.heap.size = sz ∧ va_P D zm_classes (zm_pic c1 c2 ad mem) U.heap ∧ va_K D zm_classes (zm_tys c1 c2) U ∧ va_D (fun _ => True) (zm_pic c1 c2 ad mem) ∧ zm_env (va_A (zm_pic c1 c2 ad mem) sz) U U.heap
/-- THE CONTRACT of a method: called so, over this world, it comes back, and what it answers and leaves is in post -/
def zm_Call (g : zm_Sig) (as : List Value) (mem : zm_Mem) (post : zm_Post) : Prop := ∀ (l : Launch) (D : va_G) (c1 c2 : ClassId) (ad : Nat → Nat) (sz : Nat), Met l g.1 (zm_ws g) (zm_rm g) (zm_Pc D c1 c2 ad sz as mem) (zm_Q g.2.2.2.1 post (zm_B D c1 c2 ad (va_A (zm_pic c1 c2 ad mem) sz)) (va_A (zm_pic c1 c2 ad mem) sz)) 0 0 (va_A (zm_pic c1 c2 ad mem) sz)
/-- what stands still while a method runs -/
def zm_At (g : zm_Sig) (p : Program) (s : State) (m : MethodId) (args : Array Value) (meth : Method) (c : Code) (D : va_G) (c1 c2 : ClassId) (A : Nat → Prop) : Prop :=
  p.tables.exec = Jvm.exec ∧ c.code = g.2.1 ∧ meth.sig.returnType = g.2.2.2.1 ∧ meth.locks = false ∧ c.maxLocals = g.2.2.1 ∧ s.vm.findClass g.1.cls = some m.cls ∧ (∀ w ∈ zm_tb, w.before args s = true) ∧ va_K D zm_classes (zm_tys c1 c2) s ∧ (∀ q : Nat, s.heap.size ≤ q → A q) ∧ zm_env A s s.heap
def zm_Dy (D : va_G) (c1 c2 : ClassId) (ad : Nat → Nat) (A : Nat → Prop) (mem : zm_Mem) (s : State) (H : Heap) (locs : List Loc) : Prop := va_P D zm_classes (zm_pic c1 c2 ad mem) H ∧ va_D A (zm_pic c1 c2 ad mem) ∧ va_S A s.heap H locs
def zm_lv (ad : Nat → Nat) (lv : List (Nat × Value)) : List (Nat × Value) := lv.map (fun q => (q.1, zm_v ad q.2))
/-- at pc of the method g, with these locals, stack and numbers: it comes to its end, and what it answers is in post -/
def zm_Z (g : zm_Sig) (post : zm_Post) (pc : Nat) (lv : List (Nat × Value)) (st : List Value) (mem : zm_Mem) : Prop :=
  ∀ (p : Program) (l : Launch) (e : Env) (s : State) (m : MethodId) (args : Array Value) (below : List Frame) (meth : Method) (c : Code) (D : va_G) (c1 c2 : ClassId) (ad : Nat → Nat) (A : Nat → Prop), zm_At g p s m args meth c D c1 c2 A →
    ∀ (H : Heap) (locs : List Loc) (ls : Array Slot), zm_Dy D c1 c2 ad A mem s H locs → lv_has ls g.2.2.1 (zm_lv ad lv) →
      W p l e (zm_rm g) s m args below meth c H locs 0 0 (MQ below (zm_Q g.2.2.2.1 post (zm_B D c1 c2 ad A) A) args s 0 0 A) (F0 m pc ls (st.map (zm_v ad)))
theorem zm_lv_at {ad : Nat → Nat} {lv : List (Nat × Value)} {ls : Array Slot} {nL : Nat} (hl : lv_has ls nL (zm_lv ad lv)) {j i : Nat} {v : Value} (h : lv[j]? = some (i, v)) : ls[i]? = some (.val (zm_v ad v)) := lv_at hl j (by simp [zm_lv, List.getElem?_map, h])
def zm_put1 (i : Nat) (v : Value) (lv : List (Nat × Value)) : List (Nat × Value) := (i, v) :: lv.filter (fun q => !(q.1 == i) && !(q.1 + 1 == i && q.2.category == 2))
def zm_put2 (i : Nat) (v : Value) (lv : List (Nat × Value)) : List (Nat × Value) := (i, v) :: lv.filter (fun q => !(q.1 == i) && (!(q.1 == i + 1) && !(q.1 + 1 == i && q.2.category == 2)))
theorem zm_put1_map (ad : Nat → Nat) (i : Nat) (v : Value) (lv : List (Nat × Value)) : (i, zm_v ad v) :: (zm_lv ad lv).filter (fun q => !(q.1 == i) && !(q.1 + 1 == i && q.2.category == 2)) = zm_lv ad (zm_put1 i v lv) := by
  simp [zm_lv, zm_put1, List.filter_map, Function.comp_def, zm_v_cat]
theorem zm_put2_map (ad : Nat → Nat) (i : Nat) (v : Value) (lv : List (Nat × Value)) : (i, zm_v ad v) :: (zm_lv ad lv).filter (fun q => !(q.1 == i) && (!(q.1 == i + 1) && !(q.1 + 1 == i && q.2.category == 2))) = zm_lv ad (zm_put2 i v lv) := by
  simp [zm_lv, zm_put2, List.filter_map, Function.comp_def, zm_v_cat]
end
section
section ZROWS
variable {g : zm_Sig} {post : zm_Post} {pc : Nat} {lv : List (Nat × Value)} {st : List Value} {mem : zm_Mem}
/-- fewer locals, in another order -/
theorem z_sub {lv' : List (Nat × Value)} (ks : List Nat) (h : lv_pick lv ks = lv') (k : zm_Z g post pc lv' st mem) : zm_Z g post pc lv st mem := by
  intro p l e s m args below meth c D c1 c2 ad A C H locs ls Dy hl
  refine k p l e s m args below meth c D c1 c2 ad A C H locs ls Dy (lv_sub hl ks ?_)
  rw [← h]
  simp [zm_lv, lv_pick, List.map_filterMap, Function.comp_def]
  
theorem z_iconst {n : Int} {v : Int32} (hd : decode g.2.1 pc = .ok (.iconst n, 1)) (hv : Int32.ofInt n = v) (k : zm_Z g post (pc + 1) lv (.int v :: st) mem) : zm_Z g post pc lv (st) mem := by
  intro p l e s m args below meth c D c1 c2 ad A C H locs ls Dy hl
  exact lv_iconst C.1 C.2.1 hd hv (k p l e s m args below meth c D c1 c2 ad A C H locs ls Dy hl)
theorem z_bipush {n : Int} {v : Int32} (hd : decode g.2.1 pc = .ok (.bipush n, 2)) (hv : (Int8.ofInt n).toInt32 = v) (k : zm_Z g post (pc + 2) lv (.int v :: st) mem) : zm_Z g post pc lv (st) mem := by
  intro p l e s m args below meth c D c1 c2 ad A C H locs ls Dy hl
  exact lv_bipush C.1 C.2.1 hd hv (k p l e s m args below meth c D c1 c2 ad A C H locs ls Dy hl)
theorem z_sipush {n : Int} {v : Int32} (hd : decode g.2.1 pc = .ok (.sipush n, 3)) (hv : (Int16.ofInt n).toInt32 = v) (k : zm_Z g post (pc + 3) lv (.int v :: st) mem) : zm_Z g post pc lv (st) mem := by
  intro p l e s m args below meth c D c1 c2 ad A C H locs ls Dy hl
  exact lv_sipush C.1 C.2.1 hd hv (k p l e s m args below meth c D c1 c2 ad A C H locs ls Dy hl)
theorem z_lconst {n : Fin 2} {v : Int64} (hd : decode g.2.1 pc = .ok (.lconst n, 1)) (hv : Int64.ofNat (n : Nat) = v) (k : zm_Z g post (pc + 1) lv (.long v :: st) mem) : zm_Z g post pc lv (st) mem := by
  intro p l e s m args below meth c D c1 c2 ad A C H locs ls Dy hl
  exact lv_lconst C.1 C.2.1 hd hv (k p l e s m args below meth c D c1 c2 ad A C H locs ls Dy hl)
theorem z_ldc2 {idx : Nat} {v : Int64} (hd : decode g.2.1 pc = .ok (.ldc2_w idx, 3)) (hc : Cond.constantLong g.1.cls idx v ∈ zm_tb) (k : zm_Z g post (pc + 3) lv (.long v :: st) mem) : zm_Z g post pc lv (st) mem := by
  intro p l e s m args below meth c D c1 c2 ad A C H locs ls Dy hl
  exact lv_ldc2 C.1 C.2.1 C.2.2.2.2.2.1 (C.2.2.2.2.2.2.1 _ hc) hd (k p l e s m args below meth c D c1 c2 ad A C H locs ls Dy hl)
theorem z_ldcw {idx : Nat} {v : Int32} (hd : decode g.2.1 pc = .ok (.ldc_w idx, 3)) (hc : Cond.constant g.1.cls idx v ∈ zm_tb) (k : zm_Z g post (pc + 3) lv (.int v :: st) mem) : zm_Z g post pc lv (st) mem := by
  intro p l e s m args below meth c D c1 c2 ad A C H locs ls Dy hl
  exact lv_ldcw C.1 C.2.1 C.2.2.2.2.2.1 (C.2.2.2.2.2.2.1 _ hc) hd (k p l e s m args below meth c D c1 c2 ad A C H locs ls Dy hl)
theorem z_iload_n {n : Fin 4} {i : Nat} {x : Int32} (hd : decode g.2.1 pc = .ok (.iload_n n, 1)) (hi : (n : Nat) = i) (j : Nat) (h : lv[j]? = some (i, .int x)) (k : zm_Z g post (pc + 1) lv (.int x :: st) mem) : zm_Z g post pc lv (st) mem := by
  intro p l e s m args below meth c D c1 c2 ad A C H locs ls Dy hl
  exact lv_iload_n C.1 C.2.1 hd hi (zm_lv_at hl h) (k p l e s m args below meth c D c1 c2 ad A C H locs ls Dy hl)
theorem z_iload {i : Nat} {x : Int32} (hd : decode g.2.1 pc = .ok (.iload i, 2)) (j : Nat) (h : lv[j]? = some (i, .int x)) (k : zm_Z g post (pc + 2) lv (.int x :: st) mem) : zm_Z g post pc lv (st) mem := by
  intro p l e s m args below meth c D c1 c2 ad A C H locs ls Dy hl
  exact lv_iload C.1 C.2.1 hd (zm_lv_at hl h) (k p l e s m args below meth c D c1 c2 ad A C H locs ls Dy hl)
theorem z_lload_n {n : Fin 4} {i : Nat} {x : Int64} (hd : decode g.2.1 pc = .ok (.lload_n n, 1)) (hi : (n : Nat) = i) (j : Nat) (h : lv[j]? = some (i, .long x)) (k : zm_Z g post (pc + 1) lv (.long x :: st) mem) : zm_Z g post pc lv (st) mem := by
  intro p l e s m args below meth c D c1 c2 ad A C H locs ls Dy hl
  exact lv_lload_n C.1 C.2.1 hd hi (zm_lv_at hl h) (k p l e s m args below meth c D c1 c2 ad A C H locs ls Dy hl)
theorem z_lload {i : Nat} {x : Int64} (hd : decode g.2.1 pc = .ok (.lload i, 2)) (j : Nat) (h : lv[j]? = some (i, .long x)) (k : zm_Z g post (pc + 2) lv (.long x :: st) mem) : zm_Z g post pc lv (st) mem := by
  intro p l e s m args below meth c D c1 c2 ad A C H locs ls Dy hl
  exact lv_lload C.1 C.2.1 hd (zm_lv_at hl h) (k p l e s m args below meth c D c1 c2 ad A C H locs ls Dy hl)
theorem z_aload_n {n : Fin 4} {i : Nat} {x : Nat} (hd : decode g.2.1 pc = .ok (.aload_n n, 1)) (hi : (n : Nat) = i) (j : Nat) (h : lv[j]? = some (i, .ref x)) (k : zm_Z g post (pc + 1) lv (.ref x :: st) mem) : zm_Z g post pc lv (st) mem := by
  intro p l e s m args below meth c D c1 c2 ad A C H locs ls Dy hl
  exact lv_aload_n C.1 C.2.1 hd hi (zm_lv_at hl h) (k p l e s m args below meth c D c1 c2 ad A C H locs ls Dy hl)
theorem z_istore_n {i : Nat} {n : Fin 4} {x : Int32} {lv' : List (Nat × Value)} (hd : decode g.2.1 pc = .ok (.istore_n n, 1)) (hi : (n : Nat) = i) (hn : i < g.2.2.1) (hp : zm_put1 i (.int x) lv = lv') (k : zm_Z g post (pc + 1) lv' st mem) : zm_Z g post pc lv (.int x :: st) mem := by
  intro p l e s m args below meth c D c1 c2 ad A C H locs ls Dy hl
  exact lv_istore_n C.1 C.2.1 hd hi hl hn ((zm_put1_map ad i (.int x) lv).trans (by rw [hp])) (fun ls hl => k p l e s m args below meth c D c1 c2 ad A C H locs ls Dy hl)
theorem z_istore {i : Nat} {x : Int32} {lv' : List (Nat × Value)} (hd : decode g.2.1 pc = .ok (.istore i, 2)) (hn : i < g.2.2.1) (hp : zm_put1 i (.int x) lv = lv') (k : zm_Z g post (pc + 2) lv' st mem) : zm_Z g post pc lv (.int x :: st) mem := by
  intro p l e s m args below meth c D c1 c2 ad A C H locs ls Dy hl
  exact lv_istore C.1 C.2.1 hd hl hn ((zm_put1_map ad i (.int x) lv).trans (by rw [hp])) (fun ls hl => k p l e s m args below meth c D c1 c2 ad A C H locs ls Dy hl)
theorem z_lstore_n {i : Nat} {n : Fin 4} {x : Int64} {lv' : List (Nat × Value)} (hd : decode g.2.1 pc = .ok (.lstore_n n, 1)) (hi : (n : Nat) = i) (hn : i + 1 < g.2.2.1) (hp : zm_put2 i (.long x) lv = lv') (k : zm_Z g post (pc + 1) lv' st mem) : zm_Z g post pc lv (.long x :: st) mem := by
  intro p l e s m args below meth c D c1 c2 ad A C H locs ls Dy hl
  exact lv_lstore_n C.1 C.2.1 hd hi hl hn ((zm_put2_map ad i (.long x) lv).trans (by rw [hp])) (fun ls hl => k p l e s m args below meth c D c1 c2 ad A C H locs ls Dy hl)
theorem z_lstore {i : Nat} {x : Int64} {lv' : List (Nat × Value)} (hd : decode g.2.1 pc = .ok (.lstore i, 2)) (hn : i + 1 < g.2.2.1) (hp : zm_put2 i (.long x) lv = lv') (k : zm_Z g post (pc + 2) lv' st mem) : zm_Z g post pc lv (.long x :: st) mem := by
  intro p l e s m args below meth c D c1 c2 ad A C H locs ls Dy hl
  exact lv_lstore C.1 C.2.1 hd hl hn ((zm_put2_map ad i (.long x) lv).trans (by rw [hp])) (fun ls hl => k p l e s m args below meth c D c1 c2 ad A C H locs ls Dy hl)
theorem z_iinc {i : Nat} {n : Int} {x v : Int32} {lv' : List (Nat × Value)} (hd : decode g.2.1 pc = .ok (.iinc i n, 3)) (j : Nat) (h : lv[j]? = some (i, .int x)) (hv : x + Int32.ofInt n = v) (hn : i < g.2.2.1) (hp : zm_put1 i (.int v) lv = lv') (k : zm_Z g post (pc + 3) lv' st mem) : zm_Z g post pc lv st mem := by
  intro p l e s m args below meth c D c1 c2 ad A C H locs ls Dy hl
  exact lv_iinc C.1 C.2.1 hd hl (k := j) (by simp [zm_lv, List.getElem?_map, h]; rfl) hv hn ((zm_put1_map ad i (.int v) lv).trans (by rw [hp])) (fun ls hl => k p l e s m args below meth c D c1 c2 ad A C H locs ls Dy hl)
theorem z_iadd {x y : Int32} (hd : decode g.2.1 pc = .ok (.iadd, 1)) (k : zm_Z g post (pc + 1) lv (.int (x + y) :: st) mem) : zm_Z g post pc lv (.int y :: .int x :: st) mem := by
  intro p l e s m args below meth c D c1 c2 ad A C H locs ls Dy hl
  exact lv_iadd C.1 C.2.1 hd (k p l e s m args below meth c D c1 c2 ad A C H locs ls Dy hl)
theorem z_isub {x y : Int32} (hd : decode g.2.1 pc = .ok (.isub, 1)) (k : zm_Z g post (pc + 1) lv (.int (x - y) :: st) mem) : zm_Z g post pc lv (.int y :: .int x :: st) mem := by
  intro p l e s m args below meth c D c1 c2 ad A C H locs ls Dy hl
  exact lv_isub C.1 C.2.1 hd (k p l e s m args below meth c D c1 c2 ad A C H locs ls Dy hl)
theorem z_imul {x y : Int32} (hd : decode g.2.1 pc = .ok (.imul, 1)) (k : zm_Z g post (pc + 1) lv (.int (x * y) :: st) mem) : zm_Z g post pc lv (.int y :: .int x :: st) mem := by
  intro p l e s m args below meth c D c1 c2 ad A C H locs ls Dy hl
  exact lv_imul C.1 C.2.1 hd (k p l e s m args below meth c D c1 c2 ad A C H locs ls Dy hl)
theorem z_iand {x y : Int32} (hd : decode g.2.1 pc = .ok (.iand, 1)) (k : zm_Z g post (pc + 1) lv (.int (x &&& y) :: st) mem) : zm_Z g post pc lv (.int y :: .int x :: st) mem := by
  intro p l e s m args below meth c D c1 c2 ad A C H locs ls Dy hl
  exact lv_iand C.1 C.2.1 hd (k p l e s m args below meth c D c1 c2 ad A C H locs ls Dy hl)
theorem z_ior {x y : Int32} (hd : decode g.2.1 pc = .ok (.ior, 1)) (k : zm_Z g post (pc + 1) lv (.int (x ||| y) :: st) mem) : zm_Z g post pc lv (.int y :: .int x :: st) mem := by
  intro p l e s m args below meth c D c1 c2 ad A C H locs ls Dy hl
  exact lv_ior C.1 C.2.1 hd (k p l e s m args below meth c D c1 c2 ad A C H locs ls Dy hl)
theorem z_ixor {x y : Int32} (hd : decode g.2.1 pc = .ok (.ixor, 1)) (k : zm_Z g post (pc + 1) lv (.int (x ^^^ y) :: st) mem) : zm_Z g post pc lv (.int y :: .int x :: st) mem := by
  intro p l e s m args below meth c D c1 c2 ad A C H locs ls Dy hl
  exact lv_ixor C.1 C.2.1 hd (k p l e s m args below meth c D c1 c2 ad A C H locs ls Dy hl)
theorem z_ishl {x y : Int32} (hd : decode g.2.1 pc = .ok (.ishl, 1)) (k : zm_Z g post (pc + 1) lv (.int (x <<< (y &&& 31)) :: st) mem) : zm_Z g post pc lv (.int y :: .int x :: st) mem := by
  intro p l e s m args below meth c D c1 c2 ad A C H locs ls Dy hl
  exact lv_ishl C.1 C.2.1 hd (k p l e s m args below meth c D c1 c2 ad A C H locs ls Dy hl)
theorem z_ishr {x y : Int32} (hd : decode g.2.1 pc = .ok (.ishr, 1)) (k : zm_Z g post (pc + 1) lv (.int (x >>> (y &&& 31)) :: st) mem) : zm_Z g post pc lv (.int y :: .int x :: st) mem := by
  intro p l e s m args below meth c D c1 c2 ad A C H locs ls Dy hl
  exact lv_ishr C.1 C.2.1 hd (k p l e s m args below meth c D c1 c2 ad A C H locs ls Dy hl)
theorem z_idiv {x y : Int32} (hd : decode g.2.1 pc = .ok (.idiv, 1)) (hne : ¬ y = 0) (k : zm_Z g post (pc + 1) lv (.int (x / y) :: st) mem) : zm_Z g post pc lv (.int y :: .int x :: st) mem := by
  intro p l e s m args below meth c D c1 c2 ad A C H locs ls Dy hl
  exact lv_idiv C.1 C.2.1 hd hne (k p l e s m args below meth c D c1 c2 ad A C H locs ls Dy hl)
theorem z_irem {x y : Int32} (hd : decode g.2.1 pc = .ok (.irem, 1)) (hne : ¬ y = 0) (k : zm_Z g post (pc + 1) lv (.int (x - x / y * y) :: st) mem) : zm_Z g post pc lv (.int y :: .int x :: st) mem := by
  intro p l e s m args below meth c D c1 c2 ad A C H locs ls Dy hl
  exact lv_irem C.1 C.2.1 hd hne (k p l e s m args below meth c D c1 c2 ad A C H locs ls Dy hl)
theorem z_iushr {x y v : Int32} (hd : decode g.2.1 pc = .ok (.iushr, 1)) (hv : (x.toUInt32 >>> (y.toUInt32 &&& Int32.toUInt32 31)).toInt32 = v) (k : zm_Z g post (pc + 1) lv (.int v :: st) mem) : zm_Z g post pc lv (.int y :: .int x :: st) mem := by
  intro p l e s m args below meth c D c1 c2 ad A C H locs ls Dy hl
  exact lv_iushr C.1 C.2.1 hd hv (k p l e s m args below meth c D c1 c2 ad A C H locs ls Dy hl)
theorem z_ineg {x : Int32} (hd : decode g.2.1 pc = .ok (.ineg, 1)) (k : zm_Z g post (pc + 1) lv (.int (-x) :: st) mem) : zm_Z g post pc lv (.int x :: st) mem := by
  intro p l e s m args below meth c D c1 c2 ad A C H locs ls Dy hl
  exact lv_ineg C.1 C.2.1 hd (k p l e s m args below meth c D c1 c2 ad A C H locs ls Dy hl)
theorem z_ladd {x y : Int64} (hd : decode g.2.1 pc = .ok (.ladd, 1)) (k : zm_Z g post (pc + 1) lv (.long (x + y) :: st) mem) : zm_Z g post pc lv (.long y :: .long x :: st) mem := by
  intro p l e s m args below meth c D c1 c2 ad A C H locs ls Dy hl
  exact lv_ladd C.1 C.2.1 hd (k p l e s m args below meth c D c1 c2 ad A C H locs ls Dy hl)
theorem z_lmul {x y : Int64} (hd : decode g.2.1 pc = .ok (.lmul, 1)) (k : zm_Z g post (pc + 1) lv (.long (x * y) :: st) mem) : zm_Z g post pc lv (.long y :: .long x :: st) mem := by
  intro p l e s m args below meth c D c1 c2 ad A C H locs ls Dy hl
  exact lv_lmul C.1 C.2.1 hd (k p l e s m args below meth c D c1 c2 ad A C H locs ls Dy hl)
theorem z_ldiv {x y : Int64} (hd : decode g.2.1 pc = .ok (.ldiv, 1)) (hne : ¬ y = 0) (k : zm_Z g post (pc + 1) lv (.long (x / y) :: st) mem) : zm_Z g post pc lv (.long y :: .long x :: st) mem := by
  intro p l e s m args below meth c D c1 c2 ad A C H locs ls Dy hl
  exact lv_ldiv C.1 C.2.1 hd hne (k p l e s m args below meth c D c1 c2 ad A C H locs ls Dy hl)
theorem z_i2l {x : Int32} (hd : decode g.2.1 pc = .ok (.i2l, 1)) (k : zm_Z g post (pc + 1) lv (.long x.toInt64 :: st) mem) : zm_Z g post pc lv (.int x :: st) mem := by
  intro p l e s m args below meth c D c1 c2 ad A C H locs ls Dy hl
  exact lv_i2l C.1 C.2.1 hd rfl (k p l e s m args below meth c D c1 c2 ad A C H locs ls Dy hl)
theorem z_lcmp {x y : Int64} (hd : decode g.2.1 pc = .ok (.lcmp, 1)) (k : zm_Z g post (pc + 1) lv (.int (lg_cmp x y) :: st) mem) : zm_Z g post pc lv (.long y :: .long x :: st) mem := by
  intro p l e s m args below meth c D c1 c2 ad A C H locs ls Dy hl
  exact W.lcmp C.1 C.2.1 hd (k p l e s m args below meth c D c1 c2 ad A C H locs ls Dy hl)
theorem z_dupi {x : Int32} (hd : decode g.2.1 pc = .ok (.dup, 1)) (k : zm_Z g post (pc + 1) lv (.int x :: .int x :: st) mem) : zm_Z g post pc lv (.int x :: st) mem := by
  intro p l e s m args below meth c D c1 c2 ad A C H locs ls Dy hl
  exact lv_dup C.1 C.2.1 hd rfl (k p l e s m args below meth c D c1 c2 ad A C H locs ls Dy hl)
theorem z_dupr {x : Nat} (hd : decode g.2.1 pc = .ok (.dup, 1)) (k : zm_Z g post (pc + 1) lv (.ref x :: .ref x :: st) mem) : zm_Z g post pc lv (.ref x :: st) mem := by
  intro p l e s m args below meth c D c1 c2 ad A C H locs ls Dy hl
  exact lv_dup C.1 C.2.1 hd rfl (k p l e s m args below meth c D c1 c2 ad A C H locs ls Dy hl)
theorem z_dup2 {x : Nat} {y : Int32} (hd : decode g.2.1 pc = .ok (.dup2, 1)) (k : zm_Z g post (pc + 1) lv (.int y :: .ref x :: .int y :: .ref x :: st) mem) : zm_Z g post pc lv (.int y :: .ref x :: st) mem := by
  intro p l e s m args below meth c D c1 c2 ad A C H locs ls Dy hl
  exact lv_dup2_11 C.1 C.2.1 hd rfl rfl (k p l e s m args below meth c D c1 c2 ad A C H locs ls Dy hl)
theorem z_popi {x : Int32} (hd : decode g.2.1 pc = .ok (.pop, 1)) (k : zm_Z g post (pc + 1) lv (st) mem) : zm_Z g post pc lv (.int x :: st) mem := by
  intro p l e s m args below meth c D c1 c2 ad A C H locs ls Dy hl
  exact lv_pop C.1 C.2.1 hd rfl (k p l e s m args below meth c D c1 c2 ad A C H locs ls Dy hl)
theorem z_if_eq {x : Int32} {off : Int} {tgt : Nat} (hd : decode g.2.1 pc = .ok (.ifCond .eq off, 3)) (ht : (pc : Int) + off = (tgt : Int)) (kt : x = 0 → zm_Z g post tgt lv st mem) (kf : ¬ x = 0 → zm_Z g post (pc + 3) lv st mem) : zm_Z g post pc lv (.int x :: st) mem := by
  intro p l e s m args below meth c D c1 c2 ad A C H locs ls Dy hl
  exact lv_if_eq C.1 C.2.1 hd ht (fun q => kt q p l e s m args below meth c D c1 c2 ad A C H locs ls Dy hl) (fun q => kf q p l e s m args below meth c D c1 c2 ad A C H locs ls Dy hl)
theorem z_icmp_eq {x y : Int32} {off : Int} {tgt : Nat} (hd : decode g.2.1 pc = .ok (.if_icmp .eq off, 3)) (ht : (pc : Int) + off = (tgt : Int)) (kt : x = y → zm_Z g post tgt lv st mem) (kf : ¬ x = y → zm_Z g post (pc + 3) lv st mem) : zm_Z g post pc lv (.int y :: .int x :: st) mem := by
  intro p l e s m args below meth c D c1 c2 ad A C H locs ls Dy hl
  exact lv_icmp_eq C.1 C.2.1 hd ht (fun q => kt q p l e s m args below meth c D c1 c2 ad A C H locs ls Dy hl) (fun q => kf q p l e s m args below meth c D c1 c2 ad A C H locs ls Dy hl)
theorem z_if_ne {x : Int32} {off : Int} {tgt : Nat} (hd : decode g.2.1 pc = .ok (.ifCond .ne off, 3)) (ht : (pc : Int) + off = (tgt : Int)) (kt : ¬ x = 0 → zm_Z g post tgt lv st mem) (kf : x = 0 → zm_Z g post (pc + 3) lv st mem) : zm_Z g post pc lv (.int x :: st) mem := by
  intro p l e s m args below meth c D c1 c2 ad A C H locs ls Dy hl
  exact lv_if_ne C.1 C.2.1 hd ht (fun q => kt q p l e s m args below meth c D c1 c2 ad A C H locs ls Dy hl) (fun q => kf q p l e s m args below meth c D c1 c2 ad A C H locs ls Dy hl)
theorem z_icmp_ne {x y : Int32} {off : Int} {tgt : Nat} (hd : decode g.2.1 pc = .ok (.if_icmp .ne off, 3)) (ht : (pc : Int) + off = (tgt : Int)) (kt : ¬ x = y → zm_Z g post tgt lv st mem) (kf : x = y → zm_Z g post (pc + 3) lv st mem) : zm_Z g post pc lv (.int y :: .int x :: st) mem := by
  intro p l e s m args below meth c D c1 c2 ad A C H locs ls Dy hl
  exact lv_icmp_ne C.1 C.2.1 hd ht (fun q => kt q p l e s m args below meth c D c1 c2 ad A C H locs ls Dy hl) (fun q => kf q p l e s m args below meth c D c1 c2 ad A C H locs ls Dy hl)
theorem z_if_lt {x : Int32} {off : Int} {tgt : Nat} (hd : decode g.2.1 pc = .ok (.ifCond .lt off, 3)) (ht : (pc : Int) + off = (tgt : Int)) (kt : x < 0 → zm_Z g post tgt lv st mem) (kf : ¬ x < 0 → zm_Z g post (pc + 3) lv st mem) : zm_Z g post pc lv (.int x :: st) mem := by
  intro p l e s m args below meth c D c1 c2 ad A C H locs ls Dy hl
  exact lv_if_lt C.1 C.2.1 hd ht (fun q => kt q p l e s m args below meth c D c1 c2 ad A C H locs ls Dy hl) (fun q => kf q p l e s m args below meth c D c1 c2 ad A C H locs ls Dy hl)
theorem z_icmp_lt {x y : Int32} {off : Int} {tgt : Nat} (hd : decode g.2.1 pc = .ok (.if_icmp .lt off, 3)) (ht : (pc : Int) + off = (tgt : Int)) (kt : x < y → zm_Z g post tgt lv st mem) (kf : ¬ x < y → zm_Z g post (pc + 3) lv st mem) : zm_Z g post pc lv (.int y :: .int x :: st) mem := by
  intro p l e s m args below meth c D c1 c2 ad A C H locs ls Dy hl
  exact lv_icmp_lt C.1 C.2.1 hd ht (fun q => kt q p l e s m args below meth c D c1 c2 ad A C H locs ls Dy hl) (fun q => kf q p l e s m args below meth c D c1 c2 ad A C H locs ls Dy hl)
theorem z_if_ge {x : Int32} {off : Int} {tgt : Nat} (hd : decode g.2.1 pc = .ok (.ifCond .ge off, 3)) (ht : (pc : Int) + off = (tgt : Int)) (kt : 0 ≤ x → zm_Z g post tgt lv st mem) (kf : ¬ 0 ≤ x → zm_Z g post (pc + 3) lv st mem) : zm_Z g post pc lv (.int x :: st) mem := by
  intro p l e s m args below meth c D c1 c2 ad A C H locs ls Dy hl
  exact lv_if_ge C.1 C.2.1 hd ht (fun q => kt q p l e s m args below meth c D c1 c2 ad A C H locs ls Dy hl) (fun q => kf q p l e s m args below meth c D c1 c2 ad A C H locs ls Dy hl)
theorem z_icmp_ge {x y : Int32} {off : Int} {tgt : Nat} (hd : decode g.2.1 pc = .ok (.if_icmp .ge off, 3)) (ht : (pc : Int) + off = (tgt : Int)) (kt : y ≤ x → zm_Z g post tgt lv st mem) (kf : ¬ y ≤ x → zm_Z g post (pc + 3) lv st mem) : zm_Z g post pc lv (.int y :: .int x :: st) mem := by
  intro p l e s m args below meth c D c1 c2 ad A C H locs ls Dy hl
  exact lv_icmp_ge C.1 C.2.1 hd ht (fun q => kt q p l e s m args below meth c D c1 c2 ad A C H locs ls Dy hl) (fun q => kf q p l e s m args below meth c D c1 c2 ad A C H locs ls Dy hl)
theorem z_if_gt {x : Int32} {off : Int} {tgt : Nat} (hd : decode g.2.1 pc = .ok (.ifCond .gt off, 3)) (ht : (pc : Int) + off = (tgt : Int)) (kt : 0 < x → zm_Z g post tgt lv st mem) (kf : ¬ 0 < x → zm_Z g post (pc + 3) lv st mem) : zm_Z g post pc lv (.int x :: st) mem := by
  intro p l e s m args below meth c D c1 c2 ad A C H locs ls Dy hl
  exact lv_if_gt C.1 C.2.1 hd ht (fun q => kt q p l e s m args below meth c D c1 c2 ad A C H locs ls Dy hl) (fun q => kf q p l e s m args below meth c D c1 c2 ad A C H locs ls Dy hl)
theorem z_icmp_gt {x y : Int32} {off : Int} {tgt : Nat} (hd : decode g.2.1 pc = .ok (.if_icmp .gt off, 3)) (ht : (pc : Int) + off = (tgt : Int)) (kt : y < x → zm_Z g post tgt lv st mem) (kf : ¬ y < x → zm_Z g post (pc + 3) lv st mem) : zm_Z g post pc lv (.int y :: .int x :: st) mem := by
  intro p l e s m args below meth c D c1 c2 ad A C H locs ls Dy hl
  exact lv_icmp_gt C.1 C.2.1 hd ht (fun q => kt q p l e s m args below meth c D c1 c2 ad A C H locs ls Dy hl) (fun q => kf q p l e s m args below meth c D c1 c2 ad A C H locs ls Dy hl)
theorem z_if_le {x : Int32} {off : Int} {tgt : Nat} (hd : decode g.2.1 pc = .ok (.ifCond .le off, 3)) (ht : (pc : Int) + off = (tgt : Int)) (kt : x ≤ 0 → zm_Z g post tgt lv st mem) (kf : ¬ x ≤ 0 → zm_Z g post (pc + 3) lv st mem) : zm_Z g post pc lv (.int x :: st) mem := by
  intro p l e s m args below meth c D c1 c2 ad A C H locs ls Dy hl
  exact lv_if_le C.1 C.2.1 hd ht (fun q => kt q p l e s m args below meth c D c1 c2 ad A C H locs ls Dy hl) (fun q => kf q p l e s m args below meth c D c1 c2 ad A C H locs ls Dy hl)
theorem z_icmp_le {x y : Int32} {off : Int} {tgt : Nat} (hd : decode g.2.1 pc = .ok (.if_icmp .le off, 3)) (ht : (pc : Int) + off = (tgt : Int)) (kt : x ≤ y → zm_Z g post tgt lv st mem) (kf : ¬ x ≤ y → zm_Z g post (pc + 3) lv st mem) : zm_Z g post pc lv (.int y :: .int x :: st) mem := by
  intro p l e s m args below meth c D c1 c2 ad A C H locs ls Dy hl
  exact lv_icmp_le C.1 C.2.1 hd ht (fun q => kt q p l e s m args below meth c D c1 c2 ad A C H locs ls Dy hl) (fun q => kf q p l e s m args below meth c D c1 c2 ad A C H locs ls Dy hl)
theorem z_goto {off : Int} {tgt : Nat} (hd : decode g.2.1 pc = .ok (.goto off, 3)) (ht : (pc : Int) + off = (tgt : Int)) (k : zm_Z g post tgt lv st mem) : zm_Z g post pc lv st mem := by
  intro p l e s m args below meth c D c1 c2 ad A C H locs ls Dy hl
  exact lv_goto C.1 C.2.1 hd ht (k p l e s m args below meth c D c1 c2 ad A C H locs ls Dy hl)
theorem z_tableOut {dflt lo hi : Int} {offs : Array Int} {len : Nat} {x : Int32} {tgt : Nat} (hd : decode g.2.1 pc = .ok (.tableswitch dflt lo hi offs, len)) (h : x.toInt < lo ∨ hi < x.toInt) (ht : (pc : Int) + dflt = (tgt : Int)) (k : zm_Z g post tgt lv st mem) : zm_Z g post pc lv (.int x :: st) mem := by
  intro p l e s m args below meth c D c1 c2 ad A C H locs ls Dy hl
  exact lv_tableOut C.1 C.2.1 hd h ht (k p l e s m args below meth c D c1 c2 ad A C H locs ls Dy hl)
theorem z_tableIn {dflt lo hi : Int} {offs : Array Int} {len : Nat} {x : Int32} {off : Int} {tgt : Nat} (hd : decode g.2.1 pc = .ok (.tableswitch dflt lo hi offs, len)) (h1 : ¬ x.toInt < lo) (h2 : ¬ hi < x.toInt) (ho : offs[(x.toInt - lo).toNat]? = some off) (ht : (pc : Int) + off = (tgt : Int)) (k : zm_Z g post tgt lv st mem) : zm_Z g post pc lv (.int x :: st) mem := by
  intro p l e s m args below meth c D c1 c2 ad A C H locs ls Dy hl
  exact lv_tableIn C.1 C.2.1 hd h1 h2 ho ht (k p l e s m args below meth c D c1 c2 ad A C H locs ls Dy hl)
theorem z_lookup {dflt : Int} {ps : Array (Int × Int)} {len : Nat} {x : Int32} {off : Int} {tgt : Nat} (hd : decode g.2.1 pc = .ok (.lookupswitch dflt ps, len)) (hp : (ps.toList.zip (ps.toList.drop 1)).all (fun (a, next) => a.1 < next.1) = true) (ho : Op.lookupswitch.offset ps.toList dflt x.toInt = off) (ht : (pc : Int) + off = (tgt : Int)) (k : zm_Z g post tgt lv st mem) : zm_Z g post pc lv (.int x :: st) mem := by
  intro p l e s m args below meth c D c1 c2 ad A C H locs ls Dy hl
  exact lv_lookup C.1 C.2.1 hd hp ho ht (k p l e s m args below meth c D c1 c2 ad A C H locs ls Dy hl)
theorem z_getr {ci j idx q r : Nat} {fl : List (Option Nat)} {Cn : String} {T : u_T} {N : Nat} (hs : zm_sh[q]? = some (.inl (ci, fl))) (hc : zm_classes[ci]? = some (Cn, T, N)) (hin : ∀ w ∈ u_ws Cn T N, w ∈ zm_tb) (hj : fl[j]? = some (some r)) (hN : j < N) (hk : Cond.fieldLink g.1.cls idx (T j).1 (T j).2.1 (T j).2.2.1 ∈ zm_tb) (hd : decode g.2.1 pc = .ok (.getfield idx, 3)) (k : zm_Z g post (pc + 3) lv (.ref r :: st) mem) : zm_Z g post pc lv (.ref q :: st) mem := by
  intro p l e s m args below meth c D c1 c2 ad A C H locs ls Dy hl
  exact va_get (D := D) C.1 C.2.1 C.2.2.2.2.2.2.1 hin C.2.2.2.2.2.1 C.2.2.2.2.2.2.2.1 Dy.1 q (zm_at hs) hc j hN (C.2.2.2.2.2.2.1 _ hk) (fun _ h9 => h9) (v := .ref (ad r)) (by simp [List.getElem?_mapIdx, hj, zm_fv]) hd (k p l e s m args below meth c D c1 c2 ad A C H locs ls Dy hl)
theorem z_geti {ci j idx q : Nat} {fl : List (Option Nat)} {Cn : String} {T : u_T} {N : Nat} (hs : zm_sh[q]? = some (.inl (ci, fl))) (hc : zm_classes[ci]? = some (Cn, T, N)) (hin : ∀ w ∈ u_ws Cn T N, w ∈ zm_tb) (hj : fl[j]? = some none) (hN : j < N) (hk : Cond.fieldLink g.1.cls idx (T j).1 (T j).2.1 (T j).2.2.1 ∈ zm_tb) (hd : decode g.2.1 pc = .ok (.getfield idx, 3)) (k : zm_Z g post (pc + 3) lv (.int (mem q j) :: st) mem) : zm_Z g post pc lv (.ref q :: st) mem := by
  intro p l e s m args below meth c D c1 c2 ad A C H locs ls Dy hl
  exact va_get (D := D) C.1 C.2.1 C.2.2.2.2.2.2.1 hin C.2.2.2.2.2.1 C.2.2.2.2.2.2.2.1 Dy.1 q (zm_at hs) hc j hN (C.2.2.2.2.2.2.1 _ hk) (fun _ h9 => h9) (v := .int (mem q j)) (by simp [List.getElem?_mapIdx, hj, zm_fv]) hd (k p l e s m args below meth c D c1 c2 ad A C H locs ls Dy hl)
theorem z_getrN {ci j idx q r : Nat} {fl : List (Option Nat)} {Cn host : String} {T : u_T} {N : Nat} (hs : zm_sh[q]? = some (.inl (ci, fl))) (hc : zm_classes[ci]? = some (Cn, T, N)) (hin : ∀ w ∈ u_ws Cn T N, w ∈ zm_tb) (hj : fl[j]? = some (some r)) (hN : j < N) (hk : (g.1.cls, idx, (T j).1, (T j).2.1, (T j).2.2.1, host) ∈ zm_NW) (hd : decode g.2.1 pc = .ok (.getfield idx, 3)) (k : zm_Z g post (pc + 3) lv (.ref r :: st) mem) : zm_Z g post pc lv (.ref q :: st) mem := by
  intro p l e s m args below meth c D c1 c2 ad A C H locs ls Dy hl
  exact va_getN (D := D) C.1 C.2.1 C.2.2.2.2.2.2.1 hin C.2.2.2.2.2.1 C.2.2.2.2.2.2.2.1 Dy.1 q (zm_at hs) hc j hN (va_Nw.use rfl (C.2.2.2.2.2.2.2.2.2.1 _ hk)) (fun _ h9 => h9) (v := .ref (ad r)) (by simp [List.getElem?_mapIdx, hj, zm_fv]) hd (k p l e s m args below meth c D c1 c2 ad A C H locs ls Dy hl)
theorem z_getiN {ci j idx q : Nat} {fl : List (Option Nat)} {Cn host : String} {T : u_T} {N : Nat} (hs : zm_sh[q]? = some (.inl (ci, fl))) (hc : zm_classes[ci]? = some (Cn, T, N)) (hin : ∀ w ∈ u_ws Cn T N, w ∈ zm_tb) (hj : fl[j]? = some none) (hN : j < N) (hk : (g.1.cls, idx, (T j).1, (T j).2.1, (T j).2.2.1, host) ∈ zm_NW) (hd : decode g.2.1 pc = .ok (.getfield idx, 3)) (k : zm_Z g post (pc + 3) lv (.int (mem q j) :: st) mem) : zm_Z g post pc lv (.ref q :: st) mem := by
  intro p l e s m args below meth c D c1 c2 ad A C H locs ls Dy hl
  exact va_getN (D := D) C.1 C.2.1 C.2.2.2.2.2.2.1 hin C.2.2.2.2.2.1 C.2.2.2.2.2.2.2.1 Dy.1 q (zm_at hs) hc j hN (va_Nw.use rfl (C.2.2.2.2.2.2.2.2.2.1 _ hk)) (fun _ h9 => h9) (v := .int (mem q j)) (by simp [List.getElem?_mapIdx, hj, zm_fv]) hd (k p l e s m args below meth c D c1 c2 ad A C H locs ls Dy hl)
theorem zm_fields_set {ad : Nat → Nat} {mem : zm_Mem} {q j : Nat} {x : Int32} {fl : List (Option Nat)} (hj : fl[j]? = some none) : (fl.mapIdx (zm_fv ad (mem q))).set j (.int x) = fl.mapIdx (zm_fv ad (zm_st mem q j x q)) := by
  apply List.ext_getElem?
  intro i
  have hl : j < fl.length := (List.getElem?_eq_some_iff.mp hj).1
  by_cases hi : i = j
  · subst hi
    rw [List.getElem?_set_self (by simpa using hl)]
    simp [List.getElem?_mapIdx, hj, zm_fv, zm_st]
  · rw [List.getElem?_set_ne (Ne.symm hi)]
    simp only [List.getElem?_mapIdx]
    congr 1
    funext a
    cases a <;> simp [zm_fv, zm_st, hi]
theorem z_put {ci j idx q : Nat} {x : Int32} {fl : List (Option Nat)} {Cn : String} {T : u_T} {N : Nat} {ty0 : Nat → FieldType} (hs : zm_sh[q]? = some (.inl (ci, fl))) (hc : zm_classes[ci]? = some (Cn, T, N)) (hin : ∀ w ∈ u_ws Cn T N, w ∈ zm_tb) (hty : ∀ k, k < N → parseFieldDescriptor (T k).2.2.1 = some (ty0 k)) (hnm : ∀ a, a < N → ∀ b, b < N → a ≠ b → (T a).2.1 ≠ (T b).2.1) (hj : fl[j]? = some none) (hN : j < N) (hk : Cond.fieldLink g.1.cls idx (T j).1 (T j).2.1 (T j).2.2.1 ∈ zm_tb) (hf : (T j).2.2.2 = false) (hn : narrow (ty0 j) (.int x) = .int x) (hfit : fits (ty0 j) (.int x) = true) (hd : decode g.2.1 pc = .ok (.putfield idx, 3)) (k : zm_Z g post (pc + 3) lv st (zm_st mem q j x)) : zm_Z g post pc lv (.int x :: .ref q :: st) mem := by
  intro p l e s m args below meth c D c1 c2 ad A C H locs ls Dy hl
  have hl2 : j < fl.length := (List.getElem?_eq_some_iff.mp hj).1
  refine va_put (D := D) C.1 C.2.1 C.2.2.2.2.2.2.1 hin ty0 hty hnm C.2.2.2.2.2.1 C.2.2.2.2.2.2.2.1 Dy.1 Dy.2.1 Dy.2.2 q (zm_at hs) hc j hN (C.2.2.2.2.2.2.1 _ hk) (fun _ h9 => h9) hf (v := .int x) (hty j hN) hn hfit (by simpa using hl2) hd (fun H1 locs1 hP hD hS => ?_)
  have e0 : (Sum.inr (ci, (fl.mapIdx (zm_fv ad (mem q))).set j (.int x)) : va_E) = zm_cell c1 c2 ad (zm_st mem q j x q) (.inl (ci, fl)) := by
    rw [zm_fields_set hj]
    rfl
  have e1 := zm_set (c1 := c1) (c2 := c2) (ad := ad) (mem := mem) (mem' := zm_st mem q j x) hs (fun q' hq' => by funext j'; simp [zm_st, hq'])
  rw [e0, e1] at hP hD
  exact k p l e s m args below meth c D c1 c2 ad A C H1 locs1 ls ⟨hP, hD, hS⟩ hl
theorem z_putN {ci j idx q : Nat} {x : Int32} {fl : List (Option Nat)} {Cn host : String} {T : u_T} {N : Nat} {ty0 : Nat → FieldType} (hs : zm_sh[q]? = some (.inl (ci, fl))) (hc : zm_classes[ci]? = some (Cn, T, N)) (hin : ∀ w ∈ u_ws Cn T N, w ∈ zm_tb) (hty : ∀ k, k < N → parseFieldDescriptor (T k).2.2.1 = some (ty0 k)) (hnm : ∀ a, a < N → ∀ b, b < N → a ≠ b → (T a).2.1 ≠ (T b).2.1) (hj : fl[j]? = some none) (hN : j < N) (hk : (g.1.cls, idx, (T j).1, (T j).2.1, (T j).2.2.1, host) ∈ zm_NW) (hf : (T j).2.2.2 = false) (hn : narrow (ty0 j) (.int x) = .int x) (hfit : fits (ty0 j) (.int x) = true) (hd : decode g.2.1 pc = .ok (.putfield idx, 3)) (k : zm_Z g post (pc + 3) lv st (zm_st mem q j x)) : zm_Z g post pc lv (.int x :: .ref q :: st) mem := by
  intro p l e s m args below meth c D c1 c2 ad A C H locs ls Dy hl
  have hl2 : j < fl.length := (List.getElem?_eq_some_iff.mp hj).1
  refine va_putN (D := D) C.1 C.2.1 C.2.2.2.2.2.2.1 hin ty0 hty hnm C.2.2.2.2.2.1 C.2.2.2.2.2.2.2.1 Dy.1 Dy.2.1 Dy.2.2 q (zm_at hs) hc j hN (va_Nw.use rfl (C.2.2.2.2.2.2.2.2.2.1 _ hk)) (fun _ h9 => h9) hf (v := .int x) (hty j hN) hn hfit (by simpa using hl2) hd (fun H1 locs1 hP hD hS => ?_)
  have e0 : (Sum.inr (ci, (fl.mapIdx (zm_fv ad (mem q))).set j (.int x)) : va_E) = zm_cell c1 c2 ad (zm_st mem q j x q) (.inl (ci, fl)) := by
    rw [zm_fields_set hj]
    rfl
  have e1 := zm_set (c1 := c1) (c2 := c2) (ad := ad) (mem := mem) (mem' := zm_st mem q j x) hs (fun q' hq' => by funext j'; simp [zm_st, hq'])
  rw [e0, e1] at hP hD
  exact k p l e s m args below meth c D c1 c2 ad A C H1 locs1 ls ⟨hP, hD, hS⟩ hl
theorem z_iald {q n : Nat} {i : Int32} (hs : zm_sh[q]? = some (.inr (false, n))) (hin : vp_in i n) (hd : decode g.2.1 pc = .ok (.iaload, 1)) (k : zm_Z g post (pc + 1) lv (.int (mem q i.toNatClampNeg) :: st) mem) : zm_Z g post pc lv (.int i :: .ref q :: st) mem := by
  intro p l e s m args below meth c D c1 c2 ad A C H locs ls Dy hl
  exact va_iald (D := D) C.1 C.2.1 C.2.2.2.2.2.2.2.1 Dy.1 q 0 (cA := c1) (f := mem q) (zm_at hs) rfl hin hd (k p l e s m args below meth c D c1 c2 ad A C H locs ls Dy hl)
theorem z_bald {q n : Nat} {i : Int32} (hs : zm_sh[q]? = some (.inr (true, n))) (hin : vp_in i n) (hd : decode g.2.1 pc = .ok (.baload, 1)) (k : zm_Z g post (pc + 1) lv (.int (mem q i.toNatClampNeg) :: st) mem) : zm_Z g post pc lv (.int i :: .ref q :: st) mem := by
  intro p l e s m args below meth c D c1 c2 ad A C H locs ls Dy hl
  exact va_zald (D := D) C.1 C.2.1 C.2.2.2.2.2.2.2.1 Dy.1 q 1 (cA := c2) (f := mem q) (zm_at hs) rfl hin hd (k p l e s m args below meth c D c1 c2 ad A C H locs ls Dy hl)
theorem z_iast {q n : Nat} {i x : Int32} (hs : zm_sh[q]? = some (.inr (false, n))) (hin : vp_in i n) (hd : decode g.2.1 pc = .ok (.iastore, 1)) (k : zm_Z g post (pc + 1) lv st (zm_st mem q i.toNatClampNeg x)) : zm_Z g post pc lv (.int x :: .int i :: .ref q :: st) mem := by
  intro p l e s m args below meth c D c1 c2 ad A C H locs ls Dy hl
  refine va_iast (D := D) C.1 C.2.1 C.2.2.2.2.2.2.2.1 Dy.1 Dy.2.1 Dy.2.2 q 0 (cA := c1) (f := mem q) (zm_at hs) rfl hin hd (fun H1 locs1 hP hD hS => ?_)
  have e0 : zm_st mem q i.toNatClampNeg x q = upd (mem q) i.toNatClampNeg x := by funext j; simp [zm_st, upd]
  have e2 : (Sum.inl (c1, n, Sum.inl (upd (mem q) i.toNatClampNeg x)) : va_E) = zm_cell c1 c2 ad (zm_st mem q i.toNatClampNeg x q) (.inr (false, n)) := by
    rw [← e0]
    rfl
  have e1 := zm_set (c1 := c1) (c2 := c2) (ad := ad) (mem := mem) (mem' := zm_st mem q i.toNatClampNeg x) hs (fun q' hq' => by funext j'; simp [zm_st, hq'])
  rw [e2, e1] at hP hD
  exact k p l e s m args below meth c D c1 c2 ad A C H1 locs1 ls ⟨hP, hD, hS⟩ hl
theorem zm_nar {x : Int32} (h : x = 0 ∨ x = 1) : vp_nar .boolean x = x := by rcases h with rfl | rfl <;> decide
theorem z_bast {q n : Nat} {i x : Int32} (hs : zm_sh[q]? = some (.inr (true, n))) (hin : vp_in i n) (hb : x = 0 ∨ x = 1) (hd : decode g.2.1 pc = .ok (.bastore, 1)) (k : zm_Z g post (pc + 1) lv st (zm_st mem q i.toNatClampNeg x)) : zm_Z g post pc lv (.int x :: .int i :: .ref q :: st) mem := by
  intro p l e s m args below meth c D c1 c2 ad A C H locs ls Dy hl
  refine va_zast (D := D) C.1 C.2.1 C.2.2.2.2.2.2.2.1 Dy.1 Dy.2.1 Dy.2.2 q 1 (cA := c2) (f := mem q) (zm_at hs) rfl hin hd (fun H1 locs1 hP hD hS => ?_)
  rw [zm_nar hb] at hP hD
  have e0 : zm_st mem q i.toNatClampNeg x q = upd (mem q) i.toNatClampNeg x := by funext j; simp [zm_st, upd]
  have e2 : (Sum.inl (c2, n, Sum.inl (upd (mem q) i.toNatClampNeg x)) : va_E) = zm_cell c1 c2 ad (zm_st mem q i.toNatClampNeg x q) (.inr (true, n)) := by
    rw [← e0]
    rfl
  have e1 := zm_set (c1 := c1) (c2 := c2) (ad := ad) (mem := mem) (mem' := zm_st mem q i.toNatClampNeg x) hs (fun q' hq' => by funext j'; simp [zm_st, hq'])
  rw [e2, e1] at hP hD
  exact k p l e s m args below meth c D c1 c2 ad A C H1 locs1 ls ⟨hP, hD, hS⟩ hl
theorem z_iret {r : Int32} (hr : g.2.2.2.1 = some .int) (hd : decode g.2.1 pc = .ok (.ireturn, 1)) (k : post r 0 mem) : zm_Z g post pc lv [.int r] mem := by
  intro p l e s m args below meth c D c1 c2 ad A C H locs ls Dy hl
  rw [hr]
  exact W.iret (v := r) C.1 C.2.1 (C.2.2.1.trans hr) (fun t ht hW => ⟨⟨r, mem, rfl, k, by rw [ht]; exact Dy.1, va_K.moved hW.alike C.2.2.2.2.2.2.2.1, Dy.2.1⟩, Dy.2.2.F ht⟩) Dy.2.2.2.2 hd C.2.2.2.1
theorem z_zret {r : Int32} (hr : g.2.2.2.1 = some .boolean) (hb : r = 0 ∨ r = 1) (hd : decode g.2.1 pc = .ok (.ireturn, 1)) (k : post r 0 mem) : zm_Z g post pc lv [.int r] mem := by
  intro p l e s m args below meth c D c1 c2 ad A C H locs ls Dy hl
  rw [hr]
  exact W.zret (v := r) (ty := .boolean) C.1 C.2.1 (C.2.2.1.trans hr) (by rcases hb with rfl | rfl <;> rfl) (fun t ht hW => ⟨⟨r, mem, rfl, k, by rw [ht]; exact Dy.1, va_K.moved hW.alike C.2.2.2.2.2.2.2.1, Dy.2.1⟩, Dy.2.2.F ht⟩) Dy.2.2.2.2 hd C.2.2.2.1
theorem z_lret {r : Int64} (hr : g.2.2.2.1 = some .long) (hd : decode g.2.1 pc = .ok (.lreturn, 1)) (k : post 0 r mem) : zm_Z g post pc lv [.long r] mem := by
  intro p l e s m args below meth c D c1 c2 ad A C H locs ls Dy hl
  rw [hr]
  exact W.lret (v := r) C.1 C.2.1 (C.2.2.1.trans hr) (fun t ht hW => ⟨⟨r, mem, rfl, k, by rw [ht]; exact Dy.1, va_K.moved hW.alike C.2.2.2.2.2.2.2.1, Dy.2.1⟩, Dy.2.2.F ht⟩) Dy.2.2.2.2 hd C.2.2.2.1
theorem z_vret (hr : g.2.2.2.1 = none) (hd : decode g.2.1 pc = .ok (.return_, 1)) (k : post 0 0 mem) : zm_Z g post pc lv [] mem := by
  intro p l e s m args below meth c D c1 c2 ad A C H locs ls Dy hl
  rw [hr]
  exact W.vret C.1 C.2.1 (C.2.2.1.trans hr) (fun t ht hW => ⟨⟨mem, rfl, k, by rw [ht]; exact Dy.1, va_K.moved hW.alike C.2.2.2.2.2.2.2.1, Dy.2.1⟩, Dy.2.2.F ht⟩) Dy.2.2.2.2 hd C.2.2.2.1
theorem zm_blind {D : va_G} {c1 c2 : ClassId} {ad : Nat → Nat} {sz : Nat} {as : List Value} {mem : zm_Mem} : FrameBlind (zm_Pc D c1 c2 ad sz as mem) := by
  intro a U f mk q
  obtain ⟨q1, q2, q3, q4, q5, q6⟩ := q
  refine ⟨q1, q2, q3, va_K.moved (u := U) (U := U.calling f mk a) (Vm.Alike.refl U.vm) q4, q5, ?_⟩
  obtain ⟨h1, r, h2, h3, h4, h5⟩ := q6
  exact ⟨fun t ht => va_Nw.same rfl (u := U) (U := U.calling f mk a) rfl (h1 t ht), r, va_Z.moved (u := U) (U := U.calling f mk a) (Vm.Alike.refl U.vm) h2, va_X.moved (u := U) (U := U.calling f mk a) (Vm.Alike.refl U.vm) h3, h4, h5⟩
/-- what a call needs of the tables, and of the room -/
def zm_okV (g : zm_Sig) (idx : Nat) (g' : zm_Sig) (n : Nat) : Prop := (∀ w ∈ wsV g.1.cls idx g'.1.cls g'.1 [Cond.code g'.1 g'.2.1 g'.2.2.1 g'.2.2.2.1], w ∈ zm_tb) ∧ (g'.1.cls ≠ "java/lang/invoke/MethodHandle" ∧ g'.1.cls ≠ "java/lang/invoke/VarHandle" ∧ (parseMethodDescriptor g'.1.desc).map (fun d => d.parameters.length) = some n) ∧ g'.2.2.2.2.1 + 1 ≤ g.2.2.2.2.1 ∧ 8 + (g'.2.2.1 + 11) + g'.2.2.2.2.2 ≤ g.2.2.2.2.2
def zm_okS (g : zm_Sig) (idx : Nat) (g' : zm_Sig) (n : Nat) : Prop := (∀ w ∈ va_wsS g.1.cls idx g'.1 [Cond.code g'.1 g'.2.1 g'.2.2.1 g'.2.2.2.1], w ∈ zm_tb) ∧ (g'.1.cls ≠ "java/lang/invoke/MethodHandle" ∧ g'.1.cls ≠ "java/lang/invoke/VarHandle" ∧ (parseMethodDescriptor g'.1.desc).map (fun d => d.parameters.length) = some n) ∧ g'.2.2.2.2.1 + 1 ≤ g.2.2.2.2.1 ∧ 8 + (g'.2.2.1 + 11) + g'.2.2.2.2.2 ≤ g.2.2.2.2.2
theorem zm_goodV {g g' : zm_Sig} {idx n : Nat} (h : zm_okV g idx g' n) : GoodIn zm_tb (wsV g.1.cls idx g'.1.cls g'.1 (zm_ws g')) := zm_tb_good (fun w hw => by
  simp only [wsV, zm_ws, List.mem_append, List.mem_cons] at hw
  rcases hw with hw | hw | hw
  · exact h.1 w (by simp only [wsV, List.mem_append, List.mem_cons]; exact Or.inl hw)
  · exact h.1 w (by simp only [wsV, List.mem_append, List.mem_cons]; exact Or.inr (Or.inl hw))
  · exact hw)
theorem zm_goodS {g g' : zm_Sig} {idx n : Nat} (h : zm_okS g idx g' n) : GoodIn zm_tb (va_wsS g.1.cls idx g'.1 (zm_ws g')) := zm_tb_good (fun w hw => by
  simp only [va_wsS, zm_ws, List.mem_append, List.mem_cons] at hw
  rcases hw with hw | hw | hw
  · exact h.1 w (by simp only [va_wsS, List.mem_append, List.mem_cons]; exact Or.inl hw)
  · exact h.1 w (by simp only [va_wsS, List.mem_append, List.mem_cons]; exact Or.inr (Or.inl hw))
  · exact hw)
theorem zm_pre {g : zm_Sig} {p : Program} {s : State} {m : MethodId} {args : Array Value} {meth : Method} {c : Code} {D : va_G} {c1 c2 : ClassId} {A : Nat → Prop} (C : zm_At g p s m args meth c D c1 c2 A) {ad : Nat → Nat} {H : Heap} {locs : List Loc} (Dy : zm_Dy D c1 c2 ad A mem s H locs) (as : List Value) : ∀ U : State, U.heap = H → s.WarmedH U.vm → zm_Pc D c1 c2 ad H.size as mem (as.map (zm_v ad)).toArray U := by
  intro U hU hW
  refine ⟨rfl, by rw [hU], by rw [hU]; exact Dy.1, va_K.moved hW.alike C.2.2.2.2.2.2.2.1, Dy.2.1.weaken (fun _ _ _ _ => trivial), ?_⟩
  rw [hU]
  refine zm_env.go C.2.2.2.2.2.2.2.2.2 hW Dy.2.2 (fun q hq => ?_)
  rcases hq with ⟨k, e, hk⟩ | hq
  · exact Dy.2.1.2 k _ hk
  · exact C.2.2.2.2.2.2.2.2.1 q (Nat.le_trans Dy.2.2.1 hq)
theorem zm_sub {g : zm_Sig} {p : Program} {s : State} {m : MethodId} {args : Array Value} {meth : Method} {c : Code} {D : va_G} {c1 c2 : ClassId} {A : Nat → Prop} (C : zm_At g p s m args meth c D c1 c2 A) {ad : Nat → Nat} {H : Heap} {locs : List Loc} (Dy : zm_Dy D c1 c2 ad A mem s H locs) : ∀ q, va_A (zm_pic c1 c2 ad mem) H.size q → A q := by
  intro q hq
  rcases hq with ⟨k, e, hk⟩ | hq
  · exact Dy.2.1.2 k _ hk
  · exact C.2.2.2.2.2.2.2.2.1 q (Nat.le_trans Dy.2.2.1 hq)
theorem zm_stk (ad : Nat → Nat) (as st : List Value) (q : Nat) : (as.reverse ++ .ref q :: st).map (zm_v ad) = (as.map (zm_v ad)).reverse ++ .ref (ad q) :: st.map (zm_v ad) := by
  simp [zm_v]
theorem zm_stkS (ad : Nat → Nat) (as st : List Value) : (as.reverse ++ st).map (zm_v ad) = (as.map (zm_v ad)).reverse ++ st.map (zm_v ad) := by
  simp
theorem zm_catsum (ad : Nat → Nat) (st : List Value) : ((st.map (zm_v ad)).map fun v => v.category).sum = (st.map fun v => v.category).sum := by
  simp [List.map_map, Function.comp_def, zm_v_cat]
theorem z_callVi {g' : zm_Sig} {idx : Nat} {stk : List Value} (as : List Value) {q ci : Nat} {fl : List (Option Nat)} {T : u_T} {N : Nat} (hs : zm_sh[q]? = some (.inl (ci, fl))) (hc : zm_classes[ci]? = some (g'.1.cls, T, N)) (ok : zm_okV g idx g' as.length) (hr : ∃ ty, g'.2.2.2.1 = some ty ∧ ¬ ty = .long) (hstk : stk = as.reverse ++ .ref q :: st) (hw : (st.map fun v => v.category).sum ≤ 8) (hd : decode g.2.1 pc = .ok (.invokevirtual idx, 3)) (k : zm_Call g' (.ref q :: as) mem (fun r w u => zm_Z g post (pc + 3) lv (.int r :: st) u)) : zm_Z g post pc lv stk mem := by
  intro p l e s m args below meth c D c1 c2 ad A C H locs ls Dy hl
  have eQ : ∀ (Y : zm_Post) (B : zm_Mem → State → Prop) (A1 : Nat → Prop), zm_Q g'.2.2.2.1 Y B A1 = va_Qi (fun r u => Y r 0 u) B A1 := by
    obtain ⟨ty, hr, hnl⟩ := hr
    intro Y B A1
    rw [hr]
    cases ty <;> first | rfl | exact absurd rfl hnl
  subst hstk
  rw [zm_stk ad as st q]
  have hrun : va_Run p l e (zm_rm g) s m args below meth c H locs 0 0 0 0 (F0 m pc ls ((as.map (zm_v ad)).reverse ++ .ref (ad q) :: st.map (zm_v ad))) (st.map (zm_v ad)) (zm_Q g'.2.2.2.1 (fun r w u => zm_Z g post (pc + 3) lv (.int r :: st) u) (zm_B D c1 c2 ad (va_A (zm_pic c1 c2 ad mem) H.size)) (va_A (zm_pic c1 c2 ad mem) H.size) (Value.ref (ad q) :: as.map (zm_v ad)).toArray) (va_A (zm_pic c1 c2 ad mem) H.size) := va_runV (As := as.map (zm_v ad)) (rest := st.map (zm_v ad)) (C := g'.1.cls) (n := as.length) (b := ad q) ⟨C.1, C.2.1, C.2.2.2.2.1, C.2.2.2.2.2.1, C.2.2.2.2.2.2.1⟩ (k l D c1 c2 ad H.size) (cwV as.length C.2.2.2.2.2.2.1 (zm_goodV ok) rfl rfl rfl ⟨rfl, ok.2.1⟩ ok.2.2) ⟨zm_blind, va_recv C.2.2.2.2.2.2.2.1 Dy.1 hc (zm_at hs), zm_pre C Dy (.ref q :: as)⟩ rfl (by simp) hl.1 rfl (lv_room (by rw [zm_catsum]; exact hw)) hd ⟨Nat.zero_le _, Nat.zero_le _⟩
  rw [eQ] at hrun
  refine va_calli hrun Dy.2.2 (fun q _ h => zm_sub C Dy q h) (zm_sub C Dy) (fun r u t H1 locs1 ht hvm hp hB hz hk hS => ?_)
  obtain ⟨hP1, hK1, hD1⟩ := hB
  rw [ht] at hP1
  exact hp p l e s m args below meth c D c1 c2 ad A C H1 locs1 ls ⟨hP1, hD1.weaken (fun _ q _ h => zm_sub C Dy _ h), hS⟩ hl
theorem z_callSi {g' : zm_Sig} {idx : Nat} {stk : List Value} (as : List Value) (ok : zm_okS g idx g' as.length) (hr : ∃ ty, g'.2.2.2.1 = some ty ∧ ¬ ty = .long) (hstk : stk = as.reverse ++ st) (hw : (st.map fun v => v.category).sum ≤ 8) (hd : decode g.2.1 pc = .ok (.invokestatic idx, 3)) (k : zm_Call g' (as) mem (fun r w u => zm_Z g post (pc + 3) lv (.int r :: st) u)) : zm_Z g post pc lv stk mem := by
  intro p l e s m args below meth c D c1 c2 ad A C H locs ls Dy hl
  have eQ : ∀ (Y : zm_Post) (B : zm_Mem → State → Prop) (A1 : Nat → Prop), zm_Q g'.2.2.2.1 Y B A1 = va_Qi (fun r u => Y r 0 u) B A1 := by
    obtain ⟨ty, hr, hnl⟩ := hr
    intro Y B A1
    rw [hr]
    cases ty <;> first | rfl | exact absurd rfl hnl
  subst hstk
  rw [zm_stkS ad as st]
  have hrun : va_Run p l e (zm_rm g) s m args below meth c H locs 0 0 0 0 (F0 m pc ls ((as.map (zm_v ad)).reverse ++ st.map (zm_v ad))) (st.map (zm_v ad)) (zm_Q g'.2.2.2.1 (fun r w u => zm_Z g post (pc + 3) lv (.int r :: st) u) (zm_B D c1 c2 ad (va_A (zm_pic c1 c2 ad mem) H.size)) (va_A (zm_pic c1 c2 ad mem) H.size) (as.map (zm_v ad)).toArray) (va_A (zm_pic c1 c2 ad mem) H.size) := va_runS (As := as.map (zm_v ad)) (rest := st.map (zm_v ad)) (n := as.length) ⟨C.1, C.2.1, C.2.2.2.2.1, C.2.2.2.2.2.1, C.2.2.2.2.2.2.1⟩ (k l D c1 c2 ad H.size) (va_cwS as.length C.2.2.2.2.2.2.1 (zm_goodS ok) rfl rfl rfl ok.2.1 ok.2.2) ⟨zm_blind, zm_pre C Dy as⟩ rfl (by simp) hl.1 rfl (lv_room (by rw [zm_catsum]; exact hw)) hd ⟨Nat.zero_le _, Nat.zero_le _⟩
  rw [eQ] at hrun
  refine va_calli hrun Dy.2.2 (fun q _ h => zm_sub C Dy q h) (zm_sub C Dy) (fun r u t H1 locs1 ht hvm hp hB hz hk hS => ?_)
  obtain ⟨hP1, hK1, hD1⟩ := hB
  rw [ht] at hP1
  exact hp p l e s m args below meth c D c1 c2 ad A C H1 locs1 ls ⟨hP1, hD1.weaken (fun _ q _ h => zm_sub C Dy _ h), hS⟩ hl
theorem z_callVl {g' : zm_Sig} {idx : Nat} {stk : List Value} (as : List Value) {q ci : Nat} {fl : List (Option Nat)} {T : u_T} {N : Nat} (hs : zm_sh[q]? = some (.inl (ci, fl))) (hc : zm_classes[ci]? = some (g'.1.cls, T, N)) (ok : zm_okV g idx g' as.length) (hr : g'.2.2.2.1 = some .long) (hstk : stk = as.reverse ++ .ref q :: st) (hw : (st.map fun v => v.category).sum ≤ 8) (hd : decode g.2.1 pc = .ok (.invokevirtual idx, 3)) (k : zm_Call g' (.ref q :: as) mem (fun r w u => zm_Z g post (pc + 3) lv (.long w :: st) u)) : zm_Z g post pc lv stk mem := by
  intro p l e s m args below meth c D c1 c2 ad A C H locs ls Dy hl
  have eQ : ∀ (Y : zm_Post) (B : zm_Mem → State → Prop) (A1 : Nat → Prop), zm_Q g'.2.2.2.1 Y B A1 = va_Ql (fun r u => Y 0 r u) B A1 := by
    intro Y B A1
    rw [hr]
    rfl
  subst hstk
  rw [zm_stk ad as st q]
  have hrun : va_Run p l e (zm_rm g) s m args below meth c H locs 0 0 0 0 (F0 m pc ls ((as.map (zm_v ad)).reverse ++ .ref (ad q) :: st.map (zm_v ad))) (st.map (zm_v ad)) (zm_Q g'.2.2.2.1 (fun r w u => zm_Z g post (pc + 3) lv (.long w :: st) u) (zm_B D c1 c2 ad (va_A (zm_pic c1 c2 ad mem) H.size)) (va_A (zm_pic c1 c2 ad mem) H.size) (Value.ref (ad q) :: as.map (zm_v ad)).toArray) (va_A (zm_pic c1 c2 ad mem) H.size) := va_runV (As := as.map (zm_v ad)) (rest := st.map (zm_v ad)) (C := g'.1.cls) (n := as.length) (b := ad q) ⟨C.1, C.2.1, C.2.2.2.2.1, C.2.2.2.2.2.1, C.2.2.2.2.2.2.1⟩ (k l D c1 c2 ad H.size) (cwV as.length C.2.2.2.2.2.2.1 (zm_goodV ok) rfl rfl rfl ⟨rfl, ok.2.1⟩ ok.2.2) ⟨zm_blind, va_recv C.2.2.2.2.2.2.2.1 Dy.1 hc (zm_at hs), zm_pre C Dy (.ref q :: as)⟩ rfl (by simp) hl.1 rfl (lv_room (by rw [zm_catsum]; exact hw)) hd ⟨Nat.zero_le _, Nat.zero_le _⟩
  rw [eQ] at hrun
  refine va_calll hrun Dy.2.2 (fun q _ h => zm_sub C Dy q h) (zm_sub C Dy) (fun r u t H1 locs1 ht hvm hp hB hz hk hS => ?_)
  obtain ⟨hP1, hK1, hD1⟩ := hB
  rw [ht] at hP1
  exact hp p l e s m args below meth c D c1 c2 ad A C H1 locs1 ls ⟨hP1, hD1.weaken (fun _ q _ h => zm_sub C Dy _ h), hS⟩ hl
theorem z_callSl {g' : zm_Sig} {idx : Nat} {stk : List Value} (as : List Value) (ok : zm_okS g idx g' as.length) (hr : g'.2.2.2.1 = some .long) (hstk : stk = as.reverse ++ st) (hw : (st.map fun v => v.category).sum ≤ 8) (hd : decode g.2.1 pc = .ok (.invokestatic idx, 3)) (k : zm_Call g' (as) mem (fun r w u => zm_Z g post (pc + 3) lv (.long w :: st) u)) : zm_Z g post pc lv stk mem := by
  intro p l e s m args below meth c D c1 c2 ad A C H locs ls Dy hl
  have eQ : ∀ (Y : zm_Post) (B : zm_Mem → State → Prop) (A1 : Nat → Prop), zm_Q g'.2.2.2.1 Y B A1 = va_Ql (fun r u => Y 0 r u) B A1 := by
    intro Y B A1
    rw [hr]
    rfl
  subst hstk
  rw [zm_stkS ad as st]
  have hrun : va_Run p l e (zm_rm g) s m args below meth c H locs 0 0 0 0 (F0 m pc ls ((as.map (zm_v ad)).reverse ++ st.map (zm_v ad))) (st.map (zm_v ad)) (zm_Q g'.2.2.2.1 (fun r w u => zm_Z g post (pc + 3) lv (.long w :: st) u) (zm_B D c1 c2 ad (va_A (zm_pic c1 c2 ad mem) H.size)) (va_A (zm_pic c1 c2 ad mem) H.size) (as.map (zm_v ad)).toArray) (va_A (zm_pic c1 c2 ad mem) H.size) := va_runS (As := as.map (zm_v ad)) (rest := st.map (zm_v ad)) (n := as.length) ⟨C.1, C.2.1, C.2.2.2.2.1, C.2.2.2.2.2.1, C.2.2.2.2.2.2.1⟩ (k l D c1 c2 ad H.size) (va_cwS as.length C.2.2.2.2.2.2.1 (zm_goodS ok) rfl rfl rfl ok.2.1 ok.2.2) ⟨zm_blind, zm_pre C Dy as⟩ rfl (by simp) hl.1 rfl (lv_room (by rw [zm_catsum]; exact hw)) hd ⟨Nat.zero_le _, Nat.zero_le _⟩
  rw [eQ] at hrun
  refine va_calll hrun Dy.2.2 (fun q _ h => zm_sub C Dy q h) (zm_sub C Dy) (fun r u t H1 locs1 ht hvm hp hB hz hk hS => ?_)
  obtain ⟨hP1, hK1, hD1⟩ := hB
  rw [ht] at hP1
  exact hp p l e s m args below meth c D c1 c2 ad A C H1 locs1 ls ⟨hP1, hD1.weaken (fun _ q _ h => zm_sub C Dy _ h), hS⟩ hl
theorem z_callVv {g' : zm_Sig} {idx : Nat} {stk : List Value} (as : List Value) {q ci : Nat} {fl : List (Option Nat)} {T : u_T} {N : Nat} (hs : zm_sh[q]? = some (.inl (ci, fl))) (hc : zm_classes[ci]? = some (g'.1.cls, T, N)) (ok : zm_okV g idx g' as.length) (hr : g'.2.2.2.1 = none) (hstk : stk = as.reverse ++ .ref q :: st) (hw : (st.map fun v => v.category).sum ≤ 8) (hd : decode g.2.1 pc = .ok (.invokevirtual idx, 3)) (k : zm_Call g' (.ref q :: as) mem (fun r w u => zm_Z g post (pc + 3) lv (st) u)) : zm_Z g post pc lv stk mem := by
  intro p l e s m args below meth c D c1 c2 ad A C H locs ls Dy hl
  have eQ : ∀ (Y : zm_Post) (B : zm_Mem → State → Prop) (A1 : Nat → Prop), zm_Q g'.2.2.2.1 Y B A1 = va_Qv (fun u => Y 0 0 u) B A1 := by
    intro Y B A1
    rw [hr]
    rfl
  subst hstk
  rw [zm_stk ad as st q]
  have hrun : va_Run p l e (zm_rm g) s m args below meth c H locs 0 0 0 0 (F0 m pc ls ((as.map (zm_v ad)).reverse ++ .ref (ad q) :: st.map (zm_v ad))) (st.map (zm_v ad)) (zm_Q g'.2.2.2.1 (fun r w u => zm_Z g post (pc + 3) lv (st) u) (zm_B D c1 c2 ad (va_A (zm_pic c1 c2 ad mem) H.size)) (va_A (zm_pic c1 c2 ad mem) H.size) (Value.ref (ad q) :: as.map (zm_v ad)).toArray) (va_A (zm_pic c1 c2 ad mem) H.size) := va_runV (As := as.map (zm_v ad)) (rest := st.map (zm_v ad)) (C := g'.1.cls) (n := as.length) (b := ad q) ⟨C.1, C.2.1, C.2.2.2.2.1, C.2.2.2.2.2.1, C.2.2.2.2.2.2.1⟩ (k l D c1 c2 ad H.size) (cwV as.length C.2.2.2.2.2.2.1 (zm_goodV ok) rfl rfl rfl ⟨rfl, ok.2.1⟩ ok.2.2) ⟨zm_blind, va_recv C.2.2.2.2.2.2.2.1 Dy.1 hc (zm_at hs), zm_pre C Dy (.ref q :: as)⟩ rfl (by simp) hl.1 rfl (lv_room (by rw [zm_catsum]; exact hw)) hd ⟨Nat.zero_le _, Nat.zero_le _⟩
  rw [eQ] at hrun
  refine va_callv hrun Dy.2.2 (fun q _ h => zm_sub C Dy q h) (zm_sub C Dy) (fun u t H1 locs1 ht hvm hp hB hz hk hS => ?_)
  obtain ⟨hP1, hK1, hD1⟩ := hB
  rw [ht] at hP1
  exact hp p l e s m args below meth c D c1 c2 ad A C H1 locs1 ls ⟨hP1, hD1.weaken (fun _ q _ h => zm_sub C Dy _ h), hS⟩ hl
theorem z_callSv {g' : zm_Sig} {idx : Nat} {stk : List Value} (as : List Value) (ok : zm_okS g idx g' as.length) (hr : g'.2.2.2.1 = none) (hstk : stk = as.reverse ++ st) (hw : (st.map fun v => v.category).sum ≤ 8) (hd : decode g.2.1 pc = .ok (.invokestatic idx, 3)) (k : zm_Call g' (as) mem (fun r w u => zm_Z g post (pc + 3) lv (st) u)) : zm_Z g post pc lv stk mem := by
  intro p l e s m args below meth c D c1 c2 ad A C H locs ls Dy hl
  have eQ : ∀ (Y : zm_Post) (B : zm_Mem → State → Prop) (A1 : Nat → Prop), zm_Q g'.2.2.2.1 Y B A1 = va_Qv (fun u => Y 0 0 u) B A1 := by
    intro Y B A1
    rw [hr]
    rfl
  subst hstk
  rw [zm_stkS ad as st]
  have hrun : va_Run p l e (zm_rm g) s m args below meth c H locs 0 0 0 0 (F0 m pc ls ((as.map (zm_v ad)).reverse ++ st.map (zm_v ad))) (st.map (zm_v ad)) (zm_Q g'.2.2.2.1 (fun r w u => zm_Z g post (pc + 3) lv (st) u) (zm_B D c1 c2 ad (va_A (zm_pic c1 c2 ad mem) H.size)) (va_A (zm_pic c1 c2 ad mem) H.size) (as.map (zm_v ad)).toArray) (va_A (zm_pic c1 c2 ad mem) H.size) := va_runS (As := as.map (zm_v ad)) (rest := st.map (zm_v ad)) (n := as.length) ⟨C.1, C.2.1, C.2.2.2.2.1, C.2.2.2.2.2.1, C.2.2.2.2.2.2.1⟩ (k l D c1 c2 ad H.size) (va_cwS as.length C.2.2.2.2.2.2.1 (zm_goodS ok) rfl rfl rfl ok.2.1 ok.2.2) ⟨zm_blind, zm_pre C Dy as⟩ rfl (by simp) hl.1 rfl (lv_room (by rw [zm_catsum]; exact hw)) hd ⟨Nat.zero_le _, Nat.zero_le _⟩
  rw [eQ] at hrun
  refine va_callv hrun Dy.2.2 (fun q _ h => zm_sub C Dy q h) (zm_sub C Dy) (fun u t H1 locs1 ht hvm hp hB hz hk hS => ?_)
  obtain ⟨hP1, hK1, hD1⟩ := hB
  rw [ht] at hP1
  exact hp p l e s m args below meth c D c1 c2 ad A C H1 locs1 ls ⟨hP1, hD1.weaken (fun _ q _ h => zm_sub C Dy _ h), hS⟩ hl
theorem zm_args (ad : Nat → Nat) (as : List Value) : ∀ i, lv_args i (as.map (zm_v ad)) = zm_lv ad (lv_args i as) := by
  induction as with
  | nil => intro i; rfl
  | cons a as ih =>
    intro i
    simp only [List.map_cons, lv_args, zm_v_cat, ih]
    rfl
theorem zm_sl (ad : Nat → Nat) (as : List Value) : (lg_sl (as.map (zm_v ad))).length = (lg_sl as).length := by
  induction as with
  | nil => rfl
  | cons a as ih =>
    simp only [lg_sl, List.map_cons, List.flatMap_cons, List.length_append] at ih ⊢
    rw [ih, zm_v_cat]
    by_cases h : a.category = 2 <;> simp [h]
/-- from its entry -/
theorem z_entry {as : List Value} (hy : plainName g.1.cls = true) (hn : (lg_sl as).length ≤ g.2.2.1) (k : zm_Z g post 0 (lv_args 0 as) [] mem) : zm_Call g as mem post := by
  intro l D c1 c2 ad sz
  refine Met.ofW (cc := g.2.1) (maxL := g.2.2.1) (ret := g.2.2.2.1) hy rfl ?_
  intro p e s m args below meth c s₁ B hml hv
  obtain ⟨rfl, hsz, hP, hK, hD0, hE⟩ := hv
  have hts := atoms_spec (ws := zm_ws g) B.pre
  subst hsz
  have hl := lv_entry (as.map (zm_v ad)) (n := g.2.2.1) (by rw [zm_sl]; exact hn)
  rw [zm_args] at hl
  rw [lg_entry_eq]
  refine k p l e s m _ below meth c D c1 c2 ad _ ⟨B.exec, B.bytes, B.returns, B.notSynchronized, hml, findClass_of_methodNamed B.named, fun w hw => hts w (List.mem_cons_of_mem _ hw), hK, fun q h => Or.inr h, hE⟩ s.heap [] _ ⟨hP, hD0.self, va_S.rf⟩ hl
/-- a weaker end -/
theorem zm_Call.mono {as : List Value} {p1 p2 : zm_Post} (h : zm_Call g as mem p1) (hp : ∀ r w u, p1 r w u → p2 r w u) : zm_Call g as mem p2 := by
  intro l D c1 c2 ad sz p e ha hc hk s m args below hf h1 h2 h3
  obtain ⟨n, o, a1, a2, a3, a4, a5⟩ := h l D c1 c2 ad sz p e ha hc hk s m args below hf h1 h2 h3
  refine ⟨n, o, a1, a2, a3, ?_, a5⟩
  generalize g.2.2.2.1 = ret at a4 ⊢
  cases ret with
  | none => exact ⟨let ⟨u, e1, e2, e3⟩ := a4.1; ⟨u, e1, hp _ _ _ e2, e3⟩, a4.2⟩
  | some ty => cases ty <;> exact ⟨let ⟨r, u, e1, e2, e3⟩ := a4.1; ⟨r, u, e1, hp _ _ _ e2, e3⟩, a4.2⟩
end ZROWS
end
section
theorem zm_all (is : List Nat) (L : List Cond) (h : is.map (fun i => lw_tbl[i]?) = L.map some) (hg : L.all goodWord = true) : ∀ w ∈ L, w ∈ zm_tb := by
  intro w hw
  have h1 : some w ∈ is.map (fun i => lw_tbl[i]?) := by rw [h]; exact List.mem_map_of_mem hw
  obtain ⟨i, -, hi⟩ := List.mem_map.mp h1
  exact zm_tb_in i hi (List.all_eq_true.mp hg w hw)
theorem hX0 : ∀ w ∈ u_ws RX0 TX0 2, w ∈ zm_tb := zm_all [166, 168] _ (by decide +kernel) (by decide +kernel)
theorem hX1 : ∀ w ∈ u_ws RX1 TX1 3, w ∈ zm_tb := zm_all [63, 65, 67] _ (by decide +kernel) (by decide +kernel)
theorem hX2 : ∀ w ∈ u_ws RX2 TX2 2, w ∈ zm_tb := zm_all [106, 108] _ (by decide +kernel) (by decide +kernel)
theorem hX3 : ∀ w ∈ u_ws RX3 TX3 2, w ∈ zm_tb := zm_all [179, 181] _ (by decide +kernel) (by decide +kernel)
theorem hX4 : ∀ w ∈ u_ws RX4 TX4 3, w ∈ zm_tb := zm_all [120, 122, 124] _ (by decide +kernel) (by decide +kernel)
theorem hX5 : ∀ w ∈ u_ws RX5 TX5 4, w ∈ zm_tb := zm_all [88, 90, 92, 94] _ (by decide +kernel) (by decide +kernel)
theorem hX6 : ∀ w ∈ u_ws RX6 TX6 8, w ∈ zm_tb := zm_all [198, 200, 202, 204, 206, 208, 210, 212] _ (by decide +kernel) (by decide +kernel)
theorem hX7 : ∀ w ∈ u_ws RX7 TX7 7, w ∈ zm_tb := zm_all [142, 144, 146, 148, 150, 152, 154] _ (by decide +kernel) (by decide +kernel)
theorem hX8 : ∀ w ∈ u_ws RX8 TX8 8, w ∈ zm_tb := zm_all [223, 225, 227, 229, 231, 233, 235, 237] _ (by decide +kernel) (by decide +kernel)
theorem hX9 : ∀ w ∈ u_ws RX9 TX9 22, w ∈ zm_tb := zm_all [789, 791, 793, 795, 797, 799, 801, 803, 805, 807, 809, 811, 813, 815, 817, 819, 821, 823, 825, 827, 829, 831] _ (by decide +kernel) (by decide +kernel)
abbrev gX0_power : zm_Sig := (yX0_power, cX0_power, 5, (some .long), 0, 0)
abbrev gX1_numbers : zm_Sig := (yX1_numbers, cX1_numbers, 1, (some .int), 0, 0)
abbrev gX1_turnOf : zm_Sig := (yX1_turnOf, cX1_turnOf, 2, (some .int), 0, 0)
abbrev gX1_hasTurn : zm_Sig := (yX1_hasTurn, cX1_hasTurn, 2, (some .boolean), 0, 0)
abbrev gX1_hasMove : zm_Sig := (yX1_hasMove, cX1_hasMove, 2, (some .boolean), 1, 21)
abbrev gX1_shiftOf : zm_Sig := (yX1_shiftOf, cX1_shiftOf, 2, (some .int), 0, 0)
abbrev gX1_columnOf : zm_Sig := (yX1_columnOf, cX1_columnOf, 2, (some .int), 0, 0)
abbrev gX1_rowOf : zm_Sig := (yX1_rowOf, cX1_rowOf, 2, (some .int), 0, 0)
abbrev gX1_turnedX : zm_Sig := (yX1_turnedX, cX1_turnedX, 3, (some .int), 0, 0)
abbrev gX1_turnedY : zm_Sig := (yX1_turnedY, cX1_turnedY, 3, (some .int), 0, 0)
abbrev gX1_cellAt : zm_Sig := (yX1_cellAt, cX1_cellAt, 5, (some .int), 0, 0)
abbrev gX1_target : zm_Sig := (yX1_target, cX1_target, 7, (some .int), 1, 24)
abbrev gX0_passRound : zm_Sig := (yX0_passRound, cX0_passRound, 5, none, 2, 50)
abbrev gX0_roundsOf : zm_Sig := (yX0_roundsOf, cX0_roundsOf, 4, (some .int), 3, 74)
abbrev gX1_moveCount : zm_Sig := (yX1_moveCount, cX1_moveCount, 1, (some .int), 0, 0)
abbrev gX0_unlike : zm_Sig := (yX0_unlike, cX0_unlike, 5, (some .long), 4, 97)
abbrev gX1_resize : zm_Sig := (yX1_resize, cX1_resize, 3, none, 0, 0)
abbrev gX1_hasCell : zm_Sig := (yX1_hasCell, cX1_hasCell, 2, (some .boolean), 0, 0)
abbrev gX1_joinTurns : zm_Sig := (yX1_joinTurns, cX1_joinTurns, 7, (some .int), 1, 22)
abbrev gX1_join : zm_Sig := (yX1_join, cX1_join, 3, (some .int), 2, 50)
abbrev gX1_undoingTurn : zm_Sig := (yX1_undoingTurn, cX1_undoingTurn, 1, (some .int), 0, 0)
abbrev gX1_undoing : zm_Sig := (yX1_undoing, cX1_undoing, 5, (some .int), 1, 24)
abbrev gX1_isStill : zm_Sig := (yX1_isStill, cX1_isStill, 3, (some .boolean), 2, 50)
abbrev gX1_timesTillStill : zm_Sig := (yX1_timesTillStill, cX1_timesTillStill, 4, (some .int), 3, 72)
abbrev gX2_isMirror : zm_Sig := (yX2_isMirror, cX2_isMirror, 5, (some .boolean), 1, 21)
abbrev gX2_isAlong : zm_Sig := (yX2_isAlong, cX2_isAlong, 3, (some .boolean), 2, 45)
abbrev gX5_isKeptBy : zm_Sig := (yX5_isKeptBy, cX5_isKeptBy, 3, (some .boolean), 2, 50)
abbrev gX2_hasMirror : zm_Sig := (yX2_hasMirror, cX2_hasMirror, 3, (some .boolean), 3, 72)
abbrev gX2_isMirrorBehindShift : zm_Sig := (yX2_isMirrorBehindShift, cX2_isMirrorBehindShift, 7, (some .boolean), 3, 72)
abbrev gX2_allMirrorsBehindShifts : zm_Sig := (yX2_allMirrorsBehindShifts, cX2_allMirrorsBehindShifts, 2, (some .boolean), 4, 98)
abbrev gX5_keepersOf : zm_Sig := (yX5_keepersOf, cX5_keepersOf, 5, (some .int), 3, 72)
abbrev gX2_fitCount : zm_Sig := (yX2_fitCount, cX2_fitCount, 3, (some .int), 4, 96)
abbrev gX2_mirroredCount : zm_Sig := (yX2_mirroredCount, cX2_mirroredCount, 3, (some .int), 4, 94)
abbrev gX2_kindWithHalf : zm_Sig := (yX2_kindWithHalf, cX2_kindWithHalf, 2, (some .int), 0, 0)
abbrev gX2_kindWithoutTurns : zm_Sig := (yX2_kindWithoutTurns, cX2_kindWithoutTurns, 2, (some .int), 0, 0)
abbrev gX2_number : zm_Sig := (yX2_number, cX2_number, 5, (some .int), 5, 119)
abbrev gX5_keepersOfAll : zm_Sig := (yX5_keepersOfAll, cX5_keepersOfAll, 3, (some .int), 4, 96)
abbrev gX3_total : zm_Sig := (yX3_total, cX3_total, 2, (some .int), 5, 118)
abbrev gX3_isAhead : zm_Sig := (yX3_isAhead, cX3_isAhead, 8, (some .boolean), 2, 50)
abbrev gX3_moveToFirst : zm_Sig := (yX3_moveToFirst, cX3_moveToFirst, 3, (some .int), 3, 77)
abbrev gX3_hueInFirst : zm_Sig := (yX3_hueInFirst, cX3_hueInFirst, 2, (some .int), 4, 99)
abbrev gX4_total : zm_Sig := (yX4_total, cX4_total, 3, (some .int), 0, 0)
abbrev gX4_has : zm_Sig := (yX4_has, cX4_has, 2, (some .boolean), 1, 22)
abbrev gX4_given : zm_Sig := (yX4_given, cX4_given, 4, (some .int), 0, 0)
abbrev gX4_isKeptBy : zm_Sig := (yX4_isKeptBy, cX4_isKeptBy, 6, (some .boolean), 2, 50)
abbrev gX4_askFor : zm_Sig := (yX4_askFor, cX4_askFor, 5, (some .boolean), 2, 50)
abbrev gX4_givesWhatIsAsked : zm_Sig := (yX4_givesWhatIsAsked, cX4_givesWhatIsAsked, 3, (some .boolean), 1, 23)
abbrev gX4_leastFor : zm_Sig := (yX4_leastFor, cX4_leastFor, 4, (some .int), 3, 74)
abbrev gX4_movesWithSome : zm_Sig := (yX4_movesWithSome, cX4_movesWithSome, 3, (some .int), 4, 97)
abbrev gX5_clear : zm_Sig := (yX5_clear, cX5_clear, 2, none, 0, 0)
abbrev gX5_isHue : zm_Sig := (yX5_isHue, cX5_isHue, 2, (some .boolean), 0, 0)
abbrev gX5_allows : zm_Sig := (yX5_allows, cX5_allows, 2, (some .boolean), 1, 21)
abbrev gX5_allowHues : zm_Sig := (yX5_allowHues, cX5_allowHues, 3, none, 2, 42)
abbrev gX5_allowsFigures : zm_Sig := (yX5_allowsFigures, cX5_allowsFigures, 5, (some .boolean), 2, 42)
abbrev gX5_dyeFigures : zm_Sig := (yX5_dyeFigures, cX5_dyeFigures, 7, (some .int), 0, 0)
abbrev gX5_hiddenCount : zm_Sig := (yX5_hiddenCount, cX5_hiddenCount, 3, (some .int), 0, 0)
abbrev gJ6_bitCount_0f7a4 : zm_Sig := (yJ6_bitCount_0f7a4, cJ6_bitCount_0f7a4, 1, (some .int), 0, 0)
abbrev gX5_usedHues : zm_Sig := (yX5_usedHues, cX5_usedHues, 3, (some .int), 1, 20)
abbrev gX5_keeperNumber : zm_Sig := (yX5_keeperNumber, cX5_keeperNumber, 4, (some .int), 3, 72)
abbrev gX5_moveBy : zm_Sig := (yX5_moveBy, cX5_moveBy, 4, (some .int), 2, 50)
abbrev gX6_leaveAll : zm_Sig := (yX6_leaveAll, cX6_leaveAll, 2, none, 0, 0)
abbrev gX6_arrive : zm_Sig := (yX6_arrive, cX6_arrive, 4, none, 0, 0)
abbrev gX6_step : zm_Sig := (yX6_step, cX6_step, 5, none, 1, 24)
abbrev gX6_walk : zm_Sig := (yX6_walk, cX6_walk, 4, none, 2, 48)
abbrev gX6_total : zm_Sig := (yX6_total, cX6_total, 4, (some .int), 3, 71)
abbrev gX6_sizeAt : zm_Sig := (yX6_sizeAt, cX6_sizeAt, 2, (some .int), 3, 71)
abbrev gX7_markRing : zm_Sig := (yX7_markRing, cX7_markRing, 6, none, 2, 50)
abbrev gX7_markRings : zm_Sig := (yX7_markRings, cX7_markRings, 2, none, 3, 75)
abbrev gX7_forget : zm_Sig := (yX7_forget, cX7_forget, 1, none, 4, 96)
abbrev gX7_add : zm_Sig := (yX7_add, cX7_add, 2, none, 4, 96)
abbrev gX7_movesMade : zm_Sig := (yX7_movesMade, cX7_movesMade, 5, (some .int), 3, 72)
abbrev gX7_ringCount : zm_Sig := (yX7_ringCount, cX7_ringCount, 3, (some .int), 0, 0)
abbrev gX7_cellsOf : zm_Sig := (yX7_cellsOf, cX7_cellsOf, 5, (some .int), 0, 0)
abbrev gX7_commonHue : zm_Sig := (yX7_commonHue, cX7_commonHue, 6, (some .int), 1, 24)
abbrev gX7_hueCount : zm_Sig := (yX7_hueCount, cX7_hueCount, 4, (some .int), 1, 24)
abbrev gX7_onlyHue : zm_Sig := (yX7_onlyHue, cX7_onlyHue, 2, (some .int), 2, 49)
abbrev gX7_tornCount : zm_Sig := (yX7_tornCount, cX7_tornCount, 3, (some .int), 2, 47)
abbrev gX7_paintRing : zm_Sig := (yX7_paintRing, cX7_paintRing, 6, (some .int), 0, 0)
abbrev gX7_paintRings : zm_Sig := (yX7_paintRings, cX7_paintRings, 4, (some .int), 2, 49)
abbrev gX8_patch : zm_Sig := (yX8_patch, cX8_patch, 3, (some .int), 5, 116)
abbrev gX8_colours : zm_Sig := (yX8_colours, cX8_colours, 3, (some .int), 3, 64)
abbrev gX8_dye : zm_Sig := (yX8_dye, cX8_dye, 4, (some .int), 2, 42)
abbrev gX8_dyes : zm_Sig := (yX8_dyes, cX8_dyes, 4, (some .int), 3, 66)
abbrev gX8_at : zm_Sig := (yX8_at, cX8_at, 2, (some .int), 1, 21)
abbrev gX8_moves : zm_Sig := (yX8_moves, cX8_moves, 1, (some .int), 1, 20)
abbrev gX8_lead : zm_Sig := (yX8_lead, cX8_lead, 3, (some .int), 2, 50)
abbrev gX8_behind : zm_Sig := (yX8_behind, cX8_behind, 3, (some .int), 3, 72)
abbrev gX8_back : zm_Sig := (yX8_back, cX8_back, 2, (some .int), 2, 48)
abbrev gX8_order : zm_Sig := (yX8_order, cX8_order, 2, (some .int), 4, 95)
abbrev gX8_oneIf : zm_Sig := (yX8_oneIf, cX8_oneIf, 1, (some .int), 0, 0)
abbrev gX8_keeps : zm_Sig := (yX8_keeps, cX8_keeps, 2, (some .int), 3, 72)
abbrev gX8_kept : zm_Sig := (yX8_kept, cX8_kept, 2, (some .int), 5, 118)
abbrev gX8_keeper : zm_Sig := (yX8_keeper, cX8_keeper, 2, (some .int), 4, 95)
abbrev gX8_go : zm_Sig := (yX8_go, cX8_go, 2, (some .int), 3, 73)
abbrev gX8_least : zm_Sig := (yX8_least, cX8_least, 2, (some .int), 4, 96)
abbrev gX8_mirrored : zm_Sig := (yX8_mirrored, cX8_mirrored, 2, (some .int), 4, 94)
abbrev gX8_mirror : zm_Sig := (yX8_mirror, cX8_mirror, 2, (some .int), 2, 45)
abbrev gX8_kind : zm_Sig := (yX8_kind, cX8_kind, 1, (some .int), 6, 143)
abbrev gX8_paints : zm_Sig := (yX8_paints, cX8_paints, 1, (some .int), 1, 22)
abbrev gX8_paint : zm_Sig := (yX8_paint, cX8_paint, 3, (some .int), 2, 43)
abbrev gX8_keepsBy : zm_Sig := (yX8_keepsBy, cX8_keepsBy, 3, (some .int), 3, 75)
abbrev gX8_by : zm_Sig := (yX8_by, cX8_by, 2, (some .int), 4, 97)
abbrev gX8_swaps : zm_Sig := (yX8_swaps, cX8_swaps, 1, (some .int), 5, 119)
abbrev gX8_tell : zm_Sig := (yX8_tell, cX8_tell, 2, (some .int), 5, 117)
abbrev gX8_untell : zm_Sig := (yX8_untell, cX8_untell, 2, (some .int), 5, 116)
abbrev gX8_together : zm_Sig := (yX8_together, cX8_together, 1, (some .int), 4, 96)
abbrev gX8_rings : zm_Sig := (yX8_rings, cX8_rings, 1, (some .int), 1, 22)
abbrev gX8_ring : zm_Sig := (yX8_ring, cX8_ring, 2, (some .int), 1, 21)
abbrev gX8_mend : zm_Sig := (yX8_mend, cX8_mend, 2, (some .int), 3, 72)
abbrev gX8_sure : zm_Sig := (yX8_sure, cX8_sure, 2, (some .int), 3, 70)
abbrev gX8_torn : zm_Sig := (yX8_torn, cX8_torn, 1, (some .int), 3, 69)
abbrev gX8_papers : zm_Sig := (yX8_papers, cX8_papers, 1, (some .long), 1, 24)
abbrev gX8_upTo : zm_Sig := (yX8_upTo, cX8_upTo, 1, (some .long), 5, 121)
abbrev gX8_like : zm_Sig := (yX8_like, cX8_like, 1, (some .int), 6, 139)
abbrev gX8_first : zm_Sig := (yX8_first, cX8_first, 2, (some .int), 5, 120)
abbrev gX8_toFirst : zm_Sig := (yX8_toFirst, cX8_toFirst, 1, (some .int), 4, 99)
abbrev gX8_pieces : zm_Sig := (yX8_pieces, cX8_pieces, 2, (some .int), 4, 94)
abbrev gX8_piece : zm_Sig := (yX8_piece, cX8_piece, 2, (some .int), 4, 92)
abbrev gX8_count : zm_Sig := (yX8_count, cX8_count, 2, (some .int), 2, 42)
abbrev gX9_in : zm_Sig := (yX9_in, cX9_in, 6, (some .boolean), 0, 0)
abbrev gX9_cells : zm_Sig := (yX9_cells, cX9_cells, 1, (some .int), 0, 0)
abbrev gX9_noCell : zm_Sig := (yX9_noCell, cX9_noCell, 2, (some .boolean), 1, 25)
abbrev gX9_isTurn : zm_Sig := (yX9_isTurn, cX9_isTurn, 3, (some .boolean), 0, 0)
abbrev gX9_noMove : zm_Sig := (yX9_noMove, cX9_noMove, 2, (some .boolean), 1, 25)
abbrev gX9_rest : zm_Sig := (yX9_rest, cX9_rest, 3, (some .int), 0, 0)
abbrev gX9_turnedX : zm_Sig := (yX9_turnedX, cX9_turnedX, 3, (some .int), 0, 0)
abbrev gX9_turnedY : zm_Sig := (yX9_turnedY, cX9_turnedY, 3, (some .int), 0, 0)
abbrev gX9_ledTo : zm_Sig := (yX9_ledTo, cX9_ledTo, 7, (some .int), 1, 22)
abbrev gX9_patch : zm_Sig := (yX9_patch, cX9_patch, 4, (some .int), 1, 25)
abbrev gX9_colours : zm_Sig := (yX9_colours, cX9_colours, 4, (some .int), 1, 25)
abbrev gX9_isColour : zm_Sig := (yX9_isColour, cX9_isColour, 2, (some .boolean), 1, 25)
abbrev gX9_dye : zm_Sig := (yX9_dye, cX9_dye, 4, (some .int), 2, 46)
abbrev gX9_dyes : zm_Sig := (yX9_dyes, cX9_dyes, 7, (some .int), 2, 46)
abbrev gX9_at : zm_Sig := (yX9_at, cX9_at, 2, (some .int), 2, 46)
abbrev gX9_moves : zm_Sig := (yX9_moves, cX9_moves, 1, (some .int), 1, 20)
abbrev gX9_lead : zm_Sig := (yX9_lead, cX9_lead, 3, (some .int), 2, 48)
abbrev gX9_turnOf : zm_Sig := (yX9_turnOf, cX9_turnOf, 8, (some .int), 1, 22)
abbrev gX9_two : zm_Sig := (yX9_two, cX9_two, 4, (some .int), 2, 49)
abbrev gX9_behind : zm_Sig := (yX9_behind, cX9_behind, 3, (some .int), 3, 72)
abbrev gX9_back : zm_Sig := (yX9_back, cX9_back, 3, (some .int), 3, 72)
abbrev gX9_order : zm_Sig := (yX9_order, cX9_order, 5, (some .int), 2, 48)
abbrev gX9_keepsIt : zm_Sig := (yX9_keepsIt, cX9_keepsIt, 4, (some .boolean), 2, 48)
abbrev gX9_keeps : zm_Sig := (yX9_keeps, cX9_keeps, 2, (some .int), 3, 71)
abbrev gX9_kept : zm_Sig := (yX9_kept, cX9_kept, 4, (some .int), 3, 71)
abbrev gX9_keeper : zm_Sig := (yX9_keeper, cX9_keeper, 4, (some .int), 3, 71)
abbrev gX9_go : zm_Sig := (yX9_go, cX9_go, 4, (some .int), 2, 48)
abbrev gX9_layShifts : zm_Sig := (yX9_layShifts, cX9_layShifts, 3, (some .int), 3, 71)
abbrev gX9_least : zm_Sig := (yX9_least, cX9_least, 1, (some .int), 4, 93)
abbrev gX9_isMirror : zm_Sig := (yX9_isMirror, cX9_isMirror, 5, (some .boolean), 1, 20)
abbrev gX9_isMirrored : zm_Sig := (yX9_isMirrored, cX9_isMirrored, 5, (some .boolean), 3, 71)
abbrev gX9_mirrored : zm_Sig := (yX9_mirrored, cX9_mirrored, 2, (some .int), 4, 95)
abbrev gX9_mirror : zm_Sig := (yX9_mirror, cX9_mirror, 2, (some .int), 2, 46)
abbrev gX9_fits : zm_Sig := (yX9_fits, cX9_fits, 4, (some .boolean), 3, 71)
abbrev gX9_isBehindShift : zm_Sig := (yX9_isBehindShift, cX9_isBehindShift, 9, (some .boolean), 1, 22)
abbrev gX9_allBehind : zm_Sig := (yX9_allBehind, cX9_allBehind, 5, (some .boolean), 3, 71)
abbrev gX9_kind : zm_Sig := (yX9_kind, cX9_kind, 8, (some .int), 4, 95)
abbrev gX9_paintMany : zm_Sig := (yX9_paintMany, cX9_paintMany, 3, (some .int), 0, 0)
abbrev gX9_paints : zm_Sig := (yX9_paints, cX9_paints, 1, (some .int), 1, 22)
abbrev gX9_lay : zm_Sig := (yX9_lay, cX9_lay, 8, none, 1, 22)
abbrev gX9_noPaint : zm_Sig := (yX9_noPaint, cX9_noPaint, 2, (some .boolean), 1, 25)
abbrev gX9_paint : zm_Sig := (yX9_paint, cX9_paint, 3, (some .int), 2, 49)
abbrev gX9_keepsPainted : zm_Sig := (yX9_keepsPainted, cX9_keepsPainted, 5, (some .boolean), 2, 48)
abbrev gX9_keepsBy : zm_Sig := (yX9_keepsBy, cX9_keepsBy, 3, (some .int), 3, 72)
abbrev gX9_leastPaint : zm_Sig := (yX9_leastPaint, cX9_leastPaint, 3, (some .int), 3, 72)
abbrev gX9_by : zm_Sig := (yX9_by, cX9_by, 2, (some .int), 4, 94)
abbrev gX9_swaps : zm_Sig := (yX9_swaps, cX9_swaps, 3, (some .int), 4, 94)
abbrev gX9_tell : zm_Sig := (yX9_tell, cX9_tell, 2, (some .int), 2, 46)
abbrev gX9_untell : zm_Sig := (yX9_untell, cX9_untell, 2, (some .int), 0, 0)
abbrev gX9_together : zm_Sig := (yX9_together, cX9_together, 5, (some .int), 3, 72)
abbrev gX9_layRings : zm_Sig := (yX9_layRings, cX9_layRings, 7, (some .int), 2, 48)
abbrev gX9_rings : zm_Sig := (yX9_rings, cX9_rings, 1, (some .int), 3, 74)
abbrev gX9_ring : zm_Sig := (yX9_ring, cX9_ring, 2, (some .int), 3, 74)
abbrev gX9_reckon : zm_Sig := (yX9_reckon, cX9_reckon, 4, (some .int), 1, 20)
abbrev gX9_mostOf : zm_Sig := (yX9_mostOf, cX9_mostOf, 4, (some .int), 2, 43)
abbrev gX9_mend : zm_Sig := (yX9_mend, cX9_mend, 4, (some .int), 3, 74)
abbrev gX9_sure : zm_Sig := (yX9_sure, cX9_sure, 2, (some .int), 3, 74)
abbrev gX9_torn : zm_Sig := (yX9_torn, cX9_torn, 3, (some .int), 3, 74)
abbrev gX9_power : zm_Sig := (yX9_power, cX9_power, 5, (some .long), 0, 0)
abbrev gX9_papers : zm_Sig := (yX9_papers, cX9_papers, 1, (some .long), 3, 74)
abbrev gX9_upTo : zm_Sig := (yX9_upTo, cX9_upTo, 6, (some .long), 3, 74)
abbrev gX9_like : zm_Sig := (yX9_like, cX9_like, 7, (some .int), 2, 48)
abbrev gX9_layFirst : zm_Sig := (yX9_layFirst, cX9_layFirst, 5, (some .int), 2, 48)
abbrev gX9_first : zm_Sig := (yX9_first, cX9_first, 2, (some .int), 3, 72)
abbrev gX9_toFirst : zm_Sig := (yX9_toFirst, cX9_toFirst, 1, (some .int), 3, 72)
abbrev gX9_layPieces : zm_Sig := (yX9_layPieces, cX9_layPieces, 10, none, 1, 22)
abbrev gX9_pieces : zm_Sig := (yX9_pieces, cX9_pieces, 4, (some .int), 2, 51)
abbrev gX9_piece : zm_Sig := (yX9_piece, cX9_piece, 4, (some .int), 2, 51)
abbrev gX9_count : zm_Sig := (yX9_count, cX9_count, 5, (some .int), 1, 20)
theorem pdX0_power : yX0_power.cls ≠ "java/lang/invoke/MethodHandle" ∧ yX0_power.cls ≠ "java/lang/invoke/VarHandle" ∧ (parseMethodDescriptor yX0_power.desc).map (fun d => d.parameters.length) = some 2 := by decide +kernel
theorem pdX1_numbers : yX1_numbers.cls ≠ "java/lang/invoke/MethodHandle" ∧ yX1_numbers.cls ≠ "java/lang/invoke/VarHandle" ∧ (parseMethodDescriptor yX1_numbers.desc).map (fun d => d.parameters.length) = some 0 := by decide +kernel
theorem pdX1_turnOf : yX1_turnOf.cls ≠ "java/lang/invoke/MethodHandle" ∧ yX1_turnOf.cls ≠ "java/lang/invoke/VarHandle" ∧ (parseMethodDescriptor yX1_turnOf.desc).map (fun d => d.parameters.length) = some 1 := by decide +kernel
theorem pdX1_hasTurn : yX1_hasTurn.cls ≠ "java/lang/invoke/MethodHandle" ∧ yX1_hasTurn.cls ≠ "java/lang/invoke/VarHandle" ∧ (parseMethodDescriptor yX1_hasTurn.desc).map (fun d => d.parameters.length) = some 1 := by decide +kernel
theorem pdX1_hasMove : yX1_hasMove.cls ≠ "java/lang/invoke/MethodHandle" ∧ yX1_hasMove.cls ≠ "java/lang/invoke/VarHandle" ∧ (parseMethodDescriptor yX1_hasMove.desc).map (fun d => d.parameters.length) = some 1 := by decide +kernel
theorem pdX1_shiftOf : yX1_shiftOf.cls ≠ "java/lang/invoke/MethodHandle" ∧ yX1_shiftOf.cls ≠ "java/lang/invoke/VarHandle" ∧ (parseMethodDescriptor yX1_shiftOf.desc).map (fun d => d.parameters.length) = some 1 := by decide +kernel
theorem pdX1_columnOf : yX1_columnOf.cls ≠ "java/lang/invoke/MethodHandle" ∧ yX1_columnOf.cls ≠ "java/lang/invoke/VarHandle" ∧ (parseMethodDescriptor yX1_columnOf.desc).map (fun d => d.parameters.length) = some 1 := by decide +kernel
theorem pdX1_rowOf : yX1_rowOf.cls ≠ "java/lang/invoke/MethodHandle" ∧ yX1_rowOf.cls ≠ "java/lang/invoke/VarHandle" ∧ (parseMethodDescriptor yX1_rowOf.desc).map (fun d => d.parameters.length) = some 1 := by decide +kernel
theorem pdX1_turnedX : yX1_turnedX.cls ≠ "java/lang/invoke/MethodHandle" ∧ yX1_turnedX.cls ≠ "java/lang/invoke/VarHandle" ∧ (parseMethodDescriptor yX1_turnedX.desc).map (fun d => d.parameters.length) = some 3 := by decide +kernel
theorem pdX1_turnedY : yX1_turnedY.cls ≠ "java/lang/invoke/MethodHandle" ∧ yX1_turnedY.cls ≠ "java/lang/invoke/VarHandle" ∧ (parseMethodDescriptor yX1_turnedY.desc).map (fun d => d.parameters.length) = some 3 := by decide +kernel
theorem pdX1_cellAt : yX1_cellAt.cls ≠ "java/lang/invoke/MethodHandle" ∧ yX1_cellAt.cls ≠ "java/lang/invoke/VarHandle" ∧ (parseMethodDescriptor yX1_cellAt.desc).map (fun d => d.parameters.length) = some 2 := by decide +kernel
theorem pdX1_target : yX1_target.cls ≠ "java/lang/invoke/MethodHandle" ∧ yX1_target.cls ≠ "java/lang/invoke/VarHandle" ∧ (parseMethodDescriptor yX1_target.desc).map (fun d => d.parameters.length) = some 2 := by decide +kernel
theorem pdX0_passRound : yX0_passRound.cls ≠ "java/lang/invoke/MethodHandle" ∧ yX0_passRound.cls ≠ "java/lang/invoke/VarHandle" ∧ (parseMethodDescriptor yX0_passRound.desc).map (fun d => d.parameters.length) = some 2 := by decide +kernel
theorem pdX0_roundsOf : yX0_roundsOf.cls ≠ "java/lang/invoke/MethodHandle" ∧ yX0_roundsOf.cls ≠ "java/lang/invoke/VarHandle" ∧ (parseMethodDescriptor yX0_roundsOf.desc).map (fun d => d.parameters.length) = some 1 := by decide +kernel
theorem pdX1_moveCount : yX1_moveCount.cls ≠ "java/lang/invoke/MethodHandle" ∧ yX1_moveCount.cls ≠ "java/lang/invoke/VarHandle" ∧ (parseMethodDescriptor yX1_moveCount.desc).map (fun d => d.parameters.length) = some 0 := by decide +kernel
theorem pdX0_unlike : yX0_unlike.cls ≠ "java/lang/invoke/MethodHandle" ∧ yX0_unlike.cls ≠ "java/lang/invoke/VarHandle" ∧ (parseMethodDescriptor yX0_unlike.desc).map (fun d => d.parameters.length) = some 1 := by decide +kernel
theorem pdX1_resize : yX1_resize.cls ≠ "java/lang/invoke/MethodHandle" ∧ yX1_resize.cls ≠ "java/lang/invoke/VarHandle" ∧ (parseMethodDescriptor yX1_resize.desc).map (fun d => d.parameters.length) = some 2 := by decide +kernel
theorem pdX1_hasCell : yX1_hasCell.cls ≠ "java/lang/invoke/MethodHandle" ∧ yX1_hasCell.cls ≠ "java/lang/invoke/VarHandle" ∧ (parseMethodDescriptor yX1_hasCell.desc).map (fun d => d.parameters.length) = some 1 := by decide +kernel
theorem pdX1_joinTurns : yX1_joinTurns.cls ≠ "java/lang/invoke/MethodHandle" ∧ yX1_joinTurns.cls ≠ "java/lang/invoke/VarHandle" ∧ (parseMethodDescriptor yX1_joinTurns.desc).map (fun d => d.parameters.length) = some 2 := by decide +kernel
theorem pdX1_join : yX1_join.cls ≠ "java/lang/invoke/MethodHandle" ∧ yX1_join.cls ≠ "java/lang/invoke/VarHandle" ∧ (parseMethodDescriptor yX1_join.desc).map (fun d => d.parameters.length) = some 2 := by decide +kernel
theorem pdX1_undoingTurn : yX1_undoingTurn.cls ≠ "java/lang/invoke/MethodHandle" ∧ yX1_undoingTurn.cls ≠ "java/lang/invoke/VarHandle" ∧ (parseMethodDescriptor yX1_undoingTurn.desc).map (fun d => d.parameters.length) = some 1 := by decide +kernel
theorem pdX1_undoing : yX1_undoing.cls ≠ "java/lang/invoke/MethodHandle" ∧ yX1_undoing.cls ≠ "java/lang/invoke/VarHandle" ∧ (parseMethodDescriptor yX1_undoing.desc).map (fun d => d.parameters.length) = some 1 := by decide +kernel
theorem pdX1_isStill : yX1_isStill.cls ≠ "java/lang/invoke/MethodHandle" ∧ yX1_isStill.cls ≠ "java/lang/invoke/VarHandle" ∧ (parseMethodDescriptor yX1_isStill.desc).map (fun d => d.parameters.length) = some 1 := by decide +kernel
theorem pdX1_timesTillStill : yX1_timesTillStill.cls ≠ "java/lang/invoke/MethodHandle" ∧ yX1_timesTillStill.cls ≠ "java/lang/invoke/VarHandle" ∧ (parseMethodDescriptor yX1_timesTillStill.desc).map (fun d => d.parameters.length) = some 1 := by decide +kernel
theorem pdX2_isMirror : yX2_isMirror.cls ≠ "java/lang/invoke/MethodHandle" ∧ yX2_isMirror.cls ≠ "java/lang/invoke/VarHandle" ∧ (parseMethodDescriptor yX2_isMirror.desc).map (fun d => d.parameters.length) = some 2 := by decide +kernel
theorem pdX2_isAlong : yX2_isAlong.cls ≠ "java/lang/invoke/MethodHandle" ∧ yX2_isAlong.cls ≠ "java/lang/invoke/VarHandle" ∧ (parseMethodDescriptor yX2_isAlong.desc).map (fun d => d.parameters.length) = some 2 := by decide +kernel
theorem pdX5_isKeptBy : yX5_isKeptBy.cls ≠ "java/lang/invoke/MethodHandle" ∧ yX5_isKeptBy.cls ≠ "java/lang/invoke/VarHandle" ∧ (parseMethodDescriptor yX5_isKeptBy.desc).map (fun d => d.parameters.length) = some 1 := by decide +kernel
theorem pdX2_hasMirror : yX2_hasMirror.cls ≠ "java/lang/invoke/MethodHandle" ∧ yX2_hasMirror.cls ≠ "java/lang/invoke/VarHandle" ∧ (parseMethodDescriptor yX2_hasMirror.desc).map (fun d => d.parameters.length) = some 1 := by decide +kernel
theorem pdX2_isMirrorBehindShift : yX2_isMirrorBehindShift.cls ≠ "java/lang/invoke/MethodHandle" ∧ yX2_isMirrorBehindShift.cls ≠ "java/lang/invoke/VarHandle" ∧ (parseMethodDescriptor yX2_isMirrorBehindShift.desc).map (fun d => d.parameters.length) = some 2 := by decide +kernel
theorem pdX2_allMirrorsBehindShifts : yX2_allMirrorsBehindShifts.cls ≠ "java/lang/invoke/MethodHandle" ∧ yX2_allMirrorsBehindShifts.cls ≠ "java/lang/invoke/VarHandle" ∧ (parseMethodDescriptor yX2_allMirrorsBehindShifts.desc).map (fun d => d.parameters.length) = some 0 := by decide +kernel
theorem pdX5_keepersOf : yX5_keepersOf.cls ≠ "java/lang/invoke/MethodHandle" ∧ yX5_keepersOf.cls ≠ "java/lang/invoke/VarHandle" ∧ (parseMethodDescriptor yX5_keepersOf.desc).map (fun d => d.parameters.length) = some 1 := by decide +kernel
theorem pdX2_fitCount : yX2_fitCount.cls ≠ "java/lang/invoke/MethodHandle" ∧ yX2_fitCount.cls ≠ "java/lang/invoke/VarHandle" ∧ (parseMethodDescriptor yX2_fitCount.desc).map (fun d => d.parameters.length) = some 0 := by decide +kernel
theorem pdX2_mirroredCount : yX2_mirroredCount.cls ≠ "java/lang/invoke/MethodHandle" ∧ yX2_mirroredCount.cls ≠ "java/lang/invoke/VarHandle" ∧ (parseMethodDescriptor yX2_mirroredCount.desc).map (fun d => d.parameters.length) = some 0 := by decide +kernel
theorem pdX2_kindWithHalf : yX2_kindWithHalf.cls ≠ "java/lang/invoke/MethodHandle" ∧ yX2_kindWithHalf.cls ≠ "java/lang/invoke/VarHandle" ∧ (parseMethodDescriptor yX2_kindWithHalf.desc).map (fun d => d.parameters.length) = some 2 := by decide +kernel
theorem pdX2_kindWithoutTurns : yX2_kindWithoutTurns.cls ≠ "java/lang/invoke/MethodHandle" ∧ yX2_kindWithoutTurns.cls ≠ "java/lang/invoke/VarHandle" ∧ (parseMethodDescriptor yX2_kindWithoutTurns.desc).map (fun d => d.parameters.length) = some 2 := by decide +kernel
theorem pdX2_number : yX2_number.cls ≠ "java/lang/invoke/MethodHandle" ∧ yX2_number.cls ≠ "java/lang/invoke/VarHandle" ∧ (parseMethodDescriptor yX2_number.desc).map (fun d => d.parameters.length) = some 0 := by decide +kernel
theorem pdX5_keepersOfAll : yX5_keepersOfAll.cls ≠ "java/lang/invoke/MethodHandle" ∧ yX5_keepersOfAll.cls ≠ "java/lang/invoke/VarHandle" ∧ (parseMethodDescriptor yX5_keepersOfAll.desc).map (fun d => d.parameters.length) = some 0 := by decide +kernel
theorem pdX3_total : yX3_total.cls ≠ "java/lang/invoke/MethodHandle" ∧ yX3_total.cls ≠ "java/lang/invoke/VarHandle" ∧ (parseMethodDescriptor yX3_total.desc).map (fun d => d.parameters.length) = some 0 := by decide +kernel
theorem pdX3_isAhead : yX3_isAhead.cls ≠ "java/lang/invoke/MethodHandle" ∧ yX3_isAhead.cls ≠ "java/lang/invoke/VarHandle" ∧ (parseMethodDescriptor yX3_isAhead.desc).map (fun d => d.parameters.length) = some 2 := by decide +kernel
theorem pdX3_moveToFirst : yX3_moveToFirst.cls ≠ "java/lang/invoke/MethodHandle" ∧ yX3_moveToFirst.cls ≠ "java/lang/invoke/VarHandle" ∧ (parseMethodDescriptor yX3_moveToFirst.desc).map (fun d => d.parameters.length) = some 0 := by decide +kernel
theorem pdX3_hueInFirst : yX3_hueInFirst.cls ≠ "java/lang/invoke/MethodHandle" ∧ yX3_hueInFirst.cls ≠ "java/lang/invoke/VarHandle" ∧ (parseMethodDescriptor yX3_hueInFirst.desc).map (fun d => d.parameters.length) = some 1 := by decide +kernel
theorem pdX4_total : yX4_total.cls ≠ "java/lang/invoke/MethodHandle" ∧ yX4_total.cls ≠ "java/lang/invoke/VarHandle" ∧ (parseMethodDescriptor yX4_total.desc).map (fun d => d.parameters.length) = some 0 := by decide +kernel
theorem pdX4_has : yX4_has.cls ≠ "java/lang/invoke/MethodHandle" ∧ yX4_has.cls ≠ "java/lang/invoke/VarHandle" ∧ (parseMethodDescriptor yX4_has.desc).map (fun d => d.parameters.length) = some 1 := by decide +kernel
theorem pdX4_given : yX4_given.cls ≠ "java/lang/invoke/MethodHandle" ∧ yX4_given.cls ≠ "java/lang/invoke/VarHandle" ∧ (parseMethodDescriptor yX4_given.desc).map (fun d => d.parameters.length) = some 2 := by decide +kernel
theorem pdX4_isKeptBy : yX4_isKeptBy.cls ≠ "java/lang/invoke/MethodHandle" ∧ yX4_isKeptBy.cls ≠ "java/lang/invoke/VarHandle" ∧ (parseMethodDescriptor yX4_isKeptBy.desc).map (fun d => d.parameters.length) = some 2 := by decide +kernel
theorem pdX4_askFor : yX4_askFor.cls ≠ "java/lang/invoke/MethodHandle" ∧ yX4_askFor.cls ≠ "java/lang/invoke/VarHandle" ∧ (parseMethodDescriptor yX4_askFor.desc).map (fun d => d.parameters.length) = some 1 := by decide +kernel
theorem pdX4_givesWhatIsAsked : yX4_givesWhatIsAsked.cls ≠ "java/lang/invoke/MethodHandle" ∧ yX4_givesWhatIsAsked.cls ≠ "java/lang/invoke/VarHandle" ∧ (parseMethodDescriptor yX4_givesWhatIsAsked.desc).map (fun d => d.parameters.length) = some 1 := by decide +kernel
theorem pdX4_leastFor : yX4_leastFor.cls ≠ "java/lang/invoke/MethodHandle" ∧ yX4_leastFor.cls ≠ "java/lang/invoke/VarHandle" ∧ (parseMethodDescriptor yX4_leastFor.desc).map (fun d => d.parameters.length) = some 1 := by decide +kernel
theorem pdX4_movesWithSome : yX4_movesWithSome.cls ≠ "java/lang/invoke/MethodHandle" ∧ yX4_movesWithSome.cls ≠ "java/lang/invoke/VarHandle" ∧ (parseMethodDescriptor yX4_movesWithSome.desc).map (fun d => d.parameters.length) = some 0 := by decide +kernel
theorem pdX5_clear : yX5_clear.cls ≠ "java/lang/invoke/MethodHandle" ∧ yX5_clear.cls ≠ "java/lang/invoke/VarHandle" ∧ (parseMethodDescriptor yX5_clear.desc).map (fun d => d.parameters.length) = some 0 := by decide +kernel
theorem pdX5_isHue : yX5_isHue.cls ≠ "java/lang/invoke/MethodHandle" ∧ yX5_isHue.cls ≠ "java/lang/invoke/VarHandle" ∧ (parseMethodDescriptor yX5_isHue.desc).map (fun d => d.parameters.length) = some 1 := by decide +kernel
theorem pdX5_allows : yX5_allows.cls ≠ "java/lang/invoke/MethodHandle" ∧ yX5_allows.cls ≠ "java/lang/invoke/VarHandle" ∧ (parseMethodDescriptor yX5_allows.desc).map (fun d => d.parameters.length) = some 1 := by decide +kernel
theorem pdX5_allowHues : yX5_allowHues.cls ≠ "java/lang/invoke/MethodHandle" ∧ yX5_allowHues.cls ≠ "java/lang/invoke/VarHandle" ∧ (parseMethodDescriptor yX5_allowHues.desc).map (fun d => d.parameters.length) = some 1 := by decide +kernel
theorem pdX5_allowsFigures : yX5_allowsFigures.cls ≠ "java/lang/invoke/MethodHandle" ∧ yX5_allowsFigures.cls ≠ "java/lang/invoke/VarHandle" ∧ (parseMethodDescriptor yX5_allowsFigures.desc).map (fun d => d.parameters.length) = some 2 := by decide +kernel
theorem pdX5_dyeFigures : yX5_dyeFigures.cls ≠ "java/lang/invoke/MethodHandle" ∧ yX5_dyeFigures.cls ≠ "java/lang/invoke/VarHandle" ∧ (parseMethodDescriptor yX5_dyeFigures.desc).map (fun d => d.parameters.length) = some 3 := by decide +kernel
theorem pdX5_hiddenCount : yX5_hiddenCount.cls ≠ "java/lang/invoke/MethodHandle" ∧ yX5_hiddenCount.cls ≠ "java/lang/invoke/VarHandle" ∧ (parseMethodDescriptor yX5_hiddenCount.desc).map (fun d => d.parameters.length) = some 0 := by decide +kernel
theorem pdJ6_bitCount_0f7a4 : yJ6_bitCount_0f7a4.cls ≠ "java/lang/invoke/MethodHandle" ∧ yJ6_bitCount_0f7a4.cls ≠ "java/lang/invoke/VarHandle" ∧ (parseMethodDescriptor yJ6_bitCount_0f7a4.desc).map (fun d => d.parameters.length) = some 1 := by decide +kernel
theorem pdX5_usedHues : yX5_usedHues.cls ≠ "java/lang/invoke/MethodHandle" ∧ yX5_usedHues.cls ≠ "java/lang/invoke/VarHandle" ∧ (parseMethodDescriptor yX5_usedHues.desc).map (fun d => d.parameters.length) = some 0 := by decide +kernel
theorem pdX5_keeperNumber : yX5_keeperNumber.cls ≠ "java/lang/invoke/MethodHandle" ∧ yX5_keeperNumber.cls ≠ "java/lang/invoke/VarHandle" ∧ (parseMethodDescriptor yX5_keeperNumber.desc).map (fun d => d.parameters.length) = some 1 := by decide +kernel
theorem pdX5_moveBy : yX5_moveBy.cls ≠ "java/lang/invoke/MethodHandle" ∧ yX5_moveBy.cls ≠ "java/lang/invoke/VarHandle" ∧ (parseMethodDescriptor yX5_moveBy.desc).map (fun d => d.parameters.length) = some 1 := by decide +kernel
theorem pdX6_leaveAll : yX6_leaveAll.cls ≠ "java/lang/invoke/MethodHandle" ∧ yX6_leaveAll.cls ≠ "java/lang/invoke/VarHandle" ∧ (parseMethodDescriptor yX6_leaveAll.desc).map (fun d => d.parameters.length) = some 0 := by decide +kernel
theorem pdX6_arrive : yX6_arrive.cls ≠ "java/lang/invoke/MethodHandle" ∧ yX6_arrive.cls ≠ "java/lang/invoke/VarHandle" ∧ (parseMethodDescriptor yX6_arrive.desc).map (fun d => d.parameters.length) = some 3 := by decide +kernel
theorem pdX6_step : yX6_step.cls ≠ "java/lang/invoke/MethodHandle" ∧ yX6_step.cls ≠ "java/lang/invoke/VarHandle" ∧ (parseMethodDescriptor yX6_step.desc).map (fun d => d.parameters.length) = some 3 := by decide +kernel
theorem pdX6_walk : yX6_walk.cls ≠ "java/lang/invoke/MethodHandle" ∧ yX6_walk.cls ≠ "java/lang/invoke/VarHandle" ∧ (parseMethodDescriptor yX6_walk.desc).map (fun d => d.parameters.length) = some 1 := by decide +kernel
theorem pdX6_total : yX6_total.cls ≠ "java/lang/invoke/MethodHandle" ∧ yX6_total.cls ≠ "java/lang/invoke/VarHandle" ∧ (parseMethodDescriptor yX6_total.desc).map (fun d => d.parameters.length) = some 1 := by decide +kernel
theorem pdX6_sizeAt : yX6_sizeAt.cls ≠ "java/lang/invoke/MethodHandle" ∧ yX6_sizeAt.cls ≠ "java/lang/invoke/VarHandle" ∧ (parseMethodDescriptor yX6_sizeAt.desc).map (fun d => d.parameters.length) = some 1 := by decide +kernel
theorem pdX7_markRing : yX7_markRing.cls ≠ "java/lang/invoke/MethodHandle" ∧ yX7_markRing.cls ≠ "java/lang/invoke/VarHandle" ∧ (parseMethodDescriptor yX7_markRing.desc).map (fun d => d.parameters.length) = some 1 := by decide +kernel
theorem pdX7_markRings : yX7_markRings.cls ≠ "java/lang/invoke/MethodHandle" ∧ yX7_markRings.cls ≠ "java/lang/invoke/VarHandle" ∧ (parseMethodDescriptor yX7_markRings.desc).map (fun d => d.parameters.length) = some 0 := by decide +kernel
theorem pdX7_forget : yX7_forget.cls ≠ "java/lang/invoke/MethodHandle" ∧ yX7_forget.cls ≠ "java/lang/invoke/VarHandle" ∧ (parseMethodDescriptor yX7_forget.desc).map (fun d => d.parameters.length) = some 0 := by decide +kernel
theorem pdX7_add : yX7_add.cls ≠ "java/lang/invoke/MethodHandle" ∧ yX7_add.cls ≠ "java/lang/invoke/VarHandle" ∧ (parseMethodDescriptor yX7_add.desc).map (fun d => d.parameters.length) = some 1 := by decide +kernel
theorem pdX7_movesMade : yX7_movesMade.cls ≠ "java/lang/invoke/MethodHandle" ∧ yX7_movesMade.cls ≠ "java/lang/invoke/VarHandle" ∧ (parseMethodDescriptor yX7_movesMade.desc).map (fun d => d.parameters.length) = some 0 := by decide +kernel
theorem pdX7_ringCount : yX7_ringCount.cls ≠ "java/lang/invoke/MethodHandle" ∧ yX7_ringCount.cls ≠ "java/lang/invoke/VarHandle" ∧ (parseMethodDescriptor yX7_ringCount.desc).map (fun d => d.parameters.length) = some 0 := by decide +kernel
theorem pdX7_cellsOf : yX7_cellsOf.cls ≠ "java/lang/invoke/MethodHandle" ∧ yX7_cellsOf.cls ≠ "java/lang/invoke/VarHandle" ∧ (parseMethodDescriptor yX7_cellsOf.desc).map (fun d => d.parameters.length) = some 2 := by decide +kernel
theorem pdX7_commonHue : yX7_commonHue.cls ≠ "java/lang/invoke/MethodHandle" ∧ yX7_commonHue.cls ≠ "java/lang/invoke/VarHandle" ∧ (parseMethodDescriptor yX7_commonHue.desc).map (fun d => d.parameters.length) = some 1 := by decide +kernel
theorem pdX7_hueCount : yX7_hueCount.cls ≠ "java/lang/invoke/MethodHandle" ∧ yX7_hueCount.cls ≠ "java/lang/invoke/VarHandle" ∧ (parseMethodDescriptor yX7_hueCount.desc).map (fun d => d.parameters.length) = some 1 := by decide +kernel
theorem pdX7_onlyHue : yX7_onlyHue.cls ≠ "java/lang/invoke/MethodHandle" ∧ yX7_onlyHue.cls ≠ "java/lang/invoke/VarHandle" ∧ (parseMethodDescriptor yX7_onlyHue.desc).map (fun d => d.parameters.length) = some 1 := by decide +kernel
theorem pdX7_tornCount : yX7_tornCount.cls ≠ "java/lang/invoke/MethodHandle" ∧ yX7_tornCount.cls ≠ "java/lang/invoke/VarHandle" ∧ (parseMethodDescriptor yX7_tornCount.desc).map (fun d => d.parameters.length) = some 0 := by decide +kernel
theorem pdX7_paintRing : yX7_paintRing.cls ≠ "java/lang/invoke/MethodHandle" ∧ yX7_paintRing.cls ≠ "java/lang/invoke/VarHandle" ∧ (parseMethodDescriptor yX7_paintRing.desc).map (fun d => d.parameters.length) = some 3 := by decide +kernel
theorem pdX7_paintRings : yX7_paintRings.cls ≠ "java/lang/invoke/MethodHandle" ∧ yX7_paintRings.cls ≠ "java/lang/invoke/VarHandle" ∧ (parseMethodDescriptor yX7_paintRings.desc).map (fun d => d.parameters.length) = some 1 := by decide +kernel
theorem pdX8_oneIf : yX8_oneIf.cls ≠ "java/lang/invoke/MethodHandle" ∧ yX8_oneIf.cls ≠ "java/lang/invoke/VarHandle" ∧ (parseMethodDescriptor yX8_oneIf.desc).map (fun d => d.parameters.length) = some 1 := by decide +kernel
theorem pdX9_in : yX9_in.cls ≠ "java/lang/invoke/MethodHandle" ∧ yX9_in.cls ≠ "java/lang/invoke/VarHandle" ∧ (parseMethodDescriptor yX9_in.desc).map (fun d => d.parameters.length) = some 3 := by decide +kernel
theorem pdX9_cells : yX9_cells.cls ≠ "java/lang/invoke/MethodHandle" ∧ yX9_cells.cls ≠ "java/lang/invoke/VarHandle" ∧ (parseMethodDescriptor yX9_cells.desc).map (fun d => d.parameters.length) = some 0 := by decide +kernel
theorem pdX9_noCell : yX9_noCell.cls ≠ "java/lang/invoke/MethodHandle" ∧ yX9_noCell.cls ≠ "java/lang/invoke/VarHandle" ∧ (parseMethodDescriptor yX9_noCell.desc).map (fun d => d.parameters.length) = some 1 := by decide +kernel
theorem pdX9_isTurn : yX9_isTurn.cls ≠ "java/lang/invoke/MethodHandle" ∧ yX9_isTurn.cls ≠ "java/lang/invoke/VarHandle" ∧ (parseMethodDescriptor yX9_isTurn.desc).map (fun d => d.parameters.length) = some 1 := by decide +kernel
theorem pdX9_noMove : yX9_noMove.cls ≠ "java/lang/invoke/MethodHandle" ∧ yX9_noMove.cls ≠ "java/lang/invoke/VarHandle" ∧ (parseMethodDescriptor yX9_noMove.desc).map (fun d => d.parameters.length) = some 1 := by decide +kernel
theorem pdX9_rest : yX9_rest.cls ≠ "java/lang/invoke/MethodHandle" ∧ yX9_rest.cls ≠ "java/lang/invoke/VarHandle" ∧ (parseMethodDescriptor yX9_rest.desc).map (fun d => d.parameters.length) = some 2 := by decide +kernel
theorem pdX9_turnedX : yX9_turnedX.cls ≠ "java/lang/invoke/MethodHandle" ∧ yX9_turnedX.cls ≠ "java/lang/invoke/VarHandle" ∧ (parseMethodDescriptor yX9_turnedX.desc).map (fun d => d.parameters.length) = some 3 := by decide +kernel
theorem pdX9_turnedY : yX9_turnedY.cls ≠ "java/lang/invoke/MethodHandle" ∧ yX9_turnedY.cls ≠ "java/lang/invoke/VarHandle" ∧ (parseMethodDescriptor yX9_turnedY.desc).map (fun d => d.parameters.length) = some 3 := by decide +kernel
theorem pdX9_ledTo : yX9_ledTo.cls ≠ "java/lang/invoke/MethodHandle" ∧ yX9_ledTo.cls ≠ "java/lang/invoke/VarHandle" ∧ (parseMethodDescriptor yX9_ledTo.desc).map (fun d => d.parameters.length) = some 2 := by decide +kernel
theorem pdX9_isColour : yX9_isColour.cls ≠ "java/lang/invoke/MethodHandle" ∧ yX9_isColour.cls ≠ "java/lang/invoke/VarHandle" ∧ (parseMethodDescriptor yX9_isColour.desc).map (fun d => d.parameters.length) = some 1 := by decide +kernel
theorem pdX9_turnOf : yX9_turnOf.cls ≠ "java/lang/invoke/MethodHandle" ∧ yX9_turnOf.cls ≠ "java/lang/invoke/VarHandle" ∧ (parseMethodDescriptor yX9_turnOf.desc).map (fun d => d.parameters.length) = some 2 := by decide +kernel
theorem pdX9_two : yX9_two.cls ≠ "java/lang/invoke/MethodHandle" ∧ yX9_two.cls ≠ "java/lang/invoke/VarHandle" ∧ (parseMethodDescriptor yX9_two.desc).map (fun d => d.parameters.length) = some 2 := by decide +kernel
theorem pdX9_keepsIt : yX9_keepsIt.cls ≠ "java/lang/invoke/MethodHandle" ∧ yX9_keepsIt.cls ≠ "java/lang/invoke/VarHandle" ∧ (parseMethodDescriptor yX9_keepsIt.desc).map (fun d => d.parameters.length) = some 1 := by decide +kernel
theorem pdX9_layShifts : yX9_layShifts.cls ≠ "java/lang/invoke/MethodHandle" ∧ yX9_layShifts.cls ≠ "java/lang/invoke/VarHandle" ∧ (parseMethodDescriptor yX9_layShifts.desc).map (fun d => d.parameters.length) = some 0 := by decide +kernel
theorem pdX9_isMirror : yX9_isMirror.cls ≠ "java/lang/invoke/MethodHandle" ∧ yX9_isMirror.cls ≠ "java/lang/invoke/VarHandle" ∧ (parseMethodDescriptor yX9_isMirror.desc).map (fun d => d.parameters.length) = some 1 := by decide +kernel
theorem pdX9_isMirrored : yX9_isMirrored.cls ≠ "java/lang/invoke/MethodHandle" ∧ yX9_isMirrored.cls ≠ "java/lang/invoke/VarHandle" ∧ (parseMethodDescriptor yX9_isMirrored.desc).map (fun d => d.parameters.length) = some 1 := by decide +kernel
theorem pdX9_fits : yX9_fits.cls ≠ "java/lang/invoke/MethodHandle" ∧ yX9_fits.cls ≠ "java/lang/invoke/VarHandle" ∧ (parseMethodDescriptor yX9_fits.desc).map (fun d => d.parameters.length) = some 1 := by decide +kernel
theorem pdX9_isBehindShift : yX9_isBehindShift.cls ≠ "java/lang/invoke/MethodHandle" ∧ yX9_isBehindShift.cls ≠ "java/lang/invoke/VarHandle" ∧ (parseMethodDescriptor yX9_isBehindShift.desc).map (fun d => d.parameters.length) = some 1 := by decide +kernel
theorem pdX9_allBehind : yX9_allBehind.cls ≠ "java/lang/invoke/MethodHandle" ∧ yX9_allBehind.cls ≠ "java/lang/invoke/VarHandle" ∧ (parseMethodDescriptor yX9_allBehind.desc).map (fun d => d.parameters.length) = some 1 := by decide +kernel
theorem pdX9_paintMany : yX9_paintMany.cls ≠ "java/lang/invoke/MethodHandle" ∧ yX9_paintMany.cls ≠ "java/lang/invoke/VarHandle" ∧ (parseMethodDescriptor yX9_paintMany.desc).map (fun d => d.parameters.length) = some 0 := by decide +kernel
theorem pdX9_lay : yX9_lay.cls ≠ "java/lang/invoke/MethodHandle" ∧ yX9_lay.cls ≠ "java/lang/invoke/VarHandle" ∧ (parseMethodDescriptor yX9_lay.desc).map (fun d => d.parameters.length) = some 1 := by decide +kernel
theorem pdX9_noPaint : yX9_noPaint.cls ≠ "java/lang/invoke/MethodHandle" ∧ yX9_noPaint.cls ≠ "java/lang/invoke/VarHandle" ∧ (parseMethodDescriptor yX9_noPaint.desc).map (fun d => d.parameters.length) = some 1 := by decide +kernel
theorem pdX9_keepsPainted : yX9_keepsPainted.cls ≠ "java/lang/invoke/MethodHandle" ∧ yX9_keepsPainted.cls ≠ "java/lang/invoke/VarHandle" ∧ (parseMethodDescriptor yX9_keepsPainted.desc).map (fun d => d.parameters.length) = some 1 := by decide +kernel
theorem pdX9_leastPaint : yX9_leastPaint.cls ≠ "java/lang/invoke/MethodHandle" ∧ yX9_leastPaint.cls ≠ "java/lang/invoke/VarHandle" ∧ (parseMethodDescriptor yX9_leastPaint.desc).map (fun d => d.parameters.length) = some 1 := by decide +kernel
theorem pdX9_layRings : yX9_layRings.cls ≠ "java/lang/invoke/MethodHandle" ∧ yX9_layRings.cls ≠ "java/lang/invoke/VarHandle" ∧ (parseMethodDescriptor yX9_layRings.desc).map (fun d => d.parameters.length) = some 1 := by decide +kernel
theorem pdX9_reckon : yX9_reckon.cls ≠ "java/lang/invoke/MethodHandle" ∧ yX9_reckon.cls ≠ "java/lang/invoke/VarHandle" ∧ (parseMethodDescriptor yX9_reckon.desc).map (fun d => d.parameters.length) = some 1 := by decide +kernel
theorem pdX9_mostOf : yX9_mostOf.cls ≠ "java/lang/invoke/MethodHandle" ∧ yX9_mostOf.cls ≠ "java/lang/invoke/VarHandle" ∧ (parseMethodDescriptor yX9_mostOf.desc).map (fun d => d.parameters.length) = some 1 := by decide +kernel
theorem pdX9_power : yX9_power.cls ≠ "java/lang/invoke/MethodHandle" ∧ yX9_power.cls ≠ "java/lang/invoke/VarHandle" ∧ (parseMethodDescriptor yX9_power.desc).map (fun d => d.parameters.length) = some 1 := by decide +kernel
theorem pdX9_layFirst : yX9_layFirst.cls ≠ "java/lang/invoke/MethodHandle" ∧ yX9_layFirst.cls ≠ "java/lang/invoke/VarHandle" ∧ (parseMethodDescriptor yX9_layFirst.desc).map (fun d => d.parameters.length) = some 0 := by decide +kernel
theorem pdX9_layPieces : yX9_layPieces.cls ≠ "java/lang/invoke/MethodHandle" ∧ yX9_layPieces.cls ≠ "java/lang/invoke/VarHandle" ∧ (parseMethodDescriptor yX9_layPieces.desc).map (fun d => d.parameters.length) = some 0 := by decide +kernel
theorem lkX1_21 : ∀ w ∈ wsV RX1 21 RX1 yX1_numbers [Cond.code yX1_numbers cX1_numbers 1 (some .int)], w ∈ zm_tb := zm_all [351, 352, 353, 27, 354] _ (by decide +kernel) (by decide +kernel)
theorem lkX1_25 : ∀ w ∈ wsV RX1 25 RX1 yX1_turnOf [Cond.code yX1_turnOf cX1_turnOf 2 (some .int)], w ∈ zm_tb := zm_all [268, 269, 270, 27, 271] _ (by decide +kernel) (by decide +kernel)
theorem lkX1_29 : ∀ w ∈ wsV RX1 29 RX1 yX1_hasTurn [Cond.code yX1_hasTurn cX1_hasTurn 2 (some .boolean)], w ∈ zm_tb := zm_all [355, 356, 357, 27, 358] _ (by decide +kernel) (by decide +kernel)
theorem lkX1_42 : ∀ w ∈ va_wsS RX1 42 yX1_turnedX [Cond.code yX1_turnedX cX1_turnedX 3 (some .int)], w ∈ zm_tb := zm_all [284, 285, 27, 286] _ (by decide +kernel) (by decide +kernel)
theorem lkX1_46 : ∀ w ∈ va_wsS RX1 46 yX1_turnedY [Cond.code yX1_turnedY cX1_turnedY 3 (some .int)], w ∈ zm_tb := zm_all [287, 288, 27, 289] _ (by decide +kernel) (by decide +kernel)
theorem lkX1_33 : ∀ w ∈ wsV RX1 33 RX1 yX1_shiftOf [Cond.code yX1_shiftOf cX1_shiftOf 2 (some .int)], w ∈ zm_tb := zm_all [272, 273, 274, 27, 275] _ (by decide +kernel) (by decide +kernel)
theorem lkX1_36 : ∀ w ∈ wsV RX1 36 RX1 yX1_columnOf [Cond.code yX1_columnOf cX1_columnOf 2 (some .int)], w ∈ zm_tb := zm_all [276, 277, 278, 27, 279] _ (by decide +kernel) (by decide +kernel)
theorem lkX1_39 : ∀ w ∈ wsV RX1 39 RX1 yX1_rowOf [Cond.code yX1_rowOf cX1_rowOf 2 (some .int)], w ∈ zm_tb := zm_all [280, 281, 282, 27, 283] _ (by decide +kernel) (by decide +kernel)
theorem lkX1_49 : ∀ w ∈ wsV RX1 49 RX1 yX1_cellAt [Cond.code yX1_cellAt cX1_cellAt 5 (some .int)], w ∈ zm_tb := zm_all [290, 291, 292, 27, 293] _ (by decide +kernel) (by decide +kernel)
theorem lkX0_48 : ∀ w ∈ wsV RX0 48 RX1 yX1_target [Cond.code yX1_target cX1_target 7 (some .int)], w ∈ zm_tb := zm_all [670, 265, 266, 27, 267] _ (by decide +kernel) (by decide +kernel)
theorem lkX0_44 : ∀ w ∈ wsV RX0 44 RX0 yX0_passRound [Cond.code yX0_passRound cX0_passRound 5 none], w ∈ zm_tb := zm_all [666, 667, 668, 32, 669] _ (by decide +kernel) (by decide +kernel)
theorem lkX0_33 : ∀ w ∈ va_wsS RX0 33 yX0_power [Cond.code yX0_power cX0_power 5 (some .long)], w ∈ zm_tb := zm_all [671, 650, 32, 651] _ (by decide +kernel) (by decide +kernel)
theorem lkX0_19 : ∀ w ∈ wsV RX0 19 RX1 yX1_numbers [Cond.code yX1_numbers cX1_numbers 1 (some .int)], w ∈ zm_tb := zm_all [660, 352, 353, 27, 354] _ (by decide +kernel) (by decide +kernel)
theorem lkX0_25 : ∀ w ∈ wsV RX0 25 RX1 yX1_hasMove [Cond.code yX1_hasMove cX1_hasMove 2 (some .boolean)], w ∈ zm_tb := zm_all [661, 348, 349, 27, 350] _ (by decide +kernel) (by decide +kernel)
theorem lkX0_29 : ∀ w ∈ wsV RX0 29 RX0 yX0_roundsOf [Cond.code yX0_roundsOf cX0_roundsOf 4 (some .int)], w ∈ zm_tb := zm_all [662, 663, 664, 32, 665] _ (by decide +kernel) (by decide +kernel)
theorem lkX0_37 : ∀ w ∈ wsV RX0 37 RX1 yX1_moveCount [Cond.code yX1_moveCount cX1_moveCount 1 (some .int)], w ∈ zm_tb := zm_all [672, 340, 341, 27, 342] _ (by decide +kernel) (by decide +kernel)
theorem lkX1_53 : ∀ w ∈ va_wsS RX1 53 yX1_joinTurns [Cond.code yX1_joinTurns cX1_joinTurns 7 (some .int)], w ∈ zm_tb := zm_all [368, 369, 27, 370] _ (by decide +kernel) (by decide +kernel)
theorem lkX1_56 : ∀ w ∈ wsV RX1 56 RX1 yX1_target [Cond.code yX1_target cX1_target 7 (some .int)], w ∈ zm_tb := zm_all [371, 265, 266, 27, 267] _ (by decide +kernel) (by decide +kernel)
theorem lkX1_59 : ∀ w ∈ va_wsS RX1 59 yX1_undoingTurn [Cond.code yX1_undoingTurn cX1_undoingTurn 1 (some .int)], w ∈ zm_tb := zm_all [380, 381, 27, 382] _ (by decide +kernel) (by decide +kernel)
theorem lkX1_62 : ∀ w ∈ wsV RX1 62 RX1 yX1_isStill [Cond.code yX1_isStill cX1_isStill 3 (some .boolean)], w ∈ zm_tb := zm_all [391, 392, 393, 27, 394] _ (by decide +kernel) (by decide +kernel)
theorem lkX1_65 : ∀ w ∈ wsV RX1 65 RX1 yX1_join [Cond.code yX1_join cX1_join 3 (some .int)], w ∈ zm_tb := zm_all [395, 365, 366, 27, 367] _ (by decide +kernel) (by decide +kernel)
theorem lkX2_19 : ∀ w ∈ wsV RX2 19 RX1 yX1_columnOf [Cond.code yX1_columnOf cX1_columnOf 2 (some .int)], w ∈ zm_tb := zm_all [459, 277, 278, 27, 279] _ (by decide +kernel) (by decide +kernel)
theorem lkX2_25 : ∀ w ∈ wsV RX2 25 RX1 yX1_rowOf [Cond.code yX1_rowOf cX1_rowOf 2 (some .int)], w ∈ zm_tb := zm_all [460, 281, 282, 27, 283] _ (by decide +kernel) (by decide +kernel)
theorem lkX2_32 : ∀ w ∈ wsV RX2 32 RX2 yX2_isMirror [Cond.code yX2_isMirror cX2_isMirror 5 (some .boolean)], w ∈ zm_tb := zm_all [455, 456, 457, 29, 458] _ (by decide +kernel) (by decide +kernel)
theorem lkX5_44 : ∀ w ∈ wsV RX5 44 RX1 yX1_target [Cond.code yX1_target cX1_target 7 (some .int)], w ∈ zm_tb := zm_all [404, 265, 266, 27, 267] _ (by decide +kernel) (by decide +kernel)
theorem lkX2_36 : ∀ w ∈ wsV RX2 36 RX1 yX1_hasTurn [Cond.code yX1_hasTurn cX1_hasTurn 2 (some .boolean)], w ∈ zm_tb := zm_all [454, 356, 357, 27, 358] _ (by decide +kernel) (by decide +kernel)
theorem lkX2_43 : ∀ w ∈ wsV RX2 43 RX5 yX5_isKeptBy [Cond.code yX5_isKeptBy cX5_isKeptBy 3 (some .boolean)], w ∈ zm_tb := zm_all [461, 401, 402, 28, 403] _ (by decide +kernel) (by decide +kernel)
theorem lkX2_48 : ∀ w ∈ wsV RX2 48 RX1 yX1_cellAt [Cond.code yX1_cellAt cX1_cellAt 5 (some .int)], w ∈ zm_tb := zm_all [499, 291, 292, 27, 293] _ (by decide +kernel) (by decide +kernel)
theorem lkX2_52 : ∀ w ∈ wsV RX2 52 RX2 yX2_isAlong [Cond.code yX2_isAlong cX2_isAlong 3 (some .boolean)], w ∈ zm_tb := zm_all [500, 501, 502, 29, 503] _ (by decide +kernel) (by decide +kernel)
theorem lkX2_55 : ∀ w ∈ wsV RX2 55 RX1 yX1_numbers [Cond.code yX1_numbers cX1_numbers 1 (some .int)], w ∈ zm_tb := zm_all [491, 352, 353, 27, 354] _ (by decide +kernel) (by decide +kernel)
theorem lkX2_59 : ∀ w ∈ wsV RX2 59 RX1 yX1_hasMove [Cond.code yX1_hasMove cX1_hasMove 2 (some .boolean)], w ∈ zm_tb := zm_all [492, 348, 349, 27, 350] _ (by decide +kernel) (by decide +kernel)
theorem lkX2_62 : ∀ w ∈ wsV RX2 62 RX1 yX1_turnOf [Cond.code yX1_turnOf cX1_turnOf 2 (some .int)], w ∈ zm_tb := zm_all [493, 269, 270, 27, 271] _ (by decide +kernel) (by decide +kernel)
theorem lkX2_65 : ∀ w ∈ wsV RX2 65 RX1 yX1_shiftOf [Cond.code yX1_shiftOf cX1_shiftOf 2 (some .int)], w ∈ zm_tb := zm_all [494, 273, 274, 27, 275] _ (by decide +kernel) (by decide +kernel)
theorem lkX2_68 : ∀ w ∈ wsV RX2 68 RX2 yX2_isMirrorBehindShift [Cond.code yX2_isMirrorBehindShift cX2_isMirrorBehindShift 7 (some .boolean)], w ∈ zm_tb := zm_all [495, 496, 497, 29, 498] _ (by decide +kernel) (by decide +kernel)
theorem lkX5_48 : ∀ w ∈ wsV RX5 48 RX1 yX1_hasTurn [Cond.code yX1_hasTurn cX1_hasTurn 2 (some .boolean)], w ∈ zm_tb := zm_all [420, 356, 357, 27, 358] _ (by decide +kernel) (by decide +kernel)
theorem lkX5_51 : ∀ w ∈ wsV RX5 51 RX5 yX5_isKeptBy [Cond.code yX5_isKeptBy cX5_isKeptBy 3 (some .boolean)], w ∈ zm_tb := zm_all [421, 401, 402, 28, 403] _ (by decide +kernel) (by decide +kernel)
theorem lkX2_71 : ∀ w ∈ wsV RX2 71 RX5 yX5_keepersOf [Cond.code yX5_keepersOf cX5_keepersOf 5 (some .int)], w ∈ zm_tb := zm_all [477, 417, 418, 28, 419] _ (by decide +kernel) (by decide +kernel)
theorem lkX2_91 : ∀ w ∈ wsV RX2 91 RX2 yX2_hasMirror [Cond.code yX2_hasMirror cX2_hasMirror 3 (some .boolean)], w ∈ zm_tb := zm_all [486, 451, 452, 29, 453] _ (by decide +kernel) (by decide +kernel)
theorem lkX2_84 : ∀ w ∈ va_wsS RX2 84 yX2_kindWithHalf [Cond.code yX2_kindWithHalf cX2_kindWithHalf 2 (some .int)], w ∈ zm_tb := zm_all [504, 505, 29, 506] _ (by decide +kernel) (by decide +kernel)
theorem lkX2_88 : ∀ w ∈ va_wsS RX2 88 yX2_kindWithoutTurns [Cond.code yX2_kindWithoutTurns cX2_kindWithoutTurns 2 (some .int)], w ∈ zm_tb := zm_all [507, 508, 29, 509] _ (by decide +kernel) (by decide +kernel)
theorem lkX2_74 : ∀ w ∈ wsV RX2 74 RX2 yX2_fitCount [Cond.code yX2_fitCount cX2_fitCount 3 (some .int)], w ∈ zm_tb := zm_all [478, 479, 480, 29, 481] _ (by decide +kernel) (by decide +kernel)
theorem lkX2_77 : ∀ w ∈ wsV RX2 77 RX2 yX2_mirroredCount [Cond.code yX2_mirroredCount cX2_mirroredCount 3 (some .int)], w ∈ zm_tb := zm_all [482, 483, 484, 29, 485] _ (by decide +kernel) (by decide +kernel)
theorem lkX2_80 : ∀ w ∈ wsV RX2 80 RX2 yX2_allMirrorsBehindShifts [Cond.code yX2_allMirrorsBehindShifts cX2_allMirrorsBehindShifts 2 (some .boolean)], w ∈ zm_tb := zm_all [487, 488, 489, 29, 490] _ (by decide +kernel) (by decide +kernel)
theorem lkX5_54 : ∀ w ∈ wsV RX5 54 RX5 yX5_keepersOf [Cond.code yX5_keepersOf cX5_keepersOf 5 (some .int)], w ∈ zm_tb := zm_all [416, 417, 418, 28, 419] _ (by decide +kernel) (by decide +kernel)
theorem lkX3_17 : ∀ w ∈ wsV RX3 17 RX5 yX5_keepersOfAll [Cond.code yX5_keepersOfAll cX5_keepersOfAll 3 (some .int)], w ∈ zm_tb := zm_all [681, 413, 414, 28, 415] _ (by decide +kernel) (by decide +kernel)
theorem lkX3_23 : ∀ w ∈ wsV RX3 23 RX1 yX1_moveCount [Cond.code yX1_moveCount cX1_moveCount 1 (some .int)], w ∈ zm_tb := zm_all [682, 340, 341, 27, 342] _ (by decide +kernel) (by decide +kernel)
theorem lkX3_35 : ∀ w ∈ wsV RX3 35 RX1 yX1_undoing [Cond.code yX1_undoing cX1_undoing 5 (some .int)], w ∈ zm_tb := zm_all [701, 377, 378, 27, 379] _ (by decide +kernel) (by decide +kernel)
theorem lkX3_39 : ∀ w ∈ wsV RX3 39 RX1 yX1_target [Cond.code yX1_target cX1_target 7 (some .int)], w ∈ zm_tb := zm_all [702, 265, 266, 27, 267] _ (by decide +kernel) (by decide +kernel)
theorem lkX3_43 : ∀ w ∈ wsV RX3 43 RX1 yX1_numbers [Cond.code yX1_numbers cX1_numbers 1 (some .int)], w ∈ zm_tb := zm_all [695, 352, 353, 27, 354] _ (by decide +kernel) (by decide +kernel)
theorem lkX3_46 : ∀ w ∈ wsV RX3 46 RX1 yX1_hasMove [Cond.code yX1_hasMove cX1_hasMove 2 (some .boolean)], w ∈ zm_tb := zm_all [696, 348, 349, 27, 350] _ (by decide +kernel) (by decide +kernel)
theorem lkX3_50 : ∀ w ∈ wsV RX3 50 RX3 yX3_isAhead [Cond.code yX3_isAhead cX3_isAhead 8 (some .boolean)], w ∈ zm_tb := zm_all [697, 698, 699, 33, 700] _ (by decide +kernel) (by decide +kernel)
theorem lkX3_32 : ∀ w ∈ wsV RX3 32 RX3 yX3_moveToFirst [Cond.code yX3_moveToFirst cX3_moveToFirst 3 (some .int)], w ∈ zm_tb := zm_all [691, 692, 693, 33, 694] _ (by decide +kernel) (by decide +kernel)
theorem lkX4_29 : ∀ w ∈ wsV RX4 29 RX4 yX4_total [Cond.code yX4_total cX4_total 3 (some .int)], w ∈ zm_tb := zm_all [526, 515, 516, 30, 517] _ (by decide +kernel) (by decide +kernel)
theorem lkX4_44 : ∀ w ∈ wsV RX4 44 RX4 yX4_given [Cond.code yX4_given cX4_given 4 (some .int)], w ∈ zm_tb := zm_all [542, 529, 530, 30, 531] _ (by decide +kernel) (by decide +kernel)
theorem lkX4_48 : ∀ w ∈ wsV RX4 48 RX1 yX1_target [Cond.code yX1_target cX1_target 7 (some .int)], w ∈ zm_tb := zm_all [543, 265, 266, 27, 267] _ (by decide +kernel) (by decide +kernel)
theorem lkX4_51 : ∀ w ∈ wsV RX4 51 RX4 yX4_askFor [Cond.code yX4_askFor cX4_askFor 5 (some .boolean)], w ∈ zm_tb := zm_all [552, 553, 554, 30, 555] _ (by decide +kernel) (by decide +kernel)
theorem lkX4_55 : ∀ w ∈ wsV RX4 55 RX4 yX4_givesWhatIsAsked [Cond.code yX4_givesWhatIsAsked cX4_givesWhatIsAsked 3 (some .boolean)], w ∈ zm_tb := zm_all [556, 557, 558, 30, 559] _ (by decide +kernel) (by decide +kernel)
theorem lkX4_58 : ∀ w ∈ wsV RX4 58 RX1 yX1_numbers [Cond.code yX1_numbers cX1_numbers 1 (some .int)], w ∈ zm_tb := zm_all [568, 352, 353, 27, 354] _ (by decide +kernel) (by decide +kernel)
theorem lkX4_61 : ∀ w ∈ wsV RX4 61 RX1 yX1_hasMove [Cond.code yX1_hasMove cX1_hasMove 2 (some .boolean)], w ∈ zm_tb := zm_all [569, 348, 349, 27, 350] _ (by decide +kernel) (by decide +kernel)
theorem lkX4_64 : ∀ w ∈ wsV RX4 64 RX4 yX4_leastFor [Cond.code yX4_leastFor cX4_leastFor 4 (some .int)], w ∈ zm_tb := zm_all [570, 549, 550, 30, 551] _ (by decide +kernel) (by decide +kernel)
theorem lkX5_26 : ∀ w ∈ wsV RX5 26 RX5 yX5_isHue [Cond.code yX5_isHue cX5_isHue 2 (some .boolean)], w ∈ zm_tb := zm_all [306, 307, 308, 28, 309] _ (by decide +kernel) (by decide +kernel)
theorem lkX5_35 : ∀ w ∈ wsV RX5 35 RX5 yX5_allows [Cond.code yX5_allows cX5_allows 2 (some .boolean)], w ∈ zm_tb := zm_all [302, 303, 304, 28, 305] _ (by decide +kernel) (by decide +kernel)
theorem lkX5_38 : ∀ w ∈ va_wsS RX5 38 yJ6_bitCount_0f7a4 [Cond.code yJ6_bitCount_0f7a4 cJ6_bitCount_0f7a4 1 (some .int)], w ∈ zm_tb := zm_all [755, 756, 36, 757] _ (by decide +kernel) (by decide +kernel)
theorem lkX5_57 : ∀ w ∈ wsV RX5 57 RX1 yX1_moveCount [Cond.code yX1_moveCount cX1_moveCount 1 (some .int)], w ∈ zm_tb := zm_all [431, 340, 341, 27, 342] _ (by decide +kernel) (by decide +kernel)
theorem lkX5_61 : ∀ w ∈ wsV RX5 61 RX1 yX1_numbers [Cond.code yX1_numbers cX1_numbers 1 (some .int)], w ∈ zm_tb := zm_all [432, 352, 353, 27, 354] _ (by decide +kernel) (by decide +kernel)
theorem lkX5_64 : ∀ w ∈ wsV RX5 64 RX1 yX1_hasMove [Cond.code yX1_hasMove cX1_hasMove 2 (some .boolean)], w ∈ zm_tb := zm_all [433, 348, 349, 27, 350] _ (by decide +kernel) (by decide +kernel)
theorem lkX6_65 : ∀ w ∈ wsV RX6 65 RX6 yX6_arrive [Cond.code yX6_arrive cX6_arrive 4 none], w ∈ zm_tb := zm_all [726, 727, 728, 34, 729] _ (by decide +kernel) (by decide +kernel)
theorem lkX6_72 : ∀ w ∈ wsV RX6 72 RX1 yX1_cellAt [Cond.code yX1_cellAt cX1_cellAt 5 (some .int)], w ∈ zm_tb := zm_all [734, 291, 292, 27, 293] _ (by decide +kernel) (by decide +kernel)
theorem lkX6_58 : ∀ w ∈ wsV RX6 58 RX1 yX1_columnOf [Cond.code yX1_columnOf cX1_columnOf 2 (some .int)], w ∈ zm_tb := zm_all [724, 277, 278, 27, 279] _ (by decide +kernel) (by decide +kernel)
theorem lkX6_62 : ∀ w ∈ wsV RX6 62 RX1 yX1_rowOf [Cond.code yX1_rowOf cX1_rowOf 2 (some .int)], w ∈ zm_tb := zm_all [725, 281, 282, 27, 283] _ (by decide +kernel) (by decide +kernel)
theorem lkX6_69 : ∀ w ∈ wsV RX6 69 RX6 yX6_step [Cond.code yX6_step cX6_step 5 none], w ∈ zm_tb := zm_all [730, 731, 732, 34, 733] _ (by decide +kernel) (by decide +kernel)
theorem lkX6_33 : ∀ w ∈ wsV RX6 33 RX6 yX6_leaveAll [Cond.code yX6_leaveAll cX6_leaveAll 2 none], w ∈ zm_tb := zm_all [716, 717, 718, 34, 719] _ (by decide +kernel) (by decide +kernel)
theorem lkX6_47 : ∀ w ∈ wsV RX6 47 RX6 yX6_walk [Cond.code yX6_walk cX6_walk 4 none], w ∈ zm_tb := zm_all [720, 721, 722, 34, 723] _ (by decide +kernel) (by decide +kernel)
theorem lkX7_49 : ∀ w ∈ wsV RX7 49 RX1 yX1_target [Cond.code yX1_target cX1_target 7 (some .int)], w ∈ zm_tb := zm_all [264, 265, 266, 27, 267] _ (by decide +kernel) (by decide +kernel)
theorem lkX7_45 : ∀ w ∈ wsV RX7 45 RX7 yX7_markRing [Cond.code yX7_markRing cX7_markRing 6 none], w ∈ zm_tb := zm_all [260, 261, 262, 31, 263] _ (by decide +kernel) (by decide +kernel)
theorem lkX7_37 : ∀ w ∈ wsV RX7 37 RX7 yX7_markRings [Cond.code yX7_markRings cX7_markRings 2 none], w ∈ zm_tb := zm_all [256, 257, 258, 31, 259] _ (by decide +kernel) (by decide +kernel)
theorem lkX7_53 : ∀ w ∈ wsV RX7 53 RX1 yX1_join [Cond.code yX1_join cX1_join 3 (some .int)], w ∈ zm_tb := zm_all [591, 365, 366, 27, 367] _ (by decide +kernel) (by decide +kernel)
theorem lkX7_64 : ∀ w ∈ wsV RX7 64 RX7 yX7_cellsOf [Cond.code yX7_cellsOf cX7_cellsOf 5 (some .int)], w ∈ zm_tb := zm_all [616, 617, 618, 31, 619] _ (by decide +kernel) (by decide +kernel)
theorem lkX7_67 : ∀ w ∈ wsV RX7 67 RX7 yX7_hueCount [Cond.code yX7_hueCount cX7_hueCount 4 (some .int)], w ∈ zm_tb := zm_all [632, 633, 634, 31, 635] _ (by decide +kernel) (by decide +kernel)
theorem lkX7_71 : ∀ w ∈ wsV RX7 71 RX7 yX7_commonHue [Cond.code yX7_commonHue cX7_commonHue 6 (some .int)], w ∈ zm_tb := zm_all [612, 613, 614, 31, 615] _ (by decide +kernel) (by decide +kernel)
theorem lkX7_74 : ∀ w ∈ wsV RX7 74 RX7 yX7_paintRing [Cond.code yX7_paintRing cX7_paintRing 6 (some .int)], w ∈ zm_tb := zm_all [620, 621, 622, 31, 623] _ (by decide +kernel) (by decide +kernel)
theorem lkX8_69 : ∀ w ∈ wsV RX8 69 RX1 yX1_resize [Cond.code yX1_resize cX1_resize 3 none], w ∈ zm_tb := zm_all [244, 245, 246, 27, 247] _ (by decide +kernel) (by decide +kernel)
theorem lkX8_73 : ∀ w ∈ wsV RX8 73 RX5 yX5_clear [Cond.code yX5_clear cX5_clear 2 none], w ∈ zm_tb := zm_all [248, 249, 250, 28, 251] _ (by decide +kernel) (by decide +kernel)
theorem lkX8_76 : ∀ w ∈ wsV RX8 76 RX7 yX7_forget [Cond.code yX7_forget cX7_forget 1 none], w ∈ zm_tb := zm_all [252, 253, 254, 31, 255] _ (by decide +kernel) (by decide +kernel)
theorem lkX8_86 : ∀ w ∈ wsV RX8 86 RX5 yX5_allowHues [Cond.code yX5_allowHues cX5_allowHues 3 none], w ∈ zm_tb := zm_all [298, 299, 300, 28, 301] _ (by decide +kernel) (by decide +kernel)
theorem lkX8_90 : ∀ w ∈ wsV RX8 90 RX1 yX1_hasCell [Cond.code yX1_hasCell cX1_hasCell 2 (some .boolean)], w ∈ zm_tb := zm_all [314, 315, 316, 27, 317] _ (by decide +kernel) (by decide +kernel)
theorem lkX8_94 : ∀ w ∈ wsV RX8 94 RX5 yX5_allows [Cond.code yX5_allows cX5_allows 2 (some .boolean)], w ∈ zm_tb := zm_all [318, 303, 304, 28, 305] _ (by decide +kernel) (by decide +kernel)
theorem lkX8_101 : ∀ w ∈ wsV RX8 101 RX5 yX5_allowsFigures [Cond.code yX5_allowsFigures cX5_allowsFigures 5 (some .boolean)], w ∈ zm_tb := zm_all [323, 324, 325, 28, 326] _ (by decide +kernel) (by decide +kernel)
theorem lkX8_105 : ∀ w ∈ wsV RX8 105 RX5 yX5_dyeFigures [Cond.code yX5_dyeFigures cX5_dyeFigures 7 (some .int)], w ∈ zm_tb := zm_all [327, 328, 329, 28, 330] _ (by decide +kernel) (by decide +kernel)
theorem lkX8_109 : ∀ w ∈ wsV RX8 109 RX1 yX1_moveCount [Cond.code yX1_moveCount cX1_moveCount 1 (some .int)], w ∈ zm_tb := zm_all [339, 340, 341, 27, 342] _ (by decide +kernel) (by decide +kernel)
theorem lkX8_113 : ∀ w ∈ wsV RX8 113 RX1 yX1_hasMove [Cond.code yX1_hasMove cX1_hasMove 2 (some .boolean)], w ∈ zm_tb := zm_all [347, 348, 349, 27, 350] _ (by decide +kernel) (by decide +kernel)
theorem lkX8_116 : ∀ w ∈ wsV RX8 116 RX1 yX1_target [Cond.code yX1_target cX1_target 7 (some .int)], w ∈ zm_tb := zm_all [359, 265, 266, 27, 267] _ (by decide +kernel) (by decide +kernel)
theorem lkX8_120 : ∀ w ∈ wsV RX8 120 RX1 yX1_join [Cond.code yX1_join cX1_join 3 (some .int)], w ∈ zm_tb := zm_all [364, 365, 366, 27, 367] _ (by decide +kernel) (by decide +kernel)
theorem lkX8_123 : ∀ w ∈ wsV RX8 123 RX1 yX1_undoing [Cond.code yX1_undoing cX1_undoing 5 (some .int)], w ∈ zm_tb := zm_all [376, 377, 378, 27, 379] _ (by decide +kernel) (by decide +kernel)
theorem lkX8_127 : ∀ w ∈ wsV RX8 127 RX1 yX1_timesTillStill [Cond.code yX1_timesTillStill cX1_timesTillStill 4 (some .int)], w ∈ zm_tb := zm_all [387, 388, 389, 27, 390] _ (by decide +kernel) (by decide +kernel)
theorem lkX8_133 : ∀ w ∈ va_wsS RX8 133 yX8_oneIf [Cond.code yX8_oneIf cX8_oneIf 1 (some .int)], w ∈ zm_tb := zm_all [405, 406, 26, 407] _ (by decide +kernel) (by decide +kernel)
theorem lkX8_130 : ∀ w ∈ wsV RX8 130 RX5 yX5_isKeptBy [Cond.code yX5_isKeptBy cX5_isKeptBy 3 (some .boolean)], w ∈ zm_tb := zm_all [400, 401, 402, 28, 403] _ (by decide +kernel) (by decide +kernel)
theorem lkX8_137 : ∀ w ∈ wsV RX8 137 RX5 yX5_keepersOfAll [Cond.code yX5_keepersOfAll cX5_keepersOfAll 3 (some .int)], w ∈ zm_tb := zm_all [412, 413, 414, 28, 415] _ (by decide +kernel) (by decide +kernel)
theorem lkX8_140 : ∀ w ∈ wsV RX8 140 RX5 yX5_keepersOf [Cond.code yX5_keepersOf cX5_keepersOf 5 (some .int)], w ∈ zm_tb := zm_all [422, 417, 418, 28, 419] _ (by decide +kernel) (by decide +kernel)
theorem lkX8_143 : ∀ w ∈ wsV RX8 143 RX5 yX5_keeperNumber [Cond.code yX5_keeperNumber cX5_keeperNumber 4 (some .int)], w ∈ zm_tb := zm_all [427, 428, 429, 28, 430] _ (by decide +kernel) (by decide +kernel)
theorem lkX8_146 : ∀ w ∈ wsV RX8 146 RX5 yX5_moveBy [Cond.code yX5_moveBy cX5_moveBy 4 (some .int)], w ∈ zm_tb := zm_all [438, 439, 440, 28, 441] _ (by decide +kernel) (by decide +kernel)
theorem lkX8_149 : ∀ w ∈ wsV RX8 149 RX2 yX2_hasMirror [Cond.code yX2_hasMirror cX2_hasMirror 3 (some .boolean)], w ∈ zm_tb := zm_all [450, 451, 452, 29, 453] _ (by decide +kernel) (by decide +kernel)
theorem lkX8_152 : ∀ w ∈ wsV RX8 152 RX1 yX1_turnOf [Cond.code yX1_turnOf cX1_turnOf 2 (some .int)], w ∈ zm_tb := zm_all [466, 269, 270, 27, 271] _ (by decide +kernel) (by decide +kernel)
theorem lkX8_155 : ∀ w ∈ wsV RX8 155 RX1 yX1_shiftOf [Cond.code yX1_shiftOf cX1_shiftOf 2 (some .int)], w ∈ zm_tb := zm_all [467, 273, 274, 27, 275] _ (by decide +kernel) (by decide +kernel)
theorem lkX8_158 : ∀ w ∈ wsV RX8 158 RX2 yX2_isMirror [Cond.code yX2_isMirror cX2_isMirror 5 (some .boolean)], w ∈ zm_tb := zm_all [468, 456, 457, 29, 458] _ (by decide +kernel) (by decide +kernel)
theorem lkX8_161 : ∀ w ∈ wsV RX8 161 RX2 yX2_number [Cond.code yX2_number cX2_number 5 (some .int)], w ∈ zm_tb := zm_all [473, 474, 475, 29, 476] _ (by decide +kernel) (by decide +kernel)
theorem lkX8_164 : ∀ w ∈ wsV RX8 164 RX4 yX4_total [Cond.code yX4_total cX4_total 3 (some .int)], w ∈ zm_tb := zm_all [514, 515, 516, 30, 517] _ (by decide +kernel) (by decide +kernel)
theorem lkX8_167 : ∀ w ∈ wsV RX8 167 RX4 yX4_has [Cond.code yX4_has cX4_has 2 (some .boolean)], w ∈ zm_tb := zm_all [522, 523, 524, 30, 525] _ (by decide +kernel) (by decide +kernel)
theorem lkX8_170 : ∀ w ∈ wsV RX8 170 RX5 yX5_isHue [Cond.code yX5_isHue cX5_isHue 2 (some .boolean)], w ∈ zm_tb := zm_all [527, 307, 308, 28, 309] _ (by decide +kernel) (by decide +kernel)
theorem lkX8_173 : ∀ w ∈ wsV RX8 173 RX4 yX4_given [Cond.code yX4_given cX4_given 4 (some .int)], w ∈ zm_tb := zm_all [528, 529, 530, 30, 531] _ (by decide +kernel) (by decide +kernel)
theorem lkX8_176 : ∀ w ∈ wsV RX8 176 RX4 yX4_isKeptBy [Cond.code yX4_isKeptBy cX4_isKeptBy 6 (some .boolean)], w ∈ zm_tb := zm_all [538, 539, 540, 30, 541] _ (by decide +kernel) (by decide +kernel)
theorem lkX8_178 : ∀ w ∈ wsV RX8 178 RX4 yX4_leastFor [Cond.code yX4_leastFor cX4_leastFor 4 (some .int)], w ∈ zm_tb := zm_all [548, 549, 550, 30, 551] _ (by decide +kernel) (by decide +kernel)
theorem lkX8_181 : ∀ w ∈ wsV RX8 181 RX4 yX4_movesWithSome [Cond.code yX4_movesWithSome cX4_movesWithSome 3 (some .int)], w ∈ zm_tb := zm_all [564, 565, 566, 30, 567] _ (by decide +kernel) (by decide +kernel)
theorem lkX8_187 : ∀ w ∈ wsV RX8 187 RX7 yX7_add [Cond.code yX7_add cX7_add 2 none], w ∈ zm_tb := zm_all [575, 576, 577, 31, 578] _ (by decide +kernel) (by decide +kernel)
theorem lkX8_190 : ∀ w ∈ wsV RX8 190 RX7 yX7_movesMade [Cond.code yX7_movesMade cX7_movesMade 5 (some .int)], w ∈ zm_tb := zm_all [587, 588, 589, 31, 590] _ (by decide +kernel) (by decide +kernel)
theorem lkX8_193 : ∀ w ∈ wsV RX8 193 RX7 yX7_ringCount [Cond.code yX7_ringCount cX7_ringCount 3 (some .int)], w ∈ zm_tb := zm_all [596, 597, 598, 31, 599] _ (by decide +kernel) (by decide +kernel)
theorem lkX8_199 : ∀ w ∈ wsV RX8 199 RX7 yX7_paintRings [Cond.code yX7_paintRings cX7_paintRings 4 (some .int)], w ∈ zm_tb := zm_all [608, 609, 610, 31, 611] _ (by decide +kernel) (by decide +kernel)
theorem lkX8_202 : ∀ w ∈ wsV RX8 202 RX7 yX7_onlyHue [Cond.code yX7_onlyHue cX7_onlyHue 2 (some .int)], w ∈ zm_tb := zm_all [628, 629, 630, 31, 631] _ (by decide +kernel) (by decide +kernel)
theorem lkX8_205 : ∀ w ∈ wsV RX8 205 RX7 yX7_tornCount [Cond.code yX7_tornCount cX7_tornCount 3 (some .int)], w ∈ zm_tb := zm_all [640, 641, 642, 31, 643] _ (by decide +kernel) (by decide +kernel)
theorem lkX8_210 : ∀ w ∈ va_wsS RX8 210 yX0_power [Cond.code yX0_power cX0_power 5 (some .long)], w ∈ zm_tb := zm_all [649, 650, 32, 651] _ (by decide +kernel) (by decide +kernel)
theorem lkX8_214 : ∀ w ∈ wsV RX8 214 RX0 yX0_unlike [Cond.code yX0_unlike cX0_unlike 5 (some .long)], w ∈ zm_tb := zm_all [656, 657, 658, 32, 659] _ (by decide +kernel) (by decide +kernel)
theorem lkX8_218 : ∀ w ∈ wsV RX8 218 RX3 yX3_total [Cond.code yX3_total cX3_total 2 (some .int)], w ∈ zm_tb := zm_all [677, 678, 679, 33, 680] _ (by decide +kernel) (by decide +kernel)
theorem lkX8_219 : ∀ w ∈ wsV RX8 219 RX3 yX3_hueInFirst [Cond.code yX3_hueInFirst cX3_hueInFirst 2 (some .int)], w ∈ zm_tb := zm_all [687, 688, 689, 33, 690] _ (by decide +kernel) (by decide +kernel)
theorem lkX8_222 : ∀ w ∈ wsV RX8 222 RX3 yX3_moveToFirst [Cond.code yX3_moveToFirst cX3_moveToFirst 3 (some .int)], w ∈ zm_tb := zm_all [707, 692, 693, 33, 694] _ (by decide +kernel) (by decide +kernel)
theorem lkX8_225 : ∀ w ∈ wsV RX8 225 RX6 yX6_total [Cond.code yX6_total cX6_total 4 (some .int)], w ∈ zm_tb := zm_all [712, 713, 714, 34, 715] _ (by decide +kernel) (by decide +kernel)
theorem lkX8_227 : ∀ w ∈ wsV RX8 227 RX6 yX6_sizeAt [Cond.code yX6_sizeAt cX6_sizeAt 2 (some .int)], w ∈ zm_tb := zm_all [739, 740, 741, 34, 742] _ (by decide +kernel) (by decide +kernel)
theorem lkX8_230 : ∀ w ∈ wsV RX8 230 RX5 yX5_hiddenCount [Cond.code yX5_hiddenCount cX5_hiddenCount 3 (some .int)], w ∈ zm_tb := zm_all [747, 748, 749, 28, 750] _ (by decide +kernel) (by decide +kernel)
theorem lkX8_233 : ∀ w ∈ wsV RX8 233 RX5 yX5_usedHues [Cond.code yX5_usedHues cX5_usedHues 3 (some .int)], w ∈ zm_tb := zm_all [751, 752, 753, 28, 754] _ (by decide +kernel) (by decide +kernel)
theorem lkX9_76 : ∀ w ∈ va_wsS RX9 76 yX9_in [Cond.code yX9_in cX9_in 6 (some .boolean)], w ∈ zm_tb := zm_all [839, 840, 35, 841] _ (by decide +kernel) (by decide +kernel)
theorem lkX9_72 : ∀ w ∈ wsV RX9 72 RX9 yX9_cells [Cond.code yX9_cells cX9_cells 1 (some .int)], w ∈ zm_tb := zm_all [847, 849, 0, 35, 850] _ (by decide +kernel) (by decide +kernel)
theorem lkX9_80 : ∀ w ∈ wsV RX9 80 RX9 yX9_isTurn [Cond.code yX9_isTurn cX9_isTurn 3 (some .boolean)], w ∈ zm_tb := zm_all [884, 886, 4, 35, 887] _ (by decide +kernel) (by decide +kernel)
theorem lkX9_84 : ∀ w ∈ va_wsS RX9 84 yX9_turnedX [Cond.code yX9_turnedX cX9_turnedX 3 (some .int)], w ∈ zm_tb := zm_all [892, 893, 35, 894] _ (by decide +kernel) (by decide +kernel)
theorem lkX9_88 : ∀ w ∈ va_wsS RX9 88 yX9_rest [Cond.code yX9_rest cX9_rest 3 (some .int)], w ∈ zm_tb := zm_all [895, 896, 35, 897] _ (by decide +kernel) (by decide +kernel)
theorem lkX9_92 : ∀ w ∈ va_wsS RX9 92 yX9_turnedY [Cond.code yX9_turnedY cX9_turnedY 3 (some .int)], w ∈ zm_tb := zm_all [898, 899, 35, 900] _ (by decide +kernel) (by decide +kernel)
theorem lkX9_102 : ∀ w ∈ wsV RX9 102 RX9 yX9_noCell [Cond.code yX9_noCell cX9_noCell 2 (some .boolean)], w ∈ zm_tb := zm_all [855, 857, 1, 35, 858] _ (by decide +kernel) (by decide +kernel)
theorem lkX9_105 : ∀ w ∈ wsV RX9 105 RX9 yX9_isColour [Cond.code yX9_isColour cX9_isColour 2 (some .boolean)], w ∈ zm_tb := zm_all [859, 861, 2, 35, 862] _ (by decide +kernel) (by decide +kernel)
theorem lkX9_110 : ∀ w ∈ wsV RX9 110 RX9 yX9_noMove [Cond.code yX9_noMove cX9_noMove 2 (some .boolean)], w ∈ zm_tb := zm_all [880, 882, 3, 35, 883] _ (by decide +kernel) (by decide +kernel)
theorem lkX9_113 : ∀ w ∈ wsV RX9 113 RX9 yX9_ledTo [Cond.code yX9_ledTo cX9_ledTo 7 (some .int)], w ∈ zm_tb := zm_all [888, 890, 5, 35, 891] _ (by decide +kernel) (by decide +kernel)
theorem lkX9_116 : ∀ w ∈ va_wsS RX9 116 yX9_turnOf [Cond.code yX9_turnOf cX9_turnOf 8 (some .int)], w ∈ zm_tb := zm_all [909, 910, 35, 911] _ (by decide +kernel) (by decide +kernel)
theorem lkX9_119 : ∀ w ∈ wsV RX9 119 RX9 yX9_two [Cond.code yX9_two cX9_two 4 (some .int)], w ∈ zm_tb := zm_all [905, 907, 6, 35, 908] _ (by decide +kernel) (by decide +kernel)
theorem lkX9_122 : ∀ w ∈ wsV RX9 122 RX9 yX9_keepsIt [Cond.code yX9_keepsIt cX9_keepsIt 4 (some .boolean)], w ∈ zm_tb := zm_all [924, 926, 7, 35, 927] _ (by decide +kernel) (by decide +kernel)
theorem lkX9_127 : ∀ w ∈ wsV RX9 127 RX9 yX9_layShifts [Cond.code yX9_layShifts cX9_layShifts 3 (some .int)], w ∈ zm_tb := zm_all [945, 947, 8, 35, 948] _ (by decide +kernel) (by decide +kernel)
theorem lkX9_130 : ∀ w ∈ wsV RX9 130 RX9 yX9_isMirror [Cond.code yX9_isMirror cX9_isMirror 5 (some .boolean)], w ∈ zm_tb := zm_all [958, 960, 10, 35, 961] _ (by decide +kernel) (by decide +kernel)
theorem lkX9_135 : ∀ w ∈ wsV RX9 135 RX9 yX9_isMirrored [Cond.code yX9_isMirrored cX9_isMirrored 5 (some .boolean)], w ∈ zm_tb := zm_all [954, 956, 9, 35, 957] _ (by decide +kernel) (by decide +kernel)
theorem lkX9_138 : ∀ w ∈ wsV RX9 138 RX9 yX9_isBehindShift [Cond.code yX9_isBehindShift cX9_isBehindShift 9 (some .boolean)], w ∈ zm_tb := zm_all [978, 980, 13, 35, 981] _ (by decide +kernel) (by decide +kernel)
theorem lkX9_141 : ∀ w ∈ wsV RX9 141 RX9 yX9_fits [Cond.code yX9_fits cX9_fits 4 (some .boolean)], w ∈ zm_tb := zm_all [970, 972, 11, 35, 973] _ (by decide +kernel) (by decide +kernel)
theorem lkX9_144 : ∀ w ∈ wsV RX9 144 RX9 yX9_allBehind [Cond.code yX9_allBehind cX9_allBehind 5 (some .boolean)], w ∈ zm_tb := zm_all [974, 976, 12, 35, 977] _ (by decide +kernel) (by decide +kernel)
theorem lkX9_147 : ∀ w ∈ wsV RX9 147 RX9 yX9_paintMany [Cond.code yX9_paintMany cX9_paintMany 3 (some .int)], w ∈ zm_tb := zm_all [986, 988, 14, 35, 989] _ (by decide +kernel) (by decide +kernel)
theorem lkX9_150 : ∀ w ∈ wsV RX9 150 RX9 yX9_noPaint [Cond.code yX9_noPaint cX9_noPaint 2 (some .boolean)], w ∈ zm_tb := zm_all [994, 996, 15, 35, 997] _ (by decide +kernel) (by decide +kernel)
theorem lkX9_153 : ∀ w ∈ wsV RX9 153 RX9 yX9_lay [Cond.code yX9_lay cX9_lay 8 none], w ∈ zm_tb := zm_all [998, 1000, 16, 35, 1001] _ (by decide +kernel) (by decide +kernel)
theorem lkX9_157 : ∀ w ∈ wsV RX9 157 RX9 yX9_keepsPainted [Cond.code yX9_keepsPainted cX9_keepsPainted 5 (some .boolean)], w ∈ zm_tb := zm_all [1006, 1008, 17, 35, 1009] _ (by decide +kernel) (by decide +kernel)
theorem lkX9_160 : ∀ w ∈ wsV RX9 160 RX9 yX9_leastPaint [Cond.code yX9_leastPaint cX9_leastPaint 3 (some .int)], w ∈ zm_tb := zm_all [1014, 1016, 18, 35, 1017] _ (by decide +kernel) (by decide +kernel)
theorem lkX9_164 : ∀ w ∈ wsV RX9 164 RX9 yX9_layRings [Cond.code yX9_layRings cX9_layRings 7 (some .int)], w ∈ zm_tb := zm_all [1038, 1040, 19, 35, 1041] _ (by decide +kernel) (by decide +kernel)
theorem lkX9_167 : ∀ w ∈ wsV RX9 167 RX9 yX9_reckon [Cond.code yX9_reckon cX9_reckon 4 (some .int)], w ∈ zm_tb := zm_all [1054, 1056, 21, 35, 1057] _ (by decide +kernel) (by decide +kernel)
theorem lkX9_170 : ∀ w ∈ wsV RX9 170 RX9 yX9_mostOf [Cond.code yX9_mostOf cX9_mostOf 4 (some .int)], w ∈ zm_tb := zm_all [1050, 1052, 20, 35, 1053] _ (by decide +kernel) (by decide +kernel)
theorem lkX9_175 : ∀ w ∈ wsV RX9 175 RX9 yX9_power [Cond.code yX9_power cX9_power 5 (some .long)], w ∈ zm_tb := zm_all [1071, 1073, 22, 35, 1074] _ (by decide +kernel) (by decide +kernel)
theorem lkX9_179 : ∀ w ∈ wsV RX9 179 RX9 yX9_layFirst [Cond.code yX9_layFirst cX9_layFirst 5 (some .int)], w ∈ zm_tb := zm_all [1087, 1089, 23, 35, 1090] _ (by decide +kernel) (by decide +kernel)
theorem lkX9_185 : ∀ w ∈ wsV RX9 185 RX9 yX9_layPieces [Cond.code yX9_layPieces cX9_layPieces 10 none], w ∈ zm_tb := zm_all [1099, 1101, 24, 35, 1102] _ (by decide +kernel) (by decide +kernel)
theorem fkX1_18 : Cond.fieldLink RX1 18 (TX1 2).1 (TX1 2).2.1 (TX1 2).2.2.1 ∈ zm_tb := zm_tb_in 54 (by decide +kernel) (by decide +kernel)
theorem fkX1_9 : Cond.fieldLink RX1 9 (TX1 0).1 (TX1 0).2.1 (TX1 0).2.2.1 ∈ zm_tb := zm_tb_in 51 (by decide +kernel) (by decide +kernel)
theorem fkX1_15 : Cond.fieldLink RX1 15 (TX1 1).1 (TX1 1).2.1 (TX1 1).2.2.1 ∈ zm_tb := zm_tb_in 53 (by decide +kernel) (by decide +kernel)
theorem fkX0_15 : Cond.fieldLink RX0 15 (TX0 0).1 (TX0 0).2.1 (TX0 0).2.2.1 ∈ zm_tb := zm_tb_in 164 (by decide +kernel) (by decide +kernel)
theorem fkX0_40 : (RX0, 40, (TX1 2).1, (TX1 2).2.1, (TX1 2).2.2.1, "PaperRepeats") ∈ zm_NW := by decide +kernel
theorem fkX0_9 : Cond.fieldLink RX0 9 (TX0 1).1 (TX0 1).2.1 (TX0 1).2.2.1 ∈ zm_tb := zm_tb_in 165 (by decide +kernel) (by decide +kernel)
theorem fkX2_9 : Cond.fieldLink RX2 9 (TX2 0).1 (TX2 0).2.1 (TX2 0).2.2.1 ∈ zm_tb := zm_tb_in 104 (by decide +kernel) (by decide +kernel)
theorem fkX2_28 : (RX2, 28, (TX1 0).1, (TX1 0).2.1, (TX1 0).2.2.1, "PaperRepeats") ∈ zm_NW := by decide +kernel
theorem fkX5_22 : Cond.fieldLink RX5 22 (TX5 0).1 (TX5 0).2.1 (TX5 0).2.2.1 ∈ zm_tb := zm_tb_in 76 (by decide +kernel) (by decide +kernel)
theorem fkX5_30 : (RX5, 30, (TX1 2).1, (TX1 2).2.1, (TX1 2).2.2.1, "PaperRepeats") ∈ zm_NW := by decide +kernel
theorem fkX5_9 : Cond.fieldLink RX5 9 (TX5 1).1 (TX5 1).2.1 (TX5 1).2.2.1 ∈ zm_tb := zm_tb_in 77 (by decide +kernel) (by decide +kernel)
theorem fkX2_40 : (RX2, 40, (TX1 2).1, (TX1 2).2.1, (TX1 2).2.2.1, "PaperRepeats") ∈ zm_NW := by decide +kernel
theorem fkX2_15 : Cond.fieldLink RX2 15 (TX2 1).1 (TX2 1).2.1 (TX2 1).2.2.1 ∈ zm_tb := zm_tb_in 105 (by decide +kernel) (by decide +kernel)
theorem fkX3_13 : Cond.fieldLink RX3 13 (TX3 1).1 (TX3 1).2.1 (TX3 1).2.2.1 ∈ zm_tb := zm_tb_in 178 (by decide +kernel) (by decide +kernel)
theorem fkX3_7 : Cond.fieldLink RX3 7 (TX3 0).1 (TX3 0).2.1 (TX3 0).2.2.1 ∈ zm_tb := zm_tb_in 177 (by decide +kernel) (by decide +kernel)
theorem fkX3_54 : (RX3, 54, (TX1 2).1, (TX1 2).2.1, (TX1 2).2.2.1, "PaperRepeats") ∈ zm_NW := by decide +kernel
theorem fkX3_28 : (RX3, 28, (TX5 1).1, (TX5 1).2.1, (TX5 1).2.2.1, "PaperRepeats") ∈ zm_NW := by decide +kernel
theorem fkX4_19 : Cond.fieldLink RX4 19 (TX4 1).1 (TX4 1).2.1 (TX4 1).2.2.1 ∈ zm_tb := zm_tb_in 118 (by decide +kernel) (by decide +kernel)
theorem fkX4_23 : (RX4, 23, (TX5 3).1, (TX5 3).2.1, (TX5 3).2.2.1, "PaperRepeats") ∈ zm_NW := by decide +kernel
theorem fkX4_15 : Cond.fieldLink RX4 15 (TX4 0).1 (TX4 0).2.1 (TX4 0).2.2.1 ∈ zm_tb := zm_tb_in 117 (by decide +kernel) (by decide +kernel)
theorem fkX4_36 : (RX4, 36, (TX1 2).1, (TX1 2).2.1, (TX1 2).2.2.1, "PaperRepeats") ∈ zm_NW := by decide +kernel
theorem fkX4_41 : (RX4, 41, (TX5 1).1, (TX5 1).2.1, (TX5 1).2.2.1, "PaperRepeats") ∈ zm_NW := by decide +kernel
theorem fkX4_9 : Cond.fieldLink RX4 9 (TX4 2).1 (TX4 2).2.1 (TX4 2).2.2.1 ∈ zm_tb := zm_tb_in 119 (by decide +kernel) (by decide +kernel)
theorem fkX5_18 : Cond.fieldLink RX5 18 (TX5 3).1 (TX5 3).2.1 (TX5 3).2.2.1 ∈ zm_tb := zm_tb_in 84 (by decide +kernel) (by decide +kernel)
theorem fkJ6_265 : Cond.constant RJ6 265 (1431655765) ∈ zm_tb := zm_tb_in 758 (by decide +kernel) (by decide +kernel)
theorem fkJ6_266 : Cond.constant RJ6 266 (858993459) ∈ zm_tb := zm_tb_in 759 (by decide +kernel) (by decide +kernel)
theorem fkJ6_267 : Cond.constant RJ6 267 (252645135) ∈ zm_tb := zm_tb_in 760 (by decide +kernel) (by decide +kernel)
theorem fkX5_15 : Cond.fieldLink RX5 15 (TX5 2).1 (TX5 2).2.1 (TX5 2).2.2.1 ∈ zm_tb := zm_tb_in 83 (by decide +kernel) (by decide +kernel)
theorem fkX6_25 : Cond.fieldLink RX6 25 (TX6 0).1 (TX6 0).2.1 (TX6 0).2.2.1 ∈ zm_tb := zm_tb_in 190 (by decide +kernel) (by decide +kernel)
theorem fkX6_36 : (RX6, 36, (TX1 2).1, (TX1 2).2.1, (TX1 2).2.2.1, "PaperRepeats") ∈ zm_NW := by decide +kernel
theorem fkX6_15 : Cond.fieldLink RX6 15 (TX6 3).1 (TX6 3).2.1 (TX6 3).2.2.1 ∈ zm_tb := zm_tb_in 193 (by decide +kernel) (by decide +kernel)
theorem fkX6_19 : Cond.fieldLink RX6 19 (TX6 4).1 (TX6 4).2.1 (TX6 4).2.2.1 ∈ zm_tb := zm_tb_in 194 (by decide +kernel) (by decide +kernel)
theorem fkX6_22 : Cond.fieldLink RX6 22 (TX6 5).1 (TX6 5).2.1 (TX6 5).2.2.1 ∈ zm_tb := zm_tb_in 195 (by decide +kernel) (by decide +kernel)
theorem fkX6_9 : Cond.fieldLink RX6 9 (TX6 2).1 (TX6 2).2.1 (TX6 2).2.2.1 ∈ zm_tb := zm_tb_in 192 (by decide +kernel) (by decide +kernel)
theorem fkX6_55 : Cond.fieldLink RX6 55 (TX6 6).1 (TX6 6).2.1 (TX6 6).2.2.1 ∈ zm_tb := zm_tb_in 196 (by decide +kernel) (by decide +kernel)
theorem fkX6_29 : Cond.fieldLink RX6 29 (TX6 1).1 (TX6 1).2.1 (TX6 1).2.2.1 ∈ zm_tb := zm_tb_in 191 (by decide +kernel) (by decide +kernel)
theorem fkX6_42 : (RX6, 42, (TX5 1).1, (TX5 1).2.1, (TX5 1).2.2.1, "PaperRepeats") ∈ zm_NW := by decide +kernel
theorem fkX6_51 : Cond.fieldLink RX6 51 (TX6 7).1 (TX6 7).2.1 (TX6 7).2.2.1 ∈ zm_tb := zm_tb_in 197 (by decide +kernel) (by decide +kernel)
theorem fkX7_15 : Cond.fieldLink RX7 15 (TX7 3).1 (TX7 3).2.1 (TX7 3).2.2.1 ∈ zm_tb := zm_tb_in 136 (by decide +kernel) (by decide +kernel)
theorem fkX7_18 : Cond.fieldLink RX7 18 (TX7 4).1 (TX7 4).2.1 (TX7 4).2.2.1 ∈ zm_tb := zm_tb_in 138 (by decide +kernel) (by decide +kernel)
theorem fkX7_33 : Cond.fieldLink RX7 33 (TX7 6).1 (TX7 6).2.1 (TX7 6).2.2.1 ∈ zm_tb := zm_tb_in 140 (by decide +kernel) (by decide +kernel)
theorem fkX7_25 : Cond.fieldLink RX7 25 (TX7 0).1 (TX7 0).2.1 (TX7 0).2.2.1 ∈ zm_tb := zm_tb_in 133 (by decide +kernel) (by decide +kernel)
theorem fkX7_9 : Cond.fieldLink RX7 9 (TX7 2).1 (TX7 2).2.1 (TX7 2).2.2.1 ∈ zm_tb := zm_tb_in 135 (by decide +kernel) (by decide +kernel)
theorem fkX7_40 : (RX7, 40, (TX1 2).1, (TX1 2).2.1, (TX1 2).2.2.1, "PaperRepeats") ∈ zm_NW := by decide +kernel
theorem fkX7_21 : Cond.fieldLink RX7 21 (TX7 5).1 (TX7 5).2.1 (TX7 5).2.2.1 ∈ zm_tb := zm_tb_in 139 (by decide +kernel) (by decide +kernel)
theorem fkX7_29 : Cond.fieldLink RX7 29 (TX7 1).1 (TX7 1).2.1 (TX7 1).2.2.1 ∈ zm_tb := zm_tb_in 134 (by decide +kernel) (by decide +kernel)
theorem fkX7_56 : (RX7, 56, (TX5 1).1, (TX5 1).2.1, (TX5 1).2.2.1, "PaperRepeats") ∈ zm_NW := by decide +kernel
theorem fkX7_61 : (RX7, 61, (TX5 3).1, (TX5 3).2.1, (TX5 3).2.2.1, "PaperRepeats") ∈ zm_NW := by decide +kernel
theorem fkX8_10 : Cond.fieldLink RX8 10 (TX8 0).1 (TX8 0).2.1 (TX8 0).2.2.1 ∈ zm_tb := zm_tb_in 215 (by decide +kernel) (by decide +kernel)
theorem fkX8_21 : Cond.fieldLink RX8 21 (TX8 1).1 (TX8 1).2.1 (TX8 1).2.2.1 ∈ zm_tb := zm_tb_in 216 (by decide +kernel) (by decide +kernel)
theorem fkX8_44 : Cond.fieldLink RX8 44 (TX8 4).1 (TX8 4).2.1 (TX8 4).2.2.1 ∈ zm_tb := zm_tb_in 219 (by decide +kernel) (by decide +kernel)
theorem fkX8_79 : (RX8, 79, (TX1 2).1, (TX1 2).2.1, (TX1 2).2.2.1, "PaperRepeats") ∈ zm_NW := by decide +kernel
theorem fkX8_83 : (RX8, 83, (TX5 3).1, (TX5 3).2.1, (TX5 3).2.2.1, "PaperRepeats") ∈ zm_NW := by decide +kernel
theorem fkX8_97 : (RX8, 97, (TX5 1).1, (TX5 1).2.1, (TX5 1).2.2.1, "PaperRepeats") ∈ zm_NW := by decide +kernel
theorem fkX8_30 : Cond.fieldLink RX8 30 (TX8 2).1 (TX8 2).2.1 (TX8 2).2.2.1 ∈ zm_tb := zm_tb_in 217 (by decide +kernel) (by decide +kernel)
theorem fkX8_37 : Cond.fieldLink RX8 37 (TX8 3).1 (TX8 3).2.1 (TX8 3).2.2.1 ∈ zm_tb := zm_tb_in 218 (by decide +kernel) (by decide +kernel)
theorem fkX8_184 : (RX8, 184, (TX7 6).1, (TX7 6).2.1, (TX7 6).2.2.1, "PaperRepeats") ∈ zm_NW := by decide +kernel
theorem fkX8_196 : (RX8, 196, (TX7 3).1, (TX7 3).2.1, (TX7 3).2.2.1, "PaperRepeats") ∈ zm_NW := by decide +kernel
theorem fkX8_208 : Cond.constantLong RX8 208 (-3) ∈ zm_tb := zm_tb_in 648 (by decide +kernel) (by decide +kernel)
theorem fkX8_51 : Cond.fieldLink RX8 51 (TX8 5).1 (TX8 5).2.1 (TX8 5).2.2.1 ∈ zm_tb := zm_tb_in 220 (by decide +kernel) (by decide +kernel)
theorem fkX8_58 : Cond.fieldLink RX8 58 (TX8 6).1 (TX8 6).2.1 (TX8 6).2.2.1 ∈ zm_tb := zm_tb_in 221 (by decide +kernel) (by decide +kernel)
theorem fkX8_65 : Cond.fieldLink RX8 65 (TX8 7).1 (TX8 7).2.1 (TX8 7).2.2.1 ∈ zm_tb := zm_tb_in 222 (by decide +kernel) (by decide +kernel)
theorem fkX9_7 : Cond.fieldLink RX9 7 (TX9 1).1 (TX9 1).2.1 (TX9 1).2.2.1 ∈ zm_tb := zm_tb_in 768 (by decide +kernel) (by decide +kernel)
theorem fkX9_13 : Cond.fieldLink RX9 13 (TX9 2).1 (TX9 2).2.1 (TX9 2).2.2.1 ∈ zm_tb := zm_tb_in 769 (by decide +kernel) (by decide +kernel)
theorem fkX9_69 : Cond.fieldLink RX9 69 (TX9 0).1 (TX9 0).2.1 (TX9 0).2.2.1 ∈ zm_tb := zm_tb_in 767 (by decide +kernel) (by decide +kernel)
theorem fkX9_95 : Cond.constantLong RX9 95 (6) ∈ zm_tb := zm_tb_in 838 (by decide +kernel) (by decide +kernel)
theorem fkX9_19 : Cond.fieldLink RX9 19 (TX9 4).1 (TX9 4).2.1 (TX9 4).2.2.1 ∈ zm_tb := zm_tb_in 771 (by decide +kernel) (by decide +kernel)
theorem fkX9_97 : Cond.fieldLink RX9 97 (TX9 10).1 (TX9 10).2.1 (TX9 10).2.2.1 ∈ zm_tb := zm_tb_in 777 (by decide +kernel) (by decide +kernel)
theorem fkX9_100 : Cond.constantLong RX9 100 (4) ∈ zm_tb := zm_tb_in 846 (by decide +kernel) (by decide +kernel)
theorem fkX9_16 : Cond.fieldLink RX9 16 (TX9 3).1 (TX9 3).2.1 (TX9 3).2.2.1 ∈ zm_tb := zm_tb_in 770 (by decide +kernel) (by decide +kernel)
theorem fkX9_108 : Cond.constantLong RX9 108 (9) ∈ zm_tb := zm_tb_in 867 (by decide +kernel) (by decide +kernel)
theorem fkX9_23 : Cond.fieldLink RX9 23 (TX9 5).1 (TX9 5).2.1 (TX9 5).2.2.1 ∈ zm_tb := zm_tb_in 772 (by decide +kernel) (by decide +kernel)
theorem fkX9_125 : Cond.constantLong RX9 125 (8) ∈ zm_tb := zm_tb_in 932 (by decide +kernel) (by decide +kernel)
theorem fkX9_45 : Cond.fieldLink RX9 45 (TX9 13).1 (TX9 13).2.1 (TX9 13).2.2.1 ∈ zm_tb := zm_tb_in 780 (by decide +kernel) (by decide +kernel)
theorem fkX9_133 : Cond.constantLong RX9 133 (7) ∈ zm_tb := zm_tb_in 953 (by decide +kernel) (by decide +kernel)
theorem fkX9_48 : Cond.fieldLink RX9 48 (TX9 14).1 (TX9 14).2.1 (TX9 14).2.2.1 ∈ zm_tb := zm_tb_in 781 (by decide +kernel) (by decide +kernel)
theorem fkX9_35 : Cond.fieldLink RX9 35 (TX9 9).1 (TX9 9).2.1 (TX9 9).2.2.1 ∈ zm_tb := zm_tb_in 776 (by decide +kernel) (by decide +kernel)
theorem fkX9_38 : Cond.fieldLink RX9 38 (TX9 11).1 (TX9 11).2.1 (TX9 11).2.2.1 ∈ zm_tb := zm_tb_in 778 (by decide +kernel) (by decide +kernel)
theorem fkX9_42 : Cond.fieldLink RX9 42 (TX9 12).1 (TX9 12).2.1 (TX9 12).2.2.1 ∈ zm_tb := zm_tb_in 779 (by decide +kernel) (by decide +kernel)
theorem fkX9_29 : Cond.fieldLink RX9 29 (TX9 7).1 (TX9 7).2.1 (TX9 7).2.2.1 ∈ zm_tb := zm_tb_in 774 (by decide +kernel) (by decide +kernel)
theorem fkX9_32 : Cond.fieldLink RX9 32 (TX9 8).1 (TX9 8).2.1 (TX9 8).2.2.1 ∈ zm_tb := zm_tb_in 775 (by decide +kernel) (by decide +kernel)
theorem fkX9_173 : Cond.constantLong RX9 173 (-3) ∈ zm_tb := zm_tb_in 1070 (by decide +kernel) (by decide +kernel)
theorem fkX9_66 : Cond.fieldLink RX9 66 (TX9 21).1 (TX9 21).2.1 (TX9 21).2.2.1 ∈ zm_tb := zm_tb_in 788 (by decide +kernel) (by decide +kernel)
theorem fkX9_26 : Cond.fieldLink RX9 26 (TX9 6).1 (TX9 6).2.1 (TX9 6).2.2.1 ∈ zm_tb := zm_tb_in 773 (by decide +kernel) (by decide +kernel)
theorem fkX9_182 : Cond.fieldLink RX9 182 (TX9 20).1 (TX9 20).2.1 (TX9 20).2.2.1 ∈ zm_tb := zm_tb_in 787 (by decide +kernel) (by decide +kernel)
theorem fkX9_51 : Cond.fieldLink RX9 51 (TX9 15).1 (TX9 15).2.1 (TX9 15).2.2.1 ∈ zm_tb := zm_tb_in 782 (by decide +kernel) (by decide +kernel)
theorem fkX9_60 : Cond.fieldLink RX9 60 (TX9 18).1 (TX9 18).2.1 (TX9 18).2.2.1 ∈ zm_tb := zm_tb_in 785 (by decide +kernel) (by decide +kernel)
theorem fkX9_54 : Cond.fieldLink RX9 54 (TX9 16).1 (TX9 16).2.1 (TX9 16).2.2.1 ∈ zm_tb := zm_tb_in 783 (by decide +kernel) (by decide +kernel)
theorem fkX9_57 : Cond.fieldLink RX9 57 (TX9 17).1 (TX9 17).2.1 (TX9 17).2.2.1 ∈ zm_tb := zm_tb_in 784 (by decide +kernel) (by decide +kernel)
theorem fkX9_63 : Cond.fieldLink RX9 63 (TX9 19).1 (TX9 19).2.1 (TX9 19).2.2.1 ∈ zm_tb := zm_tb_in 786 (by decide +kernel) (by decide +kernel)
end
section
theorem zcbipush_m9 : (Int8.ofInt (-9)).toInt32 = (-9) := by decide
theorem zcbipush_m4 : (Int8.ofInt (-4)).toInt32 = (-4) := by decide
theorem zcbipush_m3 : (Int8.ofInt (-3)).toInt32 = (-3) := by decide
theorem zcbipush_m2 : (Int8.ofInt (-2)).toInt32 = (-2) := by decide
theorem zcbipush_6 : (Int8.ofInt 6).toInt32 = 6 := by decide
theorem zcbipush_7 : (Int8.ofInt 7).toInt32 = 7 := by decide
theorem zcbipush_8 : (Int8.ofInt 8).toInt32 = 8 := by decide
theorem zcbipush_9 : (Int8.ofInt 9).toInt32 = 9 := by decide
theorem zcbipush_10 : (Int8.ofInt 10).toInt32 = 10 := by decide
theorem zcbipush_11 : (Int8.ofInt 11).toInt32 = 11 := by decide
theorem zcbipush_16 : (Int8.ofInt 16).toInt32 = 16 := by decide
theorem zcbipush_25 : (Int8.ofInt 25).toInt32 = 25 := by decide
theorem zcbipush_36 : (Int8.ofInt 36).toInt32 = 36 := by decide
theorem zcbipush_63 : (Int8.ofInt 63).toInt32 = 63 := by decide
theorem zciconst_m1 : Int32.ofInt (-1) = (-1) := by decide
theorem zciconst_0 : Int32.ofInt 0 = 0 := by decide
theorem zciconst_1 : Int32.ofInt 1 = 1 := by decide
theorem zciconst_2 : Int32.ofInt 2 = 2 := by decide
theorem zciconst_3 : Int32.ofInt 3 = 3 := by decide
theorem zciconst_4 : Int32.ofInt 4 = 4 := by decide
theorem zciconst_5 : Int32.ofInt 5 = 5 := by decide
theorem zclconst_0 : Int64.ofNat ((0 : Fin 2) : Nat) = 0 := by decide
theorem zclconst_1 : Int64.ofNat ((1 : Fin 2) : Nat) = 1 := by decide
theorem zcsipush_288 : (Int16.ofInt 288).toInt32 = 288 := by decide
end
section
theorem dX0_power_0 : decode cX0_power 0 = .ok (.lconst 1, 1) := by decide +kernel
theorem dX0_power_1 : decode cX0_power 1 = .ok (.lstore_n 2, 1) := by decide +kernel
theorem dX0_power_2 : decode cX0_power 2 = .ok (.iconst 0, 1) := by decide +kernel
theorem dX0_power_3 : decode cX0_power 3 = .ok (.istore 4, 2) := by decide +kernel
theorem dX0_power_5 : decode cX0_power 5 = .ok (.iload 4, 2) := by decide +kernel
theorem dX0_power_7 : decode cX0_power 7 = .ok (.iload_n 1, 1) := by decide +kernel
theorem dX0_power_8 : decode cX0_power 8 = .ok (.if_icmp .ge 14, 3) := by decide +kernel
theorem dX0_power_11 : decode cX0_power 11 = .ok (.lload_n 2, 1) := by decide +kernel
theorem dX0_power_12 : decode cX0_power 12 = .ok (.iload_n 0, 1) := by decide +kernel
theorem dX0_power_13 : decode cX0_power 13 = .ok (.i2l, 1) := by decide +kernel
theorem dX0_power_14 : decode cX0_power 14 = .ok (.lmul, 1) := by decide +kernel
theorem dX0_power_15 : decode cX0_power 15 = .ok (.lstore_n 2, 1) := by decide +kernel
theorem dX0_power_16 : decode cX0_power 16 = .ok (.iinc 4 1, 3) := by decide +kernel
theorem dX0_power_19 : decode cX0_power 19 = .ok (.goto (-14), 3) := by decide +kernel
theorem dX0_power_22 : decode cX0_power 22 = .ok (.lload_n 2, 1) := by decide +kernel
theorem dX0_power_23 : decode cX0_power 23 = .ok (.lreturn, 1) := by decide +kernel
theorem bX0_power_0 (x0 : Int32) (x1 : Int32) (mem : zm_Mem) (post : zm_Post) (kk : zm_Z gX0_power post 5 [(0, .int x0), (1, .int x1), (2, .long 1), (4, .int 0)] [] mem) : zm_Call gX0_power [.int x0, .int x1] mem post := by
  refine z_entry (by decide) (Nat.le_of_ble_eq_true rfl) ?_
  show zm_Z gX0_power post 0 [(0, .int x0), (1, .int x1)] [] mem
  refine z_lconst (v := 1) dX0_power_0 zclconst_1 ?_
  refine z_lstore_n (lv' := [(2, .long 1), (0, .int x0), (1, .int x1)]) dX0_power_1 rfl (by decide) rfl ?_
  refine z_iconst (v := 0) dX0_power_2 zciconst_0 ?_
  refine z_istore (lv' := [(4, .int 0), (2, .long 1), (0, .int x0), (1, .int x1)]) dX0_power_3 (by decide) rfl ?_
  refine z_sub [2, 3, 1, 0] rfl ?_
  exact kk
theorem bX0_power_5 (x0 : Int32) (x1 : Int32) (x2 : Int64) (x4 : Int32) (mem : zm_Mem) (post : zm_Post) (kk : ((x1 ≤ x4 → post 0 x2 mem) ∧ (¬ x1 ≤ x4 → zm_Z gX0_power post 5 [(0, .int x0), (1, .int x1), (2, .long (x2 * (Int32.toInt64 x0))), (4, .int (x4 + 1))] [] mem))) : zm_Z gX0_power post 5 [(0, .int x0), (1, .int x1), (2, .long x2), (4, .int x4)] [] mem := by
  refine z_iload dX0_power_5 3 rfl ?_
  refine z_iload_n dX0_power_7 rfl 1 rfl ?_
  refine z_icmp_ge (tgt := 22) dX0_power_8 (by decide) (fun h1 => ?_) (fun h1 => ?_)
  ·
    refine z_lload_n dX0_power_22 rfl 2 rfl ?_
    exact z_lret rfl dX0_power_23 (kk.1 h1)
  ·
    refine z_lload_n dX0_power_11 rfl 2 rfl ?_
    refine z_iload_n dX0_power_12 rfl 0 rfl ?_
    refine z_i2l dX0_power_13 ?_
    refine z_lmul dX0_power_14 ?_
    refine z_lstore_n (lv' := [(2, .long (x2 * (Int32.toInt64 x0))), (0, .int x0), (1, .int x1), (4, .int x4)]) dX0_power_15 rfl (by decide) rfl ?_
    refine z_iinc (v := x4 + 1) (lv' := [(4, .int (x4 + 1)), (2, .long (x2 * (Int32.toInt64 x0))), (0, .int x0), (1, .int x1)]) dX0_power_16 3 rfl (by rw [zciconst_1]) (by decide) rfl ?_
    refine z_goto (tgt := 5) dX0_power_19 (by decide) ?_
    refine z_sub [2, 3, 1, 0] rfl ?_
    exact (kk.2 h1)
theorem dX1_numbers_0 : decode cX1_numbers 0 = .ok (.bipush 8, 2) := by decide +kernel
theorem dX1_numbers_2 : decode cX1_numbers 2 = .ok (.aload_n 0, 1) := by decide +kernel
theorem dX1_numbers_3 : decode cX1_numbers 3 = .ok (.getfield 18, 3) := by decide +kernel
theorem dX1_numbers_6 : decode cX1_numbers 6 = .ok (.imul, 1) := by decide +kernel
theorem dX1_numbers_7 : decode cX1_numbers 7 = .ok (.ireturn, 1) := by decide +kernel
theorem bX1_numbers_0 (mem : zm_Mem) (post : zm_Post) (kk : post (8 * (mem 1 2)) 0 mem) : zm_Call gX1_numbers [.ref 1] mem post := by
  refine z_entry (by decide) (Nat.le_of_ble_eq_true rfl) ?_
  show zm_Z gX1_numbers post 0 [(0, .ref 1)] [] mem
  refine z_bipush (v := 8) dX1_numbers_0 zcbipush_8 ?_
  refine z_aload_n dX1_numbers_2 rfl 0 rfl ?_
  refine z_geti (ci := 1) (j := 2) (T := TX1) rfl rfl hX1 rfl (by decide) fkX1_18 dX1_numbers_3 ?_
  refine z_imul dX1_numbers_6 ?_
  exact z_iret rfl dX1_numbers_7 kk
theorem dX1_turnOf_0 : decode cX1_turnOf 0 = .ok (.aload_n 0, 1) := by decide +kernel
theorem dX1_turnOf_1 : decode cX1_turnOf 1 = .ok (.getfield 18, 3) := by decide +kernel
theorem dX1_turnOf_4 : decode cX1_turnOf 4 = .ok (.iconst 1, 1) := by decide +kernel
theorem dX1_turnOf_5 : decode cX1_turnOf 5 = .ok (.if_icmp .ge 7, 3) := by decide +kernel
theorem dX1_turnOf_8 : decode cX1_turnOf 8 = .ok (.iconst 0, 1) := by decide +kernel
theorem dX1_turnOf_9 : decode cX1_turnOf 9 = .ok (.goto 9, 3) := by decide +kernel
theorem dX1_turnOf_12 : decode cX1_turnOf 12 = .ok (.iload_n 1, 1) := by decide +kernel
theorem dX1_turnOf_13 : decode cX1_turnOf 13 = .ok (.aload_n 0, 1) := by decide +kernel
theorem dX1_turnOf_14 : decode cX1_turnOf 14 = .ok (.getfield 18, 3) := by decide +kernel
theorem dX1_turnOf_17 : decode cX1_turnOf 17 = .ok (.idiv, 1) := by decide +kernel
theorem dX1_turnOf_18 : decode cX1_turnOf 18 = .ok (.ireturn, 1) := by decide +kernel
theorem bX1_turnOf_0 (x1 : Int32) (mem : zm_Mem) (post : zm_Post) (kk : ((1 ≤ (mem 1 2) → (¬ mem 1 2 = 0 ∧ post (x1 / (mem 1 2)) 0 mem)) ∧ (¬ 1 ≤ (mem 1 2) → post 0 0 mem))) : zm_Call gX1_turnOf [.ref 1, .int x1] mem post := by
  refine z_entry (by decide) (Nat.le_of_ble_eq_true rfl) ?_
  show zm_Z gX1_turnOf post 0 [(0, .ref 1), (1, .int x1)] [] mem
  refine z_aload_n dX1_turnOf_0 rfl 0 rfl ?_
  refine z_geti (ci := 1) (j := 2) (T := TX1) rfl rfl hX1 rfl (by decide) fkX1_18 dX1_turnOf_1 ?_
  refine z_iconst (v := 1) dX1_turnOf_4 zciconst_1 ?_
  refine z_icmp_ge (tgt := 12) dX1_turnOf_5 (by decide) (fun h1 => ?_) (fun h1 => ?_)
  ·
    refine z_iload_n dX1_turnOf_12 rfl 1 rfl ?_
    refine z_aload_n dX1_turnOf_13 rfl 0 rfl ?_
    refine z_geti (ci := 1) (j := 2) (T := TX1) rfl rfl hX1 rfl (by decide) fkX1_18 dX1_turnOf_14 ?_
    refine z_idiv dX1_turnOf_17 (kk.1 h1).1 ?_
    exact z_iret rfl dX1_turnOf_18 (kk.1 h1).2
  ·
    refine z_iconst (v := 0) dX1_turnOf_8 zciconst_0 ?_
    refine z_goto (tgt := 18) dX1_turnOf_9 (by decide) ?_
    exact z_iret rfl dX1_turnOf_18 (kk.2 h1)
theorem dX1_hasTurn_0 : decode cX1_hasTurn 0 = .ok (.aload_n 0, 1) := by decide +kernel
theorem dX1_hasTurn_1 : decode cX1_hasTurn 1 = .ok (.getfield 9, 3) := by decide +kernel
theorem dX1_hasTurn_4 : decode cX1_hasTurn 4 = .ok (.aload_n 0, 1) := by decide +kernel
theorem dX1_hasTurn_5 : decode cX1_hasTurn 5 = .ok (.getfield 15, 3) := by decide +kernel
theorem dX1_hasTurn_8 : decode cX1_hasTurn 8 = .ok (.if_icmp .eq 22, 3) := by decide +kernel
theorem dX1_hasTurn_11 : decode cX1_hasTurn 11 = .ok (.iload_n 1, 1) := by decide +kernel
theorem dX1_hasTurn_12 : decode cX1_hasTurn 12 = .ok (.ifCond .eq 18, 3) := by decide +kernel
theorem dX1_hasTurn_15 : decode cX1_hasTurn 15 = .ok (.iload_n 1, 1) := by decide +kernel
theorem dX1_hasTurn_16 : decode cX1_hasTurn 16 = .ok (.iconst 2, 1) := by decide +kernel
theorem dX1_hasTurn_17 : decode cX1_hasTurn 17 = .ok (.if_icmp .eq 13, 3) := by decide +kernel
theorem dX1_hasTurn_20 : decode cX1_hasTurn 20 = .ok (.iload_n 1, 1) := by decide +kernel
theorem dX1_hasTurn_21 : decode cX1_hasTurn 21 = .ok (.iconst 4, 1) := by decide +kernel
theorem dX1_hasTurn_22 : decode cX1_hasTurn 22 = .ok (.if_icmp .eq 8, 3) := by decide +kernel
theorem dX1_hasTurn_25 : decode cX1_hasTurn 25 = .ok (.iload_n 1, 1) := by decide +kernel
theorem dX1_hasTurn_26 : decode cX1_hasTurn 26 = .ok (.iconst 5, 1) := by decide +kernel
theorem dX1_hasTurn_27 : decode cX1_hasTurn 27 = .ok (.if_icmp .ne 7, 3) := by decide +kernel
theorem dX1_hasTurn_30 : decode cX1_hasTurn 30 = .ok (.iconst 1, 1) := by decide +kernel
theorem dX1_hasTurn_31 : decode cX1_hasTurn 31 = .ok (.goto 4, 3) := by decide +kernel
theorem dX1_hasTurn_34 : decode cX1_hasTurn 34 = .ok (.iconst 0, 1) := by decide +kernel
theorem dX1_hasTurn_35 : decode cX1_hasTurn 35 = .ok (.ireturn, 1) := by decide +kernel
theorem bX1_hasTurn_0 (x1 : Int32) (mem : zm_Mem) (post : zm_Post) (kk : (((mem 1 0) = (mem 1 1) → post 1 0 mem) ∧ (¬ (mem 1 0) = (mem 1 1) → ((x1 = 0 → post 1 0 mem) ∧ (¬ x1 = 0 → ((x1 = 2 → post 1 0 mem) ∧ (¬ x1 = 2 → ((x1 = 4 → post 1 0 mem) ∧ (¬ x1 = 4 → ((¬ x1 = 5 → post 0 0 mem) ∧ (x1 = 5 → post 1 0 mem))))))))))) : zm_Call gX1_hasTurn [.ref 1, .int x1] mem post := by
  refine z_entry (by decide) (Nat.le_of_ble_eq_true rfl) ?_
  show zm_Z gX1_hasTurn post 0 [(0, .ref 1), (1, .int x1)] [] mem
  refine z_aload_n dX1_hasTurn_0 rfl 0 rfl ?_
  refine z_geti (ci := 1) (j := 0) (T := TX1) rfl rfl hX1 rfl (by decide) fkX1_9 dX1_hasTurn_1 ?_
  refine z_aload_n dX1_hasTurn_4 rfl 0 rfl ?_
  refine z_geti (ci := 1) (j := 1) (T := TX1) rfl rfl hX1 rfl (by decide) fkX1_15 dX1_hasTurn_5 ?_
  refine z_icmp_eq (tgt := 30) dX1_hasTurn_8 (by decide) (fun h1 => ?_) (fun h1 => ?_)
  ·
    refine z_iconst (v := 1) dX1_hasTurn_30 zciconst_1 ?_
    refine z_goto (tgt := 35) dX1_hasTurn_31 (by decide) ?_
    exact z_zret rfl (by decide) dX1_hasTurn_35 (kk.1 h1)
  ·
    refine z_iload_n dX1_hasTurn_11 rfl 1 rfl ?_
    refine z_if_eq (tgt := 30) dX1_hasTurn_12 (by decide) (fun h2 => ?_) (fun h2 => ?_)
    ·
      refine z_iconst (v := 1) dX1_hasTurn_30 zciconst_1 ?_
      refine z_goto (tgt := 35) dX1_hasTurn_31 (by decide) ?_
      exact z_zret rfl (by decide) dX1_hasTurn_35 ((kk.2 h1).1 h2)
    ·
      refine z_iload_n dX1_hasTurn_15 rfl 1 rfl ?_
      refine z_iconst (v := 2) dX1_hasTurn_16 zciconst_2 ?_
      refine z_icmp_eq (tgt := 30) dX1_hasTurn_17 (by decide) (fun h3 => ?_) (fun h3 => ?_)
      ·
        refine z_iconst (v := 1) dX1_hasTurn_30 zciconst_1 ?_
        refine z_goto (tgt := 35) dX1_hasTurn_31 (by decide) ?_
        exact z_zret rfl (by decide) dX1_hasTurn_35 (((kk.2 h1).2 h2).1 h3)
      ·
        refine z_iload_n dX1_hasTurn_20 rfl 1 rfl ?_
        refine z_iconst (v := 4) dX1_hasTurn_21 zciconst_4 ?_
        refine z_icmp_eq (tgt := 30) dX1_hasTurn_22 (by decide) (fun h4 => ?_) (fun h4 => ?_)
        ·
          refine z_iconst (v := 1) dX1_hasTurn_30 zciconst_1 ?_
          refine z_goto (tgt := 35) dX1_hasTurn_31 (by decide) ?_
          exact z_zret rfl (by decide) dX1_hasTurn_35 ((((kk.2 h1).2 h2).2 h3).1 h4)
        ·
          refine z_iload_n dX1_hasTurn_25 rfl 1 rfl ?_
          refine z_iconst (v := 5) dX1_hasTurn_26 zciconst_5 ?_
          refine z_icmp_ne (tgt := 34) dX1_hasTurn_27 (by decide) (fun h5 => ?_) (fun h5 => ?_)
          ·
            refine z_iconst (v := 0) dX1_hasTurn_34 zciconst_0 ?_
            exact z_zret rfl (by decide) dX1_hasTurn_35 (((((kk.2 h1).2 h2).2 h3).2 h4).1 h5)
          ·
            refine z_iconst (v := 1) dX1_hasTurn_30 zciconst_1 ?_
            refine z_goto (tgt := 35) dX1_hasTurn_31 (by decide) ?_
            exact z_zret rfl (by decide) dX1_hasTurn_35 (((((kk.2 h1).2 h2).2 h3).2 h4).2 h5)
theorem dX1_hasMove_0 : decode cX1_hasMove 0 = .ok (.iload_n 1, 1) := by decide +kernel
theorem dX1_hasMove_1 : decode cX1_hasMove 1 = .ok (.ifCond .lt 27, 3) := by decide +kernel
theorem dX1_hasMove_4 : decode cX1_hasMove 4 = .ok (.iload_n 1, 1) := by decide +kernel
theorem dX1_hasMove_5 : decode cX1_hasMove 5 = .ok (.aload_n 0, 1) := by decide +kernel
theorem dX1_hasMove_6 : decode cX1_hasMove 6 = .ok (.invokevirtual 21, 3) := by decide +kernel
theorem dX1_hasMove_9 : decode cX1_hasMove 9 = .ok (.if_icmp .ge 19, 3) := by decide +kernel
theorem dX1_hasMove_12 : decode cX1_hasMove 12 = .ok (.aload_n 0, 1) := by decide +kernel
theorem dX1_hasMove_13 : decode cX1_hasMove 13 = .ok (.aload_n 0, 1) := by decide +kernel
theorem dX1_hasMove_14 : decode cX1_hasMove 14 = .ok (.iload_n 1, 1) := by decide +kernel
theorem dX1_hasMove_15 : decode cX1_hasMove 15 = .ok (.invokevirtual 25, 3) := by decide +kernel
theorem dX1_hasMove_18 : decode cX1_hasMove 18 = .ok (.invokevirtual 29, 3) := by decide +kernel
theorem dX1_hasMove_21 : decode cX1_hasMove 21 = .ok (.ifCond .eq 7, 3) := by decide +kernel
theorem dX1_hasMove_24 : decode cX1_hasMove 24 = .ok (.iconst 1, 1) := by decide +kernel
theorem dX1_hasMove_25 : decode cX1_hasMove 25 = .ok (.goto 4, 3) := by decide +kernel
theorem dX1_hasMove_28 : decode cX1_hasMove 28 = .ok (.iconst 0, 1) := by decide +kernel
theorem dX1_hasMove_29 : decode cX1_hasMove 29 = .ok (.ireturn, 1) := by decide +kernel
theorem bX1_hasMove_0 (x1 : Int32) (mem : zm_Mem) (post : zm_Post) (kk : ((x1 < 0 → post 0 0 mem) ∧ (¬ x1 < 0 → zm_Call gX1_numbers [.ref 1] mem (fun r2 w2 u2 => ((r2 ≤ x1 → post 0 0 u2) ∧ (¬ r2 ≤ x1 → zm_Call gX1_turnOf [.ref 1, .int x1] u2 (fun r4 w4 u4 => zm_Call gX1_hasTurn [.ref 1, .int r4] u4 (fun r5 w5 u5 => ((r5 = 0 → post 0 0 u5) ∧ (¬ r5 = 0 → post 1 0 u5)))))))))) : zm_Call gX1_hasMove [.ref 1, .int x1] mem post := by
  refine z_entry (by decide) (Nat.le_of_ble_eq_true rfl) ?_
  show zm_Z gX1_hasMove post 0 [(0, .ref 1), (1, .int x1)] [] mem
  refine z_iload_n dX1_hasMove_0 rfl 1 rfl ?_
  refine z_if_lt (tgt := 28) dX1_hasMove_1 (by decide) (fun h1 => ?_) (fun h1 => ?_)
  ·
    refine z_iconst (v := 0) dX1_hasMove_28 zciconst_0 ?_
    exact z_zret rfl (by decide) dX1_hasMove_29 (kk.1 h1)
  ·
    refine z_iload_n dX1_hasMove_4 rfl 1 rfl ?_
    refine z_aload_n dX1_hasMove_5 rfl 0 rfl ?_
    refine z_callVi (g' := gX1_numbers) [] (q := 1) (ci := 1) (T := TX1) rfl rfl ⟨lkX1_21, pdX1_numbers, by decide, by decide⟩ ⟨_, rfl, by decide⟩ rfl (Nat.le_of_ble_eq_true rfl) dX1_hasMove_6 (zm_Call.mono (kk.2 h1) (fun r2 w2 u2 k2 => ?_))
    refine z_icmp_ge (tgt := 28) dX1_hasMove_9 (by decide) (fun h3 => ?_) (fun h3 => ?_)
    ·
      refine z_iconst (v := 0) dX1_hasMove_28 zciconst_0 ?_
      exact z_zret rfl (by decide) dX1_hasMove_29 (k2.1 h3)
    ·
      refine z_aload_n dX1_hasMove_12 rfl 0 rfl ?_
      refine z_aload_n dX1_hasMove_13 rfl 0 rfl ?_
      refine z_iload_n dX1_hasMove_14 rfl 1 rfl ?_
      refine z_callVi (g' := gX1_turnOf) [.int x1] (q := 1) (ci := 1) (T := TX1) rfl rfl ⟨lkX1_25, pdX1_turnOf, by decide, by decide⟩ ⟨_, rfl, by decide⟩ rfl (Nat.le_of_ble_eq_true rfl) dX1_hasMove_15 (zm_Call.mono (k2.2 h3) (fun r4 w4 u4 k4 => ?_))
      refine z_callVi (g' := gX1_hasTurn) [.int r4] (q := 1) (ci := 1) (T := TX1) rfl rfl ⟨lkX1_29, pdX1_hasTurn, by decide, by decide⟩ ⟨_, rfl, by decide⟩ rfl (Nat.le_of_ble_eq_true rfl) dX1_hasMove_18 (zm_Call.mono k4 (fun r5 w5 u5 k5 => ?_))
      refine z_if_eq (tgt := 28) dX1_hasMove_21 (by decide) (fun h6 => ?_) (fun h6 => ?_)
      ·
        refine z_iconst (v := 0) dX1_hasMove_28 zciconst_0 ?_
        exact z_zret rfl (by decide) dX1_hasMove_29 (k5.1 h6)
      ·
        refine z_iconst (v := 1) dX1_hasMove_24 zciconst_1 ?_
        refine z_goto (tgt := 29) dX1_hasMove_25 (by decide) ?_
        exact z_zret rfl (by decide) dX1_hasMove_29 (k5.2 h6)
theorem dX1_shiftOf_0 : decode cX1_shiftOf 0 = .ok (.aload_n 0, 1) := by decide +kernel
theorem dX1_shiftOf_1 : decode cX1_shiftOf 1 = .ok (.getfield 18, 3) := by decide +kernel
theorem dX1_shiftOf_4 : decode cX1_shiftOf 4 = .ok (.iconst 1, 1) := by decide +kernel
theorem dX1_shiftOf_5 : decode cX1_shiftOf 5 = .ok (.if_icmp .ge 7, 3) := by decide +kernel
theorem dX1_shiftOf_8 : decode cX1_shiftOf 8 = .ok (.iconst 0, 1) := by decide +kernel
theorem dX1_shiftOf_9 : decode cX1_shiftOf 9 = .ok (.goto 9, 3) := by decide +kernel
theorem dX1_shiftOf_12 : decode cX1_shiftOf 12 = .ok (.iload_n 1, 1) := by decide +kernel
theorem dX1_shiftOf_13 : decode cX1_shiftOf 13 = .ok (.aload_n 0, 1) := by decide +kernel
theorem dX1_shiftOf_14 : decode cX1_shiftOf 14 = .ok (.getfield 18, 3) := by decide +kernel
theorem dX1_shiftOf_17 : decode cX1_shiftOf 17 = .ok (.irem, 1) := by decide +kernel
theorem dX1_shiftOf_18 : decode cX1_shiftOf 18 = .ok (.ireturn, 1) := by decide +kernel
theorem bX1_shiftOf_0 (x1 : Int32) (mem : zm_Mem) (post : zm_Post) (kk : ((1 ≤ (mem 1 2) → (¬ mem 1 2 = 0 ∧ post (x1 - x1 / (mem 1 2) * (mem 1 2)) 0 mem)) ∧ (¬ 1 ≤ (mem 1 2) → post 0 0 mem))) : zm_Call gX1_shiftOf [.ref 1, .int x1] mem post := by
  refine z_entry (by decide) (Nat.le_of_ble_eq_true rfl) ?_
  show zm_Z gX1_shiftOf post 0 [(0, .ref 1), (1, .int x1)] [] mem
  refine z_aload_n dX1_shiftOf_0 rfl 0 rfl ?_
  refine z_geti (ci := 1) (j := 2) (T := TX1) rfl rfl hX1 rfl (by decide) fkX1_18 dX1_shiftOf_1 ?_
  refine z_iconst (v := 1) dX1_shiftOf_4 zciconst_1 ?_
  refine z_icmp_ge (tgt := 12) dX1_shiftOf_5 (by decide) (fun h1 => ?_) (fun h1 => ?_)
  ·
    refine z_iload_n dX1_shiftOf_12 rfl 1 rfl ?_
    refine z_aload_n dX1_shiftOf_13 rfl 0 rfl ?_
    refine z_geti (ci := 1) (j := 2) (T := TX1) rfl rfl hX1 rfl (by decide) fkX1_18 dX1_shiftOf_14 ?_
    refine z_irem dX1_shiftOf_17 (kk.1 h1).1 ?_
    exact z_iret rfl dX1_shiftOf_18 (kk.1 h1).2
  ·
    refine z_iconst (v := 0) dX1_shiftOf_8 zciconst_0 ?_
    refine z_goto (tgt := 18) dX1_shiftOf_9 (by decide) ?_
    exact z_iret rfl dX1_shiftOf_18 (kk.2 h1)
theorem dX1_columnOf_0 : decode cX1_columnOf 0 = .ok (.aload_n 0, 1) := by decide +kernel
theorem dX1_columnOf_1 : decode cX1_columnOf 1 = .ok (.getfield 9, 3) := by decide +kernel
theorem dX1_columnOf_4 : decode cX1_columnOf 4 = .ok (.iconst 1, 1) := by decide +kernel
theorem dX1_columnOf_5 : decode cX1_columnOf 5 = .ok (.if_icmp .ge 7, 3) := by decide +kernel
theorem dX1_columnOf_8 : decode cX1_columnOf 8 = .ok (.iconst 0, 1) := by decide +kernel
theorem dX1_columnOf_9 : decode cX1_columnOf 9 = .ok (.goto 9, 3) := by decide +kernel
theorem dX1_columnOf_12 : decode cX1_columnOf 12 = .ok (.iload_n 1, 1) := by decide +kernel
theorem dX1_columnOf_13 : decode cX1_columnOf 13 = .ok (.aload_n 0, 1) := by decide +kernel
theorem dX1_columnOf_14 : decode cX1_columnOf 14 = .ok (.getfield 9, 3) := by decide +kernel
theorem dX1_columnOf_17 : decode cX1_columnOf 17 = .ok (.irem, 1) := by decide +kernel
theorem dX1_columnOf_18 : decode cX1_columnOf 18 = .ok (.ireturn, 1) := by decide +kernel
theorem bX1_columnOf_0 (x1 : Int32) (mem : zm_Mem) (post : zm_Post) (kk : ((1 ≤ (mem 1 0) → (¬ mem 1 0 = 0 ∧ post (x1 - x1 / (mem 1 0) * (mem 1 0)) 0 mem)) ∧ (¬ 1 ≤ (mem 1 0) → post 0 0 mem))) : zm_Call gX1_columnOf [.ref 1, .int x1] mem post := by
  refine z_entry (by decide) (Nat.le_of_ble_eq_true rfl) ?_
  show zm_Z gX1_columnOf post 0 [(0, .ref 1), (1, .int x1)] [] mem
  refine z_aload_n dX1_columnOf_0 rfl 0 rfl ?_
  refine z_geti (ci := 1) (j := 0) (T := TX1) rfl rfl hX1 rfl (by decide) fkX1_9 dX1_columnOf_1 ?_
  refine z_iconst (v := 1) dX1_columnOf_4 zciconst_1 ?_
  refine z_icmp_ge (tgt := 12) dX1_columnOf_5 (by decide) (fun h1 => ?_) (fun h1 => ?_)
  ·
    refine z_iload_n dX1_columnOf_12 rfl 1 rfl ?_
    refine z_aload_n dX1_columnOf_13 rfl 0 rfl ?_
    refine z_geti (ci := 1) (j := 0) (T := TX1) rfl rfl hX1 rfl (by decide) fkX1_9 dX1_columnOf_14 ?_
    refine z_irem dX1_columnOf_17 (kk.1 h1).1 ?_
    exact z_iret rfl dX1_columnOf_18 (kk.1 h1).2
  ·
    refine z_iconst (v := 0) dX1_columnOf_8 zciconst_0 ?_
    refine z_goto (tgt := 18) dX1_columnOf_9 (by decide) ?_
    exact z_iret rfl dX1_columnOf_18 (kk.2 h1)
theorem dX1_rowOf_0 : decode cX1_rowOf 0 = .ok (.aload_n 0, 1) := by decide +kernel
theorem dX1_rowOf_1 : decode cX1_rowOf 1 = .ok (.getfield 9, 3) := by decide +kernel
theorem dX1_rowOf_4 : decode cX1_rowOf 4 = .ok (.iconst 1, 1) := by decide +kernel
theorem dX1_rowOf_5 : decode cX1_rowOf 5 = .ok (.if_icmp .ge 7, 3) := by decide +kernel
theorem dX1_rowOf_8 : decode cX1_rowOf 8 = .ok (.iconst 0, 1) := by decide +kernel
theorem dX1_rowOf_9 : decode cX1_rowOf 9 = .ok (.goto 9, 3) := by decide +kernel
theorem dX1_rowOf_12 : decode cX1_rowOf 12 = .ok (.iload_n 1, 1) := by decide +kernel
theorem dX1_rowOf_13 : decode cX1_rowOf 13 = .ok (.aload_n 0, 1) := by decide +kernel
theorem dX1_rowOf_14 : decode cX1_rowOf 14 = .ok (.getfield 9, 3) := by decide +kernel
theorem dX1_rowOf_17 : decode cX1_rowOf 17 = .ok (.idiv, 1) := by decide +kernel
theorem dX1_rowOf_18 : decode cX1_rowOf 18 = .ok (.ireturn, 1) := by decide +kernel
theorem bX1_rowOf_0 (x1 : Int32) (mem : zm_Mem) (post : zm_Post) (kk : ((1 ≤ (mem 1 0) → (¬ mem 1 0 = 0 ∧ post (x1 / (mem 1 0)) 0 mem)) ∧ (¬ 1 ≤ (mem 1 0) → post 0 0 mem))) : zm_Call gX1_rowOf [.ref 1, .int x1] mem post := by
  refine z_entry (by decide) (Nat.le_of_ble_eq_true rfl) ?_
  show zm_Z gX1_rowOf post 0 [(0, .ref 1), (1, .int x1)] [] mem
  refine z_aload_n dX1_rowOf_0 rfl 0 rfl ?_
  refine z_geti (ci := 1) (j := 0) (T := TX1) rfl rfl hX1 rfl (by decide) fkX1_9 dX1_rowOf_1 ?_
  refine z_iconst (v := 1) dX1_rowOf_4 zciconst_1 ?_
  refine z_icmp_ge (tgt := 12) dX1_rowOf_5 (by decide) (fun h1 => ?_) (fun h1 => ?_)
  ·
    refine z_iload_n dX1_rowOf_12 rfl 1 rfl ?_
    refine z_aload_n dX1_rowOf_13 rfl 0 rfl ?_
    refine z_geti (ci := 1) (j := 0) (T := TX1) rfl rfl hX1 rfl (by decide) fkX1_9 dX1_rowOf_14 ?_
    refine z_idiv dX1_rowOf_17 (kk.1 h1).1 ?_
    exact z_iret rfl dX1_rowOf_18 (kk.1 h1).2
  ·
    refine z_iconst (v := 0) dX1_rowOf_8 zciconst_0 ?_
    refine z_goto (tgt := 18) dX1_rowOf_9 (by decide) ?_
    exact z_iret rfl dX1_rowOf_18 (kk.2 h1)
theorem dX1_turnedX_0 : decode cX1_turnedX 0 = .ok (.iload_n 0, 1) := by decide +kernel
theorem dX1_turnedX_1 : decode cX1_turnedX 1 = .ok (.tableswitch 51 1 7 #[43, 46, 49, 46, 51, 49, 43], 43) := by decide +kernel
theorem dX1_turnedX_44 : decode cX1_turnedX 44 = .ok (.iload_n 2, 1) := by decide +kernel
theorem dX1_turnedX_45 : decode cX1_turnedX 45 = .ok (.ineg, 1) := by decide +kernel
theorem dX1_turnedX_46 : decode cX1_turnedX 46 = .ok (.ireturn, 1) := by decide +kernel
theorem dX1_turnedX_47 : decode cX1_turnedX 47 = .ok (.iload_n 1, 1) := by decide +kernel
theorem dX1_turnedX_48 : decode cX1_turnedX 48 = .ok (.ineg, 1) := by decide +kernel
theorem dX1_turnedX_49 : decode cX1_turnedX 49 = .ok (.ireturn, 1) := by decide +kernel
theorem dX1_turnedX_50 : decode cX1_turnedX 50 = .ok (.iload_n 2, 1) := by decide +kernel
theorem dX1_turnedX_51 : decode cX1_turnedX 51 = .ok (.ireturn, 1) := by decide +kernel
theorem dX1_turnedX_52 : decode cX1_turnedX 52 = .ok (.iload_n 1, 1) := by decide +kernel
theorem dX1_turnedX_53 : decode cX1_turnedX 53 = .ok (.ireturn, 1) := by decide +kernel
theorem bX1_turnedX_0 (x0 : Int32) (x1 : Int32) (x2 : Int32) (mem : zm_Mem) (post : zm_Post) (kk : (((x0 : Int32).toInt < 1 ∨ 7 < (x0 : Int32).toInt → post x1 0 mem) ∧ ((x0 : Int32).toInt = 1 → post (-x2) 0 mem) ∧ ((x0 : Int32).toInt = 2 → post (-x1) 0 mem) ∧ ((x0 : Int32).toInt = 3 → post x2 0 mem) ∧ ((x0 : Int32).toInt = 4 → post (-x1) 0 mem) ∧ ((x0 : Int32).toInt = 5 → post x1 0 mem) ∧ ((x0 : Int32).toInt = 6 → post x2 0 mem) ∧ ((x0 : Int32).toInt = 7 → post (-x2) 0 mem))) : zm_Call gX1_turnedX [.int x0, .int x1, .int x2] mem post := by
  refine z_entry (by decide) (Nat.le_of_ble_eq_true rfl) ?_
  show zm_Z gX1_turnedX post 0 [(0, .int x0), (1, .int x1), (2, .int x2)] [] mem
  refine z_iload_n dX1_turnedX_0 rfl 0 rfl ?_
  by_cases h1 : (x0 : Int32).toInt < 1 ∨ 7 < (x0 : Int32).toInt
  ·
    refine z_tableOut (tgt := 52) dX1_turnedX_1 h1 (by decide) ?_
    refine z_iload_n dX1_turnedX_52 rfl 1 rfl ?_
    exact z_iret rfl dX1_turnedX_53 (kk.1 h1)
  by_cases h2 : (x0 : Int32).toInt = 1
  ·
    refine z_tableIn (off := 43) (tgt := 44) dX1_turnedX_1 (by omega) (by omega) (by rw [h2]; rfl) (by decide) ?_
    refine z_iload_n dX1_turnedX_44 rfl 2 rfl ?_
    refine z_ineg dX1_turnedX_45 ?_
    exact z_iret rfl dX1_turnedX_46 (kk.2.1 h2)
  by_cases h3 : (x0 : Int32).toInt = 2
  ·
    refine z_tableIn (off := 46) (tgt := 47) dX1_turnedX_1 (by omega) (by omega) (by rw [h3]; rfl) (by decide) ?_
    refine z_iload_n dX1_turnedX_47 rfl 1 rfl ?_
    refine z_ineg dX1_turnedX_48 ?_
    exact z_iret rfl dX1_turnedX_49 (kk.2.2.1 h3)
  by_cases h4 : (x0 : Int32).toInt = 3
  ·
    refine z_tableIn (off := 49) (tgt := 50) dX1_turnedX_1 (by omega) (by omega) (by rw [h4]; rfl) (by decide) ?_
    refine z_iload_n dX1_turnedX_50 rfl 2 rfl ?_
    exact z_iret rfl dX1_turnedX_51 (kk.2.2.2.1 h4)
  by_cases h5 : (x0 : Int32).toInt = 4
  ·
    refine z_tableIn (off := 46) (tgt := 47) dX1_turnedX_1 (by omega) (by omega) (by rw [h5]; rfl) (by decide) ?_
    refine z_iload_n dX1_turnedX_47 rfl 1 rfl ?_
    refine z_ineg dX1_turnedX_48 ?_
    exact z_iret rfl dX1_turnedX_49 (kk.2.2.2.2.1 h5)
  by_cases h6 : (x0 : Int32).toInt = 5
  ·
    refine z_tableIn (off := 51) (tgt := 52) dX1_turnedX_1 (by omega) (by omega) (by rw [h6]; rfl) (by decide) ?_
    refine z_iload_n dX1_turnedX_52 rfl 1 rfl ?_
    exact z_iret rfl dX1_turnedX_53 (kk.2.2.2.2.2.1 h6)
  by_cases h7 : (x0 : Int32).toInt = 6
  ·
    refine z_tableIn (off := 49) (tgt := 50) dX1_turnedX_1 (by omega) (by omega) (by rw [h7]; rfl) (by decide) ?_
    refine z_iload_n dX1_turnedX_50 rfl 2 rfl ?_
    exact z_iret rfl dX1_turnedX_51 (kk.2.2.2.2.2.2.1 h7)
  have h8 : (x0 : Int32).toInt = 7 := by omega
  refine z_tableIn (off := 43) (tgt := 44) dX1_turnedX_1 (by omega) (by omega) (by rw [h8]; rfl) (by decide) ?_
  refine z_iload_n dX1_turnedX_44 rfl 2 rfl ?_
  refine z_ineg dX1_turnedX_45 ?_
  exact z_iret rfl dX1_turnedX_46 (kk.2.2.2.2.2.2.2 h8)
theorem dX1_turnedY_0 : decode cX1_turnedY 0 = .ok (.iload_n 0, 1) := by decide +kernel
theorem dX1_turnedY_1 : decode cX1_turnedY 1 = .ok (.tableswitch 51 1 7 #[43, 45, 48, 51, 45, 43, 48], 43) := by decide +kernel
theorem dX1_turnedY_44 : decode cX1_turnedY 44 = .ok (.iload_n 1, 1) := by decide +kernel
theorem dX1_turnedY_45 : decode cX1_turnedY 45 = .ok (.ireturn, 1) := by decide +kernel
theorem dX1_turnedY_46 : decode cX1_turnedY 46 = .ok (.iload_n 2, 1) := by decide +kernel
theorem dX1_turnedY_47 : decode cX1_turnedY 47 = .ok (.ineg, 1) := by decide +kernel
theorem dX1_turnedY_48 : decode cX1_turnedY 48 = .ok (.ireturn, 1) := by decide +kernel
theorem dX1_turnedY_49 : decode cX1_turnedY 49 = .ok (.iload_n 1, 1) := by decide +kernel
theorem dX1_turnedY_50 : decode cX1_turnedY 50 = .ok (.ineg, 1) := by decide +kernel
theorem dX1_turnedY_51 : decode cX1_turnedY 51 = .ok (.ireturn, 1) := by decide +kernel
theorem dX1_turnedY_52 : decode cX1_turnedY 52 = .ok (.iload_n 2, 1) := by decide +kernel
theorem dX1_turnedY_53 : decode cX1_turnedY 53 = .ok (.ireturn, 1) := by decide +kernel
theorem bX1_turnedY_0 (x0 : Int32) (x1 : Int32) (x2 : Int32) (mem : zm_Mem) (post : zm_Post) (kk : (((x0 : Int32).toInt < 1 ∨ 7 < (x0 : Int32).toInt → post x2 0 mem) ∧ ((x0 : Int32).toInt = 1 → post x1 0 mem) ∧ ((x0 : Int32).toInt = 2 → post (-x2) 0 mem) ∧ ((x0 : Int32).toInt = 3 → post (-x1) 0 mem) ∧ ((x0 : Int32).toInt = 4 → post x2 0 mem) ∧ ((x0 : Int32).toInt = 5 → post (-x2) 0 mem) ∧ ((x0 : Int32).toInt = 6 → post x1 0 mem) ∧ ((x0 : Int32).toInt = 7 → post (-x1) 0 mem))) : zm_Call gX1_turnedY [.int x0, .int x1, .int x2] mem post := by
  refine z_entry (by decide) (Nat.le_of_ble_eq_true rfl) ?_
  show zm_Z gX1_turnedY post 0 [(0, .int x0), (1, .int x1), (2, .int x2)] [] mem
  refine z_iload_n dX1_turnedY_0 rfl 0 rfl ?_
  by_cases h1 : (x0 : Int32).toInt < 1 ∨ 7 < (x0 : Int32).toInt
  ·
    refine z_tableOut (tgt := 52) dX1_turnedY_1 h1 (by decide) ?_
    refine z_iload_n dX1_turnedY_52 rfl 2 rfl ?_
    exact z_iret rfl dX1_turnedY_53 (kk.1 h1)
  by_cases h2 : (x0 : Int32).toInt = 1
  ·
    refine z_tableIn (off := 43) (tgt := 44) dX1_turnedY_1 (by omega) (by omega) (by rw [h2]; rfl) (by decide) ?_
    refine z_iload_n dX1_turnedY_44 rfl 1 rfl ?_
    exact z_iret rfl dX1_turnedY_45 (kk.2.1 h2)
  by_cases h3 : (x0 : Int32).toInt = 2
  ·
    refine z_tableIn (off := 45) (tgt := 46) dX1_turnedY_1 (by omega) (by omega) (by rw [h3]; rfl) (by decide) ?_
    refine z_iload_n dX1_turnedY_46 rfl 2 rfl ?_
    refine z_ineg dX1_turnedY_47 ?_
    exact z_iret rfl dX1_turnedY_48 (kk.2.2.1 h3)
  by_cases h4 : (x0 : Int32).toInt = 3
  ·
    refine z_tableIn (off := 48) (tgt := 49) dX1_turnedY_1 (by omega) (by omega) (by rw [h4]; rfl) (by decide) ?_
    refine z_iload_n dX1_turnedY_49 rfl 1 rfl ?_
    refine z_ineg dX1_turnedY_50 ?_
    exact z_iret rfl dX1_turnedY_51 (kk.2.2.2.1 h4)
  by_cases h5 : (x0 : Int32).toInt = 4
  ·
    refine z_tableIn (off := 51) (tgt := 52) dX1_turnedY_1 (by omega) (by omega) (by rw [h5]; rfl) (by decide) ?_
    refine z_iload_n dX1_turnedY_52 rfl 2 rfl ?_
    exact z_iret rfl dX1_turnedY_53 (kk.2.2.2.2.1 h5)
  by_cases h6 : (x0 : Int32).toInt = 5
  ·
    refine z_tableIn (off := 45) (tgt := 46) dX1_turnedY_1 (by omega) (by omega) (by rw [h6]; rfl) (by decide) ?_
    refine z_iload_n dX1_turnedY_46 rfl 2 rfl ?_
    refine z_ineg dX1_turnedY_47 ?_
    exact z_iret rfl dX1_turnedY_48 (kk.2.2.2.2.2.1 h6)
  by_cases h7 : (x0 : Int32).toInt = 6
  ·
    refine z_tableIn (off := 43) (tgt := 44) dX1_turnedY_1 (by omega) (by omega) (by rw [h7]; rfl) (by decide) ?_
    refine z_iload_n dX1_turnedY_44 rfl 1 rfl ?_
    exact z_iret rfl dX1_turnedY_45 (kk.2.2.2.2.2.2.1 h7)
  have h8 : (x0 : Int32).toInt = 7 := by omega
  refine z_tableIn (off := 48) (tgt := 49) dX1_turnedY_1 (by omega) (by omega) (by rw [h8]; rfl) (by decide) ?_
  refine z_iload_n dX1_turnedY_49 rfl 1 rfl ?_
  refine z_ineg dX1_turnedY_50 ?_
  exact z_iret rfl dX1_turnedY_51 (kk.2.2.2.2.2.2.2 h8)
theorem dX1_cellAt_0 : decode cX1_cellAt 0 = .ok (.aload_n 0, 1) := by decide +kernel
theorem dX1_cellAt_1 : decode cX1_cellAt 1 = .ok (.getfield 9, 3) := by decide +kernel
theorem dX1_cellAt_4 : decode cX1_cellAt 4 = .ok (.iconst 1, 1) := by decide +kernel
theorem dX1_cellAt_5 : decode cX1_cellAt 5 = .ok (.if_icmp .lt 11, 3) := by decide +kernel
theorem dX1_cellAt_8 : decode cX1_cellAt 8 = .ok (.aload_n 0, 1) := by decide +kernel
theorem dX1_cellAt_9 : decode cX1_cellAt 9 = .ok (.getfield 15, 3) := by decide +kernel
theorem dX1_cellAt_12 : decode cX1_cellAt 12 = .ok (.iconst 1, 1) := by decide +kernel
theorem dX1_cellAt_13 : decode cX1_cellAt 13 = .ok (.if_icmp .ge 5, 3) := by decide +kernel
theorem dX1_cellAt_16 : decode cX1_cellAt 16 = .ok (.iconst 0, 1) := by decide +kernel
theorem dX1_cellAt_17 : decode cX1_cellAt 17 = .ok (.ireturn, 1) := by decide +kernel
theorem dX1_cellAt_18 : decode cX1_cellAt 18 = .ok (.iload_n 1, 1) := by decide +kernel
theorem dX1_cellAt_19 : decode cX1_cellAt 19 = .ok (.aload_n 0, 1) := by decide +kernel
theorem dX1_cellAt_20 : decode cX1_cellAt 20 = .ok (.getfield 9, 3) := by decide +kernel
theorem dX1_cellAt_23 : decode cX1_cellAt 23 = .ok (.irem, 1) := by decide +kernel
theorem dX1_cellAt_24 : decode cX1_cellAt 24 = .ok (.istore_n 3, 1) := by decide +kernel
theorem dX1_cellAt_25 : decode cX1_cellAt 25 = .ok (.iload_n 2, 1) := by decide +kernel
theorem dX1_cellAt_26 : decode cX1_cellAt 26 = .ok (.aload_n 0, 1) := by decide +kernel
theorem dX1_cellAt_27 : decode cX1_cellAt 27 = .ok (.getfield 15, 3) := by decide +kernel
theorem dX1_cellAt_30 : decode cX1_cellAt 30 = .ok (.irem, 1) := by decide +kernel
theorem dX1_cellAt_31 : decode cX1_cellAt 31 = .ok (.istore 4, 2) := by decide +kernel
theorem dX1_cellAt_33 : decode cX1_cellAt 33 = .ok (.iload 4, 2) := by decide +kernel
theorem dX1_cellAt_35 : decode cX1_cellAt 35 = .ok (.ifCond .ge 13, 3) := by decide +kernel
theorem dX1_cellAt_38 : decode cX1_cellAt 38 = .ok (.iload 4, 2) := by decide +kernel
theorem dX1_cellAt_40 : decode cX1_cellAt 40 = .ok (.aload_n 0, 1) := by decide +kernel
theorem dX1_cellAt_41 : decode cX1_cellAt 41 = .ok (.getfield 15, 3) := by decide +kernel
theorem dX1_cellAt_44 : decode cX1_cellAt 44 = .ok (.iadd, 1) := by decide +kernel
theorem dX1_cellAt_45 : decode cX1_cellAt 45 = .ok (.goto 5, 3) := by decide +kernel
theorem dX1_cellAt_48 : decode cX1_cellAt 48 = .ok (.iload 4, 2) := by decide +kernel
theorem dX1_cellAt_50 : decode cX1_cellAt 50 = .ok (.aload_n 0, 1) := by decide +kernel
theorem dX1_cellAt_51 : decode cX1_cellAt 51 = .ok (.getfield 9, 3) := by decide +kernel
theorem dX1_cellAt_54 : decode cX1_cellAt 54 = .ok (.imul, 1) := by decide +kernel
theorem dX1_cellAt_55 : decode cX1_cellAt 55 = .ok (.iload_n 3, 1) := by decide +kernel
theorem dX1_cellAt_56 : decode cX1_cellAt 56 = .ok (.ifCond .ge 12, 3) := by decide +kernel
theorem dX1_cellAt_59 : decode cX1_cellAt 59 = .ok (.iload_n 3, 1) := by decide +kernel
theorem dX1_cellAt_60 : decode cX1_cellAt 60 = .ok (.aload_n 0, 1) := by decide +kernel
theorem dX1_cellAt_61 : decode cX1_cellAt 61 = .ok (.getfield 9, 3) := by decide +kernel
theorem dX1_cellAt_64 : decode cX1_cellAt 64 = .ok (.iadd, 1) := by decide +kernel
theorem dX1_cellAt_65 : decode cX1_cellAt 65 = .ok (.goto 4, 3) := by decide +kernel
theorem dX1_cellAt_68 : decode cX1_cellAt 68 = .ok (.iload_n 3, 1) := by decide +kernel
theorem dX1_cellAt_69 : decode cX1_cellAt 69 = .ok (.iadd, 1) := by decide +kernel
theorem dX1_cellAt_70 : decode cX1_cellAt 70 = .ok (.ireturn, 1) := by decide +kernel
theorem bX1_cellAt_0 (x1 : Int32) (x2 : Int32) (mem : zm_Mem) (post : zm_Post) (kk : (((mem 1 0) < 1 → post 0 0 mem) ∧ (¬ (mem 1 0) < 1 → ((1 ≤ (mem 1 1) → (¬ mem 1 0 = 0 ∧ (¬ mem 1 1 = 0 ∧ ((0 ≤ (x2 - x2 / (mem 1 1) * (mem 1 1)) → zm_Z gX1_cellAt post 50 [(0, .ref 1), (3, .int (x1 - x1 / (mem 1 0) * (mem 1 0)))] [.int (x2 - x2 / (mem 1 1) * (mem 1 1))] mem) ∧ (¬ 0 ≤ (x2 - x2 / (mem 1 1) * (mem 1 1)) → zm_Z gX1_cellAt post 50 [(0, .ref 1), (3, .int (x1 - x1 / (mem 1 0) * (mem 1 0)))] [.int ((x2 - x2 / (mem 1 1) * (mem 1 1)) + (mem 1 1))] mem))))) ∧ (¬ 1 ≤ (mem 1 1) → post 0 0 mem))))) : zm_Call gX1_cellAt [.ref 1, .int x1, .int x2] mem post := by
  refine z_entry (by decide) (Nat.le_of_ble_eq_true rfl) ?_
  show zm_Z gX1_cellAt post 0 [(0, .ref 1), (1, .int x1), (2, .int x2)] [] mem
  refine z_aload_n dX1_cellAt_0 rfl 0 rfl ?_
  refine z_geti (ci := 1) (j := 0) (T := TX1) rfl rfl hX1 rfl (by decide) fkX1_9 dX1_cellAt_1 ?_
  refine z_iconst (v := 1) dX1_cellAt_4 zciconst_1 ?_
  refine z_icmp_lt (tgt := 16) dX1_cellAt_5 (by decide) (fun h1 => ?_) (fun h1 => ?_)
  ·
    refine z_iconst (v := 0) dX1_cellAt_16 zciconst_0 ?_
    exact z_iret rfl dX1_cellAt_17 (kk.1 h1)
  ·
    refine z_aload_n dX1_cellAt_8 rfl 0 rfl ?_
    refine z_geti (ci := 1) (j := 1) (T := TX1) rfl rfl hX1 rfl (by decide) fkX1_15 dX1_cellAt_9 ?_
    refine z_iconst (v := 1) dX1_cellAt_12 zciconst_1 ?_
    refine z_icmp_ge (tgt := 18) dX1_cellAt_13 (by decide) (fun h2 => ?_) (fun h2 => ?_)
    ·
      refine z_iload_n dX1_cellAt_18 rfl 1 rfl ?_
      refine z_aload_n dX1_cellAt_19 rfl 0 rfl ?_
      refine z_geti (ci := 1) (j := 0) (T := TX1) rfl rfl hX1 rfl (by decide) fkX1_9 dX1_cellAt_20 ?_
      refine z_irem dX1_cellAt_23 ((kk.2 h1).1 h2).1 ?_
      refine z_istore_n (lv' := [(3, .int (x1 - x1 / (mem 1 0) * (mem 1 0))), (0, .ref 1), (1, .int x1), (2, .int x2)]) dX1_cellAt_24 rfl (by decide) rfl ?_
      refine z_iload_n dX1_cellAt_25 rfl 3 rfl ?_
      refine z_aload_n dX1_cellAt_26 rfl 1 rfl ?_
      refine z_geti (ci := 1) (j := 1) (T := TX1) rfl rfl hX1 rfl (by decide) fkX1_15 dX1_cellAt_27 ?_
      refine z_irem dX1_cellAt_30 ((kk.2 h1).1 h2).2.1 ?_
      refine z_istore (lv' := [(4, .int (x2 - x2 / (mem 1 1) * (mem 1 1))), (3, .int (x1 - x1 / (mem 1 0) * (mem 1 0))), (0, .ref 1), (1, .int x1), (2, .int x2)]) dX1_cellAt_31 (by decide) rfl ?_
      refine z_iload dX1_cellAt_33 0 rfl ?_
      refine z_if_ge (tgt := 48) dX1_cellAt_35 (by decide) (fun h3 => ?_) (fun h3 => ?_)
      ·
        refine z_iload dX1_cellAt_48 0 rfl ?_
        refine z_sub [2, 1] rfl ?_
        exact (((kk.2 h1).1 h2).2.2.1 h3)
      ·
        refine z_iload dX1_cellAt_38 0 rfl ?_
        refine z_aload_n dX1_cellAt_40 rfl 2 rfl ?_
        refine z_geti (ci := 1) (j := 1) (T := TX1) rfl rfl hX1 rfl (by decide) fkX1_15 dX1_cellAt_41 ?_
        refine z_iadd dX1_cellAt_44 ?_
        refine z_goto (tgt := 50) dX1_cellAt_45 (by decide) ?_
        refine z_sub [2, 1] rfl ?_
        exact (((kk.2 h1).1 h2).2.2.2 h3)
    ·
      refine z_iconst (v := 0) dX1_cellAt_16 zciconst_0 ?_
      exact z_iret rfl dX1_cellAt_17 ((kk.2 h1).2 h2)
theorem bX1_cellAt_50 (x3 : Int32) (s0 : Int32) (mem : zm_Mem) (post : zm_Post) (kk : ((0 ≤ x3 → post ((s0 * (mem 1 0)) + x3) 0 mem) ∧ (¬ 0 ≤ x3 → post ((s0 * (mem 1 0)) + (x3 + (mem 1 0))) 0 mem))) : zm_Z gX1_cellAt post 50 [(0, .ref 1), (3, .int x3)] [.int s0] mem := by
  refine z_aload_n dX1_cellAt_50 rfl 0 rfl ?_
  refine z_geti (ci := 1) (j := 0) (T := TX1) rfl rfl hX1 rfl (by decide) fkX1_9 dX1_cellAt_51 ?_
  refine z_imul dX1_cellAt_54 ?_
  refine z_iload_n dX1_cellAt_55 rfl 1 rfl ?_
  refine z_if_ge (tgt := 68) dX1_cellAt_56 (by decide) (fun h1 => ?_) (fun h1 => ?_)
  ·
    refine z_iload_n dX1_cellAt_68 rfl 1 rfl ?_
    refine z_iadd dX1_cellAt_69 ?_
    exact z_iret rfl dX1_cellAt_70 (kk.1 h1)
  ·
    refine z_iload_n dX1_cellAt_59 rfl 1 rfl ?_
    refine z_aload_n dX1_cellAt_60 rfl 0 rfl ?_
    refine z_geti (ci := 1) (j := 0) (T := TX1) rfl rfl hX1 rfl (by decide) fkX1_9 dX1_cellAt_61 ?_
    refine z_iadd dX1_cellAt_64 ?_
    refine z_goto (tgt := 69) dX1_cellAt_65 (by decide) ?_
    refine z_iadd dX1_cellAt_69 ?_
    exact z_iret rfl dX1_cellAt_70 (kk.2 h1)
theorem dX1_target_0 : decode cX1_target 0 = .ok (.aload_n 0, 1) := by decide +kernel
theorem dX1_target_1 : decode cX1_target 1 = .ok (.iload_n 1, 1) := by decide +kernel
theorem dX1_target_2 : decode cX1_target 2 = .ok (.invokevirtual 25, 3) := by decide +kernel
theorem dX1_target_5 : decode cX1_target 5 = .ok (.istore_n 3, 1) := by decide +kernel
theorem dX1_target_6 : decode cX1_target 6 = .ok (.aload_n 0, 1) := by decide +kernel
theorem dX1_target_7 : decode cX1_target 7 = .ok (.iload_n 1, 1) := by decide +kernel
theorem dX1_target_8 : decode cX1_target 8 = .ok (.invokevirtual 33, 3) := by decide +kernel
theorem dX1_target_11 : decode cX1_target 11 = .ok (.istore 4, 2) := by decide +kernel
theorem dX1_target_13 : decode cX1_target 13 = .ok (.aload_n 0, 1) := by decide +kernel
theorem dX1_target_14 : decode cX1_target 14 = .ok (.iload_n 2, 1) := by decide +kernel
theorem dX1_target_15 : decode cX1_target 15 = .ok (.invokevirtual 36, 3) := by decide +kernel
theorem dX1_target_18 : decode cX1_target 18 = .ok (.istore 5, 2) := by decide +kernel
theorem dX1_target_20 : decode cX1_target 20 = .ok (.aload_n 0, 1) := by decide +kernel
theorem dX1_target_21 : decode cX1_target 21 = .ok (.iload_n 2, 1) := by decide +kernel
theorem dX1_target_22 : decode cX1_target 22 = .ok (.invokevirtual 39, 3) := by decide +kernel
theorem dX1_target_25 : decode cX1_target 25 = .ok (.istore 6, 2) := by decide +kernel
theorem dX1_target_27 : decode cX1_target 27 = .ok (.aload_n 0, 1) := by decide +kernel
theorem dX1_target_28 : decode cX1_target 28 = .ok (.iload_n 3, 1) := by decide +kernel
theorem dX1_target_29 : decode cX1_target 29 = .ok (.iload 5, 2) := by decide +kernel
theorem dX1_target_31 : decode cX1_target 31 = .ok (.iload 6, 2) := by decide +kernel
theorem dX1_target_33 : decode cX1_target 33 = .ok (.invokestatic 42, 3) := by decide +kernel
theorem dX1_target_36 : decode cX1_target 36 = .ok (.aload_n 0, 1) := by decide +kernel
theorem dX1_target_37 : decode cX1_target 37 = .ok (.iload 4, 2) := by decide +kernel
theorem dX1_target_39 : decode cX1_target 39 = .ok (.invokevirtual 36, 3) := by decide +kernel
theorem dX1_target_42 : decode cX1_target 42 = .ok (.iadd, 1) := by decide +kernel
theorem dX1_target_43 : decode cX1_target 43 = .ok (.iload_n 3, 1) := by decide +kernel
theorem dX1_target_44 : decode cX1_target 44 = .ok (.iload 5, 2) := by decide +kernel
theorem dX1_target_46 : decode cX1_target 46 = .ok (.iload 6, 2) := by decide +kernel
theorem dX1_target_48 : decode cX1_target 48 = .ok (.invokestatic 46, 3) := by decide +kernel
theorem dX1_target_51 : decode cX1_target 51 = .ok (.aload_n 0, 1) := by decide +kernel
theorem dX1_target_52 : decode cX1_target 52 = .ok (.iload 4, 2) := by decide +kernel
theorem dX1_target_54 : decode cX1_target 54 = .ok (.invokevirtual 39, 3) := by decide +kernel
theorem dX1_target_57 : decode cX1_target 57 = .ok (.iadd, 1) := by decide +kernel
theorem dX1_target_58 : decode cX1_target 58 = .ok (.invokevirtual 49, 3) := by decide +kernel
theorem dX1_target_61 : decode cX1_target 61 = .ok (.ireturn, 1) := by decide +kernel
theorem bX1_target_0 (x1 : Int32) (x2 : Int32) (mem : zm_Mem) (post : zm_Post) (kk : zm_Call gX1_turnOf [.ref 1, .int x1] mem (fun r1 w1 u1 => zm_Call gX1_shiftOf [.ref 1, .int x1] u1 (fun r2 w2 u2 => zm_Call gX1_columnOf [.ref 1, .int x2] u2 (fun r3 w3 u3 => zm_Call gX1_rowOf [.ref 1, .int x2] u3 (fun r4 w4 u4 => zm_Call gX1_turnedX [.int r1, .int r3, .int r4] u4 (fun r5 w5 u5 => zm_Call gX1_columnOf [.ref 1, .int r2] u5 (fun r6 w6 u6 => zm_Call gX1_turnedY [.int r1, .int r3, .int r4] u6 (fun r7 w7 u7 => zm_Call gX1_rowOf [.ref 1, .int r2] u7 (fun r8 w8 u8 => zm_Call gX1_cellAt [.ref 1, .int (r5 + r6), .int (r7 + r8)] u8 (fun r9 w9 u9 => post r9 0 u9)))))))))) : zm_Call gX1_target [.ref 1, .int x1, .int x2] mem post := by
  refine z_entry (by decide) (Nat.le_of_ble_eq_true rfl) ?_
  show zm_Z gX1_target post 0 [(0, .ref 1), (1, .int x1), (2, .int x2)] [] mem
  refine z_aload_n dX1_target_0 rfl 0 rfl ?_
  refine z_iload_n dX1_target_1 rfl 1 rfl ?_
  refine z_callVi (g' := gX1_turnOf) [.int x1] (q := 1) (ci := 1) (T := TX1) rfl rfl ⟨lkX1_25, pdX1_turnOf, by decide, by decide⟩ ⟨_, rfl, by decide⟩ rfl (Nat.le_of_ble_eq_true rfl) dX1_target_2 (zm_Call.mono kk (fun r1 w1 u1 k1 => ?_))
  refine z_istore_n (lv' := [(3, .int r1), (0, .ref 1), (1, .int x1), (2, .int x2)]) dX1_target_5 rfl (by decide) rfl ?_
  refine z_aload_n dX1_target_6 rfl 1 rfl ?_
  refine z_iload_n dX1_target_7 rfl 2 rfl ?_
  refine z_callVi (g' := gX1_shiftOf) [.int x1] (q := 1) (ci := 1) (T := TX1) rfl rfl ⟨lkX1_33, pdX1_shiftOf, by decide, by decide⟩ ⟨_, rfl, by decide⟩ rfl (Nat.le_of_ble_eq_true rfl) dX1_target_8 (zm_Call.mono k1 (fun r2 w2 u2 k2 => ?_))
  refine z_istore (lv' := [(4, .int r2), (3, .int r1), (0, .ref 1), (1, .int x1), (2, .int x2)]) dX1_target_11 (by decide) rfl ?_
  refine z_aload_n dX1_target_13 rfl 2 rfl ?_
  refine z_iload_n dX1_target_14 rfl 4 rfl ?_
  refine z_callVi (g' := gX1_columnOf) [.int x2] (q := 1) (ci := 1) (T := TX1) rfl rfl ⟨lkX1_36, pdX1_columnOf, by decide, by decide⟩ ⟨_, rfl, by decide⟩ rfl (Nat.le_of_ble_eq_true rfl) dX1_target_15 (zm_Call.mono k2 (fun r3 w3 u3 k3 => ?_))
  refine z_istore (lv' := [(5, .int r3), (4, .int r2), (3, .int r1), (0, .ref 1), (1, .int x1), (2, .int x2)]) dX1_target_18 (by decide) rfl ?_
  refine z_aload_n dX1_target_20 rfl 3 rfl ?_
  refine z_iload_n dX1_target_21 rfl 5 rfl ?_
  refine z_callVi (g' := gX1_rowOf) [.int x2] (q := 1) (ci := 1) (T := TX1) rfl rfl ⟨lkX1_39, pdX1_rowOf, by decide, by decide⟩ ⟨_, rfl, by decide⟩ rfl (Nat.le_of_ble_eq_true rfl) dX1_target_22 (zm_Call.mono k3 (fun r4 w4 u4 k4 => ?_))
  refine z_istore (lv' := [(6, .int r4), (5, .int r3), (4, .int r2), (3, .int r1), (0, .ref 1), (1, .int x1), (2, .int x2)]) dX1_target_25 (by decide) rfl ?_
  refine z_aload_n dX1_target_27 rfl 4 rfl ?_
  refine z_iload_n dX1_target_28 rfl 3 rfl ?_
  refine z_iload dX1_target_29 1 rfl ?_
  refine z_iload dX1_target_31 0 rfl ?_
  refine z_callSi (g' := gX1_turnedX) (st := [.ref 1]) [.int r1, .int r3, .int r4] ⟨lkX1_42, pdX1_turnedX, by decide, by decide⟩ ⟨_, rfl, by decide⟩ rfl (Nat.le_of_ble_eq_true rfl) dX1_target_33 (zm_Call.mono k4 (fun r5 w5 u5 k5 => ?_))
  refine z_aload_n dX1_target_36 rfl 4 rfl ?_
  refine z_iload dX1_target_37 2 rfl ?_
  refine z_callVi (g' := gX1_columnOf) [.int r2] (q := 1) (ci := 1) (T := TX1) rfl rfl ⟨lkX1_36, pdX1_columnOf, by decide, by decide⟩ ⟨_, rfl, by decide⟩ rfl (Nat.le_of_ble_eq_true rfl) dX1_target_39 (zm_Call.mono k5 (fun r6 w6 u6 k6 => ?_))
  refine z_iadd dX1_target_42 ?_
  refine z_iload_n dX1_target_43 rfl 3 rfl ?_
  refine z_iload dX1_target_44 1 rfl ?_
  refine z_iload dX1_target_46 0 rfl ?_
  refine z_callSi (g' := gX1_turnedY) (st := [.int (r5 + r6), .ref 1]) [.int r1, .int r3, .int r4] ⟨lkX1_46, pdX1_turnedY, by decide, by decide⟩ ⟨_, rfl, by decide⟩ rfl (Nat.le_of_ble_eq_true rfl) dX1_target_48 (zm_Call.mono k6 (fun r7 w7 u7 k7 => ?_))
  refine z_aload_n dX1_target_51 rfl 4 rfl ?_
  refine z_iload dX1_target_52 2 rfl ?_
  refine z_callVi (g' := gX1_rowOf) [.int r2] (q := 1) (ci := 1) (T := TX1) rfl rfl ⟨lkX1_39, pdX1_rowOf, by decide, by decide⟩ ⟨_, rfl, by decide⟩ rfl (Nat.le_of_ble_eq_true rfl) dX1_target_54 (zm_Call.mono k7 (fun r8 w8 u8 k8 => ?_))
  refine z_iadd dX1_target_57 ?_
  refine z_callVi (g' := gX1_cellAt) [.int (r5 + r6), .int (r7 + r8)] (q := 1) (ci := 1) (T := TX1) rfl rfl ⟨lkX1_49, pdX1_cellAt, by decide, by decide⟩ ⟨_, rfl, by decide⟩ rfl (Nat.le_of_ble_eq_true rfl) dX1_target_58 (zm_Call.mono k8 (fun r9 w9 u9 k9 => ?_))
  exact z_iret rfl dX1_target_61 k9
theorem dX0_passRound_0 : decode cX0_passRound 0 = .ok (.iload_n 2, 1) := by decide +kernel
theorem dX0_passRound_1 : decode cX0_passRound 1 = .ok (.istore_n 3, 1) := by decide +kernel
theorem dX0_passRound_2 : decode cX0_passRound 2 = .ok (.iconst 0, 1) := by decide +kernel
theorem dX0_passRound_3 : decode cX0_passRound 3 = .ok (.istore 4, 2) := by decide +kernel
theorem dX0_passRound_5 : decode cX0_passRound 5 = .ok (.iload 4, 2) := by decide +kernel
theorem dX0_passRound_7 : decode cX0_passRound 7 = .ok (.aload_n 0, 1) := by decide +kernel
theorem dX0_passRound_8 : decode cX0_passRound 8 = .ok (.getfield 15, 3) := by decide +kernel
theorem dX0_passRound_11 : decode cX0_passRound 11 = .ok (.getfield 40, 3) := by decide +kernel
theorem dX0_passRound_14 : decode cX0_passRound 14 = .ok (.if_icmp .ge 35, 3) := by decide +kernel
theorem dX0_passRound_17 : decode cX0_passRound 17 = .ok (.aload_n 0, 1) := by decide +kernel
theorem dX0_passRound_18 : decode cX0_passRound 18 = .ok (.getfield 9, 3) := by decide +kernel
theorem dX0_passRound_21 : decode cX0_passRound 21 = .ok (.iload_n 3, 1) := by decide +kernel
theorem dX0_passRound_22 : decode cX0_passRound 22 = .ok (.baload, 1) := by decide +kernel
theorem dX0_passRound_23 : decode cX0_passRound 23 = .ok (.ifCond .ne 26, 3) := by decide +kernel
theorem dX0_passRound_26 : decode cX0_passRound 26 = .ok (.aload_n 0, 1) := by decide +kernel
theorem dX0_passRound_27 : decode cX0_passRound 27 = .ok (.getfield 9, 3) := by decide +kernel
theorem dX0_passRound_30 : decode cX0_passRound 30 = .ok (.iload_n 3, 1) := by decide +kernel
theorem dX0_passRound_31 : decode cX0_passRound 31 = .ok (.iconst 1, 1) := by decide +kernel
theorem dX0_passRound_32 : decode cX0_passRound 32 = .ok (.bastore, 1) := by decide +kernel
theorem dX0_passRound_33 : decode cX0_passRound 33 = .ok (.aload_n 0, 1) := by decide +kernel
theorem dX0_passRound_34 : decode cX0_passRound 34 = .ok (.getfield 15, 3) := by decide +kernel
theorem dX0_passRound_37 : decode cX0_passRound 37 = .ok (.iload_n 1, 1) := by decide +kernel
theorem dX0_passRound_38 : decode cX0_passRound 38 = .ok (.iload_n 3, 1) := by decide +kernel
theorem dX0_passRound_39 : decode cX0_passRound 39 = .ok (.invokevirtual 48, 3) := by decide +kernel
theorem dX0_passRound_42 : decode cX0_passRound 42 = .ok (.istore_n 3, 1) := by decide +kernel
theorem dX0_passRound_43 : decode cX0_passRound 43 = .ok (.iinc 4 1, 3) := by decide +kernel
theorem dX0_passRound_46 : decode cX0_passRound 46 = .ok (.goto (-41), 3) := by decide +kernel
theorem dX0_passRound_49 : decode cX0_passRound 49 = .ok (.return_, 1) := by decide +kernel
theorem bX0_passRound_0 (x1 : Int32) (x2 : Int32) (mem : zm_Mem) (post : zm_Post) (kk : zm_Z gX0_passRound post 5 [(0, .ref 13), (1, .int x1), (3, .int x2), (4, .int 0)] [] mem) : zm_Call gX0_passRound [.ref 13, .int x1, .int x2] mem post := by
  refine z_entry (by decide) (Nat.le_of_ble_eq_true rfl) ?_
  show zm_Z gX0_passRound post 0 [(0, .ref 13), (1, .int x1), (2, .int x2)] [] mem
  refine z_iload_n dX0_passRound_0 rfl 2 rfl ?_
  refine z_istore_n (lv' := [(3, .int x2), (0, .ref 13), (1, .int x1), (2, .int x2)]) dX0_passRound_1 rfl (by decide) rfl ?_
  refine z_iconst (v := 0) dX0_passRound_2 zciconst_0 ?_
  refine z_istore (lv' := [(4, .int 0), (3, .int x2), (0, .ref 13), (1, .int x1), (2, .int x2)]) dX0_passRound_3 (by decide) rfl ?_
  refine z_sub [2, 3, 1, 0] rfl ?_
  exact kk
theorem bX0_passRound_5 (x1 : Int32) (x3 : Int32) (x4 : Int32) (mem : zm_Mem) (post : zm_Post) (kk : (((mem 1 2) ≤ x4 → post 0 0 mem) ∧ (¬ (mem 1 2) ≤ x4 → (vp_in x3 36 ∧ ((¬ (mem 14 (Int32.toNatClampNeg x3)) = 0 → post 0 0 mem) ∧ ((mem 14 (Int32.toNatClampNeg x3)) = 0 → (vp_in x3 36 ∧ zm_Call gX1_target [.ref 1, .int x1, .int x3] (zm_st mem 14 (Int32.toNatClampNeg x3) 1) (fun r3 w3 u3 => zm_Z gX0_passRound post 5 [(0, .ref 13), (1, .int x1), (3, .int r3), (4, .int (x4 + 1))] [] u3)))))))) : zm_Z gX0_passRound post 5 [(0, .ref 13), (1, .int x1), (3, .int x3), (4, .int x4)] [] mem := by
  refine z_iload dX0_passRound_5 3 rfl ?_
  refine z_aload_n dX0_passRound_7 rfl 0 rfl ?_
  refine z_getr (ci := 0) (j := 0) (r := 1) (T := TX0) rfl rfl hX0 rfl (by decide) fkX0_15 dX0_passRound_8 ?_
  refine z_getiN (ci := 1) (j := 2) (T := TX1) rfl rfl hX1 rfl (by decide) fkX0_40 dX0_passRound_11 ?_
  refine z_icmp_ge (tgt := 49) dX0_passRound_14 (by decide) (fun h1 => ?_) (fun h1 => ?_)
  ·
    exact z_vret rfl dX0_passRound_49 (kk.1 h1)
  ·
    refine z_aload_n dX0_passRound_17 rfl 0 rfl ?_
    refine z_getr (ci := 0) (j := 1) (r := 14) (T := TX0) rfl rfl hX0 rfl (by decide) fkX0_9 dX0_passRound_18 ?_
    refine z_iload_n dX0_passRound_21 rfl 2 rfl ?_
    refine z_bald (n := 36) rfl (kk.2 h1).1 dX0_passRound_22 ?_
    refine z_if_ne (tgt := 49) dX0_passRound_23 (by decide) (fun h2 => ?_) (fun h2 => ?_)
    ·
      exact z_vret rfl dX0_passRound_49 ((kk.2 h1).2.1 h2)
    ·
      refine z_aload_n dX0_passRound_26 rfl 0 rfl ?_
      refine z_getr (ci := 0) (j := 1) (r := 14) (T := TX0) rfl rfl hX0 rfl (by decide) fkX0_9 dX0_passRound_27 ?_
      refine z_iload_n dX0_passRound_30 rfl 2 rfl ?_
      refine z_iconst (v := 1) dX0_passRound_31 zciconst_1 ?_
      refine z_bast (n := 36) rfl ((kk.2 h1).2.2 h2).1 (by decide) dX0_passRound_32 ?_
      refine z_aload_n dX0_passRound_33 rfl 0 rfl ?_
      refine z_getr (ci := 0) (j := 0) (r := 1) (T := TX0) rfl rfl hX0 rfl (by decide) fkX0_15 dX0_passRound_34 ?_
      refine z_iload_n dX0_passRound_37 rfl 1 rfl ?_
      refine z_iload_n dX0_passRound_38 rfl 2 rfl ?_
      refine z_callVi (g' := gX1_target) [.int x1, .int x3] (q := 1) (ci := 1) (T := TX1) rfl rfl ⟨lkX0_48, pdX1_target, by decide, by decide⟩ ⟨_, rfl, by decide⟩ rfl (Nat.le_of_ble_eq_true rfl) dX0_passRound_39 (zm_Call.mono ((kk.2 h1).2.2 h2).2 (fun r3 w3 u3 k3 => ?_))
      refine z_istore_n (lv' := [(3, .int r3), (0, .ref 13), (1, .int x1), (4, .int x4)]) dX0_passRound_42 rfl (by decide) rfl ?_
      refine z_iinc (v := x4 + 1) (lv' := [(4, .int (x4 + 1)), (3, .int r3), (0, .ref 13), (1, .int x1)]) dX0_passRound_43 3 rfl (by rw [zciconst_1]) (by decide) rfl ?_
      refine z_goto (tgt := 5) dX0_passRound_46 (by decide) ?_
      refine z_sub [2, 3, 1, 0] rfl ?_
      exact k3
theorem dX0_roundsOf_0 : decode cX0_roundsOf 0 = .ok (.iconst 0, 1) := by decide +kernel
theorem dX0_roundsOf_1 : decode cX0_roundsOf 1 = .ok (.istore_n 2, 1) := by decide +kernel
theorem dX0_roundsOf_2 : decode cX0_roundsOf 2 = .ok (.iload_n 2, 1) := by decide +kernel
theorem dX0_roundsOf_3 : decode cX0_roundsOf 3 = .ok (.aload_n 0, 1) := by decide +kernel
theorem dX0_roundsOf_4 : decode cX0_roundsOf 4 = .ok (.getfield 15, 3) := by decide +kernel
theorem dX0_roundsOf_7 : decode cX0_roundsOf 7 = .ok (.getfield 40, 3) := by decide +kernel
theorem dX0_roundsOf_10 : decode cX0_roundsOf 10 = .ok (.if_icmp .ge 16, 3) := by decide +kernel
theorem dX0_roundsOf_13 : decode cX0_roundsOf 13 = .ok (.aload_n 0, 1) := by decide +kernel
theorem dX0_roundsOf_14 : decode cX0_roundsOf 14 = .ok (.getfield 9, 3) := by decide +kernel
theorem dX0_roundsOf_17 : decode cX0_roundsOf 17 = .ok (.iload_n 2, 1) := by decide +kernel
theorem dX0_roundsOf_18 : decode cX0_roundsOf 18 = .ok (.iconst 0, 1) := by decide +kernel
theorem dX0_roundsOf_19 : decode cX0_roundsOf 19 = .ok (.bastore, 1) := by decide +kernel
theorem dX0_roundsOf_20 : decode cX0_roundsOf 20 = .ok (.iinc 2 1, 3) := by decide +kernel
theorem dX0_roundsOf_23 : decode cX0_roundsOf 23 = .ok (.goto (-21), 3) := by decide +kernel
theorem dX0_roundsOf_26 : decode cX0_roundsOf 26 = .ok (.iconst 0, 1) := by decide +kernel
theorem dX0_roundsOf_27 : decode cX0_roundsOf 27 = .ok (.istore_n 2, 1) := by decide +kernel
theorem dX0_roundsOf_28 : decode cX0_roundsOf 28 = .ok (.iconst 0, 1) := by decide +kernel
theorem dX0_roundsOf_29 : decode cX0_roundsOf 29 = .ok (.istore_n 3, 1) := by decide +kernel
theorem dX0_roundsOf_30 : decode cX0_roundsOf 30 = .ok (.iload_n 3, 1) := by decide +kernel
theorem dX0_roundsOf_31 : decode cX0_roundsOf 31 = .ok (.aload_n 0, 1) := by decide +kernel
theorem dX0_roundsOf_32 : decode cX0_roundsOf 32 = .ok (.getfield 15, 3) := by decide +kernel
theorem dX0_roundsOf_35 : decode cX0_roundsOf 35 = .ok (.getfield 40, 3) := by decide +kernel
theorem dX0_roundsOf_38 : decode cX0_roundsOf 38 = .ok (.if_icmp .ge 27, 3) := by decide +kernel
theorem dX0_roundsOf_41 : decode cX0_roundsOf 41 = .ok (.aload_n 0, 1) := by decide +kernel
theorem dX0_roundsOf_42 : decode cX0_roundsOf 42 = .ok (.getfield 9, 3) := by decide +kernel
theorem dX0_roundsOf_45 : decode cX0_roundsOf 45 = .ok (.iload_n 3, 1) := by decide +kernel
theorem dX0_roundsOf_46 : decode cX0_roundsOf 46 = .ok (.baload, 1) := by decide +kernel
theorem dX0_roundsOf_47 : decode cX0_roundsOf 47 = .ok (.ifCond .ne 12, 3) := by decide +kernel
theorem dX0_roundsOf_50 : decode cX0_roundsOf 50 = .ok (.iinc 2 1, 3) := by decide +kernel
theorem dX0_roundsOf_53 : decode cX0_roundsOf 53 = .ok (.aload_n 0, 1) := by decide +kernel
theorem dX0_roundsOf_54 : decode cX0_roundsOf 54 = .ok (.iload_n 1, 1) := by decide +kernel
theorem dX0_roundsOf_55 : decode cX0_roundsOf 55 = .ok (.iload_n 3, 1) := by decide +kernel
theorem dX0_roundsOf_56 : decode cX0_roundsOf 56 = .ok (.invokevirtual 44, 3) := by decide +kernel
theorem dX0_roundsOf_59 : decode cX0_roundsOf 59 = .ok (.iinc 3 1, 3) := by decide +kernel
theorem dX0_roundsOf_62 : decode cX0_roundsOf 62 = .ok (.goto (-32), 3) := by decide +kernel
theorem dX0_roundsOf_65 : decode cX0_roundsOf 65 = .ok (.iload_n 2, 1) := by decide +kernel
theorem dX0_roundsOf_66 : decode cX0_roundsOf 66 = .ok (.ireturn, 1) := by decide +kernel
theorem bX0_roundsOf_0 (x1 : Int32) (mem : zm_Mem) (post : zm_Post) (kk : zm_Z gX0_roundsOf post 2 [(0, .ref 13), (1, .int x1), (2, .int 0)] [] mem) : zm_Call gX0_roundsOf [.ref 13, .int x1] mem post := by
  refine z_entry (by decide) (Nat.le_of_ble_eq_true rfl) ?_
  show zm_Z gX0_roundsOf post 0 [(0, .ref 13), (1, .int x1)] [] mem
  refine z_iconst (v := 0) dX0_roundsOf_0 zciconst_0 ?_
  refine z_istore_n (lv' := [(2, .int 0), (0, .ref 13), (1, .int x1)]) dX0_roundsOf_1 rfl (by decide) rfl ?_
  refine z_sub [1, 2, 0] rfl ?_
  exact kk
theorem bX0_roundsOf_2 (x1 : Int32) (x2 : Int32) (mem : zm_Mem) (post : zm_Post) (kk : (((mem 1 2) ≤ x2 → zm_Z gX0_roundsOf post 30 [(0, .ref 13), (1, .int x1), (2, .int 0), (3, .int 0)] [] mem) ∧ (¬ (mem 1 2) ≤ x2 → (vp_in x2 36 ∧ zm_Z gX0_roundsOf post 2 [(0, .ref 13), (1, .int x1), (2, .int (x2 + 1))] [] (zm_st mem 14 (Int32.toNatClampNeg x2) 0))))) : zm_Z gX0_roundsOf post 2 [(0, .ref 13), (1, .int x1), (2, .int x2)] [] mem := by
  refine z_iload_n dX0_roundsOf_2 rfl 2 rfl ?_
  refine z_aload_n dX0_roundsOf_3 rfl 0 rfl ?_
  refine z_getr (ci := 0) (j := 0) (r := 1) (T := TX0) rfl rfl hX0 rfl (by decide) fkX0_15 dX0_roundsOf_4 ?_
  refine z_getiN (ci := 1) (j := 2) (T := TX1) rfl rfl hX1 rfl (by decide) fkX0_40 dX0_roundsOf_7 ?_
  refine z_icmp_ge (tgt := 26) dX0_roundsOf_10 (by decide) (fun h1 => ?_) (fun h1 => ?_)
  ·
    refine z_iconst (v := 0) dX0_roundsOf_26 zciconst_0 ?_
    refine z_istore_n (lv' := [(2, .int 0), (0, .ref 13), (1, .int x1)]) dX0_roundsOf_27 rfl (by decide) rfl ?_
    refine z_iconst (v := 0) dX0_roundsOf_28 zciconst_0 ?_
    refine z_istore_n (lv' := [(3, .int 0), (2, .int 0), (0, .ref 13), (1, .int x1)]) dX0_roundsOf_29 rfl (by decide) rfl ?_
    refine z_sub [2, 3, 1, 0] rfl ?_
    exact (kk.1 h1)
  ·
    refine z_aload_n dX0_roundsOf_13 rfl 0 rfl ?_
    refine z_getr (ci := 0) (j := 1) (r := 14) (T := TX0) rfl rfl hX0 rfl (by decide) fkX0_9 dX0_roundsOf_14 ?_
    refine z_iload_n dX0_roundsOf_17 rfl 2 rfl ?_
    refine z_iconst (v := 0) dX0_roundsOf_18 zciconst_0 ?_
    refine z_bast (n := 36) rfl (kk.2 h1).1 (by decide) dX0_roundsOf_19 ?_
    refine z_iinc (v := x2 + 1) (lv' := [(2, .int (x2 + 1)), (0, .ref 13), (1, .int x1)]) dX0_roundsOf_20 2 rfl (by rw [zciconst_1]) (by decide) rfl ?_
    refine z_goto (tgt := 2) dX0_roundsOf_23 (by decide) ?_
    refine z_sub [1, 2, 0] rfl ?_
    exact (kk.2 h1).2
theorem bX0_roundsOf_30 (x1 : Int32) (x2 : Int32) (x3 : Int32) (mem : zm_Mem) (post : zm_Post) (kk : (((mem 1 2) ≤ x3 → post x2 0 mem) ∧ (¬ (mem 1 2) ≤ x3 → (vp_in x3 36 ∧ ((¬ (mem 14 (Int32.toNatClampNeg x3)) = 0 → zm_Z gX0_roundsOf post 30 [(0, .ref 13), (1, .int x1), (2, .int x2), (3, .int (x3 + 1))] [] mem) ∧ ((mem 14 (Int32.toNatClampNeg x3)) = 0 → zm_Call gX0_passRound [.ref 13, .int x1, .int x3] mem (fun r3 w3 u3 => zm_Z gX0_roundsOf post 30 [(0, .ref 13), (1, .int x1), (2, .int (x2 + 1)), (3, .int (x3 + 1))] [] u3))))))) : zm_Z gX0_roundsOf post 30 [(0, .ref 13), (1, .int x1), (2, .int x2), (3, .int x3)] [] mem := by
  refine z_iload_n dX0_roundsOf_30 rfl 3 rfl ?_
  refine z_aload_n dX0_roundsOf_31 rfl 0 rfl ?_
  refine z_getr (ci := 0) (j := 0) (r := 1) (T := TX0) rfl rfl hX0 rfl (by decide) fkX0_15 dX0_roundsOf_32 ?_
  refine z_getiN (ci := 1) (j := 2) (T := TX1) rfl rfl hX1 rfl (by decide) fkX0_40 dX0_roundsOf_35 ?_
  refine z_icmp_ge (tgt := 65) dX0_roundsOf_38 (by decide) (fun h1 => ?_) (fun h1 => ?_)
  ·
    refine z_iload_n dX0_roundsOf_65 rfl 2 rfl ?_
    exact z_iret rfl dX0_roundsOf_66 (kk.1 h1)
  ·
    refine z_aload_n dX0_roundsOf_41 rfl 0 rfl ?_
    refine z_getr (ci := 0) (j := 1) (r := 14) (T := TX0) rfl rfl hX0 rfl (by decide) fkX0_9 dX0_roundsOf_42 ?_
    refine z_iload_n dX0_roundsOf_45 rfl 3 rfl ?_
    refine z_bald (n := 36) rfl (kk.2 h1).1 dX0_roundsOf_46 ?_
    refine z_if_ne (tgt := 59) dX0_roundsOf_47 (by decide) (fun h2 => ?_) (fun h2 => ?_)
    ·
      refine z_iinc (v := x3 + 1) (lv' := [(3, .int (x3 + 1)), (0, .ref 13), (1, .int x1), (2, .int x2)]) dX0_roundsOf_59 3 rfl (by rw [zciconst_1]) (by decide) rfl ?_
      refine z_goto (tgt := 30) dX0_roundsOf_62 (by decide) ?_
      refine z_sub [1, 2, 3, 0] rfl ?_
      exact ((kk.2 h1).2.1 h2)
    ·
      refine z_iinc (v := x2 + 1) (lv' := [(2, .int (x2 + 1)), (0, .ref 13), (1, .int x1), (3, .int x3)]) dX0_roundsOf_50 2 rfl (by rw [zciconst_1]) (by decide) rfl ?_
      refine z_aload_n dX0_roundsOf_53 rfl 1 rfl ?_
      refine z_iload_n dX0_roundsOf_54 rfl 2 rfl ?_
      refine z_iload_n dX0_roundsOf_55 rfl 3 rfl ?_
      refine z_callVv (g' := gX0_passRound) [.int x1, .int x3] (q := 13) (ci := 0) (T := TX0) rfl rfl ⟨lkX0_44, pdX0_passRound, by decide, by decide⟩ rfl rfl (Nat.le_of_ble_eq_true rfl) dX0_roundsOf_56 (zm_Call.mono ((kk.2 h1).2.2 h2) (fun r3 w3 u3 k3 => ?_))
      refine z_iinc (v := x3 + 1) (lv' := [(3, .int (x3 + 1)), (2, .int (x2 + 1)), (0, .ref 13), (1, .int x1)]) dX0_roundsOf_59 3 rfl (by rw [zciconst_1]) (by decide) rfl ?_
      refine z_goto (tgt := 30) dX0_roundsOf_62 (by decide) ?_
      refine z_sub [2, 3, 1, 0] rfl ?_
      exact k3
theorem dX1_moveCount_0 : decode cX1_moveCount 0 = .ok (.aload_n 0, 1) := by decide +kernel
theorem dX1_moveCount_1 : decode cX1_moveCount 1 = .ok (.getfield 9, 3) := by decide +kernel
theorem dX1_moveCount_4 : decode cX1_moveCount 4 = .ok (.aload_n 0, 1) := by decide +kernel
theorem dX1_moveCount_5 : decode cX1_moveCount 5 = .ok (.getfield 15, 3) := by decide +kernel
theorem dX1_moveCount_8 : decode cX1_moveCount 8 = .ok (.if_icmp .ne 13, 3) := by decide +kernel
theorem dX1_moveCount_11 : decode cX1_moveCount 11 = .ok (.bipush 8, 2) := by decide +kernel
theorem dX1_moveCount_13 : decode cX1_moveCount 13 = .ok (.aload_n 0, 1) := by decide +kernel
theorem dX1_moveCount_14 : decode cX1_moveCount 14 = .ok (.getfield 18, 3) := by decide +kernel
theorem dX1_moveCount_17 : decode cX1_moveCount 17 = .ok (.imul, 1) := by decide +kernel
theorem dX1_moveCount_18 : decode cX1_moveCount 18 = .ok (.goto 9, 3) := by decide +kernel
theorem dX1_moveCount_21 : decode cX1_moveCount 21 = .ok (.iconst 4, 1) := by decide +kernel
theorem dX1_moveCount_22 : decode cX1_moveCount 22 = .ok (.aload_n 0, 1) := by decide +kernel
theorem dX1_moveCount_23 : decode cX1_moveCount 23 = .ok (.getfield 18, 3) := by decide +kernel
theorem dX1_moveCount_26 : decode cX1_moveCount 26 = .ok (.imul, 1) := by decide +kernel
theorem dX1_moveCount_27 : decode cX1_moveCount 27 = .ok (.ireturn, 1) := by decide +kernel
theorem bX1_moveCount_0 (mem : zm_Mem) (post : zm_Post) (kk : ((¬ (mem 1 0) = (mem 1 1) → post (4 * (mem 1 2)) 0 mem) ∧ ((mem 1 0) = (mem 1 1) → post (8 * (mem 1 2)) 0 mem))) : zm_Call gX1_moveCount [.ref 1] mem post := by
  refine z_entry (by decide) (Nat.le_of_ble_eq_true rfl) ?_
  show zm_Z gX1_moveCount post 0 [(0, .ref 1)] [] mem
  refine z_aload_n dX1_moveCount_0 rfl 0 rfl ?_
  refine z_geti (ci := 1) (j := 0) (T := TX1) rfl rfl hX1 rfl (by decide) fkX1_9 dX1_moveCount_1 ?_
  refine z_aload_n dX1_moveCount_4 rfl 0 rfl ?_
  refine z_geti (ci := 1) (j := 1) (T := TX1) rfl rfl hX1 rfl (by decide) fkX1_15 dX1_moveCount_5 ?_
  refine z_icmp_ne (tgt := 21) dX1_moveCount_8 (by decide) (fun h1 => ?_) (fun h1 => ?_)
  ·
    refine z_iconst (v := 4) dX1_moveCount_21 zciconst_4 ?_
    refine z_aload_n dX1_moveCount_22 rfl 0 rfl ?_
    refine z_geti (ci := 1) (j := 2) (T := TX1) rfl rfl hX1 rfl (by decide) fkX1_18 dX1_moveCount_23 ?_
    refine z_imul dX1_moveCount_26 ?_
    exact z_iret rfl dX1_moveCount_27 (kk.1 h1)
  ·
    refine z_bipush (v := 8) dX1_moveCount_11 zcbipush_8 ?_
    refine z_aload_n dX1_moveCount_13 rfl 0 rfl ?_
    refine z_geti (ci := 1) (j := 2) (T := TX1) rfl rfl hX1 rfl (by decide) fkX1_18 dX1_moveCount_14 ?_
    refine z_imul dX1_moveCount_17 ?_
    refine z_goto (tgt := 27) dX1_moveCount_18 (by decide) ?_
    exact z_iret rfl dX1_moveCount_27 (kk.2 h1)
theorem dX0_unlike_0 : decode cX0_unlike 0 = .ok (.lconst 0, 1) := by decide +kernel
theorem dX0_unlike_1 : decode cX0_unlike 1 = .ok (.lstore_n 2, 1) := by decide +kernel
theorem dX0_unlike_2 : decode cX0_unlike 2 = .ok (.iconst 0, 1) := by decide +kernel
theorem dX0_unlike_3 : decode cX0_unlike 3 = .ok (.istore 4, 2) := by decide +kernel
theorem dX0_unlike_5 : decode cX0_unlike 5 = .ok (.iload 4, 2) := by decide +kernel
theorem dX0_unlike_7 : decode cX0_unlike 7 = .ok (.aload_n 0, 1) := by decide +kernel
theorem dX0_unlike_8 : decode cX0_unlike 8 = .ok (.getfield 15, 3) := by decide +kernel
theorem dX0_unlike_11 : decode cX0_unlike 11 = .ok (.invokevirtual 19, 3) := by decide +kernel
theorem dX0_unlike_14 : decode cX0_unlike 14 = .ok (.if_icmp .ge 34, 3) := by decide +kernel
theorem dX0_unlike_17 : decode cX0_unlike 17 = .ok (.aload_n 0, 1) := by decide +kernel
theorem dX0_unlike_18 : decode cX0_unlike 18 = .ok (.getfield 15, 3) := by decide +kernel
theorem dX0_unlike_21 : decode cX0_unlike 21 = .ok (.iload 4, 2) := by decide +kernel
theorem dX0_unlike_23 : decode cX0_unlike 23 = .ok (.invokevirtual 25, 3) := by decide +kernel
theorem dX0_unlike_26 : decode cX0_unlike 26 = .ok (.ifCond .eq 16, 3) := by decide +kernel
theorem dX0_unlike_29 : decode cX0_unlike 29 = .ok (.lload_n 2, 1) := by decide +kernel
theorem dX0_unlike_30 : decode cX0_unlike 30 = .ok (.iload_n 1, 1) := by decide +kernel
theorem dX0_unlike_31 : decode cX0_unlike 31 = .ok (.aload_n 0, 1) := by decide +kernel
theorem dX0_unlike_32 : decode cX0_unlike 32 = .ok (.iload 4, 2) := by decide +kernel
theorem dX0_unlike_34 : decode cX0_unlike 34 = .ok (.invokevirtual 29, 3) := by decide +kernel
theorem dX0_unlike_37 : decode cX0_unlike 37 = .ok (.invokestatic 33, 3) := by decide +kernel
theorem dX0_unlike_40 : decode cX0_unlike 40 = .ok (.ladd, 1) := by decide +kernel
theorem dX0_unlike_41 : decode cX0_unlike 41 = .ok (.lstore_n 2, 1) := by decide +kernel
theorem dX0_unlike_42 : decode cX0_unlike 42 = .ok (.iinc 4 1, 3) := by decide +kernel
theorem dX0_unlike_45 : decode cX0_unlike 45 = .ok (.goto (-40), 3) := by decide +kernel
theorem dX0_unlike_48 : decode cX0_unlike 48 = .ok (.aload_n 0, 1) := by decide +kernel
theorem dX0_unlike_49 : decode cX0_unlike 49 = .ok (.getfield 15, 3) := by decide +kernel
theorem dX0_unlike_52 : decode cX0_unlike 52 = .ok (.invokevirtual 37, 3) := by decide +kernel
theorem dX0_unlike_55 : decode cX0_unlike 55 = .ok (.istore 4, 2) := by decide +kernel
theorem dX0_unlike_57 : decode cX0_unlike 57 = .ok (.iload 4, 2) := by decide +kernel
theorem dX0_unlike_59 : decode cX0_unlike 59 = .ok (.iconst 1, 1) := by decide +kernel
theorem dX0_unlike_60 : decode cX0_unlike 60 = .ok (.if_icmp .ge 7, 3) := by decide +kernel
theorem dX0_unlike_63 : decode cX0_unlike 63 = .ok (.lconst 0, 1) := by decide +kernel
theorem dX0_unlike_64 : decode cX0_unlike 64 = .ok (.goto 8, 3) := by decide +kernel
theorem dX0_unlike_67 : decode cX0_unlike 67 = .ok (.lload_n 2, 1) := by decide +kernel
theorem dX0_unlike_68 : decode cX0_unlike 68 = .ok (.iload 4, 2) := by decide +kernel
theorem dX0_unlike_70 : decode cX0_unlike 70 = .ok (.i2l, 1) := by decide +kernel
theorem dX0_unlike_71 : decode cX0_unlike 71 = .ok (.ldiv, 1) := by decide +kernel
theorem dX0_unlike_72 : decode cX0_unlike 72 = .ok (.lreturn, 1) := by decide +kernel
theorem bX0_unlike_0 (x1 : Int32) (mem : zm_Mem) (post : zm_Post) (kk : zm_Z gX0_unlike post 5 [(0, .ref 13), (1, .int x1), (2, .long 0), (4, .int 0)] [] mem) : zm_Call gX0_unlike [.ref 13, .int x1] mem post := by
  refine z_entry (by decide) (Nat.le_of_ble_eq_true rfl) ?_
  show zm_Z gX0_unlike post 0 [(0, .ref 13), (1, .int x1)] [] mem
  refine z_lconst (v := 0) dX0_unlike_0 zclconst_0 ?_
  refine z_lstore_n (lv' := [(2, .long 0), (0, .ref 13), (1, .int x1)]) dX0_unlike_1 rfl (by decide) rfl ?_
  refine z_iconst (v := 0) dX0_unlike_2 zciconst_0 ?_
  refine z_istore (lv' := [(4, .int 0), (2, .long 0), (0, .ref 13), (1, .int x1)]) dX0_unlike_3 (by decide) rfl ?_
  refine z_sub [2, 3, 1, 0] rfl ?_
  exact kk
theorem bX0_unlike_5 (x1 : Int32) (x2 : Int64) (x4 : Int32) (mem : zm_Mem) (post : zm_Post) (kk : zm_Call gX1_numbers [.ref 1] mem (fun r1 w1 u1 => ((r1 ≤ x4 → zm_Call gX1_moveCount [.ref 1] u1 (fun r3 w3 u3 => ((1 ≤ r3 → (¬ Int32.toInt64 r3 = 0 ∧ post 0 (x2 / (Int32.toInt64 r3)) u3)) ∧ (¬ 1 ≤ r3 → post 0 0 u3)))) ∧ (¬ r1 ≤ x4 → zm_Call gX1_hasMove [.ref 1, .int x4] u1 (fun r5 w5 u5 => ((r5 = 0 → zm_Z gX0_unlike post 5 [(0, .ref 13), (1, .int x1), (2, .long x2), (4, .int (x4 + 1))] [] u5) ∧ (¬ r5 = 0 → zm_Call gX0_roundsOf [.ref 13, .int x4] u5 (fun r7 w7 u7 => zm_Call gX0_power [.int x1, .int r7] u7 (fun r8 w8 u8 => zm_Z gX0_unlike post 5 [(0, .ref 13), (1, .int x1), (2, .long (x2 + w8)), (4, .int (x4 + 1))] [] u8))))))))) : zm_Z gX0_unlike post 5 [(0, .ref 13), (1, .int x1), (2, .long x2), (4, .int x4)] [] mem := by
  refine z_iload dX0_unlike_5 3 rfl ?_
  refine z_aload_n dX0_unlike_7 rfl 0 rfl ?_
  refine z_getr (ci := 0) (j := 0) (r := 1) (T := TX0) rfl rfl hX0 rfl (by decide) fkX0_15 dX0_unlike_8 ?_
  refine z_callVi (g' := gX1_numbers) [] (q := 1) (ci := 1) (T := TX1) rfl rfl ⟨lkX0_19, pdX1_numbers, by decide, by decide⟩ ⟨_, rfl, by decide⟩ rfl (Nat.le_of_ble_eq_true rfl) dX0_unlike_11 (zm_Call.mono kk (fun r1 w1 u1 k1 => ?_))
  refine z_icmp_ge (tgt := 48) dX0_unlike_14 (by decide) (fun h2 => ?_) (fun h2 => ?_)
  ·
    refine z_aload_n dX0_unlike_48 rfl 0 rfl ?_
    refine z_getr (ci := 0) (j := 0) (r := 1) (T := TX0) rfl rfl hX0 rfl (by decide) fkX0_15 dX0_unlike_49 ?_
    refine z_callVi (g' := gX1_moveCount) [] (q := 1) (ci := 1) (T := TX1) rfl rfl ⟨lkX0_37, pdX1_moveCount, by decide, by decide⟩ ⟨_, rfl, by decide⟩ rfl (Nat.le_of_ble_eq_true rfl) dX0_unlike_52 (zm_Call.mono (k1.1 h2) (fun r3 w3 u3 k3 => ?_))
    refine z_istore (lv' := [(4, .int r3), (0, .ref 13), (1, .int x1), (2, .long x2)]) dX0_unlike_55 (by decide) rfl ?_
    refine z_iload dX0_unlike_57 0 rfl ?_
    refine z_iconst (v := 1) dX0_unlike_59 zciconst_1 ?_
    refine z_icmp_ge (tgt := 67) dX0_unlike_60 (by decide) (fun h4 => ?_) (fun h4 => ?_)
    ·
      refine z_lload_n dX0_unlike_67 rfl 3 rfl ?_
      refine z_iload dX0_unlike_68 0 rfl ?_
      refine z_i2l dX0_unlike_70 ?_
      refine z_ldiv dX0_unlike_71 (k3.1 h4).1 ?_
      exact z_lret rfl dX0_unlike_72 (k3.1 h4).2
    ·
      refine z_lconst (v := 0) dX0_unlike_63 zclconst_0 ?_
      refine z_goto (tgt := 72) dX0_unlike_64 (by decide) ?_
      exact z_lret rfl dX0_unlike_72 (k3.2 h4)
  ·
    refine z_aload_n dX0_unlike_17 rfl 0 rfl ?_
    refine z_getr (ci := 0) (j := 0) (r := 1) (T := TX0) rfl rfl hX0 rfl (by decide) fkX0_15 dX0_unlike_18 ?_
    refine z_iload dX0_unlike_21 3 rfl ?_
    refine z_callVi (g' := gX1_hasMove) [.int x4] (q := 1) (ci := 1) (T := TX1) rfl rfl ⟨lkX0_25, pdX1_hasMove, by decide, by decide⟩ ⟨_, rfl, by decide⟩ rfl (Nat.le_of_ble_eq_true rfl) dX0_unlike_23 (zm_Call.mono (k1.2 h2) (fun r5 w5 u5 k5 => ?_))
    refine z_if_eq (tgt := 42) dX0_unlike_26 (by decide) (fun h6 => ?_) (fun h6 => ?_)
    ·
      refine z_iinc (v := x4 + 1) (lv' := [(4, .int (x4 + 1)), (0, .ref 13), (1, .int x1), (2, .long x2)]) dX0_unlike_42 3 rfl (by rw [zciconst_1]) (by decide) rfl ?_
      refine z_goto (tgt := 5) dX0_unlike_45 (by decide) ?_
      refine z_sub [1, 2, 3, 0] rfl ?_
      exact (k5.1 h6)
    ·
      refine z_lload_n dX0_unlike_29 rfl 2 rfl ?_
      refine z_iload_n dX0_unlike_30 rfl 1 rfl ?_
      refine z_aload_n dX0_unlike_31 rfl 0 rfl ?_
      refine z_iload dX0_unlike_32 3 rfl ?_
      refine z_callVi (g' := gX0_roundsOf) [.int x4] (q := 13) (ci := 0) (T := TX0) rfl rfl ⟨lkX0_29, pdX0_roundsOf, by decide, by decide⟩ ⟨_, rfl, by decide⟩ rfl (Nat.le_of_ble_eq_true rfl) dX0_unlike_34 (zm_Call.mono (k5.2 h6) (fun r7 w7 u7 k7 => ?_))
      refine z_callSl (g' := gX0_power) (st := [.long x2]) [.int x1, .int r7] ⟨lkX0_33, pdX0_power, by decide, by decide⟩ rfl rfl (Nat.le_of_ble_eq_true rfl) dX0_unlike_37 (zm_Call.mono k7 (fun r8 w8 u8 k8 => ?_))
      refine z_ladd dX0_unlike_40 ?_
      refine z_lstore_n (lv' := [(2, .long (x2 + w8)), (0, .ref 13), (1, .int x1), (4, .int x4)]) dX0_unlike_41 rfl (by decide) rfl ?_
      refine z_iinc (v := x4 + 1) (lv' := [(4, .int (x4 + 1)), (2, .long (x2 + w8)), (0, .ref 13), (1, .int x1)]) dX0_unlike_42 3 rfl (by rw [zciconst_1]) (by decide) rfl ?_
      refine z_goto (tgt := 5) dX0_unlike_45 (by decide) ?_
      refine z_sub [2, 3, 1, 0] rfl ?_
      exact k8
theorem dX1_resize_0 : decode cX1_resize 0 = .ok (.aload_n 0, 1) := by decide +kernel
theorem dX1_resize_1 : decode cX1_resize 1 = .ok (.iload_n 1, 1) := by decide +kernel
theorem dX1_resize_2 : decode cX1_resize 2 = .ok (.putfield 9, 3) := by decide +kernel
theorem dX1_resize_5 : decode cX1_resize 5 = .ok (.aload_n 0, 1) := by decide +kernel
theorem dX1_resize_6 : decode cX1_resize 6 = .ok (.iload_n 2, 1) := by decide +kernel
theorem dX1_resize_7 : decode cX1_resize 7 = .ok (.putfield 15, 3) := by decide +kernel
theorem dX1_resize_10 : decode cX1_resize 10 = .ok (.aload_n 0, 1) := by decide +kernel
theorem dX1_resize_11 : decode cX1_resize 11 = .ok (.iload_n 1, 1) := by decide +kernel
theorem dX1_resize_12 : decode cX1_resize 12 = .ok (.iload_n 2, 1) := by decide +kernel
theorem dX1_resize_13 : decode cX1_resize 13 = .ok (.imul, 1) := by decide +kernel
theorem dX1_resize_14 : decode cX1_resize 14 = .ok (.putfield 18, 3) := by decide +kernel
theorem dX1_resize_17 : decode cX1_resize 17 = .ok (.return_, 1) := by decide +kernel
theorem bX1_resize_0 (x1 : Int32) (x2 : Int32) (mem : zm_Mem) (post : zm_Post) (kk : post 0 0 (zm_st (zm_st (zm_st mem 1 0 x1) 1 1 x2) 1 2 (x1 * x2))) : zm_Call gX1_resize [.ref 1, .int x1, .int x2] mem post := by
  refine z_entry (by decide) (Nat.le_of_ble_eq_true rfl) ?_
  show zm_Z gX1_resize post 0 [(0, .ref 1), (1, .int x1), (2, .int x2)] [] mem
  refine z_aload_n dX1_resize_0 rfl 0 rfl ?_
  refine z_iload_n dX1_resize_1 rfl 1 rfl ?_
  refine z_put (ci := 1) (j := 0) (T := TX1) (ty0 := tyX1) rfl rfl hX1 tyX1_ok nmX1 rfl (by decide) fkX1_9 rfl rfl rfl dX1_resize_2 ?_
  refine z_aload_n dX1_resize_5 rfl 0 rfl ?_
  refine z_iload_n dX1_resize_6 rfl 2 rfl ?_
  refine z_put (ci := 1) (j := 1) (T := TX1) (ty0 := tyX1) rfl rfl hX1 tyX1_ok nmX1 rfl (by decide) fkX1_15 rfl rfl rfl dX1_resize_7 ?_
  refine z_aload_n dX1_resize_10 rfl 0 rfl ?_
  refine z_iload_n dX1_resize_11 rfl 1 rfl ?_
  refine z_iload_n dX1_resize_12 rfl 2 rfl ?_
  refine z_imul dX1_resize_13 ?_
  refine z_put (ci := 1) (j := 2) (T := TX1) (ty0 := tyX1) rfl rfl hX1 tyX1_ok nmX1 rfl (by decide) fkX1_18 rfl rfl rfl dX1_resize_14 ?_
  exact z_vret rfl dX1_resize_17 kk
theorem dX1_hasCell_0 : decode cX1_hasCell 0 = .ok (.iload_n 1, 1) := by decide +kernel
theorem dX1_hasCell_1 : decode cX1_hasCell 1 = .ok (.ifCond .lt 15, 3) := by decide +kernel
theorem dX1_hasCell_4 : decode cX1_hasCell 4 = .ok (.iload_n 1, 1) := by decide +kernel
theorem dX1_hasCell_5 : decode cX1_hasCell 5 = .ok (.aload_n 0, 1) := by decide +kernel
theorem dX1_hasCell_6 : decode cX1_hasCell 6 = .ok (.getfield 18, 3) := by decide +kernel
theorem dX1_hasCell_9 : decode cX1_hasCell 9 = .ok (.if_icmp .ge 7, 3) := by decide +kernel
theorem dX1_hasCell_12 : decode cX1_hasCell 12 = .ok (.iconst 1, 1) := by decide +kernel
theorem dX1_hasCell_13 : decode cX1_hasCell 13 = .ok (.goto 4, 3) := by decide +kernel
theorem dX1_hasCell_16 : decode cX1_hasCell 16 = .ok (.iconst 0, 1) := by decide +kernel
theorem dX1_hasCell_17 : decode cX1_hasCell 17 = .ok (.ireturn, 1) := by decide +kernel
theorem bX1_hasCell_0 (x1 : Int32) (mem : zm_Mem) (post : zm_Post) (kk : ((x1 < 0 → post 0 0 mem) ∧ (¬ x1 < 0 → (((mem 1 2) ≤ x1 → post 0 0 mem) ∧ (¬ (mem 1 2) ≤ x1 → post 1 0 mem))))) : zm_Call gX1_hasCell [.ref 1, .int x1] mem post := by
  refine z_entry (by decide) (Nat.le_of_ble_eq_true rfl) ?_
  show zm_Z gX1_hasCell post 0 [(0, .ref 1), (1, .int x1)] [] mem
  refine z_iload_n dX1_hasCell_0 rfl 1 rfl ?_
  refine z_if_lt (tgt := 16) dX1_hasCell_1 (by decide) (fun h1 => ?_) (fun h1 => ?_)
  ·
    refine z_iconst (v := 0) dX1_hasCell_16 zciconst_0 ?_
    exact z_zret rfl (by decide) dX1_hasCell_17 (kk.1 h1)
  ·
    refine z_iload_n dX1_hasCell_4 rfl 1 rfl ?_
    refine z_aload_n dX1_hasCell_5 rfl 0 rfl ?_
    refine z_geti (ci := 1) (j := 2) (T := TX1) rfl rfl hX1 rfl (by decide) fkX1_18 dX1_hasCell_6 ?_
    refine z_icmp_ge (tgt := 16) dX1_hasCell_9 (by decide) (fun h2 => ?_) (fun h2 => ?_)
    ·
      refine z_iconst (v := 0) dX1_hasCell_16 zciconst_0 ?_
      exact z_zret rfl (by decide) dX1_hasCell_17 ((kk.2 h1).1 h2)
    ·
      refine z_iconst (v := 1) dX1_hasCell_12 zciconst_1 ?_
      refine z_goto (tgt := 17) dX1_hasCell_13 (by decide) ?_
      exact z_zret rfl (by decide) dX1_hasCell_17 ((kk.2 h1).2 h2)
theorem dX1_joinTurns_0 : decode cX1_joinTurns 0 = .ok (.iload_n 0, 1) := by decide +kernel
theorem dX1_joinTurns_1 : decode cX1_joinTurns 1 = .ok (.iconst 1, 1) := by decide +kernel
theorem dX1_joinTurns_2 : decode cX1_joinTurns 2 = .ok (.iconst 2, 1) := by decide +kernel
theorem dX1_joinTurns_3 : decode cX1_joinTurns 3 = .ok (.invokestatic 42, 3) := by decide +kernel
theorem dX1_joinTurns_6 : decode cX1_joinTurns 6 = .ok (.istore_n 2, 1) := by decide +kernel
theorem dX1_joinTurns_7 : decode cX1_joinTurns 7 = .ok (.iload_n 0, 1) := by decide +kernel
theorem dX1_joinTurns_8 : decode cX1_joinTurns 8 = .ok (.iconst 1, 1) := by decide +kernel
theorem dX1_joinTurns_9 : decode cX1_joinTurns 9 = .ok (.iconst 2, 1) := by decide +kernel
theorem dX1_joinTurns_10 : decode cX1_joinTurns 10 = .ok (.invokestatic 46, 3) := by decide +kernel
theorem dX1_joinTurns_13 : decode cX1_joinTurns 13 = .ok (.istore_n 3, 1) := by decide +kernel
theorem dX1_joinTurns_14 : decode cX1_joinTurns 14 = .ok (.iload_n 1, 1) := by decide +kernel
theorem dX1_joinTurns_15 : decode cX1_joinTurns 15 = .ok (.iload_n 2, 1) := by decide +kernel
theorem dX1_joinTurns_16 : decode cX1_joinTurns 16 = .ok (.iload_n 3, 1) := by decide +kernel
theorem dX1_joinTurns_17 : decode cX1_joinTurns 17 = .ok (.invokestatic 42, 3) := by decide +kernel
theorem dX1_joinTurns_20 : decode cX1_joinTurns 20 = .ok (.istore 4, 2) := by decide +kernel
theorem dX1_joinTurns_22 : decode cX1_joinTurns 22 = .ok (.iload_n 1, 1) := by decide +kernel
theorem dX1_joinTurns_23 : decode cX1_joinTurns 23 = .ok (.iload_n 2, 1) := by decide +kernel
theorem dX1_joinTurns_24 : decode cX1_joinTurns 24 = .ok (.iload_n 3, 1) := by decide +kernel
theorem dX1_joinTurns_25 : decode cX1_joinTurns 25 = .ok (.invokestatic 46, 3) := by decide +kernel
theorem dX1_joinTurns_28 : decode cX1_joinTurns 28 = .ok (.istore 5, 2) := by decide +kernel
theorem dX1_joinTurns_30 : decode cX1_joinTurns 30 = .ok (.iconst 0, 1) := by decide +kernel
theorem dX1_joinTurns_31 : decode cX1_joinTurns 31 = .ok (.istore 6, 2) := by decide +kernel
theorem dX1_joinTurns_33 : decode cX1_joinTurns 33 = .ok (.iload 6, 2) := by decide +kernel
theorem dX1_joinTurns_35 : decode cX1_joinTurns 35 = .ok (.bipush 8, 2) := by decide +kernel
theorem dX1_joinTurns_37 : decode cX1_joinTurns 37 = .ok (.if_icmp .ge 36, 3) := by decide +kernel
theorem dX1_joinTurns_40 : decode cX1_joinTurns 40 = .ok (.iload 6, 2) := by decide +kernel
theorem dX1_joinTurns_42 : decode cX1_joinTurns 42 = .ok (.iconst 1, 1) := by decide +kernel
theorem dX1_joinTurns_43 : decode cX1_joinTurns 43 = .ok (.iconst 2, 1) := by decide +kernel
theorem dX1_joinTurns_44 : decode cX1_joinTurns 44 = .ok (.invokestatic 42, 3) := by decide +kernel
theorem dX1_joinTurns_47 : decode cX1_joinTurns 47 = .ok (.iload 4, 2) := by decide +kernel
theorem dX1_joinTurns_49 : decode cX1_joinTurns 49 = .ok (.if_icmp .ne 18, 3) := by decide +kernel
theorem dX1_joinTurns_52 : decode cX1_joinTurns 52 = .ok (.iload 6, 2) := by decide +kernel
theorem dX1_joinTurns_54 : decode cX1_joinTurns 54 = .ok (.iconst 1, 1) := by decide +kernel
theorem dX1_joinTurns_55 : decode cX1_joinTurns 55 = .ok (.iconst 2, 1) := by decide +kernel
theorem dX1_joinTurns_56 : decode cX1_joinTurns 56 = .ok (.invokestatic 46, 3) := by decide +kernel
theorem dX1_joinTurns_59 : decode cX1_joinTurns 59 = .ok (.iload 5, 2) := by decide +kernel
theorem dX1_joinTurns_61 : decode cX1_joinTurns 61 = .ok (.if_icmp .ne 6, 3) := by decide +kernel
theorem dX1_joinTurns_64 : decode cX1_joinTurns 64 = .ok (.iload 6, 2) := by decide +kernel
theorem dX1_joinTurns_66 : decode cX1_joinTurns 66 = .ok (.ireturn, 1) := by decide +kernel
theorem dX1_joinTurns_67 : decode cX1_joinTurns 67 = .ok (.iinc 6 1, 3) := by decide +kernel
theorem dX1_joinTurns_70 : decode cX1_joinTurns 70 = .ok (.goto (-37), 3) := by decide +kernel
theorem dX1_joinTurns_73 : decode cX1_joinTurns 73 = .ok (.iconst 0, 1) := by decide +kernel
theorem dX1_joinTurns_74 : decode cX1_joinTurns 74 = .ok (.ireturn, 1) := by decide +kernel
theorem bX1_joinTurns_0 (x0 : Int32) (x1 : Int32) (mem : zm_Mem) (post : zm_Post) (kk : zm_Call gX1_turnedX [.int x0, .int 1, .int 2] mem (fun r1 w1 u1 => zm_Call gX1_turnedY [.int x0, .int 1, .int 2] u1 (fun r2 w2 u2 => zm_Call gX1_turnedX [.int x1, .int r1, .int r2] u2 (fun r3 w3 u3 => zm_Call gX1_turnedY [.int x1, .int r1, .int r2] u3 (fun r4 w4 u4 => zm_Z gX1_joinTurns post 33 [(4, .int r3), (5, .int r4), (6, .int 0)] [] u4))))) : zm_Call gX1_joinTurns [.int x0, .int x1] mem post := by
  refine z_entry (by decide) (Nat.le_of_ble_eq_true rfl) ?_
  show zm_Z gX1_joinTurns post 0 [(0, .int x0), (1, .int x1)] [] mem
  refine z_iload_n dX1_joinTurns_0 rfl 0 rfl ?_
  refine z_iconst (v := 1) dX1_joinTurns_1 zciconst_1 ?_
  refine z_iconst (v := 2) dX1_joinTurns_2 zciconst_2 ?_
  refine z_callSi (g' := gX1_turnedX) (st := []) [.int x0, .int 1, .int 2] ⟨lkX1_42, pdX1_turnedX, by decide, by decide⟩ ⟨_, rfl, by decide⟩ rfl (Nat.le_of_ble_eq_true rfl) dX1_joinTurns_3 (zm_Call.mono kk (fun r1 w1 u1 k1 => ?_))
  refine z_istore_n (lv' := [(2, .int r1), (0, .int x0), (1, .int x1)]) dX1_joinTurns_6 rfl (by decide) rfl ?_
  refine z_iload_n dX1_joinTurns_7 rfl 1 rfl ?_
  refine z_iconst (v := 1) dX1_joinTurns_8 zciconst_1 ?_
  refine z_iconst (v := 2) dX1_joinTurns_9 zciconst_2 ?_
  refine z_callSi (g' := gX1_turnedY) (st := []) [.int x0, .int 1, .int 2] ⟨lkX1_46, pdX1_turnedY, by decide, by decide⟩ ⟨_, rfl, by decide⟩ rfl (Nat.le_of_ble_eq_true rfl) dX1_joinTurns_10 (zm_Call.mono k1 (fun r2 w2 u2 k2 => ?_))
  refine z_istore_n (lv' := [(3, .int r2), (2, .int r1), (0, .int x0), (1, .int x1)]) dX1_joinTurns_13 rfl (by decide) rfl ?_
  refine z_iload_n dX1_joinTurns_14 rfl 3 rfl ?_
  refine z_iload_n dX1_joinTurns_15 rfl 1 rfl ?_
  refine z_iload_n dX1_joinTurns_16 rfl 0 rfl ?_
  refine z_callSi (g' := gX1_turnedX) (st := []) [.int x1, .int r1, .int r2] ⟨lkX1_42, pdX1_turnedX, by decide, by decide⟩ ⟨_, rfl, by decide⟩ rfl (Nat.le_of_ble_eq_true rfl) dX1_joinTurns_17 (zm_Call.mono k2 (fun r3 w3 u3 k3 => ?_))
  refine z_istore (lv' := [(4, .int r3), (3, .int r2), (2, .int r1), (0, .int x0), (1, .int x1)]) dX1_joinTurns_20 (by decide) rfl ?_
  refine z_iload_n dX1_joinTurns_22 rfl 4 rfl ?_
  refine z_iload_n dX1_joinTurns_23 rfl 2 rfl ?_
  refine z_iload_n dX1_joinTurns_24 rfl 1 rfl ?_
  refine z_callSi (g' := gX1_turnedY) (st := []) [.int x1, .int r1, .int r2] ⟨lkX1_46, pdX1_turnedY, by decide, by decide⟩ ⟨_, rfl, by decide⟩ rfl (Nat.le_of_ble_eq_true rfl) dX1_joinTurns_25 (zm_Call.mono k3 (fun r4 w4 u4 k4 => ?_))
  refine z_istore (lv' := [(5, .int r4), (4, .int r3), (3, .int r2), (2, .int r1), (0, .int x0), (1, .int x1)]) dX1_joinTurns_28 (by decide) rfl ?_
  refine z_iconst (v := 0) dX1_joinTurns_30 zciconst_0 ?_
  refine z_istore (lv' := [(6, .int 0), (5, .int r4), (4, .int r3), (3, .int r2), (2, .int r1), (0, .int x0), (1, .int x1)]) dX1_joinTurns_31 (by decide) rfl ?_
  refine z_sub [2, 1, 0] rfl ?_
  exact k4
theorem bX1_joinTurns_33 (x4 : Int32) (x5 : Int32) (x6 : Int32) (mem : zm_Mem) (post : zm_Post) (kk : ((8 ≤ x6 → post 0 0 mem) ∧ (¬ 8 ≤ x6 → zm_Call gX1_turnedX [.int x6, .int 1, .int 2] mem (fun r2 w2 u2 => ((¬ r2 = x4 → zm_Z gX1_joinTurns post 33 [(4, .int x4), (5, .int x5), (6, .int (x6 + 1))] [] u2) ∧ (r2 = x4 → zm_Call gX1_turnedY [.int x6, .int 1, .int 2] u2 (fun r4 w4 u4 => ((¬ r4 = x5 → zm_Z gX1_joinTurns post 33 [(4, .int x4), (5, .int x5), (6, .int (x6 + 1))] [] u4) ∧ (r4 = x5 → post x6 0 u4))))))))) : zm_Z gX1_joinTurns post 33 [(4, .int x4), (5, .int x5), (6, .int x6)] [] mem := by
  refine z_iload dX1_joinTurns_33 2 rfl ?_
  refine z_bipush (v := 8) dX1_joinTurns_35 zcbipush_8 ?_
  refine z_icmp_ge (tgt := 73) dX1_joinTurns_37 (by decide) (fun h1 => ?_) (fun h1 => ?_)
  ·
    refine z_iconst (v := 0) dX1_joinTurns_73 zciconst_0 ?_
    exact z_iret rfl dX1_joinTurns_74 (kk.1 h1)
  ·
    refine z_iload dX1_joinTurns_40 2 rfl ?_
    refine z_iconst (v := 1) dX1_joinTurns_42 zciconst_1 ?_
    refine z_iconst (v := 2) dX1_joinTurns_43 zciconst_2 ?_
    refine z_callSi (g' := gX1_turnedX) (st := []) [.int x6, .int 1, .int 2] ⟨lkX1_42, pdX1_turnedX, by decide, by decide⟩ ⟨_, rfl, by decide⟩ rfl (Nat.le_of_ble_eq_true rfl) dX1_joinTurns_44 (zm_Call.mono (kk.2 h1) (fun r2 w2 u2 k2 => ?_))
    refine z_iload dX1_joinTurns_47 0 rfl ?_
    refine z_icmp_ne (tgt := 67) dX1_joinTurns_49 (by decide) (fun h3 => ?_) (fun h3 => ?_)
    ·
      refine z_iinc (v := x6 + 1) (lv' := [(6, .int (x6 + 1)), (4, .int x4), (5, .int x5)]) dX1_joinTurns_67 2 rfl (by rw [zciconst_1]) (by decide) rfl ?_
      refine z_goto (tgt := 33) dX1_joinTurns_70 (by decide) ?_
      refine z_sub [1, 2, 0] rfl ?_
      exact (k2.1 h3)
    ·
      refine z_iload dX1_joinTurns_52 2 rfl ?_
      refine z_iconst (v := 1) dX1_joinTurns_54 zciconst_1 ?_
      refine z_iconst (v := 2) dX1_joinTurns_55 zciconst_2 ?_
      refine z_callSi (g' := gX1_turnedY) (st := []) [.int x6, .int 1, .int 2] ⟨lkX1_46, pdX1_turnedY, by decide, by decide⟩ ⟨_, rfl, by decide⟩ rfl (Nat.le_of_ble_eq_true rfl) dX1_joinTurns_56 (zm_Call.mono (k2.2 h3) (fun r4 w4 u4 k4 => ?_))
      refine z_iload dX1_joinTurns_59 1 rfl ?_
      refine z_icmp_ne (tgt := 67) dX1_joinTurns_61 (by decide) (fun h5 => ?_) (fun h5 => ?_)
      ·
        refine z_iinc (v := x6 + 1) (lv' := [(6, .int (x6 + 1)), (4, .int x4), (5, .int x5)]) dX1_joinTurns_67 2 rfl (by rw [zciconst_1]) (by decide) rfl ?_
        refine z_goto (tgt := 33) dX1_joinTurns_70 (by decide) ?_
        refine z_sub [1, 2, 0] rfl ?_
        exact (k4.1 h5)
      ·
        refine z_iload dX1_joinTurns_64 2 rfl ?_
        exact z_iret rfl dX1_joinTurns_66 (k4.2 h5)
theorem dX1_join_0 : decode cX1_join 0 = .ok (.aload_n 0, 1) := by decide +kernel
theorem dX1_join_1 : decode cX1_join 1 = .ok (.iload_n 1, 1) := by decide +kernel
theorem dX1_join_2 : decode cX1_join 2 = .ok (.invokevirtual 25, 3) := by decide +kernel
theorem dX1_join_5 : decode cX1_join 5 = .ok (.aload_n 0, 1) := by decide +kernel
theorem dX1_join_6 : decode cX1_join 6 = .ok (.iload_n 2, 1) := by decide +kernel
theorem dX1_join_7 : decode cX1_join 7 = .ok (.invokevirtual 25, 3) := by decide +kernel
theorem dX1_join_10 : decode cX1_join 10 = .ok (.invokestatic 53, 3) := by decide +kernel
theorem dX1_join_13 : decode cX1_join 13 = .ok (.aload_n 0, 1) := by decide +kernel
theorem dX1_join_14 : decode cX1_join 14 = .ok (.getfield 18, 3) := by decide +kernel
theorem dX1_join_17 : decode cX1_join 17 = .ok (.imul, 1) := by decide +kernel
theorem dX1_join_18 : decode cX1_join 18 = .ok (.aload_n 0, 1) := by decide +kernel
theorem dX1_join_19 : decode cX1_join 19 = .ok (.iload_n 2, 1) := by decide +kernel
theorem dX1_join_20 : decode cX1_join 20 = .ok (.aload_n 0, 1) := by decide +kernel
theorem dX1_join_21 : decode cX1_join 21 = .ok (.iload_n 1, 1) := by decide +kernel
theorem dX1_join_22 : decode cX1_join 22 = .ok (.invokevirtual 33, 3) := by decide +kernel
theorem dX1_join_25 : decode cX1_join 25 = .ok (.invokevirtual 56, 3) := by decide +kernel
theorem dX1_join_28 : decode cX1_join 28 = .ok (.iadd, 1) := by decide +kernel
theorem dX1_join_29 : decode cX1_join 29 = .ok (.ireturn, 1) := by decide +kernel
theorem bX1_join_0 (x1 : Int32) (x2 : Int32) (mem : zm_Mem) (post : zm_Post) (kk : zm_Call gX1_turnOf [.ref 1, .int x1] mem (fun r1 w1 u1 => zm_Call gX1_turnOf [.ref 1, .int x2] u1 (fun r2 w2 u2 => zm_Call gX1_joinTurns [.int r1, .int r2] u2 (fun r3 w3 u3 => zm_Call gX1_shiftOf [.ref 1, .int x1] u3 (fun r4 w4 u4 => zm_Call gX1_target [.ref 1, .int x2, .int r4] u4 (fun r5 w5 u5 => post ((r3 * (u3 1 2)) + r5) 0 u5)))))) : zm_Call gX1_join [.ref 1, .int x1, .int x2] mem post := by
  refine z_entry (by decide) (Nat.le_of_ble_eq_true rfl) ?_
  show zm_Z gX1_join post 0 [(0, .ref 1), (1, .int x1), (2, .int x2)] [] mem
  refine z_aload_n dX1_join_0 rfl 0 rfl ?_
  refine z_iload_n dX1_join_1 rfl 1 rfl ?_
  refine z_callVi (g' := gX1_turnOf) [.int x1] (q := 1) (ci := 1) (T := TX1) rfl rfl ⟨lkX1_25, pdX1_turnOf, by decide, by decide⟩ ⟨_, rfl, by decide⟩ rfl (Nat.le_of_ble_eq_true rfl) dX1_join_2 (zm_Call.mono kk (fun r1 w1 u1 k1 => ?_))
  refine z_aload_n dX1_join_5 rfl 0 rfl ?_
  refine z_iload_n dX1_join_6 rfl 2 rfl ?_
  refine z_callVi (g' := gX1_turnOf) [.int x2] (q := 1) (ci := 1) (T := TX1) rfl rfl ⟨lkX1_25, pdX1_turnOf, by decide, by decide⟩ ⟨_, rfl, by decide⟩ rfl (Nat.le_of_ble_eq_true rfl) dX1_join_7 (zm_Call.mono k1 (fun r2 w2 u2 k2 => ?_))
  refine z_callSi (g' := gX1_joinTurns) (st := []) [.int r1, .int r2] ⟨lkX1_53, pdX1_joinTurns, by decide, by decide⟩ ⟨_, rfl, by decide⟩ rfl (Nat.le_of_ble_eq_true rfl) dX1_join_10 (zm_Call.mono k2 (fun r3 w3 u3 k3 => ?_))
  refine z_aload_n dX1_join_13 rfl 0 rfl ?_
  refine z_geti (ci := 1) (j := 2) (T := TX1) rfl rfl hX1 rfl (by decide) fkX1_18 dX1_join_14 ?_
  refine z_imul dX1_join_17 ?_
  refine z_aload_n dX1_join_18 rfl 0 rfl ?_
  refine z_iload_n dX1_join_19 rfl 2 rfl ?_
  refine z_aload_n dX1_join_20 rfl 0 rfl ?_
  refine z_iload_n dX1_join_21 rfl 1 rfl ?_
  refine z_callVi (g' := gX1_shiftOf) [.int x1] (q := 1) (ci := 1) (T := TX1) rfl rfl ⟨lkX1_33, pdX1_shiftOf, by decide, by decide⟩ ⟨_, rfl, by decide⟩ rfl (Nat.le_of_ble_eq_true rfl) dX1_join_22 (zm_Call.mono k3 (fun r4 w4 u4 k4 => ?_))
  refine z_callVi (g' := gX1_target) [.int x2, .int r4] (q := 1) (ci := 1) (T := TX1) rfl rfl ⟨lkX1_56, pdX1_target, by decide, by decide⟩ ⟨_, rfl, by decide⟩ rfl (Nat.le_of_ble_eq_true rfl) dX1_join_25 (zm_Call.mono k4 (fun r5 w5 u5 k5 => ?_))
  refine z_iadd dX1_join_28 ?_
  exact z_iret rfl dX1_join_29 k5
theorem dX1_undoingTurn_0 : decode cX1_undoingTurn 0 = .ok (.iload_n 0, 1) := by decide +kernel
theorem dX1_undoingTurn_1 : decode cX1_undoingTurn 1 = .ok (.lookupswitch 31 #[(1, 27), (3, 29)], 27) := by decide +kernel
theorem dX1_undoingTurn_28 : decode cX1_undoingTurn 28 = .ok (.iconst 3, 1) := by decide +kernel
theorem dX1_undoingTurn_29 : decode cX1_undoingTurn 29 = .ok (.ireturn, 1) := by decide +kernel
theorem dX1_undoingTurn_30 : decode cX1_undoingTurn 30 = .ok (.iconst 1, 1) := by decide +kernel
theorem dX1_undoingTurn_31 : decode cX1_undoingTurn 31 = .ok (.ireturn, 1) := by decide +kernel
theorem dX1_undoingTurn_32 : decode cX1_undoingTurn 32 = .ok (.iload_n 0, 1) := by decide +kernel
theorem dX1_undoingTurn_33 : decode cX1_undoingTurn 33 = .ok (.ireturn, 1) := by decide +kernel
theorem bX1_undoingTurn_0 (x0 : Int32) (mem : zm_Mem) (post : zm_Post) (kk : (((x0 : Int32).toInt = 1 → post 3 0 mem) ∧ ((x0 : Int32).toInt = 3 → post 1 0 mem) ∧ (¬ (x0 : Int32).toInt = 1 → ¬ (x0 : Int32).toInt = 3 → post x0 0 mem))) : zm_Call gX1_undoingTurn [.int x0] mem post := by
  refine z_entry (by decide) (Nat.le_of_ble_eq_true rfl) ?_
  show zm_Z gX1_undoingTurn post 0 [(0, .int x0)] [] mem
  refine z_iload_n dX1_undoingTurn_0 rfl 0 rfl ?_
  by_cases h1 : (x0 : Int32).toInt = 1
  ·
    refine z_lookup (off := 27) (tgt := 28) dX1_undoingTurn_1 (by decide) (by rw [h1]; decide) (by decide) ?_
    refine z_iconst (v := 3) dX1_undoingTurn_28 zciconst_3 ?_
    exact z_iret rfl dX1_undoingTurn_29 (kk.1 h1)
  by_cases h2 : (x0 : Int32).toInt = 3
  ·
    refine z_lookup (off := 29) (tgt := 30) dX1_undoingTurn_1 (by decide) (by rw [h2]; decide) (by decide) ?_
    refine z_iconst (v := 1) dX1_undoingTurn_30 zciconst_1 ?_
    exact z_iret rfl dX1_undoingTurn_31 (kk.2.1 h2)
  refine z_lookup (off := 31) (tgt := 32) dX1_undoingTurn_1 (by decide) (by simp [Op.lookupswitch.offset_cons, Op.lookupswitch.offset, h1, Ne.symm h1, h2, Ne.symm h2]) (by decide) ?_
  refine z_iload_n dX1_undoingTurn_32 rfl 0 rfl ?_
  exact z_iret rfl dX1_undoingTurn_33 (kk.2.2 h1 h2)
theorem dX1_undoing_0 : decode cX1_undoing 0 = .ok (.aload_n 0, 1) := by decide +kernel
theorem dX1_undoing_1 : decode cX1_undoing 1 = .ok (.iload_n 1, 1) := by decide +kernel
theorem dX1_undoing_2 : decode cX1_undoing 2 = .ok (.invokevirtual 25, 3) := by decide +kernel
theorem dX1_undoing_5 : decode cX1_undoing 5 = .ok (.invokestatic 59, 3) := by decide +kernel
theorem dX1_undoing_8 : decode cX1_undoing 8 = .ok (.istore_n 2, 1) := by decide +kernel
theorem dX1_undoing_9 : decode cX1_undoing 9 = .ok (.aload_n 0, 1) := by decide +kernel
theorem dX1_undoing_10 : decode cX1_undoing 10 = .ok (.aload_n 0, 1) := by decide +kernel
theorem dX1_undoing_11 : decode cX1_undoing 11 = .ok (.iload_n 1, 1) := by decide +kernel
theorem dX1_undoing_12 : decode cX1_undoing 12 = .ok (.invokevirtual 33, 3) := by decide +kernel
theorem dX1_undoing_15 : decode cX1_undoing 15 = .ok (.invokevirtual 36, 3) := by decide +kernel
theorem dX1_undoing_18 : decode cX1_undoing 18 = .ok (.istore_n 3, 1) := by decide +kernel
theorem dX1_undoing_19 : decode cX1_undoing 19 = .ok (.aload_n 0, 1) := by decide +kernel
theorem dX1_undoing_20 : decode cX1_undoing 20 = .ok (.aload_n 0, 1) := by decide +kernel
theorem dX1_undoing_21 : decode cX1_undoing 21 = .ok (.iload_n 1, 1) := by decide +kernel
theorem dX1_undoing_22 : decode cX1_undoing 22 = .ok (.invokevirtual 33, 3) := by decide +kernel
theorem dX1_undoing_25 : decode cX1_undoing 25 = .ok (.invokevirtual 39, 3) := by decide +kernel
theorem dX1_undoing_28 : decode cX1_undoing 28 = .ok (.istore 4, 2) := by decide +kernel
theorem dX1_undoing_30 : decode cX1_undoing 30 = .ok (.iload_n 2, 1) := by decide +kernel
theorem dX1_undoing_31 : decode cX1_undoing 31 = .ok (.aload_n 0, 1) := by decide +kernel
theorem dX1_undoing_32 : decode cX1_undoing 32 = .ok (.getfield 18, 3) := by decide +kernel
theorem dX1_undoing_35 : decode cX1_undoing 35 = .ok (.imul, 1) := by decide +kernel
theorem dX1_undoing_36 : decode cX1_undoing 36 = .ok (.aload_n 0, 1) := by decide +kernel
theorem dX1_undoing_37 : decode cX1_undoing 37 = .ok (.iload_n 2, 1) := by decide +kernel
theorem dX1_undoing_38 : decode cX1_undoing 38 = .ok (.iload_n 3, 1) := by decide +kernel
theorem dX1_undoing_39 : decode cX1_undoing 39 = .ok (.iload 4, 2) := by decide +kernel
theorem dX1_undoing_41 : decode cX1_undoing 41 = .ok (.invokestatic 42, 3) := by decide +kernel
theorem dX1_undoing_44 : decode cX1_undoing 44 = .ok (.ineg, 1) := by decide +kernel
theorem dX1_undoing_45 : decode cX1_undoing 45 = .ok (.iload_n 2, 1) := by decide +kernel
theorem dX1_undoing_46 : decode cX1_undoing 46 = .ok (.iload_n 3, 1) := by decide +kernel
theorem dX1_undoing_47 : decode cX1_undoing 47 = .ok (.iload 4, 2) := by decide +kernel
theorem dX1_undoing_49 : decode cX1_undoing 49 = .ok (.invokestatic 46, 3) := by decide +kernel
theorem dX1_undoing_52 : decode cX1_undoing 52 = .ok (.ineg, 1) := by decide +kernel
theorem dX1_undoing_53 : decode cX1_undoing 53 = .ok (.invokevirtual 49, 3) := by decide +kernel
theorem dX1_undoing_56 : decode cX1_undoing 56 = .ok (.iadd, 1) := by decide +kernel
theorem dX1_undoing_57 : decode cX1_undoing 57 = .ok (.ireturn, 1) := by decide +kernel
theorem bX1_undoing_0 (x1 : Int32) (mem : zm_Mem) (post : zm_Post) (kk : zm_Call gX1_turnOf [.ref 1, .int x1] mem (fun r1 w1 u1 => zm_Call gX1_undoingTurn [.int r1] u1 (fun r2 w2 u2 => zm_Call gX1_shiftOf [.ref 1, .int x1] u2 (fun r3 w3 u3 => zm_Call gX1_columnOf [.ref 1, .int r3] u3 (fun r4 w4 u4 => zm_Call gX1_shiftOf [.ref 1, .int x1] u4 (fun r5 w5 u5 => zm_Call gX1_rowOf [.ref 1, .int r5] u5 (fun r6 w6 u6 => zm_Call gX1_turnedX [.int r2, .int r4, .int r6] u6 (fun r7 w7 u7 => zm_Call gX1_turnedY [.int r2, .int r4, .int r6] u7 (fun r8 w8 u8 => zm_Call gX1_cellAt [.ref 1, .int (-r7), .int (-r8)] u8 (fun r9 w9 u9 => post ((r2 * (u6 1 2)) + r9) 0 u9)))))))))) : zm_Call gX1_undoing [.ref 1, .int x1] mem post := by
  refine z_entry (by decide) (Nat.le_of_ble_eq_true rfl) ?_
  show zm_Z gX1_undoing post 0 [(0, .ref 1), (1, .int x1)] [] mem
  refine z_aload_n dX1_undoing_0 rfl 0 rfl ?_
  refine z_iload_n dX1_undoing_1 rfl 1 rfl ?_
  refine z_callVi (g' := gX1_turnOf) [.int x1] (q := 1) (ci := 1) (T := TX1) rfl rfl ⟨lkX1_25, pdX1_turnOf, by decide, by decide⟩ ⟨_, rfl, by decide⟩ rfl (Nat.le_of_ble_eq_true rfl) dX1_undoing_2 (zm_Call.mono kk (fun r1 w1 u1 k1 => ?_))
  refine z_callSi (g' := gX1_undoingTurn) (st := []) [.int r1] ⟨lkX1_59, pdX1_undoingTurn, by decide, by decide⟩ ⟨_, rfl, by decide⟩ rfl (Nat.le_of_ble_eq_true rfl) dX1_undoing_5 (zm_Call.mono k1 (fun r2 w2 u2 k2 => ?_))
  refine z_istore_n (lv' := [(2, .int r2), (0, .ref 1), (1, .int x1)]) dX1_undoing_8 rfl (by decide) rfl ?_
  refine z_aload_n dX1_undoing_9 rfl 1 rfl ?_
  refine z_aload_n dX1_undoing_10 rfl 1 rfl ?_
  refine z_iload_n dX1_undoing_11 rfl 2 rfl ?_
  refine z_callVi (g' := gX1_shiftOf) [.int x1] (q := 1) (ci := 1) (T := TX1) rfl rfl ⟨lkX1_33, pdX1_shiftOf, by decide, by decide⟩ ⟨_, rfl, by decide⟩ rfl (Nat.le_of_ble_eq_true rfl) dX1_undoing_12 (zm_Call.mono k2 (fun r3 w3 u3 k3 => ?_))
  refine z_callVi (g' := gX1_columnOf) [.int r3] (q := 1) (ci := 1) (T := TX1) rfl rfl ⟨lkX1_36, pdX1_columnOf, by decide, by decide⟩ ⟨_, rfl, by decide⟩ rfl (Nat.le_of_ble_eq_true rfl) dX1_undoing_15 (zm_Call.mono k3 (fun r4 w4 u4 k4 => ?_))
  refine z_istore_n (lv' := [(3, .int r4), (2, .int r2), (0, .ref 1), (1, .int x1)]) dX1_undoing_18 rfl (by decide) rfl ?_
  refine z_aload_n dX1_undoing_19 rfl 2 rfl ?_
  refine z_aload_n dX1_undoing_20 rfl 2 rfl ?_
  refine z_iload_n dX1_undoing_21 rfl 3 rfl ?_
  refine z_callVi (g' := gX1_shiftOf) [.int x1] (q := 1) (ci := 1) (T := TX1) rfl rfl ⟨lkX1_33, pdX1_shiftOf, by decide, by decide⟩ ⟨_, rfl, by decide⟩ rfl (Nat.le_of_ble_eq_true rfl) dX1_undoing_22 (zm_Call.mono k4 (fun r5 w5 u5 k5 => ?_))
  refine z_callVi (g' := gX1_rowOf) [.int r5] (q := 1) (ci := 1) (T := TX1) rfl rfl ⟨lkX1_39, pdX1_rowOf, by decide, by decide⟩ ⟨_, rfl, by decide⟩ rfl (Nat.le_of_ble_eq_true rfl) dX1_undoing_25 (zm_Call.mono k5 (fun r6 w6 u6 k6 => ?_))
  refine z_istore (lv' := [(4, .int r6), (3, .int r4), (2, .int r2), (0, .ref 1), (1, .int x1)]) dX1_undoing_28 (by decide) rfl ?_
  refine z_iload_n dX1_undoing_30 rfl 2 rfl ?_
  refine z_aload_n dX1_undoing_31 rfl 3 rfl ?_
  refine z_geti (ci := 1) (j := 2) (T := TX1) rfl rfl hX1 rfl (by decide) fkX1_18 dX1_undoing_32 ?_
  refine z_imul dX1_undoing_35 ?_
  refine z_aload_n dX1_undoing_36 rfl 3 rfl ?_
  refine z_iload_n dX1_undoing_37 rfl 2 rfl ?_
  refine z_iload_n dX1_undoing_38 rfl 1 rfl ?_
  refine z_iload dX1_undoing_39 0 rfl ?_
  refine z_callSi (g' := gX1_turnedX) (st := [.ref 1, .int (r2 * (u6 1 2))]) [.int r2, .int r4, .int r6] ⟨lkX1_42, pdX1_turnedX, by decide, by decide⟩ ⟨_, rfl, by decide⟩ rfl (Nat.le_of_ble_eq_true rfl) dX1_undoing_41 (zm_Call.mono k6 (fun r7 w7 u7 k7 => ?_))
  refine z_ineg dX1_undoing_44 ?_
  refine z_iload_n dX1_undoing_45 rfl 2 rfl ?_
  refine z_iload_n dX1_undoing_46 rfl 1 rfl ?_
  refine z_iload dX1_undoing_47 0 rfl ?_
  refine z_callSi (g' := gX1_turnedY) (st := [.int (-r7), .ref 1, .int (r2 * (u6 1 2))]) [.int r2, .int r4, .int r6] ⟨lkX1_46, pdX1_turnedY, by decide, by decide⟩ ⟨_, rfl, by decide⟩ rfl (Nat.le_of_ble_eq_true rfl) dX1_undoing_49 (zm_Call.mono k7 (fun r8 w8 u8 k8 => ?_))
  refine z_ineg dX1_undoing_52 ?_
  refine z_callVi (g' := gX1_cellAt) [.int (-r7), .int (-r8)] (q := 1) (ci := 1) (T := TX1) rfl rfl ⟨lkX1_49, pdX1_cellAt, by decide, by decide⟩ ⟨_, rfl, by decide⟩ rfl (Nat.le_of_ble_eq_true rfl) dX1_undoing_53 (zm_Call.mono k8 (fun r9 w9 u9 k9 => ?_))
  refine z_iadd dX1_undoing_56 ?_
  exact z_iret rfl dX1_undoing_57 k9
theorem dX1_isStill_0 : decode cX1_isStill 0 = .ok (.iconst 0, 1) := by decide +kernel
theorem dX1_isStill_1 : decode cX1_isStill 1 = .ok (.istore_n 2, 1) := by decide +kernel
theorem dX1_isStill_2 : decode cX1_isStill 2 = .ok (.iload_n 2, 1) := by decide +kernel
theorem dX1_isStill_3 : decode cX1_isStill 3 = .ok (.aload_n 0, 1) := by decide +kernel
theorem dX1_isStill_4 : decode cX1_isStill 4 = .ok (.getfield 18, 3) := by decide +kernel
theorem dX1_isStill_7 : decode cX1_isStill 7 = .ok (.if_icmp .ge 21, 3) := by decide +kernel
theorem dX1_isStill_10 : decode cX1_isStill 10 = .ok (.aload_n 0, 1) := by decide +kernel
theorem dX1_isStill_11 : decode cX1_isStill 11 = .ok (.iload_n 1, 1) := by decide +kernel
theorem dX1_isStill_12 : decode cX1_isStill 12 = .ok (.iload_n 2, 1) := by decide +kernel
theorem dX1_isStill_13 : decode cX1_isStill 13 = .ok (.invokevirtual 56, 3) := by decide +kernel
theorem dX1_isStill_16 : decode cX1_isStill 16 = .ok (.iload_n 2, 1) := by decide +kernel
theorem dX1_isStill_17 : decode cX1_isStill 17 = .ok (.if_icmp .eq 5, 3) := by decide +kernel
theorem dX1_isStill_20 : decode cX1_isStill 20 = .ok (.iconst 0, 1) := by decide +kernel
theorem dX1_isStill_21 : decode cX1_isStill 21 = .ok (.ireturn, 1) := by decide +kernel
theorem dX1_isStill_22 : decode cX1_isStill 22 = .ok (.iinc 2 1, 3) := by decide +kernel
theorem dX1_isStill_25 : decode cX1_isStill 25 = .ok (.goto (-23), 3) := by decide +kernel
theorem dX1_isStill_28 : decode cX1_isStill 28 = .ok (.iconst 1, 1) := by decide +kernel
theorem dX1_isStill_29 : decode cX1_isStill 29 = .ok (.ireturn, 1) := by decide +kernel
theorem bX1_isStill_0 (x1 : Int32) (mem : zm_Mem) (post : zm_Post) (kk : zm_Z gX1_isStill post 2 [(0, .ref 1), (1, .int x1), (2, .int 0)] [] mem) : zm_Call gX1_isStill [.ref 1, .int x1] mem post := by
  refine z_entry (by decide) (Nat.le_of_ble_eq_true rfl) ?_
  show zm_Z gX1_isStill post 0 [(0, .ref 1), (1, .int x1)] [] mem
  refine z_iconst (v := 0) dX1_isStill_0 zciconst_0 ?_
  refine z_istore_n (lv' := [(2, .int 0), (0, .ref 1), (1, .int x1)]) dX1_isStill_1 rfl (by decide) rfl ?_
  refine z_sub [1, 2, 0] rfl ?_
  exact kk
theorem bX1_isStill_2 (x1 : Int32) (x2 : Int32) (mem : zm_Mem) (post : zm_Post) (kk : (((mem 1 2) ≤ x2 → post 1 0 mem) ∧ (¬ (mem 1 2) ≤ x2 → zm_Call gX1_target [.ref 1, .int x1, .int x2] mem (fun r2 w2 u2 => ((r2 = x2 → zm_Z gX1_isStill post 2 [(0, .ref 1), (1, .int x1), (2, .int (x2 + 1))] [] u2) ∧ (¬ r2 = x2 → post 0 0 u2)))))) : zm_Z gX1_isStill post 2 [(0, .ref 1), (1, .int x1), (2, .int x2)] [] mem := by
  refine z_iload_n dX1_isStill_2 rfl 2 rfl ?_
  refine z_aload_n dX1_isStill_3 rfl 0 rfl ?_
  refine z_geti (ci := 1) (j := 2) (T := TX1) rfl rfl hX1 rfl (by decide) fkX1_18 dX1_isStill_4 ?_
  refine z_icmp_ge (tgt := 28) dX1_isStill_7 (by decide) (fun h1 => ?_) (fun h1 => ?_)
  ·
    refine z_iconst (v := 1) dX1_isStill_28 zciconst_1 ?_
    exact z_zret rfl (by decide) dX1_isStill_29 (kk.1 h1)
  ·
    refine z_aload_n dX1_isStill_10 rfl 0 rfl ?_
    refine z_iload_n dX1_isStill_11 rfl 1 rfl ?_
    refine z_iload_n dX1_isStill_12 rfl 2 rfl ?_
    refine z_callVi (g' := gX1_target) [.int x1, .int x2] (q := 1) (ci := 1) (T := TX1) rfl rfl ⟨lkX1_56, pdX1_target, by decide, by decide⟩ ⟨_, rfl, by decide⟩ rfl (Nat.le_of_ble_eq_true rfl) dX1_isStill_13 (zm_Call.mono (kk.2 h1) (fun r2 w2 u2 k2 => ?_))
    refine z_iload_n dX1_isStill_16 rfl 2 rfl ?_
    refine z_icmp_eq (tgt := 22) dX1_isStill_17 (by decide) (fun h3 => ?_) (fun h3 => ?_)
    ·
      refine z_iinc (v := x2 + 1) (lv' := [(2, .int (x2 + 1)), (0, .ref 1), (1, .int x1)]) dX1_isStill_22 2 rfl (by rw [zciconst_1]) (by decide) rfl ?_
      refine z_goto (tgt := 2) dX1_isStill_25 (by decide) ?_
      refine z_sub [1, 2, 0] rfl ?_
      exact (k2.1 h3)
    ·
      refine z_iconst (v := 0) dX1_isStill_20 zciconst_0 ?_
      exact z_zret rfl (by decide) dX1_isStill_21 (k2.2 h3)
theorem dX1_timesTillStill_0 : decode cX1_timesTillStill 0 = .ok (.iload_n 1, 1) := by decide +kernel
theorem dX1_timesTillStill_1 : decode cX1_timesTillStill 1 = .ok (.istore_n 2, 1) := by decide +kernel
theorem dX1_timesTillStill_2 : decode cX1_timesTillStill 2 = .ok (.iconst 1, 1) := by decide +kernel
theorem dX1_timesTillStill_3 : decode cX1_timesTillStill 3 = .ok (.istore_n 3, 1) := by decide +kernel
theorem dX1_timesTillStill_4 : decode cX1_timesTillStill 4 = .ok (.iload_n 3, 1) := by decide +kernel
theorem dX1_timesTillStill_5 : decode cX1_timesTillStill 5 = .ok (.sipush 288, 3) := by decide +kernel
theorem dX1_timesTillStill_8 : decode cX1_timesTillStill 8 = .ok (.if_icmp .ge 26, 3) := by decide +kernel
theorem dX1_timesTillStill_11 : decode cX1_timesTillStill 11 = .ok (.aload_n 0, 1) := by decide +kernel
theorem dX1_timesTillStill_12 : decode cX1_timesTillStill 12 = .ok (.iload_n 2, 1) := by decide +kernel
theorem dX1_timesTillStill_13 : decode cX1_timesTillStill 13 = .ok (.invokevirtual 62, 3) := by decide +kernel
theorem dX1_timesTillStill_16 : decode cX1_timesTillStill 16 = .ok (.ifCond .eq 5, 3) := by decide +kernel
theorem dX1_timesTillStill_19 : decode cX1_timesTillStill 19 = .ok (.iload_n 3, 1) := by decide +kernel
theorem dX1_timesTillStill_20 : decode cX1_timesTillStill 20 = .ok (.ireturn, 1) := by decide +kernel
theorem dX1_timesTillStill_21 : decode cX1_timesTillStill 21 = .ok (.aload_n 0, 1) := by decide +kernel
theorem dX1_timesTillStill_22 : decode cX1_timesTillStill 22 = .ok (.iload_n 2, 1) := by decide +kernel
theorem dX1_timesTillStill_23 : decode cX1_timesTillStill 23 = .ok (.iload_n 1, 1) := by decide +kernel
theorem dX1_timesTillStill_24 : decode cX1_timesTillStill 24 = .ok (.invokevirtual 65, 3) := by decide +kernel
theorem dX1_timesTillStill_27 : decode cX1_timesTillStill 27 = .ok (.istore_n 2, 1) := by decide +kernel
theorem dX1_timesTillStill_28 : decode cX1_timesTillStill 28 = .ok (.iinc 3 1, 3) := by decide +kernel
theorem dX1_timesTillStill_31 : decode cX1_timesTillStill 31 = .ok (.goto (-27), 3) := by decide +kernel
theorem dX1_timesTillStill_34 : decode cX1_timesTillStill 34 = .ok (.sipush 288, 3) := by decide +kernel
theorem dX1_timesTillStill_37 : decode cX1_timesTillStill 37 = .ok (.ireturn, 1) := by decide +kernel
theorem bX1_timesTillStill_0 (x1 : Int32) (mem : zm_Mem) (post : zm_Post) (kk : zm_Z gX1_timesTillStill post 4 [(0, .ref 1), (1, .int x1), (2, .int x1), (3, .int 1)] [] mem) : zm_Call gX1_timesTillStill [.ref 1, .int x1] mem post := by
  refine z_entry (by decide) (Nat.le_of_ble_eq_true rfl) ?_
  show zm_Z gX1_timesTillStill post 0 [(0, .ref 1), (1, .int x1)] [] mem
  refine z_iload_n dX1_timesTillStill_0 rfl 1 rfl ?_
  refine z_istore_n (lv' := [(2, .int x1), (0, .ref 1), (1, .int x1)]) dX1_timesTillStill_1 rfl (by decide) rfl ?_
  refine z_iconst (v := 1) dX1_timesTillStill_2 zciconst_1 ?_
  refine z_istore_n (lv' := [(3, .int 1), (2, .int x1), (0, .ref 1), (1, .int x1)]) dX1_timesTillStill_3 rfl (by decide) rfl ?_
  refine z_sub [2, 3, 1, 0] rfl ?_
  exact kk
theorem bX1_timesTillStill_4 (x1 : Int32) (x2 : Int32) (x3 : Int32) (mem : zm_Mem) (post : zm_Post) (kk : ((288 ≤ x3 → post 288 0 mem) ∧ (¬ 288 ≤ x3 → zm_Call gX1_isStill [.ref 1, .int x2] mem (fun r2 w2 u2 => ((r2 = 0 → zm_Call gX1_join [.ref 1, .int x2, .int x1] u2 (fun r4 w4 u4 => zm_Z gX1_timesTillStill post 4 [(0, .ref 1), (1, .int x1), (2, .int r4), (3, .int (x3 + 1))] [] u4)) ∧ (¬ r2 = 0 → post x3 0 u2)))))) : zm_Z gX1_timesTillStill post 4 [(0, .ref 1), (1, .int x1), (2, .int x2), (3, .int x3)] [] mem := by
  refine z_iload_n dX1_timesTillStill_4 rfl 3 rfl ?_
  refine z_sipush (v := 288) dX1_timesTillStill_5 zcsipush_288 ?_
  refine z_icmp_ge (tgt := 34) dX1_timesTillStill_8 (by decide) (fun h1 => ?_) (fun h1 => ?_)
  ·
    refine z_sipush (v := 288) dX1_timesTillStill_34 zcsipush_288 ?_
    exact z_iret rfl dX1_timesTillStill_37 (kk.1 h1)
  ·
    refine z_aload_n dX1_timesTillStill_11 rfl 0 rfl ?_
    refine z_iload_n dX1_timesTillStill_12 rfl 2 rfl ?_
    refine z_callVi (g' := gX1_isStill) [.int x2] (q := 1) (ci := 1) (T := TX1) rfl rfl ⟨lkX1_62, pdX1_isStill, by decide, by decide⟩ ⟨_, rfl, by decide⟩ rfl (Nat.le_of_ble_eq_true rfl) dX1_timesTillStill_13 (zm_Call.mono (kk.2 h1) (fun r2 w2 u2 k2 => ?_))
    refine z_if_eq (tgt := 21) dX1_timesTillStill_16 (by decide) (fun h3 => ?_) (fun h3 => ?_)
    ·
      refine z_aload_n dX1_timesTillStill_21 rfl 0 rfl ?_
      refine z_iload_n dX1_timesTillStill_22 rfl 2 rfl ?_
      refine z_iload_n dX1_timesTillStill_23 rfl 1 rfl ?_
      refine z_callVi (g' := gX1_join) [.int x2, .int x1] (q := 1) (ci := 1) (T := TX1) rfl rfl ⟨lkX1_65, pdX1_join, by decide, by decide⟩ ⟨_, rfl, by decide⟩ rfl (Nat.le_of_ble_eq_true rfl) dX1_timesTillStill_24 (zm_Call.mono (k2.1 h3) (fun r4 w4 u4 k4 => ?_))
      refine z_istore_n (lv' := [(2, .int r4), (0, .ref 1), (1, .int x1), (3, .int x3)]) dX1_timesTillStill_27 rfl (by decide) rfl ?_
      refine z_iinc (v := x3 + 1) (lv' := [(3, .int (x3 + 1)), (2, .int r4), (0, .ref 1), (1, .int x1)]) dX1_timesTillStill_28 3 rfl (by rw [zciconst_1]) (by decide) rfl ?_
      refine z_goto (tgt := 4) dX1_timesTillStill_31 (by decide) ?_
      refine z_sub [2, 3, 1, 0] rfl ?_
      exact k4
    ·
      refine z_iload_n dX1_timesTillStill_19 rfl 3 rfl ?_
      exact z_iret rfl dX1_timesTillStill_20 (k2.2 h3)
theorem dJ6_bitCount_0f7a4_0 : decode cJ6_bitCount_0f7a4 0 = .ok (.iload_n 0, 1) := by decide +kernel
theorem dJ6_bitCount_0f7a4_1 : decode cJ6_bitCount_0f7a4 1 = .ok (.iload_n 0, 1) := by decide +kernel
theorem dJ6_bitCount_0f7a4_2 : decode cJ6_bitCount_0f7a4 2 = .ok (.iconst 1, 1) := by decide +kernel
theorem dJ6_bitCount_0f7a4_3 : decode cJ6_bitCount_0f7a4 3 = .ok (.iushr, 1) := by decide +kernel
theorem dJ6_bitCount_0f7a4_4 : decode cJ6_bitCount_0f7a4 4 = .ok (.ldc_w 265, 3) := by decide +kernel
theorem dJ6_bitCount_0f7a4_7 : decode cJ6_bitCount_0f7a4 7 = .ok (.iand, 1) := by decide +kernel
theorem dJ6_bitCount_0f7a4_8 : decode cJ6_bitCount_0f7a4 8 = .ok (.isub, 1) := by decide +kernel
theorem dJ6_bitCount_0f7a4_9 : decode cJ6_bitCount_0f7a4 9 = .ok (.istore_n 0, 1) := by decide +kernel
theorem dJ6_bitCount_0f7a4_10 : decode cJ6_bitCount_0f7a4 10 = .ok (.iload_n 0, 1) := by decide +kernel
theorem dJ6_bitCount_0f7a4_11 : decode cJ6_bitCount_0f7a4 11 = .ok (.ldc_w 266, 3) := by decide +kernel
theorem dJ6_bitCount_0f7a4_14 : decode cJ6_bitCount_0f7a4 14 = .ok (.iand, 1) := by decide +kernel
theorem dJ6_bitCount_0f7a4_15 : decode cJ6_bitCount_0f7a4 15 = .ok (.iload_n 0, 1) := by decide +kernel
theorem dJ6_bitCount_0f7a4_16 : decode cJ6_bitCount_0f7a4 16 = .ok (.iconst 2, 1) := by decide +kernel
theorem dJ6_bitCount_0f7a4_17 : decode cJ6_bitCount_0f7a4 17 = .ok (.iushr, 1) := by decide +kernel
theorem dJ6_bitCount_0f7a4_18 : decode cJ6_bitCount_0f7a4 18 = .ok (.ldc_w 266, 3) := by decide +kernel
theorem dJ6_bitCount_0f7a4_21 : decode cJ6_bitCount_0f7a4 21 = .ok (.iand, 1) := by decide +kernel
theorem dJ6_bitCount_0f7a4_22 : decode cJ6_bitCount_0f7a4 22 = .ok (.iadd, 1) := by decide +kernel
theorem dJ6_bitCount_0f7a4_23 : decode cJ6_bitCount_0f7a4 23 = .ok (.istore_n 0, 1) := by decide +kernel
theorem dJ6_bitCount_0f7a4_24 : decode cJ6_bitCount_0f7a4 24 = .ok (.iload_n 0, 1) := by decide +kernel
theorem dJ6_bitCount_0f7a4_25 : decode cJ6_bitCount_0f7a4 25 = .ok (.iload_n 0, 1) := by decide +kernel
theorem dJ6_bitCount_0f7a4_26 : decode cJ6_bitCount_0f7a4 26 = .ok (.iconst 4, 1) := by decide +kernel
theorem dJ6_bitCount_0f7a4_27 : decode cJ6_bitCount_0f7a4 27 = .ok (.iushr, 1) := by decide +kernel
theorem dJ6_bitCount_0f7a4_28 : decode cJ6_bitCount_0f7a4 28 = .ok (.iadd, 1) := by decide +kernel
theorem dJ6_bitCount_0f7a4_29 : decode cJ6_bitCount_0f7a4 29 = .ok (.ldc_w 267, 3) := by decide +kernel
theorem dJ6_bitCount_0f7a4_32 : decode cJ6_bitCount_0f7a4 32 = .ok (.iand, 1) := by decide +kernel
theorem dJ6_bitCount_0f7a4_33 : decode cJ6_bitCount_0f7a4 33 = .ok (.istore_n 0, 1) := by decide +kernel
theorem dJ6_bitCount_0f7a4_34 : decode cJ6_bitCount_0f7a4 34 = .ok (.iload_n 0, 1) := by decide +kernel
theorem dJ6_bitCount_0f7a4_35 : decode cJ6_bitCount_0f7a4 35 = .ok (.iload_n 0, 1) := by decide +kernel
theorem dJ6_bitCount_0f7a4_36 : decode cJ6_bitCount_0f7a4 36 = .ok (.bipush 8, 2) := by decide +kernel
theorem dJ6_bitCount_0f7a4_38 : decode cJ6_bitCount_0f7a4 38 = .ok (.iushr, 1) := by decide +kernel
theorem dJ6_bitCount_0f7a4_39 : decode cJ6_bitCount_0f7a4 39 = .ok (.iadd, 1) := by decide +kernel
theorem dJ6_bitCount_0f7a4_40 : decode cJ6_bitCount_0f7a4 40 = .ok (.istore_n 0, 1) := by decide +kernel
theorem dJ6_bitCount_0f7a4_41 : decode cJ6_bitCount_0f7a4 41 = .ok (.iload_n 0, 1) := by decide +kernel
theorem dJ6_bitCount_0f7a4_42 : decode cJ6_bitCount_0f7a4 42 = .ok (.iload_n 0, 1) := by decide +kernel
theorem dJ6_bitCount_0f7a4_43 : decode cJ6_bitCount_0f7a4 43 = .ok (.bipush 16, 2) := by decide +kernel
theorem dJ6_bitCount_0f7a4_45 : decode cJ6_bitCount_0f7a4 45 = .ok (.iushr, 1) := by decide +kernel
theorem dJ6_bitCount_0f7a4_46 : decode cJ6_bitCount_0f7a4 46 = .ok (.iadd, 1) := by decide +kernel
theorem dJ6_bitCount_0f7a4_47 : decode cJ6_bitCount_0f7a4 47 = .ok (.istore_n 0, 1) := by decide +kernel
theorem dJ6_bitCount_0f7a4_48 : decode cJ6_bitCount_0f7a4 48 = .ok (.iload_n 0, 1) := by decide +kernel
theorem dJ6_bitCount_0f7a4_49 : decode cJ6_bitCount_0f7a4 49 = .ok (.bipush 63, 2) := by decide +kernel
theorem dJ6_bitCount_0f7a4_51 : decode cJ6_bitCount_0f7a4 51 = .ok (.iand, 1) := by decide +kernel
theorem dJ6_bitCount_0f7a4_52 : decode cJ6_bitCount_0f7a4 52 = .ok (.ireturn, 1) := by decide +kernel
theorem bJ6_bitCount_0f7a4_0 (x0 : Int32) (mem : zm_Mem) (post : zm_Post) (kk : post ((((((((x0 - (((x0.toUInt32 >>> ((1 : Int32).toUInt32 &&& Int32.toUInt32 31)).toInt32) &&& 1431655765)) &&& 858993459) + ((((x0 - (((x0.toUInt32 >>> ((1 : Int32).toUInt32 &&& Int32.toUInt32 31)).toInt32) &&& 1431655765)).toUInt32 >>> ((2 : Int32).toUInt32 &&& Int32.toUInt32 31)).toInt32) &&& 858993459)) + (((((x0 - (((x0.toUInt32 >>> ((1 : Int32).toUInt32 &&& Int32.toUInt32 31)).toInt32) &&& 1431655765)) &&& 858993459) + ((((x0 - (((x0.toUInt32 >>> ((1 : Int32).toUInt32 &&& Int32.toUInt32 31)).toInt32) &&& 1431655765)).toUInt32 >>> ((2 : Int32).toUInt32 &&& Int32.toUInt32 31)).toInt32) &&& 858993459)).toUInt32 >>> ((4 : Int32).toUInt32 &&& Int32.toUInt32 31)).toInt32)) &&& 252645135) + (((((((x0 - (((x0.toUInt32 >>> ((1 : Int32).toUInt32 &&& Int32.toUInt32 31)).toInt32) &&& 1431655765)) &&& 858993459) + ((((x0 - (((x0.toUInt32 >>> ((1 : Int32).toUInt32 &&& Int32.toUInt32 31)).toInt32) &&& 1431655765)).toUInt32 >>> ((2 : Int32).toUInt32 &&& Int32.toUInt32 31)).toInt32) &&& 858993459)) + (((((x0 - (((x0.toUInt32 >>> ((1 : Int32).toUInt32 &&& Int32.toUInt32 31)).toInt32) &&& 1431655765)) &&& 858993459) + ((((x0 - (((x0.toUInt32 >>> ((1 : Int32).toUInt32 &&& Int32.toUInt32 31)).toInt32) &&& 1431655765)).toUInt32 >>> ((2 : Int32).toUInt32 &&& Int32.toUInt32 31)).toInt32) &&& 858993459)).toUInt32 >>> ((4 : Int32).toUInt32 &&& Int32.toUInt32 31)).toInt32)) &&& 252645135).toUInt32 >>> ((8 : Int32).toUInt32 &&& Int32.toUInt32 31)).toInt32)) + ((((((((x0 - (((x0.toUInt32 >>> ((1 : Int32).toUInt32 &&& Int32.toUInt32 31)).toInt32) &&& 1431655765)) &&& 858993459) + ((((x0 - (((x0.toUInt32 >>> ((1 : Int32).toUInt32 &&& Int32.toUInt32 31)).toInt32) &&& 1431655765)).toUInt32 >>> ((2 : Int32).toUInt32 &&& Int32.toUInt32 31)).toInt32) &&& 858993459)) + (((((x0 - (((x0.toUInt32 >>> ((1 : Int32).toUInt32 &&& Int32.toUInt32 31)).toInt32) &&& 1431655765)) &&& 858993459) + ((((x0 - (((x0.toUInt32 >>> ((1 : Int32).toUInt32 &&& Int32.toUInt32 31)).toInt32) &&& 1431655765)).toUInt32 >>> ((2 : Int32).toUInt32 &&& Int32.toUInt32 31)).toInt32) &&& 858993459)).toUInt32 >>> ((4 : Int32).toUInt32 &&& Int32.toUInt32 31)).toInt32)) &&& 252645135) + (((((((x0 - (((x0.toUInt32 >>> ((1 : Int32).toUInt32 &&& Int32.toUInt32 31)).toInt32) &&& 1431655765)) &&& 858993459) + ((((x0 - (((x0.toUInt32 >>> ((1 : Int32).toUInt32 &&& Int32.toUInt32 31)).toInt32) &&& 1431655765)).toUInt32 >>> ((2 : Int32).toUInt32 &&& Int32.toUInt32 31)).toInt32) &&& 858993459)) + (((((x0 - (((x0.toUInt32 >>> ((1 : Int32).toUInt32 &&& Int32.toUInt32 31)).toInt32) &&& 1431655765)) &&& 858993459) + ((((x0 - (((x0.toUInt32 >>> ((1 : Int32).toUInt32 &&& Int32.toUInt32 31)).toInt32) &&& 1431655765)).toUInt32 >>> ((2 : Int32).toUInt32 &&& Int32.toUInt32 31)).toInt32) &&& 858993459)).toUInt32 >>> ((4 : Int32).toUInt32 &&& Int32.toUInt32 31)).toInt32)) &&& 252645135).toUInt32 >>> ((8 : Int32).toUInt32 &&& Int32.toUInt32 31)).toInt32)).toUInt32 >>> ((16 : Int32).toUInt32 &&& Int32.toUInt32 31)).toInt32)) &&& 63) 0 mem) : zm_Call gJ6_bitCount_0f7a4 [.int x0] mem post := by
  refine z_entry (by decide) (Nat.le_of_ble_eq_true rfl) ?_
  show zm_Z gJ6_bitCount_0f7a4 post 0 [(0, .int x0)] [] mem
  refine z_iload_n dJ6_bitCount_0f7a4_0 rfl 0 rfl ?_
  refine z_iload_n dJ6_bitCount_0f7a4_1 rfl 0 rfl ?_
  refine z_iconst (v := 1) dJ6_bitCount_0f7a4_2 zciconst_1 ?_
  refine z_iushr (v := (x0.toUInt32 >>> ((1 : Int32).toUInt32 &&& Int32.toUInt32 31)).toInt32) dJ6_bitCount_0f7a4_3 rfl ?_
  refine z_ldcw (v := 1431655765) dJ6_bitCount_0f7a4_4 fkJ6_265 ?_
  refine z_iand dJ6_bitCount_0f7a4_7 ?_
  refine z_isub dJ6_bitCount_0f7a4_8 ?_
  refine z_istore_n (lv' := [(0, .int (x0 - (((x0.toUInt32 >>> ((1 : Int32).toUInt32 &&& Int32.toUInt32 31)).toInt32) &&& 1431655765)))]) dJ6_bitCount_0f7a4_9 rfl (by decide) rfl ?_
  refine z_iload_n dJ6_bitCount_0f7a4_10 rfl 0 rfl ?_
  refine z_ldcw (v := 858993459) dJ6_bitCount_0f7a4_11 fkJ6_266 ?_
  refine z_iand dJ6_bitCount_0f7a4_14 ?_
  refine z_iload_n dJ6_bitCount_0f7a4_15 rfl 0 rfl ?_
  refine z_iconst (v := 2) dJ6_bitCount_0f7a4_16 zciconst_2 ?_
  refine z_iushr (v := ((x0 - (((x0.toUInt32 >>> ((1 : Int32).toUInt32 &&& Int32.toUInt32 31)).toInt32) &&& 1431655765)).toUInt32 >>> ((2 : Int32).toUInt32 &&& Int32.toUInt32 31)).toInt32) dJ6_bitCount_0f7a4_17 rfl ?_
  refine z_ldcw (v := 858993459) dJ6_bitCount_0f7a4_18 fkJ6_266 ?_
  refine z_iand dJ6_bitCount_0f7a4_21 ?_
  refine z_iadd dJ6_bitCount_0f7a4_22 ?_
  refine z_istore_n (lv' := [(0, .int (((x0 - (((x0.toUInt32 >>> ((1 : Int32).toUInt32 &&& Int32.toUInt32 31)).toInt32) &&& 1431655765)) &&& 858993459) + ((((x0 - (((x0.toUInt32 >>> ((1 : Int32).toUInt32 &&& Int32.toUInt32 31)).toInt32) &&& 1431655765)).toUInt32 >>> ((2 : Int32).toUInt32 &&& Int32.toUInt32 31)).toInt32) &&& 858993459)))]) dJ6_bitCount_0f7a4_23 rfl (by decide) rfl ?_
  refine z_iload_n dJ6_bitCount_0f7a4_24 rfl 0 rfl ?_
  refine z_iload_n dJ6_bitCount_0f7a4_25 rfl 0 rfl ?_
  refine z_iconst (v := 4) dJ6_bitCount_0f7a4_26 zciconst_4 ?_
  refine z_iushr (v := ((((x0 - (((x0.toUInt32 >>> ((1 : Int32).toUInt32 &&& Int32.toUInt32 31)).toInt32) &&& 1431655765)) &&& 858993459) + ((((x0 - (((x0.toUInt32 >>> ((1 : Int32).toUInt32 &&& Int32.toUInt32 31)).toInt32) &&& 1431655765)).toUInt32 >>> ((2 : Int32).toUInt32 &&& Int32.toUInt32 31)).toInt32) &&& 858993459)).toUInt32 >>> ((4 : Int32).toUInt32 &&& Int32.toUInt32 31)).toInt32) dJ6_bitCount_0f7a4_27 rfl ?_
  refine z_iadd dJ6_bitCount_0f7a4_28 ?_
  refine z_ldcw (v := 252645135) dJ6_bitCount_0f7a4_29 fkJ6_267 ?_
  refine z_iand dJ6_bitCount_0f7a4_32 ?_
  refine z_istore_n (lv' := [(0, .int (((((x0 - (((x0.toUInt32 >>> ((1 : Int32).toUInt32 &&& Int32.toUInt32 31)).toInt32) &&& 1431655765)) &&& 858993459) + ((((x0 - (((x0.toUInt32 >>> ((1 : Int32).toUInt32 &&& Int32.toUInt32 31)).toInt32) &&& 1431655765)).toUInt32 >>> ((2 : Int32).toUInt32 &&& Int32.toUInt32 31)).toInt32) &&& 858993459)) + (((((x0 - (((x0.toUInt32 >>> ((1 : Int32).toUInt32 &&& Int32.toUInt32 31)).toInt32) &&& 1431655765)) &&& 858993459) + ((((x0 - (((x0.toUInt32 >>> ((1 : Int32).toUInt32 &&& Int32.toUInt32 31)).toInt32) &&& 1431655765)).toUInt32 >>> ((2 : Int32).toUInt32 &&& Int32.toUInt32 31)).toInt32) &&& 858993459)).toUInt32 >>> ((4 : Int32).toUInt32 &&& Int32.toUInt32 31)).toInt32)) &&& 252645135))]) dJ6_bitCount_0f7a4_33 rfl (by decide) rfl ?_
  refine z_iload_n dJ6_bitCount_0f7a4_34 rfl 0 rfl ?_
  refine z_iload_n dJ6_bitCount_0f7a4_35 rfl 0 rfl ?_
  refine z_bipush (v := 8) dJ6_bitCount_0f7a4_36 zcbipush_8 ?_
  refine z_iushr (v := ((((((x0 - (((x0.toUInt32 >>> ((1 : Int32).toUInt32 &&& Int32.toUInt32 31)).toInt32) &&& 1431655765)) &&& 858993459) + ((((x0 - (((x0.toUInt32 >>> ((1 : Int32).toUInt32 &&& Int32.toUInt32 31)).toInt32) &&& 1431655765)).toUInt32 >>> ((2 : Int32).toUInt32 &&& Int32.toUInt32 31)).toInt32) &&& 858993459)) + (((((x0 - (((x0.toUInt32 >>> ((1 : Int32).toUInt32 &&& Int32.toUInt32 31)).toInt32) &&& 1431655765)) &&& 858993459) + ((((x0 - (((x0.toUInt32 >>> ((1 : Int32).toUInt32 &&& Int32.toUInt32 31)).toInt32) &&& 1431655765)).toUInt32 >>> ((2 : Int32).toUInt32 &&& Int32.toUInt32 31)).toInt32) &&& 858993459)).toUInt32 >>> ((4 : Int32).toUInt32 &&& Int32.toUInt32 31)).toInt32)) &&& 252645135).toUInt32 >>> ((8 : Int32).toUInt32 &&& Int32.toUInt32 31)).toInt32) dJ6_bitCount_0f7a4_38 rfl ?_
  refine z_iadd dJ6_bitCount_0f7a4_39 ?_
  refine z_istore_n (lv' := [(0, .int ((((((x0 - (((x0.toUInt32 >>> ((1 : Int32).toUInt32 &&& Int32.toUInt32 31)).toInt32) &&& 1431655765)) &&& 858993459) + ((((x0 - (((x0.toUInt32 >>> ((1 : Int32).toUInt32 &&& Int32.toUInt32 31)).toInt32) &&& 1431655765)).toUInt32 >>> ((2 : Int32).toUInt32 &&& Int32.toUInt32 31)).toInt32) &&& 858993459)) + (((((x0 - (((x0.toUInt32 >>> ((1 : Int32).toUInt32 &&& Int32.toUInt32 31)).toInt32) &&& 1431655765)) &&& 858993459) + ((((x0 - (((x0.toUInt32 >>> ((1 : Int32).toUInt32 &&& Int32.toUInt32 31)).toInt32) &&& 1431655765)).toUInt32 >>> ((2 : Int32).toUInt32 &&& Int32.toUInt32 31)).toInt32) &&& 858993459)).toUInt32 >>> ((4 : Int32).toUInt32 &&& Int32.toUInt32 31)).toInt32)) &&& 252645135) + (((((((x0 - (((x0.toUInt32 >>> ((1 : Int32).toUInt32 &&& Int32.toUInt32 31)).toInt32) &&& 1431655765)) &&& 858993459) + ((((x0 - (((x0.toUInt32 >>> ((1 : Int32).toUInt32 &&& Int32.toUInt32 31)).toInt32) &&& 1431655765)).toUInt32 >>> ((2 : Int32).toUInt32 &&& Int32.toUInt32 31)).toInt32) &&& 858993459)) + (((((x0 - (((x0.toUInt32 >>> ((1 : Int32).toUInt32 &&& Int32.toUInt32 31)).toInt32) &&& 1431655765)) &&& 858993459) + ((((x0 - (((x0.toUInt32 >>> ((1 : Int32).toUInt32 &&& Int32.toUInt32 31)).toInt32) &&& 1431655765)).toUInt32 >>> ((2 : Int32).toUInt32 &&& Int32.toUInt32 31)).toInt32) &&& 858993459)).toUInt32 >>> ((4 : Int32).toUInt32 &&& Int32.toUInt32 31)).toInt32)) &&& 252645135).toUInt32 >>> ((8 : Int32).toUInt32 &&& Int32.toUInt32 31)).toInt32)))]) dJ6_bitCount_0f7a4_40 rfl (by decide) rfl ?_
  refine z_iload_n dJ6_bitCount_0f7a4_41 rfl 0 rfl ?_
  refine z_iload_n dJ6_bitCount_0f7a4_42 rfl 0 rfl ?_
  refine z_bipush (v := 16) dJ6_bitCount_0f7a4_43 zcbipush_16 ?_
  refine z_iushr (v := (((((((x0 - (((x0.toUInt32 >>> ((1 : Int32).toUInt32 &&& Int32.toUInt32 31)).toInt32) &&& 1431655765)) &&& 858993459) + ((((x0 - (((x0.toUInt32 >>> ((1 : Int32).toUInt32 &&& Int32.toUInt32 31)).toInt32) &&& 1431655765)).toUInt32 >>> ((2 : Int32).toUInt32 &&& Int32.toUInt32 31)).toInt32) &&& 858993459)) + (((((x0 - (((x0.toUInt32 >>> ((1 : Int32).toUInt32 &&& Int32.toUInt32 31)).toInt32) &&& 1431655765)) &&& 858993459) + ((((x0 - (((x0.toUInt32 >>> ((1 : Int32).toUInt32 &&& Int32.toUInt32 31)).toInt32) &&& 1431655765)).toUInt32 >>> ((2 : Int32).toUInt32 &&& Int32.toUInt32 31)).toInt32) &&& 858993459)).toUInt32 >>> ((4 : Int32).toUInt32 &&& Int32.toUInt32 31)).toInt32)) &&& 252645135) + (((((((x0 - (((x0.toUInt32 >>> ((1 : Int32).toUInt32 &&& Int32.toUInt32 31)).toInt32) &&& 1431655765)) &&& 858993459) + ((((x0 - (((x0.toUInt32 >>> ((1 : Int32).toUInt32 &&& Int32.toUInt32 31)).toInt32) &&& 1431655765)).toUInt32 >>> ((2 : Int32).toUInt32 &&& Int32.toUInt32 31)).toInt32) &&& 858993459)) + (((((x0 - (((x0.toUInt32 >>> ((1 : Int32).toUInt32 &&& Int32.toUInt32 31)).toInt32) &&& 1431655765)) &&& 858993459) + ((((x0 - (((x0.toUInt32 >>> ((1 : Int32).toUInt32 &&& Int32.toUInt32 31)).toInt32) &&& 1431655765)).toUInt32 >>> ((2 : Int32).toUInt32 &&& Int32.toUInt32 31)).toInt32) &&& 858993459)).toUInt32 >>> ((4 : Int32).toUInt32 &&& Int32.toUInt32 31)).toInt32)) &&& 252645135).toUInt32 >>> ((8 : Int32).toUInt32 &&& Int32.toUInt32 31)).toInt32)).toUInt32 >>> ((16 : Int32).toUInt32 &&& Int32.toUInt32 31)).toInt32) dJ6_bitCount_0f7a4_45 rfl ?_
  refine z_iadd dJ6_bitCount_0f7a4_46 ?_
  refine z_istore_n (lv' := [(0, .int (((((((x0 - (((x0.toUInt32 >>> ((1 : Int32).toUInt32 &&& Int32.toUInt32 31)).toInt32) &&& 1431655765)) &&& 858993459) + ((((x0 - (((x0.toUInt32 >>> ((1 : Int32).toUInt32 &&& Int32.toUInt32 31)).toInt32) &&& 1431655765)).toUInt32 >>> ((2 : Int32).toUInt32 &&& Int32.toUInt32 31)).toInt32) &&& 858993459)) + (((((x0 - (((x0.toUInt32 >>> ((1 : Int32).toUInt32 &&& Int32.toUInt32 31)).toInt32) &&& 1431655765)) &&& 858993459) + ((((x0 - (((x0.toUInt32 >>> ((1 : Int32).toUInt32 &&& Int32.toUInt32 31)).toInt32) &&& 1431655765)).toUInt32 >>> ((2 : Int32).toUInt32 &&& Int32.toUInt32 31)).toInt32) &&& 858993459)).toUInt32 >>> ((4 : Int32).toUInt32 &&& Int32.toUInt32 31)).toInt32)) &&& 252645135) + (((((((x0 - (((x0.toUInt32 >>> ((1 : Int32).toUInt32 &&& Int32.toUInt32 31)).toInt32) &&& 1431655765)) &&& 858993459) + ((((x0 - (((x0.toUInt32 >>> ((1 : Int32).toUInt32 &&& Int32.toUInt32 31)).toInt32) &&& 1431655765)).toUInt32 >>> ((2 : Int32).toUInt32 &&& Int32.toUInt32 31)).toInt32) &&& 858993459)) + (((((x0 - (((x0.toUInt32 >>> ((1 : Int32).toUInt32 &&& Int32.toUInt32 31)).toInt32) &&& 1431655765)) &&& 858993459) + ((((x0 - (((x0.toUInt32 >>> ((1 : Int32).toUInt32 &&& Int32.toUInt32 31)).toInt32) &&& 1431655765)).toUInt32 >>> ((2 : Int32).toUInt32 &&& Int32.toUInt32 31)).toInt32) &&& 858993459)).toUInt32 >>> ((4 : Int32).toUInt32 &&& Int32.toUInt32 31)).toInt32)) &&& 252645135).toUInt32 >>> ((8 : Int32).toUInt32 &&& Int32.toUInt32 31)).toInt32)) + ((((((((x0 - (((x0.toUInt32 >>> ((1 : Int32).toUInt32 &&& Int32.toUInt32 31)).toInt32) &&& 1431655765)) &&& 858993459) + ((((x0 - (((x0.toUInt32 >>> ((1 : Int32).toUInt32 &&& Int32.toUInt32 31)).toInt32) &&& 1431655765)).toUInt32 >>> ((2 : Int32).toUInt32 &&& Int32.toUInt32 31)).toInt32) &&& 858993459)) + (((((x0 - (((x0.toUInt32 >>> ((1 : Int32).toUInt32 &&& Int32.toUInt32 31)).toInt32) &&& 1431655765)) &&& 858993459) + ((((x0 - (((x0.toUInt32 >>> ((1 : Int32).toUInt32 &&& Int32.toUInt32 31)).toInt32) &&& 1431655765)).toUInt32 >>> ((2 : Int32).toUInt32 &&& Int32.toUInt32 31)).toInt32) &&& 858993459)).toUInt32 >>> ((4 : Int32).toUInt32 &&& Int32.toUInt32 31)).toInt32)) &&& 252645135) + (((((((x0 - (((x0.toUInt32 >>> ((1 : Int32).toUInt32 &&& Int32.toUInt32 31)).toInt32) &&& 1431655765)) &&& 858993459) + ((((x0 - (((x0.toUInt32 >>> ((1 : Int32).toUInt32 &&& Int32.toUInt32 31)).toInt32) &&& 1431655765)).toUInt32 >>> ((2 : Int32).toUInt32 &&& Int32.toUInt32 31)).toInt32) &&& 858993459)) + (((((x0 - (((x0.toUInt32 >>> ((1 : Int32).toUInt32 &&& Int32.toUInt32 31)).toInt32) &&& 1431655765)) &&& 858993459) + ((((x0 - (((x0.toUInt32 >>> ((1 : Int32).toUInt32 &&& Int32.toUInt32 31)).toInt32) &&& 1431655765)).toUInt32 >>> ((2 : Int32).toUInt32 &&& Int32.toUInt32 31)).toInt32) &&& 858993459)).toUInt32 >>> ((4 : Int32).toUInt32 &&& Int32.toUInt32 31)).toInt32)) &&& 252645135).toUInt32 >>> ((8 : Int32).toUInt32 &&& Int32.toUInt32 31)).toInt32)).toUInt32 >>> ((16 : Int32).toUInt32 &&& Int32.toUInt32 31)).toInt32)))]) dJ6_bitCount_0f7a4_47 rfl (by decide) rfl ?_
  refine z_iload_n dJ6_bitCount_0f7a4_48 rfl 0 rfl ?_
  refine z_bipush (v := 63) dJ6_bitCount_0f7a4_49 zcbipush_63 ?_
  refine z_iand dJ6_bitCount_0f7a4_51 ?_
  exact z_iret rfl dJ6_bitCount_0f7a4_52 kk
end
