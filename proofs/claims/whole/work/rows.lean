section
-- ===== PART A: goes FIRST, ahead of the names: the tables' words, and 'selects' of the private methods out of them =====
/-- a private method of a class that the tables say can be made, by its rows of tables_1 -/
def lw_okq (q : MethodName × Nat) : Prop := (q.1.cls ≠ "java/lang/invoke/MethodHandle" ∧ q.1.cls ≠ "java/lang/invoke/VarHandle") ∧ Cond.instantiable q.1.cls q.2 ∈ tables_1 ∧ Cond.privateMethod q.1 ∈ tables_1 ∧ Cond.instanceMethod q.1 ∈ tables_1
theorem lw_p0 : lw_okq (⟨"PaperRepeatsModel", "cells", "()I"⟩, 22) := ⟨⟨by decide +kernel, by decide +kernel⟩, List.mem_of_getElem? (i := 737) (by decide +kernel), List.mem_of_getElem? (i := 823) (by decide +kernel), List.mem_of_getElem? (i := 824) (by decide +kernel)⟩
theorem lw_p1 : lw_okq (⟨"PaperRepeatsModel", "noCell", "(I)Z"⟩, 22) := ⟨⟨by decide +kernel, by decide +kernel⟩, List.mem_of_getElem? (i := 737) (by decide +kernel), List.mem_of_getElem? (i := 831) (by decide +kernel), List.mem_of_getElem? (i := 832) (by decide +kernel)⟩
theorem lw_p2 : lw_okq (⟨"PaperRepeatsModel", "isColour", "(I)Z"⟩, 22) := ⟨⟨by decide +kernel, by decide +kernel⟩, List.mem_of_getElem? (i := 737) (by decide +kernel), List.mem_of_getElem? (i := 835) (by decide +kernel), List.mem_of_getElem? (i := 836) (by decide +kernel)⟩
theorem lw_p3 : lw_okq (⟨"PaperRepeatsModel", "noMove", "(I)Z"⟩, 22) := ⟨⟨by decide +kernel, by decide +kernel⟩, List.mem_of_getElem? (i := 737) (by decide +kernel), List.mem_of_getElem? (i := 856) (by decide +kernel), List.mem_of_getElem? (i := 857) (by decide +kernel)⟩
theorem lw_p4 : lw_okq (⟨"PaperRepeatsModel", "isTurn", "(I)Z"⟩, 22) := ⟨⟨by decide +kernel, by decide +kernel⟩, List.mem_of_getElem? (i := 737) (by decide +kernel), List.mem_of_getElem? (i := 860) (by decide +kernel), List.mem_of_getElem? (i := 861) (by decide +kernel)⟩
theorem lw_p5 : lw_okq (⟨"PaperRepeatsModel", "ledTo", "(II)I"⟩, 22) := ⟨⟨by decide +kernel, by decide +kernel⟩, List.mem_of_getElem? (i := 737) (by decide +kernel), List.mem_of_getElem? (i := 864) (by decide +kernel), List.mem_of_getElem? (i := 865) (by decide +kernel)⟩
theorem lw_p6 : lw_okq (⟨"PaperRepeatsModel", "two", "(II)I"⟩, 22) := ⟨⟨by decide +kernel, by decide +kernel⟩, List.mem_of_getElem? (i := 737) (by decide +kernel), List.mem_of_getElem? (i := 881) (by decide +kernel), List.mem_of_getElem? (i := 882) (by decide +kernel)⟩
theorem lw_p7 : lw_okq (⟨"PaperRepeatsModel", "keepsIt", "(I)Z"⟩, 22) := ⟨⟨by decide +kernel, by decide +kernel⟩, List.mem_of_getElem? (i := 737) (by decide +kernel), List.mem_of_getElem? (i := 900) (by decide +kernel), List.mem_of_getElem? (i := 901) (by decide +kernel)⟩
theorem lw_p8 : lw_okq (⟨"PaperRepeatsModel", "layShifts", "()I"⟩, 22) := ⟨⟨by decide +kernel, by decide +kernel⟩, List.mem_of_getElem? (i := 737) (by decide +kernel), List.mem_of_getElem? (i := 921) (by decide +kernel), List.mem_of_getElem? (i := 922) (by decide +kernel)⟩
theorem lw_p9 : lw_okq (⟨"PaperRepeatsModel", "isMirrored", "(I)Z"⟩, 22) := ⟨⟨by decide +kernel, by decide +kernel⟩, List.mem_of_getElem? (i := 737) (by decide +kernel), List.mem_of_getElem? (i := 930) (by decide +kernel), List.mem_of_getElem? (i := 931) (by decide +kernel)⟩
theorem lw_p10 : lw_okq (⟨"PaperRepeatsModel", "isMirror", "(I)Z"⟩, 22) := ⟨⟨by decide +kernel, by decide +kernel⟩, List.mem_of_getElem? (i := 737) (by decide +kernel), List.mem_of_getElem? (i := 934) (by decide +kernel), List.mem_of_getElem? (i := 935) (by decide +kernel)⟩
theorem lw_p11 : lw_okq (⟨"PaperRepeatsModel", "fits", "(I)Z"⟩, 22) := ⟨⟨by decide +kernel, by decide +kernel⟩, List.mem_of_getElem? (i := 737) (by decide +kernel), List.mem_of_getElem? (i := 946) (by decide +kernel), List.mem_of_getElem? (i := 947) (by decide +kernel)⟩
theorem lw_p12 : lw_okq (⟨"PaperRepeatsModel", "allBehind", "(I)Z"⟩, 22) := ⟨⟨by decide +kernel, by decide +kernel⟩, List.mem_of_getElem? (i := 737) (by decide +kernel), List.mem_of_getElem? (i := 950) (by decide +kernel), List.mem_of_getElem? (i := 951) (by decide +kernel)⟩
theorem lw_p13 : lw_okq (⟨"PaperRepeatsModel", "isBehindShift", "(I)Z"⟩, 22) := ⟨⟨by decide +kernel, by decide +kernel⟩, List.mem_of_getElem? (i := 737) (by decide +kernel), List.mem_of_getElem? (i := 954) (by decide +kernel), List.mem_of_getElem? (i := 955) (by decide +kernel)⟩
theorem lw_p14 : lw_okq (⟨"PaperRepeatsModel", "paintMany", "()I"⟩, 22) := ⟨⟨by decide +kernel, by decide +kernel⟩, List.mem_of_getElem? (i := 737) (by decide +kernel), List.mem_of_getElem? (i := 962) (by decide +kernel), List.mem_of_getElem? (i := 963) (by decide +kernel)⟩
theorem lw_p15 : lw_okq (⟨"PaperRepeatsModel", "noPaint", "(I)Z"⟩, 22) := ⟨⟨by decide +kernel, by decide +kernel⟩, List.mem_of_getElem? (i := 737) (by decide +kernel), List.mem_of_getElem? (i := 970) (by decide +kernel), List.mem_of_getElem? (i := 971) (by decide +kernel)⟩
def lw_privs_1 : List (MethodName × Nat) := [(⟨"PaperRepeatsModel", "cells", "()I"⟩, 22), (⟨"PaperRepeatsModel", "noCell", "(I)Z"⟩, 22), (⟨"PaperRepeatsModel", "isColour", "(I)Z"⟩, 22), (⟨"PaperRepeatsModel", "noMove", "(I)Z"⟩, 22), (⟨"PaperRepeatsModel", "isTurn", "(I)Z"⟩, 22), (⟨"PaperRepeatsModel", "ledTo", "(II)I"⟩, 22), (⟨"PaperRepeatsModel", "two", "(II)I"⟩, 22), (⟨"PaperRepeatsModel", "keepsIt", "(I)Z"⟩, 22), (⟨"PaperRepeatsModel", "layShifts", "()I"⟩, 22), (⟨"PaperRepeatsModel", "isMirrored", "(I)Z"⟩, 22), (⟨"PaperRepeatsModel", "isMirror", "(I)Z"⟩, 22), (⟨"PaperRepeatsModel", "fits", "(I)Z"⟩, 22), (⟨"PaperRepeatsModel", "allBehind", "(I)Z"⟩, 22), (⟨"PaperRepeatsModel", "isBehindShift", "(I)Z"⟩, 22), (⟨"PaperRepeatsModel", "paintMany", "()I"⟩, 22), (⟨"PaperRepeatsModel", "noPaint", "(I)Z"⟩, 22)]
theorem lw_r1 : ∀ q ∈ lw_privs_1, lw_okq q := List.forall_mem_cons.mpr ⟨lw_p0, List.forall_mem_cons.mpr ⟨lw_p1, List.forall_mem_cons.mpr ⟨lw_p2, List.forall_mem_cons.mpr ⟨lw_p3, List.forall_mem_cons.mpr ⟨lw_p4, List.forall_mem_cons.mpr ⟨lw_p5, List.forall_mem_cons.mpr ⟨lw_p6, List.forall_mem_cons.mpr ⟨lw_p7, List.forall_mem_cons.mpr ⟨lw_p8, List.forall_mem_cons.mpr ⟨lw_p9, List.forall_mem_cons.mpr ⟨lw_p10, List.forall_mem_cons.mpr ⟨lw_p11, List.forall_mem_cons.mpr ⟨lw_p12, List.forall_mem_cons.mpr ⟨lw_p13, List.forall_mem_cons.mpr ⟨lw_p14, List.forall_mem_cons.mpr ⟨lw_p15, fun _ h => absurd h List.not_mem_nil⟩⟩⟩⟩⟩⟩⟩⟩⟩⟩⟩⟩⟩⟩⟩⟩
theorem lw_p16 : lw_okq (⟨"PaperRepeatsModel", "lay", "(I)V"⟩, 22) := ⟨⟨by decide +kernel, by decide +kernel⟩, List.mem_of_getElem? (i := 737) (by decide +kernel), List.mem_of_getElem? (i := 974) (by decide +kernel), List.mem_of_getElem? (i := 975) (by decide +kernel)⟩
theorem lw_p17 : lw_okq (⟨"PaperRepeatsModel", "keepsPainted", "(I)Z"⟩, 22) := ⟨⟨by decide +kernel, by decide +kernel⟩, List.mem_of_getElem? (i := 737) (by decide +kernel), List.mem_of_getElem? (i := 982) (by decide +kernel), List.mem_of_getElem? (i := 983) (by decide +kernel)⟩
theorem lw_p18 : lw_okq (⟨"PaperRepeatsModel", "leastPaint", "(I)I"⟩, 22) := ⟨⟨by decide +kernel, by decide +kernel⟩, List.mem_of_getElem? (i := 737) (by decide +kernel), List.mem_of_getElem? (i := 990) (by decide +kernel), List.mem_of_getElem? (i := 991) (by decide +kernel)⟩
theorem lw_p19 : lw_okq (⟨"PaperRepeatsModel", "layRings", "(I)I"⟩, 22) := ⟨⟨by decide +kernel, by decide +kernel⟩, List.mem_of_getElem? (i := 737) (by decide +kernel), List.mem_of_getElem? (i := 1014) (by decide +kernel), List.mem_of_getElem? (i := 1015) (by decide +kernel)⟩
theorem lw_p20 : lw_okq (⟨"PaperRepeatsModel", "mostOf", "(I)I"⟩, 22) := ⟨⟨by decide +kernel, by decide +kernel⟩, List.mem_of_getElem? (i := 737) (by decide +kernel), List.mem_of_getElem? (i := 1026) (by decide +kernel), List.mem_of_getElem? (i := 1027) (by decide +kernel)⟩
theorem lw_p21 : lw_okq (⟨"PaperRepeatsModel", "reckon", "(I)I"⟩, 22) := ⟨⟨by decide +kernel, by decide +kernel⟩, List.mem_of_getElem? (i := 737) (by decide +kernel), List.mem_of_getElem? (i := 1030) (by decide +kernel), List.mem_of_getElem? (i := 1031) (by decide +kernel)⟩
theorem lw_p22 : lw_okq (⟨"PaperRepeatsModel", "power", "(I)J"⟩, 22) := ⟨⟨by decide +kernel, by decide +kernel⟩, List.mem_of_getElem? (i := 737) (by decide +kernel), List.mem_of_getElem? (i := 1047) (by decide +kernel), List.mem_of_getElem? (i := 1048) (by decide +kernel)⟩
theorem lw_p23 : lw_okq (⟨"PaperRepeatsModel", "layFirst", "()I"⟩, 22) := ⟨⟨by decide +kernel, by decide +kernel⟩, List.mem_of_getElem? (i := 737) (by decide +kernel), List.mem_of_getElem? (i := 1063) (by decide +kernel), List.mem_of_getElem? (i := 1064) (by decide +kernel)⟩
theorem lw_p24 : lw_okq (⟨"PaperRepeatsModel", "layPieces", "()V"⟩, 22) := ⟨⟨by decide +kernel, by decide +kernel⟩, List.mem_of_getElem? (i := 737) (by decide +kernel), List.mem_of_getElem? (i := 1075) (by decide +kernel), List.mem_of_getElem? (i := 1076) (by decide +kernel)⟩
def lw_privs_2 : List (MethodName × Nat) := [(⟨"PaperRepeatsModel", "lay", "(I)V"⟩, 22), (⟨"PaperRepeatsModel", "keepsPainted", "(I)Z"⟩, 22), (⟨"PaperRepeatsModel", "leastPaint", "(I)I"⟩, 22), (⟨"PaperRepeatsModel", "layRings", "(I)I"⟩, 22), (⟨"PaperRepeatsModel", "mostOf", "(I)I"⟩, 22), (⟨"PaperRepeatsModel", "reckon", "(I)I"⟩, 22), (⟨"PaperRepeatsModel", "power", "(I)J"⟩, 22), (⟨"PaperRepeatsModel", "layFirst", "()I"⟩, 22), (⟨"PaperRepeatsModel", "layPieces", "()V"⟩, 22)]
theorem lw_r2 : ∀ q ∈ lw_privs_2, lw_okq q := List.forall_mem_cons.mpr ⟨lw_p16, List.forall_mem_cons.mpr ⟨lw_p17, List.forall_mem_cons.mpr ⟨lw_p18, List.forall_mem_cons.mpr ⟨lw_p19, List.forall_mem_cons.mpr ⟨lw_p20, List.forall_mem_cons.mpr ⟨lw_p21, List.forall_mem_cons.mpr ⟨lw_p22, List.forall_mem_cons.mpr ⟨lw_p23, List.forall_mem_cons.mpr ⟨lw_p24, fun _ h => absurd h List.not_mem_nil⟩⟩⟩⟩⟩⟩⟩⟩⟩
def lw_privs : List (MethodName × Nat) := lw_privs_1 ++ (lw_privs_2)
def lw_tbl : List Cond := k2_sels lw_privs ++ tables_1
theorem lw_privs_ok : ∀ q ∈ lw_privs, lw_okq q := by
  show ∀ q ∈ lw_privs_1 ++ (lw_privs_2), lw_okq q
  exact List.forall_mem_append.mpr ⟨lw_r1, lw_r2⟩
end
section
def RX0 : String := "PaperRepeats$Census"
def TX0 : u_T := fun k => match k with
  | 0 => ("PaperRepeats$Census", "grid", "LPaperRepeats$Grid;", true)
  | _ => ("PaperRepeats$Census", "isPassed", "[Z", true)
def tyX0 : Nat → FieldType := fun k => match k with
  | 0 => .object "PaperRepeats$Grid"
  | _ => .array .boolean
abbrev wsX00 : List Cond := u_ws RX0 TX0 2
theorem nmX0 : ∀ a, a < 2 → ∀ b, b < 2 → a ≠ b → (TX0 a).2.1 ≠ (TX0 b).2.1 := by decide +kernel
theorem tyX0_ok : ∀ k, k < 2 → parseFieldDescriptor (TX0 k).2.2.1 = some (tyX0 k) := by decide +kernel
abbrev cX0_init : ByteArray := prog_2_method_1_code
def yX0_init : MethodName := ⟨RX0, "<init>", "(LPaperRepeats$Grid;)V"⟩
abbrev cX0_power : ByteArray := prog_2_method_2_code
def yX0_power : MethodName := ⟨RX0, "power", "(II)J"⟩
abbrev cX0_unlike : ByteArray := prog_2_method_3_code
def yX0_unlike : MethodName := ⟨RX0, "unlike", "(I)J"⟩
abbrev cX0_roundsOf : ByteArray := prog_2_method_4_code
def yX0_roundsOf : MethodName := ⟨RX0, "roundsOf", "(I)I"⟩
abbrev cX0_passRound : ByteArray := prog_2_method_5_code
def yX0_passRound : MethodName := ⟨RX0, "passRound", "(II)V"⟩
def RX1 : String := "PaperRepeats$Grid"
def TX1 : u_T := fun k => match k with
  | 0 => ("PaperRepeats$Grid", "width", "I", false)
  | 1 => ("PaperRepeats$Grid", "height", "I", false)
  | _ => ("PaperRepeats$Grid", "cells", "I", false)
def tyX1 : Nat → FieldType := fun k => match k with
  | 0 => .int
  | 1 => .int
  | _ => .int
abbrev wsX10 : List Cond := u_ws RX1 TX1 3
theorem nmX1 : ∀ a, a < 3 → ∀ b, b < 3 → a ≠ b → (TX1 a).2.1 ≠ (TX1 b).2.1 := by decide +kernel
theorem tyX1_ok : ∀ k, k < 3 → parseFieldDescriptor (TX1 k).2.2.1 = some (tyX1 k) := by decide +kernel
abbrev cX1_init : ByteArray := prog_3_method_1_code
def yX1_init : MethodName := ⟨RX1, "<init>", "()V"⟩
abbrev cX1_resize : ByteArray := prog_3_method_2_code
def yX1_resize : MethodName := ⟨RX1, "resize", "(II)V"⟩
abbrev cX1_hasCell : ByteArray := prog_3_method_3_code
def yX1_hasCell : MethodName := ⟨RX1, "hasCell", "(I)Z"⟩
abbrev cX1_hasTurn : ByteArray := prog_3_method_4_code
def yX1_hasTurn : MethodName := ⟨RX1, "hasTurn", "(I)Z"⟩
abbrev cX1_hasMove : ByteArray := prog_3_method_5_code
def yX1_hasMove : MethodName := ⟨RX1, "hasMove", "(I)Z"⟩
abbrev cX1_numbers : ByteArray := prog_3_method_6_code
def yX1_numbers : MethodName := ⟨RX1, "numbers", "()I"⟩
abbrev cX1_moveCount : ByteArray := prog_3_method_7_code
def yX1_moveCount : MethodName := ⟨RX1, "moveCount", "()I"⟩
abbrev cX1_turnOf : ByteArray := prog_3_method_8_code
def yX1_turnOf : MethodName := ⟨RX1, "turnOf", "(I)I"⟩
abbrev cX1_shiftOf : ByteArray := prog_3_method_9_code
def yX1_shiftOf : MethodName := ⟨RX1, "shiftOf", "(I)I"⟩
abbrev cX1_columnOf : ByteArray := prog_3_method_10_code
def yX1_columnOf : MethodName := ⟨RX1, "columnOf", "(I)I"⟩
abbrev cX1_rowOf : ByteArray := prog_3_method_11_code
def yX1_rowOf : MethodName := ⟨RX1, "rowOf", "(I)I"⟩
abbrev cX1_cellAt : ByteArray := prog_3_method_12_code
def yX1_cellAt : MethodName := ⟨RX1, "cellAt", "(II)I"⟩
abbrev cX1_turnedX : ByteArray := prog_3_method_13_code
def yX1_turnedX : MethodName := ⟨RX1, "turnedX", "(III)I"⟩
abbrev cX1_turnedY : ByteArray := prog_3_method_14_code
def yX1_turnedY : MethodName := ⟨RX1, "turnedY", "(III)I"⟩
abbrev cX1_target : ByteArray := prog_3_method_15_code
def yX1_target : MethodName := ⟨RX1, "target", "(II)I"⟩
abbrev cX1_join : ByteArray := prog_3_method_16_code
def yX1_join : MethodName := ⟨RX1, "join", "(II)I"⟩
abbrev cX1_joinTurns : ByteArray := prog_3_method_17_code
def yX1_joinTurns : MethodName := ⟨RX1, "joinTurns", "(II)I"⟩
abbrev cX1_undoing : ByteArray := prog_3_method_18_code
def yX1_undoing : MethodName := ⟨RX1, "undoing", "(I)I"⟩
abbrev cX1_undoingTurn : ByteArray := prog_3_method_19_code
def yX1_undoingTurn : MethodName := ⟨RX1, "undoingTurn", "(I)I"⟩
abbrev cX1_isStill : ByteArray := prog_3_method_20_code
def yX1_isStill : MethodName := ⟨RX1, "isStill", "(I)Z"⟩
abbrev cX1_timesTillStill : ByteArray := prog_3_method_21_code
def yX1_timesTillStill : MethodName := ⟨RX1, "timesTillStill", "(I)I"⟩
def RX2 : String := "PaperRepeats$Kinds"
def TX2 : u_T := fun k => match k with
  | 0 => ("PaperRepeats$Kinds", "grid", "LPaperRepeats$Grid;", true)
  | _ => ("PaperRepeats$Kinds", "patch", "LPaperRepeats$Patch;", true)
def tyX2 : Nat → FieldType := fun k => match k with
  | 0 => .object "PaperRepeats$Grid"
  | _ => .object "PaperRepeats$Patch"
abbrev wsX20 : List Cond := u_ws RX2 TX2 2
theorem nmX2 : ∀ a, a < 2 → ∀ b, b < 2 → a ≠ b → (TX2 a).2.1 ≠ (TX2 b).2.1 := by decide +kernel
theorem tyX2_ok : ∀ k, k < 2 → parseFieldDescriptor (TX2 k).2.2.1 = some (tyX2 k) := by decide +kernel
abbrev cX2_init : ByteArray := prog_4_method_1_code
def yX2_init : MethodName := ⟨RX2, "<init>", "(LPaperRepeats$Grid;LPaperRepeats$Patch;)V"⟩
abbrev cX2_isMirror : ByteArray := prog_4_method_2_code
def yX2_isMirror : MethodName := ⟨RX2, "isMirror", "(II)Z"⟩
abbrev cX2_isAlong : ByteArray := prog_4_method_3_code
def yX2_isAlong : MethodName := ⟨RX2, "isAlong", "(II)Z"⟩
abbrev cX2_hasMirror : ByteArray := prog_4_method_4_code
def yX2_hasMirror : MethodName := ⟨RX2, "hasMirror", "(I)Z"⟩
abbrev cX2_isMirrorBehindShift : ByteArray := prog_4_method_5_code
def yX2_isMirrorBehindShift : MethodName := ⟨RX2, "isMirrorBehindShift", "(II)Z"⟩
abbrev cX2_allMirrorsBehindShifts : ByteArray := prog_4_method_6_code
def yX2_allMirrorsBehindShifts : MethodName := ⟨RX2, "allMirrorsBehindShifts", "()Z"⟩
abbrev cX2_number : ByteArray := prog_4_method_7_code
def yX2_number : MethodName := ⟨RX2, "number", "()I"⟩
abbrev cX2_kindWithHalf : ByteArray := prog_4_method_8_code
def yX2_kindWithHalf : MethodName := ⟨RX2, "kindWithHalf", "(IZ)I"⟩
abbrev cX2_kindWithoutTurns : ByteArray := prog_4_method_9_code
def yX2_kindWithoutTurns : MethodName := ⟨RX2, "kindWithoutTurns", "(IZ)I"⟩
abbrev cX2_fitCount : ByteArray := prog_4_method_10_code
def yX2_fitCount : MethodName := ⟨RX2, "fitCount", "()I"⟩
abbrev cX2_mirroredCount : ByteArray := prog_4_method_11_code
def yX2_mirroredCount : MethodName := ⟨RX2, "mirroredCount", "()I"⟩
def RX3 : String := "PaperRepeats$Likes"
def TX3 : u_T := fun k => match k with
  | 0 => ("PaperRepeats$Likes", "grid", "LPaperRepeats$Grid;", true)
  | _ => ("PaperRepeats$Likes", "patch", "LPaperRepeats$Patch;", true)
def tyX3 : Nat → FieldType := fun k => match k with
  | 0 => .object "PaperRepeats$Grid"
  | _ => .object "PaperRepeats$Patch"
abbrev wsX30 : List Cond := u_ws RX3 TX3 2
theorem nmX3 : ∀ a, a < 2 → ∀ b, b < 2 → a ≠ b → (TX3 a).2.1 ≠ (TX3 b).2.1 := by decide +kernel
theorem tyX3_ok : ∀ k, k < 2 → parseFieldDescriptor (TX3 k).2.2.1 = some (tyX3 k) := by decide +kernel
abbrev cX3_init : ByteArray := prog_5_method_1_code
def yX3_init : MethodName := ⟨RX3, "<init>", "(LPaperRepeats$Grid;LPaperRepeats$Patch;)V"⟩
abbrev cX3_total : ByteArray := prog_5_method_2_code
def yX3_total : MethodName := ⟨RX3, "total", "()I"⟩
abbrev cX3_hueInFirst : ByteArray := prog_5_method_3_code
def yX3_hueInFirst : MethodName := ⟨RX3, "hueInFirst", "(I)I"⟩
abbrev cX3_moveToFirst : ByteArray := prog_5_method_4_code
def yX3_moveToFirst : MethodName := ⟨RX3, "moveToFirst", "()I"⟩
abbrev cX3_isAhead : ByteArray := prog_5_method_5_code
def yX3_isAhead : MethodName := ⟨RX3, "isAhead", "(II)Z"⟩
def RX4 : String := "PaperRepeats$Paints"
def TX4 : u_T := fun k => match k with
  | 0 => ("PaperRepeats$Paints", "grid", "LPaperRepeats$Grid;", true)
  | 1 => ("PaperRepeats$Paints", "patch", "LPaperRepeats$Patch;", true)
  | _ => ("PaperRepeats$Paints", "asked", "[I", true)
def tyX4 : Nat → FieldType := fun k => match k with
  | 0 => .object "PaperRepeats$Grid"
  | 1 => .object "PaperRepeats$Patch"
  | _ => .array .int
abbrev wsX40 : List Cond := u_ws RX4 TX4 3
theorem nmX4 : ∀ a, a < 3 → ∀ b, b < 3 → a ≠ b → (TX4 a).2.1 ≠ (TX4 b).2.1 := by decide +kernel
theorem tyX4_ok : ∀ k, k < 3 → parseFieldDescriptor (TX4 k).2.2.1 = some (tyX4 k) := by decide +kernel
abbrev cX4_init : ByteArray := prog_6_method_1_code
def yX4_init : MethodName := ⟨RX4, "<init>", "(LPaperRepeats$Grid;LPaperRepeats$Patch;)V"⟩
abbrev cX4_total : ByteArray := prog_6_method_2_code
def yX4_total : MethodName := ⟨RX4, "total", "()I"⟩
abbrev cX4_has : ByteArray := prog_6_method_3_code
def yX4_has : MethodName := ⟨RX4, "has", "(I)Z"⟩
abbrev cX4_given : ByteArray := prog_6_method_4_code
def yX4_given : MethodName := ⟨RX4, "given", "(II)I"⟩
abbrev cX4_isKeptBy : ByteArray := prog_6_method_5_code
def yX4_isKeptBy : MethodName := ⟨RX4, "isKeptBy", "(II)Z"⟩
abbrev cX4_askFor : ByteArray := prog_6_method_6_code
def yX4_askFor : MethodName := ⟨RX4, "askFor", "(I)Z"⟩
abbrev cX4_givesWhatIsAsked : ByteArray := prog_6_method_7_code
def yX4_givesWhatIsAsked : MethodName := ⟨RX4, "givesWhatIsAsked", "(I)Z"⟩
abbrev cX4_leastFor : ByteArray := prog_6_method_8_code
def yX4_leastFor : MethodName := ⟨RX4, "leastFor", "(I)I"⟩
abbrev cX4_movesWithSome : ByteArray := prog_6_method_9_code
def yX4_movesWithSome : MethodName := ⟨RX4, "movesWithSome", "()I"⟩
def RX5 : String := "PaperRepeats$Patch"
def TX5 : u_T := fun k => match k with
  | 0 => ("PaperRepeats$Patch", "grid", "LPaperRepeats$Grid;", true)
  | 1 => ("PaperRepeats$Patch", "hueAt", "[I", true)
  | 2 => ("PaperRepeats$Patch", "before", "[I", true)
  | _ => ("PaperRepeats$Patch", "hues", "I", false)
def tyX5 : Nat → FieldType := fun k => match k with
  | 0 => .object "PaperRepeats$Grid"
  | 1 => .array .int
  | 2 => .array .int
  | _ => .int
abbrev wsX50 : List Cond := u_ws RX5 TX5 4
theorem nmX5 : ∀ a, a < 4 → ∀ b, b < 4 → a ≠ b → (TX5 a).2.1 ≠ (TX5 b).2.1 := by decide +kernel
theorem tyX5_ok : ∀ k, k < 4 → parseFieldDescriptor (TX5 k).2.2.1 = some (tyX5 k) := by decide +kernel
abbrev cX5_init : ByteArray := prog_7_method_1_code
def yX5_init : MethodName := ⟨RX5, "<init>", "(LPaperRepeats$Grid;)V"⟩
abbrev cX5_clear : ByteArray := prog_7_method_2_code
def yX5_clear : MethodName := ⟨RX5, "clear", "()V"⟩
abbrev cX5_isHue : ByteArray := prog_7_method_3_code
def yX5_isHue : MethodName := ⟨RX5, "isHue", "(I)Z"⟩
abbrev cX5_allows : ByteArray := prog_7_method_4_code
def yX5_allows : MethodName := ⟨RX5, "allows", "(I)Z"⟩
abbrev cX5_allowHues : ByteArray := prog_7_method_5_code
def yX5_allowHues : MethodName := ⟨RX5, "allowHues", "(I)V"⟩
abbrev cX5_allowsFigures : ByteArray := prog_7_method_6_code
def yX5_allowsFigures : MethodName := ⟨RX5, "allowsFigures", "(II)Z"⟩
abbrev cX5_dyeFigures : ByteArray := prog_7_method_7_code
def yX5_dyeFigures : MethodName := ⟨RX5, "dyeFigures", "(III)I"⟩
abbrev cX5_hiddenCount : ByteArray := prog_7_method_8_code
def yX5_hiddenCount : MethodName := ⟨RX5, "hiddenCount", "()I"⟩
abbrev cX5_usedHues : ByteArray := prog_7_method_9_code
def yX5_usedHues : MethodName := ⟨RX5, "usedHues", "()I"⟩
abbrev cX5_isKeptBy : ByteArray := prog_7_method_10_code
def yX5_isKeptBy : MethodName := ⟨RX5, "isKeptBy", "(I)Z"⟩
abbrev cX5_keepersOf : ByteArray := prog_7_method_11_code
def yX5_keepersOf : MethodName := ⟨RX5, "keepersOf", "(I)I"⟩
abbrev cX5_keepersOfAll : ByteArray := prog_7_method_12_code
def yX5_keepersOfAll : MethodName := ⟨RX5, "keepersOfAll", "()I"⟩
abbrev cX5_keeperNumber : ByteArray := prog_7_method_13_code
def yX5_keeperNumber : MethodName := ⟨RX5, "keeperNumber", "(I)I"⟩
abbrev cX5_moveBy : ByteArray := prog_7_method_14_code
def yX5_moveBy : MethodName := ⟨RX5, "moveBy", "(I)I"⟩
def RX6 : String := "PaperRepeats$Pieces"
def TX6 : u_T := fun k => match k with
  | 0 => ("PaperRepeats$Pieces", "grid", "LPaperRepeats$Grid;", true)
  | 1 => ("PaperRepeats$Pieces", "patch", "LPaperRepeats$Patch;", true)
  | 2 => ("PaperRepeats$Pieces", "line", "[I", true)
  | 3 => ("PaperRepeats$Pieces", "isReached", "[Z", true)
  | 4 => ("PaperRepeats$Pieces", "placeX", "[I", true)
  | 5 => ("PaperRepeats$Pieces", "placeY", "[I", true)
  | 6 => ("PaperRepeats$Pieces", "end", "I", false)
  | _ => ("PaperRepeats$Pieces", "runsOn", "Z", false)
def tyX6 : Nat → FieldType := fun k => match k with
  | 0 => .object "PaperRepeats$Grid"
  | 1 => .object "PaperRepeats$Patch"
  | 2 => .array .int
  | 3 => .array .boolean
  | 4 => .array .int
  | 5 => .array .int
  | 6 => .int
  | _ => .boolean
abbrev wsX60 : List Cond := u_ws RX6 TX6 8
theorem nmX6 : ∀ a, a < 8 → ∀ b, b < 8 → a ≠ b → (TX6 a).2.1 ≠ (TX6 b).2.1 := by decide +kernel
theorem tyX6_ok : ∀ k, k < 8 → parseFieldDescriptor (TX6 k).2.2.1 = some (tyX6 k) := by decide +kernel
abbrev cX6_init : ByteArray := prog_8_method_1_code
def yX6_init : MethodName := ⟨RX6, "<init>", "(LPaperRepeats$Grid;LPaperRepeats$Patch;)V"⟩
abbrev cX6_total : ByteArray := prog_8_method_2_code
def yX6_total : MethodName := ⟨RX6, "total", "(Z)I"⟩
abbrev cX6_sizeAt : ByteArray := prog_8_method_3_code
def yX6_sizeAt : MethodName := ⟨RX6, "sizeAt", "(I)I"⟩
abbrev cX6_leaveAll : ByteArray := prog_8_method_4_code
def yX6_leaveAll : MethodName := ⟨RX6, "leaveAll", "()V"⟩
abbrev cX6_walk : ByteArray := prog_8_method_5_code
def yX6_walk : MethodName := ⟨RX6, "walk", "(I)V"⟩
abbrev cX6_step : ByteArray := prog_8_method_6_code
def yX6_step : MethodName := ⟨RX6, "step", "(III)V"⟩
abbrev cX6_arrive : ByteArray := prog_8_method_7_code
def yX6_arrive : MethodName := ⟨RX6, "arrive", "(III)V"⟩
def RX7 : String := "PaperRepeats$Told"
def TX7 : u_T := fun k => match k with
  | 0 => ("PaperRepeats$Told", "grid", "LPaperRepeats$Grid;", true)
  | 1 => ("PaperRepeats$Told", "patch", "LPaperRepeats$Patch;", true)
  | 2 => ("PaperRepeats$Told", "moves", "[I", true)
  | 3 => ("PaperRepeats$Told", "ringOf", "[I", true)
  | 4 => ("PaperRepeats$Told", "line", "[I", true)
  | 5 => ("PaperRepeats$Told", "isMade", "[Z", true)
  | _ => ("PaperRepeats$Told", "size", "I", false)
def tyX7 : Nat → FieldType := fun k => match k with
  | 0 => .object "PaperRepeats$Grid"
  | 1 => .object "PaperRepeats$Patch"
  | 2 => .array .int
  | 3 => .array .int
  | 4 => .array .int
  | 5 => .array .boolean
  | _ => .int
abbrev wsX70 : List Cond := u_ws RX7 TX7 7
theorem nmX7 : ∀ a, a < 7 → ∀ b, b < 7 → a ≠ b → (TX7 a).2.1 ≠ (TX7 b).2.1 := by decide +kernel
theorem tyX7_ok : ∀ k, k < 7 → parseFieldDescriptor (TX7 k).2.2.1 = some (tyX7 k) := by decide +kernel
abbrev cX7_init : ByteArray := prog_9_method_1_code
def yX7_init : MethodName := ⟨RX7, "<init>", "(LPaperRepeats$Grid;LPaperRepeats$Patch;)V"⟩
abbrev cX7_forget : ByteArray := prog_9_method_2_code
def yX7_forget : MethodName := ⟨RX7, "forget", "()V"⟩
abbrev cX7_add : ByteArray := prog_9_method_3_code
def yX7_add : MethodName := ⟨RX7, "add", "(I)V"⟩
abbrev cX7_markRings : ByteArray := prog_9_method_4_code
def yX7_markRings : MethodName := ⟨RX7, "markRings", "()V"⟩
abbrev cX7_markRing : ByteArray := prog_9_method_5_code
def yX7_markRing : MethodName := ⟨RX7, "markRing", "(I)V"⟩
abbrev cX7_movesMade : ByteArray := prog_9_method_6_code
def yX7_movesMade : MethodName := ⟨RX7, "movesMade", "()I"⟩
abbrev cX7_ringCount : ByteArray := prog_9_method_7_code
def yX7_ringCount : MethodName := ⟨RX7, "ringCount", "()I"⟩
abbrev cX7_cellsOf : ByteArray := prog_9_method_8_code
def yX7_cellsOf : MethodName := ⟨RX7, "cellsOf", "(II)I"⟩
abbrev cX7_commonHue : ByteArray := prog_9_method_9_code
def yX7_commonHue : MethodName := ⟨RX7, "commonHue", "(I)I"⟩
abbrev cX7_hueCount : ByteArray := prog_9_method_10_code
def yX7_hueCount : MethodName := ⟨RX7, "hueCount", "(I)I"⟩
abbrev cX7_onlyHue : ByteArray := prog_9_method_11_code
def yX7_onlyHue : MethodName := ⟨RX7, "onlyHue", "(I)I"⟩
abbrev cX7_tornCount : ByteArray := prog_9_method_12_code
def yX7_tornCount : MethodName := ⟨RX7, "tornCount", "()I"⟩
abbrev cX7_paintRings : ByteArray := prog_9_method_13_code
def yX7_paintRings : MethodName := ⟨RX7, "paintRings", "(Z)I"⟩
abbrev cX7_paintRing : ByteArray := prog_9_method_14_code
def yX7_paintRing : MethodName := ⟨RX7, "paintRing", "(IIZ)I"⟩
def RX8 : String := "PaperRepeats"
def TX8 : u_T := fun k => match k with
  | 0 => ("PaperRepeats", "grid", "LPaperRepeats$Grid;", true)
  | 1 => ("PaperRepeats", "patch", "LPaperRepeats$Patch;", true)
  | 2 => ("PaperRepeats", "kinds", "LPaperRepeats$Kinds;", true)
  | 3 => ("PaperRepeats", "paints", "LPaperRepeats$Paints;", true)
  | 4 => ("PaperRepeats", "told", "LPaperRepeats$Told;", true)
  | 5 => ("PaperRepeats", "census", "LPaperRepeats$Census;", true)
  | 6 => ("PaperRepeats", "likes", "LPaperRepeats$Likes;", true)
  | _ => ("PaperRepeats", "pieces", "LPaperRepeats$Pieces;", true)
def tyX8 : Nat → FieldType := fun k => match k with
  | 0 => .object "PaperRepeats$Grid"
  | 1 => .object "PaperRepeats$Patch"
  | 2 => .object "PaperRepeats$Kinds"
  | 3 => .object "PaperRepeats$Paints"
  | 4 => .object "PaperRepeats$Told"
  | 5 => .object "PaperRepeats$Census"
  | 6 => .object "PaperRepeats$Likes"
  | _ => .object "PaperRepeats$Pieces"
abbrev wsX80 : List Cond := u_ws RX8 TX8 8
theorem nmX8 : ∀ a, a < 8 → ∀ b, b < 8 → a ≠ b → (TX8 a).2.1 ≠ (TX8 b).2.1 := by decide +kernel
theorem tyX8_ok : ∀ k, k < 8 → parseFieldDescriptor (TX8 k).2.2.1 = some (tyX8 k) := by decide +kernel
abbrev cX8_init : ByteArray := prog_1_method_1_code
def yX8_init : MethodName := ⟨RX8, "<init>", "()V"⟩
abbrev cX8_patch : ByteArray := prog_1_method_2_code
def yX8_patch : MethodName := ⟨RX8, "patch", "(II)I"⟩
abbrev cX8_colours : ByteArray := prog_1_method_3_code
def yX8_colours : MethodName := ⟨RX8, "colours", "(I)I"⟩
abbrev cX8_dye : ByteArray := prog_1_method_4_code
def yX8_dye : MethodName := ⟨RX8, "dye", "(II)I"⟩
abbrev cX8_dyes : ByteArray := prog_1_method_5_code
def yX8_dyes : MethodName := ⟨RX8, "dyes", "(III)I"⟩
abbrev cX8_at : ByteArray := prog_1_method_6_code
def yX8_at : MethodName := ⟨RX8, "at", "(I)I"⟩
abbrev cX8_moves : ByteArray := prog_1_method_7_code
def yX8_moves : MethodName := ⟨RX8, "moves", "()I"⟩
abbrev cX8_lead : ByteArray := prog_1_method_8_code
def yX8_lead : MethodName := ⟨RX8, "lead", "(II)I"⟩
abbrev cX8_behind : ByteArray := prog_1_method_9_code
def yX8_behind : MethodName := ⟨RX8, "behind", "(II)I"⟩
abbrev cX8_back : ByteArray := prog_1_method_10_code
def yX8_back : MethodName := ⟨RX8, "back", "(I)I"⟩
abbrev cX8_order : ByteArray := prog_1_method_11_code
def yX8_order : MethodName := ⟨RX8, "order", "(I)I"⟩
abbrev cX8_keeps : ByteArray := prog_1_method_12_code
def yX8_keeps : MethodName := ⟨RX8, "keeps", "(I)I"⟩
abbrev cX8_kept : ByteArray := prog_1_method_13_code
def yX8_kept : MethodName := ⟨RX8, "kept", "(I)I"⟩
abbrev cX8_keeper : ByteArray := prog_1_method_14_code
def yX8_keeper : MethodName := ⟨RX8, "keeper", "(I)I"⟩
abbrev cX8_go : ByteArray := prog_1_method_15_code
def yX8_go : MethodName := ⟨RX8, "go", "(I)I"⟩
abbrev cX8_least : ByteArray := prog_1_method_16_code
def yX8_least : MethodName := ⟨RX8, "least", "()I"⟩
abbrev cX8_mirrored : ByteArray := prog_1_method_17_code
def yX8_mirrored : MethodName := ⟨RX8, "mirrored", "(I)I"⟩
abbrev cX8_mirror : ByteArray := prog_1_method_18_code
def yX8_mirror : MethodName := ⟨RX8, "mirror", "(I)I"⟩
abbrev cX8_kind : ByteArray := prog_1_method_19_code
def yX8_kind : MethodName := ⟨RX8, "kind", "()I"⟩
abbrev cX8_paints : ByteArray := prog_1_method_20_code
def yX8_paints : MethodName := ⟨RX8, "paints", "()I"⟩
abbrev cX8_paint : ByteArray := prog_1_method_21_code
def yX8_paint : MethodName := ⟨RX8, "paint", "(II)I"⟩
abbrev cX8_keepsBy : ByteArray := prog_1_method_22_code
def yX8_keepsBy : MethodName := ⟨RX8, "keepsBy", "(II)I"⟩
abbrev cX8_by : ByteArray := prog_1_method_23_code
def yX8_by : MethodName := ⟨RX8, "by", "(I)I"⟩
abbrev cX8_swaps : ByteArray := prog_1_method_24_code
def yX8_swaps : MethodName := ⟨RX8, "swaps", "()I"⟩
abbrev cX8_tell : ByteArray := prog_1_method_25_code
def yX8_tell : MethodName := ⟨RX8, "tell", "(I)I"⟩
abbrev cX8_untell : ByteArray := prog_1_method_26_code
def yX8_untell : MethodName := ⟨RX8, "untell", "()I"⟩
abbrev cX8_together : ByteArray := prog_1_method_27_code
def yX8_together : MethodName := ⟨RX8, "together", "()I"⟩
abbrev cX8_rings : ByteArray := prog_1_method_28_code
def yX8_rings : MethodName := ⟨RX8, "rings", "()I"⟩
abbrev cX8_ring : ByteArray := prog_1_method_29_code
def yX8_ring : MethodName := ⟨RX8, "ring", "(I)I"⟩
abbrev cX8_mend : ByteArray := prog_1_method_30_code
def yX8_mend : MethodName := ⟨RX8, "mend", "(Z)I"⟩
abbrev cX8_sure : ByteArray := prog_1_method_31_code
def yX8_sure : MethodName := ⟨RX8, "sure", "(I)I"⟩
abbrev cX8_torn : ByteArray := prog_1_method_32_code
def yX8_torn : MethodName := ⟨RX8, "torn", "()I"⟩
abbrev cX8_papers : ByteArray := prog_1_method_33_code
def yX8_papers : MethodName := ⟨RX8, "papers", "()J"⟩
abbrev cX8_upTo : ByteArray := prog_1_method_34_code
def yX8_upTo : MethodName := ⟨RX8, "upTo", "()J"⟩
abbrev cX8_like : ByteArray := prog_1_method_35_code
def yX8_like : MethodName := ⟨RX8, "like", "()I"⟩
abbrev cX8_first : ByteArray := prog_1_method_36_code
def yX8_first : MethodName := ⟨RX8, "first", "(I)I"⟩
abbrev cX8_toFirst : ByteArray := prog_1_method_37_code
def yX8_toFirst : MethodName := ⟨RX8, "toFirst", "()I"⟩
abbrev cX8_pieces : ByteArray := prog_1_method_38_code
def yX8_pieces : MethodName := ⟨RX8, "pieces", "(Z)I"⟩
abbrev cX8_piece : ByteArray := prog_1_method_39_code
def yX8_piece : MethodName := ⟨RX8, "piece", "(I)I"⟩
abbrev cX8_count : ByteArray := prog_1_method_40_code
def yX8_count : MethodName := ⟨RX8, "count", "(I)I"⟩
abbrev cX8_oneIf : ByteArray := prog_1_method_41_code
def yX8_oneIf : MethodName := ⟨RX8, "oneIf", "(Z)I"⟩
def RX9 : String := "PaperRepeatsModel"
def TX9 : u_T := fun k => match k with
  | 0 => ("PaperRepeatsModel", "thrown", "I", false)
  | 1 => ("PaperRepeatsModel", "w", "I", false)
  | 2 => ("PaperRepeatsModel", "h", "I", false)
  | 3 => ("PaperRepeatsModel", "colours", "I", false)
  | 4 => ("PaperRepeatsModel", "dye", "[I", true)
  | 5 => ("PaperRepeatsModel", "next", "[I", true)
  | 6 => ("PaperRepeatsModel", "best", "[I", true)
  | 7 => ("PaperRepeatsModel", "ring", "[I", true)
  | 8 => ("PaperRepeatsModel", "many", "[I", true)
  | 9 => ("PaperRepeatsModel", "told", "[I", true)
  | 10 => ("PaperRepeatsModel", "tolds", "I", false)
  | 11 => ("PaperRepeatsModel", "isMade", "[Z", true)
  | 12 => ("PaperRepeatsModel", "queue", "[I", true)
  | 13 => ("PaperRepeatsModel", "isShift", "[Z", true)
  | 14 => ("PaperRepeatsModel", "paint", "[I", true)
  | 15 => ("PaperRepeatsModel", "piece", "[I", true)
  | 16 => ("PaperRepeatsModel", "overX", "[I", true)
  | 17 => ("PaperRepeatsModel", "overY", "[I", true)
  | 18 => ("PaperRepeatsModel", "runs", "[Z", true)
  | 19 => ("PaperRepeatsModel", "walk", "[I", true)
  | 20 => ("PaperRepeatsModel", "pieceMany", "I", false)
  | _ => ("PaperRepeatsModel", "images", "[I", true)
def tyX9 : Nat → FieldType := fun k => match k with
  | 0 => .int
  | 1 => .int
  | 2 => .int
  | 3 => .int
  | 4 => .array .int
  | 5 => .array .int
  | 6 => .array .int
  | 7 => .array .int
  | 8 => .array .int
  | 9 => .array .int
  | 10 => .int
  | 11 => .array .boolean
  | 12 => .array .int
  | 13 => .array .boolean
  | 14 => .array .int
  | 15 => .array .int
  | 16 => .array .int
  | 17 => .array .int
  | 18 => .array .boolean
  | 19 => .array .int
  | 20 => .int
  | _ => .array .int
abbrev wsX90 : List Cond := u_ws RX9 TX9 22
theorem nmX9 : ∀ a, a < 22 → ∀ b, b < 22 → a ≠ b → (TX9 a).2.1 ≠ (TX9 b).2.1 := by decide +kernel
theorem tyX9_ok : ∀ k, k < 22 → parseFieldDescriptor (TX9 k).2.2.1 = some (tyX9 k) := by decide +kernel
abbrev cX9_init : ByteArray := prog_11_method_1_code
def yX9_init : MethodName := ⟨RX9, "<init>", "()V"⟩
abbrev cX9_in : ByteArray := prog_11_method_3_code
def yX9_in : MethodName := ⟨RX9, "in", "(JJJ)Z"⟩
abbrev cX9_cells : ByteArray := prog_11_method_4_code
def yX9_cells : MethodName := ⟨RX9, "cells", "()I"⟩
abbrev cX9_noCell : ByteArray := prog_11_method_5_code
def yX9_noCell : MethodName := ⟨RX9, "noCell", "(I)Z"⟩
abbrev cX9_isTurn : ByteArray := prog_11_method_6_code
def yX9_isTurn : MethodName := ⟨RX9, "isTurn", "(I)Z"⟩
abbrev cX9_noMove : ByteArray := prog_11_method_7_code
def yX9_noMove : MethodName := ⟨RX9, "noMove", "(I)Z"⟩
abbrev cX9_rest : ByteArray := prog_11_method_8_code
def yX9_rest : MethodName := ⟨RX9, "rest", "(II)I"⟩
abbrev cX9_turnedX : ByteArray := prog_11_method_9_code
def yX9_turnedX : MethodName := ⟨RX9, "turnedX", "(III)I"⟩
abbrev cX9_turnedY : ByteArray := prog_11_method_10_code
def yX9_turnedY : MethodName := ⟨RX9, "turnedY", "(III)I"⟩
abbrev cX9_ledTo : ByteArray := prog_11_method_11_code
def yX9_ledTo : MethodName := ⟨RX9, "ledTo", "(II)I"⟩
abbrev cX9_patch : ByteArray := prog_11_method_12_code
def yX9_patch : MethodName := ⟨RX9, "patch", "(II)I"⟩
abbrev cX9_colours : ByteArray := prog_11_method_13_code
def yX9_colours : MethodName := ⟨RX9, "colours", "(I)I"⟩
abbrev cX9_isColour : ByteArray := prog_11_method_14_code
def yX9_isColour : MethodName := ⟨RX9, "isColour", "(I)Z"⟩
abbrev cX9_dye : ByteArray := prog_11_method_15_code
def yX9_dye : MethodName := ⟨RX9, "dye", "(II)I"⟩
abbrev cX9_dyes : ByteArray := prog_11_method_16_code
def yX9_dyes : MethodName := ⟨RX9, "dyes", "(III)I"⟩
abbrev cX9_at : ByteArray := prog_11_method_17_code
def yX9_at : MethodName := ⟨RX9, "at", "(I)I"⟩
abbrev cX9_moves : ByteArray := prog_11_method_18_code
def yX9_moves : MethodName := ⟨RX9, "moves", "()I"⟩
abbrev cX9_lead : ByteArray := prog_11_method_19_code
def yX9_lead : MethodName := ⟨RX9, "lead", "(II)I"⟩
abbrev cX9_turnOf : ByteArray := prog_11_method_20_code
def yX9_turnOf : MethodName := ⟨RX9, "turnOf", "(II)I"⟩
abbrev cX9_two : ByteArray := prog_11_method_21_code
def yX9_two : MethodName := ⟨RX9, "two", "(II)I"⟩
abbrev cX9_behind : ByteArray := prog_11_method_22_code
def yX9_behind : MethodName := ⟨RX9, "behind", "(II)I"⟩
abbrev cX9_back : ByteArray := prog_11_method_23_code
def yX9_back : MethodName := ⟨RX9, "back", "(I)I"⟩
abbrev cX9_order : ByteArray := prog_11_method_24_code
def yX9_order : MethodName := ⟨RX9, "order", "(I)I"⟩
abbrev cX9_keepsIt : ByteArray := prog_11_method_25_code
def yX9_keepsIt : MethodName := ⟨RX9, "keepsIt", "(I)Z"⟩
abbrev cX9_keeps : ByteArray := prog_11_method_26_code
def yX9_keeps : MethodName := ⟨RX9, "keeps", "(I)I"⟩
abbrev cX9_kept : ByteArray := prog_11_method_27_code
def yX9_kept : MethodName := ⟨RX9, "kept", "(I)I"⟩
abbrev cX9_keeper : ByteArray := prog_11_method_28_code
def yX9_keeper : MethodName := ⟨RX9, "keeper", "(I)I"⟩
abbrev cX9_go : ByteArray := prog_11_method_29_code
def yX9_go : MethodName := ⟨RX9, "go", "(I)I"⟩
abbrev cX9_layShifts : ByteArray := prog_11_method_30_code
def yX9_layShifts : MethodName := ⟨RX9, "layShifts", "()I"⟩
abbrev cX9_least : ByteArray := prog_11_method_31_code
def yX9_least : MethodName := ⟨RX9, "least", "()I"⟩
abbrev cX9_isMirror : ByteArray := prog_11_method_32_code
def yX9_isMirror : MethodName := ⟨RX9, "isMirror", "(I)Z"⟩
abbrev cX9_isMirrored : ByteArray := prog_11_method_33_code
def yX9_isMirrored : MethodName := ⟨RX9, "isMirrored", "(I)Z"⟩
abbrev cX9_mirrored : ByteArray := prog_11_method_34_code
def yX9_mirrored : MethodName := ⟨RX9, "mirrored", "(I)I"⟩
abbrev cX9_mirror : ByteArray := prog_11_method_35_code
def yX9_mirror : MethodName := ⟨RX9, "mirror", "(I)I"⟩
abbrev cX9_fits : ByteArray := prog_11_method_36_code
def yX9_fits : MethodName := ⟨RX9, "fits", "(I)Z"⟩
abbrev cX9_isBehindShift : ByteArray := prog_11_method_37_code
def yX9_isBehindShift : MethodName := ⟨RX9, "isBehindShift", "(I)Z"⟩
abbrev cX9_allBehind : ByteArray := prog_11_method_38_code
def yX9_allBehind : MethodName := ⟨RX9, "allBehind", "(I)Z"⟩
abbrev cX9_kind : ByteArray := prog_11_method_39_code
def yX9_kind : MethodName := ⟨RX9, "kind", "()I"⟩
abbrev cX9_paintMany : ByteArray := prog_11_method_40_code
def yX9_paintMany : MethodName := ⟨RX9, "paintMany", "()I"⟩
abbrev cX9_paints : ByteArray := prog_11_method_41_code
def yX9_paints : MethodName := ⟨RX9, "paints", "()I"⟩
abbrev cX9_lay : ByteArray := prog_11_method_42_code
def yX9_lay : MethodName := ⟨RX9, "lay", "(I)V"⟩
abbrev cX9_noPaint : ByteArray := prog_11_method_43_code
def yX9_noPaint : MethodName := ⟨RX9, "noPaint", "(I)Z"⟩
abbrev cX9_paint : ByteArray := prog_11_method_44_code
def yX9_paint : MethodName := ⟨RX9, "paint", "(II)I"⟩
abbrev cX9_keepsPainted : ByteArray := prog_11_method_45_code
def yX9_keepsPainted : MethodName := ⟨RX9, "keepsPainted", "(I)Z"⟩
abbrev cX9_keepsBy : ByteArray := prog_11_method_46_code
def yX9_keepsBy : MethodName := ⟨RX9, "keepsBy", "(II)I"⟩
abbrev cX9_leastPaint : ByteArray := prog_11_method_47_code
def yX9_leastPaint : MethodName := ⟨RX9, "leastPaint", "(I)I"⟩
abbrev cX9_by : ByteArray := prog_11_method_48_code
def yX9_by : MethodName := ⟨RX9, "by", "(I)I"⟩
abbrev cX9_swaps : ByteArray := prog_11_method_49_code
def yX9_swaps : MethodName := ⟨RX9, "swaps", "()I"⟩
abbrev cX9_tell : ByteArray := prog_11_method_50_code
def yX9_tell : MethodName := ⟨RX9, "tell", "(I)I"⟩
abbrev cX9_untell : ByteArray := prog_11_method_51_code
def yX9_untell : MethodName := ⟨RX9, "untell", "()I"⟩
abbrev cX9_together : ByteArray := prog_11_method_52_code
def yX9_together : MethodName := ⟨RX9, "together", "()I"⟩
abbrev cX9_layRings : ByteArray := prog_11_method_53_code
def yX9_layRings : MethodName := ⟨RX9, "layRings", "(I)I"⟩
abbrev cX9_rings : ByteArray := prog_11_method_54_code
def yX9_rings : MethodName := ⟨RX9, "rings", "()I"⟩
abbrev cX9_ring : ByteArray := prog_11_method_55_code
def yX9_ring : MethodName := ⟨RX9, "ring", "(I)I"⟩
abbrev cX9_reckon : ByteArray := prog_11_method_56_code
def yX9_reckon : MethodName := ⟨RX9, "reckon", "(I)I"⟩
abbrev cX9_mostOf : ByteArray := prog_11_method_57_code
def yX9_mostOf : MethodName := ⟨RX9, "mostOf", "(I)I"⟩
abbrev cX9_mend : ByteArray := prog_11_method_58_code
def yX9_mend : MethodName := ⟨RX9, "mend", "(Z)I"⟩
abbrev cX9_sure : ByteArray := prog_11_method_59_code
def yX9_sure : MethodName := ⟨RX9, "sure", "(I)I"⟩
abbrev cX9_torn : ByteArray := prog_11_method_60_code
def yX9_torn : MethodName := ⟨RX9, "torn", "()I"⟩
abbrev cX9_power : ByteArray := prog_11_method_61_code
def yX9_power : MethodName := ⟨RX9, "power", "(I)J"⟩
abbrev cX9_papers : ByteArray := prog_11_method_62_code
def yX9_papers : MethodName := ⟨RX9, "papers", "()J"⟩
abbrev cX9_upTo : ByteArray := prog_11_method_63_code
def yX9_upTo : MethodName := ⟨RX9, "upTo", "()J"⟩
abbrev cX9_like : ByteArray := prog_11_method_64_code
def yX9_like : MethodName := ⟨RX9, "like", "()I"⟩
abbrev cX9_layFirst : ByteArray := prog_11_method_65_code
def yX9_layFirst : MethodName := ⟨RX9, "layFirst", "()I"⟩
abbrev cX9_first : ByteArray := prog_11_method_66_code
def yX9_first : MethodName := ⟨RX9, "first", "(I)I"⟩
abbrev cX9_toFirst : ByteArray := prog_11_method_67_code
def yX9_toFirst : MethodName := ⟨RX9, "toFirst", "()I"⟩
abbrev cX9_layPieces : ByteArray := prog_11_method_68_code
def yX9_layPieces : MethodName := ⟨RX9, "layPieces", "()V"⟩
abbrev cX9_pieces : ByteArray := prog_11_method_69_code
def yX9_pieces : MethodName := ⟨RX9, "pieces", "(Z)I"⟩
abbrev cX9_piece : ByteArray := prog_11_method_70_code
def yX9_piece : MethodName := ⟨RX9, "piece", "(I)I"⟩
abbrev cX9_count : ByteArray := prog_11_method_71_code
def yX9_count : MethodName := ⟨RX9, "count", "(I)I"⟩
def RJ6 : String := "java/lang/Integer"
def TJ6 : u_T := fun k => match k with
  | _ => ("", "", "", false)
def tyJ6 : Nat → FieldType := fun k => match k with
  | _ => .int
abbrev wsJ60 : List Cond := u_ws RJ6 TJ6 0
theorem nmJ6 : ∀ a, a < 0 → ∀ b, b < 0 → a ≠ b → (TJ6 a).2.1 ≠ (TJ6 b).2.1 := by decide +kernel
theorem tyJ6_ok : ∀ k, k < 0 → parseFieldDescriptor (TJ6 k).2.2.1 = some (tyJ6 k) := by decide +kernel
abbrev cJ6_bitCount_0f7a4 : ByteArray := prog_12_method_49_code
def yJ6_bitCount_0f7a4 : MethodName := ⟨RJ6, "bitCount", "(I)I"⟩
abbrev zm_classes : List vw_C := [(RX0, TX0, 2), (RX1, TX1, 3), (RX2, TX2, 2), (RX3, TX3, 2), (RX4, TX4, 3), (RX5, TX5, 4), (RX6, TX6, 8), (RX7, TX7, 7), (RX8, TX8, 8), (RX9, TX9, 22)]
end
section
/-! THE MINI MACHINE. A world of 38 cells of a fixed shape: only numbers change. mem k j: the number in slot j of cell k. References are places in the shape. -/
abbrev zm_Mem : Type := Nat → Nat → Int32
abbrev zm_Post : Type := Int32 → Int64 → zm_Mem → Prop
abbrev zm_ShE : Type := (Nat × List (Option Nat)) ⊕ (Bool × Nat)
/-- the shape: an object (its class's number, a reference to a cell or a number a field), or an array (of booleans?, length) -/
def zm_sh : List zm_ShE := [
  .inl (8, [some 1, some 2, some 5, some 6, some 8, some 13, some 15, some 16]),
  .inl (1, [none, none, none]),
  .inl (5, [some 1, some 3, some 4, none]), .inr (false, 36), .inr (false, 36),
  .inl (2, [some 1, some 2]),
  .inl (4, [some 1, some 2, some 7]), .inr (false, 4),
  .inl (7, [some 1, some 2, some 9, some 10, some 11, some 12, none]), .inr (false, 4), .inr (false, 36), .inr (false, 288), .inr (true, 288),
  .inl (0, [some 1, some 14]), .inr (true, 36),
  .inl (3, [some 1, some 2]),
  .inl (6, [some 1, some 2, some 17, some 18, some 19, some 20, none, none]), .inr (false, 36), .inr (true, 36), .inr (false, 36), .inr (false, 36),
  .inl (9, [none, none, none, none, some 22, some 23, some 24, some 25, some 26, some 27, none, some 28, some 29, some 30, some 31, some 32, some 33, some 34, some 35, some 36, none, some 37]),
  .inr (false, 36), .inr (false, 36), .inr (false, 36), .inr (false, 36), .inr (false, 4), .inr (false, 4), .inr (true, 288), .inr (false, 288), .inr (true, 36), .inr (false, 4), .inr (false, 36), .inr (false, 36), .inr (false, 36), .inr (true, 36), .inr (false, 36), .inr (false, 10368)]
def zm_fv (ad : Nat → Nat) (f : Nat → Int32) (j : Nat) (r : Option Nat) : Value := match r with
  | some k => .ref (ad k)
  | none => .int (f j)
def zm_cell (c1 c2 : ClassId) (ad : Nat → Nat) (f : Nat → Int32) (e : zm_ShE) : va_E := match e with
  | .inl o => .inr (o.1, o.2.mapIdx (zm_fv ad f))
  | .inr a => .inl (if a.1 = true then c2 else c1, a.2, .inl f)
def zm_pic (c1 c2 : ClassId) (ad : Nat → Nat) (mem : zm_Mem) : va_W := zm_sh.mapIdx (fun k e => (ad k, zm_cell c1 c2 ad (mem k) e))
/-- one number of the world is another -/
def zm_st (mem : zm_Mem) (k i : Nat) (x : Int32) : zm_Mem := fun q j => if q = k ∧ j = i then x else mem q j
theorem zm_at {c1 c2 : ClassId} {ad : Nat → Nat} {mem : zm_Mem} {k : Nat} {e : zm_ShE} (h : zm_sh[k]? = some e) : (zm_pic c1 c2 ad mem)[k]? = some (ad k, zm_cell c1 c2 ad (mem k) e) := by
  simp [zm_pic, List.getElem?_mapIdx, h]
theorem zm_set {c1 c2 : ClassId} {ad : Nat → Nat} {mem mem' : zm_Mem} {k : Nat} {e : zm_ShE} (h : zm_sh[k]? = some e) (ho : ∀ q, q ≠ k → mem' q = mem q) : (zm_pic c1 c2 ad mem).set k (ad k, zm_cell c1 c2 ad (mem' k) e) = zm_pic c1 c2 ad mem' := by
  apply List.ext_getElem?
  intro i
  have hl : k < zm_sh.length := (List.getElem?_eq_some_iff.mp h).1
  by_cases hi : i = k
  · subst hi
    rw [List.getElem?_set_self (by simpa [zm_pic] using hl), zm_at h]
  · rw [List.getElem?_set_ne (Ne.symm hi)]
    simp [zm_pic, List.getElem?_mapIdx, ho i hi]
theorem zm_dom {c1 c2 : ClassId} {ad : Nat → Nat} {mem mem' : zm_Mem} {A : Nat → Prop} (h : va_D A (zm_pic c1 c2 ad mem)) : va_D A (zm_pic c1 c2 ad mem') := by
  have key : ∀ (k : Nat) (q : Nat × va_E), (zm_pic c1 c2 ad mem')[k]? = some q → ∃ q' : Nat × va_E, (zm_pic c1 c2 ad mem)[k]? = some q' ∧ q'.1 = q.1 := by
    intro k q hq
    simp only [zm_pic, List.getElem?_mapIdx] at hq ⊢
    cases he : zm_sh[k]? with
    | none => rw [he] at hq; cases hq
    | some e => rw [he] at hq; cases hq; exact ⟨_, rfl, rfl⟩
  refine ⟨fun i j p q hp hq e => ?_, fun k q hq => ?_⟩
  · obtain ⟨p', h1, h2⟩ := key i p hp
    obtain ⟨q', h3, h4⟩ := key j q hq
    exact h.1 i j p' q' h1 h3 (by rw [h2, h4, e])
  · obtain ⟨q', h1, h2⟩ := key k q hq
    rw [← h2]
    exact h.2 k q' h1
theorem zm_Asame {c1 c2 : ClassId} {ad : Nat → Nat} {mem mem' : zm_Mem} {sz : Nat} {q : Nat} (h : va_A (zm_pic c1 c2 ad mem') sz q) : va_A (zm_pic c1 c2 ad mem) sz q := by
  rcases h with ⟨k, e, h⟩ | h
  · refine Or.inl ?_
    simp only [zm_pic, List.getElem?_mapIdx] at h ⊢
    cases he : zm_sh[k]? with
    | none => rw [he] at h; cases h
    | some e' =>
      rw [he] at h
      have h2 := Option.some.inj h
      refine ⟨k, zm_cell c1 c2 ad (mem k) e', ?_⟩
      rw [he]
      show some _ = some _
      rw [← (Prod.mk.inj h2).1]
  · exact Or.inr h
/-- the words that ride with every method: those of the tables that stay -/
def zm_tb : List Cond := lw_tbl.filter goodWord
theorem zm_tb_in {w : Cond} (i : Nat) (h : lw_tbl[i]? = some w) (hg : goodWord w = true) : w ∈ zm_tb := List.mem_filter.mpr ⟨List.mem_of_getElem? h, hg⟩
theorem zm_tb_good {L : List Cond} (h : ∀ w ∈ L, w ∈ zm_tb) : GoodIn zm_tb L := fun w hw => ⟨h w hw, good_of_word (List.mem_filter.mp (h w hw)).2⟩
def zm_tys (c1 c2 : ClassId) : List (ClassId × FieldType) := [(c1, .int), (c2, .boolean)]
def zm_NW : List (String × Nat × String × String × String × String) := [("PaperRepeats$Kinds", 28, "PaperRepeats$Grid", "width", "I", "PaperRepeats"), ("PaperRepeats$Pieces", 36, "PaperRepeats$Grid", "cells", "I", "PaperRepeats"), ("PaperRepeats", 79, "PaperRepeats$Grid", "cells", "I", "PaperRepeats"), ("PaperRepeats$Told", 40, "PaperRepeats$Grid", "cells", "I", "PaperRepeats"), ("PaperRepeats$Census", 40, "PaperRepeats$Grid", "cells", "I", "PaperRepeats"), ("PaperRepeats$Kinds", 40, "PaperRepeats$Grid", "cells", "I", "PaperRepeats"), ("PaperRepeats$Paints", 36, "PaperRepeats$Grid", "cells", "I", "PaperRepeats"), ("PaperRepeats$Patch", 30, "PaperRepeats$Grid", "cells", "I", "PaperRepeats"), ("PaperRepeats$Likes", 54, "PaperRepeats$Grid", "cells", "I", "PaperRepeats"), ("PaperRepeats$Pieces", 42, "PaperRepeats$Patch", "hueAt", "[I", "PaperRepeats"), ("PaperRepeats$Likes", 28, "PaperRepeats$Patch", "hueAt", "[I", "PaperRepeats"), ("PaperRepeats", 97, "PaperRepeats$Patch", "hueAt", "[I", "PaperRepeats"), ("PaperRepeats$Paints", 41, "PaperRepeats$Patch", "hueAt", "[I", "PaperRepeats"), ("PaperRepeats$Told", 56, "PaperRepeats$Patch", "hueAt", "[I", "PaperRepeats"), ("PaperRepeats$Paints", 23, "PaperRepeats$Patch", "hues", "I", "PaperRepeats"), ("PaperRepeats", 83, "PaperRepeats$Patch", "hues", "I", "PaperRepeats"), ("PaperRepeats$Told", 61, "PaperRepeats$Patch", "hues", "I", "PaperRepeats"), ("PaperRepeats", 196, "PaperRepeats$Told", "ringOf", "[I", "PaperRepeats"), ("PaperRepeats", 184, "PaperRepeats$Told", "size", "I", "PaperRepeats")]
def zm_rows : Nat → Int32 := fun j => ([0, 1, 2, 3, 0, 1, 3, 2, 0, 2, 1, 3, 0, 2, 3, 1, 0, 3, 1, 2, 0, 3, 2, 1, 1, 0, 2, 3, 1, 0, 3, 2, 1, 2, 0, 3, 1, 2, 3, 0, 1, 3, 0, 2, 1, 3, 2, 0, 2, 0, 1, 3, 2, 0, 3, 1, 2, 1, 0, 3, 2, 1, 3, 0, 2, 3, 0, 1, 2, 3, 1, 0, 3, 0, 1, 2, 3, 0, 2, 1, 3, 1, 0, 2, 3, 1, 2, 0, 3, 2, 0, 1, 3, 2, 1, 0] : List Int32).getD j 0
def zm_env (A : Nat → Prop) (U : State) (H : Heap) : Prop := (∀ t ∈ zm_NW, va_Nw (.fieldLinkNest t.1 t.2.1 t.2.2.1 t.2.2.2.1 t.2.2.2.2.1 t.2.2.2.2.2) U) ∧ ∃ r : Nat, va_Z RX4 "ROWS" "[I" (.ref r) A U H ∧ va_X r 96 zm_rows U H ∧ ¬ A r ∧ r < H.size
theorem zm_env.go {A B : Nat → Prop} {s U : State} {H0 H : Heap} {locs : List Loc} (h : zm_env A s H0) (hW : s.WarmedH U.vm) (hS : va_S A H0 H locs) (hB : ∀ q, B q → A q) : zm_env B U H := by
  obtain ⟨h1, r, h2, h3, h4, h5⟩ := h
  refine ⟨fun t ht => va_Nw.warmF hW (h1 t ht), r, ?_, ?_, fun z => h4 (hB r z), Nat.lt_of_lt_of_le h5 hS.1⟩
  · exact ((h2.kept (H1 := H) (fun a ha hn => hS.2.1 a ha hn)).narrow hB).moved hW.alike
  · exact (h3.kept (hS.2.1 r h5 h4)).moved hW.alike
abbrev zm_Sig : Type := MethodName × ByteArray × Nat × Option FieldType × Nat × Nat
def zm_ws (g : zm_Sig) : List Cond := .code g.1 g.2.1 g.2.2.1 g.2.2.2.1 :: zm_tb
def zm_rm (g : zm_Sig) : Room := { frames := g.2.2.2.2.1, cells := 0, slots := 0, locals := g.2.2.2.2.2 }
def zm_v (ad : Nat → Nat) (v : Value) : Value := match v with
  | .ref k => .ref (ad k)
  | w => w
theorem zm_v_cat (ad : Nat → Nat) (v : Value) : (zm_v ad v).category = v.category := by cases v <;> rfl
def zm_B (D : va_G) (c1 c2 : ClassId) (ad : Nat → Nat) (A : Nat → Prop) (mem : zm_Mem) (t : State) : Prop := va_P D zm_classes (zm_pic c1 c2 ad mem) t.heap ∧ va_K D zm_classes (zm_tys c1 c2) t ∧ va_D A (zm_pic c1 c2 ad mem)
def zm_Q (ret : Option FieldType) (post : zm_Post) (B : zm_Mem → State → Prop) (A : Nat → Prop) : Array Value → State → Outcome → State → Prop := match ret with
  | none => va_Qv (fun u => post 0 0 u) B A
  | some .long => va_Ql (fun r u => post 0 r u) B A
  | some _ => va_Qi (fun r u => post r 0 u) B A
def zm_Pc (D : va_G) (c1 c2 : ClassId) (ad : Nat → Nat) (sz : Nat) (as : List Value) (mem : zm_Mem) : Array Value → State → Prop := fun v U => v = (as.map (zm_v ad)).toArray ∧ U.heap.size = sz ∧ va_P D zm_classes (zm_pic c1 c2 ad mem) U.heap ∧ va_K D zm_classes (zm_tys c1 c2) U ∧ va_D (fun _ => True) (zm_pic c1 c2 ad mem) ∧ zm_env (va_A (zm_pic c1 c2 ad mem) sz) U U.heap
/-- THE CONTRACT of a method: called so, over this world, it comes back, and what it answers and leaves is in post -/
def zm_Call (g : zm_Sig) (as : List Value) (mem : zm_Mem) (post : zm_Post) : Prop := ∀ (l : Launch) (D : va_G) (c1 c2 : ClassId) (ad : Nat → Nat) (sz : Nat), Met l g.1 (zm_ws g) (zm_rm g) (zm_Pc D c1 c2 ad sz as mem) (zm_Q g.2.2.2.1 post (zm_B D c1 c2 ad (va_A (zm_pic c1 c2 ad mem) sz)) (va_A (zm_pic c1 c2 ad mem) sz)) 0 0 (va_A (zm_pic c1 c2 ad mem) sz)
/-- what stands still while a method runs -/
def zm_At (g : zm_Sig) (p : Program) (s : State) (m : MethodId) (args : Array Value) (meth : Method) (c : Code) (D : va_G) (c1 c2 : ClassId) (A : Nat → Prop) : Prop :=
  p.tables.exec = Jvm.exec ∧ c.code = g.2.1 ∧ meth.sig.returnType = g.2.2.2.1 ∧ meth.locks = false ∧ c.maxLocals = g.2.2.1 ∧ s.vm.findClass g.1.cls = some m.cls ∧ (∀ w ∈ zm_tb, w.before args s = true) ∧ va_K D zm_classes (zm_tys c1 c2) s ∧ (∀ q : Nat, s.heap.size ≤ q → A q) ∧ zm_env A s s.heap
def zm_Dy (D : va_G) (c1 c2 : ClassId) (ad : Nat → Nat) (A : Nat → Prop) (mem : zm_Mem) (s : State) (H : Heap) (locs : List Loc) : Prop := va_P D zm_classes (zm_pic c1 c2 ad mem) H ∧ va_D A (zm_pic c1 c2 ad mem) ∧ va_S A s.heap H locs
def zm_lv (ad : Nat → Nat) (lv : List (Nat × Value)) : List (Nat × Value) := lv.map (fun q => (q.1, zm_v ad q.2))
/-- at pc of the method g, with these locals, stack and numbers: it comes to its end, and what it answers is in post -/
def zm_Z (g : zm_Sig) (post : zm_Post) (pc : Nat) (lv : List (Nat × Value)) (st : List Value) (mem : zm_Mem) : Prop :=
  ∀ (p : Program) (l : Launch) (e : Env) (s : State) (m : MethodId) (args : Array Value) (below : List Frame) (meth : Method) (c : Code) (D : va_G) (c1 c2 : ClassId) (ad : Nat → Nat) (A : Nat → Prop), zm_At g p s m args meth c D c1 c2 A →
    ∀ (H : Heap) (locs : List Loc) (ls : Array Slot), zm_Dy D c1 c2 ad A mem s H locs → lv_has ls g.2.2.1 (zm_lv ad lv) →
      W p l e (zm_rm g) s m args below meth c H locs 0 0 (MQ below (zm_Q g.2.2.2.1 post (zm_B D c1 c2 ad A) A) args s 0 0 A) (F0 m pc ls (st.map (zm_v ad)))
theorem zm_lv_at {ad : Nat → Nat} {lv : List (Nat × Value)} {ls : Array Slot} {nL : Nat} (hl : lv_has ls nL (zm_lv ad lv)) {j i : Nat} {v : Value} (h : lv[j]? = some (i, v)) : ls[i]? = some (.val (zm_v ad v)) := lv_at hl j (by simp [zm_lv, List.getElem?_map, h])
def zm_put1 (i : Nat) (v : Value) (lv : List (Nat × Value)) : List (Nat × Value) := (i, v) :: lv.filter (fun q => !(q.1 == i) && !(q.1 + 1 == i && q.2.category == 2))
def zm_put2 (i : Nat) (v : Value) (lv : List (Nat × Value)) : List (Nat × Value) := (i, v) :: lv.filter (fun q => !(q.1 == i) && (!(q.1 == i + 1) && !(q.1 + 1 == i && q.2.category == 2)))
theorem zm_put1_map (ad : Nat → Nat) (i : Nat) (v : Value) (lv : List (Nat × Value)) : (i, zm_v ad v) :: (zm_lv ad lv).filter (fun q => !(q.1 == i) && !(q.1 + 1 == i && q.2.category == 2)) = zm_lv ad (zm_put1 i v lv) := by
  simp [zm_lv, zm_put1, List.filter_map, Function.comp_def, zm_v_cat]
theorem zm_put2_map (ad : Nat → Nat) (i : Nat) (v : Value) (lv : List (Nat × Value)) : (i, zm_v ad v) :: (zm_lv ad lv).filter (fun q => !(q.1 == i) && (!(q.1 == i + 1) && !(q.1 + 1 == i && q.2.category == 2))) = zm_lv ad (zm_put2 i v lv) := by
  simp [zm_lv, zm_put2, List.filter_map, Function.comp_def, zm_v_cat]
end
