/-! ===== BEGIN printed: names, fields, word lists, decode rows ===== -/
def RX0 : String := "HopperCourt$Log"
def TX0 : u_T := fun k => match k with
  | 0 => ("HopperCourt$Log", "froms", "[I", true)
  | 1 => ("HopperCourt$Log", "tos", "[I", true)
  | 2 => ("HopperCourt$Log", "turns", "[I", true)
  | 3 => ("HopperCourt$Log", "outs", "[I", true)
  | 4 => ("HopperCourt$Log", "placeds", "[I", true)
  | _ => ("HopperCourt$Log", "size", "I", false)
def tyX0 : Nat → FieldType := fun k => match k with
  | 0 => .array .int
  | 1 => .array .int
  | 2 => .array .int
  | 3 => .array .int
  | 4 => .array .int
  | _ => .int
abbrev wsX00 : List Cond := u_ws RX0 TX0 6
theorem nmX0 : ∀ a, a < 6 → ∀ b, b < 6 → a ≠ b → (TX0 a).2.1 ≠ (TX0 b).2.1 := by decide +kernel
theorem tyX0_ok : ∀ k, k < 6 → parseFieldDescriptor (TX0 k).2.2.1 = some (tyX0 k) := by decide +kernel
abbrev cX0_init : ByteArray := prog_2_method_1_code
def yX0_init : MethodName := ⟨RX0, "<init>", "()V"⟩
abbrev cX0_size : ByteArray := prog_2_method_2_code
def yX0_size : MethodName := ⟨RX0, "size", "()I"⟩
abbrev cX0_clear : ByteArray := prog_2_method_3_code
def yX0_clear : MethodName := ⟨RX0, "clear", "()V"⟩
abbrev cX0_add : ByteArray := prog_2_method_4_code
def yX0_add : MethodName := ⟨RX0, "add", "(IILHopperCourt$Seats;)V"⟩
abbrev cX0_takeBack : ByteArray := prog_2_method_5_code
def yX0_takeBack : MethodName := ⟨RX0, "takeBack", "(LHopperCourt$Marbles;LHopperCourt$Seats;)V"⟩
def RX1 : String := "HopperCourt$Marbles"
def TX1 : u_T := fun k => match k with
  | 0 => ("HopperCourt$Marbles", "star", "LHopperCourt$Star;", true)
  | _ => ("HopperCourt$Marbles", "owners", "[I", true)
def tyX1 : Nat → FieldType := fun k => match k with
  | 0 => .object "HopperCourt$Star"
  | _ => .array .int
abbrev wsX10 : List Cond := u_ws RX1 TX1 2
theorem nmX1 : ∀ a, a < 2 → ∀ b, b < 2 → a ≠ b → (TX1 a).2.1 ≠ (TX1 b).2.1 := by decide +kernel
theorem tyX1_ok : ∀ k, k < 2 → parseFieldDescriptor (TX1 k).2.2.1 = some (tyX1 k) := by decide +kernel
abbrev cX1_init : ByteArray := prog_3_method_1_code
def yX1_init : MethodName := ⟨RX1, "<init>", "(LHopperCourt$Star;)V"⟩
abbrev cX1_setUp : ByteArray := prog_3_method_2_code
def yX1_setUp : MethodName := ⟨RX1, "setUp", "(I)V"⟩
abbrev cX1_owner : ByteArray := prog_3_method_3_code
def yX1_owner : MethodName := ⟨RX1, "owner", "(I)I"⟩
abbrev cX1_isEmpty : ByteArray := prog_3_method_4_code
def yX1_isEmpty : MethodName := ⟨RX1, "isEmpty", "(I)Z"⟩
abbrev cX1_carry : ByteArray := prog_3_method_5_code
def yX1_carry : MethodName := ⟨RX1, "carry", "(II)V"⟩
abbrev cX1_countInCamp : ByteArray := prog_3_method_6_code
def yX1_countInCamp : MethodName := ⟨RX1, "countInCamp", "(II)I"⟩
def RX2 : String := "HopperCourt$Pairing"
def TX2 : u_T := fun k => match k with
  | 0 => ("HopperCourt$Pairing", "star", "LHopperCourt$Star;", true)
  | 1 => ("HopperCourt$Pairing", "marbles", "LHopperCourt$Marbles;", true)
  | 2 => ("HopperCourt$Pairing", "marbleCells", "[I", true)
  | 3 => ("HopperCourt$Pairing", "goalCells", "[I", true)
  | 4 => ("HopperCourt$Pairing", "steps", "[I", true)
  | 5 => ("HopperCourt$Pairing", "firstSums", "[I", true)
  | 6 => ("HopperCourt$Pairing", "lastSums", "[I", true)
  | _ => ("HopperCourt$Pairing", "otherSums", "[I", true)
def tyX2 : Nat → FieldType := fun k => match k with
  | 0 => .object "HopperCourt$Star"
  | 1 => .object "HopperCourt$Marbles"
  | 2 => .array .int
  | 3 => .array .int
  | 4 => .array .int
  | 5 => .array .int
  | 6 => .array .int
  | _ => .array .int
abbrev wsX20 : List Cond := u_ws RX2 TX2 8
theorem nmX2 : ∀ a, a < 8 → ∀ b, b < 8 → a ≠ b → (TX2 a).2.1 ≠ (TX2 b).2.1 := by decide +kernel
theorem tyX2_ok : ∀ k, k < 8 → parseFieldDescriptor (TX2 k).2.2.1 = some (tyX2 k) := by decide +kernel
abbrev cX2_init : ByteArray := prog_4_method_1_code
def yX2_init : MethodName := ⟨RX2, "<init>", "(LHopperCourt$Star;LHopperCourt$Marbles;)V"⟩
abbrev cX2_leastSum : ByteArray := prog_4_method_2_code
def yX2_leastSum : MethodName := ⟨RX2, "leastSum", "(I)I"⟩
abbrev cX2_weighAllButOne : ByteArray := prog_4_method_3_code
def yX2_weighAllButOne : MethodName := ⟨RX2, "weighAllButOne", "(I)V"⟩
abbrev cX2_sumWith : ByteArray := prog_4_method_4_code
def yX2_sumWith : MethodName := ⟨RX2, "sumWith", "(II)I"⟩
abbrev cX2_marbleCell : ByteArray := prog_4_method_5_code
def yX2_marbleCell : MethodName := ⟨RX2, "marbleCell", "(I)I"⟩
abbrev cX2_measure : ByteArray := prog_4_method_6_code
def yX2_measure : MethodName := ⟨RX2, "measure", "(I)V"⟩
abbrev cX2_collect : ByteArray := prog_4_method_7_code
def yX2_collect : MethodName := ⟨RX2, "collect", "(I)V"⟩
abbrev cX2_sumFirst : ByteArray := prog_4_method_8_code
def yX2_sumFirst : MethodName := ⟨RX2, "sumFirst", "()V"⟩
abbrev cX2_sumLast : ByteArray := prog_4_method_9_code
def yX2_sumLast : MethodName := ⟨RX2, "sumLast", "()V"⟩
abbrev cX2_leastWith : ByteArray := prog_4_method_10_code
def yX2_leastWith : MethodName := ⟨RX2, "leastWith", "([III)I"⟩
def RX3 : String := "HopperCourt$Reach"
def TX3 : u_T := fun k => match k with
  | 0 => ("HopperCourt$Reach", "star", "LHopperCourt$Star;", true)
  | 1 => ("HopperCourt$Reach", "marbles", "LHopperCourt$Marbles;", true)
  | 2 => ("HopperCourt$Reach", "hopsToEnd", "[I", true)
  | 3 => ("HopperCourt$Reach", "level", "[I", true)
  | _ => ("HopperCourt$Reach", "queue", "[I", true)
def tyX3 : Nat → FieldType := fun k => match k with
  | 0 => .object "HopperCourt$Star"
  | 1 => .object "HopperCourt$Marbles"
  | 2 => .array .int
  | 3 => .array .int
  | _ => .array .int
abbrev wsX30 : List Cond := u_ws RX3 TX3 5
theorem nmX3 : ∀ a, a < 5 → ∀ b, b < 5 → a ≠ b → (TX3 a).2.1 ≠ (TX3 b).2.1 := by decide +kernel
theorem tyX3_ok : ∀ k, k < 5 → parseFieldDescriptor (TX3 k).2.2.1 = some (tyX3 k) := by decide +kernel
abbrev cX3_init : ByteArray := prog_5_method_1_code
def yX3_init : MethodName := ⟨RX3, "<init>", "(LHopperCourt$Star;LHopperCourt$Marbles;)V"⟩
abbrev cX3_search : ByteArray := prog_5_method_2_code
def yX3_search : MethodName := ⟨RX3, "search", "(II)V"⟩
abbrev cX3_hopsTo : ByteArray := prog_5_method_3_code
def yX3_hopsTo : MethodName := ⟨RX3, "hopsTo", "(I)I"⟩
abbrev cX3_countEnds : ByteArray := prog_5_method_4_code
def yX3_countEnds : MethodName := ⟨RX3, "countEnds", "()I"⟩
abbrev cX3_end : ByteArray := prog_5_method_5_code
def yX3_end : MethodName := ⟨RX3, "end", "(I)I"⟩
abbrev cX3_cellBehind : ByteArray := prog_5_method_6_code
def yX3_cellBehind : MethodName := ⟨RX3, "cellBehind", "(III)I"⟩
abbrev cX3_lowestNearer : ByteArray := prog_5_method_7_code
def yX3_lowestNearer : MethodName := ⟨RX3, "lowestNearer", "(II)I"⟩
abbrev cX3_spread : ByteArray := prog_5_method_8_code
def yX3_spread : MethodName := ⟨RX3, "spread", "(II)V"⟩
abbrev cX3_landing : ByteArray := prog_5_method_9_code
def yX3_landing : MethodName := ⟨RX3, "landing", "(III)I"⟩
abbrev cX3_mayEnd : ByteArray := prog_5_method_10_code
def yX3_mayEnd : MethodName := ⟨RX3, "mayEnd", "(III)Z"⟩
def RX4 : String := "HopperCourt$Seats"
def TX4 : u_T := fun k => match k with
  | 0 => ("HopperCourt$Seats", "marbles", "LHopperCourt$Marbles;", true)
  | 1 => ("HopperCourt$Seats", "madeBy", "[I", true)
  | 2 => ("HopperCourt$Seats", "places", "[I", true)
  | 3 => ("HopperCourt$Seats", "placed", "I", false)
  | 4 => ("HopperCourt$Seats", "playing", "I", false)
  | 5 => ("HopperCourt$Seats", "out", "I", false)
  | _ => ("HopperCourt$Seats", "turn", "I", false)
def tyX4 : Nat → FieldType := fun k => match k with
  | 0 => .object "HopperCourt$Marbles"
  | 1 => .array .int
  | 2 => .array .int
  | 3 => .int
  | 4 => .int
  | 5 => .int
  | _ => .int
abbrev wsX40 : List Cond := u_ws RX4 TX4 7
theorem nmX4 : ∀ a, a < 7 → ∀ b, b < 7 → a ≠ b → (TX4 a).2.1 ≠ (TX4 b).2.1 := by decide +kernel
theorem tyX4_ok : ∀ k, k < 7 → parseFieldDescriptor (TX4 k).2.2.1 = some (tyX4 k) := by decide +kernel
abbrev cX4_init : ByteArray := prog_6_method_1_code
def yX4_init : MethodName := ⟨RX4, "<init>", "(LHopperCourt$Marbles;)V"⟩
abbrev cX4_setUp : ByteArray := prog_6_method_2_code
def yX4_setUp : MethodName := ⟨RX4, "setUp", "(I)V"⟩
abbrev cX4_onTurn : ByteArray := prog_6_method_3_code
def yX4_onTurn : MethodName := ⟨RX4, "onTurn", "()I"⟩
abbrev cX4_outSet : ByteArray := prog_6_method_4_code
def yX4_outSet : MethodName := ⟨RX4, "outSet", "()I"⟩
abbrev cX4_placedCount : ByteArray := prog_6_method_5_code
def yX4_placedCount : MethodName := ⟨RX4, "placedCount", "()I"⟩
abbrev cX4_plays : ByteArray := prog_6_method_6_code
def yX4_plays : MethodName := ⟨RX4, "plays", "(I)Z"⟩
abbrev cX4_hasDroppedOut : ByteArray := prog_6_method_7_code
def yX4_hasDroppedOut : MethodName := ⟨RX4, "hasDroppedOut", "(I)Z"⟩
abbrev cX4_playerAtPlace : ByteArray := prog_6_method_8_code
def yX4_playerAtPlace : MethodName := ⟨RX4, "playerAtPlace", "(I)I"⟩
abbrev cX4_countMove : ByteArray := prog_6_method_9_code
def yX4_countMove : MethodName := ⟨RX4, "countMove", "()V"⟩
abbrev cX4_placeFinishers : ByteArray := prog_6_method_10_code
def yX4_placeFinishers : MethodName := ⟨RX4, "placeFinishers", "(I)V"⟩
abbrev cX4_goOn : ByteArray := prog_6_method_11_code
def yX4_goOn : MethodName := ⟨RX4, "goOn", "(I)V"⟩
abbrev cX4_restore : ByteArray := prog_6_method_12_code
def yX4_restore : MethodName := ⟨RX4, "restore", "(III)V"⟩
abbrev cX4_isStillIn : ByteArray := prog_6_method_13_code
def yX4_isStillIn : MethodName := ⟨RX4, "isStillIn", "(I)Z"⟩
abbrev cX4_isPlaced : ByteArray := prog_6_method_14_code
def yX4_isPlaced : MethodName := ⟨RX4, "isPlaced", "(I)Z"⟩
abbrev cX4_fillsGoal : ByteArray := prog_6_method_15_code
def yX4_fillsGoal : MethodName := ⟨RX4, "fillsGoal", "(II)Z"⟩
abbrev cX4_isTooLate : ByteArray := prog_6_method_16_code
def yX4_isTooLate : MethodName := ⟨RX4, "isTooLate", "(II)Z"⟩
def RX5 : String := "HopperCourt$Star"
def TX5 : u_T := fun k => match k with
  | 0 => ("HopperCourt$Star", "rows", "[I", true)
  | 1 => ("HopperCourt$Star", "columns", "[I", true)
  | 2 => ("HopperCourt$Star", "camps", "[I", true)
  | _ => ("HopperCourt$Star", "nexts", "[I", true)
def tyX5 : Nat → FieldType := fun k => match k with
  | 0 => .array .int
  | 1 => .array .int
  | 2 => .array .int
  | _ => .array .int
abbrev wsX50 : List Cond := u_ws RX5 TX5 4
theorem nmX5 : ∀ a, a < 4 → ∀ b, b < 4 → a ≠ b → (TX5 a).2.1 ≠ (TX5 b).2.1 := by decide +kernel
theorem tyX5_ok : ∀ k, k < 4 → parseFieldDescriptor (TX5 k).2.2.1 = some (tyX5 k) := by decide +kernel
abbrev cX5_init : ByteArray := prog_7_method_1_code
def yX5_init : MethodName := ⟨RX5, "<init>", "()V"⟩
abbrev cX5_cellIn : ByteArray := prog_7_method_2_code
def yX5_cellIn : MethodName := ⟨RX5, "cellIn", "(II)I"⟩
abbrev cX5_campAmong : ByteArray := prog_7_method_3_code
def yX5_campAmong : MethodName := ⟨RX5, "campAmong", "(II)I"⟩
abbrev cX5_camp : ByteArray := prog_7_method_4_code
def yX5_camp : MethodName := ⟨RX5, "camp", "(I)I"⟩
abbrev cX5_next : ByteArray := prog_7_method_5_code
def yX5_next : MethodName := ⟨RX5, "next", "(II)I"⟩
abbrev cX5_steps : ByteArray := prog_7_method_6_code
def yX5_steps : MethodName := ⟨RX5, "steps", "(II)I"⟩
def RX6 : String := "HopperCourt"
def TX6 : u_T := fun k => match k with
  | 0 => ("HopperCourt", "star", "LHopperCourt$Star;", true)
  | 1 => ("HopperCourt", "marbles", "LHopperCourt$Marbles;", true)
  | 2 => ("HopperCourt", "reach", "LHopperCourt$Reach;", true)
  | 3 => ("HopperCourt", "pairing", "LHopperCourt$Pairing;", true)
  | 4 => ("HopperCourt", "seats", "LHopperCourt$Seats;", true)
  | 5 => ("HopperCourt", "log", "LHopperCourt$Log;", true)
  | 6 => ("HopperCourt", "fill", "I", false)
  | _ => ("HopperCourt", "patience", "I", false)
def tyX6 : Nat → FieldType := fun k => match k with
  | 0 => .object "HopperCourt$Star"
  | 1 => .object "HopperCourt$Marbles"
  | 2 => .object "HopperCourt$Reach"
  | 3 => .object "HopperCourt$Pairing"
  | 4 => .object "HopperCourt$Seats"
  | 5 => .object "HopperCourt$Log"
  | 6 => .int
  | _ => .int
abbrev wsX60 : List Cond := u_ws RX6 TX6 8
theorem nmX6 : ∀ a, a < 8 → ∀ b, b < 8 → a ≠ b → (TX6 a).2.1 ≠ (TX6 b).2.1 := by decide +kernel
theorem tyX6_ok : ∀ k, k < 8 → parseFieldDescriptor (TX6 k).2.2.1 = some (tyX6 k) := by decide +kernel
abbrev cX6_init : ByteArray := prog_1_method_1_code
def yX6_init : MethodName := ⟨RX6, "<init>", "()V"⟩
abbrev cX6_begin : ByteArray := prog_1_method_2_code
def yX6_begin : MethodName := ⟨RX6, "begin", "(I)V"⟩
abbrev cX6_setFill : ByteArray := prog_1_method_3_code
def yX6_setFill : MethodName := ⟨RX6, "setFill", "(I)I"⟩
abbrev cX6_setPatience : ByteArray := prog_1_method_4_code
def yX6_setPatience : MethodName := ⟨RX6, "setPatience", "(I)I"⟩
abbrev cX6_move : ByteArray := prog_1_method_5_code
def yX6_move : MethodName := ⟨RX6, "move", "(II)I"⟩
abbrev cX6_pass : ByteArray := prog_1_method_6_code
def yX6_pass : MethodName := ⟨RX6, "pass", "()V"⟩
abbrev cX6_undo : ByteArray := prog_1_method_7_code
def yX6_undo : MethodName := ⟨RX6, "undo", "()I"⟩
abbrev cX6_at : ByteArray := prog_1_method_8_code
def yX6_at : MethodName := ⟨RX6, "at", "(I)I"⟩
abbrev cX6_cellAt : ByteArray := prog_1_method_9_code
def yX6_cellAt : MethodName := ⟨RX6, "cellAt", "(II)I"⟩
abbrev cX6_campOf : ByteArray := prog_1_method_10_code
def yX6_campOf : MethodName := ⟨RX6, "campOf", "(I)I"⟩
abbrev cX6_distance : ByteArray := prog_1_method_11_code
def yX6_distance : MethodName := ⟨RX6, "distance", "(II)I"⟩
abbrev cX6_turn : ByteArray := prog_1_method_12_code
def yX6_turn : MethodName := ⟨RX6, "turn", "()I"⟩
abbrev cX6_made : ByteArray := prog_1_method_13_code
def yX6_made : MethodName := ⟨RX6, "made", "()I"⟩
abbrev cX6_ends : ByteArray := prog_1_method_14_code
def yX6_ends : MethodName := ⟨RX6, "ends", "(I)I"⟩
abbrev cX6_endAt : ByteArray := prog_1_method_15_code
def yX6_endAt : MethodName := ⟨RX6, "endAt", "(II)I"⟩
abbrev cX6_moves : ByteArray := prog_1_method_16_code
def yX6_moves : MethodName := ⟨RX6, "moves", "()I"⟩
abbrev cX6_chainAt : ByteArray := prog_1_method_17_code
def yX6_chainAt : MethodName := ⟨RX6, "chainAt", "(III)I"⟩
abbrev cX6_hops : ByteArray := prog_1_method_18_code
def yX6_hops : MethodName := ⟨RX6, "hops", "(II)I"⟩
abbrev cX6_finished : ByteArray := prog_1_method_19_code
def yX6_finished : MethodName := ⟨RX6, "finished", "(I)I"⟩
abbrev cX6_isOut : ByteArray := prog_1_method_20_code
def yX6_isOut : MethodName := ⟨RX6, "isOut", "(I)Z"⟩
abbrev cX6_way : ByteArray := prog_1_method_21_code
def yX6_way : MethodName := ⟨RX6, "way", "(I)I"⟩
abbrev cX6_bestFrom : ByteArray := prog_1_method_22_code
def yX6_bestFrom : MethodName := ⟨RX6, "bestFrom", "()I"⟩
abbrev cX6_bestTo : ByteArray := prog_1_method_23_code
def yX6_bestTo : MethodName := ⟨RX6, "bestTo", "()I"⟩
abbrev cX6_isCell : ByteArray := prog_1_method_24_code
def yX6_isCell : MethodName := ⟨RX6, "isCell", "(I)Z"⟩
abbrev cX6_isCamp : ByteArray := prog_1_method_25_code
def yX6_isCamp : MethodName := ⟨RX6, "isCamp", "(I)Z"⟩
abbrev cX6_goalOf : ByteArray := prog_1_method_26_code
def yX6_goalOf : MethodName := ⟨RX6, "goalOf", "(I)I"⟩
abbrev cX6_isOpen : ByteArray := prog_1_method_27_code
def yX6_isOpen : MethodName := ⟨RX6, "isOpen", "()Z"⟩
abbrev cX6_bestMove : ByteArray := prog_1_method_28_code
def yX6_bestMove : MethodName := ⟨RX6, "bestMove", "()I"⟩
def RX7 : String := "HopperCourtModel"
def TX7 : u_T := fun k => match k with
  | 0 => ("HopperCourtModel", "row", "[I", true)
  | 1 => ("HopperCourtModel", "column", "[I", true)
  | 2 => ("HopperCourtModel", "camp", "[I", true)
  | 3 => ("HopperCourtModel", "next", "[I", true)
  | 4 => ("HopperCourtModel", "far", "[I", true)
  | 5 => ("HopperCourtModel", "cells", "[I", true)
  | 6 => ("HopperCourtModel", "players", "I", false)
  | 7 => ("HopperCourtModel", "fill", "I", false)
  | 8 => ("HopperCourtModel", "patience", "I", false)
  | 9 => ("HopperCourtModel", "board", "[I", true)
  | 10 => ("HopperCourtModel", "turn", "I", false)
  | 11 => ("HopperCourtModel", "made", "I", false)
  | 12 => ("HopperCourtModel", "out", "I", false)
  | 13 => ("HopperCourtModel", "movesOf", "[I", true)
  | 14 => ("HopperCourtModel", "finishers", "I", false)
  | 15 => ("HopperCourtModel", "places", "[I", true)
  | 16 => ("HopperCourtModel", "movedFrom", "[I", true)
  | 17 => ("HopperCourtModel", "movedTo", "[I", true)
  | 18 => ("HopperCourtModel", "turnWas", "[I", true)
  | 19 => ("HopperCourtModel", "outWas", "[I", true)
  | 20 => ("HopperCourtModel", "finishersWas", "[I", true)
  | 21 => ("HopperCourtModel", "level", "[I", true)
  | 22 => ("HopperCourtModel", "queue", "[I", true)
  | 23 => ("HopperCourtModel", "isEnd", "[Z", true)
  | 24 => ("HopperCourtModel", "cheapest", "[I", true)
  | 25 => ("HopperCourtModel", "marbles", "[I", true)
  | _ => ("HopperCourtModel", "thrown", "I", false)
def tyX7 : Nat → FieldType := fun k => match k with
  | 0 => .array .int
  | 1 => .array .int
  | 2 => .array .int
  | 3 => .array .int
  | 4 => .array .int
  | 5 => .array .int
  | 6 => .int
  | 7 => .int
  | 8 => .int
  | 9 => .array .int
  | 10 => .int
  | 11 => .int
  | 12 => .int
  | 13 => .array .int
  | 14 => .int
  | 15 => .array .int
  | 16 => .array .int
  | 17 => .array .int
  | 18 => .array .int
  | 19 => .array .int
  | 20 => .array .int
  | 21 => .array .int
  | 22 => .array .int
  | 23 => .array .boolean
  | 24 => .array .int
  | 25 => .array .int
  | _ => .int
abbrev wsX70 : List Cond := u_ws RX7 TX7 27
theorem nmX7 : ∀ a, a < 27 → ∀ b, b < 27 → a ≠ b → (TX7 a).2.1 ≠ (TX7 b).2.1 := by decide +kernel
theorem tyX7_ok : ∀ k, k < 27 → parseFieldDescriptor (TX7 k).2.2.1 = some (tyX7 k) := by decide +kernel
abbrev cX7_init : ByteArray := prog_9_method_1_code
def yX7_init : MethodName := ⟨RX7, "<init>", "()V"⟩
abbrev cX7_thrown : ByteArray := prog_9_method_2_code
def yX7_thrown : MethodName := ⟨RX7, "thrown", "()I"⟩
abbrev cX7_can : ByteArray := prog_9_method_3_code
def yX7_can : MethodName := ⟨RX7, "can", "(I)Z"⟩
abbrev cX7_isIn : ByteArray := prog_9_method_4_code
def yX7_isIn : MethodName := ⟨RX7, "isIn", "(III)Z"⟩
abbrev cX7_isCell : ByteArray := prog_9_method_5_code
def yX7_isCell : MethodName := ⟨RX7, "isCell", "(I)Z"⟩
abbrev cX7_campAt : ByteArray := prog_9_method_6_code
def yX7_campAt : MethodName := ⟨RX7, "campAt", "(II)I"⟩
abbrev cX7_find : ByteArray := prog_9_method_7_code
def yX7_find : MethodName := ⟨RX7, "find", "(II)I"⟩
abbrev cX7_measures : ByteArray := prog_9_method_8_code
def yX7_measures : MethodName := ⟨RX7, "measures", "(I)V"⟩
abbrev cX7_plays : ByteArray := prog_9_method_9_code
def yX7_plays : MethodName := ⟨RX7, "plays", "(I)Z"⟩
abbrev cX7_begin : ByteArray := prog_9_method_10_code
def yX7_begin : MethodName := ⟨RX7, "begin", "(I)V"⟩
abbrev cX7_setFill : ByteArray := prog_9_method_11_code
def yX7_setFill : MethodName := ⟨RX7, "setFill", "(I)I"⟩
abbrev cX7_setPatience : ByteArray := prog_9_method_12_code
def yX7_setPatience : MethodName := ⟨RX7, "setPatience", "(I)I"⟩
abbrev cX7_hasFinished : ByteArray := prog_9_method_13_code
def yX7_hasFinished : MethodName := ⟨RX7, "hasFinished", "(I)Z"⟩
abbrev cX7_ownIn : ByteArray := prog_9_method_14_code
def yX7_ownIn : MethodName := ⟨RX7, "ownIn", "(II)I"⟩
abbrev cX7_isFull : ByteArray := prog_9_method_15_code
def yX7_isFull : MethodName := ⟨RX7, "isFull", "(I)Z"⟩
abbrev cX7_finishes : ByteArray := prog_9_method_16_code
def yX7_finishes : MethodName := ⟨RX7, "finishes", "()V"⟩
abbrev cX7_turns : ByteArray := prog_9_method_17_code
def yX7_turns : MethodName := ⟨RX7, "turns", "()V"⟩
abbrev cX7_notes : ByteArray := prog_9_method_18_code
def yX7_notes : MethodName := ⟨RX7, "notes", "(II)V"⟩
abbrev cX7_move : ByteArray := prog_9_method_19_code
def yX7_move : MethodName := ⟨RX7, "move", "(II)I"⟩
abbrev cX7_pass : ByteArray := prog_9_method_20_code
def yX7_pass : MethodName := ⟨RX7, "pass", "()V"⟩
abbrev cX7_undo : ByteArray := prog_9_method_21_code
def yX7_undo : MethodName := ⟨RX7, "undo", "()I"⟩
abbrev cX7_at : ByteArray := prog_9_method_22_code
def yX7_at : MethodName := ⟨RX7, "at", "(I)I"⟩
abbrev cX7_cellAt : ByteArray := prog_9_method_23_code
def yX7_cellAt : MethodName := ⟨RX7, "cellAt", "(II)I"⟩
abbrev cX7_campOf : ByteArray := prog_9_method_24_code
def yX7_campOf : MethodName := ⟨RX7, "campOf", "(I)I"⟩
abbrev cX7_areCells : ByteArray := prog_9_method_25_code
def yX7_areCells : MethodName := ⟨RX7, "areCells", "(II)Z"⟩
abbrev cX7_distance : ByteArray := prog_9_method_26_code
def yX7_distance : MethodName := ⟨RX7, "distance", "(II)I"⟩
abbrev cX7_behind : ByteArray := prog_9_method_27_code
def yX7_behind : MethodName := ⟨RX7, "behind", "(III)I"⟩
abbrev cX7_hopsFrom : ByteArray := prog_9_method_28_code
def yX7_hopsFrom : MethodName := ⟨RX7, "hopsFrom", "(II)V"⟩
abbrev cX7_isNext : ByteArray := prog_9_method_29_code
def yX7_isNext : MethodName := ⟨RX7, "isNext", "(II)Z"⟩
abbrev cX7_mayEnd : ByteArray := prog_9_method_30_code
def yX7_mayEnd : MethodName := ⟨RX7, "mayEnd", "(II)Z"⟩
abbrev cX7_endsOf : ByteArray := prog_9_method_31_code
def yX7_endsOf : MethodName := ⟨RX7, "endsOf", "(I)I"⟩
abbrev cX7_hopsOf : ByteArray := prog_9_method_32_code
def yX7_hopsOf : MethodName := ⟨RX7, "hopsOf", "(II)I"⟩
abbrev cX7_allMoves : ByteArray := prog_9_method_33_code
def yX7_allMoves : MethodName := ⟨RX7, "allMoves", "()I"⟩
abbrev cX7_turn : ByteArray := prog_9_method_34_code
def yX7_turn : MethodName := ⟨RX7, "turn", "()I"⟩
abbrev cX7_made : ByteArray := prog_9_method_35_code
def yX7_made : MethodName := ⟨RX7, "made", "()I"⟩
abbrev cX7_ends : ByteArray := prog_9_method_36_code
def yX7_ends : MethodName := ⟨RX7, "ends", "(I)I"⟩
abbrev cX7_endAt : ByteArray := prog_9_method_37_code
def yX7_endAt : MethodName := ⟨RX7, "endAt", "(II)I"⟩
abbrev cX7_moves : ByteArray := prog_9_method_38_code
def yX7_moves : MethodName := ⟨RX7, "moves", "()I"⟩
abbrev cX7_chainAt : ByteArray := prog_9_method_39_code
def yX7_chainAt : MethodName := ⟨RX7, "chainAt", "(III)I"⟩
abbrev cX7_hops : ByteArray := prog_9_method_40_code
def yX7_hops : MethodName := ⟨RX7, "hops", "(II)I"⟩
abbrev cX7_finished : ByteArray := prog_9_method_41_code
def yX7_finished : MethodName := ⟨RX7, "finished", "(I)I"⟩
abbrev cX7_isOut : ByteArray := prog_9_method_42_code
def yX7_isOut : MethodName := ⟨RX7, "isOut", "(I)Z"⟩
abbrev cX7_wayOf : ByteArray := prog_9_method_43_code
def yX7_wayOf : MethodName := ⟨RX7, "wayOf", "(I)I"⟩
abbrev cX7_way : ByteArray := prog_9_method_44_code
def yX7_way : MethodName := ⟨RX7, "way", "(I)I"⟩
abbrev cX7_best : ByteArray := prog_9_method_45_code
def yX7_best : MethodName := ⟨RX7, "best", "()I"⟩
abbrev cX7_bestFrom : ByteArray := prog_9_method_46_code
def yX7_bestFrom : MethodName := ⟨RX7, "bestFrom", "()I"⟩
abbrev cX7_bestTo : ByteArray := prog_9_method_47_code
def yX7_bestTo : MethodName := ⟨RX7, "bestTo", "()I"⟩
def RJ6 : String := "java/lang/Integer"
def TJ6 : u_T := fun k => match k with
  | _ => ("", "", "", false)
def tyJ6 : Nat → FieldType := fun k => match k with
  | _ => .int
abbrev wsJ60 : List Cond := u_ws RJ6 TJ6 0
theorem nmJ6 : ∀ a, a < 0 → ∀ b, b < 0 → a ≠ b → (TJ6 a).2.1 ≠ (TJ6 b).2.1 := by decide +kernel
theorem tyJ6_ok : ∀ k, k < 0 → parseFieldDescriptor (TJ6 k).2.2.1 = some (tyJ6 k) := by decide +kernel
abbrev cJ6_bitCount_0f7a4 : ByteArray := prog_14_method_49_code
def yJ6_bitCount_0f7a4 : MethodName := ⟨RJ6, "bitCount", "(I)I"⟩
def RJ9 : String := "java/lang/Math"
def TJ9 : u_T := fun k => match k with
  | _ => ("", "", "", false)
def tyJ9 : Nat → FieldType := fun k => match k with
  | _ => .int
abbrev wsJ90 : List Cond := u_ws RJ9 TJ9 0
theorem nmJ9 : ∀ a, a < 0 → ∀ b, b < 0 → a ≠ b → (TJ9 a).2.1 ≠ (TJ9 b).2.1 := by decide +kernel
theorem tyJ9_ok : ∀ k, k < 0 → parseFieldDescriptor (TJ9 k).2.2.1 = some (tyJ9 k) := by decide +kernel
abbrev cJ9_abs_0f7a4 : ByteArray := prog_15_method_59_code
def yJ9_abs_0f7a4 : MethodName := ⟨RJ9, "abs", "(I)I"⟩
abbrev cJ9_max_7cf53 : ByteArray := prog_15_method_65_code
def yJ9_max_7cf53 : MethodName := ⟨RJ9, "max", "(II)I"⟩
abbrev cJ9_min_7cf53 : ByteArray := prog_15_method_69_code
def yJ9_min_7cf53 : MethodName := ⟨RJ9, "min", "(II)I"⟩
def RJ0 : String := "java/lang/String"
def TJ0 : u_T := fun k => match k with
  | _ => ("", "", "", false)
def tyJ0 : Nat → FieldType := fun k => match k with
  | _ => .int
abbrev wsJ00 : List Cond := u_ws RJ0 TJ0 0
theorem nmJ0 : ∀ a, a < 0 → ∀ b, b < 0 → a ≠ b → (TJ0 a).2.1 ≠ (TJ0 b).2.1 := by decide +kernel
theorem tyJ0_ok : ∀ k, k < 0 → parseFieldDescriptor (TJ0 k).2.2.1 = some (tyJ0 k) := by decide +kernel
def RL : String := "HopperCourtLaw"
abbrev cL_begin : ByteArray := method_3_code
def yL_begin : MethodName := ⟨RL, "begin", "(LHopperCourt;I)I"⟩
abbrev cL_setFill : ByteArray := method_4_code
def yL_setFill : MethodName := ⟨RL, "setFill", "(LHopperCourt;I[J)I"⟩
abbrev cL_setPatience : ByteArray := method_5_code
def yL_setPatience : MethodName := ⟨RL, "setPatience", "(LHopperCourt;I[J)I"⟩
abbrev cL_move : ByteArray := method_6_code
def yL_move : MethodName := ⟨RL, "move", "(LHopperCourt;II[J)I"⟩
abbrev cL_pass : ByteArray := method_7_code
def yL_pass : MethodName := ⟨RL, "pass", "(LHopperCourt;)I"⟩
abbrev cL_undo : ByteArray := method_8_code
def yL_undo : MethodName := ⟨RL, "undo", "(LHopperCourt;[J)I"⟩
abbrev cL_at : ByteArray := method_9_code
def yL_at : MethodName := ⟨RL, "at", "(LHopperCourt;I[J)I"⟩
abbrev cL_campOf : ByteArray := method_10_code
def yL_campOf : MethodName := ⟨RL, "campOf", "(LHopperCourt;I[J)I"⟩
abbrev cL_distance : ByteArray := method_11_code
def yL_distance : MethodName := ⟨RL, "distance", "(LHopperCourt;II[J)I"⟩
abbrev cL_ends : ByteArray := method_12_code
def yL_ends : MethodName := ⟨RL, "ends", "(LHopperCourt;I[J)I"⟩
abbrev cL_endAt : ByteArray := method_13_code
def yL_endAt : MethodName := ⟨RL, "endAt", "(LHopperCourt;II[J)I"⟩
abbrev cL_chainAt : ByteArray := method_14_code
def yL_chainAt : MethodName := ⟨RL, "chainAt", "(LHopperCourt;III[J)I"⟩
abbrev cL_hops : ByteArray := method_15_code
def yL_hops : MethodName := ⟨RL, "hops", "(LHopperCourt;II[J)I"⟩
abbrev cL_finished : ByteArray := method_16_code
def yL_finished : MethodName := ⟨RL, "finished", "(LHopperCourt;I[J)I"⟩
abbrev cL_isOut : ByteArray := method_17_code
def yL_isOut : MethodName := ⟨RL, "isOut", "(LHopperCourt;I[J)I"⟩
abbrev cL_way : ByteArray := method_18_code
def yL_way : MethodName := ⟨RL, "way", "(LHopperCourt;I[J)I"⟩
abbrev cL_law : ByteArray := code
def yL_law : MethodName := ⟨RL, "law", "([I)Z"⟩
def wsX0_init : List Cond := .code yX0_init cX0_init 1 none :: ([.methodLink RX0 3 objectInit, .instanceMethod objectInit, .code objectInit ⟨#[0xb1]⟩ 1 none, .arrayClass .int, .fieldLink RX0 9 "HopperCourt$Log" "froms" "[I", .fieldLink RX0 15 "HopperCourt$Log" "tos" "[I", .fieldLink RX0 18 "HopperCourt$Log" "turns" "[I", .fieldLink RX0 21 "HopperCourt$Log" "outs" "[I", .fieldLink RX0 24 "HopperCourt$Log" "placeds" "[I"] ++ wsX00)
def wsX0_size : List Cond := .code yX0_size cX0_size 1 (some .int) :: ([.fieldLink RX0 27 "HopperCourt$Log" "size" "I"] ++ wsX00)
def wsX0_clear : List Cond := .code yX0_clear cX0_clear 1 none :: ([.fieldLink RX0 27 "HopperCourt$Log" "size" "I"] ++ wsX00)
def wsX4_onTurn : List Cond := .code yX4_onTurn cX4_onTurn 1 (some .int) :: ([.fieldLink RX4 22 "HopperCourt$Seats" "turn" "I"] ++ wsX40)
def wsX4_outSet : List Cond := .code yX4_outSet cX4_outSet 1 (some .int) :: ([.fieldLink RX4 29 "HopperCourt$Seats" "out" "I"] ++ wsX40)
def wsX4_placedCount : List Cond := .code yX4_placedCount cX4_placedCount 1 (some .int) :: ([.fieldLink RX4 32 "HopperCourt$Seats" "placed" "I"] ++ wsX40)
def wsX0_add : List Cond := .code yX0_add cX0_add 4 none :: ([.fieldLink RX0 27 "HopperCourt$Log" "size" "I", .fieldLink RX0 9 "HopperCourt$Log" "froms" "[I", .fieldLink RX0 15 "HopperCourt$Log" "tos" "[I", .fieldLink RX0 18 "HopperCourt$Log" "turns" "[I", .fieldLink RX0 21 "HopperCourt$Log" "outs" "[I", .fieldLink RX0 24 "HopperCourt$Log" "placeds" "[I", .methodLink RX0 31 yX4_onTurn, .instanceMethod yX4_onTurn, .selects RX4 yX4_onTurn yX4_onTurn, .initialized RX4, .code yX4_onTurn cX4_onTurn 1 (some .int), .fieldLink RX4 22 "HopperCourt$Seats" "turn" "I", .methodLink RX0 37 yX4_outSet, .instanceMethod yX4_outSet, .selects RX4 yX4_outSet yX4_outSet, .code yX4_outSet cX4_outSet 1 (some .int), .fieldLink RX4 29 "HopperCourt$Seats" "out" "I", .methodLink RX0 40 yX4_placedCount, .instanceMethod yX4_placedCount, .selects RX4 yX4_placedCount yX4_placedCount, .code yX4_placedCount cX4_placedCount 1 (some .int), .fieldLink RX4 32 "HopperCourt$Seats" "placed" "I"] ++ wsX00 ++ wsX40)
def wsX6_isCell : List Cond := .code yX6_isCell cX6_isCell 1 (some .boolean) :: ([])
def wsX1_carry : List Cond := .code yX1_carry cX1_carry 3 none :: ([.fieldLink RX1 9 "HopperCourt$Marbles" "owners" "[I", .static yX6_isCell, .initialized RX6, .code yX6_isCell cX6_isCell 1 (some .boolean)] ++ wsX10)
def wsX6_isCamp : List Cond := .code yX6_isCamp cX6_isCamp 1 (some .boolean) :: ([])
def wsX4_restore : List Cond := .code yX4_restore cX4_restore 4 none :: ([.fieldLink RX4 22 "HopperCourt$Seats" "turn" "I", .fieldLink RX4 29 "HopperCourt$Seats" "out" "I", .fieldLink RX4 32 "HopperCourt$Seats" "placed" "I", .fieldLink RX4 9 "HopperCourt$Seats" "madeBy" "[I", .static yX6_isCamp, .initialized RX6, .code yX6_isCamp cX6_isCamp 1 (some .boolean)] ++ wsX40)
def wsX0_takeBack_r1 : List Cond := [Cond.fieldLink RX0 27 "HopperCourt$Log" "size" "I", Cond.fieldLink RX0 15 "HopperCourt$Log" "tos" "[I", Cond.fieldLink RX0 9 "HopperCourt$Log" "froms" "[I", Cond.fieldLink RX0 18 "HopperCourt$Log" "turns" "[I", Cond.fieldLink RX0 21 "HopperCourt$Log" "outs" "[I", Cond.fieldLink RX0 24 "HopperCourt$Log" "placeds" "[I", Cond.methodLink RX0 43 yX1_carry, Cond.instanceMethod yX1_carry, Cond.selects RX1 yX1_carry yX1_carry, Cond.initialized RX1, Cond.code yX1_carry cX1_carry 3 none, Cond.fieldLink RX1 9 "HopperCourt$Marbles" "owners" "[I", Cond.static yX6_isCell, Cond.initialized RX6, Cond.code yX6_isCell cX6_isCell 1 (some .boolean), Cond.methodLink RX0 49 yX4_restore, Cond.instanceMethod yX4_restore, Cond.selects RX4 yX4_restore yX4_restore, Cond.initialized RX4, Cond.code yX4_restore cX4_restore 4 none, Cond.fieldLink RX4 22 "HopperCourt$Seats" "turn" "I", Cond.fieldLink RX4 29 "HopperCourt$Seats" "out" "I", Cond.fieldLink RX4 32 "HopperCourt$Seats" "placed" "I", Cond.fieldLink RX4 9 "HopperCourt$Seats" "madeBy" "[I"]
def wsX0_takeBack_r2 : List Cond := [Cond.static yX6_isCamp, Cond.code yX6_isCamp cX6_isCamp 1 (some .boolean)]
def wsX0_takeBack : List Cond := .code yX0_takeBack cX0_takeBack 3 none :: ((wsX0_takeBack_r1 ++ wsX0_takeBack_r2) ++ wsX00 ++ wsX10 ++ wsX40)
def wsX5_camp : List Cond := .code yX5_camp cX5_camp 2 (some .int) :: ([.fieldLink RX5 18 "HopperCourt$Star" "camps" "[I", .static yX6_isCell, .initialized RX6, .code yX6_isCell cX6_isCell 1 (some .boolean)] ++ wsX50)
def wsX1_setUp : List Cond := .code yX1_setUp cX1_setUp 4 none :: ([.fieldLink RX1 15 "HopperCourt$Marbles" "star" "LHopperCourt$Star;", .fieldLink RX1 9 "HopperCourt$Marbles" "owners" "[I", .methodLink RX1 23 yX5_camp, .instanceMethod yX5_camp, .selects RX5 yX5_camp yX5_camp, .initialized RX5, .code yX5_camp cX5_camp 2 (some .int), .fieldLink RX5 18 "HopperCourt$Star" "camps" "[I", .static yX6_isCell, .initialized RX6, .code yX6_isCell cX6_isCell 1 (some .boolean)] ++ wsX10 ++ wsX50)
def wsX1_init : List Cond := .code yX1_init cX1_init 2 none :: ([.methodLink RX1 3 objectInit, .instanceMethod objectInit, .code objectInit ⟨#[0xb1]⟩ 1 none, .arrayClass .int, .fieldLink RX1 9 "HopperCourt$Marbles" "owners" "[I", .fieldLink RX1 15 "HopperCourt$Marbles" "star" "LHopperCourt$Star;", .methodLink RX1 19 yX1_setUp, .instanceMethod yX1_setUp, .selects RX1 yX1_setUp yX1_setUp, .initialized RX1, .code yX1_setUp cX1_setUp 4 none, .methodLink RX1 23 yX5_camp, .instanceMethod yX5_camp, .selects RX5 yX5_camp yX5_camp, .initialized RX5, .code yX5_camp cX5_camp 2 (some .int), .fieldLink RX5 18 "HopperCourt$Star" "camps" "[I", .static yX6_isCell, .initialized RX6, .code yX6_isCell cX6_isCell 1 (some .boolean)] ++ wsX10 ++ wsX50)
def wsX1_owner : List Cond := .code yX1_owner cX1_owner 2 (some .int) :: ([.fieldLink RX1 9 "HopperCourt$Marbles" "owners" "[I", .static yX6_isCell, .initialized RX6, .code yX6_isCell cX6_isCell 1 (some .boolean)] ++ wsX10)
def wsX1_isEmpty : List Cond := .code yX1_isEmpty cX1_isEmpty 2 (some .boolean) :: ([.fieldLink RX1 9 "HopperCourt$Marbles" "owners" "[I", .static yX6_isCell, .initialized RX6, .code yX6_isCell cX6_isCell 1 (some .boolean)] ++ wsX10)
def wsX1_countInCamp : List Cond := .code yX1_countInCamp cX1_countInCamp 5 (some .int) :: ([.fieldLink RX1 15 "HopperCourt$Marbles" "star" "LHopperCourt$Star;", .fieldLink RX1 9 "HopperCourt$Marbles" "owners" "[I", .methodLink RX1 23 yX5_camp, .instanceMethod yX5_camp, .selects RX5 yX5_camp yX5_camp, .initialized RX5, .code yX5_camp cX5_camp 2 (some .int), .fieldLink RX5 18 "HopperCourt$Star" "camps" "[I", .static yX6_isCell, .initialized RX6, .code yX6_isCell cX6_isCell 1 (some .boolean)] ++ wsX10 ++ wsX50)
def wsX2_init : List Cond := .code yX2_init cX2_init 3 none :: ([.methodLink RX2 3 objectInit, .instanceMethod objectInit, .code objectInit ⟨#[0xb1]⟩ 1 none, .arrayClass .int, .fieldLink RX2 9 "HopperCourt$Pairing" "marbleCells" "[I", .fieldLink RX2 15 "HopperCourt$Pairing" "goalCells" "[I", .fieldLink RX2 18 "HopperCourt$Pairing" "steps" "[I", .fieldLink RX2 21 "HopperCourt$Pairing" "firstSums" "[I", .fieldLink RX2 24 "HopperCourt$Pairing" "lastSums" "[I", .fieldLink RX2 27 "HopperCourt$Pairing" "otherSums" "[I", .fieldLink RX2 30 "HopperCourt$Pairing" "star" "LHopperCourt$Star;", .fieldLink RX2 34 "HopperCourt$Pairing" "marbles" "LHopperCourt$Marbles;"] ++ wsX20)
def wsX6_goalOf : List Cond := .code yX6_goalOf cX6_goalOf 1 (some .int) :: ([])
def wsX2_collect : List Cond := .code yX2_collect cX2_collect 6 none :: ([.fieldLink RX2 34 "HopperCourt$Pairing" "marbles" "LHopperCourt$Marbles;", .fieldLink RX2 9 "HopperCourt$Pairing" "marbleCells" "[I", .fieldLink RX2 30 "HopperCourt$Pairing" "star" "LHopperCourt$Star;", .fieldLink RX2 15 "HopperCourt$Pairing" "goalCells" "[I", .static yX6_goalOf, .initialized RX6, .code yX6_goalOf cX6_goalOf 1 (some .int), .methodLink RX2 71 yX1_owner, .instanceMethod yX1_owner, .selects RX1 yX1_owner yX1_owner, .initialized RX1, .code yX1_owner cX1_owner 2 (some .int), .fieldLink RX1 9 "HopperCourt$Marbles" "owners" "[I", .static yX6_isCell, .code yX6_isCell cX6_isCell 1 (some .boolean), .methodLink RX2 76 yX5_camp, .instanceMethod yX5_camp, .selects RX5 yX5_camp yX5_camp, .initialized RX5, .code yX5_camp cX5_camp 2 (some .int), .fieldLink RX5 18 "HopperCourt$Star" "camps" "[I"] ++ wsX20 ++ wsX10 ++ wsX50)
def wsX5_steps : List Cond := .code yX5_steps cX5_steps 5 (some .int) :: ([.fieldLink RX5 9 "HopperCourt$Star" "rows" "[I", .methodLink RX5 47 Lib.Math.abs.name, .static Lib.Math.abs.name, .initialized "java/lang/Math", .code Lib.Math.abs.name Lib.Math.abs.code 1 (some .int), .fieldLink RX5 15 "HopperCourt$Star" "columns" "[I", .methodLink RX5 53 Lib.Math.max.name, .static Lib.Math.max.name, .code Lib.Math.max.name Lib.Math.max.code 2 (some .int), .static yX6_isCell, .initialized RX6, .code yX6_isCell cX6_isCell 1 (some .boolean)] ++ wsX50)
def wsX2_measure_r1 : List Cond := [Cond.fieldLink RX2 18 "HopperCourt$Pairing" "steps" "[I", Cond.fieldLink RX2 30 "HopperCourt$Pairing" "star" "LHopperCourt$Star;", Cond.fieldLink RX2 9 "HopperCourt$Pairing" "marbleCells" "[I", Cond.fieldLink RX2 15 "HopperCourt$Pairing" "goalCells" "[I", Cond.methodLink RX2 65 yX2_collect, Cond.instanceMethod yX2_collect, Cond.selects RX2 yX2_collect yX2_collect, Cond.initialized RX2, Cond.code yX2_collect cX2_collect 6 none, Cond.fieldLink RX2 34 "HopperCourt$Pairing" "marbles" "LHopperCourt$Marbles;", Cond.static yX6_goalOf, Cond.initialized RX6, Cond.code yX6_goalOf cX6_goalOf 1 (some .int), Cond.methodLink RX2 71 yX1_owner, Cond.instanceMethod yX1_owner, Cond.selects RX1 yX1_owner yX1_owner, Cond.initialized RX1, Cond.code yX1_owner cX1_owner 2 (some .int), Cond.fieldLink RX1 9 "HopperCourt$Marbles" "owners" "[I", Cond.static yX6_isCell, Cond.code yX6_isCell cX6_isCell 1 (some .boolean), Cond.methodLink RX2 76 yX5_camp, Cond.instanceMethod yX5_camp, Cond.selects RX5 yX5_camp yX5_camp]
def wsX2_measure_r2 : List Cond := [Cond.initialized RX5, Cond.code yX5_camp cX5_camp 2 (some .int), Cond.fieldLink RX5 18 "HopperCourt$Star" "camps" "[I", Cond.methodLink RX2 61 yX5_steps, Cond.instanceMethod yX5_steps, Cond.selects RX5 yX5_steps yX5_steps, Cond.code yX5_steps cX5_steps 5 (some .int), Cond.fieldLink RX5 9 "HopperCourt$Star" "rows" "[I", Cond.methodLink RX5 47 Lib.Math.abs.name, Cond.static Lib.Math.abs.name, Cond.initialized "java/lang/Math", Cond.code Lib.Math.abs.name Lib.Math.abs.code 1 (some .int), Cond.fieldLink RX5 15 "HopperCourt$Star" "columns" "[I", Cond.methodLink RX5 53 Lib.Math.max.name, Cond.static Lib.Math.max.name, Cond.code Lib.Math.max.name Lib.Math.max.code 2 (some .int)]
def wsX2_measure : List Cond := .code yX2_measure cX2_measure 4 none :: ((wsX2_measure_r1 ++ wsX2_measure_r2) ++ wsX20 ++ wsX10 ++ wsX50)
def wsJ6_bitCount_0f7a4 : List Cond := .code yJ6_bitCount_0f7a4 cJ6_bitCount_0f7a4 1 (some .int) :: ([.constant RJ6 265 (1431655765), .constant RJ6 266 (858993459), .constant RJ6 267 (252645135)])
def wsX2_leastWith : List Cond := .code yX2_leastWith cX2_leastWith 7 (some .int) :: ([.constant RX2 48 (1000000), .fieldLink RX2 18 "HopperCourt$Pairing" "steps" "[I", .methodLink RX2 55 Lib.Math.min.name, .static Lib.Math.min.name, .initialized "java/lang/Math", .code Lib.Math.min.name Lib.Math.min.code 2 (some .int)] ++ wsX20)
def wsX2_sumFirst : List Cond := .code yX2_sumFirst cX2_sumFirst 2 none :: ([.fieldLink RX2 21 "HopperCourt$Pairing" "firstSums" "[I", .methodLink RX2 49 yJ6_bitCount_0f7a4, .static yJ6_bitCount_0f7a4, .initialized RJ6, .code yJ6_bitCount_0f7a4 cJ6_bitCount_0f7a4 1 (some .int), .constant RJ6 265 (1431655765), .constant RJ6 266 (858993459), .constant RJ6 267 (252645135), .methodLink RX2 79 yX2_leastWith, .instanceMethod yX2_leastWith, .selects RX2 yX2_leastWith yX2_leastWith, .initialized RX2, .code yX2_leastWith cX2_leastWith 7 (some .int), .constant RX2 48 (1000000), .fieldLink RX2 18 "HopperCourt$Pairing" "steps" "[I", .methodLink RX2 55 Lib.Math.min.name, .static Lib.Math.min.name, .initialized "java/lang/Math", .code Lib.Math.min.name Lib.Math.min.code 2 (some .int)] ++ wsX20)
def wsX2_leastSum_r1 : List Cond := [Cond.fieldLink RX2 21 "HopperCourt$Pairing" "firstSums" "[I", Cond.methodLink RX2 38 yX2_measure, Cond.instanceMethod yX2_measure, Cond.selects RX2 yX2_measure yX2_measure, Cond.initialized RX2, Cond.code yX2_measure cX2_measure 4 none, Cond.fieldLink RX2 18 "HopperCourt$Pairing" "steps" "[I", Cond.fieldLink RX2 30 "HopperCourt$Pairing" "star" "LHopperCourt$Star;", Cond.fieldLink RX2 9 "HopperCourt$Pairing" "marbleCells" "[I", Cond.fieldLink RX2 15 "HopperCourt$Pairing" "goalCells" "[I", Cond.methodLink RX2 65 yX2_collect, Cond.instanceMethod yX2_collect, Cond.selects RX2 yX2_collect yX2_collect, Cond.code yX2_collect cX2_collect 6 none, Cond.fieldLink RX2 34 "HopperCourt$Pairing" "marbles" "LHopperCourt$Marbles;", Cond.static yX6_goalOf, Cond.initialized RX6, Cond.code yX6_goalOf cX6_goalOf 1 (some .int), Cond.methodLink RX2 71 yX1_owner, Cond.instanceMethod yX1_owner, Cond.selects RX1 yX1_owner yX1_owner, Cond.initialized RX1, Cond.code yX1_owner cX1_owner 2 (some .int), Cond.fieldLink RX1 9 "HopperCourt$Marbles" "owners" "[I"]
def wsX2_leastSum_r2 : List Cond := [Cond.static yX6_isCell, Cond.code yX6_isCell cX6_isCell 1 (some .boolean), Cond.methodLink RX2 76 yX5_camp, Cond.instanceMethod yX5_camp, Cond.selects RX5 yX5_camp yX5_camp, Cond.initialized RX5, Cond.code yX5_camp cX5_camp 2 (some .int), Cond.fieldLink RX5 18 "HopperCourt$Star" "camps" "[I", Cond.methodLink RX2 61 yX5_steps, Cond.instanceMethod yX5_steps, Cond.selects RX5 yX5_steps yX5_steps, Cond.code yX5_steps cX5_steps 5 (some .int), Cond.fieldLink RX5 9 "HopperCourt$Star" "rows" "[I", Cond.methodLink RX5 47 Lib.Math.abs.name, Cond.static Lib.Math.abs.name, Cond.initialized "java/lang/Math", Cond.code Lib.Math.abs.name Lib.Math.abs.code 1 (some .int), Cond.fieldLink RX5 15 "HopperCourt$Star" "columns" "[I", Cond.methodLink RX5 53 Lib.Math.max.name, Cond.static Lib.Math.max.name, Cond.code Lib.Math.max.name Lib.Math.max.code 2 (some .int), Cond.methodLink RX2 42 yX2_sumFirst, Cond.instanceMethod yX2_sumFirst, Cond.selects RX2 yX2_sumFirst yX2_sumFirst]
def wsX2_leastSum_r3 : List Cond := [Cond.code yX2_sumFirst cX2_sumFirst 2 none, Cond.methodLink RX2 49 yJ6_bitCount_0f7a4, Cond.static yJ6_bitCount_0f7a4, Cond.initialized RJ6, Cond.code yJ6_bitCount_0f7a4 cJ6_bitCount_0f7a4 1 (some .int), Cond.constant RJ6 265 (1431655765), Cond.constant RJ6 266 (858993459), Cond.constant RJ6 267 (252645135), Cond.methodLink RX2 79 yX2_leastWith, Cond.instanceMethod yX2_leastWith, Cond.selects RX2 yX2_leastWith yX2_leastWith, Cond.code yX2_leastWith cX2_leastWith 7 (some .int), Cond.constant RX2 48 (1000000), Cond.methodLink RX2 55 Lib.Math.min.name, Cond.static Lib.Math.min.name, Cond.code Lib.Math.min.name Lib.Math.min.code 2 (some .int)]
def wsX2_leastSum : List Cond := .code yX2_leastSum cX2_leastSum 2 (some .int) :: ((wsX2_leastSum_r1 ++ (wsX2_leastSum_r2 ++ wsX2_leastSum_r3)) ++ wsX20 ++ wsX10 ++ wsX50)
def wsX2_sumLast : List Cond := .code yX2_sumLast cX2_sumLast 2 none :: ([.fieldLink RX2 24 "HopperCourt$Pairing" "lastSums" "[I", .methodLink RX2 49 yJ6_bitCount_0f7a4, .static yJ6_bitCount_0f7a4, .initialized RJ6, .code yJ6_bitCount_0f7a4 cJ6_bitCount_0f7a4 1 (some .int), .constant RJ6 265 (1431655765), .constant RJ6 266 (858993459), .constant RJ6 267 (252645135), .methodLink RX2 79 yX2_leastWith, .instanceMethod yX2_leastWith, .selects RX2 yX2_leastWith yX2_leastWith, .initialized RX2, .code yX2_leastWith cX2_leastWith 7 (some .int), .constant RX2 48 (1000000), .fieldLink RX2 18 "HopperCourt$Pairing" "steps" "[I", .methodLink RX2 55 Lib.Math.min.name, .static Lib.Math.min.name, .initialized "java/lang/Math", .code Lib.Math.min.name Lib.Math.min.code 2 (some .int)] ++ wsX20)
def wsX2_weighAllButOne_r1 : List Cond := [Cond.fieldLink RX2 27 "HopperCourt$Pairing" "otherSums" "[I", Cond.constant RX2 48 (1000000), Cond.fieldLink RX2 21 "HopperCourt$Pairing" "firstSums" "[I", Cond.fieldLink RX2 24 "HopperCourt$Pairing" "lastSums" "[I", Cond.methodLink RX2 55 Lib.Math.min.name, Cond.static Lib.Math.min.name, Cond.initialized "java/lang/Math", Cond.code Lib.Math.min.name Lib.Math.min.code 2 (some .int), Cond.methodLink RX2 38 yX2_measure, Cond.instanceMethod yX2_measure, Cond.selects RX2 yX2_measure yX2_measure, Cond.initialized RX2, Cond.code yX2_measure cX2_measure 4 none, Cond.fieldLink RX2 18 "HopperCourt$Pairing" "steps" "[I", Cond.fieldLink RX2 30 "HopperCourt$Pairing" "star" "LHopperCourt$Star;", Cond.fieldLink RX2 9 "HopperCourt$Pairing" "marbleCells" "[I", Cond.fieldLink RX2 15 "HopperCourt$Pairing" "goalCells" "[I", Cond.methodLink RX2 65 yX2_collect, Cond.instanceMethod yX2_collect, Cond.selects RX2 yX2_collect yX2_collect, Cond.code yX2_collect cX2_collect 6 none, Cond.fieldLink RX2 34 "HopperCourt$Pairing" "marbles" "LHopperCourt$Marbles;", Cond.static yX6_goalOf, Cond.initialized RX6]
def wsX2_weighAllButOne_r2 : List Cond := [Cond.code yX6_goalOf cX6_goalOf 1 (some .int), Cond.methodLink RX2 71 yX1_owner, Cond.instanceMethod yX1_owner, Cond.selects RX1 yX1_owner yX1_owner, Cond.initialized RX1, Cond.code yX1_owner cX1_owner 2 (some .int), Cond.fieldLink RX1 9 "HopperCourt$Marbles" "owners" "[I", Cond.static yX6_isCell, Cond.code yX6_isCell cX6_isCell 1 (some .boolean), Cond.methodLink RX2 76 yX5_camp, Cond.instanceMethod yX5_camp, Cond.selects RX5 yX5_camp yX5_camp, Cond.initialized RX5, Cond.code yX5_camp cX5_camp 2 (some .int), Cond.fieldLink RX5 18 "HopperCourt$Star" "camps" "[I", Cond.methodLink RX2 61 yX5_steps, Cond.instanceMethod yX5_steps, Cond.selects RX5 yX5_steps yX5_steps, Cond.code yX5_steps cX5_steps 5 (some .int), Cond.fieldLink RX5 9 "HopperCourt$Star" "rows" "[I", Cond.methodLink RX5 47 Lib.Math.abs.name, Cond.static Lib.Math.abs.name, Cond.code Lib.Math.abs.name Lib.Math.abs.code 1 (some .int), Cond.fieldLink RX5 15 "HopperCourt$Star" "columns" "[I"]
def wsX2_weighAllButOne_r3 : List Cond := [Cond.methodLink RX5 53 Lib.Math.max.name, Cond.static Lib.Math.max.name, Cond.code Lib.Math.max.name Lib.Math.max.code 2 (some .int), Cond.methodLink RX2 42 yX2_sumFirst, Cond.instanceMethod yX2_sumFirst, Cond.selects RX2 yX2_sumFirst yX2_sumFirst, Cond.code yX2_sumFirst cX2_sumFirst 2 none, Cond.methodLink RX2 49 yJ6_bitCount_0f7a4, Cond.static yJ6_bitCount_0f7a4, Cond.initialized RJ6, Cond.code yJ6_bitCount_0f7a4 cJ6_bitCount_0f7a4 1 (some .int), Cond.constant RJ6 265 (1431655765), Cond.constant RJ6 266 (858993459), Cond.constant RJ6 267 (252645135), Cond.methodLink RX2 79 yX2_leastWith, Cond.instanceMethod yX2_leastWith, Cond.selects RX2 yX2_leastWith yX2_leastWith, Cond.code yX2_leastWith cX2_leastWith 7 (some .int), Cond.methodLink RX2 45 yX2_sumLast, Cond.instanceMethod yX2_sumLast, Cond.selects RX2 yX2_sumLast yX2_sumLast, Cond.code yX2_sumLast cX2_sumLast 2 none]
def wsX2_weighAllButOne : List Cond := .code yX2_weighAllButOne cX2_weighAllButOne 7 none :: ((wsX2_weighAllButOne_r1 ++ (wsX2_weighAllButOne_r2 ++ wsX2_weighAllButOne_r3)) ++ wsX20 ++ wsX10 ++ wsX50)
def wsX2_sumWith : List Cond := .code yX2_sumWith cX2_sumWith 6 (some .int) :: ([.constant RX2 48 (1000000), .fieldLink RX2 27 "HopperCourt$Pairing" "otherSums" "[I", .fieldLink RX2 30 "HopperCourt$Pairing" "star" "LHopperCourt$Star;", .fieldLink RX2 15 "HopperCourt$Pairing" "goalCells" "[I", .methodLink RX2 55 Lib.Math.min.name, .static Lib.Math.min.name, .initialized "java/lang/Math", .code Lib.Math.min.name Lib.Math.min.code 2 (some .int), .methodLink RX2 61 yX5_steps, .instanceMethod yX5_steps, .selects RX5 yX5_steps yX5_steps, .initialized RX5, .code yX5_steps cX5_steps 5 (some .int), .fieldLink RX5 9 "HopperCourt$Star" "rows" "[I", .methodLink RX5 47 Lib.Math.abs.name, .static Lib.Math.abs.name, .code Lib.Math.abs.name Lib.Math.abs.code 1 (some .int), .fieldLink RX5 15 "HopperCourt$Star" "columns" "[I", .methodLink RX5 53 Lib.Math.max.name, .static Lib.Math.max.name, .code Lib.Math.max.name Lib.Math.max.code 2 (some .int), .static yX6_isCell, .initialized RX6, .code yX6_isCell cX6_isCell 1 (some .boolean)] ++ wsX20 ++ wsX50)
def wsX2_marbleCell : List Cond := .code yX2_marbleCell cX2_marbleCell 2 (some .int) :: ([.fieldLink RX2 9 "HopperCourt$Pairing" "marbleCells" "[I"] ++ wsX20)
def wsX3_init : List Cond := .code yX3_init cX3_init 3 none :: ([.methodLink RX3 3 objectInit, .instanceMethod objectInit, .code objectInit ⟨#[0xb1]⟩ 1 none, .arrayClass .int, .fieldLink RX3 9 "HopperCourt$Reach" "hopsToEnd" "[I", .fieldLink RX3 15 "HopperCourt$Reach" "level" "[I", .fieldLink RX3 18 "HopperCourt$Reach" "queue" "[I", .fieldLink RX3 21 "HopperCourt$Reach" "star" "LHopperCourt$Star;", .fieldLink RX3 25 "HopperCourt$Reach" "marbles" "LHopperCourt$Marbles;"] ++ wsX30)
def wsX5_next : List Cond := .code yX5_next cX5_next 3 (some .int) :: ([.fieldLink RX5 21 "HopperCourt$Star" "nexts" "[I", .static yX6_isCell, .initialized RX6, .code yX6_isCell cX6_isCell 1 (some .boolean)] ++ wsX50)
def wsX3_landing : List Cond := .code yX3_landing cX3_landing 6 (some .int) :: ([.fieldLink RX3 21 "HopperCourt$Reach" "star" "LHopperCourt$Star;", .fieldLink RX3 25 "HopperCourt$Reach" "marbles" "LHopperCourt$Marbles;", .methodLink RX3 45 yX5_next, .instanceMethod yX5_next, .selects RX5 yX5_next yX5_next, .initialized RX5, .code yX5_next cX5_next 3 (some .int), .fieldLink RX5 21 "HopperCourt$Star" "nexts" "[I", .static yX6_isCell, .initialized RX6, .code yX6_isCell cX6_isCell 1 (some .boolean), .methodLink RX3 49 yX1_isEmpty, .instanceMethod yX1_isEmpty, .selects RX1 yX1_isEmpty yX1_isEmpty, .initialized RX1, .code yX1_isEmpty cX1_isEmpty 2 (some .boolean), .fieldLink RX1 9 "HopperCourt$Marbles" "owners" "[I"] ++ wsX30 ++ wsX50 ++ wsX10)
def wsX3_spread : List Cond := .code yX3_spread cX3_spread 8 none :: ([.fieldLink RX3 15 "HopperCourt$Reach" "level" "[I", .fieldLink RX3 18 "HopperCourt$Reach" "queue" "[I", .static yX6_isCell, .initialized RX6, .code yX6_isCell cX6_isCell 1 (some .boolean), .methodLink RX3 59 yX3_landing, .instanceMethod yX3_landing, .selects RX3 yX3_landing yX3_landing, .initialized RX3, .code yX3_landing cX3_landing 6 (some .int), .fieldLink RX3 21 "HopperCourt$Reach" "star" "LHopperCourt$Star;", .fieldLink RX3 25 "HopperCourt$Reach" "marbles" "LHopperCourt$Marbles;", .methodLink RX3 45 yX5_next, .instanceMethod yX5_next, .selects RX5 yX5_next yX5_next, .initialized RX5, .code yX5_next cX5_next 3 (some .int), .fieldLink RX5 21 "HopperCourt$Star" "nexts" "[I", .methodLink RX3 49 yX1_isEmpty, .instanceMethod yX1_isEmpty, .selects RX1 yX1_isEmpty yX1_isEmpty, .initialized RX1, .code yX1_isEmpty cX1_isEmpty 2 (some .boolean), .fieldLink RX1 9 "HopperCourt$Marbles" "owners" "[I"] ++ wsX30 ++ wsX50 ++ wsX10)
def wsX3_mayEnd : List Cond := .code yX3_mayEnd cX3_mayEnd 6 (some .boolean) :: ([.fieldLink RX3 21 "HopperCourt$Reach" "star" "LHopperCourt$Star;", .static yX6_goalOf, .initialized RX6, .code yX6_goalOf cX6_goalOf 1 (some .int), .methodLink RX3 66 yX5_camp, .instanceMethod yX5_camp, .selects RX5 yX5_camp yX5_camp, .initialized RX5, .code yX5_camp cX5_camp 2 (some .int), .fieldLink RX5 18 "HopperCourt$Star" "camps" "[I", .static yX6_isCell, .code yX6_isCell cX6_isCell 1 (some .boolean)] ++ wsX30 ++ wsX50)
def wsX3_search_r1 : List Cond := [Cond.fieldLink RX3 25 "HopperCourt$Reach" "marbles" "LHopperCourt$Marbles;", Cond.fieldLink RX3 9 "HopperCourt$Reach" "hopsToEnd" "[I", Cond.fieldLink RX3 15 "HopperCourt$Reach" "level" "[I", Cond.fieldLink RX3 21 "HopperCourt$Reach" "star" "LHopperCourt$Star;", Cond.methodLink RX3 29 yX1_owner, Cond.instanceMethod yX1_owner, Cond.selects RX1 yX1_owner yX1_owner, Cond.initialized RX1, Cond.code yX1_owner cX1_owner 2 (some .int), Cond.fieldLink RX1 9 "HopperCourt$Marbles" "owners" "[I", Cond.static yX6_isCell, Cond.initialized RX6, Cond.code yX6_isCell cX6_isCell 1 (some .boolean), Cond.methodLink RX3 35 yX3_spread, Cond.instanceMethod yX3_spread, Cond.selects RX3 yX3_spread yX3_spread, Cond.initialized RX3, Cond.code yX3_spread cX3_spread 8 none, Cond.fieldLink RX3 18 "HopperCourt$Reach" "queue" "[I", Cond.methodLink RX3 59 yX3_landing, Cond.instanceMethod yX3_landing, Cond.selects RX3 yX3_landing yX3_landing, Cond.code yX3_landing cX3_landing 6 (some .int), Cond.methodLink RX3 45 yX5_next]
def wsX3_search_r2 : List Cond := [Cond.instanceMethod yX5_next, Cond.selects RX5 yX5_next yX5_next, Cond.initialized RX5, Cond.code yX5_next cX5_next 3 (some .int), Cond.fieldLink RX5 21 "HopperCourt$Star" "nexts" "[I", Cond.methodLink RX3 49 yX1_isEmpty, Cond.instanceMethod yX1_isEmpty, Cond.selects RX1 yX1_isEmpty yX1_isEmpty, Cond.code yX1_isEmpty cX1_isEmpty 2 (some .boolean), Cond.methodLink RX3 39 yX3_mayEnd, Cond.instanceMethod yX3_mayEnd, Cond.selects RX3 yX3_mayEnd yX3_mayEnd, Cond.code yX3_mayEnd cX3_mayEnd 6 (some .boolean), Cond.static yX6_goalOf, Cond.code yX6_goalOf cX6_goalOf 1 (some .int), Cond.methodLink RX3 66 yX5_camp, Cond.instanceMethod yX5_camp, Cond.selects RX5 yX5_camp yX5_camp, Cond.code yX5_camp cX5_camp 2 (some .int), Cond.fieldLink RX5 18 "HopperCourt$Star" "camps" "[I"]
def wsX3_search : List Cond := .code yX3_search cX3_search 5 none :: ((wsX3_search_r1 ++ wsX3_search_r2) ++ wsX30 ++ wsX10 ++ wsX50)
def wsX3_hopsTo : List Cond := .code yX3_hopsTo cX3_hopsTo 2 (some .int) :: ([.fieldLink RX3 9 "HopperCourt$Reach" "hopsToEnd" "[I", .static yX6_isCell, .initialized RX6, .code yX6_isCell cX6_isCell 1 (some .boolean)] ++ wsX30)
def wsX3_countEnds : List Cond := .code yX3_countEnds cX3_countEnds 3 (some .int) :: ([.fieldLink RX3 9 "HopperCourt$Reach" "hopsToEnd" "[I"] ++ wsX30)
def wsX3_end : List Cond := .code yX3_end cX3_end 4 (some .int) :: ([.fieldLink RX3 9 "HopperCourt$Reach" "hopsToEnd" "[I"] ++ wsX30)
def wsX3_lowestNearer : List Cond := .code yX3_lowestNearer cX3_lowestNearer 7 (some .int) :: ([.fieldLink RX3 15 "HopperCourt$Reach" "level" "[I", .methodLink RX3 59 yX3_landing, .instanceMethod yX3_landing, .selects RX3 yX3_landing yX3_landing, .initialized RX3, .code yX3_landing cX3_landing 6 (some .int), .fieldLink RX3 21 "HopperCourt$Reach" "star" "LHopperCourt$Star;", .fieldLink RX3 25 "HopperCourt$Reach" "marbles" "LHopperCourt$Marbles;", .methodLink RX3 45 yX5_next, .instanceMethod yX5_next, .selects RX5 yX5_next yX5_next, .initialized RX5, .code yX5_next cX5_next 3 (some .int), .fieldLink RX5 21 "HopperCourt$Star" "nexts" "[I", .static yX6_isCell, .initialized RX6, .code yX6_isCell cX6_isCell 1 (some .boolean), .methodLink RX3 49 yX1_isEmpty, .instanceMethod yX1_isEmpty, .selects RX1 yX1_isEmpty yX1_isEmpty, .initialized RX1, .code yX1_isEmpty cX1_isEmpty 2 (some .boolean), .fieldLink RX1 9 "HopperCourt$Marbles" "owners" "[I"] ++ wsX30 ++ wsX50 ++ wsX10)
def wsX3_cellBehind_r1 : List Cond := [Cond.methodLink RX3 35 yX3_spread, Cond.instanceMethod yX3_spread, Cond.selects RX3 yX3_spread yX3_spread, Cond.initialized RX3, Cond.code yX3_spread cX3_spread 8 none, Cond.fieldLink RX3 15 "HopperCourt$Reach" "level" "[I", Cond.fieldLink RX3 18 "HopperCourt$Reach" "queue" "[I", Cond.static yX6_isCell, Cond.initialized RX6, Cond.code yX6_isCell cX6_isCell 1 (some .boolean), Cond.methodLink RX3 59 yX3_landing, Cond.instanceMethod yX3_landing, Cond.selects RX3 yX3_landing yX3_landing, Cond.code yX3_landing cX3_landing 6 (some .int), Cond.fieldLink RX3 21 "HopperCourt$Reach" "star" "LHopperCourt$Star;", Cond.fieldLink RX3 25 "HopperCourt$Reach" "marbles" "LHopperCourt$Marbles;", Cond.methodLink RX3 45 yX5_next, Cond.instanceMethod yX5_next, Cond.selects RX5 yX5_next yX5_next, Cond.initialized RX5, Cond.code yX5_next cX5_next 3 (some .int), Cond.fieldLink RX5 21 "HopperCourt$Star" "nexts" "[I", Cond.methodLink RX3 49 yX1_isEmpty, Cond.instanceMethod yX1_isEmpty]
def wsX3_cellBehind_r2 : List Cond := [Cond.selects RX1 yX1_isEmpty yX1_isEmpty, Cond.initialized RX1, Cond.code yX1_isEmpty cX1_isEmpty 2 (some .boolean), Cond.fieldLink RX1 9 "HopperCourt$Marbles" "owners" "[I", Cond.methodLink RX3 56 yX3_lowestNearer, Cond.instanceMethod yX3_lowestNearer, Cond.selects RX3 yX3_lowestNearer yX3_lowestNearer, Cond.code yX3_lowestNearer cX3_lowestNearer 7 (some .int)]
def wsX3_cellBehind : List Cond := .code yX3_cellBehind cX3_cellBehind 6 (some .int) :: ((wsX3_cellBehind_r1 ++ wsX3_cellBehind_r2) ++ wsX30 ++ wsX50 ++ wsX10)
def wsX4_init : List Cond := .code yX4_init cX4_init 2 none :: ([.methodLink RX4 3 objectInit, .instanceMethod objectInit, .code objectInit ⟨#[0xb1]⟩ 1 none, .arrayClass .int, .fieldLink RX4 9 "HopperCourt$Seats" "madeBy" "[I", .fieldLink RX4 15 "HopperCourt$Seats" "places" "[I", .fieldLink RX4 18 "HopperCourt$Seats" "marbles" "LHopperCourt$Marbles;", .fieldLink RX4 22 "HopperCourt$Seats" "turn" "I"] ++ wsX40)
def wsX4_plays : List Cond := .code yX4_plays cX4_plays 2 (some .boolean) :: ([.fieldLink RX4 26 "HopperCourt$Seats" "playing" "I", .static yX6_isCamp, .initialized RX6, .code yX6_isCamp cX6_isCamp 1 (some .boolean)] ++ wsX40)
def wsX4_setUp : List Cond := .code yX4_setUp cX4_setUp 3 none :: ([.fieldLink RX4 26 "HopperCourt$Seats" "playing" "I", .fieldLink RX4 29 "HopperCourt$Seats" "out" "I", .fieldLink RX4 32 "HopperCourt$Seats" "placed" "I", .fieldLink RX4 22 "HopperCourt$Seats" "turn" "I", .fieldLink RX4 9 "HopperCourt$Seats" "madeBy" "[I", .methodLink RX4 35 yX4_plays, .instanceMethod yX4_plays, .selects RX4 yX4_plays yX4_plays, .initialized RX4, .code yX4_plays cX4_plays 2 (some .boolean), .static yX6_isCamp, .initialized RX6, .code yX6_isCamp cX6_isCamp 1 (some .boolean)] ++ wsX40)
def wsX4_hasDroppedOut : List Cond := .code yX4_hasDroppedOut cX4_hasDroppedOut 2 (some .boolean) :: ([.fieldLink RX4 29 "HopperCourt$Seats" "out" "I", .static yX6_isCamp, .initialized RX6, .code yX6_isCamp cX6_isCamp 1 (some .boolean)] ++ wsX40)
def wsX4_playerAtPlace : List Cond := .code yX4_playerAtPlace cX4_playerAtPlace 2 (some .int) :: ([.fieldLink RX4 32 "HopperCourt$Seats" "placed" "I", .fieldLink RX4 15 "HopperCourt$Seats" "places" "[I"] ++ wsX40)
def wsX4_countMove : List Cond := .code yX4_countMove cX4_countMove 1 none :: ([.fieldLink RX4 22 "HopperCourt$Seats" "turn" "I", .fieldLink RX4 9 "HopperCourt$Seats" "madeBy" "[I", .static yX6_isCamp, .initialized RX6, .code yX6_isCamp cX6_isCamp 1 (some .boolean)] ++ wsX40)
def wsX4_isPlaced : List Cond := .code yX4_isPlaced cX4_isPlaced 3 (some .boolean) :: ([.fieldLink RX4 32 "HopperCourt$Seats" "placed" "I", .fieldLink RX4 15 "HopperCourt$Seats" "places" "[I"] ++ wsX40)
def wsX4_isStillIn : List Cond := .code yX4_isStillIn cX4_isStillIn 2 (some .boolean) :: ([.methodLink RX4 35 yX4_plays, .instanceMethod yX4_plays, .selects RX4 yX4_plays yX4_plays, .initialized RX4, .code yX4_plays cX4_plays 2 (some .boolean), .fieldLink RX4 26 "HopperCourt$Seats" "playing" "I", .static yX6_isCamp, .initialized RX6, .code yX6_isCamp cX6_isCamp 1 (some .boolean), .methodLink RX4 52 yX4_hasDroppedOut, .instanceMethod yX4_hasDroppedOut, .selects RX4 yX4_hasDroppedOut yX4_hasDroppedOut, .code yX4_hasDroppedOut cX4_hasDroppedOut 2 (some .boolean), .fieldLink RX4 29 "HopperCourt$Seats" "out" "I", .methodLink RX4 55 yX4_isPlaced, .instanceMethod yX4_isPlaced, .selects RX4 yX4_isPlaced yX4_isPlaced, .code yX4_isPlaced cX4_isPlaced 3 (some .boolean), .fieldLink RX4 32 "HopperCourt$Seats" "placed" "I", .fieldLink RX4 15 "HopperCourt$Seats" "places" "[I"] ++ wsX40)
def wsX4_fillsGoal : List Cond := .code yX4_fillsGoal cX4_fillsGoal 4 (some .boolean) :: ([.fieldLink RX4 18 "HopperCourt$Seats" "marbles" "LHopperCourt$Marbles;", .static yX6_goalOf, .initialized RX6, .code yX6_goalOf cX6_goalOf 1 (some .int), .methodLink RX4 62 yX1_countInCamp, .instanceMethod yX1_countInCamp, .selects RX1 yX1_countInCamp yX1_countInCamp, .initialized RX1, .code yX1_countInCamp cX1_countInCamp 5 (some .int), .fieldLink RX1 15 "HopperCourt$Marbles" "star" "LHopperCourt$Star;", .fieldLink RX1 9 "HopperCourt$Marbles" "owners" "[I", .methodLink RX1 23 yX5_camp, .instanceMethod yX5_camp, .selects RX5 yX5_camp yX5_camp, .initialized RX5, .code yX5_camp cX5_camp 2 (some .int), .fieldLink RX5 18 "HopperCourt$Star" "camps" "[I", .static yX6_isCell, .code yX6_isCell cX6_isCell 1 (some .boolean)] ++ wsX40 ++ wsX10 ++ wsX50)
def wsX4_placeFinishers_r1 : List Cond := [Cond.fieldLink RX4 32 "HopperCourt$Seats" "placed" "I", Cond.fieldLink RX4 15 "HopperCourt$Seats" "places" "[I", Cond.methodLink RX4 42 yX4_isStillIn, Cond.instanceMethod yX4_isStillIn, Cond.selects RX4 yX4_isStillIn yX4_isStillIn, Cond.initialized RX4, Cond.code yX4_isStillIn cX4_isStillIn 2 (some .boolean), Cond.methodLink RX4 35 yX4_plays, Cond.instanceMethod yX4_plays, Cond.selects RX4 yX4_plays yX4_plays, Cond.code yX4_plays cX4_plays 2 (some .boolean), Cond.fieldLink RX4 26 "HopperCourt$Seats" "playing" "I", Cond.static yX6_isCamp, Cond.initialized RX6, Cond.code yX6_isCamp cX6_isCamp 1 (some .boolean), Cond.methodLink RX4 52 yX4_hasDroppedOut, Cond.instanceMethod yX4_hasDroppedOut, Cond.selects RX4 yX4_hasDroppedOut yX4_hasDroppedOut, Cond.code yX4_hasDroppedOut cX4_hasDroppedOut 2 (some .boolean), Cond.fieldLink RX4 29 "HopperCourt$Seats" "out" "I", Cond.methodLink RX4 55 yX4_isPlaced, Cond.instanceMethod yX4_isPlaced, Cond.selects RX4 yX4_isPlaced yX4_isPlaced, Cond.code yX4_isPlaced cX4_isPlaced 3 (some .boolean)]
def wsX4_placeFinishers_r2 : List Cond := [Cond.methodLink RX4 45 yX4_fillsGoal, Cond.instanceMethod yX4_fillsGoal, Cond.selects RX4 yX4_fillsGoal yX4_fillsGoal, Cond.code yX4_fillsGoal cX4_fillsGoal 4 (some .boolean), Cond.fieldLink RX4 18 "HopperCourt$Seats" "marbles" "LHopperCourt$Marbles;", Cond.static yX6_goalOf, Cond.code yX6_goalOf cX6_goalOf 1 (some .int), Cond.methodLink RX4 62 yX1_countInCamp, Cond.instanceMethod yX1_countInCamp, Cond.selects RX1 yX1_countInCamp yX1_countInCamp, Cond.initialized RX1, Cond.code yX1_countInCamp cX1_countInCamp 5 (some .int), Cond.fieldLink RX1 15 "HopperCourt$Marbles" "star" "LHopperCourt$Star;", Cond.fieldLink RX1 9 "HopperCourt$Marbles" "owners" "[I", Cond.methodLink RX1 23 yX5_camp, Cond.instanceMethod yX5_camp, Cond.selects RX5 yX5_camp yX5_camp, Cond.initialized RX5, Cond.code yX5_camp cX5_camp 2 (some .int), Cond.fieldLink RX5 18 "HopperCourt$Star" "camps" "[I", Cond.static yX6_isCell, Cond.code yX6_isCell cX6_isCell 1 (some .boolean)]
def wsX4_placeFinishers : List Cond := .code yX4_placeFinishers cX4_placeFinishers 3 none :: ((wsX4_placeFinishers_r1 ++ wsX4_placeFinishers_r2) ++ wsX40 ++ wsX10 ++ wsX50)
def wsX4_isTooLate : List Cond := .code yX4_isTooLate cX4_isTooLate 3 (some .boolean) :: ([.fieldLink RX4 9 "HopperCourt$Seats" "madeBy" "[I", .fieldLink RX4 18 "HopperCourt$Seats" "marbles" "LHopperCourt$Marbles;", .static yX6_isCamp, .initialized RX6, .code yX6_isCamp cX6_isCamp 1 (some .boolean), .methodLink RX4 62 yX1_countInCamp, .instanceMethod yX1_countInCamp, .selects RX1 yX1_countInCamp yX1_countInCamp, .initialized RX1, .code yX1_countInCamp cX1_countInCamp 5 (some .int), .fieldLink RX1 15 "HopperCourt$Marbles" "star" "LHopperCourt$Star;", .fieldLink RX1 9 "HopperCourt$Marbles" "owners" "[I", .methodLink RX1 23 yX5_camp, .instanceMethod yX5_camp, .selects RX5 yX5_camp yX5_camp, .initialized RX5, .code yX5_camp cX5_camp 2 (some .int), .fieldLink RX5 18 "HopperCourt$Star" "camps" "[I", .static yX6_isCell, .code yX6_isCell cX6_isCell 1 (some .boolean)] ++ wsX40 ++ wsX10 ++ wsX50)
def wsX4_goOn_r1 : List Cond := [Cond.fieldLink RX4 22 "HopperCourt$Seats" "turn" "I", Cond.fieldLink RX4 29 "HopperCourt$Seats" "out" "I", Cond.methodLink RX4 42 yX4_isStillIn, Cond.instanceMethod yX4_isStillIn, Cond.selects RX4 yX4_isStillIn yX4_isStillIn, Cond.initialized RX4, Cond.code yX4_isStillIn cX4_isStillIn 2 (some .boolean), Cond.methodLink RX4 35 yX4_plays, Cond.instanceMethod yX4_plays, Cond.selects RX4 yX4_plays yX4_plays, Cond.code yX4_plays cX4_plays 2 (some .boolean), Cond.fieldLink RX4 26 "HopperCourt$Seats" "playing" "I", Cond.static yX6_isCamp, Cond.initialized RX6, Cond.code yX6_isCamp cX6_isCamp 1 (some .boolean), Cond.methodLink RX4 52 yX4_hasDroppedOut, Cond.instanceMethod yX4_hasDroppedOut, Cond.selects RX4 yX4_hasDroppedOut yX4_hasDroppedOut, Cond.code yX4_hasDroppedOut cX4_hasDroppedOut 2 (some .boolean), Cond.methodLink RX4 55 yX4_isPlaced, Cond.instanceMethod yX4_isPlaced, Cond.selects RX4 yX4_isPlaced yX4_isPlaced, Cond.code yX4_isPlaced cX4_isPlaced 3 (some .boolean), Cond.fieldLink RX4 32 "HopperCourt$Seats" "placed" "I"]
def wsX4_goOn_r2 : List Cond := [Cond.fieldLink RX4 15 "HopperCourt$Seats" "places" "[I", Cond.methodLink RX4 49 yX4_isTooLate, Cond.instanceMethod yX4_isTooLate, Cond.selects RX4 yX4_isTooLate yX4_isTooLate, Cond.code yX4_isTooLate cX4_isTooLate 3 (some .boolean), Cond.fieldLink RX4 9 "HopperCourt$Seats" "madeBy" "[I", Cond.fieldLink RX4 18 "HopperCourt$Seats" "marbles" "LHopperCourt$Marbles;", Cond.methodLink RX4 62 yX1_countInCamp, Cond.instanceMethod yX1_countInCamp, Cond.selects RX1 yX1_countInCamp yX1_countInCamp, Cond.initialized RX1, Cond.code yX1_countInCamp cX1_countInCamp 5 (some .int), Cond.fieldLink RX1 15 "HopperCourt$Marbles" "star" "LHopperCourt$Star;", Cond.fieldLink RX1 9 "HopperCourt$Marbles" "owners" "[I", Cond.methodLink RX1 23 yX5_camp, Cond.instanceMethod yX5_camp, Cond.selects RX5 yX5_camp yX5_camp, Cond.initialized RX5, Cond.code yX5_camp cX5_camp 2 (some .int), Cond.fieldLink RX5 18 "HopperCourt$Star" "camps" "[I", Cond.static yX6_isCell, Cond.code yX6_isCell cX6_isCell 1 (some .boolean)]
def wsX4_goOn : List Cond := .code yX4_goOn cX4_goOn 5 none :: ((wsX4_goOn_r1 ++ wsX4_goOn_r2) ++ wsX40 ++ wsX10 ++ wsX50)
def wsX5_campAmong : List Cond := .code yX5_campAmong cX5_campAmong 2 (some .int) :: ([])
def wsX5_cellIn : List Cond := .code yX5_cellIn cX5_cellIn 4 (some .int) :: ([.fieldLink RX5 27 "HopperCourt$Star" "FIRST_COLUMN" "[I", .fieldLink RX5 24 "HopperCourt$Star" "FIRST_CELL" "[I"])
def wsX5_init : List Cond := .code yX5_init cX5_init 5 none :: ([.methodLink RX5 3 objectInit, .instanceMethod objectInit, .code objectInit ⟨#[0xb1]⟩ 1 none, .arrayClass .int, .fieldLink RX5 9 "HopperCourt$Star" "rows" "[I", .fieldLink RX5 15 "HopperCourt$Star" "columns" "[I", .fieldLink RX5 18 "HopperCourt$Star" "camps" "[I", .fieldLink RX5 21 "HopperCourt$Star" "nexts" "[I", .fieldLink RX5 24 "HopperCourt$Star" "FIRST_CELL" "[I", .fieldLink RX5 27 "HopperCourt$Star" "FIRST_COLUMN" "[I", .fieldLink RX5 34 "HopperCourt$Star" "ROW_STEP" "[I", .fieldLink RX5 37 "HopperCourt$Star" "COLUMN_STEP" "[I", .methodLink RX5 30 yX5_campAmong, .static yX5_campAmong, .initialized RX5, .code yX5_campAmong cX5_campAmong 2 (some .int), .methodLink RX5 40 yX5_cellIn, .static yX5_cellIn, .code yX5_cellIn cX5_cellIn 4 (some .int)] ++ wsX50)
def wsX6_init_r1 : List Cond := [Cond.methodLink RX6 1 objectInit, Cond.instanceMethod objectInit, Cond.code objectInit ⟨#[0xb1]⟩ 1 none, Cond.classLink RX6 7 RX5, Cond.instantiable RX5 4, Cond.initialized RX5, Cond.fieldLink RX6 10 "HopperCourt" "star" "LHopperCourt$Star;", Cond.classLink RX6 16 RX1, Cond.instantiable RX1 2, Cond.initialized RX1, Cond.fieldLink RX6 21 "HopperCourt" "marbles" "LHopperCourt$Marbles;", Cond.classLink RX6 25 RX3, Cond.instantiable RX3 5, Cond.initialized RX3, Cond.fieldLink RX6 30 "HopperCourt" "reach" "LHopperCourt$Reach;", Cond.classLink RX6 34 RX2, Cond.instantiable RX2 8, Cond.initialized RX2, Cond.fieldLink RX6 37 "HopperCourt" "pairing" "LHopperCourt$Pairing;", Cond.classLink RX6 41 RX4, Cond.instantiable RX4 7, Cond.initialized RX4, Cond.fieldLink RX6 46 "HopperCourt" "seats" "LHopperCourt$Seats;", Cond.classLink RX6 50 RX0]
def wsX6_init_r2 : List Cond := [Cond.instantiable RX0 6, Cond.initialized RX0, Cond.fieldLink RX6 53 "HopperCourt" "log" "LHopperCourt$Log;", Cond.fieldLink RX6 57 "HopperCourt" "fill" "I", Cond.fieldLink RX6 61 "HopperCourt" "patience" "I", Cond.methodLink RX6 9 yX5_init, Cond.instanceMethod yX5_init, Cond.code yX5_init cX5_init 5 none, Cond.methodLink RX5 3 objectInit, Cond.arrayClass .int, Cond.fieldLink RX5 9 "HopperCourt$Star" "rows" "[I", Cond.fieldLink RX5 15 "HopperCourt$Star" "columns" "[I", Cond.fieldLink RX5 18 "HopperCourt$Star" "camps" "[I", Cond.fieldLink RX5 21 "HopperCourt$Star" "nexts" "[I", Cond.fieldLink RX5 24 "HopperCourt$Star" "FIRST_CELL" "[I", Cond.fieldLink RX5 27 "HopperCourt$Star" "FIRST_COLUMN" "[I", Cond.fieldLink RX5 34 "HopperCourt$Star" "ROW_STEP" "[I", Cond.fieldLink RX5 37 "HopperCourt$Star" "COLUMN_STEP" "[I", Cond.methodLink RX5 30 yX5_campAmong, Cond.static yX5_campAmong, Cond.code yX5_campAmong cX5_campAmong 2 (some .int), Cond.methodLink RX5 40 yX5_cellIn, Cond.static yX5_cellIn, Cond.code yX5_cellIn cX5_cellIn 4 (some .int)]
def wsX6_init_r3 : List Cond := [Cond.methodLink RX6 18 yX1_init, Cond.instanceMethod yX1_init, Cond.code yX1_init cX1_init 2 none, Cond.methodLink RX1 3 objectInit, Cond.fieldLink RX1 9 "HopperCourt$Marbles" "owners" "[I", Cond.fieldLink RX1 15 "HopperCourt$Marbles" "star" "LHopperCourt$Star;", Cond.methodLink RX1 19 yX1_setUp, Cond.instanceMethod yX1_setUp, Cond.selects RX1 yX1_setUp yX1_setUp, Cond.code yX1_setUp cX1_setUp 4 none, Cond.methodLink RX1 23 yX5_camp, Cond.instanceMethod yX5_camp, Cond.selects RX5 yX5_camp yX5_camp, Cond.code yX5_camp cX5_camp 2 (some .int), Cond.static yX6_isCell, Cond.initialized RX6, Cond.code yX6_isCell cX6_isCell 1 (some .boolean), Cond.methodLink RX6 27 yX3_init, Cond.instanceMethod yX3_init, Cond.code yX3_init cX3_init 3 none, Cond.methodLink RX3 3 objectInit, Cond.fieldLink RX3 9 "HopperCourt$Reach" "hopsToEnd" "[I", Cond.fieldLink RX3 15 "HopperCourt$Reach" "level" "[I", Cond.fieldLink RX3 18 "HopperCourt$Reach" "queue" "[I"]
def wsX6_init_r4 : List Cond := [Cond.fieldLink RX3 21 "HopperCourt$Reach" "star" "LHopperCourt$Star;", Cond.fieldLink RX3 25 "HopperCourt$Reach" "marbles" "LHopperCourt$Marbles;", Cond.methodLink RX6 36 yX2_init, Cond.instanceMethod yX2_init, Cond.code yX2_init cX2_init 3 none, Cond.methodLink RX2 3 objectInit, Cond.fieldLink RX2 9 "HopperCourt$Pairing" "marbleCells" "[I", Cond.fieldLink RX2 15 "HopperCourt$Pairing" "goalCells" "[I", Cond.fieldLink RX2 18 "HopperCourt$Pairing" "steps" "[I", Cond.fieldLink RX2 21 "HopperCourt$Pairing" "firstSums" "[I", Cond.fieldLink RX2 24 "HopperCourt$Pairing" "lastSums" "[I", Cond.fieldLink RX2 27 "HopperCourt$Pairing" "otherSums" "[I", Cond.fieldLink RX2 30 "HopperCourt$Pairing" "star" "LHopperCourt$Star;", Cond.fieldLink RX2 34 "HopperCourt$Pairing" "marbles" "LHopperCourt$Marbles;", Cond.methodLink RX6 43 yX4_init, Cond.instanceMethod yX4_init, Cond.code yX4_init cX4_init 2 none, Cond.methodLink RX4 3 objectInit, Cond.fieldLink RX4 9 "HopperCourt$Seats" "madeBy" "[I", Cond.fieldLink RX4 15 "HopperCourt$Seats" "places" "[I", Cond.fieldLink RX4 18 "HopperCourt$Seats" "marbles" "LHopperCourt$Marbles;", Cond.fieldLink RX4 22 "HopperCourt$Seats" "turn" "I", Cond.instanceMethod yX0_init, Cond.code yX0_init cX0_init 1 none]
def wsX6_init_r5 : List Cond := [Cond.methodLink RX0 3 objectInit, Cond.fieldLink RX0 9 "HopperCourt$Log" "froms" "[I", Cond.fieldLink RX0 15 "HopperCourt$Log" "tos" "[I", Cond.fieldLink RX0 18 "HopperCourt$Log" "turns" "[I", Cond.fieldLink RX0 21 "HopperCourt$Log" "outs" "[I", Cond.fieldLink RX0 24 "HopperCourt$Log" "placeds" "[I"]
def wsX6_init : List Cond := .code yX6_init cX6_init 1 none :: ((wsX6_init_r1 ++ (wsX6_init_r2 ++ (wsX6_init_r3 ++ (wsX6_init_r4 ++ wsX6_init_r5)))) ++ wsX50 ++ wsX60 ++ wsX10 ++ wsX30 ++ wsX20 ++ wsX40 ++ wsX00)
def wsX6_begin_r1 : List Cond := [Cond.classLink RX6 70 "java/lang/IllegalArgumentException", Cond.initialized "java/lang/IllegalArgumentException", Cond.fieldLink RX6 21 "HopperCourt" "marbles" "LHopperCourt$Marbles;", Cond.fieldLink RX6 46 "HopperCourt" "seats" "LHopperCourt$Seats;", Cond.fieldLink RX6 53 "HopperCourt" "log" "LHopperCourt$Log;", Cond.methodLink RX6 64 yJ6_bitCount_0f7a4, Cond.static yJ6_bitCount_0f7a4, Cond.initialized RJ6, Cond.code yJ6_bitCount_0f7a4 cJ6_bitCount_0f7a4 1 (some .int), Cond.constant RJ6 265 (1431655765), Cond.constant RJ6 266 (858993459), Cond.constant RJ6 267 (252645135), Cond.methodLink RX6 77 yX1_setUp, Cond.instanceMethod yX1_setUp, Cond.selects RX1 yX1_setUp yX1_setUp, Cond.initialized RX1, Cond.code yX1_setUp cX1_setUp 4 none, Cond.fieldLink RX1 15 "HopperCourt$Marbles" "star" "LHopperCourt$Star;", Cond.fieldLink RX1 9 "HopperCourt$Marbles" "owners" "[I", Cond.methodLink RX1 23 yX5_camp, Cond.instanceMethod yX5_camp, Cond.selects RX5 yX5_camp yX5_camp, Cond.initialized RX5, Cond.code yX5_camp cX5_camp 2 (some .int)]
def wsX6_begin_r2 : List Cond := [Cond.fieldLink RX5 18 "HopperCourt$Star" "camps" "[I", Cond.static yX6_isCell, Cond.initialized RX6, Cond.code yX6_isCell cX6_isCell 1 (some .boolean), Cond.methodLink RX6 81 yX4_setUp, Cond.instanceMethod yX4_setUp, Cond.selects RX4 yX4_setUp yX4_setUp, Cond.initialized RX4, Cond.code yX4_setUp cX4_setUp 3 none, Cond.fieldLink RX4 26 "HopperCourt$Seats" "playing" "I", Cond.fieldLink RX4 29 "HopperCourt$Seats" "out" "I", Cond.fieldLink RX4 32 "HopperCourt$Seats" "placed" "I", Cond.fieldLink RX4 22 "HopperCourt$Seats" "turn" "I", Cond.fieldLink RX4 9 "HopperCourt$Seats" "madeBy" "[I", Cond.methodLink RX4 35 yX4_plays, Cond.instanceMethod yX4_plays, Cond.selects RX4 yX4_plays yX4_plays, Cond.code yX4_plays cX4_plays 2 (some .boolean), Cond.static yX6_isCamp, Cond.code yX6_isCamp cX6_isCamp 1 (some .boolean), Cond.methodLink RX6 82 yX0_clear, Cond.instanceMethod yX0_clear, Cond.selects RX0 yX0_clear yX0_clear, Cond.initialized RX0]
def wsX6_begin_r3 : List Cond := [Cond.code yX0_clear cX0_clear 1 none, Cond.fieldLink RX0 27 "HopperCourt$Log" "size" "I"]
def wsX6_begin : List Cond := .code yX6_begin cX6_begin 2 none :: ((wsX6_begin_r1 ++ (wsX6_begin_r2 ++ wsX6_begin_r3)) ++ wsX60 ++ wsX10 ++ wsX50 ++ wsX40 ++ wsX00 ++ (vx_atS RX6 74 "java/lang/IllegalArgumentException" ["java/lang/RuntimeException", "java/lang/Exception"]).filter goodWord)
def wsX6_setFill : List Cond := .code yX6_setFill cX6_setFill 3 (some .int) :: ([.classLink RX6 70 "java/lang/IllegalArgumentException", .initialized "java/lang/IllegalArgumentException", .fieldLink RX6 57 "HopperCourt" "fill" "I"] ++ wsX60 ++ (vx_atS RX6 74 "java/lang/IllegalArgumentException" ["java/lang/RuntimeException", "java/lang/Exception"]).filter goodWord)
def wsX6_setPatience : List Cond := .code yX6_setPatience cX6_setPatience 3 (some .int) :: ([.classLink RX6 70 "java/lang/IllegalArgumentException", .initialized "java/lang/IllegalArgumentException", .fieldLink RX6 61 "HopperCourt" "patience" "I"] ++ wsX60 ++ (vx_atS RX6 74 "java/lang/IllegalArgumentException" ["java/lang/RuntimeException", "java/lang/Exception"]).filter goodWord)
def wsX6_isOpen : List Cond := .code yX6_isOpen cX6_isOpen 1 (some .boolean) :: ([.fieldLink RX6 46 "HopperCourt" "seats" "LHopperCourt$Seats;", .fieldLink RX6 53 "HopperCourt" "log" "LHopperCourt$Log;", .methodLink RX6 107 yX4_onTurn, .instanceMethod yX4_onTurn, .selects RX4 yX4_onTurn yX4_onTurn, .initialized RX4, .code yX4_onTurn cX4_onTurn 1 (some .int), .fieldLink RX4 22 "HopperCourt$Seats" "turn" "I", .methodLink RX6 141 yX0_size, .instanceMethod yX0_size, .selects RX0 yX0_size yX0_size, .initialized RX0, .code yX0_size cX0_size 1 (some .int), .fieldLink RX0 27 "HopperCourt$Log" "size" "I"] ++ wsX60 ++ wsX40 ++ wsX00)
def wsX6_move_r1 : List Cond := [Cond.classLink RX6 93 "java/lang/IndexOutOfBoundsException", Cond.initialized "java/lang/IndexOutOfBoundsException", Cond.classLink RX6 102 "java/lang/IllegalStateException", Cond.initialized "java/lang/IllegalStateException", Cond.classLink RX6 70 "java/lang/IllegalArgumentException", Cond.initialized "java/lang/IllegalArgumentException", Cond.fieldLink RX6 30 "HopperCourt" "reach" "LHopperCourt$Reach;", Cond.fieldLink RX6 46 "HopperCourt" "seats" "LHopperCourt$Seats;", Cond.fieldLink RX6 53 "HopperCourt" "log" "LHopperCourt$Log;", Cond.fieldLink RX6 21 "HopperCourt" "marbles" "LHopperCourt$Marbles;", Cond.fieldLink RX6 57 "HopperCourt" "fill" "I", Cond.fieldLink RX6 61 "HopperCourt" "patience" "I", Cond.methodLink RX6 89 yX6_isCell, Cond.static yX6_isCell, Cond.initialized RX6, Cond.code yX6_isCell cX6_isCell 1 (some .boolean), Cond.methodLink RX6 98 yX6_isOpen, Cond.instanceMethod yX6_isOpen, Cond.selects RX6 yX6_isOpen yX6_isOpen, Cond.code yX6_isOpen cX6_isOpen 1 (some .boolean), Cond.methodLink RX6 107 yX4_onTurn, Cond.instanceMethod yX4_onTurn, Cond.selects RX4 yX4_onTurn yX4_onTurn, Cond.initialized RX4]
def wsX6_move_r2 : List Cond := [Cond.code yX4_onTurn cX4_onTurn 1 (some .int), Cond.fieldLink RX4 22 "HopperCourt$Seats" "turn" "I", Cond.methodLink RX6 141 yX0_size, Cond.instanceMethod yX0_size, Cond.selects RX0 yX0_size yX0_size, Cond.initialized RX0, Cond.code yX0_size cX0_size 1 (some .int), Cond.fieldLink RX0 27 "HopperCourt$Log" "size" "I", Cond.methodLink RX6 111 yX3_search, Cond.instanceMethod yX3_search, Cond.selects RX3 yX3_search yX3_search, Cond.initialized RX3, Cond.code yX3_search cX3_search 5 none, Cond.fieldLink RX3 25 "HopperCourt$Reach" "marbles" "LHopperCourt$Marbles;", Cond.fieldLink RX3 9 "HopperCourt$Reach" "hopsToEnd" "[I", Cond.fieldLink RX3 15 "HopperCourt$Reach" "level" "[I", Cond.fieldLink RX3 21 "HopperCourt$Reach" "star" "LHopperCourt$Star;", Cond.methodLink RX3 29 yX1_owner, Cond.instanceMethod yX1_owner, Cond.selects RX1 yX1_owner yX1_owner, Cond.initialized RX1, Cond.code yX1_owner cX1_owner 2 (some .int), Cond.fieldLink RX1 9 "HopperCourt$Marbles" "owners" "[I", Cond.methodLink RX3 35 yX3_spread]
def wsX6_move_r3 : List Cond := [Cond.instanceMethod yX3_spread, Cond.selects RX3 yX3_spread yX3_spread, Cond.code yX3_spread cX3_spread 8 none, Cond.fieldLink RX3 18 "HopperCourt$Reach" "queue" "[I", Cond.methodLink RX3 59 yX3_landing, Cond.instanceMethod yX3_landing, Cond.selects RX3 yX3_landing yX3_landing, Cond.code yX3_landing cX3_landing 6 (some .int), Cond.methodLink RX3 45 yX5_next, Cond.instanceMethod yX5_next, Cond.selects RX5 yX5_next yX5_next, Cond.initialized RX5, Cond.code yX5_next cX5_next 3 (some .int), Cond.fieldLink RX5 21 "HopperCourt$Star" "nexts" "[I", Cond.methodLink RX3 49 yX1_isEmpty, Cond.instanceMethod yX1_isEmpty, Cond.selects RX1 yX1_isEmpty yX1_isEmpty, Cond.code yX1_isEmpty cX1_isEmpty 2 (some .boolean), Cond.methodLink RX3 39 yX3_mayEnd, Cond.instanceMethod yX3_mayEnd, Cond.selects RX3 yX3_mayEnd yX3_mayEnd, Cond.code yX3_mayEnd cX3_mayEnd 6 (some .boolean), Cond.static yX6_goalOf, Cond.code yX6_goalOf cX6_goalOf 1 (some .int)]
def wsX6_move_r4 : List Cond := [Cond.methodLink RX3 66 yX5_camp, Cond.instanceMethod yX5_camp, Cond.selects RX5 yX5_camp yX5_camp, Cond.code yX5_camp cX5_camp 2 (some .int), Cond.fieldLink RX5 18 "HopperCourt$Star" "camps" "[I", Cond.methodLink RX6 115 yX3_hopsTo, Cond.instanceMethod yX3_hopsTo, Cond.selects RX3 yX3_hopsTo yX3_hopsTo, Cond.code yX3_hopsTo cX3_hopsTo 2 (some .int), Cond.methodLink RX6 120 yX0_add, Cond.instanceMethod yX0_add, Cond.selects RX0 yX0_add yX0_add, Cond.code yX0_add cX0_add 4 none, Cond.fieldLink RX0 9 "HopperCourt$Log" "froms" "[I", Cond.fieldLink RX0 15 "HopperCourt$Log" "tos" "[I", Cond.fieldLink RX0 18 "HopperCourt$Log" "turns" "[I", Cond.fieldLink RX0 21 "HopperCourt$Log" "outs" "[I", Cond.fieldLink RX0 24 "HopperCourt$Log" "placeds" "[I", Cond.methodLink RX0 31 yX4_onTurn, Cond.methodLink RX0 37 yX4_outSet, Cond.instanceMethod yX4_outSet, Cond.selects RX4 yX4_outSet yX4_outSet, Cond.code yX4_outSet cX4_outSet 1 (some .int), Cond.fieldLink RX4 29 "HopperCourt$Seats" "out" "I"]
def wsX6_move_r5 : List Cond := [Cond.methodLink RX0 40 yX4_placedCount, Cond.instanceMethod yX4_placedCount, Cond.selects RX4 yX4_placedCount yX4_placedCount, Cond.code yX4_placedCount cX4_placedCount 1 (some .int), Cond.fieldLink RX4 32 "HopperCourt$Seats" "placed" "I", Cond.methodLink RX6 124 yX1_carry, Cond.instanceMethod yX1_carry, Cond.selects RX1 yX1_carry yX1_carry, Cond.code yX1_carry cX1_carry 3 none, Cond.methodLink RX6 127 yX4_countMove, Cond.instanceMethod yX4_countMove, Cond.selects RX4 yX4_countMove yX4_countMove, Cond.code yX4_countMove cX4_countMove 1 none, Cond.fieldLink RX4 9 "HopperCourt$Seats" "madeBy" "[I", Cond.static yX6_isCamp, Cond.code yX6_isCamp cX6_isCamp 1 (some .boolean), Cond.methodLink RX6 130 yX4_placeFinishers, Cond.instanceMethod yX4_placeFinishers, Cond.selects RX4 yX4_placeFinishers yX4_placeFinishers, Cond.code yX4_placeFinishers cX4_placeFinishers 3 none, Cond.fieldLink RX4 15 "HopperCourt$Seats" "places" "[I", Cond.methodLink RX4 42 yX4_isStillIn, Cond.instanceMethod yX4_isStillIn, Cond.selects RX4 yX4_isStillIn yX4_isStillIn]
def wsX6_move_r6 : List Cond := [Cond.code yX4_isStillIn cX4_isStillIn 2 (some .boolean), Cond.methodLink RX4 35 yX4_plays, Cond.instanceMethod yX4_plays, Cond.selects RX4 yX4_plays yX4_plays, Cond.code yX4_plays cX4_plays 2 (some .boolean), Cond.fieldLink RX4 26 "HopperCourt$Seats" "playing" "I", Cond.methodLink RX4 52 yX4_hasDroppedOut, Cond.instanceMethod yX4_hasDroppedOut, Cond.selects RX4 yX4_hasDroppedOut yX4_hasDroppedOut, Cond.code yX4_hasDroppedOut cX4_hasDroppedOut 2 (some .boolean), Cond.methodLink RX4 55 yX4_isPlaced, Cond.instanceMethod yX4_isPlaced, Cond.selects RX4 yX4_isPlaced yX4_isPlaced, Cond.code yX4_isPlaced cX4_isPlaced 3 (some .boolean), Cond.methodLink RX4 45 yX4_fillsGoal, Cond.instanceMethod yX4_fillsGoal, Cond.selects RX4 yX4_fillsGoal yX4_fillsGoal, Cond.code yX4_fillsGoal cX4_fillsGoal 4 (some .boolean), Cond.fieldLink RX4 18 "HopperCourt$Seats" "marbles" "LHopperCourt$Marbles;", Cond.methodLink RX4 62 yX1_countInCamp, Cond.instanceMethod yX1_countInCamp, Cond.selects RX1 yX1_countInCamp yX1_countInCamp, Cond.code yX1_countInCamp cX1_countInCamp 5 (some .int), Cond.fieldLink RX1 15 "HopperCourt$Marbles" "star" "LHopperCourt$Star;"]
def wsX6_move_r7 : List Cond := [Cond.methodLink RX1 23 yX5_camp, Cond.methodLink RX6 133 yX4_goOn, Cond.instanceMethod yX4_goOn, Cond.selects RX4 yX4_goOn yX4_goOn, Cond.code yX4_goOn cX4_goOn 5 none, Cond.methodLink RX4 49 yX4_isTooLate, Cond.instanceMethod yX4_isTooLate, Cond.selects RX4 yX4_isTooLate yX4_isTooLate, Cond.code yX4_isTooLate cX4_isTooLate 3 (some .boolean)]
def wsX6_move : List Cond := .code yX6_move cX6_move 4 (some .int) :: ((wsX6_move_r1 ++ (wsX6_move_r2 ++ (wsX6_move_r3 ++ (wsX6_move_r4 ++ (wsX6_move_r5 ++ (wsX6_move_r6 ++ wsX6_move_r7)))))) ++ wsX60 ++ wsX40 ++ wsX00 ++ wsX30 ++ wsX10 ++ wsX50 ++ (vx_atS RX6 97 "java/lang/IndexOutOfBoundsException" ["java/lang/RuntimeException", "java/lang/Exception"]).filter goodWord ++ (vx_atS RX6 106 "java/lang/IllegalStateException" ["java/lang/RuntimeException", "java/lang/Exception"]).filter goodWord ++ (vx_atS RX6 74 "java/lang/IllegalArgumentException" ["java/lang/RuntimeException", "java/lang/Exception"]).filter goodWord)
def wsX6_moves_r1 : List Cond := [Cond.fieldLink RX6 46 "HopperCourt" "seats" "LHopperCourt$Seats;", Cond.fieldLink RX6 21 "HopperCourt" "marbles" "LHopperCourt$Marbles;", Cond.fieldLink RX6 30 "HopperCourt" "reach" "LHopperCourt$Reach;", Cond.methodLink RX6 107 yX4_onTurn, Cond.instanceMethod yX4_onTurn, Cond.selects RX4 yX4_onTurn yX4_onTurn, Cond.initialized RX4, Cond.code yX4_onTurn cX4_onTurn 1 (some .int), Cond.fieldLink RX4 22 "HopperCourt$Seats" "turn" "I", Cond.methodLink RX6 150 yX1_owner, Cond.instanceMethod yX1_owner, Cond.selects RX1 yX1_owner yX1_owner, Cond.initialized RX1, Cond.code yX1_owner cX1_owner 2 (some .int), Cond.fieldLink RX1 9 "HopperCourt$Marbles" "owners" "[I", Cond.static yX6_isCell, Cond.initialized RX6, Cond.code yX6_isCell cX6_isCell 1 (some .boolean), Cond.methodLink RX6 111 yX3_search, Cond.instanceMethod yX3_search, Cond.selects RX3 yX3_search yX3_search, Cond.initialized RX3, Cond.code yX3_search cX3_search 5 none, Cond.fieldLink RX3 25 "HopperCourt$Reach" "marbles" "LHopperCourt$Marbles;"]
def wsX6_moves_r2 : List Cond := [Cond.fieldLink RX3 9 "HopperCourt$Reach" "hopsToEnd" "[I", Cond.fieldLink RX3 15 "HopperCourt$Reach" "level" "[I", Cond.fieldLink RX3 21 "HopperCourt$Reach" "star" "LHopperCourt$Star;", Cond.methodLink RX3 29 yX1_owner, Cond.methodLink RX3 35 yX3_spread, Cond.instanceMethod yX3_spread, Cond.selects RX3 yX3_spread yX3_spread, Cond.code yX3_spread cX3_spread 8 none, Cond.fieldLink RX3 18 "HopperCourt$Reach" "queue" "[I", Cond.methodLink RX3 59 yX3_landing, Cond.instanceMethod yX3_landing, Cond.selects RX3 yX3_landing yX3_landing, Cond.code yX3_landing cX3_landing 6 (some .int), Cond.methodLink RX3 45 yX5_next, Cond.instanceMethod yX5_next, Cond.selects RX5 yX5_next yX5_next, Cond.initialized RX5, Cond.code yX5_next cX5_next 3 (some .int), Cond.fieldLink RX5 21 "HopperCourt$Star" "nexts" "[I", Cond.methodLink RX3 49 yX1_isEmpty, Cond.instanceMethod yX1_isEmpty, Cond.selects RX1 yX1_isEmpty yX1_isEmpty, Cond.code yX1_isEmpty cX1_isEmpty 2 (some .boolean), Cond.methodLink RX3 39 yX3_mayEnd]
def wsX6_moves_r3 : List Cond := [Cond.instanceMethod yX3_mayEnd, Cond.selects RX3 yX3_mayEnd yX3_mayEnd, Cond.code yX3_mayEnd cX3_mayEnd 6 (some .boolean), Cond.static yX6_goalOf, Cond.code yX6_goalOf cX6_goalOf 1 (some .int), Cond.methodLink RX3 66 yX5_camp, Cond.instanceMethod yX5_camp, Cond.selects RX5 yX5_camp yX5_camp, Cond.code yX5_camp cX5_camp 2 (some .int), Cond.fieldLink RX5 18 "HopperCourt$Star" "camps" "[I", Cond.methodLink RX6 163 yX3_countEnds, Cond.instanceMethod yX3_countEnds, Cond.selects RX3 yX3_countEnds yX3_countEnds, Cond.code yX3_countEnds cX3_countEnds 3 (some .int)]
def wsX6_moves : List Cond := .code yX6_moves cX6_moves 4 (some .int) :: ((wsX6_moves_r1 ++ (wsX6_moves_r2 ++ wsX6_moves_r3)) ++ wsX60 ++ wsX40 ++ wsX10 ++ wsX30 ++ wsX50)
def wsX6_pass_r1 : List Cond := [Cond.classLink RX6 102 "java/lang/IllegalStateException", Cond.initialized "java/lang/IllegalStateException", Cond.fieldLink RX6 53 "HopperCourt" "log" "LHopperCourt$Log;", Cond.fieldLink RX6 46 "HopperCourt" "seats" "LHopperCourt$Seats;", Cond.fieldLink RX6 61 "HopperCourt" "patience" "I", Cond.methodLink RX6 98 yX6_isOpen, Cond.instanceMethod yX6_isOpen, Cond.selects RX6 yX6_isOpen yX6_isOpen, Cond.initialized RX6, Cond.code yX6_isOpen cX6_isOpen 1 (some .boolean), Cond.methodLink RX6 107 yX4_onTurn, Cond.instanceMethod yX4_onTurn, Cond.selects RX4 yX4_onTurn yX4_onTurn, Cond.initialized RX4, Cond.code yX4_onTurn cX4_onTurn 1 (some .int), Cond.fieldLink RX4 22 "HopperCourt$Seats" "turn" "I", Cond.methodLink RX6 141 yX0_size, Cond.instanceMethod yX0_size, Cond.selects RX0 yX0_size yX0_size, Cond.initialized RX0, Cond.code yX0_size cX0_size 1 (some .int), Cond.fieldLink RX0 27 "HopperCourt$Log" "size" "I", Cond.methodLink RX6 136 yX6_moves, Cond.instanceMethod yX6_moves]
def wsX6_pass_r2 : List Cond := [Cond.selects RX6 yX6_moves yX6_moves, Cond.code yX6_moves cX6_moves 4 (some .int), Cond.fieldLink RX6 21 "HopperCourt" "marbles" "LHopperCourt$Marbles;", Cond.fieldLink RX6 30 "HopperCourt" "reach" "LHopperCourt$Reach;", Cond.methodLink RX6 150 yX1_owner, Cond.instanceMethod yX1_owner, Cond.selects RX1 yX1_owner yX1_owner, Cond.initialized RX1, Cond.code yX1_owner cX1_owner 2 (some .int), Cond.fieldLink RX1 9 "HopperCourt$Marbles" "owners" "[I", Cond.static yX6_isCell, Cond.code yX6_isCell cX6_isCell 1 (some .boolean), Cond.methodLink RX6 111 yX3_search, Cond.instanceMethod yX3_search, Cond.selects RX3 yX3_search yX3_search, Cond.initialized RX3, Cond.code yX3_search cX3_search 5 none, Cond.fieldLink RX3 25 "HopperCourt$Reach" "marbles" "LHopperCourt$Marbles;", Cond.fieldLink RX3 9 "HopperCourt$Reach" "hopsToEnd" "[I", Cond.fieldLink RX3 15 "HopperCourt$Reach" "level" "[I", Cond.fieldLink RX3 21 "HopperCourt$Reach" "star" "LHopperCourt$Star;", Cond.methodLink RX3 29 yX1_owner, Cond.methodLink RX3 35 yX3_spread, Cond.instanceMethod yX3_spread]
def wsX6_pass_r3 : List Cond := [Cond.selects RX3 yX3_spread yX3_spread, Cond.code yX3_spread cX3_spread 8 none, Cond.fieldLink RX3 18 "HopperCourt$Reach" "queue" "[I", Cond.methodLink RX3 59 yX3_landing, Cond.instanceMethod yX3_landing, Cond.selects RX3 yX3_landing yX3_landing, Cond.code yX3_landing cX3_landing 6 (some .int), Cond.methodLink RX3 45 yX5_next, Cond.instanceMethod yX5_next, Cond.selects RX5 yX5_next yX5_next, Cond.initialized RX5, Cond.code yX5_next cX5_next 3 (some .int), Cond.fieldLink RX5 21 "HopperCourt$Star" "nexts" "[I", Cond.methodLink RX3 49 yX1_isEmpty, Cond.instanceMethod yX1_isEmpty, Cond.selects RX1 yX1_isEmpty yX1_isEmpty, Cond.code yX1_isEmpty cX1_isEmpty 2 (some .boolean), Cond.methodLink RX3 39 yX3_mayEnd, Cond.instanceMethod yX3_mayEnd, Cond.selects RX3 yX3_mayEnd yX3_mayEnd, Cond.code yX3_mayEnd cX3_mayEnd 6 (some .boolean), Cond.static yX6_goalOf, Cond.code yX6_goalOf cX6_goalOf 1 (some .int), Cond.methodLink RX3 66 yX5_camp]
def wsX6_pass_r4 : List Cond := [Cond.instanceMethod yX5_camp, Cond.selects RX5 yX5_camp yX5_camp, Cond.code yX5_camp cX5_camp 2 (some .int), Cond.fieldLink RX5 18 "HopperCourt$Star" "camps" "[I", Cond.methodLink RX6 163 yX3_countEnds, Cond.instanceMethod yX3_countEnds, Cond.selects RX3 yX3_countEnds yX3_countEnds, Cond.code yX3_countEnds cX3_countEnds 3 (some .int), Cond.methodLink RX6 120 yX0_add, Cond.instanceMethod yX0_add, Cond.selects RX0 yX0_add yX0_add, Cond.code yX0_add cX0_add 4 none, Cond.fieldLink RX0 9 "HopperCourt$Log" "froms" "[I", Cond.fieldLink RX0 15 "HopperCourt$Log" "tos" "[I", Cond.fieldLink RX0 18 "HopperCourt$Log" "turns" "[I", Cond.fieldLink RX0 21 "HopperCourt$Log" "outs" "[I", Cond.fieldLink RX0 24 "HopperCourt$Log" "placeds" "[I", Cond.methodLink RX0 31 yX4_onTurn, Cond.methodLink RX0 37 yX4_outSet, Cond.instanceMethod yX4_outSet, Cond.selects RX4 yX4_outSet yX4_outSet, Cond.code yX4_outSet cX4_outSet 1 (some .int), Cond.fieldLink RX4 29 "HopperCourt$Seats" "out" "I", Cond.methodLink RX0 40 yX4_placedCount]
def wsX6_pass_r5 : List Cond := [Cond.instanceMethod yX4_placedCount, Cond.selects RX4 yX4_placedCount yX4_placedCount, Cond.code yX4_placedCount cX4_placedCount 1 (some .int), Cond.fieldLink RX4 32 "HopperCourt$Seats" "placed" "I", Cond.methodLink RX6 127 yX4_countMove, Cond.instanceMethod yX4_countMove, Cond.selects RX4 yX4_countMove yX4_countMove, Cond.code yX4_countMove cX4_countMove 1 none, Cond.fieldLink RX4 9 "HopperCourt$Seats" "madeBy" "[I", Cond.static yX6_isCamp, Cond.code yX6_isCamp cX6_isCamp 1 (some .boolean), Cond.methodLink RX6 133 yX4_goOn, Cond.instanceMethod yX4_goOn, Cond.selects RX4 yX4_goOn yX4_goOn, Cond.code yX4_goOn cX4_goOn 5 none, Cond.methodLink RX4 42 yX4_isStillIn, Cond.instanceMethod yX4_isStillIn, Cond.selects RX4 yX4_isStillIn yX4_isStillIn, Cond.code yX4_isStillIn cX4_isStillIn 2 (some .boolean), Cond.methodLink RX4 35 yX4_plays, Cond.instanceMethod yX4_plays, Cond.selects RX4 yX4_plays yX4_plays, Cond.code yX4_plays cX4_plays 2 (some .boolean), Cond.fieldLink RX4 26 "HopperCourt$Seats" "playing" "I"]
def wsX6_pass_r6 : List Cond := [Cond.methodLink RX4 52 yX4_hasDroppedOut, Cond.instanceMethod yX4_hasDroppedOut, Cond.selects RX4 yX4_hasDroppedOut yX4_hasDroppedOut, Cond.code yX4_hasDroppedOut cX4_hasDroppedOut 2 (some .boolean), Cond.methodLink RX4 55 yX4_isPlaced, Cond.instanceMethod yX4_isPlaced, Cond.selects RX4 yX4_isPlaced yX4_isPlaced, Cond.code yX4_isPlaced cX4_isPlaced 3 (some .boolean), Cond.fieldLink RX4 15 "HopperCourt$Seats" "places" "[I", Cond.methodLink RX4 49 yX4_isTooLate, Cond.instanceMethod yX4_isTooLate, Cond.selects RX4 yX4_isTooLate yX4_isTooLate, Cond.code yX4_isTooLate cX4_isTooLate 3 (some .boolean), Cond.fieldLink RX4 18 "HopperCourt$Seats" "marbles" "LHopperCourt$Marbles;", Cond.methodLink RX4 62 yX1_countInCamp, Cond.instanceMethod yX1_countInCamp, Cond.selects RX1 yX1_countInCamp yX1_countInCamp, Cond.code yX1_countInCamp cX1_countInCamp 5 (some .int), Cond.fieldLink RX1 15 "HopperCourt$Marbles" "star" "LHopperCourt$Star;", Cond.methodLink RX1 23 yX5_camp]
def wsX6_pass : List Cond := .code yX6_pass cX6_pass 1 none :: ((wsX6_pass_r1 ++ (wsX6_pass_r2 ++ (wsX6_pass_r3 ++ (wsX6_pass_r4 ++ (wsX6_pass_r5 ++ wsX6_pass_r6))))) ++ wsX60 ++ wsX40 ++ wsX00 ++ wsX10 ++ wsX30 ++ wsX50 ++ (vx_atS RX6 106 "java/lang/IllegalStateException" ["java/lang/RuntimeException", "java/lang/Exception"]).filter goodWord)
def wsX6_undo_r1 : List Cond := [Cond.classLink RX6 102 "java/lang/IllegalStateException", Cond.initialized "java/lang/IllegalStateException", Cond.fieldLink RX6 53 "HopperCourt" "log" "LHopperCourt$Log;", Cond.fieldLink RX6 21 "HopperCourt" "marbles" "LHopperCourt$Marbles;", Cond.fieldLink RX6 46 "HopperCourt" "seats" "LHopperCourt$Seats;", Cond.methodLink RX6 141 yX0_size, Cond.instanceMethod yX0_size, Cond.selects RX0 yX0_size yX0_size, Cond.initialized RX0, Cond.code yX0_size cX0_size 1 (some .int), Cond.fieldLink RX0 27 "HopperCourt$Log" "size" "I", Cond.methodLink RX6 146 yX0_takeBack, Cond.instanceMethod yX0_takeBack, Cond.selects RX0 yX0_takeBack yX0_takeBack, Cond.code yX0_takeBack cX0_takeBack 3 none, Cond.fieldLink RX0 15 "HopperCourt$Log" "tos" "[I", Cond.fieldLink RX0 9 "HopperCourt$Log" "froms" "[I", Cond.fieldLink RX0 18 "HopperCourt$Log" "turns" "[I", Cond.fieldLink RX0 21 "HopperCourt$Log" "outs" "[I", Cond.fieldLink RX0 24 "HopperCourt$Log" "placeds" "[I", Cond.methodLink RX0 43 yX1_carry, Cond.instanceMethod yX1_carry, Cond.selects RX1 yX1_carry yX1_carry, Cond.initialized RX1]
def wsX6_undo_r2 : List Cond := [Cond.code yX1_carry cX1_carry 3 none, Cond.fieldLink RX1 9 "HopperCourt$Marbles" "owners" "[I", Cond.static yX6_isCell, Cond.initialized RX6, Cond.code yX6_isCell cX6_isCell 1 (some .boolean), Cond.methodLink RX0 49 yX4_restore, Cond.instanceMethod yX4_restore, Cond.selects RX4 yX4_restore yX4_restore, Cond.initialized RX4, Cond.code yX4_restore cX4_restore 4 none, Cond.fieldLink RX4 22 "HopperCourt$Seats" "turn" "I", Cond.fieldLink RX4 29 "HopperCourt$Seats" "out" "I", Cond.fieldLink RX4 32 "HopperCourt$Seats" "placed" "I", Cond.fieldLink RX4 9 "HopperCourt$Seats" "madeBy" "[I", Cond.static yX6_isCamp, Cond.code yX6_isCamp cX6_isCamp 1 (some .boolean)]
def wsX6_undo : List Cond := .code yX6_undo cX6_undo 1 (some .int) :: ((wsX6_undo_r1 ++ wsX6_undo_r2) ++ wsX60 ++ wsX00 ++ wsX10 ++ wsX40 ++ (vx_atS RX6 106 "java/lang/IllegalStateException" ["java/lang/RuntimeException", "java/lang/Exception"]).filter goodWord)
def wsX6_at : List Cond := .code yX6_at cX6_at 2 (some .int) :: ([.classLink RX6 93 "java/lang/IndexOutOfBoundsException", .initialized "java/lang/IndexOutOfBoundsException", .fieldLink RX6 21 "HopperCourt" "marbles" "LHopperCourt$Marbles;", .methodLink RX6 89 yX6_isCell, .static yX6_isCell, .initialized RX6, .code yX6_isCell cX6_isCell 1 (some .boolean), .methodLink RX6 150 yX1_owner, .instanceMethod yX1_owner, .selects RX1 yX1_owner yX1_owner, .initialized RX1, .code yX1_owner cX1_owner 2 (some .int), .fieldLink RX1 9 "HopperCourt$Marbles" "owners" "[I"] ++ wsX60 ++ wsX10 ++ (vx_atS RX6 97 "java/lang/IndexOutOfBoundsException" ["java/lang/RuntimeException", "java/lang/Exception"]).filter goodWord)
def wsX6_cellAt : List Cond := .code yX6_cellAt cX6_cellAt 3 (some .int) :: ([.methodLink RX6 153 yX5_cellIn, .static yX5_cellIn, .initialized RX5, .code yX5_cellIn cX5_cellIn 4 (some .int), .fieldLink RX5 27 "HopperCourt$Star" "FIRST_COLUMN" "[I", .fieldLink RX5 24 "HopperCourt$Star" "FIRST_CELL" "[I"])
def wsX6_campOf : List Cond := .code yX6_campOf cX6_campOf 2 (some .int) :: ([.classLink RX6 93 "java/lang/IndexOutOfBoundsException", .initialized "java/lang/IndexOutOfBoundsException", .fieldLink RX6 10 "HopperCourt" "star" "LHopperCourt$Star;", .methodLink RX6 89 yX6_isCell, .static yX6_isCell, .initialized RX6, .code yX6_isCell cX6_isCell 1 (some .boolean), .methodLink RX6 157 yX5_camp, .instanceMethod yX5_camp, .selects RX5 yX5_camp yX5_camp, .initialized RX5, .code yX5_camp cX5_camp 2 (some .int), .fieldLink RX5 18 "HopperCourt$Star" "camps" "[I"] ++ wsX60 ++ wsX50 ++ (vx_atS RX6 97 "java/lang/IndexOutOfBoundsException" ["java/lang/RuntimeException", "java/lang/Exception"]).filter goodWord)
def wsX6_distance : List Cond := .code yX6_distance cX6_distance 3 (some .int) :: ([.classLink RX6 93 "java/lang/IndexOutOfBoundsException", .initialized "java/lang/IndexOutOfBoundsException", .fieldLink RX6 10 "HopperCourt" "star" "LHopperCourt$Star;", .methodLink RX6 89 yX6_isCell, .static yX6_isCell, .initialized RX6, .code yX6_isCell cX6_isCell 1 (some .boolean), .methodLink RX6 160 yX5_steps, .instanceMethod yX5_steps, .selects RX5 yX5_steps yX5_steps, .initialized RX5, .code yX5_steps cX5_steps 5 (some .int), .fieldLink RX5 9 "HopperCourt$Star" "rows" "[I", .methodLink RX5 47 Lib.Math.abs.name, .static Lib.Math.abs.name, .initialized "java/lang/Math", .code Lib.Math.abs.name Lib.Math.abs.code 1 (some .int), .fieldLink RX5 15 "HopperCourt$Star" "columns" "[I", .methodLink RX5 53 Lib.Math.max.name, .static Lib.Math.max.name, .code Lib.Math.max.name Lib.Math.max.code 2 (some .int)] ++ wsX60 ++ wsX50 ++ (vx_atS RX6 97 "java/lang/IndexOutOfBoundsException" ["java/lang/RuntimeException", "java/lang/Exception"]).filter goodWord)
def wsX6_turn : List Cond := .code yX6_turn cX6_turn 1 (some .int) :: ([.fieldLink RX6 46 "HopperCourt" "seats" "LHopperCourt$Seats;", .methodLink RX6 107 yX4_onTurn, .instanceMethod yX4_onTurn, .selects RX4 yX4_onTurn yX4_onTurn, .initialized RX4, .code yX4_onTurn cX4_onTurn 1 (some .int), .fieldLink RX4 22 "HopperCourt$Seats" "turn" "I"] ++ wsX60 ++ wsX40)
def wsX6_made : List Cond := .code yX6_made cX6_made 1 (some .int) :: ([.fieldLink RX6 53 "HopperCourt" "log" "LHopperCourt$Log;", .methodLink RX6 141 yX0_size, .instanceMethod yX0_size, .selects RX0 yX0_size yX0_size, .initialized RX0, .code yX0_size cX0_size 1 (some .int), .fieldLink RX0 27 "HopperCourt$Log" "size" "I"] ++ wsX60 ++ wsX00)
def wsX6_ends_r1 : List Cond := [Cond.classLink RX6 93 "java/lang/IndexOutOfBoundsException", Cond.initialized "java/lang/IndexOutOfBoundsException", Cond.fieldLink RX6 30 "HopperCourt" "reach" "LHopperCourt$Reach;", Cond.fieldLink RX6 46 "HopperCourt" "seats" "LHopperCourt$Seats;", Cond.methodLink RX6 89 yX6_isCell, Cond.static yX6_isCell, Cond.initialized RX6, Cond.code yX6_isCell cX6_isCell 1 (some .boolean), Cond.methodLink RX6 107 yX4_onTurn, Cond.instanceMethod yX4_onTurn, Cond.selects RX4 yX4_onTurn yX4_onTurn, Cond.initialized RX4, Cond.code yX4_onTurn cX4_onTurn 1 (some .int), Cond.fieldLink RX4 22 "HopperCourt$Seats" "turn" "I", Cond.methodLink RX6 111 yX3_search, Cond.instanceMethod yX3_search, Cond.selects RX3 yX3_search yX3_search, Cond.initialized RX3, Cond.code yX3_search cX3_search 5 none, Cond.fieldLink RX3 25 "HopperCourt$Reach" "marbles" "LHopperCourt$Marbles;", Cond.fieldLink RX3 9 "HopperCourt$Reach" "hopsToEnd" "[I", Cond.fieldLink RX3 15 "HopperCourt$Reach" "level" "[I", Cond.fieldLink RX3 21 "HopperCourt$Reach" "star" "LHopperCourt$Star;", Cond.methodLink RX3 29 yX1_owner]
def wsX6_ends_r2 : List Cond := [Cond.instanceMethod yX1_owner, Cond.selects RX1 yX1_owner yX1_owner, Cond.initialized RX1, Cond.code yX1_owner cX1_owner 2 (some .int), Cond.fieldLink RX1 9 "HopperCourt$Marbles" "owners" "[I", Cond.methodLink RX3 35 yX3_spread, Cond.instanceMethod yX3_spread, Cond.selects RX3 yX3_spread yX3_spread, Cond.code yX3_spread cX3_spread 8 none, Cond.fieldLink RX3 18 "HopperCourt$Reach" "queue" "[I", Cond.methodLink RX3 59 yX3_landing, Cond.instanceMethod yX3_landing, Cond.selects RX3 yX3_landing yX3_landing, Cond.code yX3_landing cX3_landing 6 (some .int), Cond.methodLink RX3 45 yX5_next, Cond.instanceMethod yX5_next, Cond.selects RX5 yX5_next yX5_next, Cond.initialized RX5, Cond.code yX5_next cX5_next 3 (some .int), Cond.fieldLink RX5 21 "HopperCourt$Star" "nexts" "[I", Cond.methodLink RX3 49 yX1_isEmpty, Cond.instanceMethod yX1_isEmpty, Cond.selects RX1 yX1_isEmpty yX1_isEmpty, Cond.code yX1_isEmpty cX1_isEmpty 2 (some .boolean)]
def wsX6_ends_r3 : List Cond := [Cond.methodLink RX3 39 yX3_mayEnd, Cond.instanceMethod yX3_mayEnd, Cond.selects RX3 yX3_mayEnd yX3_mayEnd, Cond.code yX3_mayEnd cX3_mayEnd 6 (some .boolean), Cond.static yX6_goalOf, Cond.code yX6_goalOf cX6_goalOf 1 (some .int), Cond.methodLink RX3 66 yX5_camp, Cond.instanceMethod yX5_camp, Cond.selects RX5 yX5_camp yX5_camp, Cond.code yX5_camp cX5_camp 2 (some .int), Cond.fieldLink RX5 18 "HopperCourt$Star" "camps" "[I", Cond.methodLink RX6 163 yX3_countEnds, Cond.instanceMethod yX3_countEnds, Cond.selects RX3 yX3_countEnds yX3_countEnds, Cond.code yX3_countEnds cX3_countEnds 3 (some .int)]
def wsX6_ends : List Cond := .code yX6_ends cX6_ends 2 (some .int) :: ((wsX6_ends_r1 ++ (wsX6_ends_r2 ++ wsX6_ends_r3)) ++ wsX60 ++ wsX40 ++ wsX30 ++ wsX10 ++ wsX50 ++ (vx_atS RX6 97 "java/lang/IndexOutOfBoundsException" ["java/lang/RuntimeException", "java/lang/Exception"]).filter goodWord)
def wsX6_endAt_r1 : List Cond := [Cond.classLink RX6 93 "java/lang/IndexOutOfBoundsException", Cond.initialized "java/lang/IndexOutOfBoundsException", Cond.fieldLink RX6 30 "HopperCourt" "reach" "LHopperCourt$Reach;", Cond.fieldLink RX6 46 "HopperCourt" "seats" "LHopperCourt$Seats;", Cond.methodLink RX6 89 yX6_isCell, Cond.static yX6_isCell, Cond.initialized RX6, Cond.code yX6_isCell cX6_isCell 1 (some .boolean), Cond.methodLink RX6 107 yX4_onTurn, Cond.instanceMethod yX4_onTurn, Cond.selects RX4 yX4_onTurn yX4_onTurn, Cond.initialized RX4, Cond.code yX4_onTurn cX4_onTurn 1 (some .int), Cond.fieldLink RX4 22 "HopperCourt$Seats" "turn" "I", Cond.methodLink RX6 111 yX3_search, Cond.instanceMethod yX3_search, Cond.selects RX3 yX3_search yX3_search, Cond.initialized RX3, Cond.code yX3_search cX3_search 5 none, Cond.fieldLink RX3 25 "HopperCourt$Reach" "marbles" "LHopperCourt$Marbles;", Cond.fieldLink RX3 9 "HopperCourt$Reach" "hopsToEnd" "[I", Cond.fieldLink RX3 15 "HopperCourt$Reach" "level" "[I", Cond.fieldLink RX3 21 "HopperCourt$Reach" "star" "LHopperCourt$Star;", Cond.methodLink RX3 29 yX1_owner]
def wsX6_endAt_r2 : List Cond := [Cond.instanceMethod yX1_owner, Cond.selects RX1 yX1_owner yX1_owner, Cond.initialized RX1, Cond.code yX1_owner cX1_owner 2 (some .int), Cond.fieldLink RX1 9 "HopperCourt$Marbles" "owners" "[I", Cond.methodLink RX3 35 yX3_spread, Cond.instanceMethod yX3_spread, Cond.selects RX3 yX3_spread yX3_spread, Cond.code yX3_spread cX3_spread 8 none, Cond.fieldLink RX3 18 "HopperCourt$Reach" "queue" "[I", Cond.methodLink RX3 59 yX3_landing, Cond.instanceMethod yX3_landing, Cond.selects RX3 yX3_landing yX3_landing, Cond.code yX3_landing cX3_landing 6 (some .int), Cond.methodLink RX3 45 yX5_next, Cond.instanceMethod yX5_next, Cond.selects RX5 yX5_next yX5_next, Cond.initialized RX5, Cond.code yX5_next cX5_next 3 (some .int), Cond.fieldLink RX5 21 "HopperCourt$Star" "nexts" "[I", Cond.methodLink RX3 49 yX1_isEmpty, Cond.instanceMethod yX1_isEmpty, Cond.selects RX1 yX1_isEmpty yX1_isEmpty, Cond.code yX1_isEmpty cX1_isEmpty 2 (some .boolean)]
def wsX6_endAt_r3 : List Cond := [Cond.methodLink RX3 39 yX3_mayEnd, Cond.instanceMethod yX3_mayEnd, Cond.selects RX3 yX3_mayEnd yX3_mayEnd, Cond.code yX3_mayEnd cX3_mayEnd 6 (some .boolean), Cond.static yX6_goalOf, Cond.code yX6_goalOf cX6_goalOf 1 (some .int), Cond.methodLink RX3 66 yX5_camp, Cond.instanceMethod yX5_camp, Cond.selects RX5 yX5_camp yX5_camp, Cond.code yX5_camp cX5_camp 2 (some .int), Cond.fieldLink RX5 18 "HopperCourt$Star" "camps" "[I", Cond.methodLink RX6 166 yX3_end, Cond.instanceMethod yX3_end, Cond.selects RX3 yX3_end yX3_end, Cond.code yX3_end cX3_end 4 (some .int)]
def wsX6_endAt : List Cond := .code yX6_endAt cX6_endAt 4 (some .int) :: ((wsX6_endAt_r1 ++ (wsX6_endAt_r2 ++ wsX6_endAt_r3)) ++ wsX60 ++ wsX40 ++ wsX30 ++ wsX10 ++ wsX50 ++ (vx_atS RX6 97 "java/lang/IndexOutOfBoundsException" ["java/lang/RuntimeException", "java/lang/Exception"]).filter goodWord)
def wsX6_chainAt_r1 : List Cond := [Cond.classLink RX6 93 "java/lang/IndexOutOfBoundsException", Cond.initialized "java/lang/IndexOutOfBoundsException", Cond.fieldLink RX6 30 "HopperCourt" "reach" "LHopperCourt$Reach;", Cond.fieldLink RX6 46 "HopperCourt" "seats" "LHopperCourt$Seats;", Cond.methodLink RX6 89 yX6_isCell, Cond.static yX6_isCell, Cond.initialized RX6, Cond.code yX6_isCell cX6_isCell 1 (some .boolean), Cond.methodLink RX6 107 yX4_onTurn, Cond.instanceMethod yX4_onTurn, Cond.selects RX4 yX4_onTurn yX4_onTurn, Cond.initialized RX4, Cond.code yX4_onTurn cX4_onTurn 1 (some .int), Cond.fieldLink RX4 22 "HopperCourt$Seats" "turn" "I", Cond.methodLink RX6 111 yX3_search, Cond.instanceMethod yX3_search, Cond.selects RX3 yX3_search yX3_search, Cond.initialized RX3, Cond.code yX3_search cX3_search 5 none, Cond.fieldLink RX3 25 "HopperCourt$Reach" "marbles" "LHopperCourt$Marbles;", Cond.fieldLink RX3 9 "HopperCourt$Reach" "hopsToEnd" "[I", Cond.fieldLink RX3 15 "HopperCourt$Reach" "level" "[I", Cond.fieldLink RX3 21 "HopperCourt$Reach" "star" "LHopperCourt$Star;", Cond.methodLink RX3 29 yX1_owner]
def wsX6_chainAt_r2 : List Cond := [Cond.instanceMethod yX1_owner, Cond.selects RX1 yX1_owner yX1_owner, Cond.initialized RX1, Cond.code yX1_owner cX1_owner 2 (some .int), Cond.fieldLink RX1 9 "HopperCourt$Marbles" "owners" "[I", Cond.methodLink RX3 35 yX3_spread, Cond.instanceMethod yX3_spread, Cond.selects RX3 yX3_spread yX3_spread, Cond.code yX3_spread cX3_spread 8 none, Cond.fieldLink RX3 18 "HopperCourt$Reach" "queue" "[I", Cond.methodLink RX3 59 yX3_landing, Cond.instanceMethod yX3_landing, Cond.selects RX3 yX3_landing yX3_landing, Cond.code yX3_landing cX3_landing 6 (some .int), Cond.methodLink RX3 45 yX5_next, Cond.instanceMethod yX5_next, Cond.selects RX5 yX5_next yX5_next, Cond.initialized RX5, Cond.code yX5_next cX5_next 3 (some .int), Cond.fieldLink RX5 21 "HopperCourt$Star" "nexts" "[I", Cond.methodLink RX3 49 yX1_isEmpty, Cond.instanceMethod yX1_isEmpty, Cond.selects RX1 yX1_isEmpty yX1_isEmpty, Cond.code yX1_isEmpty cX1_isEmpty 2 (some .boolean)]
def wsX6_chainAt_r3 : List Cond := [Cond.methodLink RX3 39 yX3_mayEnd, Cond.instanceMethod yX3_mayEnd, Cond.selects RX3 yX3_mayEnd yX3_mayEnd, Cond.code yX3_mayEnd cX3_mayEnd 6 (some .boolean), Cond.static yX6_goalOf, Cond.code yX6_goalOf cX6_goalOf 1 (some .int), Cond.methodLink RX3 66 yX5_camp, Cond.instanceMethod yX5_camp, Cond.selects RX5 yX5_camp yX5_camp, Cond.code yX5_camp cX5_camp 2 (some .int), Cond.fieldLink RX5 18 "HopperCourt$Star" "camps" "[I", Cond.methodLink RX6 115 yX3_hopsTo, Cond.instanceMethod yX3_hopsTo, Cond.selects RX3 yX3_hopsTo yX3_hopsTo, Cond.code yX3_hopsTo cX3_hopsTo 2 (some .int), Cond.methodLink RX6 173 yX3_cellBehind, Cond.instanceMethod yX3_cellBehind, Cond.selects RX3 yX3_cellBehind yX3_cellBehind, Cond.code yX3_cellBehind cX3_cellBehind 6 (some .int), Cond.methodLink RX3 56 yX3_lowestNearer, Cond.instanceMethod yX3_lowestNearer, Cond.selects RX3 yX3_lowestNearer yX3_lowestNearer, Cond.code yX3_lowestNearer cX3_lowestNearer 7 (some .int)]
def wsX6_chainAt : List Cond := .code yX6_chainAt cX6_chainAt 4 (some .int) :: ((wsX6_chainAt_r1 ++ (wsX6_chainAt_r2 ++ wsX6_chainAt_r3)) ++ wsX60 ++ wsX40 ++ wsX30 ++ wsX10 ++ wsX50 ++ (vx_atS RX6 97 "java/lang/IndexOutOfBoundsException" ["java/lang/RuntimeException", "java/lang/Exception"]).filter goodWord)
def wsX6_hops_r1 : List Cond := [Cond.classLink RX6 93 "java/lang/IndexOutOfBoundsException", Cond.initialized "java/lang/IndexOutOfBoundsException", Cond.fieldLink RX6 30 "HopperCourt" "reach" "LHopperCourt$Reach;", Cond.fieldLink RX6 46 "HopperCourt" "seats" "LHopperCourt$Seats;", Cond.methodLink RX6 89 yX6_isCell, Cond.static yX6_isCell, Cond.initialized RX6, Cond.code yX6_isCell cX6_isCell 1 (some .boolean), Cond.methodLink RX6 107 yX4_onTurn, Cond.instanceMethod yX4_onTurn, Cond.selects RX4 yX4_onTurn yX4_onTurn, Cond.initialized RX4, Cond.code yX4_onTurn cX4_onTurn 1 (some .int), Cond.fieldLink RX4 22 "HopperCourt$Seats" "turn" "I", Cond.methodLink RX6 111 yX3_search, Cond.instanceMethod yX3_search, Cond.selects RX3 yX3_search yX3_search, Cond.initialized RX3, Cond.code yX3_search cX3_search 5 none, Cond.fieldLink RX3 25 "HopperCourt$Reach" "marbles" "LHopperCourt$Marbles;", Cond.fieldLink RX3 9 "HopperCourt$Reach" "hopsToEnd" "[I", Cond.fieldLink RX3 15 "HopperCourt$Reach" "level" "[I", Cond.fieldLink RX3 21 "HopperCourt$Reach" "star" "LHopperCourt$Star;", Cond.methodLink RX3 29 yX1_owner]
def wsX6_hops_r2 : List Cond := [Cond.instanceMethod yX1_owner, Cond.selects RX1 yX1_owner yX1_owner, Cond.initialized RX1, Cond.code yX1_owner cX1_owner 2 (some .int), Cond.fieldLink RX1 9 "HopperCourt$Marbles" "owners" "[I", Cond.methodLink RX3 35 yX3_spread, Cond.instanceMethod yX3_spread, Cond.selects RX3 yX3_spread yX3_spread, Cond.code yX3_spread cX3_spread 8 none, Cond.fieldLink RX3 18 "HopperCourt$Reach" "queue" "[I", Cond.methodLink RX3 59 yX3_landing, Cond.instanceMethod yX3_landing, Cond.selects RX3 yX3_landing yX3_landing, Cond.code yX3_landing cX3_landing 6 (some .int), Cond.methodLink RX3 45 yX5_next, Cond.instanceMethod yX5_next, Cond.selects RX5 yX5_next yX5_next, Cond.initialized RX5, Cond.code yX5_next cX5_next 3 (some .int), Cond.fieldLink RX5 21 "HopperCourt$Star" "nexts" "[I", Cond.methodLink RX3 49 yX1_isEmpty, Cond.instanceMethod yX1_isEmpty, Cond.selects RX1 yX1_isEmpty yX1_isEmpty, Cond.code yX1_isEmpty cX1_isEmpty 2 (some .boolean)]
def wsX6_hops_r3 : List Cond := [Cond.methodLink RX3 39 yX3_mayEnd, Cond.instanceMethod yX3_mayEnd, Cond.selects RX3 yX3_mayEnd yX3_mayEnd, Cond.code yX3_mayEnd cX3_mayEnd 6 (some .boolean), Cond.static yX6_goalOf, Cond.code yX6_goalOf cX6_goalOf 1 (some .int), Cond.methodLink RX3 66 yX5_camp, Cond.instanceMethod yX5_camp, Cond.selects RX5 yX5_camp yX5_camp, Cond.code yX5_camp cX5_camp 2 (some .int), Cond.fieldLink RX5 18 "HopperCourt$Star" "camps" "[I", Cond.methodLink RX6 115 yX3_hopsTo, Cond.instanceMethod yX3_hopsTo, Cond.selects RX3 yX3_hopsTo yX3_hopsTo, Cond.code yX3_hopsTo cX3_hopsTo 2 (some .int)]
def wsX6_hops : List Cond := .code yX6_hops cX6_hops 3 (some .int) :: ((wsX6_hops_r1 ++ (wsX6_hops_r2 ++ wsX6_hops_r3)) ++ wsX60 ++ wsX40 ++ wsX30 ++ wsX10 ++ wsX50 ++ (vx_atS RX6 97 "java/lang/IndexOutOfBoundsException" ["java/lang/RuntimeException", "java/lang/Exception"]).filter goodWord)
def wsX6_finished : List Cond := .code yX6_finished cX6_finished 2 (some .int) :: ([.classLink RX6 93 "java/lang/IndexOutOfBoundsException", .initialized "java/lang/IndexOutOfBoundsException", .fieldLink RX6 46 "HopperCourt" "seats" "LHopperCourt$Seats;", .methodLink RX6 177 yX6_isCamp, .static yX6_isCamp, .initialized RX6, .code yX6_isCamp cX6_isCamp 1 (some .boolean), .methodLink RX6 182 yX4_playerAtPlace, .instanceMethod yX4_playerAtPlace, .selects RX4 yX4_playerAtPlace yX4_playerAtPlace, .initialized RX4, .code yX4_playerAtPlace cX4_playerAtPlace 2 (some .int), .fieldLink RX4 32 "HopperCourt$Seats" "placed" "I", .fieldLink RX4 15 "HopperCourt$Seats" "places" "[I"] ++ wsX60 ++ wsX40 ++ (vx_atS RX6 97 "java/lang/IndexOutOfBoundsException" ["java/lang/RuntimeException", "java/lang/Exception"]).filter goodWord)
def wsX6_isOut : List Cond := .code yX6_isOut cX6_isOut 2 (some .boolean) :: ([.classLink RX6 93 "java/lang/IndexOutOfBoundsException", .initialized "java/lang/IndexOutOfBoundsException", .fieldLink RX6 46 "HopperCourt" "seats" "LHopperCourt$Seats;", .methodLink RX6 177 yX6_isCamp, .static yX6_isCamp, .initialized RX6, .code yX6_isCamp cX6_isCamp 1 (some .boolean), .methodLink RX6 187 yX4_hasDroppedOut, .instanceMethod yX4_hasDroppedOut, .selects RX4 yX4_hasDroppedOut yX4_hasDroppedOut, .initialized RX4, .code yX4_hasDroppedOut cX4_hasDroppedOut 2 (some .boolean), .fieldLink RX4 29 "HopperCourt$Seats" "out" "I"] ++ wsX60 ++ wsX40 ++ (vx_atS RX6 97 "java/lang/IndexOutOfBoundsException" ["java/lang/RuntimeException", "java/lang/Exception"]).filter goodWord)
def wsX6_way_r1 : List Cond := [Cond.classLink RX6 93 "java/lang/IndexOutOfBoundsException", Cond.initialized "java/lang/IndexOutOfBoundsException", Cond.fieldLink RX6 46 "HopperCourt" "seats" "LHopperCourt$Seats;", Cond.fieldLink RX6 37 "HopperCourt" "pairing" "LHopperCourt$Pairing;", Cond.methodLink RX6 177 yX6_isCamp, Cond.static yX6_isCamp, Cond.initialized RX6, Cond.code yX6_isCamp cX6_isCamp 1 (some .boolean), Cond.methodLink RX6 190 yX4_plays, Cond.instanceMethod yX4_plays, Cond.selects RX4 yX4_plays yX4_plays, Cond.initialized RX4, Cond.code yX4_plays cX4_plays 2 (some .boolean), Cond.fieldLink RX4 26 "HopperCourt$Seats" "playing" "I", Cond.methodLink RX6 193 yX2_leastSum, Cond.instanceMethod yX2_leastSum, Cond.selects RX2 yX2_leastSum yX2_leastSum, Cond.initialized RX2, Cond.code yX2_leastSum cX2_leastSum 2 (some .int), Cond.fieldLink RX2 21 "HopperCourt$Pairing" "firstSums" "[I", Cond.methodLink RX2 38 yX2_measure, Cond.instanceMethod yX2_measure, Cond.selects RX2 yX2_measure yX2_measure, Cond.code yX2_measure cX2_measure 4 none]
def wsX6_way_r2 : List Cond := [Cond.fieldLink RX2 18 "HopperCourt$Pairing" "steps" "[I", Cond.fieldLink RX2 30 "HopperCourt$Pairing" "star" "LHopperCourt$Star;", Cond.fieldLink RX2 9 "HopperCourt$Pairing" "marbleCells" "[I", Cond.fieldLink RX2 15 "HopperCourt$Pairing" "goalCells" "[I", Cond.methodLink RX2 65 yX2_collect, Cond.instanceMethod yX2_collect, Cond.selects RX2 yX2_collect yX2_collect, Cond.code yX2_collect cX2_collect 6 none, Cond.fieldLink RX2 34 "HopperCourt$Pairing" "marbles" "LHopperCourt$Marbles;", Cond.static yX6_goalOf, Cond.code yX6_goalOf cX6_goalOf 1 (some .int), Cond.methodLink RX2 71 yX1_owner, Cond.instanceMethod yX1_owner, Cond.selects RX1 yX1_owner yX1_owner, Cond.initialized RX1, Cond.code yX1_owner cX1_owner 2 (some .int), Cond.fieldLink RX1 9 "HopperCourt$Marbles" "owners" "[I", Cond.static yX6_isCell, Cond.code yX6_isCell cX6_isCell 1 (some .boolean), Cond.methodLink RX2 76 yX5_camp, Cond.instanceMethod yX5_camp, Cond.selects RX5 yX5_camp yX5_camp, Cond.initialized RX5, Cond.code yX5_camp cX5_camp 2 (some .int)]
def wsX6_way_r3 : List Cond := [Cond.fieldLink RX5 18 "HopperCourt$Star" "camps" "[I", Cond.methodLink RX2 61 yX5_steps, Cond.instanceMethod yX5_steps, Cond.selects RX5 yX5_steps yX5_steps, Cond.code yX5_steps cX5_steps 5 (some .int), Cond.fieldLink RX5 9 "HopperCourt$Star" "rows" "[I", Cond.methodLink RX5 47 Lib.Math.abs.name, Cond.static Lib.Math.abs.name, Cond.initialized "java/lang/Math", Cond.code Lib.Math.abs.name Lib.Math.abs.code 1 (some .int), Cond.fieldLink RX5 15 "HopperCourt$Star" "columns" "[I", Cond.methodLink RX5 53 Lib.Math.max.name, Cond.static Lib.Math.max.name, Cond.code Lib.Math.max.name Lib.Math.max.code 2 (some .int), Cond.methodLink RX2 42 yX2_sumFirst, Cond.instanceMethod yX2_sumFirst, Cond.selects RX2 yX2_sumFirst yX2_sumFirst, Cond.code yX2_sumFirst cX2_sumFirst 2 none, Cond.methodLink RX2 49 yJ6_bitCount_0f7a4, Cond.static yJ6_bitCount_0f7a4, Cond.initialized RJ6, Cond.code yJ6_bitCount_0f7a4 cJ6_bitCount_0f7a4 1 (some .int), Cond.constant RJ6 265 (1431655765), Cond.constant RJ6 266 (858993459)]
def wsX6_way_r4 : List Cond := [Cond.constant RJ6 267 (252645135), Cond.methodLink RX2 79 yX2_leastWith, Cond.instanceMethod yX2_leastWith, Cond.selects RX2 yX2_leastWith yX2_leastWith, Cond.code yX2_leastWith cX2_leastWith 7 (some .int), Cond.constant RX2 48 (1000000), Cond.methodLink RX2 55 Lib.Math.min.name, Cond.static Lib.Math.min.name, Cond.code Lib.Math.min.name Lib.Math.min.code 2 (some .int)]
def wsX6_way : List Cond := .code yX6_way cX6_way 2 (some .int) :: ((wsX6_way_r1 ++ (wsX6_way_r2 ++ (wsX6_way_r3 ++ wsX6_way_r4))) ++ wsX60 ++ wsX40 ++ wsX20 ++ wsX10 ++ wsX50 ++ (vx_atS RX6 97 "java/lang/IndexOutOfBoundsException" ["java/lang/RuntimeException", "java/lang/Exception"]).filter goodWord)
def wsX6_bestMove_r1 : List Cond := [Cond.fieldLink RX6 46 "HopperCourt" "seats" "LHopperCourt$Seats;", Cond.fieldLink RX6 37 "HopperCourt" "pairing" "LHopperCourt$Pairing;", Cond.constant RX6 202 (1000000), Cond.fieldLink RX6 30 "HopperCourt" "reach" "LHopperCourt$Reach;", Cond.methodLink RX6 107 yX4_onTurn, Cond.instanceMethod yX4_onTurn, Cond.selects RX4 yX4_onTurn yX4_onTurn, Cond.initialized RX4, Cond.code yX4_onTurn cX4_onTurn 1 (some .int), Cond.fieldLink RX4 22 "HopperCourt$Seats" "turn" "I", Cond.methodLink RX6 199 yX2_weighAllButOne, Cond.instanceMethod yX2_weighAllButOne, Cond.selects RX2 yX2_weighAllButOne yX2_weighAllButOne, Cond.initialized RX2, Cond.code yX2_weighAllButOne cX2_weighAllButOne 7 none, Cond.fieldLink RX2 27 "HopperCourt$Pairing" "otherSums" "[I", Cond.constant RX2 48 (1000000), Cond.fieldLink RX2 21 "HopperCourt$Pairing" "firstSums" "[I", Cond.fieldLink RX2 24 "HopperCourt$Pairing" "lastSums" "[I", Cond.methodLink RX2 55 Lib.Math.min.name, Cond.static Lib.Math.min.name, Cond.initialized "java/lang/Math", Cond.code Lib.Math.min.name Lib.Math.min.code 2 (some .int), Cond.methodLink RX2 38 yX2_measure]
def wsX6_bestMove_r2 : List Cond := [Cond.instanceMethod yX2_measure, Cond.selects RX2 yX2_measure yX2_measure, Cond.code yX2_measure cX2_measure 4 none, Cond.fieldLink RX2 18 "HopperCourt$Pairing" "steps" "[I", Cond.fieldLink RX2 30 "HopperCourt$Pairing" "star" "LHopperCourt$Star;", Cond.fieldLink RX2 9 "HopperCourt$Pairing" "marbleCells" "[I", Cond.fieldLink RX2 15 "HopperCourt$Pairing" "goalCells" "[I", Cond.methodLink RX2 65 yX2_collect, Cond.instanceMethod yX2_collect, Cond.selects RX2 yX2_collect yX2_collect, Cond.code yX2_collect cX2_collect 6 none, Cond.fieldLink RX2 34 "HopperCourt$Pairing" "marbles" "LHopperCourt$Marbles;", Cond.static yX6_goalOf, Cond.initialized RX6, Cond.code yX6_goalOf cX6_goalOf 1 (some .int), Cond.methodLink RX2 71 yX1_owner, Cond.instanceMethod yX1_owner, Cond.selects RX1 yX1_owner yX1_owner, Cond.initialized RX1, Cond.code yX1_owner cX1_owner 2 (some .int), Cond.fieldLink RX1 9 "HopperCourt$Marbles" "owners" "[I", Cond.static yX6_isCell, Cond.code yX6_isCell cX6_isCell 1 (some .boolean), Cond.methodLink RX2 76 yX5_camp]
def wsX6_bestMove_r3 : List Cond := [Cond.instanceMethod yX5_camp, Cond.selects RX5 yX5_camp yX5_camp, Cond.initialized RX5, Cond.code yX5_camp cX5_camp 2 (some .int), Cond.fieldLink RX5 18 "HopperCourt$Star" "camps" "[I", Cond.methodLink RX2 61 yX5_steps, Cond.instanceMethod yX5_steps, Cond.selects RX5 yX5_steps yX5_steps, Cond.code yX5_steps cX5_steps 5 (some .int), Cond.fieldLink RX5 9 "HopperCourt$Star" "rows" "[I", Cond.methodLink RX5 47 Lib.Math.abs.name, Cond.static Lib.Math.abs.name, Cond.code Lib.Math.abs.name Lib.Math.abs.code 1 (some .int), Cond.fieldLink RX5 15 "HopperCourt$Star" "columns" "[I", Cond.methodLink RX5 53 Lib.Math.max.name, Cond.static Lib.Math.max.name, Cond.code Lib.Math.max.name Lib.Math.max.code 2 (some .int), Cond.methodLink RX2 42 yX2_sumFirst, Cond.instanceMethod yX2_sumFirst, Cond.selects RX2 yX2_sumFirst yX2_sumFirst, Cond.code yX2_sumFirst cX2_sumFirst 2 none, Cond.methodLink RX2 49 yJ6_bitCount_0f7a4, Cond.static yJ6_bitCount_0f7a4, Cond.initialized RJ6]
def wsX6_bestMove_r4 : List Cond := [Cond.code yJ6_bitCount_0f7a4 cJ6_bitCount_0f7a4 1 (some .int), Cond.constant RJ6 265 (1431655765), Cond.constant RJ6 266 (858993459), Cond.constant RJ6 267 (252645135), Cond.methodLink RX2 79 yX2_leastWith, Cond.instanceMethod yX2_leastWith, Cond.selects RX2 yX2_leastWith yX2_leastWith, Cond.code yX2_leastWith cX2_leastWith 7 (some .int), Cond.methodLink RX2 45 yX2_sumLast, Cond.instanceMethod yX2_sumLast, Cond.selects RX2 yX2_sumLast yX2_sumLast, Cond.code yX2_sumLast cX2_sumLast 2 none, Cond.methodLink RX6 203 yX2_marbleCell, Cond.instanceMethod yX2_marbleCell, Cond.selects RX2 yX2_marbleCell yX2_marbleCell, Cond.code yX2_marbleCell cX2_marbleCell 2 (some .int), Cond.methodLink RX6 111 yX3_search, Cond.instanceMethod yX3_search, Cond.selects RX3 yX3_search yX3_search, Cond.initialized RX3, Cond.code yX3_search cX3_search 5 none, Cond.fieldLink RX3 25 "HopperCourt$Reach" "marbles" "LHopperCourt$Marbles;", Cond.fieldLink RX3 9 "HopperCourt$Reach" "hopsToEnd" "[I", Cond.fieldLink RX3 15 "HopperCourt$Reach" "level" "[I"]
def wsX6_bestMove_r5 : List Cond := [Cond.fieldLink RX3 21 "HopperCourt$Reach" "star" "LHopperCourt$Star;", Cond.methodLink RX3 29 yX1_owner, Cond.methodLink RX3 35 yX3_spread, Cond.instanceMethod yX3_spread, Cond.selects RX3 yX3_spread yX3_spread, Cond.code yX3_spread cX3_spread 8 none, Cond.fieldLink RX3 18 "HopperCourt$Reach" "queue" "[I", Cond.methodLink RX3 59 yX3_landing, Cond.instanceMethod yX3_landing, Cond.selects RX3 yX3_landing yX3_landing, Cond.code yX3_landing cX3_landing 6 (some .int), Cond.methodLink RX3 45 yX5_next, Cond.instanceMethod yX5_next, Cond.selects RX5 yX5_next yX5_next, Cond.code yX5_next cX5_next 3 (some .int), Cond.fieldLink RX5 21 "HopperCourt$Star" "nexts" "[I", Cond.methodLink RX3 49 yX1_isEmpty, Cond.instanceMethod yX1_isEmpty, Cond.selects RX1 yX1_isEmpty yX1_isEmpty, Cond.code yX1_isEmpty cX1_isEmpty 2 (some .boolean), Cond.methodLink RX3 39 yX3_mayEnd, Cond.instanceMethod yX3_mayEnd, Cond.selects RX3 yX3_mayEnd yX3_mayEnd, Cond.code yX3_mayEnd cX3_mayEnd 6 (some .boolean)]
def wsX6_bestMove_r6 : List Cond := [Cond.methodLink RX3 66 yX5_camp, Cond.methodLink RX6 115 yX3_hopsTo, Cond.instanceMethod yX3_hopsTo, Cond.selects RX3 yX3_hopsTo yX3_hopsTo, Cond.code yX3_hopsTo cX3_hopsTo 2 (some .int), Cond.methodLink RX6 206 yX2_sumWith, Cond.instanceMethod yX2_sumWith, Cond.selects RX2 yX2_sumWith yX2_sumWith, Cond.code yX2_sumWith cX2_sumWith 6 (some .int)]
def wsX6_bestMove : List Cond := .code yX6_bestMove cX6_bestMove 8 (some .int) :: ((wsX6_bestMove_r1 ++ (wsX6_bestMove_r2 ++ (wsX6_bestMove_r3 ++ (wsX6_bestMove_r4 ++ (wsX6_bestMove_r5 ++ wsX6_bestMove_r6))))) ++ wsX60 ++ wsX40 ++ wsX20 ++ wsX10 ++ wsX50 ++ wsX30)
def wsX6_bestFrom_r1 : List Cond := [Cond.methodLink RX6 196 yX6_bestMove, Cond.instanceMethod yX6_bestMove, Cond.selects RX6 yX6_bestMove yX6_bestMove, Cond.initialized RX6, Cond.code yX6_bestMove cX6_bestMove 8 (some .int), Cond.fieldLink RX6 46 "HopperCourt" "seats" "LHopperCourt$Seats;", Cond.fieldLink RX6 37 "HopperCourt" "pairing" "LHopperCourt$Pairing;", Cond.constant RX6 202 (1000000), Cond.fieldLink RX6 30 "HopperCourt" "reach" "LHopperCourt$Reach;", Cond.methodLink RX6 107 yX4_onTurn, Cond.instanceMethod yX4_onTurn, Cond.selects RX4 yX4_onTurn yX4_onTurn, Cond.initialized RX4, Cond.code yX4_onTurn cX4_onTurn 1 (some .int), Cond.fieldLink RX4 22 "HopperCourt$Seats" "turn" "I", Cond.methodLink RX6 199 yX2_weighAllButOne, Cond.instanceMethod yX2_weighAllButOne, Cond.selects RX2 yX2_weighAllButOne yX2_weighAllButOne, Cond.initialized RX2, Cond.code yX2_weighAllButOne cX2_weighAllButOne 7 none, Cond.fieldLink RX2 27 "HopperCourt$Pairing" "otherSums" "[I", Cond.constant RX2 48 (1000000), Cond.fieldLink RX2 21 "HopperCourt$Pairing" "firstSums" "[I", Cond.fieldLink RX2 24 "HopperCourt$Pairing" "lastSums" "[I"]
def wsX6_bestFrom_r2 : List Cond := [Cond.methodLink RX2 55 Lib.Math.min.name, Cond.static Lib.Math.min.name, Cond.initialized "java/lang/Math", Cond.code Lib.Math.min.name Lib.Math.min.code 2 (some .int), Cond.methodLink RX2 38 yX2_measure, Cond.instanceMethod yX2_measure, Cond.selects RX2 yX2_measure yX2_measure, Cond.code yX2_measure cX2_measure 4 none, Cond.fieldLink RX2 18 "HopperCourt$Pairing" "steps" "[I", Cond.fieldLink RX2 30 "HopperCourt$Pairing" "star" "LHopperCourt$Star;", Cond.fieldLink RX2 9 "HopperCourt$Pairing" "marbleCells" "[I", Cond.fieldLink RX2 15 "HopperCourt$Pairing" "goalCells" "[I", Cond.methodLink RX2 65 yX2_collect, Cond.instanceMethod yX2_collect, Cond.selects RX2 yX2_collect yX2_collect, Cond.code yX2_collect cX2_collect 6 none, Cond.fieldLink RX2 34 "HopperCourt$Pairing" "marbles" "LHopperCourt$Marbles;", Cond.static yX6_goalOf, Cond.code yX6_goalOf cX6_goalOf 1 (some .int), Cond.methodLink RX2 71 yX1_owner, Cond.instanceMethod yX1_owner, Cond.selects RX1 yX1_owner yX1_owner, Cond.initialized RX1, Cond.code yX1_owner cX1_owner 2 (some .int)]
def wsX6_bestFrom_r3 : List Cond := [Cond.fieldLink RX1 9 "HopperCourt$Marbles" "owners" "[I", Cond.static yX6_isCell, Cond.code yX6_isCell cX6_isCell 1 (some .boolean), Cond.methodLink RX2 76 yX5_camp, Cond.instanceMethod yX5_camp, Cond.selects RX5 yX5_camp yX5_camp, Cond.initialized RX5, Cond.code yX5_camp cX5_camp 2 (some .int), Cond.fieldLink RX5 18 "HopperCourt$Star" "camps" "[I", Cond.methodLink RX2 61 yX5_steps, Cond.instanceMethod yX5_steps, Cond.selects RX5 yX5_steps yX5_steps, Cond.code yX5_steps cX5_steps 5 (some .int), Cond.fieldLink RX5 9 "HopperCourt$Star" "rows" "[I", Cond.methodLink RX5 47 Lib.Math.abs.name, Cond.static Lib.Math.abs.name, Cond.code Lib.Math.abs.name Lib.Math.abs.code 1 (some .int), Cond.fieldLink RX5 15 "HopperCourt$Star" "columns" "[I", Cond.methodLink RX5 53 Lib.Math.max.name, Cond.static Lib.Math.max.name, Cond.code Lib.Math.max.name Lib.Math.max.code 2 (some .int), Cond.methodLink RX2 42 yX2_sumFirst, Cond.instanceMethod yX2_sumFirst, Cond.selects RX2 yX2_sumFirst yX2_sumFirst]
def wsX6_bestFrom_r4 : List Cond := [Cond.code yX2_sumFirst cX2_sumFirst 2 none, Cond.methodLink RX2 49 yJ6_bitCount_0f7a4, Cond.static yJ6_bitCount_0f7a4, Cond.initialized RJ6, Cond.code yJ6_bitCount_0f7a4 cJ6_bitCount_0f7a4 1 (some .int), Cond.constant RJ6 265 (1431655765), Cond.constant RJ6 266 (858993459), Cond.constant RJ6 267 (252645135), Cond.methodLink RX2 79 yX2_leastWith, Cond.instanceMethod yX2_leastWith, Cond.selects RX2 yX2_leastWith yX2_leastWith, Cond.code yX2_leastWith cX2_leastWith 7 (some .int), Cond.methodLink RX2 45 yX2_sumLast, Cond.instanceMethod yX2_sumLast, Cond.selects RX2 yX2_sumLast yX2_sumLast, Cond.code yX2_sumLast cX2_sumLast 2 none, Cond.methodLink RX6 203 yX2_marbleCell, Cond.instanceMethod yX2_marbleCell, Cond.selects RX2 yX2_marbleCell yX2_marbleCell, Cond.code yX2_marbleCell cX2_marbleCell 2 (some .int), Cond.methodLink RX6 111 yX3_search, Cond.instanceMethod yX3_search, Cond.selects RX3 yX3_search yX3_search, Cond.initialized RX3]
def wsX6_bestFrom_r5 : List Cond := [Cond.code yX3_search cX3_search 5 none, Cond.fieldLink RX3 25 "HopperCourt$Reach" "marbles" "LHopperCourt$Marbles;", Cond.fieldLink RX3 9 "HopperCourt$Reach" "hopsToEnd" "[I", Cond.fieldLink RX3 15 "HopperCourt$Reach" "level" "[I", Cond.fieldLink RX3 21 "HopperCourt$Reach" "star" "LHopperCourt$Star;", Cond.methodLink RX3 29 yX1_owner, Cond.methodLink RX3 35 yX3_spread, Cond.instanceMethod yX3_spread, Cond.selects RX3 yX3_spread yX3_spread, Cond.code yX3_spread cX3_spread 8 none, Cond.fieldLink RX3 18 "HopperCourt$Reach" "queue" "[I", Cond.methodLink RX3 59 yX3_landing, Cond.instanceMethod yX3_landing, Cond.selects RX3 yX3_landing yX3_landing, Cond.code yX3_landing cX3_landing 6 (some .int), Cond.methodLink RX3 45 yX5_next, Cond.instanceMethod yX5_next, Cond.selects RX5 yX5_next yX5_next, Cond.code yX5_next cX5_next 3 (some .int), Cond.fieldLink RX5 21 "HopperCourt$Star" "nexts" "[I", Cond.methodLink RX3 49 yX1_isEmpty, Cond.instanceMethod yX1_isEmpty, Cond.selects RX1 yX1_isEmpty yX1_isEmpty, Cond.code yX1_isEmpty cX1_isEmpty 2 (some .boolean)]
def wsX6_bestFrom_r6 : List Cond := [Cond.methodLink RX3 39 yX3_mayEnd, Cond.instanceMethod yX3_mayEnd, Cond.selects RX3 yX3_mayEnd yX3_mayEnd, Cond.code yX3_mayEnd cX3_mayEnd 6 (some .boolean), Cond.methodLink RX3 66 yX5_camp, Cond.methodLink RX6 115 yX3_hopsTo, Cond.instanceMethod yX3_hopsTo, Cond.selects RX3 yX3_hopsTo yX3_hopsTo, Cond.code yX3_hopsTo cX3_hopsTo 2 (some .int), Cond.methodLink RX6 206 yX2_sumWith, Cond.instanceMethod yX2_sumWith, Cond.selects RX2 yX2_sumWith yX2_sumWith, Cond.code yX2_sumWith cX2_sumWith 6 (some .int)]
def wsX6_bestFrom : List Cond := .code yX6_bestFrom cX6_bestFrom 2 (some .int) :: ((wsX6_bestFrom_r1 ++ (wsX6_bestFrom_r2 ++ (wsX6_bestFrom_r3 ++ (wsX6_bestFrom_r4 ++ (wsX6_bestFrom_r5 ++ wsX6_bestFrom_r6))))) ++ wsX60 ++ wsX40 ++ wsX20 ++ wsX10 ++ wsX50 ++ wsX30)
def wsX6_bestTo_r1 : List Cond := [Cond.methodLink RX6 196 yX6_bestMove, Cond.instanceMethod yX6_bestMove, Cond.selects RX6 yX6_bestMove yX6_bestMove, Cond.initialized RX6, Cond.code yX6_bestMove cX6_bestMove 8 (some .int), Cond.fieldLink RX6 46 "HopperCourt" "seats" "LHopperCourt$Seats;", Cond.fieldLink RX6 37 "HopperCourt" "pairing" "LHopperCourt$Pairing;", Cond.constant RX6 202 (1000000), Cond.fieldLink RX6 30 "HopperCourt" "reach" "LHopperCourt$Reach;", Cond.methodLink RX6 107 yX4_onTurn, Cond.instanceMethod yX4_onTurn, Cond.selects RX4 yX4_onTurn yX4_onTurn, Cond.initialized RX4, Cond.code yX4_onTurn cX4_onTurn 1 (some .int), Cond.fieldLink RX4 22 "HopperCourt$Seats" "turn" "I", Cond.methodLink RX6 199 yX2_weighAllButOne, Cond.instanceMethod yX2_weighAllButOne, Cond.selects RX2 yX2_weighAllButOne yX2_weighAllButOne, Cond.initialized RX2, Cond.code yX2_weighAllButOne cX2_weighAllButOne 7 none, Cond.fieldLink RX2 27 "HopperCourt$Pairing" "otherSums" "[I", Cond.constant RX2 48 (1000000), Cond.fieldLink RX2 21 "HopperCourt$Pairing" "firstSums" "[I", Cond.fieldLink RX2 24 "HopperCourt$Pairing" "lastSums" "[I"]
def wsX6_bestTo_r2 : List Cond := [Cond.methodLink RX2 55 Lib.Math.min.name, Cond.static Lib.Math.min.name, Cond.initialized "java/lang/Math", Cond.code Lib.Math.min.name Lib.Math.min.code 2 (some .int), Cond.methodLink RX2 38 yX2_measure, Cond.instanceMethod yX2_measure, Cond.selects RX2 yX2_measure yX2_measure, Cond.code yX2_measure cX2_measure 4 none, Cond.fieldLink RX2 18 "HopperCourt$Pairing" "steps" "[I", Cond.fieldLink RX2 30 "HopperCourt$Pairing" "star" "LHopperCourt$Star;", Cond.fieldLink RX2 9 "HopperCourt$Pairing" "marbleCells" "[I", Cond.fieldLink RX2 15 "HopperCourt$Pairing" "goalCells" "[I", Cond.methodLink RX2 65 yX2_collect, Cond.instanceMethod yX2_collect, Cond.selects RX2 yX2_collect yX2_collect, Cond.code yX2_collect cX2_collect 6 none, Cond.fieldLink RX2 34 "HopperCourt$Pairing" "marbles" "LHopperCourt$Marbles;", Cond.static yX6_goalOf, Cond.code yX6_goalOf cX6_goalOf 1 (some .int), Cond.methodLink RX2 71 yX1_owner, Cond.instanceMethod yX1_owner, Cond.selects RX1 yX1_owner yX1_owner, Cond.initialized RX1, Cond.code yX1_owner cX1_owner 2 (some .int)]
def wsX6_bestTo_r3 : List Cond := [Cond.fieldLink RX1 9 "HopperCourt$Marbles" "owners" "[I", Cond.static yX6_isCell, Cond.code yX6_isCell cX6_isCell 1 (some .boolean), Cond.methodLink RX2 76 yX5_camp, Cond.instanceMethod yX5_camp, Cond.selects RX5 yX5_camp yX5_camp, Cond.initialized RX5, Cond.code yX5_camp cX5_camp 2 (some .int), Cond.fieldLink RX5 18 "HopperCourt$Star" "camps" "[I", Cond.methodLink RX2 61 yX5_steps, Cond.instanceMethod yX5_steps, Cond.selects RX5 yX5_steps yX5_steps, Cond.code yX5_steps cX5_steps 5 (some .int), Cond.fieldLink RX5 9 "HopperCourt$Star" "rows" "[I", Cond.methodLink RX5 47 Lib.Math.abs.name, Cond.static Lib.Math.abs.name, Cond.code Lib.Math.abs.name Lib.Math.abs.code 1 (some .int), Cond.fieldLink RX5 15 "HopperCourt$Star" "columns" "[I", Cond.methodLink RX5 53 Lib.Math.max.name, Cond.static Lib.Math.max.name, Cond.code Lib.Math.max.name Lib.Math.max.code 2 (some .int), Cond.methodLink RX2 42 yX2_sumFirst, Cond.instanceMethod yX2_sumFirst, Cond.selects RX2 yX2_sumFirst yX2_sumFirst]
def wsX6_bestTo_r4 : List Cond := [Cond.code yX2_sumFirst cX2_sumFirst 2 none, Cond.methodLink RX2 49 yJ6_bitCount_0f7a4, Cond.static yJ6_bitCount_0f7a4, Cond.initialized RJ6, Cond.code yJ6_bitCount_0f7a4 cJ6_bitCount_0f7a4 1 (some .int), Cond.constant RJ6 265 (1431655765), Cond.constant RJ6 266 (858993459), Cond.constant RJ6 267 (252645135), Cond.methodLink RX2 79 yX2_leastWith, Cond.instanceMethod yX2_leastWith, Cond.selects RX2 yX2_leastWith yX2_leastWith, Cond.code yX2_leastWith cX2_leastWith 7 (some .int), Cond.methodLink RX2 45 yX2_sumLast, Cond.instanceMethod yX2_sumLast, Cond.selects RX2 yX2_sumLast yX2_sumLast, Cond.code yX2_sumLast cX2_sumLast 2 none, Cond.methodLink RX6 203 yX2_marbleCell, Cond.instanceMethod yX2_marbleCell, Cond.selects RX2 yX2_marbleCell yX2_marbleCell, Cond.code yX2_marbleCell cX2_marbleCell 2 (some .int), Cond.methodLink RX6 111 yX3_search, Cond.instanceMethod yX3_search, Cond.selects RX3 yX3_search yX3_search, Cond.initialized RX3]
def wsX6_bestTo_r5 : List Cond := [Cond.code yX3_search cX3_search 5 none, Cond.fieldLink RX3 25 "HopperCourt$Reach" "marbles" "LHopperCourt$Marbles;", Cond.fieldLink RX3 9 "HopperCourt$Reach" "hopsToEnd" "[I", Cond.fieldLink RX3 15 "HopperCourt$Reach" "level" "[I", Cond.fieldLink RX3 21 "HopperCourt$Reach" "star" "LHopperCourt$Star;", Cond.methodLink RX3 29 yX1_owner, Cond.methodLink RX3 35 yX3_spread, Cond.instanceMethod yX3_spread, Cond.selects RX3 yX3_spread yX3_spread, Cond.code yX3_spread cX3_spread 8 none, Cond.fieldLink RX3 18 "HopperCourt$Reach" "queue" "[I", Cond.methodLink RX3 59 yX3_landing, Cond.instanceMethod yX3_landing, Cond.selects RX3 yX3_landing yX3_landing, Cond.code yX3_landing cX3_landing 6 (some .int), Cond.methodLink RX3 45 yX5_next, Cond.instanceMethod yX5_next, Cond.selects RX5 yX5_next yX5_next, Cond.code yX5_next cX5_next 3 (some .int), Cond.fieldLink RX5 21 "HopperCourt$Star" "nexts" "[I", Cond.methodLink RX3 49 yX1_isEmpty, Cond.instanceMethod yX1_isEmpty, Cond.selects RX1 yX1_isEmpty yX1_isEmpty, Cond.code yX1_isEmpty cX1_isEmpty 2 (some .boolean)]
def wsX6_bestTo_r6 : List Cond := [Cond.methodLink RX3 39 yX3_mayEnd, Cond.instanceMethod yX3_mayEnd, Cond.selects RX3 yX3_mayEnd yX3_mayEnd, Cond.code yX3_mayEnd cX3_mayEnd 6 (some .boolean), Cond.methodLink RX3 66 yX5_camp, Cond.methodLink RX6 115 yX3_hopsTo, Cond.instanceMethod yX3_hopsTo, Cond.selects RX3 yX3_hopsTo yX3_hopsTo, Cond.code yX3_hopsTo cX3_hopsTo 2 (some .int), Cond.methodLink RX6 206 yX2_sumWith, Cond.instanceMethod yX2_sumWith, Cond.selects RX2 yX2_sumWith yX2_sumWith, Cond.code yX2_sumWith cX2_sumWith 6 (some .int)]
def wsX6_bestTo : List Cond := .code yX6_bestTo cX6_bestTo 2 (some .int) :: ((wsX6_bestTo_r1 ++ (wsX6_bestTo_r2 ++ (wsX6_bestTo_r3 ++ (wsX6_bestTo_r4 ++ (wsX6_bestTo_r5 ++ wsX6_bestTo_r6))))) ++ wsX60 ++ wsX40 ++ wsX20 ++ wsX10 ++ wsX50 ++ wsX30)
def wsX7_campAt : List Cond := .code yX7_campAt cX7_campAt 2 (some .int) :: ([])
def wsX7_find : List Cond := .code yX7_find cX7_find 5 (some .int) :: ([.fieldLink RX7 7 "HopperCourtModel" "row" "[I", .fieldLink RX7 13 "HopperCourtModel" "column" "[I"] ++ wsX70)
def wsX7_measures : List Cond := .code yX7_measures cX7_measures 6 none :: ([.fieldLink RX7 22 "HopperCourtModel" "far" "[I", .fieldLink RX7 59 "HopperCourtModel" "queue" "[I", .fieldLink RX7 19 "HopperCourtModel" "next" "[I"] ++ wsX70)
def wsX7_init_r1 : List Cond := [Cond.methodLink RX7 1 objectInit, Cond.instanceMethod objectInit, Cond.code objectInit ⟨#[0xb1]⟩ 1 none, Cond.arrayClass .int, Cond.fieldLink RX7 7 "HopperCourtModel" "row" "[I", Cond.fieldLink RX7 13 "HopperCourtModel" "column" "[I", Cond.fieldLink RX7 16 "HopperCourtModel" "camp" "[I", Cond.fieldLink RX7 19 "HopperCourtModel" "next" "[I", Cond.fieldLink RX7 22 "HopperCourtModel" "far" "[I", Cond.fieldLink RX7 25 "HopperCourtModel" "cells" "[I", Cond.fieldLink RX7 28 "HopperCourtModel" "fill" "I", Cond.fieldLink RX7 32 "HopperCourtModel" "board" "[I", Cond.fieldLink RX7 35 "HopperCourtModel" "movesOf" "[I", Cond.fieldLink RX7 38 "HopperCourtModel" "places" "[I", Cond.fieldLink RX7 41 "HopperCourtModel" "movedFrom" "[I", Cond.fieldLink RX7 44 "HopperCourtModel" "movedTo" "[I", Cond.fieldLink RX7 47 "HopperCourtModel" "turnWas" "[I", Cond.fieldLink RX7 50 "HopperCourtModel" "outWas" "[I", Cond.fieldLink RX7 53 "HopperCourtModel" "finishersWas" "[I", Cond.fieldLink RX7 56 "HopperCourtModel" "level" "[I", Cond.fieldLink RX7 59 "HopperCourtModel" "queue" "[I", Cond.arrayClass .boolean, Cond.fieldLink RX7 62 "HopperCourtModel" "isEnd" "[Z", Cond.fieldLink RX7 66 "HopperCourtModel" "cheapest" "[I"]
def wsX7_init_r2 : List Cond := [Cond.fieldLink RX7 69 "HopperCourtModel" "marbles" "[I", Cond.fieldLink RX7 83 "HopperCourtModel" "turn" "I", Cond.methodLink RX7 72 yX7_campAt, Cond.static yX7_campAt, Cond.initialized RX7, Cond.code yX7_campAt cX7_campAt 2 (some .int), Cond.methodLink RX7 76 yX7_find, Cond.instanceMethod yX7_find, Cond.selects RX7 yX7_find yX7_find, Cond.code yX7_find cX7_find 5 (some .int), Cond.methodLink RX7 79 yX7_measures, Cond.instanceMethod yX7_measures, Cond.selects RX7 yX7_measures yX7_measures, Cond.code yX7_measures cX7_measures 6 none]
def wsX7_init : List Cond := .code yX7_init cX7_init 6 none :: ((wsX7_init_r1 ++ wsX7_init_r2) ++ wsX70)
def wsX7_thrown : List Cond := .code yX7_thrown cX7_thrown 1 (some .int) :: ([.fieldLink RX7 86 "HopperCourtModel" "thrown" "I"] ++ wsX70)
def wsX7_can : List Cond := .code yX7_can cX7_can 2 (some .boolean) :: ([.fieldLink RX7 86 "HopperCourtModel" "thrown" "I"] ++ wsX70)
def wsX7_isIn : List Cond := .code yX7_isIn cX7_isIn 3 (some .boolean) :: ([])
def wsX7_isCell : List Cond := .code yX7_isCell cX7_isCell 1 (some .boolean) :: ([.methodLink RX7 89 yX7_isIn, .static yX7_isIn, .initialized RX7, .code yX7_isIn cX7_isIn 3 (some .boolean)])
def wsX7_plays : List Cond := .code yX7_plays cX7_plays 2 (some .boolean) :: ([.fieldLink RX7 93 "HopperCourtModel" "players" "I", .methodLink RX7 89 yX7_isIn, .static yX7_isIn, .initialized RX7, .code yX7_isIn cX7_isIn 3 (some .boolean)] ++ wsX70)
def wsX7_begin : List Cond := .code yX7_begin cX7_begin 4 none :: ([.fieldLink RX7 93 "HopperCourtModel" "players" "I", .fieldLink RX7 32 "HopperCourtModel" "board" "[I", .fieldLink RX7 16 "HopperCourtModel" "camp" "[I", .fieldLink RX7 35 "HopperCourtModel" "movesOf" "[I", .fieldLink RX7 83 "HopperCourtModel" "turn" "I", .fieldLink RX7 103 "HopperCourtModel" "made" "I", .fieldLink RX7 106 "HopperCourtModel" "out" "I", .fieldLink RX7 109 "HopperCourtModel" "finishers" "I", .methodLink RX7 89 yX7_isIn, .static yX7_isIn, .initialized RX7, .code yX7_isIn cX7_isIn 3 (some .boolean), .methodLink RX7 96 yX7_can, .instanceMethod yX7_can, .selects RX7 yX7_can yX7_can, .code yX7_can cX7_can 2 (some .boolean), .fieldLink RX7 86 "HopperCourtModel" "thrown" "I", .methodLink RX7 100 yX7_plays, .instanceMethod yX7_plays, .selects RX7 yX7_plays yX7_plays, .code yX7_plays cX7_plays 2 (some .boolean)] ++ wsX70)
def wsX7_setFill : List Cond := .code yX7_setFill cX7_setFill 3 (some .int) :: ([.fieldLink RX7 28 "HopperCourtModel" "fill" "I", .methodLink RX7 89 yX7_isIn, .static yX7_isIn, .initialized RX7, .code yX7_isIn cX7_isIn 3 (some .boolean), .methodLink RX7 96 yX7_can, .instanceMethod yX7_can, .selects RX7 yX7_can yX7_can, .code yX7_can cX7_can 2 (some .boolean), .fieldLink RX7 86 "HopperCourtModel" "thrown" "I"] ++ wsX70)
def wsX7_setPatience : List Cond := .code yX7_setPatience cX7_setPatience 3 (some .int) :: ([.fieldLink RX7 112 "HopperCourtModel" "patience" "I", .methodLink RX7 89 yX7_isIn, .static yX7_isIn, .initialized RX7, .code yX7_isIn cX7_isIn 3 (some .boolean), .methodLink RX7 96 yX7_can, .instanceMethod yX7_can, .selects RX7 yX7_can yX7_can, .code yX7_can cX7_can 2 (some .boolean), .fieldLink RX7 86 "HopperCourtModel" "thrown" "I"] ++ wsX70)
def wsX7_hasFinished : List Cond := .code yX7_hasFinished cX7_hasFinished 4 (some .boolean) :: ([.fieldLink RX7 109 "HopperCourtModel" "finishers" "I", .fieldLink RX7 38 "HopperCourtModel" "places" "[I"] ++ wsX70)
def wsX7_ownIn : List Cond := .code yX7_ownIn cX7_ownIn 5 (some .int) :: ([.fieldLink RX7 32 "HopperCourtModel" "board" "[I", .fieldLink RX7 25 "HopperCourtModel" "cells" "[I"] ++ wsX70)
def wsX7_isFull : List Cond := .code yX7_isFull cX7_isFull 2 (some .boolean) :: ([.methodLink RX7 115 yX7_ownIn, .instanceMethod yX7_ownIn, .selects RX7 yX7_ownIn yX7_ownIn, .initialized RX7, .code yX7_ownIn cX7_ownIn 5 (some .int), .fieldLink RX7 32 "HopperCourtModel" "board" "[I", .fieldLink RX7 25 "HopperCourtModel" "cells" "[I"] ++ wsX70)
def wsX7_finishes_r1 : List Cond := [Cond.fieldLink RX7 106 "HopperCourtModel" "out" "I", Cond.fieldLink RX7 28 "HopperCourtModel" "fill" "I", Cond.fieldLink RX7 38 "HopperCourtModel" "places" "[I", Cond.fieldLink RX7 109 "HopperCourtModel" "finishers" "I", Cond.methodLink RX7 100 yX7_plays, Cond.instanceMethod yX7_plays, Cond.selects RX7 yX7_plays yX7_plays, Cond.initialized RX7, Cond.code yX7_plays cX7_plays 2 (some .boolean), Cond.fieldLink RX7 93 "HopperCourtModel" "players" "I", Cond.methodLink RX7 89 yX7_isIn, Cond.static yX7_isIn, Cond.code yX7_isIn cX7_isIn 3 (some .boolean), Cond.methodLink RX7 118 yX7_hasFinished, Cond.instanceMethod yX7_hasFinished, Cond.selects RX7 yX7_hasFinished yX7_hasFinished, Cond.code yX7_hasFinished cX7_hasFinished 4 (some .boolean), Cond.methodLink RX7 121 yX7_isFull, Cond.instanceMethod yX7_isFull, Cond.selects RX7 yX7_isFull yX7_isFull, Cond.code yX7_isFull cX7_isFull 2 (some .boolean), Cond.methodLink RX7 115 yX7_ownIn, Cond.instanceMethod yX7_ownIn, Cond.selects RX7 yX7_ownIn yX7_ownIn]
def wsX7_finishes_r2 : List Cond := [Cond.code yX7_ownIn cX7_ownIn 5 (some .int), Cond.fieldLink RX7 32 "HopperCourtModel" "board" "[I", Cond.fieldLink RX7 25 "HopperCourtModel" "cells" "[I"]
def wsX7_finishes : List Cond := .code yX7_finishes cX7_finishes 3 none :: ((wsX7_finishes_r1 ++ wsX7_finishes_r2) ++ wsX70)
def wsX7_turns_r1 : List Cond := [Cond.fieldLink RX7 83 "HopperCourtModel" "turn" "I", Cond.fieldLink RX7 106 "HopperCourtModel" "out" "I", Cond.fieldLink RX7 112 "HopperCourtModel" "patience" "I", Cond.fieldLink RX7 35 "HopperCourtModel" "movesOf" "[I", Cond.methodLink RX7 100 yX7_plays, Cond.instanceMethod yX7_plays, Cond.selects RX7 yX7_plays yX7_plays, Cond.initialized RX7, Cond.code yX7_plays cX7_plays 2 (some .boolean), Cond.fieldLink RX7 93 "HopperCourtModel" "players" "I", Cond.methodLink RX7 89 yX7_isIn, Cond.static yX7_isIn, Cond.code yX7_isIn cX7_isIn 3 (some .boolean), Cond.methodLink RX7 118 yX7_hasFinished, Cond.instanceMethod yX7_hasFinished, Cond.selects RX7 yX7_hasFinished yX7_hasFinished, Cond.code yX7_hasFinished cX7_hasFinished 4 (some .boolean), Cond.fieldLink RX7 109 "HopperCourtModel" "finishers" "I", Cond.fieldLink RX7 38 "HopperCourtModel" "places" "[I", Cond.methodLink RX7 115 yX7_ownIn, Cond.instanceMethod yX7_ownIn, Cond.selects RX7 yX7_ownIn yX7_ownIn, Cond.code yX7_ownIn cX7_ownIn 5 (some .int), Cond.fieldLink RX7 32 "HopperCourtModel" "board" "[I"]
def wsX7_turns_r2 : List Cond := [Cond.fieldLink RX7 25 "HopperCourtModel" "cells" "[I"]
def wsX7_turns : List Cond := .code yX7_turns cX7_turns 5 none :: ((wsX7_turns_r1 ++ wsX7_turns_r2) ++ wsX70)
def wsX7_notes : List Cond := .code yX7_notes cX7_notes 3 none :: ([.fieldLink RX7 41 "HopperCourtModel" "movedFrom" "[I", .fieldLink RX7 103 "HopperCourtModel" "made" "I", .fieldLink RX7 44 "HopperCourtModel" "movedTo" "[I", .fieldLink RX7 47 "HopperCourtModel" "turnWas" "[I", .fieldLink RX7 83 "HopperCourtModel" "turn" "I", .fieldLink RX7 50 "HopperCourtModel" "outWas" "[I", .fieldLink RX7 106 "HopperCourtModel" "out" "I", .fieldLink RX7 53 "HopperCourtModel" "finishersWas" "[I", .fieldLink RX7 109 "HopperCourtModel" "finishers" "I", .fieldLink RX7 35 "HopperCourtModel" "movesOf" "[I"] ++ wsX70)
def wsX7_behind : List Cond := .code yX7_behind cX7_behind 7 (some .int) :: ([.fieldLink RX7 19 "HopperCourtModel" "next" "[I", .fieldLink RX7 32 "HopperCourtModel" "board" "[I"] ++ wsX70)
def wsX7_hopsFrom : List Cond := .code yX7_hopsFrom cX7_hopsFrom 7 none :: ([.fieldLink RX7 56 "HopperCourtModel" "level" "[I", .fieldLink RX7 59 "HopperCourtModel" "queue" "[I", .methodLink RX7 148 yX7_behind, .instanceMethod yX7_behind, .selects RX7 yX7_behind yX7_behind, .initialized RX7, .code yX7_behind cX7_behind 7 (some .int), .fieldLink RX7 19 "HopperCourtModel" "next" "[I", .fieldLink RX7 32 "HopperCourtModel" "board" "[I"] ++ wsX70)
def wsX7_isNext : List Cond := .code yX7_isNext cX7_isNext 3 (some .boolean) :: ([.fieldLink RX7 22 "HopperCourtModel" "far" "[I"] ++ wsX70)
def wsX7_mayEnd : List Cond := .code yX7_mayEnd cX7_mayEnd 5 (some .boolean) :: ([.fieldLink RX7 83 "HopperCourtModel" "turn" "I", .fieldLink RX7 16 "HopperCourtModel" "camp" "[I"] ++ wsX70)
def wsX7_endsOf_r1 : List Cond := [Cond.fieldLink RX7 83 "HopperCourtModel" "turn" "I", Cond.fieldLink RX7 32 "HopperCourtModel" "board" "[I", Cond.fieldLink RX7 62 "HopperCourtModel" "isEnd" "[Z", Cond.fieldLink RX7 56 "HopperCourtModel" "level" "[I", Cond.methodLink RX7 152 yX7_hopsFrom, Cond.instanceMethod yX7_hopsFrom, Cond.selects RX7 yX7_hopsFrom yX7_hopsFrom, Cond.initialized RX7, Cond.code yX7_hopsFrom cX7_hopsFrom 7 none, Cond.fieldLink RX7 59 "HopperCourtModel" "queue" "[I", Cond.methodLink RX7 148 yX7_behind, Cond.instanceMethod yX7_behind, Cond.selects RX7 yX7_behind yX7_behind, Cond.code yX7_behind cX7_behind 7 (some .int), Cond.fieldLink RX7 19 "HopperCourtModel" "next" "[I", Cond.methodLink RX7 155 yX7_isNext, Cond.instanceMethod yX7_isNext, Cond.selects RX7 yX7_isNext yX7_isNext, Cond.code yX7_isNext cX7_isNext 3 (some .boolean), Cond.fieldLink RX7 22 "HopperCourtModel" "far" "[I", Cond.methodLink RX7 158 yX7_mayEnd, Cond.instanceMethod yX7_mayEnd, Cond.selects RX7 yX7_mayEnd yX7_mayEnd, Cond.code yX7_mayEnd cX7_mayEnd 5 (some .boolean)]
def wsX7_endsOf_r2 : List Cond := [Cond.fieldLink RX7 16 "HopperCourtModel" "camp" "[I"]
def wsX7_endsOf : List Cond := .code yX7_endsOf cX7_endsOf 5 (some .int) :: ((wsX7_endsOf_r1 ++ wsX7_endsOf_r2) ++ wsX70)
def wsX7_hopsOf_r1 : List Cond := [Cond.fieldLink RX7 62 "HopperCourtModel" "isEnd" "[Z", Cond.fieldLink RX7 56 "HopperCourtModel" "level" "[I", Cond.methodLink RX7 161 yX7_endsOf, Cond.instanceMethod yX7_endsOf, Cond.selects RX7 yX7_endsOf yX7_endsOf, Cond.initialized RX7, Cond.code yX7_endsOf cX7_endsOf 5 (some .int), Cond.fieldLink RX7 83 "HopperCourtModel" "turn" "I", Cond.fieldLink RX7 32 "HopperCourtModel" "board" "[I", Cond.methodLink RX7 152 yX7_hopsFrom, Cond.instanceMethod yX7_hopsFrom, Cond.selects RX7 yX7_hopsFrom yX7_hopsFrom, Cond.code yX7_hopsFrom cX7_hopsFrom 7 none, Cond.fieldLink RX7 59 "HopperCourtModel" "queue" "[I", Cond.methodLink RX7 148 yX7_behind, Cond.instanceMethod yX7_behind, Cond.selects RX7 yX7_behind yX7_behind, Cond.code yX7_behind cX7_behind 7 (some .int), Cond.fieldLink RX7 19 "HopperCourtModel" "next" "[I", Cond.methodLink RX7 155 yX7_isNext, Cond.instanceMethod yX7_isNext, Cond.selects RX7 yX7_isNext yX7_isNext, Cond.code yX7_isNext cX7_isNext 3 (some .boolean), Cond.fieldLink RX7 22 "HopperCourtModel" "far" "[I"]
def wsX7_hopsOf_r2 : List Cond := [Cond.methodLink RX7 158 yX7_mayEnd, Cond.instanceMethod yX7_mayEnd, Cond.selects RX7 yX7_mayEnd yX7_mayEnd, Cond.code yX7_mayEnd cX7_mayEnd 5 (some .boolean), Cond.fieldLink RX7 16 "HopperCourtModel" "camp" "[I"]
def wsX7_hopsOf : List Cond := .code yX7_hopsOf cX7_hopsOf 3 (some .int) :: ((wsX7_hopsOf_r1 ++ wsX7_hopsOf_r2) ++ wsX70)
def wsX7_move_r1 : List Cond := [Cond.fieldLink RX7 83 "HopperCourtModel" "turn" "I", Cond.fieldLink RX7 103 "HopperCourtModel" "made" "I", Cond.fieldLink RX7 32 "HopperCourtModel" "board" "[I", Cond.methodLink RX7 124 yX7_isCell, Cond.static yX7_isCell, Cond.initialized RX7, Cond.code yX7_isCell cX7_isCell 1 (some .boolean), Cond.methodLink RX7 89 yX7_isIn, Cond.static yX7_isIn, Cond.code yX7_isIn cX7_isIn 3 (some .boolean), Cond.methodLink RX7 96 yX7_can, Cond.instanceMethod yX7_can, Cond.selects RX7 yX7_can yX7_can, Cond.code yX7_can cX7_can 2 (some .boolean), Cond.fieldLink RX7 86 "HopperCourtModel" "thrown" "I", Cond.methodLink RX7 127 yX7_hopsOf, Cond.instanceMethod yX7_hopsOf, Cond.selects RX7 yX7_hopsOf yX7_hopsOf, Cond.code yX7_hopsOf cX7_hopsOf 3 (some .int), Cond.fieldLink RX7 62 "HopperCourtModel" "isEnd" "[Z", Cond.fieldLink RX7 56 "HopperCourtModel" "level" "[I", Cond.methodLink RX7 161 yX7_endsOf, Cond.instanceMethod yX7_endsOf, Cond.selects RX7 yX7_endsOf yX7_endsOf]
def wsX7_move_r2 : List Cond := [Cond.code yX7_endsOf cX7_endsOf 5 (some .int), Cond.methodLink RX7 152 yX7_hopsFrom, Cond.instanceMethod yX7_hopsFrom, Cond.selects RX7 yX7_hopsFrom yX7_hopsFrom, Cond.code yX7_hopsFrom cX7_hopsFrom 7 none, Cond.fieldLink RX7 59 "HopperCourtModel" "queue" "[I", Cond.methodLink RX7 148 yX7_behind, Cond.instanceMethod yX7_behind, Cond.selects RX7 yX7_behind yX7_behind, Cond.code yX7_behind cX7_behind 7 (some .int), Cond.fieldLink RX7 19 "HopperCourtModel" "next" "[I", Cond.methodLink RX7 155 yX7_isNext, Cond.instanceMethod yX7_isNext, Cond.selects RX7 yX7_isNext yX7_isNext, Cond.code yX7_isNext cX7_isNext 3 (some .boolean), Cond.fieldLink RX7 22 "HopperCourtModel" "far" "[I", Cond.methodLink RX7 158 yX7_mayEnd, Cond.instanceMethod yX7_mayEnd, Cond.selects RX7 yX7_mayEnd yX7_mayEnd, Cond.code yX7_mayEnd cX7_mayEnd 5 (some .boolean), Cond.fieldLink RX7 16 "HopperCourtModel" "camp" "[I", Cond.methodLink RX7 130 yX7_notes, Cond.instanceMethod yX7_notes, Cond.selects RX7 yX7_notes yX7_notes]
def wsX7_move_r3 : List Cond := [Cond.code yX7_notes cX7_notes 3 none, Cond.fieldLink RX7 41 "HopperCourtModel" "movedFrom" "[I", Cond.fieldLink RX7 44 "HopperCourtModel" "movedTo" "[I", Cond.fieldLink RX7 47 "HopperCourtModel" "turnWas" "[I", Cond.fieldLink RX7 50 "HopperCourtModel" "outWas" "[I", Cond.fieldLink RX7 106 "HopperCourtModel" "out" "I", Cond.fieldLink RX7 53 "HopperCourtModel" "finishersWas" "[I", Cond.fieldLink RX7 109 "HopperCourtModel" "finishers" "I", Cond.fieldLink RX7 35 "HopperCourtModel" "movesOf" "[I", Cond.methodLink RX7 134 yX7_finishes, Cond.instanceMethod yX7_finishes, Cond.selects RX7 yX7_finishes yX7_finishes, Cond.code yX7_finishes cX7_finishes 3 none, Cond.fieldLink RX7 28 "HopperCourtModel" "fill" "I", Cond.fieldLink RX7 38 "HopperCourtModel" "places" "[I", Cond.methodLink RX7 100 yX7_plays, Cond.instanceMethod yX7_plays, Cond.selects RX7 yX7_plays yX7_plays, Cond.code yX7_plays cX7_plays 2 (some .boolean), Cond.fieldLink RX7 93 "HopperCourtModel" "players" "I", Cond.methodLink RX7 118 yX7_hasFinished, Cond.instanceMethod yX7_hasFinished, Cond.selects RX7 yX7_hasFinished yX7_hasFinished, Cond.code yX7_hasFinished cX7_hasFinished 4 (some .boolean)]
def wsX7_move_r4 : List Cond := [Cond.methodLink RX7 121 yX7_isFull, Cond.instanceMethod yX7_isFull, Cond.selects RX7 yX7_isFull yX7_isFull, Cond.code yX7_isFull cX7_isFull 2 (some .boolean), Cond.methodLink RX7 115 yX7_ownIn, Cond.instanceMethod yX7_ownIn, Cond.selects RX7 yX7_ownIn yX7_ownIn, Cond.code yX7_ownIn cX7_ownIn 5 (some .int), Cond.fieldLink RX7 25 "HopperCourtModel" "cells" "[I", Cond.methodLink RX7 137 yX7_turns, Cond.instanceMethod yX7_turns, Cond.selects RX7 yX7_turns yX7_turns, Cond.code yX7_turns cX7_turns 5 none, Cond.fieldLink RX7 112 "HopperCourtModel" "patience" "I"]
def wsX7_move : List Cond := .code yX7_move cX7_move 4 (some .int) :: ((wsX7_move_r1 ++ (wsX7_move_r2 ++ (wsX7_move_r3 ++ wsX7_move_r4))) ++ wsX70)
def wsX7_allMoves_r1 : List Cond := [Cond.methodLink RX7 161 yX7_endsOf, Cond.instanceMethod yX7_endsOf, Cond.selects RX7 yX7_endsOf yX7_endsOf, Cond.initialized RX7, Cond.code yX7_endsOf cX7_endsOf 5 (some .int), Cond.fieldLink RX7 83 "HopperCourtModel" "turn" "I", Cond.fieldLink RX7 32 "HopperCourtModel" "board" "[I", Cond.fieldLink RX7 62 "HopperCourtModel" "isEnd" "[Z", Cond.fieldLink RX7 56 "HopperCourtModel" "level" "[I", Cond.methodLink RX7 152 yX7_hopsFrom, Cond.instanceMethod yX7_hopsFrom, Cond.selects RX7 yX7_hopsFrom yX7_hopsFrom, Cond.code yX7_hopsFrom cX7_hopsFrom 7 none, Cond.fieldLink RX7 59 "HopperCourtModel" "queue" "[I", Cond.methodLink RX7 148 yX7_behind, Cond.instanceMethod yX7_behind, Cond.selects RX7 yX7_behind yX7_behind, Cond.code yX7_behind cX7_behind 7 (some .int), Cond.fieldLink RX7 19 "HopperCourtModel" "next" "[I", Cond.methodLink RX7 155 yX7_isNext, Cond.instanceMethod yX7_isNext, Cond.selects RX7 yX7_isNext yX7_isNext, Cond.code yX7_isNext cX7_isNext 3 (some .boolean), Cond.fieldLink RX7 22 "HopperCourtModel" "far" "[I"]
def wsX7_allMoves_r2 : List Cond := [Cond.methodLink RX7 158 yX7_mayEnd, Cond.instanceMethod yX7_mayEnd, Cond.selects RX7 yX7_mayEnd yX7_mayEnd, Cond.code yX7_mayEnd cX7_mayEnd 5 (some .boolean), Cond.fieldLink RX7 16 "HopperCourtModel" "camp" "[I"]
def wsX7_allMoves : List Cond := .code yX7_allMoves cX7_allMoves 3 (some .int) :: ((wsX7_allMoves_r1 ++ wsX7_allMoves_r2) ++ wsX70)
def wsX7_pass_r1 : List Cond := [Cond.fieldLink RX7 83 "HopperCourtModel" "turn" "I", Cond.fieldLink RX7 103 "HopperCourtModel" "made" "I", Cond.methodLink RX7 140 yX7_allMoves, Cond.instanceMethod yX7_allMoves, Cond.selects RX7 yX7_allMoves yX7_allMoves, Cond.initialized RX7, Cond.code yX7_allMoves cX7_allMoves 3 (some .int), Cond.methodLink RX7 161 yX7_endsOf, Cond.instanceMethod yX7_endsOf, Cond.selects RX7 yX7_endsOf yX7_endsOf, Cond.code yX7_endsOf cX7_endsOf 5 (some .int), Cond.fieldLink RX7 32 "HopperCourtModel" "board" "[I", Cond.fieldLink RX7 62 "HopperCourtModel" "isEnd" "[Z", Cond.fieldLink RX7 56 "HopperCourtModel" "level" "[I", Cond.methodLink RX7 152 yX7_hopsFrom, Cond.instanceMethod yX7_hopsFrom, Cond.selects RX7 yX7_hopsFrom yX7_hopsFrom, Cond.code yX7_hopsFrom cX7_hopsFrom 7 none, Cond.fieldLink RX7 59 "HopperCourtModel" "queue" "[I", Cond.methodLink RX7 148 yX7_behind, Cond.instanceMethod yX7_behind, Cond.selects RX7 yX7_behind yX7_behind, Cond.code yX7_behind cX7_behind 7 (some .int), Cond.fieldLink RX7 19 "HopperCourtModel" "next" "[I"]
def wsX7_pass_r2 : List Cond := [Cond.methodLink RX7 155 yX7_isNext, Cond.instanceMethod yX7_isNext, Cond.selects RX7 yX7_isNext yX7_isNext, Cond.code yX7_isNext cX7_isNext 3 (some .boolean), Cond.fieldLink RX7 22 "HopperCourtModel" "far" "[I", Cond.methodLink RX7 158 yX7_mayEnd, Cond.instanceMethod yX7_mayEnd, Cond.selects RX7 yX7_mayEnd yX7_mayEnd, Cond.code yX7_mayEnd cX7_mayEnd 5 (some .boolean), Cond.fieldLink RX7 16 "HopperCourtModel" "camp" "[I", Cond.methodLink RX7 96 yX7_can, Cond.instanceMethod yX7_can, Cond.selects RX7 yX7_can yX7_can, Cond.code yX7_can cX7_can 2 (some .boolean), Cond.fieldLink RX7 86 "HopperCourtModel" "thrown" "I", Cond.methodLink RX7 130 yX7_notes, Cond.instanceMethod yX7_notes, Cond.selects RX7 yX7_notes yX7_notes, Cond.code yX7_notes cX7_notes 3 none, Cond.fieldLink RX7 41 "HopperCourtModel" "movedFrom" "[I", Cond.fieldLink RX7 44 "HopperCourtModel" "movedTo" "[I", Cond.fieldLink RX7 47 "HopperCourtModel" "turnWas" "[I", Cond.fieldLink RX7 50 "HopperCourtModel" "outWas" "[I", Cond.fieldLink RX7 106 "HopperCourtModel" "out" "I"]
def wsX7_pass_r3 : List Cond := [Cond.fieldLink RX7 53 "HopperCourtModel" "finishersWas" "[I", Cond.fieldLink RX7 109 "HopperCourtModel" "finishers" "I", Cond.fieldLink RX7 35 "HopperCourtModel" "movesOf" "[I", Cond.methodLink RX7 137 yX7_turns, Cond.instanceMethod yX7_turns, Cond.selects RX7 yX7_turns yX7_turns, Cond.code yX7_turns cX7_turns 5 none, Cond.fieldLink RX7 112 "HopperCourtModel" "patience" "I", Cond.methodLink RX7 100 yX7_plays, Cond.instanceMethod yX7_plays, Cond.selects RX7 yX7_plays yX7_plays, Cond.code yX7_plays cX7_plays 2 (some .boolean), Cond.fieldLink RX7 93 "HopperCourtModel" "players" "I", Cond.methodLink RX7 89 yX7_isIn, Cond.static yX7_isIn, Cond.code yX7_isIn cX7_isIn 3 (some .boolean), Cond.methodLink RX7 118 yX7_hasFinished, Cond.instanceMethod yX7_hasFinished, Cond.selects RX7 yX7_hasFinished yX7_hasFinished, Cond.code yX7_hasFinished cX7_hasFinished 4 (some .boolean), Cond.fieldLink RX7 38 "HopperCourtModel" "places" "[I", Cond.methodLink RX7 115 yX7_ownIn, Cond.instanceMethod yX7_ownIn, Cond.selects RX7 yX7_ownIn yX7_ownIn]
def wsX7_pass_r4 : List Cond := [Cond.code yX7_ownIn cX7_ownIn 5 (some .int), Cond.fieldLink RX7 25 "HopperCourtModel" "cells" "[I"]
def wsX7_pass : List Cond := .code yX7_pass cX7_pass 1 none :: ((wsX7_pass_r1 ++ (wsX7_pass_r2 ++ (wsX7_pass_r3 ++ wsX7_pass_r4))) ++ wsX70)
def wsX7_undo : List Cond := .code yX7_undo cX7_undo 1 (some .int) :: ([.fieldLink RX7 103 "HopperCourtModel" "made" "I", .fieldLink RX7 47 "HopperCourtModel" "turnWas" "[I", .fieldLink RX7 83 "HopperCourtModel" "turn" "I", .fieldLink RX7 50 "HopperCourtModel" "outWas" "[I", .fieldLink RX7 106 "HopperCourtModel" "out" "I", .fieldLink RX7 53 "HopperCourtModel" "finishersWas" "[I", .fieldLink RX7 109 "HopperCourtModel" "finishers" "I", .fieldLink RX7 35 "HopperCourtModel" "movesOf" "[I", .fieldLink RX7 41 "HopperCourtModel" "movedFrom" "[I", .fieldLink RX7 32 "HopperCourtModel" "board" "[I", .fieldLink RX7 44 "HopperCourtModel" "movedTo" "[I", .methodLink RX7 96 yX7_can, .instanceMethod yX7_can, .selects RX7 yX7_can yX7_can, .initialized RX7, .code yX7_can cX7_can 2 (some .boolean), .fieldLink RX7 86 "HopperCourtModel" "thrown" "I"] ++ wsX70)
def wsX7_at : List Cond := .code yX7_at cX7_at 2 (some .int) :: ([.fieldLink RX7 32 "HopperCourtModel" "board" "[I", .methodLink RX7 124 yX7_isCell, .static yX7_isCell, .initialized RX7, .code yX7_isCell cX7_isCell 1 (some .boolean), .methodLink RX7 89 yX7_isIn, .static yX7_isIn, .code yX7_isIn cX7_isIn 3 (some .boolean), .methodLink RX7 96 yX7_can, .instanceMethod yX7_can, .selects RX7 yX7_can yX7_can, .code yX7_can cX7_can 2 (some .boolean), .fieldLink RX7 86 "HopperCourtModel" "thrown" "I"] ++ wsX70)
def wsX7_cellAt : List Cond := .code yX7_cellAt cX7_cellAt 3 (some .int) :: ([.fieldLink RX7 86 "HopperCourtModel" "thrown" "I", .methodLink RX7 76 yX7_find, .instanceMethod yX7_find, .selects RX7 yX7_find yX7_find, .initialized RX7, .code yX7_find cX7_find 5 (some .int), .fieldLink RX7 7 "HopperCourtModel" "row" "[I", .fieldLink RX7 13 "HopperCourtModel" "column" "[I"] ++ wsX70)
def wsX7_campOf : List Cond := .code yX7_campOf cX7_campOf 2 (some .int) :: ([.fieldLink RX7 16 "HopperCourtModel" "camp" "[I", .methodLink RX7 124 yX7_isCell, .static yX7_isCell, .initialized RX7, .code yX7_isCell cX7_isCell 1 (some .boolean), .methodLink RX7 89 yX7_isIn, .static yX7_isIn, .code yX7_isIn cX7_isIn 3 (some .boolean), .methodLink RX7 96 yX7_can, .instanceMethod yX7_can, .selects RX7 yX7_can yX7_can, .code yX7_can cX7_can 2 (some .boolean), .fieldLink RX7 86 "HopperCourtModel" "thrown" "I"] ++ wsX70)
def wsX7_areCells : List Cond := .code yX7_areCells cX7_areCells 3 (some .boolean) :: ([.methodLink RX7 124 yX7_isCell, .static yX7_isCell, .initialized RX7, .code yX7_isCell cX7_isCell 1 (some .boolean), .methodLink RX7 89 yX7_isIn, .static yX7_isIn, .code yX7_isIn cX7_isIn 3 (some .boolean), .methodLink RX7 96 yX7_can, .instanceMethod yX7_can, .selects RX7 yX7_can yX7_can, .code yX7_can cX7_can 2 (some .boolean), .fieldLink RX7 86 "HopperCourtModel" "thrown" "I"] ++ wsX70)
def wsX7_distance : List Cond := .code yX7_distance cX7_distance 3 (some .int) :: ([.fieldLink RX7 22 "HopperCourtModel" "far" "[I", .methodLink RX7 144 yX7_areCells, .instanceMethod yX7_areCells, .selects RX7 yX7_areCells yX7_areCells, .initialized RX7, .code yX7_areCells cX7_areCells 3 (some .boolean), .methodLink RX7 124 yX7_isCell, .static yX7_isCell, .code yX7_isCell cX7_isCell 1 (some .boolean), .methodLink RX7 89 yX7_isIn, .static yX7_isIn, .code yX7_isIn cX7_isIn 3 (some .boolean), .methodLink RX7 96 yX7_can, .instanceMethod yX7_can, .selects RX7 yX7_can yX7_can, .code yX7_can cX7_can 2 (some .boolean), .fieldLink RX7 86 "HopperCourtModel" "thrown" "I"] ++ wsX70)
def wsX7_turn : List Cond := .code yX7_turn cX7_turn 1 (some .int) :: ([.fieldLink RX7 86 "HopperCourtModel" "thrown" "I", .fieldLink RX7 83 "HopperCourtModel" "turn" "I"] ++ wsX70)
def wsX7_made : List Cond := .code yX7_made cX7_made 1 (some .int) :: ([.fieldLink RX7 86 "HopperCourtModel" "thrown" "I", .fieldLink RX7 103 "HopperCourtModel" "made" "I"] ++ wsX70)
def wsX7_ends_r1 : List Cond := [Cond.methodLink RX7 124 yX7_isCell, Cond.static yX7_isCell, Cond.initialized RX7, Cond.code yX7_isCell cX7_isCell 1 (some .boolean), Cond.methodLink RX7 89 yX7_isIn, Cond.static yX7_isIn, Cond.code yX7_isIn cX7_isIn 3 (some .boolean), Cond.methodLink RX7 96 yX7_can, Cond.instanceMethod yX7_can, Cond.selects RX7 yX7_can yX7_can, Cond.code yX7_can cX7_can 2 (some .boolean), Cond.fieldLink RX7 86 "HopperCourtModel" "thrown" "I", Cond.methodLink RX7 161 yX7_endsOf, Cond.instanceMethod yX7_endsOf, Cond.selects RX7 yX7_endsOf yX7_endsOf, Cond.code yX7_endsOf cX7_endsOf 5 (some .int), Cond.fieldLink RX7 83 "HopperCourtModel" "turn" "I", Cond.fieldLink RX7 32 "HopperCourtModel" "board" "[I", Cond.fieldLink RX7 62 "HopperCourtModel" "isEnd" "[Z", Cond.fieldLink RX7 56 "HopperCourtModel" "level" "[I", Cond.methodLink RX7 152 yX7_hopsFrom, Cond.instanceMethod yX7_hopsFrom, Cond.selects RX7 yX7_hopsFrom yX7_hopsFrom, Cond.code yX7_hopsFrom cX7_hopsFrom 7 none]
def wsX7_ends_r2 : List Cond := [Cond.fieldLink RX7 59 "HopperCourtModel" "queue" "[I", Cond.methodLink RX7 148 yX7_behind, Cond.instanceMethod yX7_behind, Cond.selects RX7 yX7_behind yX7_behind, Cond.code yX7_behind cX7_behind 7 (some .int), Cond.fieldLink RX7 19 "HopperCourtModel" "next" "[I", Cond.methodLink RX7 155 yX7_isNext, Cond.instanceMethod yX7_isNext, Cond.selects RX7 yX7_isNext yX7_isNext, Cond.code yX7_isNext cX7_isNext 3 (some .boolean), Cond.fieldLink RX7 22 "HopperCourtModel" "far" "[I", Cond.methodLink RX7 158 yX7_mayEnd, Cond.instanceMethod yX7_mayEnd, Cond.selects RX7 yX7_mayEnd yX7_mayEnd, Cond.code yX7_mayEnd cX7_mayEnd 5 (some .boolean), Cond.fieldLink RX7 16 "HopperCourtModel" "camp" "[I"]
def wsX7_ends : List Cond := .code yX7_ends cX7_ends 2 (some .int) :: ((wsX7_ends_r1 ++ wsX7_ends_r2) ++ wsX70)
def wsX7_endAt_r1 : List Cond := [Cond.fieldLink RX7 62 "HopperCourtModel" "isEnd" "[Z", Cond.methodLink RX7 124 yX7_isCell, Cond.static yX7_isCell, Cond.initialized RX7, Cond.code yX7_isCell cX7_isCell 1 (some .boolean), Cond.methodLink RX7 89 yX7_isIn, Cond.static yX7_isIn, Cond.code yX7_isIn cX7_isIn 3 (some .boolean), Cond.methodLink RX7 161 yX7_endsOf, Cond.instanceMethod yX7_endsOf, Cond.selects RX7 yX7_endsOf yX7_endsOf, Cond.code yX7_endsOf cX7_endsOf 5 (some .int), Cond.fieldLink RX7 83 "HopperCourtModel" "turn" "I", Cond.fieldLink RX7 32 "HopperCourtModel" "board" "[I", Cond.fieldLink RX7 56 "HopperCourtModel" "level" "[I", Cond.methodLink RX7 152 yX7_hopsFrom, Cond.instanceMethod yX7_hopsFrom, Cond.selects RX7 yX7_hopsFrom yX7_hopsFrom, Cond.code yX7_hopsFrom cX7_hopsFrom 7 none, Cond.fieldLink RX7 59 "HopperCourtModel" "queue" "[I", Cond.methodLink RX7 148 yX7_behind, Cond.instanceMethod yX7_behind, Cond.selects RX7 yX7_behind yX7_behind, Cond.code yX7_behind cX7_behind 7 (some .int)]
def wsX7_endAt_r2 : List Cond := [Cond.fieldLink RX7 19 "HopperCourtModel" "next" "[I", Cond.methodLink RX7 155 yX7_isNext, Cond.instanceMethod yX7_isNext, Cond.selects RX7 yX7_isNext yX7_isNext, Cond.code yX7_isNext cX7_isNext 3 (some .boolean), Cond.fieldLink RX7 22 "HopperCourtModel" "far" "[I", Cond.methodLink RX7 158 yX7_mayEnd, Cond.instanceMethod yX7_mayEnd, Cond.selects RX7 yX7_mayEnd yX7_mayEnd, Cond.code yX7_mayEnd cX7_mayEnd 5 (some .boolean), Cond.fieldLink RX7 16 "HopperCourtModel" "camp" "[I", Cond.methodLink RX7 96 yX7_can, Cond.instanceMethod yX7_can, Cond.selects RX7 yX7_can yX7_can, Cond.code yX7_can cX7_can 2 (some .boolean), Cond.fieldLink RX7 86 "HopperCourtModel" "thrown" "I"]
def wsX7_endAt : List Cond := .code yX7_endAt cX7_endAt 7 (some .int) :: ((wsX7_endAt_r1 ++ wsX7_endAt_r2) ++ wsX70)
def wsX7_moves_r1 : List Cond := [Cond.fieldLink RX7 86 "HopperCourtModel" "thrown" "I", Cond.methodLink RX7 140 yX7_allMoves, Cond.instanceMethod yX7_allMoves, Cond.selects RX7 yX7_allMoves yX7_allMoves, Cond.initialized RX7, Cond.code yX7_allMoves cX7_allMoves 3 (some .int), Cond.methodLink RX7 161 yX7_endsOf, Cond.instanceMethod yX7_endsOf, Cond.selects RX7 yX7_endsOf yX7_endsOf, Cond.code yX7_endsOf cX7_endsOf 5 (some .int), Cond.fieldLink RX7 83 "HopperCourtModel" "turn" "I", Cond.fieldLink RX7 32 "HopperCourtModel" "board" "[I", Cond.fieldLink RX7 62 "HopperCourtModel" "isEnd" "[Z", Cond.fieldLink RX7 56 "HopperCourtModel" "level" "[I", Cond.methodLink RX7 152 yX7_hopsFrom, Cond.instanceMethod yX7_hopsFrom, Cond.selects RX7 yX7_hopsFrom yX7_hopsFrom, Cond.code yX7_hopsFrom cX7_hopsFrom 7 none, Cond.fieldLink RX7 59 "HopperCourtModel" "queue" "[I", Cond.methodLink RX7 148 yX7_behind, Cond.instanceMethod yX7_behind, Cond.selects RX7 yX7_behind yX7_behind, Cond.code yX7_behind cX7_behind 7 (some .int), Cond.fieldLink RX7 19 "HopperCourtModel" "next" "[I"]
def wsX7_moves_r2 : List Cond := [Cond.methodLink RX7 155 yX7_isNext, Cond.instanceMethod yX7_isNext, Cond.selects RX7 yX7_isNext yX7_isNext, Cond.code yX7_isNext cX7_isNext 3 (some .boolean), Cond.fieldLink RX7 22 "HopperCourtModel" "far" "[I", Cond.methodLink RX7 158 yX7_mayEnd, Cond.instanceMethod yX7_mayEnd, Cond.selects RX7 yX7_mayEnd yX7_mayEnd, Cond.code yX7_mayEnd cX7_mayEnd 5 (some .boolean), Cond.fieldLink RX7 16 "HopperCourtModel" "camp" "[I"]
def wsX7_moves : List Cond := .code yX7_moves cX7_moves 1 (some .int) :: ((wsX7_moves_r1 ++ wsX7_moves_r2) ++ wsX70)
def wsX7_chainAt_r1 : List Cond := [Cond.fieldLink RX7 56 "HopperCourtModel" "level" "[I", Cond.methodLink RX7 124 yX7_isCell, Cond.static yX7_isCell, Cond.initialized RX7, Cond.code yX7_isCell cX7_isCell 1 (some .boolean), Cond.methodLink RX7 89 yX7_isIn, Cond.static yX7_isIn, Cond.code yX7_isIn cX7_isIn 3 (some .boolean), Cond.methodLink RX7 96 yX7_can, Cond.instanceMethod yX7_can, Cond.selects RX7 yX7_can yX7_can, Cond.code yX7_can cX7_can 2 (some .boolean), Cond.fieldLink RX7 86 "HopperCourtModel" "thrown" "I", Cond.methodLink RX7 127 yX7_hopsOf, Cond.instanceMethod yX7_hopsOf, Cond.selects RX7 yX7_hopsOf yX7_hopsOf, Cond.code yX7_hopsOf cX7_hopsOf 3 (some .int), Cond.fieldLink RX7 62 "HopperCourtModel" "isEnd" "[Z", Cond.methodLink RX7 161 yX7_endsOf, Cond.instanceMethod yX7_endsOf, Cond.selects RX7 yX7_endsOf yX7_endsOf, Cond.code yX7_endsOf cX7_endsOf 5 (some .int), Cond.fieldLink RX7 83 "HopperCourtModel" "turn" "I", Cond.fieldLink RX7 32 "HopperCourtModel" "board" "[I"]
def wsX7_chainAt_r2 : List Cond := [Cond.methodLink RX7 152 yX7_hopsFrom, Cond.instanceMethod yX7_hopsFrom, Cond.selects RX7 yX7_hopsFrom yX7_hopsFrom, Cond.code yX7_hopsFrom cX7_hopsFrom 7 none, Cond.fieldLink RX7 59 "HopperCourtModel" "queue" "[I", Cond.methodLink RX7 148 yX7_behind, Cond.instanceMethod yX7_behind, Cond.selects RX7 yX7_behind yX7_behind, Cond.code yX7_behind cX7_behind 7 (some .int), Cond.fieldLink RX7 19 "HopperCourtModel" "next" "[I", Cond.methodLink RX7 155 yX7_isNext, Cond.instanceMethod yX7_isNext, Cond.selects RX7 yX7_isNext yX7_isNext, Cond.code yX7_isNext cX7_isNext 3 (some .boolean), Cond.fieldLink RX7 22 "HopperCourtModel" "far" "[I", Cond.methodLink RX7 158 yX7_mayEnd, Cond.instanceMethod yX7_mayEnd, Cond.selects RX7 yX7_mayEnd yX7_mayEnd, Cond.code yX7_mayEnd cX7_mayEnd 5 (some .boolean), Cond.fieldLink RX7 16 "HopperCourtModel" "camp" "[I"]
def wsX7_chainAt : List Cond := .code yX7_chainAt cX7_chainAt 10 (some .int) :: ((wsX7_chainAt_r1 ++ wsX7_chainAt_r2) ++ wsX70)
def wsX7_hops_r1 : List Cond := [Cond.methodLink RX7 144 yX7_areCells, Cond.instanceMethod yX7_areCells, Cond.selects RX7 yX7_areCells yX7_areCells, Cond.initialized RX7, Cond.code yX7_areCells cX7_areCells 3 (some .boolean), Cond.methodLink RX7 124 yX7_isCell, Cond.static yX7_isCell, Cond.code yX7_isCell cX7_isCell 1 (some .boolean), Cond.methodLink RX7 89 yX7_isIn, Cond.static yX7_isIn, Cond.code yX7_isIn cX7_isIn 3 (some .boolean), Cond.methodLink RX7 96 yX7_can, Cond.instanceMethod yX7_can, Cond.selects RX7 yX7_can yX7_can, Cond.code yX7_can cX7_can 2 (some .boolean), Cond.fieldLink RX7 86 "HopperCourtModel" "thrown" "I", Cond.methodLink RX7 127 yX7_hopsOf, Cond.instanceMethod yX7_hopsOf, Cond.selects RX7 yX7_hopsOf yX7_hopsOf, Cond.code yX7_hopsOf cX7_hopsOf 3 (some .int), Cond.fieldLink RX7 62 "HopperCourtModel" "isEnd" "[Z", Cond.fieldLink RX7 56 "HopperCourtModel" "level" "[I", Cond.methodLink RX7 161 yX7_endsOf, Cond.instanceMethod yX7_endsOf]
def wsX7_hops_r2 : List Cond := [Cond.selects RX7 yX7_endsOf yX7_endsOf, Cond.code yX7_endsOf cX7_endsOf 5 (some .int), Cond.fieldLink RX7 83 "HopperCourtModel" "turn" "I", Cond.fieldLink RX7 32 "HopperCourtModel" "board" "[I", Cond.methodLink RX7 152 yX7_hopsFrom, Cond.instanceMethod yX7_hopsFrom, Cond.selects RX7 yX7_hopsFrom yX7_hopsFrom, Cond.code yX7_hopsFrom cX7_hopsFrom 7 none, Cond.fieldLink RX7 59 "HopperCourtModel" "queue" "[I", Cond.methodLink RX7 148 yX7_behind, Cond.instanceMethod yX7_behind, Cond.selects RX7 yX7_behind yX7_behind, Cond.code yX7_behind cX7_behind 7 (some .int), Cond.fieldLink RX7 19 "HopperCourtModel" "next" "[I", Cond.methodLink RX7 155 yX7_isNext, Cond.instanceMethod yX7_isNext, Cond.selects RX7 yX7_isNext yX7_isNext, Cond.code yX7_isNext cX7_isNext 3 (some .boolean), Cond.fieldLink RX7 22 "HopperCourtModel" "far" "[I", Cond.methodLink RX7 158 yX7_mayEnd, Cond.instanceMethod yX7_mayEnd, Cond.selects RX7 yX7_mayEnd yX7_mayEnd, Cond.code yX7_mayEnd cX7_mayEnd 5 (some .boolean), Cond.fieldLink RX7 16 "HopperCourtModel" "camp" "[I"]
def wsX7_hops : List Cond := .code yX7_hops cX7_hops 3 (some .int) :: ((wsX7_hops_r1 ++ wsX7_hops_r2) ++ wsX70)
def wsX7_finished : List Cond := .code yX7_finished cX7_finished 2 (some .int) :: ([.fieldLink RX7 109 "HopperCourtModel" "finishers" "I", .fieldLink RX7 38 "HopperCourtModel" "places" "[I", .methodLink RX7 89 yX7_isIn, .static yX7_isIn, .initialized RX7, .code yX7_isIn cX7_isIn 3 (some .boolean), .methodLink RX7 96 yX7_can, .instanceMethod yX7_can, .selects RX7 yX7_can yX7_can, .code yX7_can cX7_can 2 (some .boolean), .fieldLink RX7 86 "HopperCourtModel" "thrown" "I"] ++ wsX70)
def wsX7_isOut : List Cond := .code yX7_isOut cX7_isOut 2 (some .boolean) :: ([.fieldLink RX7 106 "HopperCourtModel" "out" "I", .methodLink RX7 89 yX7_isIn, .static yX7_isIn, .initialized RX7, .code yX7_isIn cX7_isIn 3 (some .boolean), .methodLink RX7 96 yX7_can, .instanceMethod yX7_can, .selects RX7 yX7_can yX7_can, .code yX7_can cX7_can 2 (some .boolean), .fieldLink RX7 86 "HopperCourtModel" "thrown" "I"] ++ wsX70)
def wsX7_wayOf : List Cond := .code yX7_wayOf cX7_wayOf 8 (some .int) :: ([.fieldLink RX7 32 "HopperCourtModel" "board" "[I", .fieldLink RX7 69 "HopperCourtModel" "marbles" "[I", .fieldLink RX7 66 "HopperCourtModel" "cheapest" "[I", .constant RX7 165 (1000000), .fieldLink RX7 22 "HopperCourtModel" "far" "[I", .fieldLink RX7 25 "HopperCourtModel" "cells" "[I"] ++ wsX70)
def wsX7_way : List Cond := .code yX7_way cX7_way 2 (some .int) :: ([.methodLink RX7 89 yX7_isIn, .static yX7_isIn, .initialized RX7, .code yX7_isIn cX7_isIn 3 (some .boolean), .methodLink RX7 96 yX7_can, .instanceMethod yX7_can, .selects RX7 yX7_can yX7_can, .code yX7_can cX7_can 2 (some .boolean), .fieldLink RX7 86 "HopperCourtModel" "thrown" "I", .methodLink RX7 100 yX7_plays, .instanceMethod yX7_plays, .selects RX7 yX7_plays yX7_plays, .code yX7_plays cX7_plays 2 (some .boolean), .fieldLink RX7 93 "HopperCourtModel" "players" "I", .methodLink RX7 166 yX7_wayOf, .instanceMethod yX7_wayOf, .selects RX7 yX7_wayOf yX7_wayOf, .code yX7_wayOf cX7_wayOf 8 (some .int), .fieldLink RX7 32 "HopperCourtModel" "board" "[I", .fieldLink RX7 69 "HopperCourtModel" "marbles" "[I", .fieldLink RX7 66 "HopperCourtModel" "cheapest" "[I", .constant RX7 165 (1000000), .fieldLink RX7 22 "HopperCourtModel" "far" "[I", .fieldLink RX7 25 "HopperCourtModel" "cells" "[I"] ++ wsX70)
def wsX7_best_r1 : List Cond := [Cond.constant RX7 165 (1000000), Cond.fieldLink RX7 83 "HopperCourtModel" "turn" "I", Cond.fieldLink RX7 62 "HopperCourtModel" "isEnd" "[Z", Cond.fieldLink RX7 32 "HopperCourtModel" "board" "[I", Cond.methodLink RX7 161 yX7_endsOf, Cond.instanceMethod yX7_endsOf, Cond.selects RX7 yX7_endsOf yX7_endsOf, Cond.initialized RX7, Cond.code yX7_endsOf cX7_endsOf 5 (some .int), Cond.fieldLink RX7 56 "HopperCourtModel" "level" "[I", Cond.methodLink RX7 152 yX7_hopsFrom, Cond.instanceMethod yX7_hopsFrom, Cond.selects RX7 yX7_hopsFrom yX7_hopsFrom, Cond.code yX7_hopsFrom cX7_hopsFrom 7 none, Cond.fieldLink RX7 59 "HopperCourtModel" "queue" "[I", Cond.methodLink RX7 148 yX7_behind, Cond.instanceMethod yX7_behind, Cond.selects RX7 yX7_behind yX7_behind, Cond.code yX7_behind cX7_behind 7 (some .int), Cond.fieldLink RX7 19 "HopperCourtModel" "next" "[I", Cond.methodLink RX7 155 yX7_isNext, Cond.instanceMethod yX7_isNext, Cond.selects RX7 yX7_isNext yX7_isNext, Cond.code yX7_isNext cX7_isNext 3 (some .boolean)]
def wsX7_best_r2 : List Cond := [Cond.fieldLink RX7 22 "HopperCourtModel" "far" "[I", Cond.methodLink RX7 158 yX7_mayEnd, Cond.instanceMethod yX7_mayEnd, Cond.selects RX7 yX7_mayEnd yX7_mayEnd, Cond.code yX7_mayEnd cX7_mayEnd 5 (some .boolean), Cond.fieldLink RX7 16 "HopperCourtModel" "camp" "[I", Cond.methodLink RX7 166 yX7_wayOf, Cond.instanceMethod yX7_wayOf, Cond.selects RX7 yX7_wayOf yX7_wayOf, Cond.code yX7_wayOf cX7_wayOf 8 (some .int), Cond.fieldLink RX7 69 "HopperCourtModel" "marbles" "[I", Cond.fieldLink RX7 66 "HopperCourtModel" "cheapest" "[I", Cond.fieldLink RX7 25 "HopperCourtModel" "cells" "[I"]
def wsX7_best : List Cond := .code yX7_best cX7_best 7 (some .int) :: ((wsX7_best_r1 ++ wsX7_best_r2) ++ wsX70)
def wsX7_bestFrom_r1 : List Cond := [Cond.fieldLink RX7 86 "HopperCourtModel" "thrown" "I", Cond.methodLink RX7 169 yX7_best, Cond.instanceMethod yX7_best, Cond.selects RX7 yX7_best yX7_best, Cond.initialized RX7, Cond.code yX7_best cX7_best 7 (some .int), Cond.constant RX7 165 (1000000), Cond.fieldLink RX7 83 "HopperCourtModel" "turn" "I", Cond.fieldLink RX7 62 "HopperCourtModel" "isEnd" "[Z", Cond.fieldLink RX7 32 "HopperCourtModel" "board" "[I", Cond.methodLink RX7 161 yX7_endsOf, Cond.instanceMethod yX7_endsOf, Cond.selects RX7 yX7_endsOf yX7_endsOf, Cond.code yX7_endsOf cX7_endsOf 5 (some .int), Cond.fieldLink RX7 56 "HopperCourtModel" "level" "[I", Cond.methodLink RX7 152 yX7_hopsFrom, Cond.instanceMethod yX7_hopsFrom, Cond.selects RX7 yX7_hopsFrom yX7_hopsFrom, Cond.code yX7_hopsFrom cX7_hopsFrom 7 none, Cond.fieldLink RX7 59 "HopperCourtModel" "queue" "[I", Cond.methodLink RX7 148 yX7_behind, Cond.instanceMethod yX7_behind, Cond.selects RX7 yX7_behind yX7_behind, Cond.code yX7_behind cX7_behind 7 (some .int)]
def wsX7_bestFrom_r2 : List Cond := [Cond.fieldLink RX7 19 "HopperCourtModel" "next" "[I", Cond.methodLink RX7 155 yX7_isNext, Cond.instanceMethod yX7_isNext, Cond.selects RX7 yX7_isNext yX7_isNext, Cond.code yX7_isNext cX7_isNext 3 (some .boolean), Cond.fieldLink RX7 22 "HopperCourtModel" "far" "[I", Cond.methodLink RX7 158 yX7_mayEnd, Cond.instanceMethod yX7_mayEnd, Cond.selects RX7 yX7_mayEnd yX7_mayEnd, Cond.code yX7_mayEnd cX7_mayEnd 5 (some .boolean), Cond.fieldLink RX7 16 "HopperCourtModel" "camp" "[I", Cond.methodLink RX7 166 yX7_wayOf, Cond.instanceMethod yX7_wayOf, Cond.selects RX7 yX7_wayOf yX7_wayOf, Cond.code yX7_wayOf cX7_wayOf 8 (some .int), Cond.fieldLink RX7 69 "HopperCourtModel" "marbles" "[I", Cond.fieldLink RX7 66 "HopperCourtModel" "cheapest" "[I", Cond.fieldLink RX7 25 "HopperCourtModel" "cells" "[I"]
def wsX7_bestFrom : List Cond := .code yX7_bestFrom cX7_bestFrom 2 (some .int) :: ((wsX7_bestFrom_r1 ++ wsX7_bestFrom_r2) ++ wsX70)
def wsX7_bestTo_r1 : List Cond := [Cond.fieldLink RX7 86 "HopperCourtModel" "thrown" "I", Cond.methodLink RX7 169 yX7_best, Cond.instanceMethod yX7_best, Cond.selects RX7 yX7_best yX7_best, Cond.initialized RX7, Cond.code yX7_best cX7_best 7 (some .int), Cond.constant RX7 165 (1000000), Cond.fieldLink RX7 83 "HopperCourtModel" "turn" "I", Cond.fieldLink RX7 62 "HopperCourtModel" "isEnd" "[Z", Cond.fieldLink RX7 32 "HopperCourtModel" "board" "[I", Cond.methodLink RX7 161 yX7_endsOf, Cond.instanceMethod yX7_endsOf, Cond.selects RX7 yX7_endsOf yX7_endsOf, Cond.code yX7_endsOf cX7_endsOf 5 (some .int), Cond.fieldLink RX7 56 "HopperCourtModel" "level" "[I", Cond.methodLink RX7 152 yX7_hopsFrom, Cond.instanceMethod yX7_hopsFrom, Cond.selects RX7 yX7_hopsFrom yX7_hopsFrom, Cond.code yX7_hopsFrom cX7_hopsFrom 7 none, Cond.fieldLink RX7 59 "HopperCourtModel" "queue" "[I", Cond.methodLink RX7 148 yX7_behind, Cond.instanceMethod yX7_behind, Cond.selects RX7 yX7_behind yX7_behind, Cond.code yX7_behind cX7_behind 7 (some .int)]
def wsX7_bestTo_r2 : List Cond := [Cond.fieldLink RX7 19 "HopperCourtModel" "next" "[I", Cond.methodLink RX7 155 yX7_isNext, Cond.instanceMethod yX7_isNext, Cond.selects RX7 yX7_isNext yX7_isNext, Cond.code yX7_isNext cX7_isNext 3 (some .boolean), Cond.fieldLink RX7 22 "HopperCourtModel" "far" "[I", Cond.methodLink RX7 158 yX7_mayEnd, Cond.instanceMethod yX7_mayEnd, Cond.selects RX7 yX7_mayEnd yX7_mayEnd, Cond.code yX7_mayEnd cX7_mayEnd 5 (some .boolean), Cond.fieldLink RX7 16 "HopperCourtModel" "camp" "[I", Cond.methodLink RX7 166 yX7_wayOf, Cond.instanceMethod yX7_wayOf, Cond.selects RX7 yX7_wayOf yX7_wayOf, Cond.code yX7_wayOf cX7_wayOf 8 (some .int), Cond.fieldLink RX7 69 "HopperCourtModel" "marbles" "[I", Cond.fieldLink RX7 66 "HopperCourtModel" "cheapest" "[I", Cond.fieldLink RX7 25 "HopperCourtModel" "cells" "[I"]
def wsX7_bestTo : List Cond := .code yX7_bestTo cX7_bestTo 2 (some .int) :: ((wsX7_bestTo_r1 ++ wsX7_bestTo_r2) ++ wsX70)
def wsJ9_abs_0f7a4 : List Cond := .code yJ9_abs_0f7a4 cJ9_abs_0f7a4 1 (some .int) :: ([])
def wsJ9_max_7cf53 : List Cond := .code yJ9_max_7cf53 cJ9_max_7cf53 2 (some .int) :: ([])
def wsJ9_min_7cf53 : List Cond := .code yJ9_min_7cf53 cJ9_min_7cf53 2 (some .int) :: ([])
set_option maxRecDepth 20000 in
theorem ggX0_add_X4_onTurn : GoodIn wsX0_add wsX4_onTurn := goodIn_r _ [11, 12, 29, 30, 31, 32, 33, 34, 35] (by decide +kernel) (by decide +kernel)
set_option maxRecDepth 20000 in
theorem gX0_add_X4_onTurn : GoodIn wsX0_add (wsV RX0 31 RX4 yX4_onTurn wsX4_onTurn) := goodIn_app (goodIn_of _ (by decide +kernel)) ggX0_add_X4_onTurn
set_option maxRecDepth 20000 in
theorem ggX0_add_X4_outSet : GoodIn wsX0_add wsX4_outSet := goodIn_r _ [16, 17, 29, 30, 31, 32, 33, 34, 35] (by decide +kernel) (by decide +kernel)
set_option maxRecDepth 20000 in
theorem gX0_add_X4_outSet : GoodIn wsX0_add (wsV RX0 37 RX4 yX4_outSet wsX4_outSet) := goodIn_app (goodIn_of _ (by decide +kernel)) ggX0_add_X4_outSet
set_option maxRecDepth 20000 in
theorem ggX0_add_X4_placedCount : GoodIn wsX0_add wsX4_placedCount := goodIn_r _ [21, 22, 29, 30, 31, 32, 33, 34, 35] (by decide +kernel) (by decide +kernel)
set_option maxRecDepth 20000 in
theorem gX0_add_X4_placedCount : GoodIn wsX0_add (wsV RX0 40 RX4 yX4_placedCount wsX4_placedCount) := goodIn_app (goodIn_of _ (by decide +kernel)) ggX0_add_X4_placedCount
set_option maxRecDepth 20000 in
theorem ggX0_takeBack_X1_carry : GoodIn wsX0_takeBack wsX1_carry := goodIn_r _ [11, 12, 13, 14, 15, 33, 34] (by decide +kernel) (by decide +kernel)
set_option maxRecDepth 20000 in
theorem gX0_takeBack_X1_carry : GoodIn wsX0_takeBack (wsV RX0 43 RX1 yX1_carry wsX1_carry) := goodIn_app (goodIn_of _ (by decide +kernel)) ggX0_takeBack_X1_carry
set_option maxRecDepth 20000 in
theorem ggX0_takeBack_X4_restore : GoodIn wsX0_takeBack wsX4_restore := goodIn_r _ [20, 21, 22, 23, 24, 25, 14, 26, 35, 36, 37, 38, 39, 40, 41] (by decide +kernel) (by decide +kernel)
set_option maxRecDepth 20000 in
theorem gX0_takeBack_X4_restore : GoodIn wsX0_takeBack (wsV RX0 49 RX4 yX4_restore wsX4_restore) := goodIn_app (goodIn_of _ (by decide +kernel)) ggX0_takeBack_X4_restore
set_option maxRecDepth 20000 in
theorem ggX1_init_X1_setUp : GoodIn wsX1_init wsX1_setUp := goodIn_r _ [11, 6, 5, 12, 13, 14, 15, 16, 17, 18, 19, 20, 21, 22, 23, 24, 25, 26] (by decide +kernel) (by decide +kernel)
set_option maxRecDepth 20000 in
theorem gX1_init_X1_setUp : GoodIn wsX1_init (wsV RX1 19 RX1 yX1_setUp wsX1_setUp) := goodIn_app (goodIn_of _ (by decide +kernel)) ggX1_init_X1_setUp
set_option maxRecDepth 20000 in
theorem ggX1_setUp_X5_camp : GoodIn wsX1_setUp wsX5_camp := goodIn_r _ [7, 8, 9, 10, 11, 14, 15, 16, 17] (by decide +kernel) (by decide +kernel)
set_option maxRecDepth 20000 in
theorem gX1_setUp_X5_camp : GoodIn wsX1_setUp (wsV RX1 23 RX5 yX5_camp wsX5_camp) := goodIn_app (goodIn_of _ (by decide +kernel)) ggX1_setUp_X5_camp
set_option maxRecDepth 20000 in
theorem ggX1_owner_X6_isCell : GoodIn wsX1_owner wsX6_isCell := goodIn_r _ [4] (by decide +kernel) (by decide +kernel)
set_option maxRecDepth 20000 in
theorem gX1_owner_X6_isCell_n29 : GoodIn wsX1_owner (wsX6_isCell) := ggX1_owner_X6_isCell
set_option maxRecDepth 20000 in
theorem ggX1_isEmpty_X6_isCell : GoodIn wsX1_isEmpty wsX6_isCell := goodIn_r _ [4] (by decide +kernel) (by decide +kernel)
set_option maxRecDepth 20000 in
theorem gX1_isEmpty_X6_isCell_n29 : GoodIn wsX1_isEmpty (wsX6_isCell) := ggX1_isEmpty_X6_isCell
set_option maxRecDepth 20000 in
theorem ggX1_carry_X6_isCell : GoodIn wsX1_carry wsX6_isCell := goodIn_r _ [4] (by decide +kernel) (by decide +kernel)
set_option maxRecDepth 20000 in
theorem gX1_carry_X6_isCell_n29 : GoodIn wsX1_carry (wsX6_isCell) := ggX1_carry_X6_isCell
set_option maxRecDepth 20000 in
theorem ggX1_countInCamp_X5_camp : GoodIn wsX1_countInCamp wsX5_camp := goodIn_r _ [7, 8, 9, 10, 11, 14, 15, 16, 17] (by decide +kernel) (by decide +kernel)
set_option maxRecDepth 20000 in
theorem gX1_countInCamp_X5_camp : GoodIn wsX1_countInCamp (wsV RX1 23 RX5 yX5_camp wsX5_camp) := goodIn_app (goodIn_of _ (by decide +kernel)) ggX1_countInCamp_X5_camp
set_option maxRecDepth 20000 in
theorem ggX2_leastSum_X2_measure : GoodIn wsX2_leastSum wsX2_measure := goodIn_r _ [6, 7, 8, 9, 10, 11, 12, 13, 5, 14, 15, 16, 17, 18, 19, 20, 21, 22, 23, 24, 25, 26, 27, 28, 29, 30, 31, 32, 33, 34, 35, 36, 37, 38, 39, 40, 41, 42, 43, 44, 45, 65, 66, 67, 68, 69, 70, 71, 72, 73, 74, 75, 76, 77, 78] (by decide +kernel) (by decide +kernel)
set_option maxRecDepth 20000 in
theorem gX2_leastSum_X2_measure : GoodIn wsX2_leastSum (wsV RX2 38 RX2 yX2_measure wsX2_measure) := goodIn_app (goodIn_of _ (by decide +kernel)) ggX2_leastSum_X2_measure
set_option maxRecDepth 20000 in
theorem ggX2_leastSum_X2_sumFirst : GoodIn wsX2_leastSum wsX2_sumFirst := goodIn_r _ [49, 1, 50, 51, 52, 53, 54, 55, 56, 57, 58, 59, 5, 60, 61, 7, 62, 63, 40, 64, 65, 66, 67, 68, 69, 70, 71, 72] (by decide +kernel) (by decide +kernel)
set_option maxRecDepth 20000 in
theorem gX2_leastSum_X2_sumFirst : GoodIn wsX2_leastSum (wsV RX2 42 RX2 yX2_sumFirst wsX2_sumFirst) := goodIn_app (goodIn_of _ (by decide +kernel)) ggX2_leastSum_X2_sumFirst
set_option maxRecDepth 20000 in
theorem ggX2_weighAllButOne_X2_measure : GoodIn wsX2_weighAllButOne wsX2_measure := goodIn_r _ [13, 14, 15, 16, 17, 18, 19, 20, 12, 21, 22, 23, 24, 25, 26, 27, 28, 29, 30, 31, 32, 33, 34, 35, 36, 37, 38, 39, 40, 41, 42, 43, 44, 45, 46, 7, 47, 48, 49, 50, 51, 71, 72, 73, 74, 75, 76, 77, 78, 79, 80, 81, 82, 83, 84] (by decide +kernel) (by decide +kernel)
set_option maxRecDepth 20000 in
theorem gX2_weighAllButOne_X2_measure : GoodIn wsX2_weighAllButOne (wsV RX2 38 RX2 yX2_measure wsX2_measure) := goodIn_app (goodIn_of _ (by decide +kernel)) ggX2_weighAllButOne_X2_measure
set_option maxRecDepth 20000 in
theorem ggX2_weighAllButOne_X2_sumFirst : GoodIn wsX2_weighAllButOne wsX2_sumFirst := goodIn_r _ [55, 3, 56, 57, 58, 59, 60, 61, 62, 63, 64, 65, 12, 66, 2, 14, 5, 6, 7, 8, 71, 72, 73, 74, 75, 76, 77, 78] (by decide +kernel) (by decide +kernel)
set_option maxRecDepth 20000 in
theorem gX2_weighAllButOne_X2_sumFirst : GoodIn wsX2_weighAllButOne (wsV RX2 42 RX2 yX2_sumFirst wsX2_sumFirst) := goodIn_app (goodIn_of _ (by decide +kernel)) ggX2_weighAllButOne_X2_sumFirst
set_option maxRecDepth 20000 in
theorem ggX2_weighAllButOne_X2_sumLast : GoodIn wsX2_weighAllButOne wsX2_sumLast := goodIn_r _ [70, 4, 56, 57, 58, 59, 60, 61, 62, 63, 64, 65, 12, 66, 2, 14, 5, 6, 7, 8, 71, 72, 73, 74, 75, 76, 77, 78] (by decide +kernel) (by decide +kernel)
set_option maxRecDepth 20000 in
theorem gX2_weighAllButOne_X2_sumLast : GoodIn wsX2_weighAllButOne (wsV RX2 45 RX2 yX2_sumLast wsX2_sumLast) := goodIn_app (goodIn_of _ (by decide +kernel)) ggX2_weighAllButOne_X2_sumLast
set_option maxRecDepth 20000 in
theorem ggX2_weighAllButOne_J6_bitCount_0f7a4 : GoodIn wsX2_weighAllButOne wsJ6_bitCount_0f7a4 := goodIn_r _ [59, 60, 61, 62] (by decide +kernel) (by decide +kernel)
set_option maxRecDepth 20000 in
theorem gX2_weighAllButOne_J6_bitCount_0f7a4 : GoodIn wsX2_weighAllButOne (va_wsS RX2 49 yJ6_bitCount_0f7a4 wsJ6_bitCount_0f7a4) := goodIn_app (goodIn_of _ (by decide +kernel)) ggX2_weighAllButOne_J6_bitCount_0f7a4
set_option maxRecDepth 20000 in
theorem ggX2_sumWith_X5_steps : GoodIn wsX2_sumWith wsX5_steps := goodIn_r _ [13, 14, 15, 16, 7, 17, 18, 19, 20, 21, 22, 23, 24, 33, 34, 35, 36] (by decide +kernel) (by decide +kernel)
set_option maxRecDepth 20000 in
theorem gX2_sumWith_X5_steps : GoodIn wsX2_sumWith (wsV RX2 61 RX5 yX5_steps wsX5_steps) := goodIn_app (goodIn_of _ (by decide +kernel)) ggX2_sumWith_X5_steps
set_option maxRecDepth 20000 in
theorem ggX2_measure_X2_collect : GoodIn wsX2_measure wsX2_collect := goodIn_r _ [9, 10, 3, 2, 4, 11, 12, 13, 14, 15, 16, 17, 18, 19, 20, 21, 22, 23, 24, 25, 26, 27, 41, 42, 43, 44, 45, 46, 47, 48, 49, 50, 51, 52, 53, 54] (by decide +kernel) (by decide +kernel)
set_option maxRecDepth 20000 in
theorem gX2_measure_X2_collect : GoodIn wsX2_measure (wsV RX2 65 RX2 yX2_collect wsX2_collect) := goodIn_app (goodIn_of _ (by decide +kernel)) ggX2_measure_X2_collect
set_option maxRecDepth 20000 in
theorem ggX2_measure_X5_steps : GoodIn wsX2_measure wsX5_steps := goodIn_r _ [31, 32, 33, 34, 35, 36, 37, 38, 39, 40, 20, 12, 21, 51, 52, 53, 54] (by decide +kernel) (by decide +kernel)
set_option maxRecDepth 20000 in
theorem gX2_measure_X5_steps : GoodIn wsX2_measure (wsV RX2 61 RX5 yX5_steps wsX5_steps) := goodIn_app (goodIn_of _ (by decide +kernel)) ggX2_measure_X5_steps
set_option maxRecDepth 20000 in
theorem ggX2_collect_X6_goalOf : GoodIn wsX2_collect wsX6_goalOf := goodIn_r _ [7] (by decide +kernel) (by decide +kernel)
set_option maxRecDepth 20000 in
theorem gX2_collect_X6_goalOf_n68 : GoodIn wsX2_collect (wsX6_goalOf) := ggX2_collect_X6_goalOf
set_option maxRecDepth 20000 in
theorem ggX2_collect_X1_owner : GoodIn wsX2_collect wsX1_owner := goodIn_r _ [12, 13, 14, 6, 15, 30, 31] (by decide +kernel) (by decide +kernel)
set_option maxRecDepth 20000 in
theorem gX2_collect_X1_owner : GoodIn wsX2_collect (wsV RX2 71 RX1 yX1_owner wsX1_owner) := goodIn_app (goodIn_of _ (by decide +kernel)) ggX2_collect_X1_owner
set_option maxRecDepth 20000 in
theorem ggX2_collect_X5_camp : GoodIn wsX2_collect wsX5_camp := goodIn_r _ [20, 21, 14, 6, 15, 32, 33, 34, 35] (by decide +kernel) (by decide +kernel)
set_option maxRecDepth 20000 in
theorem gX2_collect_X5_camp : GoodIn wsX2_collect (wsV RX2 76 RX5 yX5_camp wsX5_camp) := goodIn_app (goodIn_of _ (by decide +kernel)) ggX2_collect_X5_camp
set_option maxRecDepth 20000 in
theorem ggX2_sumFirst_J6_bitCount_0f7a4 : GoodIn wsX2_sumFirst wsJ6_bitCount_0f7a4 := goodIn_r _ [5, 6, 7, 8] (by decide +kernel) (by decide +kernel)
set_option maxRecDepth 20000 in
theorem gX2_sumFirst_J6_bitCount_0f7a4 : GoodIn wsX2_sumFirst (va_wsS RX2 49 yJ6_bitCount_0f7a4 wsJ6_bitCount_0f7a4) := goodIn_app (goodIn_of _ (by decide +kernel)) ggX2_sumFirst_J6_bitCount_0f7a4
set_option maxRecDepth 20000 in
theorem ggX2_sumFirst_X2_leastWith : GoodIn wsX2_sumFirst wsX2_leastWith := goodIn_r _ [13, 14, 15, 16, 17, 18, 19, 20, 21, 22, 23, 24, 25, 26, 27] (by decide +kernel) (by decide +kernel)
set_option maxRecDepth 20000 in
theorem gX2_sumFirst_X2_leastWith : GoodIn wsX2_sumFirst (wsV RX2 79 RX2 yX2_leastWith wsX2_leastWith) := goodIn_app (goodIn_of _ (by decide +kernel)) ggX2_sumFirst_X2_leastWith
set_option maxRecDepth 20000 in
theorem ggX2_sumLast_J6_bitCount_0f7a4 : GoodIn wsX2_sumLast wsJ6_bitCount_0f7a4 := goodIn_r _ [5, 6, 7, 8] (by decide +kernel) (by decide +kernel)
set_option maxRecDepth 20000 in
theorem gX2_sumLast_J6_bitCount_0f7a4 : GoodIn wsX2_sumLast (va_wsS RX2 49 yJ6_bitCount_0f7a4 wsJ6_bitCount_0f7a4) := goodIn_app (goodIn_of _ (by decide +kernel)) ggX2_sumLast_J6_bitCount_0f7a4
set_option maxRecDepth 20000 in
theorem ggX2_sumLast_X2_leastWith : GoodIn wsX2_sumLast wsX2_leastWith := goodIn_r _ [13, 14, 15, 16, 17, 18, 19, 20, 21, 22, 23, 24, 25, 26, 27] (by decide +kernel) (by decide +kernel)
set_option maxRecDepth 20000 in
theorem gX2_sumLast_X2_leastWith : GoodIn wsX2_sumLast (wsV RX2 79 RX2 yX2_leastWith wsX2_leastWith) := goodIn_app (goodIn_of _ (by decide +kernel)) ggX2_sumLast_X2_leastWith
set_option maxRecDepth 20000 in
theorem ggX3_search_X1_owner : GoodIn wsX3_search wsX1_owner := goodIn_r _ [9, 10, 11, 12, 13, 50, 51] (by decide +kernel) (by decide +kernel)
set_option maxRecDepth 20000 in
theorem gX3_search_X1_owner : GoodIn wsX3_search (wsV RX3 29 RX1 yX1_owner wsX1_owner) := goodIn_app (goodIn_of _ (by decide +kernel)) ggX3_search_X1_owner
set_option maxRecDepth 20000 in
theorem ggX3_search_X3_spread : GoodIn wsX3_search wsX3_spread := goodIn_r _ [18, 3, 19, 11, 12, 13, 20, 21, 22, 17, 23, 4, 1, 24, 25, 26, 27, 28, 29, 30, 31, 32, 8, 33, 10, 45, 46, 47, 48, 49, 52, 53, 54, 55, 50, 51] (by decide +kernel) (by decide +kernel)
set_option maxRecDepth 20000 in
theorem gX3_search_X3_spread : GoodIn wsX3_search (wsV RX3 35 RX3 yX3_spread wsX3_spread) := goodIn_app (goodIn_of _ (by decide +kernel)) ggX3_search_X3_spread
set_option maxRecDepth 20000 in
theorem ggX3_search_X3_mayEnd : GoodIn wsX3_search wsX3_mayEnd := goodIn_r _ [37, 4, 38, 12, 39, 40, 41, 42, 27, 43, 44, 11, 13, 45, 46, 47, 48, 49, 52, 53, 54, 55] (by decide +kernel) (by decide +kernel)
set_option maxRecDepth 20000 in
theorem gX3_search_X3_mayEnd : GoodIn wsX3_search (wsV RX3 39 RX3 yX3_mayEnd wsX3_mayEnd) := goodIn_app (goodIn_of _ (by decide +kernel)) ggX3_search_X3_mayEnd
set_option maxRecDepth 20000 in
theorem ggX3_search_X5_next : GoodIn wsX3_search wsX5_next := goodIn_r _ [28, 29, 11, 12, 13, 52, 53, 54, 55] (by decide +kernel) (by decide +kernel)
set_option maxRecDepth 20000 in
theorem gX3_search_X5_next : GoodIn wsX3_search (wsV RX3 45 RX5 yX5_next wsX5_next) := goodIn_app (goodIn_of _ (by decide +kernel)) ggX3_search_X5_next
set_option maxRecDepth 20000 in
theorem ggX3_search_X1_isEmpty : GoodIn wsX3_search wsX1_isEmpty := goodIn_r _ [33, 10, 11, 12, 13, 50, 51] (by decide +kernel) (by decide +kernel)
set_option maxRecDepth 20000 in
theorem gX3_search_X1_isEmpty : GoodIn wsX3_search (wsV RX3 49 RX1 yX1_isEmpty wsX1_isEmpty) := goodIn_app (goodIn_of _ (by decide +kernel)) ggX3_search_X1_isEmpty
set_option maxRecDepth 20000 in
theorem ggX3_hopsTo_X6_isCell : GoodIn wsX3_hopsTo wsX6_isCell := goodIn_r _ [4] (by decide +kernel) (by decide +kernel)
set_option maxRecDepth 20000 in
theorem gX3_hopsTo_X6_isCell_n53 : GoodIn wsX3_hopsTo (wsX6_isCell) := ggX3_hopsTo_X6_isCell
set_option maxRecDepth 20000 in
theorem ggX3_cellBehind_X3_spread : GoodIn wsX3_cellBehind wsX3_spread := goodIn_r _ [5, 6, 7, 8, 9, 10, 11, 12, 13, 4, 14, 15, 16, 17, 18, 19, 20, 21, 22, 23, 24, 25, 26, 27, 28, 33, 34, 35, 36, 37, 38, 39, 40, 41, 42, 43] (by decide +kernel) (by decide +kernel)
set_option maxRecDepth 20000 in
theorem gX3_cellBehind_X3_spread : GoodIn wsX3_cellBehind (wsV RX3 35 RX3 yX3_spread wsX3_spread) := goodIn_app (goodIn_of _ (by decide +kernel)) ggX3_cellBehind_X3_spread
set_option maxRecDepth 20000 in
theorem ggX3_cellBehind_X3_lowestNearer : GoodIn wsX3_cellBehind wsX3_lowestNearer := goodIn_r _ [32, 6, 11, 12, 13, 4, 14, 15, 16, 17, 18, 19, 20, 21, 22, 8, 9, 10, 23, 24, 25, 26, 27, 28, 33, 34, 35, 36, 37, 38, 39, 40, 41, 42, 43] (by decide +kernel) (by decide +kernel)
set_option maxRecDepth 20000 in
theorem gX3_cellBehind_X3_lowestNearer : GoodIn wsX3_cellBehind (wsV RX3 56 RX3 yX3_lowestNearer wsX3_lowestNearer) := goodIn_app (goodIn_of _ (by decide +kernel)) ggX3_cellBehind_X3_lowestNearer
set_option maxRecDepth 20000 in
theorem ggX3_lowestNearer_X3_landing : GoodIn wsX3_lowestNearer wsX3_landing := goodIn_r _ [6, 7, 8, 9, 10, 11, 12, 13, 14, 15, 16, 17, 18, 19, 20, 21, 22, 23, 24, 25, 26, 27, 28, 29, 30, 31, 32, 33, 34] (by decide +kernel) (by decide +kernel)
set_option maxRecDepth 20000 in
theorem gX3_lowestNearer_X3_landing : GoodIn wsX3_lowestNearer (wsV RX3 59 RX3 yX3_landing wsX3_landing) := goodIn_app (goodIn_of _ (by decide +kernel)) ggX3_lowestNearer_X3_landing
set_option maxRecDepth 20000 in
theorem ggX3_spread_X6_isCell : GoodIn wsX3_spread wsX6_isCell := goodIn_r _ [5] (by decide +kernel) (by decide +kernel)
set_option maxRecDepth 20000 in
theorem gX3_spread_X6_isCell_n53 : GoodIn wsX3_spread (wsX6_isCell) := ggX3_spread_X6_isCell
set_option maxRecDepth 20000 in
theorem ggX3_spread_X3_landing : GoodIn wsX3_spread wsX3_landing := goodIn_r _ [10, 11, 12, 13, 14, 15, 16, 17, 18, 3, 4, 5, 19, 20, 21, 22, 23, 24, 25, 26, 27, 28, 29, 30, 31, 32, 33, 34, 35] (by decide +kernel) (by decide +kernel)
set_option maxRecDepth 20000 in
theorem gX3_spread_X3_landing : GoodIn wsX3_spread (wsV RX3 59 RX3 yX3_landing wsX3_landing) := goodIn_app (goodIn_of _ (by decide +kernel)) ggX3_spread_X3_landing
set_option maxRecDepth 20000 in
theorem ggX3_landing_X5_next : GoodIn wsX3_landing wsX5_next := goodIn_r _ [7, 8, 9, 10, 11, 23, 24, 25, 26] (by decide +kernel) (by decide +kernel)
set_option maxRecDepth 20000 in
theorem gX3_landing_X5_next : GoodIn wsX3_landing (wsV RX3 45 RX5 yX5_next wsX5_next) := goodIn_app (goodIn_of _ (by decide +kernel)) ggX3_landing_X5_next
set_option maxRecDepth 20000 in
theorem ggX3_landing_X1_isEmpty : GoodIn wsX3_landing wsX1_isEmpty := goodIn_r _ [16, 17, 9, 10, 11, 27, 28] (by decide +kernel) (by decide +kernel)
set_option maxRecDepth 20000 in
theorem gX3_landing_X1_isEmpty : GoodIn wsX3_landing (wsV RX3 49 RX1 yX1_isEmpty wsX1_isEmpty) := goodIn_app (goodIn_of _ (by decide +kernel)) ggX3_landing_X1_isEmpty
set_option maxRecDepth 20000 in
theorem ggX3_mayEnd_X6_goalOf : GoodIn wsX3_mayEnd wsX6_goalOf := goodIn_r _ [4] (by decide +kernel) (by decide +kernel)
set_option maxRecDepth 20000 in
theorem gX3_mayEnd_X6_goalOf_n63 : GoodIn wsX3_mayEnd (wsX6_goalOf) := ggX3_mayEnd_X6_goalOf
set_option maxRecDepth 20000 in
theorem ggX3_mayEnd_X5_camp : GoodIn wsX3_mayEnd wsX5_camp := goodIn_r _ [9, 10, 11, 3, 12, 18, 19, 20, 21] (by decide +kernel) (by decide +kernel)
set_option maxRecDepth 20000 in
theorem gX3_mayEnd_X5_camp : GoodIn wsX3_mayEnd (wsV RX3 66 RX5 yX5_camp wsX5_camp) := goodIn_app (goodIn_of _ (by decide +kernel)) ggX3_mayEnd_X5_camp
set_option maxRecDepth 20000 in
theorem ggX4_setUp_X4_plays : GoodIn wsX4_setUp wsX4_plays := goodIn_r _ [10, 1, 11, 12, 13, 14, 15, 16, 17, 18, 19, 20] (by decide +kernel) (by decide +kernel)
set_option maxRecDepth 20000 in
theorem gX4_setUp_X4_plays : GoodIn wsX4_setUp (wsV RX4 35 RX4 yX4_plays wsX4_plays) := goodIn_app (goodIn_of _ (by decide +kernel)) ggX4_setUp_X4_plays
set_option maxRecDepth 20000 in
theorem ggX4_plays_X6_isCamp : GoodIn wsX4_plays wsX6_isCamp := goodIn_r _ [4] (by decide +kernel) (by decide +kernel)
set_option maxRecDepth 20000 in
theorem gX4_plays_X6_isCamp_n39 : GoodIn wsX4_plays (wsX6_isCamp) := ggX4_plays_X6_isCamp
set_option maxRecDepth 20000 in
theorem ggX4_hasDroppedOut_X6_isCamp : GoodIn wsX4_hasDroppedOut wsX6_isCamp := goodIn_r _ [4] (by decide +kernel) (by decide +kernel)
set_option maxRecDepth 20000 in
theorem gX4_hasDroppedOut_X6_isCamp_n39 : GoodIn wsX4_hasDroppedOut (wsX6_isCamp) := ggX4_hasDroppedOut_X6_isCamp
set_option maxRecDepth 20000 in
theorem ggX4_countMove_X6_isCamp : GoodIn wsX4_countMove wsX6_isCamp := goodIn_r _ [5] (by decide +kernel) (by decide +kernel)
set_option maxRecDepth 20000 in
theorem gX4_countMove_X6_isCamp_n39 : GoodIn wsX4_countMove (wsX6_isCamp) := ggX4_countMove_X6_isCamp
set_option maxRecDepth 20000 in
theorem ggX4_placeFinishers_X4_isStillIn : GoodIn wsX4_placeFinishers wsX4_isStillIn := goodIn_r _ [7, 8, 9, 10, 6, 11, 12, 13, 14, 15, 16, 17, 18, 19, 20, 21, 22, 23, 24, 1, 2, 47, 48, 49, 50, 51, 52, 53] (by decide +kernel) (by decide +kernel)
set_option maxRecDepth 20000 in
theorem gX4_placeFinishers_X4_isStillIn : GoodIn wsX4_placeFinishers (wsV RX4 42 RX4 yX4_isStillIn wsX4_isStillIn) := goodIn_app (goodIn_of _ (by decide +kernel)) ggX4_placeFinishers_X4_isStillIn
set_option maxRecDepth 20000 in
theorem ggX4_placeFinishers_X4_fillsGoal : GoodIn wsX4_placeFinishers wsX4_fillsGoal := goodIn_r _ [28, 29, 30, 14, 31, 32, 33, 34, 35, 36, 37, 38, 39, 40, 41, 42, 43, 44, 45, 46, 47, 48, 49, 50, 51, 52, 53, 54, 55, 56, 57, 58, 59] (by decide +kernel) (by decide +kernel)
set_option maxRecDepth 20000 in
theorem gX4_placeFinishers_X4_fillsGoal : GoodIn wsX4_placeFinishers (wsV RX4 45 RX4 yX4_fillsGoal wsX4_fillsGoal) := goodIn_app (goodIn_of _ (by decide +kernel)) ggX4_placeFinishers_X4_fillsGoal
set_option maxRecDepth 20000 in
theorem ggX4_goOn_X4_isStillIn : GoodIn wsX4_goOn wsX4_isStillIn := goodIn_r _ [7, 8, 9, 10, 6, 11, 12, 13, 14, 15, 16, 17, 18, 19, 2, 20, 21, 22, 23, 24, 25, 47, 48, 49, 50, 51, 52, 53] (by decide +kernel) (by decide +kernel)
set_option maxRecDepth 20000 in
theorem gX4_goOn_X4_isStillIn : GoodIn wsX4_goOn (wsV RX4 42 RX4 yX4_isStillIn wsX4_isStillIn) := goodIn_app (goodIn_of _ (by decide +kernel)) ggX4_goOn_X4_isStillIn
set_option maxRecDepth 20000 in
theorem ggX4_goOn_X4_isTooLate : GoodIn wsX4_goOn wsX4_isTooLate := goodIn_r _ [29, 30, 31, 13, 14, 15, 32, 33, 34, 35, 36, 37, 38, 39, 40, 41, 42, 43, 44, 45, 46, 47, 48, 49, 50, 51, 52, 53, 54, 55, 56, 57, 58, 59] (by decide +kernel) (by decide +kernel)
set_option maxRecDepth 20000 in
theorem gX4_goOn_X4_isTooLate : GoodIn wsX4_goOn (wsV RX4 49 RX4 yX4_isTooLate wsX4_isTooLate) := goodIn_app (goodIn_of _ (by decide +kernel)) ggX4_goOn_X4_isTooLate
set_option maxRecDepth 20000 in
theorem ggX4_restore_X6_isCamp : GoodIn wsX4_restore wsX6_isCamp := goodIn_r _ [7] (by decide +kernel) (by decide +kernel)
set_option maxRecDepth 20000 in
theorem gX4_restore_X6_isCamp_n39 : GoodIn wsX4_restore (wsX6_isCamp) := ggX4_restore_X6_isCamp
set_option maxRecDepth 20000 in
theorem ggX4_isStillIn_X4_plays : GoodIn wsX4_isStillIn wsX4_plays := goodIn_r _ [5, 6, 7, 8, 9, 21, 22, 23, 24, 25, 26, 27] (by decide +kernel) (by decide +kernel)
set_option maxRecDepth 20000 in
theorem gX4_isStillIn_X4_plays : GoodIn wsX4_isStillIn (wsV RX4 35 RX4 yX4_plays wsX4_plays) := goodIn_app (goodIn_of _ (by decide +kernel)) ggX4_isStillIn_X4_plays
set_option maxRecDepth 20000 in
theorem ggX4_isStillIn_X4_hasDroppedOut : GoodIn wsX4_isStillIn wsX4_hasDroppedOut := goodIn_r _ [13, 14, 7, 8, 9, 21, 22, 23, 24, 25, 26, 27] (by decide +kernel) (by decide +kernel)
set_option maxRecDepth 20000 in
theorem gX4_isStillIn_X4_hasDroppedOut : GoodIn wsX4_isStillIn (wsV RX4 52 RX4 yX4_hasDroppedOut wsX4_hasDroppedOut) := goodIn_app (goodIn_of _ (by decide +kernel)) ggX4_isStillIn_X4_hasDroppedOut
set_option maxRecDepth 20000 in
theorem ggX4_isStillIn_X4_isPlaced : GoodIn wsX4_isStillIn wsX4_isPlaced := goodIn_r _ [18, 19, 20, 21, 22, 23, 24, 25, 26, 27] (by decide +kernel) (by decide +kernel)
set_option maxRecDepth 20000 in
theorem gX4_isStillIn_X4_isPlaced : GoodIn wsX4_isStillIn (wsV RX4 55 RX4 yX4_isPlaced wsX4_isPlaced) := goodIn_app (goodIn_of _ (by decide +kernel)) ggX4_isStillIn_X4_isPlaced
set_option maxRecDepth 20000 in
theorem ggX4_fillsGoal_X6_goalOf : GoodIn wsX4_fillsGoal wsX6_goalOf := goodIn_r _ [4] (by decide +kernel) (by decide +kernel)
set_option maxRecDepth 20000 in
theorem gX4_fillsGoal_X6_goalOf_n58 : GoodIn wsX4_fillsGoal (wsX6_goalOf) := ggX4_fillsGoal_X6_goalOf
set_option maxRecDepth 20000 in
theorem ggX4_fillsGoal_X1_countInCamp : GoodIn wsX4_fillsGoal wsX1_countInCamp := goodIn_r _ [9, 10, 11, 12, 13, 14, 15, 16, 17, 18, 3, 19, 27, 28, 29, 30, 31, 32] (by decide +kernel) (by decide +kernel)
set_option maxRecDepth 20000 in
theorem gX4_fillsGoal_X1_countInCamp : GoodIn wsX4_fillsGoal (wsV RX4 62 RX1 yX1_countInCamp wsX1_countInCamp) := goodIn_app (goodIn_of _ (by decide +kernel)) ggX4_fillsGoal_X1_countInCamp
set_option maxRecDepth 20000 in
theorem ggX4_isTooLate_X6_isCamp : GoodIn wsX4_isTooLate wsX6_isCamp := goodIn_r _ [5] (by decide +kernel) (by decide +kernel)
set_option maxRecDepth 20000 in
theorem gX4_isTooLate_X6_isCamp_n39 : GoodIn wsX4_isTooLate (wsX6_isCamp) := ggX4_isTooLate_X6_isCamp
set_option maxRecDepth 20000 in
theorem ggX4_isTooLate_X1_countInCamp : GoodIn wsX4_isTooLate wsX1_countInCamp := goodIn_r _ [10, 11, 12, 13, 14, 15, 16, 17, 18, 19, 4, 20, 28, 29, 30, 31, 32, 33] (by decide +kernel) (by decide +kernel)
set_option maxRecDepth 20000 in
theorem gX4_isTooLate_X1_countInCamp : GoodIn wsX4_isTooLate (wsV RX4 62 RX1 yX1_countInCamp wsX1_countInCamp) := goodIn_app (goodIn_of _ (by decide +kernel)) ggX4_isTooLate_X1_countInCamp
set_option maxRecDepth 20000 in
theorem ggX5_init_X5_campAmong : GoodIn wsX5_init wsX5_campAmong := goodIn_r _ [16] (by decide +kernel) (by decide +kernel)
set_option maxRecDepth 20000 in
theorem gX5_init_X5_campAmong : GoodIn wsX5_init (va_wsS RX5 30 yX5_campAmong wsX5_campAmong) := goodIn_app (goodIn_of _ (by decide +kernel)) ggX5_init_X5_campAmong
set_option maxRecDepth 20000 in
theorem ggX5_init_X5_cellIn : GoodIn wsX5_init wsX5_cellIn := goodIn_r _ [19, 10, 9] (by decide +kernel) (by decide +kernel)
set_option maxRecDepth 20000 in
theorem gX5_init_X5_cellIn : GoodIn wsX5_init (va_wsS RX5 40 yX5_cellIn wsX5_cellIn) := goodIn_app (goodIn_of _ (by decide +kernel)) ggX5_init_X5_cellIn
set_option maxRecDepth 20000 in
theorem ggX5_camp_X6_isCell : GoodIn wsX5_camp wsX6_isCell := goodIn_r _ [4] (by decide +kernel) (by decide +kernel)
set_option maxRecDepth 20000 in
theorem gX5_camp_X6_isCell_n43 : GoodIn wsX5_camp (wsX6_isCell) := ggX5_camp_X6_isCell
set_option maxRecDepth 20000 in
theorem ggX5_next_X6_isCell : GoodIn wsX5_next wsX6_isCell := goodIn_r _ [4] (by decide +kernel) (by decide +kernel)
set_option maxRecDepth 20000 in
theorem gX5_next_X6_isCell_n43 : GoodIn wsX5_next (wsX6_isCell) := ggX5_next_X6_isCell
set_option maxRecDepth 20000 in
theorem ggX5_steps_X6_isCell : GoodIn wsX5_steps wsX6_isCell := goodIn_r _ [12] (by decide +kernel) (by decide +kernel)
set_option maxRecDepth 20000 in
theorem gX5_steps_X6_isCell_n43 : GoodIn wsX5_steps (wsX6_isCell) := ggX5_steps_X6_isCell
set_option maxRecDepth 20000 in
theorem ggX6_init_X5_init : GoodIn wsX6_init wsX5_init := goodIn_r _ [32, 33, 2, 3, 34, 35, 36, 37, 38, 39, 40, 41, 42, 43, 44, 6, 45, 46, 47, 48, 103, 104, 105, 106] (by decide +kernel) (by decide +kernel)
set_option maxRecDepth 20000 in
theorem gX6_init_X5_init : GoodIn wsX6_init (wsX5_init) := ggX6_init_X5_init
set_option maxRecDepth 20000 in
theorem ggX6_init_X1_init : GoodIn wsX6_init wsX1_init := goodIn_r _ [51, 52, 2, 3, 34, 53, 54, 55, 56, 57, 10, 58, 59, 60, 61, 6, 62, 37, 63, 64, 65, 115, 116, 103, 104, 105, 106] (by decide +kernel) (by decide +kernel)
set_option maxRecDepth 20000 in
theorem gX6_init_X1_init : GoodIn wsX6_init (wsX1_init) := ggX6_init_X1_init
set_option maxRecDepth 20000 in
theorem ggX6_init_X3_init : GoodIn wsX6_init wsX3_init := goodIn_r _ [68, 69, 2, 3, 34, 70, 71, 72, 73, 74, 117, 118, 119, 120, 121] (by decide +kernel) (by decide +kernel)
set_option maxRecDepth 20000 in
theorem gX6_init_X3_init : GoodIn wsX6_init (wsX3_init) := ggX6_init_X3_init
set_option maxRecDepth 20000 in
theorem ggX6_init_X2_init : GoodIn wsX6_init wsX2_init := goodIn_r _ [77, 78, 2, 3, 34, 79, 80, 81, 82, 83, 84, 85, 86, 122, 123, 124, 125, 126, 127, 128, 129] (by decide +kernel) (by decide +kernel)
set_option maxRecDepth 20000 in
theorem gX6_init_X2_init : GoodIn wsX6_init (wsX2_init) := ggX6_init_X2_init
set_option maxRecDepth 20000 in
theorem ggX6_init_X4_init : GoodIn wsX6_init wsX4_init := goodIn_r _ [89, 90, 2, 3, 34, 91, 92, 93, 94, 130, 131, 132, 133, 134, 135, 136] (by decide +kernel) (by decide +kernel)
set_option maxRecDepth 20000 in
theorem gX6_init_X4_init : GoodIn wsX6_init (wsX4_init) := ggX6_init_X4_init
set_option maxRecDepth 20000 in
theorem ggX6_init_X0_init : GoodIn wsX6_init wsX0_init := goodIn_r _ [96, 97, 2, 3, 34, 98, 99, 100, 101, 102, 137, 138, 139, 140, 141, 142] (by decide +kernel) (by decide +kernel)
set_option maxRecDepth 20000 in
theorem gX6_init_X0_init_n52 : GoodIn wsX6_init (wsX0_init) := ggX6_init_X0_init
set_option maxRecDepth 20000 in
theorem ggX6_begin_J6_bitCount_0f7a4 : GoodIn wsX6_begin wsJ6_bitCount_0f7a4 := goodIn_r _ [9, 10, 11, 12] (by decide +kernel) (by decide +kernel)
set_option maxRecDepth 20000 in
theorem gX6_begin_J6_bitCount_0f7a4 : GoodIn wsX6_begin (va_wsS RX6 64 yJ6_bitCount_0f7a4 wsJ6_bitCount_0f7a4) := goodIn_app (goodIn_of _ (by decide +kernel)) ggX6_begin_J6_bitCount_0f7a4
set_option maxRecDepth 20000 in
theorem ggX6_begin_X1_setUp : GoodIn wsX6_begin wsX1_setUp := goodIn_r _ [17, 18, 19, 20, 21, 22, 23, 24, 25, 26, 27, 28, 59, 60, 61, 62, 63, 64] (by decide +kernel) (by decide +kernel)
set_option maxRecDepth 20000 in
theorem gX6_begin_X1_setUp : GoodIn wsX6_begin (wsV RX6 77 RX1 yX1_setUp wsX1_setUp) := goodIn_app (goodIn_of _ (by decide +kernel)) ggX6_begin_X1_setUp
set_option maxRecDepth 20000 in
theorem ggX6_begin_X4_setUp : GoodIn wsX6_begin wsX4_setUp := goodIn_r _ [33, 34, 35, 36, 37, 38, 39, 40, 41, 32, 42, 43, 27, 44, 65, 66, 67, 68, 69, 70, 71] (by decide +kernel) (by decide +kernel)
set_option maxRecDepth 20000 in
theorem gX6_begin_X4_setUp : GoodIn wsX6_begin (wsV RX6 81 RX4 yX4_setUp wsX4_setUp) := goodIn_app (goodIn_of _ (by decide +kernel)) ggX6_begin_X4_setUp
set_option maxRecDepth 20000 in
theorem ggX6_begin_X0_clear : GoodIn wsX6_begin wsX0_clear := goodIn_r _ [49, 50, 72, 73, 74, 75, 76, 77] (by decide +kernel) (by decide +kernel)
set_option maxRecDepth 20000 in
theorem gX6_begin_X0_clear : GoodIn wsX6_begin (wsV RX6 82 RX0 yX0_clear wsX0_clear) := goodIn_app (goodIn_of _ (by decide +kernel)) ggX6_begin_X0_clear
set_option maxRecDepth 20000 in
theorem ggX6_move_X6_isCell : GoodIn wsX6_move wsX6_isCell := goodIn_r _ [16] (by decide +kernel) (by decide +kernel)
set_option maxRecDepth 20000 in
theorem gX6_move_X6_isCell : GoodIn wsX6_move (va_wsS RX6 89 yX6_isCell wsX6_isCell) := goodIn_app (goodIn_of _ (by decide +kernel)) ggX6_move_X6_isCell
set_option maxRecDepth 20000 in
theorem ggX6_move_X6_isOpen : GoodIn wsX6_move wsX6_isOpen := goodIn_r _ [20, 8, 9, 21, 22, 23, 24, 25, 26, 27, 28, 29, 30, 31, 32, 154, 155, 156, 157, 158, 159, 160, 161, 162, 163, 164, 165, 166, 167, 168, 169, 170, 171, 172, 173, 174] (by decide +kernel) (by decide +kernel)
set_option maxRecDepth 20000 in
theorem gX6_move_X6_isOpen : GoodIn wsX6_move (wsV RX6 98 RX6 yX6_isOpen wsX6_isOpen) := goodIn_app (goodIn_of _ (by decide +kernel)) ggX6_move_X6_isOpen
set_option maxRecDepth 20000 in
theorem ggX6_move_X4_onTurn : GoodIn wsX6_move wsX4_onTurn := goodIn_r _ [25, 26, 162, 163, 164, 165, 166, 167, 168] (by decide +kernel) (by decide +kernel)
set_option maxRecDepth 20000 in
theorem gX6_move_X4_onTurn : GoodIn wsX6_move (wsV RX6 107 RX4 yX4_onTurn wsX4_onTurn) := goodIn_app (goodIn_of _ (by decide +kernel)) ggX6_move_X4_onTurn
set_option maxRecDepth 20000 in
theorem ggX6_move_X3_search : GoodIn wsX6_move wsX3_search := goodIn_r _ [37, 38, 39, 40, 41, 42, 43, 44, 45, 46, 47, 14, 15, 16, 48, 49, 50, 36, 51, 52, 53, 54, 55, 56, 57, 58, 59, 60, 61, 62, 63, 64, 65, 66, 67, 68, 69, 70, 71, 72, 73, 74, 75, 76, 77, 175, 176, 177, 178, 179, 180, 181, 182, 183, 184, 185] (by decide +kernel) (by decide +kernel)
set_option maxRecDepth 20000 in
theorem gX6_move_X3_search : GoodIn wsX6_move (wsV RX6 111 RX3 yX3_search wsX3_search) := goodIn_app (goodIn_of _ (by decide +kernel)) ggX6_move_X3_search
set_option maxRecDepth 20000 in
theorem ggX6_move_X3_hopsTo : GoodIn wsX6_move wsX3_hopsTo := goodIn_r _ [81, 39, 14, 15, 16, 175, 176, 177, 178, 179] (by decide +kernel) (by decide +kernel)
set_option maxRecDepth 20000 in
theorem gX6_move_X3_hopsTo : GoodIn wsX6_move (wsV RX6 115 RX3 yX3_hopsTo wsX3_hopsTo) := goodIn_app (goodIn_of _ (by decide +kernel)) ggX6_move_X3_hopsTo
set_option maxRecDepth 20000 in
theorem ggX6_move_X0_add : GoodIn wsX6_move wsX0_add := goodIn_r _ [85, 32, 86, 87, 88, 89, 90, 91, 22, 23, 24, 25, 26, 92, 93, 94, 95, 96, 97, 98, 99, 100, 101, 169, 170, 171, 172, 173, 174, 162, 163, 164, 165, 166, 167, 168] (by decide +kernel) (by decide +kernel)
set_option maxRecDepth 20000 in
theorem gX6_move_X0_add : GoodIn wsX6_move (wsV RX6 120 RX0 yX0_add wsX0_add) := goodIn_app (goodIn_of _ (by decide +kernel)) ggX6_move_X0_add
set_option maxRecDepth 20000 in
theorem ggX6_move_X1_carry : GoodIn wsX6_move wsX1_carry := goodIn_r _ [105, 47, 14, 15, 16, 180, 181] (by decide +kernel) (by decide +kernel)
set_option maxRecDepth 20000 in
theorem gX6_move_X1_carry : GoodIn wsX6_move (wsV RX6 124 RX1 yX1_carry wsX1_carry) := goodIn_app (goodIn_of _ (by decide +kernel)) ggX6_move_X1_carry
set_option maxRecDepth 20000 in
theorem ggX6_move_X4_countMove : GoodIn wsX6_move wsX4_countMove := goodIn_r _ [109, 26, 110, 111, 15, 112, 162, 163, 164, 165, 166, 167, 168] (by decide +kernel) (by decide +kernel)
set_option maxRecDepth 20000 in
theorem gX6_move_X4_countMove : GoodIn wsX6_move (wsV RX6 127 RX4 yX4_countMove wsX4_countMove) := goodIn_app (goodIn_of _ (by decide +kernel)) ggX6_move_X4_countMove
set_option maxRecDepth 20000 in
theorem ggX6_move_X4_placeFinishers : GoodIn wsX6_move wsX4_placeFinishers := goodIn_r _ [116, 101, 117, 118, 119, 120, 24, 121, 122, 123, 124, 125, 126, 111, 15, 112, 127, 128, 129, 130, 96, 131, 132, 133, 134, 135, 136, 137, 138, 139, 71, 72, 140, 141, 142, 45, 143, 144, 47, 145, 74, 75, 60, 76, 77, 14, 16, 162, 163, 164, 165, 166, 167, 168, 180, 181, 182, 183, 184, 185] (by decide +kernel) (by decide +kernel)
set_option maxRecDepth 20000 in
theorem gX6_move_X4_placeFinishers : GoodIn wsX6_move (wsV RX6 130 RX4 yX4_placeFinishers wsX4_placeFinishers) := goodIn_app (goodIn_of _ (by decide +kernel)) ggX6_move_X4_placeFinishers
set_option maxRecDepth 20000 in
theorem ggX6_move_X4_goOn : GoodIn wsX6_move wsX4_goOn := goodIn_r _ [149, 26, 96, 118, 119, 120, 24, 121, 122, 123, 124, 125, 126, 111, 15, 112, 127, 128, 129, 130, 131, 132, 133, 134, 101, 117, 150, 151, 152, 153, 110, 139, 140, 141, 142, 45, 143, 144, 47, 145, 74, 75, 60, 76, 77, 14, 16, 162, 163, 164, 165, 166, 167, 168, 180, 181, 182, 183, 184, 185] (by decide +kernel) (by decide +kernel)
set_option maxRecDepth 20000 in
theorem gX6_move_X4_goOn : GoodIn wsX6_move (wsV RX6 133 RX4 yX4_goOn wsX4_goOn) := goodIn_app (goodIn_of _ (by decide +kernel)) ggX6_move_X4_goOn
set_option maxRecDepth 20000 in
theorem ggX6_pass_X6_isOpen : GoodIn wsX6_pass wsX6_isOpen := goodIn_r _ [10, 4, 3, 11, 12, 13, 14, 15, 16, 17, 18, 19, 20, 21, 22, 141, 142, 143, 144, 145, 146, 147, 148, 149, 150, 151, 152, 153, 154, 155, 156, 157, 158, 159, 160, 161] (by decide +kernel) (by decide +kernel)
set_option maxRecDepth 20000 in
theorem gX6_pass_X6_isOpen : GoodIn wsX6_pass (wsV RX6 98 RX6 yX6_isOpen wsX6_isOpen) := goodIn_app (goodIn_of _ (by decide +kernel)) ggX6_pass_X6_isOpen
set_option maxRecDepth 20000 in
theorem ggX6_pass_X6_moves : GoodIn wsX6_pass wsX6_moves := goodIn_r _ [26, 4, 27, 28, 11, 12, 13, 14, 15, 16, 29, 30, 31, 32, 33, 34, 35, 9, 36, 37, 38, 39, 40, 41, 42, 43, 44, 45, 46, 47, 48, 49, 50, 51, 52, 53, 54, 55, 56, 57, 58, 59, 60, 61, 62, 63, 64, 65, 66, 67, 68, 69, 70, 71, 72, 73, 74, 75, 76, 77, 78, 79, 80, 141, 142, 143, 144, 145, 146, 147, 148, 149, 150, 151, 152, 153, 154, 155, 162, 163, 164, 165, 166, 167, 168, 169, 170, 171, 172] (by decide +kernel) (by decide +kernel)
set_option maxRecDepth 20000 in
theorem gX6_pass_X6_moves : GoodIn wsX6_pass (wsV RX6 136 RX6 yX6_moves wsX6_moves) := goodIn_app (goodIn_of _ (by decide +kernel)) ggX6_pass_X6_moves
set_option maxRecDepth 20000 in
theorem ggX6_pass_X0_add : GoodIn wsX6_pass wsX0_add := goodIn_r _ [84, 22, 85, 86, 87, 88, 89, 90, 12, 13, 14, 15, 16, 91, 92, 93, 94, 95, 96, 97, 98, 99, 100, 156, 157, 158, 159, 160, 161, 149, 150, 151, 152, 153, 154, 155] (by decide +kernel) (by decide +kernel)
set_option maxRecDepth 20000 in
theorem gX6_pass_X0_add : GoodIn wsX6_pass (wsV RX6 120 RX0 yX0_add wsX0_add) := goodIn_app (goodIn_of _ (by decide +kernel)) ggX6_pass_X0_add
set_option maxRecDepth 20000 in
theorem ggX6_pass_X4_countMove : GoodIn wsX6_pass wsX4_countMove := goodIn_r _ [104, 16, 105, 106, 9, 107, 149, 150, 151, 152, 153, 154, 155] (by decide +kernel) (by decide +kernel)
set_option maxRecDepth 20000 in
theorem gX6_pass_X4_countMove : GoodIn wsX6_pass (wsV RX6 127 RX4 yX4_countMove wsX4_countMove) := goodIn_app (goodIn_of _ (by decide +kernel)) ggX6_pass_X4_countMove
set_option maxRecDepth 20000 in
theorem ggX6_pass_X4_goOn : GoodIn wsX6_pass wsX4_goOn := goodIn_r _ [111, 16, 95, 112, 113, 114, 14, 115, 116, 117, 118, 119, 120, 106, 9, 107, 121, 122, 123, 124, 125, 126, 127, 128, 100, 129, 130, 131, 132, 133, 105, 134, 135, 136, 137, 32, 138, 139, 34, 140, 73, 74, 59, 75, 76, 35, 36, 149, 150, 151, 152, 153, 154, 155, 162, 163, 169, 170, 171, 172] (by decide +kernel) (by decide +kernel)
set_option maxRecDepth 20000 in
theorem gX6_pass_X4_goOn : GoodIn wsX6_pass (wsV RX6 133 RX4 yX4_goOn wsX4_goOn) := goodIn_app (goodIn_of _ (by decide +kernel)) ggX6_pass_X4_goOn
set_option maxRecDepth 20000 in
theorem ggX6_undo_X0_size : GoodIn wsX6_undo wsX0_size := goodIn_r _ [10, 11, 49, 50, 51, 52, 53, 54] (by decide +kernel) (by decide +kernel)
set_option maxRecDepth 20000 in
theorem gX6_undo_X0_size : GoodIn wsX6_undo (wsV RX6 141 RX0 yX0_size wsX0_size) := goodIn_app (goodIn_of _ (by decide +kernel)) ggX6_undo_X0_size
set_option maxRecDepth 20000 in
theorem ggX6_undo_X0_takeBack : GoodIn wsX6_undo wsX0_takeBack := goodIn_r _ [15, 11, 16, 17, 18, 19, 20, 21, 22, 23, 24, 25, 26, 27, 28, 29, 30, 31, 32, 33, 34, 35, 36, 37, 38, 39, 40, 49, 50, 51, 52, 53, 54, 55, 56, 57, 58, 59, 60, 61, 62, 63] (by decide +kernel) (by decide +kernel)
set_option maxRecDepth 20000 in
theorem gX6_undo_X0_takeBack : GoodIn wsX6_undo (wsV RX6 146 RX0 yX0_takeBack wsX0_takeBack) := goodIn_app (goodIn_of _ (by decide +kernel)) ggX6_undo_X0_takeBack
set_option maxRecDepth 20000 in
theorem ggX6_at_X6_isCell : GoodIn wsX6_at wsX6_isCell := goodIn_r _ [7] (by decide +kernel) (by decide +kernel)
set_option maxRecDepth 20000 in
theorem gX6_at_X6_isCell : GoodIn wsX6_at (va_wsS RX6 89 yX6_isCell wsX6_isCell) := goodIn_app (goodIn_of _ (by decide +kernel)) ggX6_at_X6_isCell
set_option maxRecDepth 20000 in
theorem ggX6_at_X1_owner : GoodIn wsX6_at wsX1_owner := goodIn_r _ [12, 13, 5, 6, 7, 22, 23] (by decide +kernel) (by decide +kernel)
set_option maxRecDepth 20000 in
theorem gX6_at_X1_owner : GoodIn wsX6_at (wsV RX6 150 RX1 yX1_owner wsX1_owner) := goodIn_app (goodIn_of _ (by decide +kernel)) ggX6_at_X1_owner
set_option maxRecDepth 20000 in
theorem ggX6_cellAt_X5_cellIn : GoodIn wsX6_cellAt wsX5_cellIn := goodIn_r _ [4, 5, 6] (by decide +kernel) (by decide +kernel)
set_option maxRecDepth 20000 in
theorem gX6_cellAt_X5_cellIn : GoodIn wsX6_cellAt (va_wsS RX6 153 yX5_cellIn wsX5_cellIn) := goodIn_app (goodIn_of _ (by decide +kernel)) ggX6_cellAt_X5_cellIn
set_option maxRecDepth 20000 in
theorem ggX6_campOf_X6_isCell : GoodIn wsX6_campOf wsX6_isCell := goodIn_r _ [7] (by decide +kernel) (by decide +kernel)
set_option maxRecDepth 20000 in
theorem gX6_campOf_X6_isCell : GoodIn wsX6_campOf (va_wsS RX6 89 yX6_isCell wsX6_isCell) := goodIn_app (goodIn_of _ (by decide +kernel)) ggX6_campOf_X6_isCell
set_option maxRecDepth 20000 in
theorem ggX6_campOf_X5_camp : GoodIn wsX6_campOf wsX5_camp := goodIn_r _ [12, 13, 5, 6, 7, 22, 23, 24, 25] (by decide +kernel) (by decide +kernel)
set_option maxRecDepth 20000 in
theorem gX6_campOf_X5_camp : GoodIn wsX6_campOf (wsV RX6 157 RX5 yX5_camp wsX5_camp) := goodIn_app (goodIn_of _ (by decide +kernel)) ggX6_campOf_X5_camp
set_option maxRecDepth 20000 in
theorem ggX6_distance_X6_isCell : GoodIn wsX6_distance wsX6_isCell := goodIn_r _ [7] (by decide +kernel) (by decide +kernel)
set_option maxRecDepth 20000 in
theorem gX6_distance_X6_isCell : GoodIn wsX6_distance (va_wsS RX6 89 yX6_isCell wsX6_isCell) := goodIn_app (goodIn_of _ (by decide +kernel)) ggX6_distance_X6_isCell
set_option maxRecDepth 20000 in
theorem ggX6_distance_X5_steps : GoodIn wsX6_distance wsX5_steps := goodIn_r _ [12, 13, 14, 15, 16, 17, 18, 19, 20, 21, 5, 6, 7, 30, 31, 32, 33] (by decide +kernel) (by decide +kernel)
set_option maxRecDepth 20000 in
theorem gX6_distance_X5_steps : GoodIn wsX6_distance (wsV RX6 160 RX5 yX5_steps wsX5_steps) := goodIn_app (goodIn_of _ (by decide +kernel)) ggX6_distance_X5_steps
set_option maxRecDepth 20000 in
theorem ggX6_turn_X4_onTurn : GoodIn wsX6_turn wsX4_onTurn := goodIn_r _ [6, 7, 16, 17, 18, 19, 20, 21, 22] (by decide +kernel) (by decide +kernel)
set_option maxRecDepth 20000 in
theorem gX6_turn_X4_onTurn : GoodIn wsX6_turn (wsV RX6 107 RX4 yX4_onTurn wsX4_onTurn) := goodIn_app (goodIn_of _ (by decide +kernel)) ggX6_turn_X4_onTurn
set_option maxRecDepth 20000 in
theorem ggX6_made_X0_size : GoodIn wsX6_made wsX0_size := goodIn_r _ [6, 7, 16, 17, 18, 19, 20, 21] (by decide +kernel) (by decide +kernel)
set_option maxRecDepth 20000 in
theorem gX6_made_X0_size : GoodIn wsX6_made (wsV RX6 141 RX0 yX0_size wsX0_size) := goodIn_app (goodIn_of _ (by decide +kernel)) ggX6_made_X0_size
set_option maxRecDepth 20000 in
theorem ggX6_ends_X6_isCell : GoodIn wsX6_ends wsX6_isCell := goodIn_r _ [8] (by decide +kernel) (by decide +kernel)
set_option maxRecDepth 20000 in
theorem gX6_ends_X6_isCell : GoodIn wsX6_ends (va_wsS RX6 89 yX6_isCell wsX6_isCell) := goodIn_app (goodIn_of _ (by decide +kernel)) ggX6_ends_X6_isCell
set_option maxRecDepth 20000 in
theorem ggX6_ends_X4_onTurn : GoodIn wsX6_ends wsX4_onTurn := goodIn_r _ [13, 14, 72, 73, 74, 75, 76, 77, 78] (by decide +kernel) (by decide +kernel)
set_option maxRecDepth 20000 in
theorem gX6_ends_X4_onTurn : GoodIn wsX6_ends (wsV RX6 107 RX4 yX4_onTurn wsX4_onTurn) := goodIn_app (goodIn_of _ (by decide +kernel)) ggX6_ends_X4_onTurn
set_option maxRecDepth 20000 in
theorem ggX6_ends_X3_search : GoodIn wsX6_ends wsX3_search := goodIn_r _ [19, 20, 21, 22, 23, 24, 25, 26, 27, 28, 29, 6, 7, 8, 30, 31, 32, 18, 33, 34, 35, 36, 37, 38, 39, 40, 41, 42, 43, 44, 45, 46, 47, 48, 49, 50, 51, 52, 53, 54, 55, 56, 57, 58, 59, 79, 80, 81, 82, 83, 84, 85, 86, 87, 88, 89] (by decide +kernel) (by decide +kernel)
set_option maxRecDepth 20000 in
theorem gX6_ends_X3_search : GoodIn wsX6_ends (wsV RX6 111 RX3 yX3_search wsX3_search) := goodIn_app (goodIn_of _ (by decide +kernel)) ggX6_ends_X3_search
set_option maxRecDepth 20000 in
theorem ggX6_ends_X3_countEnds : GoodIn wsX6_ends wsX3_countEnds := goodIn_r _ [63, 21, 79, 80, 81, 82, 83] (by decide +kernel) (by decide +kernel)
set_option maxRecDepth 20000 in
theorem gX6_ends_X3_countEnds : GoodIn wsX6_ends (wsV RX6 163 RX3 yX3_countEnds wsX3_countEnds) := goodIn_app (goodIn_of _ (by decide +kernel)) ggX6_ends_X3_countEnds
set_option maxRecDepth 20000 in
theorem ggX6_endAt_X6_isCell : GoodIn wsX6_endAt wsX6_isCell := goodIn_r _ [8] (by decide +kernel) (by decide +kernel)
set_option maxRecDepth 20000 in
theorem gX6_endAt_X6_isCell : GoodIn wsX6_endAt (va_wsS RX6 89 yX6_isCell wsX6_isCell) := goodIn_app (goodIn_of _ (by decide +kernel)) ggX6_endAt_X6_isCell
set_option maxRecDepth 20000 in
theorem ggX6_endAt_X4_onTurn : GoodIn wsX6_endAt wsX4_onTurn := goodIn_r _ [13, 14, 72, 73, 74, 75, 76, 77, 78] (by decide +kernel) (by decide +kernel)
set_option maxRecDepth 20000 in
theorem gX6_endAt_X4_onTurn : GoodIn wsX6_endAt (wsV RX6 107 RX4 yX4_onTurn wsX4_onTurn) := goodIn_app (goodIn_of _ (by decide +kernel)) ggX6_endAt_X4_onTurn
set_option maxRecDepth 20000 in
theorem ggX6_endAt_X3_search : GoodIn wsX6_endAt wsX3_search := goodIn_r _ [19, 20, 21, 22, 23, 24, 25, 26, 27, 28, 29, 6, 7, 8, 30, 31, 32, 18, 33, 34, 35, 36, 37, 38, 39, 40, 41, 42, 43, 44, 45, 46, 47, 48, 49, 50, 51, 52, 53, 54, 55, 56, 57, 58, 59, 79, 80, 81, 82, 83, 84, 85, 86, 87, 88, 89] (by decide +kernel) (by decide +kernel)
set_option maxRecDepth 20000 in
theorem gX6_endAt_X3_search : GoodIn wsX6_endAt (wsV RX6 111 RX3 yX3_search wsX3_search) := goodIn_app (goodIn_of _ (by decide +kernel)) ggX6_endAt_X3_search
set_option maxRecDepth 20000 in
theorem ggX6_endAt_X3_end : GoodIn wsX6_endAt wsX3_end := goodIn_r _ [63, 21, 79, 80, 81, 82, 83] (by decide +kernel) (by decide +kernel)
set_option maxRecDepth 20000 in
theorem gX6_endAt_X3_end : GoodIn wsX6_endAt (wsV RX6 166 RX3 yX3_end wsX3_end) := goodIn_app (goodIn_of _ (by decide +kernel)) ggX6_endAt_X3_end
set_option maxRecDepth 20000 in
theorem ggX6_moves_X4_onTurn : GoodIn wsX6_moves wsX4_onTurn := goodIn_r _ [8, 9, 71, 72, 73, 74, 75, 76, 77] (by decide +kernel) (by decide +kernel)
set_option maxRecDepth 20000 in
theorem gX6_moves_X4_onTurn : GoodIn wsX6_moves (wsV RX6 107 RX4 yX4_onTurn wsX4_onTurn) := goodIn_app (goodIn_of _ (by decide +kernel)) ggX6_moves_X4_onTurn
set_option maxRecDepth 20000 in
theorem ggX6_moves_X1_owner : GoodIn wsX6_moves wsX1_owner := goodIn_r _ [14, 15, 16, 17, 18, 78, 79] (by decide +kernel) (by decide +kernel)
set_option maxRecDepth 20000 in
theorem gX6_moves_X1_owner : GoodIn wsX6_moves (wsV RX6 150 RX1 yX1_owner wsX1_owner) := goodIn_app (goodIn_of _ (by decide +kernel)) ggX6_moves_X1_owner
set_option maxRecDepth 20000 in
theorem ggX6_moves_X3_search : GoodIn wsX6_moves wsX3_search := goodIn_r _ [23, 24, 25, 26, 27, 28, 11, 12, 13, 14, 15, 16, 17, 18, 29, 30, 31, 22, 32, 33, 34, 35, 36, 37, 38, 39, 40, 41, 42, 43, 44, 45, 46, 47, 48, 49, 50, 51, 52, 53, 54, 55, 56, 57, 58, 80, 81, 82, 83, 84, 78, 79, 85, 86, 87, 88] (by decide +kernel) (by decide +kernel)
set_option maxRecDepth 20000 in
theorem gX6_moves_X3_search : GoodIn wsX6_moves (wsV RX6 111 RX3 yX3_search wsX3_search) := goodIn_app (goodIn_of _ (by decide +kernel)) ggX6_moves_X3_search
set_option maxRecDepth 20000 in
theorem ggX6_moves_X3_countEnds : GoodIn wsX6_moves wsX3_countEnds := goodIn_r _ [62, 25, 80, 81, 82, 83, 84] (by decide +kernel) (by decide +kernel)
set_option maxRecDepth 20000 in
theorem gX6_moves_X3_countEnds : GoodIn wsX6_moves (wsV RX6 163 RX3 yX3_countEnds wsX3_countEnds) := goodIn_app (goodIn_of _ (by decide +kernel)) ggX6_moves_X3_countEnds
set_option maxRecDepth 20000 in
theorem ggX6_chainAt_X6_isCell : GoodIn wsX6_chainAt wsX6_isCell := goodIn_r _ [8] (by decide +kernel) (by decide +kernel)
set_option maxRecDepth 20000 in
theorem gX6_chainAt_X6_isCell : GoodIn wsX6_chainAt (va_wsS RX6 89 yX6_isCell wsX6_isCell) := goodIn_app (goodIn_of _ (by decide +kernel)) ggX6_chainAt_X6_isCell
set_option maxRecDepth 20000 in
theorem ggX6_chainAt_X4_onTurn : GoodIn wsX6_chainAt wsX4_onTurn := goodIn_r _ [13, 14, 80, 81, 82, 83, 84, 85, 86] (by decide +kernel) (by decide +kernel)
set_option maxRecDepth 20000 in
theorem gX6_chainAt_X4_onTurn : GoodIn wsX6_chainAt (wsV RX6 107 RX4 yX4_onTurn wsX4_onTurn) := goodIn_app (goodIn_of _ (by decide +kernel)) ggX6_chainAt_X4_onTurn
set_option maxRecDepth 20000 in
theorem ggX6_chainAt_X3_search : GoodIn wsX6_chainAt wsX3_search := goodIn_r _ [19, 20, 21, 22, 23, 24, 25, 26, 27, 28, 29, 6, 7, 8, 30, 31, 32, 18, 33, 34, 35, 36, 37, 38, 39, 40, 41, 42, 43, 44, 45, 46, 47, 48, 49, 50, 51, 52, 53, 54, 55, 56, 57, 58, 59, 87, 88, 89, 90, 91, 92, 93, 94, 95, 96, 97] (by decide +kernel) (by decide +kernel)
set_option maxRecDepth 20000 in
theorem gX6_chainAt_X3_search : GoodIn wsX6_chainAt (wsV RX6 111 RX3 yX3_search wsX3_search) := goodIn_app (goodIn_of _ (by decide +kernel)) ggX6_chainAt_X3_search
set_option maxRecDepth 20000 in
theorem ggX6_chainAt_X3_hopsTo : GoodIn wsX6_chainAt wsX3_hopsTo := goodIn_r _ [63, 21, 6, 7, 8, 87, 88, 89, 90, 91] (by decide +kernel) (by decide +kernel)
set_option maxRecDepth 20000 in
theorem gX6_chainAt_X3_hopsTo : GoodIn wsX6_chainAt (wsV RX6 115 RX3 yX3_hopsTo wsX3_hopsTo) := goodIn_app (goodIn_of _ (by decide +kernel)) ggX6_chainAt_X3_hopsTo
set_option maxRecDepth 20000 in
theorem ggX6_chainAt_X3_cellBehind : GoodIn wsX6_chainAt wsX3_cellBehind := goodIn_r _ [67, 30, 31, 32, 18, 33, 22, 34, 6, 7, 8, 35, 36, 37, 38, 23, 20, 39, 40, 41, 42, 43, 44, 45, 46, 47, 27, 48, 29, 68, 69, 70, 71, 87, 88, 89, 90, 91, 94, 95, 96, 97, 92, 93] (by decide +kernel) (by decide +kernel)
set_option maxRecDepth 20000 in
theorem gX6_chainAt_X3_cellBehind : GoodIn wsX6_chainAt (wsV RX6 173 RX3 yX3_cellBehind wsX3_cellBehind) := goodIn_app (goodIn_of _ (by decide +kernel)) ggX6_chainAt_X3_cellBehind
set_option maxRecDepth 20000 in
theorem ggX6_hops_X6_isCell : GoodIn wsX6_hops wsX6_isCell := goodIn_r _ [8] (by decide +kernel) (by decide +kernel)
set_option maxRecDepth 20000 in
theorem gX6_hops_X6_isCell : GoodIn wsX6_hops (va_wsS RX6 89 yX6_isCell wsX6_isCell) := goodIn_app (goodIn_of _ (by decide +kernel)) ggX6_hops_X6_isCell
set_option maxRecDepth 20000 in
theorem ggX6_hops_X4_onTurn : GoodIn wsX6_hops wsX4_onTurn := goodIn_r _ [13, 14, 72, 73, 74, 75, 76, 77, 78] (by decide +kernel) (by decide +kernel)
set_option maxRecDepth 20000 in
theorem gX6_hops_X4_onTurn : GoodIn wsX6_hops (wsV RX6 107 RX4 yX4_onTurn wsX4_onTurn) := goodIn_app (goodIn_of _ (by decide +kernel)) ggX6_hops_X4_onTurn
set_option maxRecDepth 20000 in
theorem ggX6_hops_X3_search : GoodIn wsX6_hops wsX3_search := goodIn_r _ [19, 20, 21, 22, 23, 24, 25, 26, 27, 28, 29, 6, 7, 8, 30, 31, 32, 18, 33, 34, 35, 36, 37, 38, 39, 40, 41, 42, 43, 44, 45, 46, 47, 48, 49, 50, 51, 52, 53, 54, 55, 56, 57, 58, 59, 79, 80, 81, 82, 83, 84, 85, 86, 87, 88, 89] (by decide +kernel) (by decide +kernel)
set_option maxRecDepth 20000 in
theorem gX6_hops_X3_search : GoodIn wsX6_hops (wsV RX6 111 RX3 yX3_search wsX3_search) := goodIn_app (goodIn_of _ (by decide +kernel)) ggX6_hops_X3_search
set_option maxRecDepth 20000 in
theorem ggX6_hops_X3_hopsTo : GoodIn wsX6_hops wsX3_hopsTo := goodIn_r _ [63, 21, 6, 7, 8, 79, 80, 81, 82, 83] (by decide +kernel) (by decide +kernel)
set_option maxRecDepth 20000 in
theorem gX6_hops_X3_hopsTo : GoodIn wsX6_hops (wsV RX6 115 RX3 yX3_hopsTo wsX3_hopsTo) := goodIn_app (goodIn_of _ (by decide +kernel)) ggX6_hops_X3_hopsTo
set_option maxRecDepth 20000 in
theorem ggX6_finished_X6_isCamp : GoodIn wsX6_finished wsX6_isCamp := goodIn_r _ [7] (by decide +kernel) (by decide +kernel)
set_option maxRecDepth 20000 in
theorem gX6_finished_X6_isCamp : GoodIn wsX6_finished (va_wsS RX6 177 yX6_isCamp wsX6_isCamp) := goodIn_app (goodIn_of _ (by decide +kernel)) ggX6_finished_X6_isCamp
set_option maxRecDepth 20000 in
theorem ggX6_finished_X4_playerAtPlace : GoodIn wsX6_finished wsX4_playerAtPlace := goodIn_r _ [12, 13, 14, 23, 24, 25, 26, 27, 28, 29] (by decide +kernel) (by decide +kernel)
set_option maxRecDepth 20000 in
theorem gX6_finished_X4_playerAtPlace : GoodIn wsX6_finished (wsV RX6 182 RX4 yX4_playerAtPlace wsX4_playerAtPlace) := goodIn_app (goodIn_of _ (by decide +kernel)) ggX6_finished_X4_playerAtPlace
set_option maxRecDepth 20000 in
theorem ggX6_isOut_X6_isCamp : GoodIn wsX6_isOut wsX6_isCamp := goodIn_r _ [7] (by decide +kernel) (by decide +kernel)
set_option maxRecDepth 20000 in
theorem gX6_isOut_X6_isCamp : GoodIn wsX6_isOut (va_wsS RX6 177 yX6_isCamp wsX6_isCamp) := goodIn_app (goodIn_of _ (by decide +kernel)) ggX6_isOut_X6_isCamp
set_option maxRecDepth 20000 in
theorem ggX6_isOut_X4_hasDroppedOut : GoodIn wsX6_isOut wsX4_hasDroppedOut := goodIn_r _ [12, 13, 5, 6, 7, 22, 23, 24, 25, 26, 27, 28] (by decide +kernel) (by decide +kernel)
set_option maxRecDepth 20000 in
theorem gX6_isOut_X4_hasDroppedOut : GoodIn wsX6_isOut (wsV RX6 187 RX4 yX4_hasDroppedOut wsX4_hasDroppedOut) := goodIn_app (goodIn_of _ (by decide +kernel)) ggX6_isOut_X4_hasDroppedOut
set_option maxRecDepth 20000 in
theorem ggX6_way_X6_isCamp : GoodIn wsX6_way wsX6_isCamp := goodIn_r _ [8] (by decide +kernel) (by decide +kernel)
set_option maxRecDepth 20000 in
theorem gX6_way_X6_isCamp : GoodIn wsX6_way (va_wsS RX6 177 yX6_isCamp wsX6_isCamp) := goodIn_app (goodIn_of _ (by decide +kernel)) ggX6_way_X6_isCamp
set_option maxRecDepth 20000 in
theorem ggX6_way_X4_plays : GoodIn wsX6_way wsX4_plays := goodIn_r _ [13, 14, 6, 7, 8, 90, 91, 92, 93, 94, 95, 96] (by decide +kernel) (by decide +kernel)
set_option maxRecDepth 20000 in
theorem gX6_way_X4_plays : GoodIn wsX6_way (wsV RX6 190 RX4 yX4_plays wsX4_plays) := goodIn_app (goodIn_of _ (by decide +kernel)) ggX6_way_X4_plays
set_option maxRecDepth 20000 in
theorem ggX6_way_X2_leastSum : GoodIn wsX6_way wsX2_leastSum := goodIn_r _ [19, 20, 21, 22, 23, 18, 24, 25, 26, 27, 28, 29, 30, 31, 32, 33, 34, 7, 35, 36, 37, 38, 39, 40, 41, 42, 43, 44, 45, 46, 47, 48, 49, 50, 51, 52, 53, 54, 55, 56, 57, 58, 59, 60, 61, 62, 63, 64, 65, 66, 67, 68, 69, 70, 71, 72, 73, 74, 75, 76, 77, 78, 79, 80, 81, 97, 98, 99, 100, 101, 102, 103, 104, 105, 106, 107, 108, 109, 110] (by decide +kernel) (by decide +kernel)
set_option maxRecDepth 20000 in
theorem gX6_way_X2_leastSum : GoodIn wsX6_way (wsV RX6 193 RX2 yX2_leastSum wsX2_leastSum) := goodIn_app (goodIn_of _ (by decide +kernel)) ggX6_way_X2_leastSum
set_option maxRecDepth 20000 in
theorem ggX6_bestFrom_X6_bestMove : GoodIn wsX6_bestFrom wsX6_bestMove := goodIn_r _ [5, 6, 7, 8, 9, 10, 11, 12, 13, 14, 15, 16, 17, 18, 19, 20, 21, 22, 23, 24, 25, 26, 27, 28, 29, 30, 31, 32, 33, 34, 35, 36, 37, 38, 39, 40, 41, 42, 4, 43, 44, 45, 46, 47, 48, 49, 50, 51, 52, 53, 54, 55, 56, 57, 58, 59, 60, 61, 62, 63, 64, 65, 66, 67, 68, 69, 70, 71, 72, 73, 74, 75, 76, 77, 78, 79, 80, 81, 82, 83, 84, 85, 86, 87, 88, 89, 90, 91, 92, 93, 94, 95, 96, 97, 98, 99, 100, 101, 102, 103, 104, 105, 106, 107, 108, 109, 110, 111, 112, 113, 114, 115, 116, 117, 118, 119, 120, 121, 122, 123, 124, 125, 126, 127, 128, 129, 130, 131, 132, 133, 134, 135, 136, 137, 138, 139, 140, 141, 142, 143, 144, 145, 146, 147, 148, 149, 150, 151, 152, 153, 154, 155, 156, 157, 158, 159, 160, 161, 162, 163, 164, 165, 166, 167] (by decide +kernel) (by decide +kernel)
set_option maxRecDepth 20000 in
theorem gX6_bestFrom_X6_bestMove : GoodIn wsX6_bestFrom (wsV RX6 196 RX6 yX6_bestMove wsX6_bestMove) := goodIn_app (goodIn_of _ (by decide +kernel)) ggX6_bestFrom_X6_bestMove
set_option maxRecDepth 20000 in
theorem ggX6_bestTo_X6_bestMove : GoodIn wsX6_bestTo wsX6_bestMove := goodIn_r _ [5, 6, 7, 8, 9, 10, 11, 12, 13, 14, 15, 16, 17, 18, 19, 20, 21, 22, 23, 24, 25, 26, 27, 28, 29, 30, 31, 32, 33, 34, 35, 36, 37, 38, 39, 40, 41, 42, 4, 43, 44, 45, 46, 47, 48, 49, 50, 51, 52, 53, 54, 55, 56, 57, 58, 59, 60, 61, 62, 63, 64, 65, 66, 67, 68, 69, 70, 71, 72, 73, 74, 75, 76, 77, 78, 79, 80, 81, 82, 83, 84, 85, 86, 87, 88, 89, 90, 91, 92, 93, 94, 95, 96, 97, 98, 99, 100, 101, 102, 103, 104, 105, 106, 107, 108, 109, 110, 111, 112, 113, 114, 115, 116, 117, 118, 119, 120, 121, 122, 123, 124, 125, 126, 127, 128, 129, 130, 131, 132, 133, 134, 135, 136, 137, 138, 139, 140, 141, 142, 143, 144, 145, 146, 147, 148, 149, 150, 151, 152, 153, 154, 155, 156, 157, 158, 159, 160, 161, 162, 163, 164, 165, 166, 167] (by decide +kernel) (by decide +kernel)
set_option maxRecDepth 20000 in
theorem gX6_bestTo_X6_bestMove : GoodIn wsX6_bestTo (wsV RX6 196 RX6 yX6_bestMove wsX6_bestMove) := goodIn_app (goodIn_of _ (by decide +kernel)) ggX6_bestTo_X6_bestMove
set_option maxRecDepth 20000 in
theorem ggX6_isOpen_X4_onTurn : GoodIn wsX6_isOpen wsX4_onTurn := goodIn_r _ [7, 8, 23, 24, 25, 26, 27, 28, 29] (by decide +kernel) (by decide +kernel)
set_option maxRecDepth 20000 in
theorem gX6_isOpen_X4_onTurn : GoodIn wsX6_isOpen (wsV RX6 107 RX4 yX4_onTurn wsX4_onTurn) := goodIn_app (goodIn_of _ (by decide +kernel)) ggX6_isOpen_X4_onTurn
set_option maxRecDepth 20000 in
theorem ggX6_isOpen_X0_size : GoodIn wsX6_isOpen wsX0_size := goodIn_r _ [13, 14, 30, 31, 32, 33, 34, 35] (by decide +kernel) (by decide +kernel)
set_option maxRecDepth 20000 in
theorem gX6_isOpen_X0_size : GoodIn wsX6_isOpen (wsV RX6 141 RX0 yX0_size wsX0_size) := goodIn_app (goodIn_of _ (by decide +kernel)) ggX6_isOpen_X0_size
set_option maxRecDepth 20000 in
theorem ggX6_bestMove_X4_onTurn : GoodIn wsX6_bestMove wsX4_onTurn := goodIn_r _ [9, 10, 138, 139, 140, 141, 142, 143, 144] (by decide +kernel) (by decide +kernel)
set_option maxRecDepth 20000 in
theorem gX6_bestMove_X4_onTurn : GoodIn wsX6_bestMove (wsV RX6 107 RX4 yX4_onTurn wsX4_onTurn) := goodIn_app (goodIn_of _ (by decide +kernel)) ggX6_bestMove_X4_onTurn
set_option maxRecDepth 20000 in
theorem ggX6_bestMove_X2_weighAllButOne : GoodIn wsX6_bestMove wsX2_weighAllButOne := goodIn_r _ [15, 16, 17, 18, 19, 20, 21, 22, 23, 24, 25, 26, 14, 27, 28, 29, 30, 31, 32, 33, 34, 35, 36, 37, 38, 39, 40, 41, 42, 43, 44, 45, 46, 47, 48, 49, 50, 51, 52, 53, 54, 55, 56, 57, 58, 59, 60, 61, 62, 63, 64, 65, 66, 67, 68, 69, 70, 71, 72, 73, 74, 75, 76, 77, 78, 79, 80, 81, 82, 83, 84, 145, 146, 147, 148, 149, 150, 151, 152, 153, 154, 155, 156, 157, 158] (by decide +kernel) (by decide +kernel)
set_option maxRecDepth 20000 in
theorem gX6_bestMove_X2_weighAllButOne : GoodIn wsX6_bestMove (wsV RX6 199 RX2 yX2_weighAllButOne wsX2_weighAllButOne) := goodIn_app (goodIn_of _ (by decide +kernel)) ggX6_bestMove_X2_weighAllButOne
set_option maxRecDepth 20000 in
theorem ggX6_bestMove_X2_marbleCell : GoodIn wsX6_bestMove wsX2_marbleCell := goodIn_r _ [88, 30, 145, 146, 147, 148, 149, 150, 151, 152] (by decide +kernel) (by decide +kernel)
set_option maxRecDepth 20000 in
theorem gX6_bestMove_X2_marbleCell : GoodIn wsX6_bestMove (wsV RX6 203 RX2 yX2_marbleCell wsX2_marbleCell) := goodIn_app (goodIn_of _ (by decide +kernel)) ggX6_bestMove_X2_marbleCell
set_option maxRecDepth 20000 in
theorem ggX6_bestMove_X3_search : GoodIn wsX6_bestMove wsX3_search := goodIn_r _ [93, 94, 95, 96, 97, 98, 41, 42, 43, 44, 45, 46, 38, 47, 99, 100, 101, 92, 102, 103, 104, 105, 106, 107, 108, 109, 110, 51, 111, 112, 113, 114, 115, 116, 117, 118, 119, 120, 37, 39, 121, 49, 50, 52, 53, 159, 160, 161, 162, 163, 153, 154, 155, 156, 157, 158] (by decide +kernel) (by decide +kernel)
set_option maxRecDepth 20000 in
theorem gX6_bestMove_X3_search : GoodIn wsX6_bestMove (wsV RX6 111 RX3 yX3_search wsX3_search) := goodIn_app (goodIn_of _ (by decide +kernel)) ggX6_bestMove_X3_search
set_option maxRecDepth 20000 in
theorem ggX6_bestMove_X3_hopsTo : GoodIn wsX6_bestMove wsX3_hopsTo := goodIn_r _ [125, 95, 46, 38, 47, 159, 160, 161, 162, 163] (by decide +kernel) (by decide +kernel)
set_option maxRecDepth 20000 in
theorem gX6_bestMove_X3_hopsTo : GoodIn wsX6_bestMove (wsV RX6 115 RX3 yX3_hopsTo wsX3_hopsTo) := goodIn_app (goodIn_of _ (by decide +kernel)) ggX6_bestMove_X3_hopsTo
set_option maxRecDepth 20000 in
theorem ggX6_bestMove_X2_sumWith : GoodIn wsX6_bestMove wsX2_sumWith := goodIn_r _ [129, 17, 16, 29, 31, 20, 21, 22, 23, 54, 55, 56, 51, 57, 58, 59, 60, 61, 62, 63, 64, 65, 46, 38, 47, 145, 146, 147, 148, 149, 150, 151, 152, 155, 156, 157, 158] (by decide +kernel) (by decide +kernel)
set_option maxRecDepth 20000 in
theorem gX6_bestMove_X2_sumWith : GoodIn wsX6_bestMove (wsV RX6 206 RX2 yX2_sumWith wsX2_sumWith) := goodIn_app (goodIn_of _ (by decide +kernel)) ggX6_bestMove_X2_sumWith
set_option maxRecDepth 20000 in
theorem ggX7_init_X7_campAt : GoodIn wsX7_init wsX7_campAt := goodIn_r _ [30] (by decide +kernel) (by decide +kernel)
set_option maxRecDepth 20000 in
theorem gX7_init_X7_campAt : GoodIn wsX7_init (va_wsS RX7 72 yX7_campAt wsX7_campAt) := goodIn_app (goodIn_of _ (by decide +kernel)) ggX7_init_X7_campAt
set_option maxRecDepth 20000 in
theorem ggX7_init_X7_find : GoodIn wsX7_init wsX7_find := goodIn_r _ [34, 5, 6, 39, 40, 41, 42, 43, 44, 45, 46, 47, 48, 49, 50, 51, 52, 53, 54, 55, 56, 57, 58, 59, 60, 61, 62, 63, 64, 65] (by decide +kernel) (by decide +kernel)
set_option maxRecDepth 20000 in
theorem gX7_init_X7_find : GoodIn wsX7_init (wsV RX7 76 RX7 yX7_find wsX7_find) := goodIn_app (goodIn_of _ (by decide +kernel)) ggX7_init_X7_find
set_option maxRecDepth 20000 in
theorem ggX7_init_X7_measures : GoodIn wsX7_init wsX7_measures := goodIn_r _ [38, 9, 21, 8, 39, 40, 41, 42, 43, 44, 45, 46, 47, 48, 49, 50, 51, 52, 53, 54, 55, 56, 57, 58, 59, 60, 61, 62, 63, 64, 65] (by decide +kernel) (by decide +kernel)
set_option maxRecDepth 20000 in
theorem gX7_init_X7_measures : GoodIn wsX7_init (wsV RX7 79 RX7 yX7_measures wsX7_measures) := goodIn_app (goodIn_of _ (by decide +kernel)) ggX7_init_X7_measures
set_option maxRecDepth 20000 in
theorem ggX7_isCell_X7_isIn : GoodIn wsX7_isCell wsX7_isIn := goodIn_r _ [4] (by decide +kernel) (by decide +kernel)
set_option maxRecDepth 20000 in
theorem gX7_isCell_X7_isIn : GoodIn wsX7_isCell (va_wsS RX7 89 yX7_isIn wsX7_isIn) := goodIn_app (goodIn_of _ (by decide +kernel)) ggX7_isCell_X7_isIn
set_option maxRecDepth 20000 in
theorem ggX7_plays_X7_isIn : GoodIn wsX7_plays wsX7_isIn := goodIn_r _ [5] (by decide +kernel) (by decide +kernel)
set_option maxRecDepth 20000 in
theorem gX7_plays_X7_isIn : GoodIn wsX7_plays (va_wsS RX7 89 yX7_isIn wsX7_isIn) := goodIn_app (goodIn_of _ (by decide +kernel)) ggX7_plays_X7_isIn
set_option maxRecDepth 20000 in
theorem ggX7_begin_X7_isIn : GoodIn wsX7_begin wsX7_isIn := goodIn_r _ [12] (by decide +kernel) (by decide +kernel)
set_option maxRecDepth 20000 in
theorem gX7_begin_X7_isIn : GoodIn wsX7_begin (va_wsS RX7 89 yX7_isIn wsX7_isIn) := goodIn_app (goodIn_of _ (by decide +kernel)) ggX7_begin_X7_isIn
set_option maxRecDepth 20000 in
theorem ggX7_begin_X7_can : GoodIn wsX7_begin wsX7_can := goodIn_r _ [16, 17, 22, 23, 24, 25, 26, 27, 28, 29, 30, 31, 32, 33, 34, 35, 36, 37, 38, 39, 40, 41, 42, 43, 44, 45, 46, 47, 48] (by decide +kernel) (by decide +kernel)
set_option maxRecDepth 20000 in
theorem gX7_begin_X7_can : GoodIn wsX7_begin (wsV RX7 96 RX7 yX7_can wsX7_can) := goodIn_app (goodIn_of _ (by decide +kernel)) ggX7_begin_X7_can
set_option maxRecDepth 20000 in
theorem ggX7_begin_X7_plays : GoodIn wsX7_begin wsX7_plays := goodIn_r _ [21, 1, 9, 10, 11, 12, 22, 23, 24, 25, 26, 27, 28, 29, 30, 31, 32, 33, 34, 35, 36, 37, 38, 39, 40, 41, 42, 43, 44, 45, 46, 47, 48] (by decide +kernel) (by decide +kernel)
set_option maxRecDepth 20000 in
theorem gX7_begin_X7_plays : GoodIn wsX7_begin (wsV RX7 100 RX7 yX7_plays wsX7_plays) := goodIn_app (goodIn_of _ (by decide +kernel)) ggX7_begin_X7_plays
set_option maxRecDepth 20000 in
theorem ggX7_setFill_X7_isIn : GoodIn wsX7_setFill wsX7_isIn := goodIn_r _ [5] (by decide +kernel) (by decide +kernel)
set_option maxRecDepth 20000 in
theorem gX7_setFill_X7_isIn : GoodIn wsX7_setFill (va_wsS RX7 89 yX7_isIn wsX7_isIn) := goodIn_app (goodIn_of _ (by decide +kernel)) ggX7_setFill_X7_isIn
set_option maxRecDepth 20000 in
theorem ggX7_setFill_X7_can : GoodIn wsX7_setFill wsX7_can := goodIn_r _ [9, 10, 11, 12, 13, 14, 15, 16, 17, 18, 19, 20, 21, 22, 23, 24, 25, 26, 27, 28, 29, 30, 31, 32, 33, 34, 35, 36, 37] (by decide +kernel) (by decide +kernel)
set_option maxRecDepth 20000 in
theorem gX7_setFill_X7_can : GoodIn wsX7_setFill (wsV RX7 96 RX7 yX7_can wsX7_can) := goodIn_app (goodIn_of _ (by decide +kernel)) ggX7_setFill_X7_can
set_option maxRecDepth 20000 in
theorem ggX7_setPatience_X7_isIn : GoodIn wsX7_setPatience wsX7_isIn := goodIn_r _ [5] (by decide +kernel) (by decide +kernel)
set_option maxRecDepth 20000 in
theorem gX7_setPatience_X7_isIn : GoodIn wsX7_setPatience (va_wsS RX7 89 yX7_isIn wsX7_isIn) := goodIn_app (goodIn_of _ (by decide +kernel)) ggX7_setPatience_X7_isIn
set_option maxRecDepth 20000 in
theorem ggX7_setPatience_X7_can : GoodIn wsX7_setPatience wsX7_can := goodIn_r _ [9, 10, 11, 12, 13, 14, 15, 16, 17, 18, 19, 20, 21, 22, 23, 24, 25, 26, 27, 28, 29, 30, 31, 32, 33, 34, 35, 36, 37] (by decide +kernel) (by decide +kernel)
set_option maxRecDepth 20000 in
theorem gX7_setPatience_X7_can : GoodIn wsX7_setPatience (wsV RX7 96 RX7 yX7_can wsX7_can) := goodIn_app (goodIn_of _ (by decide +kernel)) ggX7_setPatience_X7_can
set_option maxRecDepth 20000 in
theorem ggX7_isFull_X7_ownIn : GoodIn wsX7_isFull wsX7_ownIn := goodIn_r _ [5, 6, 7, 8, 9, 10, 11, 12, 13, 14, 15, 16, 17, 18, 19, 20, 21, 22, 23, 24, 25, 26, 27, 28, 29, 30, 31, 32, 33, 34] (by decide +kernel) (by decide +kernel)
set_option maxRecDepth 20000 in
theorem gX7_isFull_X7_ownIn : GoodIn wsX7_isFull (wsV RX7 115 RX7 yX7_ownIn wsX7_ownIn) := goodIn_app (goodIn_of _ (by decide +kernel)) ggX7_isFull_X7_ownIn
set_option maxRecDepth 20000 in
theorem ggX7_finishes_X7_plays : GoodIn wsX7_finishes wsX7_plays := goodIn_r _ [9, 10, 11, 12, 8, 13, 28, 29, 30, 31, 32, 33, 34, 35, 36, 37, 38, 39, 40, 41, 42, 43, 44, 45, 46, 47, 48, 49, 50, 51, 52, 53, 54] (by decide +kernel) (by decide +kernel)
set_option maxRecDepth 20000 in
theorem gX7_finishes_X7_plays : GoodIn wsX7_finishes (wsV RX7 100 RX7 yX7_plays wsX7_plays) := goodIn_app (goodIn_of _ (by decide +kernel)) ggX7_finishes_X7_plays
set_option maxRecDepth 20000 in
theorem ggX7_finishes_X7_hasFinished : GoodIn wsX7_finishes wsX7_hasFinished := goodIn_r _ [17, 4, 3, 28, 29, 30, 31, 32, 33, 34, 35, 36, 37, 38, 39, 40, 41, 42, 43, 44, 45, 46, 47, 48, 49, 50, 51, 52, 53, 54] (by decide +kernel) (by decide +kernel)
set_option maxRecDepth 20000 in
theorem gX7_finishes_X7_hasFinished : GoodIn wsX7_finishes (wsV RX7 118 RX7 yX7_hasFinished wsX7_hasFinished) := goodIn_app (goodIn_of _ (by decide +kernel)) ggX7_finishes_X7_hasFinished
set_option maxRecDepth 20000 in
theorem ggX7_finishes_X7_isFull : GoodIn wsX7_finishes wsX7_isFull := goodIn_r _ [21, 22, 23, 24, 8, 25, 26, 27, 28, 29, 30, 31, 32, 33, 34, 35, 36, 37, 38, 39, 40, 41, 42, 43, 44, 45, 46, 47, 48, 49, 50, 51, 52, 53, 54] (by decide +kernel) (by decide +kernel)
set_option maxRecDepth 20000 in
theorem gX7_finishes_X7_isFull : GoodIn wsX7_finishes (wsV RX7 121 RX7 yX7_isFull wsX7_isFull) := goodIn_app (goodIn_of _ (by decide +kernel)) ggX7_finishes_X7_isFull
set_option maxRecDepth 20000 in
theorem ggX7_finishes_X7_ownIn : GoodIn wsX7_finishes wsX7_ownIn := goodIn_r _ [25, 26, 27, 28, 29, 30, 31, 32, 33, 34, 35, 36, 37, 38, 39, 40, 41, 42, 43, 44, 45, 46, 47, 48, 49, 50, 51, 52, 53, 54] (by decide +kernel) (by decide +kernel)
set_option maxRecDepth 20000 in
theorem gX7_finishes_X7_ownIn : GoodIn wsX7_finishes (wsV RX7 115 RX7 yX7_ownIn wsX7_ownIn) := goodIn_app (goodIn_of _ (by decide +kernel)) ggX7_finishes_X7_ownIn
set_option maxRecDepth 20000 in
theorem ggX7_turns_X7_plays : GoodIn wsX7_turns wsX7_plays := goodIn_r _ [9, 10, 11, 12, 8, 13, 26, 27, 28, 29, 30, 31, 32, 33, 34, 35, 36, 37, 38, 39, 40, 41, 42, 43, 44, 45, 46, 47, 48, 49, 50, 51, 52] (by decide +kernel) (by decide +kernel)
set_option maxRecDepth 20000 in
theorem gX7_turns_X7_plays : GoodIn wsX7_turns (wsV RX7 100 RX7 yX7_plays wsX7_plays) := goodIn_app (goodIn_of _ (by decide +kernel)) ggX7_turns_X7_plays
set_option maxRecDepth 20000 in
theorem ggX7_turns_X7_hasFinished : GoodIn wsX7_turns wsX7_hasFinished := goodIn_r _ [17, 18, 19, 26, 27, 28, 29, 30, 31, 32, 33, 34, 35, 36, 37, 38, 39, 40, 41, 42, 43, 44, 45, 46, 47, 48, 49, 50, 51, 52] (by decide +kernel) (by decide +kernel)
set_option maxRecDepth 20000 in
theorem gX7_turns_X7_hasFinished : GoodIn wsX7_turns (wsV RX7 118 RX7 yX7_hasFinished wsX7_hasFinished) := goodIn_app (goodIn_of _ (by decide +kernel)) ggX7_turns_X7_hasFinished
set_option maxRecDepth 20000 in
theorem ggX7_turns_X7_ownIn : GoodIn wsX7_turns wsX7_ownIn := goodIn_r _ [23, 24, 25, 26, 27, 28, 29, 30, 31, 32, 33, 34, 35, 36, 37, 38, 39, 40, 41, 42, 43, 44, 45, 46, 47, 48, 49, 50, 51, 52] (by decide +kernel) (by decide +kernel)
set_option maxRecDepth 20000 in
theorem gX7_turns_X7_ownIn : GoodIn wsX7_turns (wsV RX7 115 RX7 yX7_ownIn wsX7_ownIn) := goodIn_app (goodIn_of _ (by decide +kernel)) ggX7_turns_X7_ownIn
set_option maxRecDepth 20000 in
theorem ggX7_move_X7_isCell : GoodIn wsX7_move wsX7_isCell := goodIn_r _ [7, 8, 9, 6, 10] (by decide +kernel) (by decide +kernel)
set_option maxRecDepth 20000 in
theorem gX7_move_X7_isCell : GoodIn wsX7_move (va_wsS RX7 124 yX7_isCell wsX7_isCell) := goodIn_app (goodIn_of _ (by decide +kernel)) ggX7_move_X7_isCell
set_option maxRecDepth 20000 in
theorem ggX7_move_X7_can : GoodIn wsX7_move wsX7_can := goodIn_r _ [14, 15, 87, 88, 89, 90, 91, 92, 93, 94, 95, 96, 97, 98, 99, 100, 101, 102, 103, 104, 105, 106, 107, 108, 109, 110, 111, 112, 113] (by decide +kernel) (by decide +kernel)
set_option maxRecDepth 20000 in
theorem gX7_move_X7_can : GoodIn wsX7_move (wsV RX7 96 RX7 yX7_can wsX7_can) := goodIn_app (goodIn_of _ (by decide +kernel)) ggX7_move_X7_can
set_option maxRecDepth 20000 in
theorem ggX7_move_X7_hopsOf : GoodIn wsX7_move wsX7_hopsOf := goodIn_r _ [19, 20, 21, 22, 23, 24, 6, 25, 1, 3, 26, 27, 28, 29, 30, 31, 32, 33, 34, 35, 36, 37, 38, 39, 40, 41, 42, 43, 44, 45, 87, 88, 89, 90, 91, 92, 93, 94, 95, 96, 97, 98, 99, 100, 101, 102, 103, 104, 105, 106, 107, 108, 109, 110, 111, 112, 113] (by decide +kernel) (by decide +kernel)
set_option maxRecDepth 20000 in
theorem gX7_move_X7_hopsOf : GoodIn wsX7_move (wsV RX7 127 RX7 yX7_hopsOf wsX7_hopsOf) := goodIn_app (goodIn_of _ (by decide +kernel)) ggX7_move_X7_hopsOf
set_option maxRecDepth 20000 in
theorem ggX7_move_X7_notes : GoodIn wsX7_move wsX7_notes := goodIn_r _ [49, 50, 2, 51, 52, 1, 53, 54, 55, 56, 57, 87, 88, 89, 90, 91, 92, 93, 94, 95, 96, 97, 98, 99, 100, 101, 102, 103, 104, 105, 106, 107, 108, 109, 110, 111, 112, 113] (by decide +kernel) (by decide +kernel)
set_option maxRecDepth 20000 in
theorem gX7_move_X7_notes : GoodIn wsX7_move (wsV RX7 130 RX7 yX7_notes wsX7_notes) := goodIn_app (goodIn_of _ (by decide +kernel)) ggX7_move_X7_notes
set_option maxRecDepth 20000 in
theorem ggX7_move_X7_finishes : GoodIn wsX7_move wsX7_finishes := goodIn_r _ [61, 54, 62, 63, 56, 64, 65, 66, 6, 67, 68, 8, 9, 10, 69, 70, 71, 72, 73, 74, 75, 76, 77, 78, 79, 80, 3, 81, 87, 88, 89, 90, 91, 92, 93, 94, 95, 96, 97, 98, 99, 100, 101, 102, 103, 104, 105, 106, 107, 108, 109, 110, 111, 112, 113] (by decide +kernel) (by decide +kernel)
set_option maxRecDepth 20000 in
theorem gX7_move_X7_finishes : GoodIn wsX7_move (wsV RX7 134 RX7 yX7_finishes wsX7_finishes) := goodIn_app (goodIn_of _ (by decide +kernel)) ggX7_move_X7_finishes
set_option maxRecDepth 20000 in
theorem ggX7_move_X7_turns : GoodIn wsX7_move wsX7_turns := goodIn_r _ [85, 1, 54, 86, 57, 64, 65, 66, 6, 67, 68, 8, 9, 10, 69, 70, 71, 72, 56, 63, 77, 78, 79, 80, 3, 81, 87, 88, 89, 90, 91, 92, 93, 94, 95, 96, 97, 98, 99, 100, 101, 102, 103, 104, 105, 106, 107, 108, 109, 110, 111, 112, 113] (by decide +kernel) (by decide +kernel)
set_option maxRecDepth 20000 in
theorem gX7_move_X7_turns : GoodIn wsX7_move (wsV RX7 137 RX7 yX7_turns wsX7_turns) := goodIn_app (goodIn_of _ (by decide +kernel)) ggX7_move_X7_turns
set_option maxRecDepth 20000 in
theorem ggX7_pass_X7_allMoves : GoodIn wsX7_pass wsX7_allMoves := goodIn_r _ [7, 8, 9, 10, 6, 11, 1, 12, 13, 14, 15, 16, 17, 18, 19, 20, 21, 22, 23, 24, 25, 26, 27, 28, 29, 30, 31, 32, 33, 34, 75, 76, 77, 78, 79, 80, 81, 82, 83, 84, 85, 86, 87, 88, 89, 90, 91, 92, 93, 94, 95, 96, 97, 98, 99, 100, 101] (by decide +kernel) (by decide +kernel)
set_option maxRecDepth 20000 in
theorem gX7_pass_X7_allMoves : GoodIn wsX7_pass (wsV RX7 140 RX7 yX7_allMoves wsX7_allMoves) := goodIn_app (goodIn_of _ (by decide +kernel)) ggX7_pass_X7_allMoves
set_option maxRecDepth 20000 in
theorem ggX7_pass_X7_can : GoodIn wsX7_pass wsX7_can := goodIn_r _ [38, 39, 75, 76, 77, 78, 79, 80, 81, 82, 83, 84, 85, 86, 87, 88, 89, 90, 91, 92, 93, 94, 95, 96, 97, 98, 99, 100, 101] (by decide +kernel) (by decide +kernel)
set_option maxRecDepth 20000 in
theorem gX7_pass_X7_can : GoodIn wsX7_pass (wsV RX7 96 RX7 yX7_can wsX7_can) := goodIn_app (goodIn_of _ (by decide +kernel)) ggX7_pass_X7_can
set_option maxRecDepth 20000 in
theorem ggX7_pass_X7_notes : GoodIn wsX7_pass wsX7_notes := goodIn_r _ [43, 44, 2, 45, 46, 1, 47, 48, 49, 50, 51, 75, 76, 77, 78, 79, 80, 81, 82, 83, 84, 85, 86, 87, 88, 89, 90, 91, 92, 93, 94, 95, 96, 97, 98, 99, 100, 101] (by decide +kernel) (by decide +kernel)
set_option maxRecDepth 20000 in
theorem gX7_pass_X7_notes : GoodIn wsX7_pass (wsV RX7 130 RX7 yX7_notes wsX7_notes) := goodIn_app (goodIn_of _ (by decide +kernel)) ggX7_pass_X7_notes
set_option maxRecDepth 20000 in
theorem ggX7_pass_X7_turns : GoodIn wsX7_pass wsX7_turns := goodIn_r _ [55, 1, 48, 56, 51, 57, 58, 59, 6, 60, 61, 62, 63, 64, 65, 66, 67, 68, 50, 69, 70, 71, 72, 73, 12, 74, 75, 76, 77, 78, 79, 80, 81, 82, 83, 84, 85, 86, 87, 88, 89, 90, 91, 92, 93, 94, 95, 96, 97, 98, 99, 100, 101] (by decide +kernel) (by decide +kernel)
set_option maxRecDepth 20000 in
theorem gX7_pass_X7_turns : GoodIn wsX7_pass (wsV RX7 137 RX7 yX7_turns wsX7_turns) := goodIn_app (goodIn_of _ (by decide +kernel)) ggX7_pass_X7_turns
set_option maxRecDepth 20000 in
theorem ggX7_undo_X7_can : GoodIn wsX7_undo wsX7_can := goodIn_r _ [16, 17, 18, 19, 20, 21, 22, 23, 24, 25, 26, 27, 28, 29, 30, 31, 32, 33, 34, 35, 36, 37, 38, 39, 40, 41, 42, 43, 44] (by decide +kernel) (by decide +kernel)
set_option maxRecDepth 20000 in
theorem gX7_undo_X7_can : GoodIn wsX7_undo (wsV RX7 96 RX7 yX7_can wsX7_can) := goodIn_app (goodIn_of _ (by decide +kernel)) ggX7_undo_X7_can
set_option maxRecDepth 20000 in
theorem ggX7_at_X7_isCell : GoodIn wsX7_at wsX7_isCell := goodIn_r _ [5, 6, 7, 4, 8] (by decide +kernel) (by decide +kernel)
set_option maxRecDepth 20000 in
theorem gX7_at_X7_isCell : GoodIn wsX7_at (va_wsS RX7 124 yX7_isCell wsX7_isCell) := goodIn_app (goodIn_of _ (by decide +kernel)) ggX7_at_X7_isCell
set_option maxRecDepth 20000 in
theorem ggX7_at_X7_can : GoodIn wsX7_at wsX7_can := goodIn_r _ [12, 13, 14, 15, 16, 17, 18, 19, 20, 21, 22, 23, 24, 25, 26, 27, 28, 29, 30, 31, 32, 33, 34, 35, 36, 37, 38, 39, 40] (by decide +kernel) (by decide +kernel)
set_option maxRecDepth 20000 in
theorem gX7_at_X7_can : GoodIn wsX7_at (wsV RX7 96 RX7 yX7_can wsX7_can) := goodIn_app (goodIn_of _ (by decide +kernel)) ggX7_at_X7_can
set_option maxRecDepth 20000 in
theorem ggX7_cellAt_X7_find : GoodIn wsX7_cellAt wsX7_find := goodIn_r _ [6, 7, 8, 9, 10, 11, 12, 13, 14, 15, 16, 17, 18, 19, 20, 21, 22, 23, 24, 25, 26, 27, 28, 29, 30, 31, 32, 33, 34, 35] (by decide +kernel) (by decide +kernel)
set_option maxRecDepth 20000 in
theorem gX7_cellAt_X7_find : GoodIn wsX7_cellAt (wsV RX7 76 RX7 yX7_find wsX7_find) := goodIn_app (goodIn_of _ (by decide +kernel)) ggX7_cellAt_X7_find
set_option maxRecDepth 20000 in
theorem ggX7_campOf_X7_isCell : GoodIn wsX7_campOf wsX7_isCell := goodIn_r _ [5, 6, 7, 4, 8] (by decide +kernel) (by decide +kernel)
set_option maxRecDepth 20000 in
theorem gX7_campOf_X7_isCell : GoodIn wsX7_campOf (va_wsS RX7 124 yX7_isCell wsX7_isCell) := goodIn_app (goodIn_of _ (by decide +kernel)) ggX7_campOf_X7_isCell
set_option maxRecDepth 20000 in
theorem ggX7_campOf_X7_can : GoodIn wsX7_campOf wsX7_can := goodIn_r _ [12, 13, 14, 15, 16, 17, 18, 19, 20, 21, 22, 23, 24, 25, 26, 27, 28, 29, 30, 31, 32, 33, 34, 35, 36, 37, 38, 39, 40] (by decide +kernel) (by decide +kernel)
set_option maxRecDepth 20000 in
theorem gX7_campOf_X7_can : GoodIn wsX7_campOf (wsV RX7 96 RX7 yX7_can wsX7_can) := goodIn_app (goodIn_of _ (by decide +kernel)) ggX7_campOf_X7_can
set_option maxRecDepth 20000 in
theorem ggX7_areCells_X7_isCell : GoodIn wsX7_areCells wsX7_isCell := goodIn_r _ [4, 5, 6, 3, 7] (by decide +kernel) (by decide +kernel)
set_option maxRecDepth 20000 in
theorem gX7_areCells_X7_isCell : GoodIn wsX7_areCells (va_wsS RX7 124 yX7_isCell wsX7_isCell) := goodIn_app (goodIn_of _ (by decide +kernel)) ggX7_areCells_X7_isCell
set_option maxRecDepth 20000 in
theorem ggX7_areCells_X7_can : GoodIn wsX7_areCells wsX7_can := goodIn_r _ [11, 12, 13, 14, 15, 16, 17, 18, 19, 20, 21, 22, 23, 24, 25, 26, 27, 28, 29, 30, 31, 32, 33, 34, 35, 36, 37, 38, 39] (by decide +kernel) (by decide +kernel)
set_option maxRecDepth 20000 in
theorem gX7_areCells_X7_can : GoodIn wsX7_areCells (wsV RX7 96 RX7 yX7_can wsX7_can) := goodIn_app (goodIn_of _ (by decide +kernel)) ggX7_areCells_X7_can
set_option maxRecDepth 20000 in
theorem ggX7_distance_X7_areCells : GoodIn wsX7_distance wsX7_areCells := goodIn_r _ [6, 7, 8, 5, 9, 10, 11, 12, 13, 14, 15, 16, 17, 18, 19, 20, 21, 22, 23, 24, 25, 26, 27, 28, 29, 30, 31, 32, 33, 34, 35, 36, 37, 38, 39, 40, 41, 42, 43, 44] (by decide +kernel) (by decide +kernel)
set_option maxRecDepth 20000 in
theorem gX7_distance_X7_areCells : GoodIn wsX7_distance (wsV RX7 144 RX7 yX7_areCells wsX7_areCells) := goodIn_app (goodIn_of _ (by decide +kernel)) ggX7_distance_X7_areCells
set_option maxRecDepth 20000 in
theorem ggX7_hopsFrom_X7_behind : GoodIn wsX7_hopsFrom wsX7_behind := goodIn_r _ [7, 8, 9, 10, 11, 12, 13, 14, 15, 16, 17, 18, 19, 20, 21, 22, 23, 24, 25, 26, 27, 28, 29, 30, 31, 32, 33, 34, 35, 36] (by decide +kernel) (by decide +kernel)
set_option maxRecDepth 20000 in
theorem gX7_hopsFrom_X7_behind : GoodIn wsX7_hopsFrom (wsV RX7 148 RX7 yX7_behind wsX7_behind) := goodIn_app (goodIn_of _ (by decide +kernel)) ggX7_hopsFrom_X7_behind
set_option maxRecDepth 20000 in
theorem ggX7_endsOf_X7_hopsFrom : GoodIn wsX7_endsOf wsX7_hopsFrom := goodIn_r _ [9, 4, 10, 11, 12, 13, 8, 14, 15, 2, 26, 27, 28, 29, 30, 31, 32, 33, 34, 35, 36, 37, 38, 39, 40, 41, 42, 43, 44, 45, 46, 47, 48, 49, 50, 51, 52] (by decide +kernel) (by decide +kernel)
set_option maxRecDepth 20000 in
theorem gX7_endsOf_X7_hopsFrom : GoodIn wsX7_endsOf (wsV RX7 152 RX7 yX7_hopsFrom wsX7_hopsFrom) := goodIn_app (goodIn_of _ (by decide +kernel)) ggX7_endsOf_X7_hopsFrom
set_option maxRecDepth 20000 in
theorem ggX7_endsOf_X7_isNext : GoodIn wsX7_endsOf wsX7_isNext := goodIn_r _ [19, 20, 26, 27, 28, 29, 30, 31, 32, 33, 34, 35, 36, 37, 38, 39, 40, 41, 42, 43, 44, 45, 46, 47, 48, 49, 50, 51, 52] (by decide +kernel) (by decide +kernel)
set_option maxRecDepth 20000 in
theorem gX7_endsOf_X7_isNext : GoodIn wsX7_endsOf (wsV RX7 155 RX7 yX7_isNext wsX7_isNext) := goodIn_app (goodIn_of _ (by decide +kernel)) ggX7_endsOf_X7_isNext
set_option maxRecDepth 20000 in
theorem ggX7_endsOf_X7_mayEnd : GoodIn wsX7_endsOf wsX7_mayEnd := goodIn_r _ [24, 1, 25, 26, 27, 28, 29, 30, 31, 32, 33, 34, 35, 36, 37, 38, 39, 40, 41, 42, 43, 44, 45, 46, 47, 48, 49, 50, 51, 52] (by decide +kernel) (by decide +kernel)
set_option maxRecDepth 20000 in
theorem gX7_endsOf_X7_mayEnd : GoodIn wsX7_endsOf (wsV RX7 158 RX7 yX7_mayEnd wsX7_mayEnd) := goodIn_app (goodIn_of _ (by decide +kernel)) ggX7_endsOf_X7_mayEnd
set_option maxRecDepth 20000 in
theorem ggX7_hopsOf_X7_endsOf : GoodIn wsX7_hopsOf wsX7_endsOf := goodIn_r _ [7, 8, 9, 1, 2, 10, 11, 12, 6, 13, 14, 15, 16, 17, 18, 19, 20, 21, 22, 23, 24, 25, 26, 27, 28, 29, 30, 31, 32, 33, 34, 35, 36, 37, 38, 39, 40, 41, 42, 43, 44, 45, 46, 47, 48, 49, 50, 51, 52, 53, 54, 55, 56] (by decide +kernel) (by decide +kernel)
set_option maxRecDepth 20000 in
theorem gX7_hopsOf_X7_endsOf : GoodIn wsX7_hopsOf (wsV RX7 161 RX7 yX7_endsOf wsX7_endsOf) := goodIn_app (goodIn_of _ (by decide +kernel)) ggX7_hopsOf_X7_endsOf
set_option maxRecDepth 20000 in
theorem ggX7_hopsOf_X7_isNext : GoodIn wsX7_hopsOf wsX7_isNext := goodIn_r _ [23, 24, 30, 31, 32, 33, 34, 35, 36, 37, 38, 39, 40, 41, 42, 43, 44, 45, 46, 47, 48, 49, 50, 51, 52, 53, 54, 55, 56] (by decide +kernel) (by decide +kernel)
set_option maxRecDepth 20000 in
theorem gX7_hopsOf_X7_isNext : GoodIn wsX7_hopsOf (wsV RX7 155 RX7 yX7_isNext wsX7_isNext) := goodIn_app (goodIn_of _ (by decide +kernel)) ggX7_hopsOf_X7_isNext
set_option maxRecDepth 20000 in
theorem ggX7_allMoves_X7_endsOf : GoodIn wsX7_allMoves wsX7_endsOf := goodIn_r _ [5, 6, 7, 8, 9, 10, 11, 12, 4, 13, 14, 15, 16, 17, 18, 19, 20, 21, 22, 23, 24, 25, 26, 27, 28, 29, 30, 31, 32, 33, 34, 35, 36, 37, 38, 39, 40, 41, 42, 43, 44, 45, 46, 47, 48, 49, 50, 51, 52, 53, 54, 55, 56] (by decide +kernel) (by decide +kernel)
set_option maxRecDepth 20000 in
theorem gX7_allMoves_X7_endsOf : GoodIn wsX7_allMoves (wsV RX7 161 RX7 yX7_endsOf wsX7_endsOf) := goodIn_app (goodIn_of _ (by decide +kernel)) ggX7_allMoves_X7_endsOf
set_option maxRecDepth 20000 in
theorem ggX7_ends_X7_isCell : GoodIn wsX7_ends wsX7_isCell := goodIn_r _ [4, 5, 6, 3, 7] (by decide +kernel) (by decide +kernel)
set_option maxRecDepth 20000 in
theorem gX7_ends_X7_isCell : GoodIn wsX7_ends (va_wsS RX7 124 yX7_isCell wsX7_isCell) := goodIn_app (goodIn_of _ (by decide +kernel)) ggX7_ends_X7_isCell
set_option maxRecDepth 20000 in
theorem ggX7_ends_X7_can : GoodIn wsX7_ends wsX7_can := goodIn_r _ [11, 12, 41, 42, 43, 44, 45, 46, 47, 48, 49, 50, 51, 52, 53, 54, 55, 56, 57, 58, 59, 60, 61, 62, 63, 64, 65, 66, 67] (by decide +kernel) (by decide +kernel)
set_option maxRecDepth 20000 in
theorem gX7_ends_X7_can : GoodIn wsX7_ends (wsV RX7 96 RX7 yX7_can wsX7_can) := goodIn_app (goodIn_of _ (by decide +kernel)) ggX7_ends_X7_can
set_option maxRecDepth 20000 in
theorem ggX7_ends_X7_endsOf : GoodIn wsX7_ends wsX7_endsOf := goodIn_r _ [16, 17, 18, 19, 20, 21, 22, 23, 3, 24, 25, 26, 27, 28, 29, 30, 31, 32, 33, 34, 35, 36, 37, 38, 39, 40, 41, 42, 43, 44, 45, 46, 47, 48, 49, 50, 51, 52, 53, 54, 55, 56, 57, 58, 59, 60, 61, 62, 63, 64, 65, 66, 67] (by decide +kernel) (by decide +kernel)
set_option maxRecDepth 20000 in
theorem gX7_ends_X7_endsOf : GoodIn wsX7_ends (wsV RX7 161 RX7 yX7_endsOf wsX7_endsOf) := goodIn_app (goodIn_of _ (by decide +kernel)) ggX7_ends_X7_endsOf
set_option maxRecDepth 20000 in
theorem ggX7_endAt_X7_isCell : GoodIn wsX7_endAt wsX7_isCell := goodIn_r _ [5, 6, 7, 4, 8] (by decide +kernel) (by decide +kernel)
set_option maxRecDepth 20000 in
theorem gX7_endAt_X7_isCell : GoodIn wsX7_endAt (va_wsS RX7 124 yX7_isCell wsX7_isCell) := goodIn_app (goodIn_of _ (by decide +kernel)) ggX7_endAt_X7_isCell
set_option maxRecDepth 20000 in
theorem ggX7_endAt_X7_endsOf : GoodIn wsX7_endAt wsX7_endsOf := goodIn_r _ [12, 13, 14, 1, 15, 16, 17, 18, 4, 19, 20, 21, 22, 23, 24, 25, 26, 27, 28, 29, 30, 31, 32, 33, 34, 35, 41, 42, 43, 44, 45, 46, 47, 48, 49, 50, 51, 52, 53, 54, 55, 56, 57, 58, 59, 60, 61, 62, 63, 64, 65, 66, 67] (by decide +kernel) (by decide +kernel)
set_option maxRecDepth 20000 in
theorem gX7_endAt_X7_endsOf : GoodIn wsX7_endAt (wsV RX7 161 RX7 yX7_endsOf wsX7_endsOf) := goodIn_app (goodIn_of _ (by decide +kernel)) ggX7_endAt_X7_endsOf
set_option maxRecDepth 20000 in
theorem ggX7_endAt_X7_isIn : GoodIn wsX7_endAt wsX7_isIn := goodIn_r _ [8] (by decide +kernel) (by decide +kernel)
set_option maxRecDepth 20000 in
theorem gX7_endAt_X7_isIn : GoodIn wsX7_endAt (va_wsS RX7 89 yX7_isIn wsX7_isIn) := goodIn_app (goodIn_of _ (by decide +kernel)) ggX7_endAt_X7_isIn
set_option maxRecDepth 20000 in
theorem ggX7_endAt_X7_can : GoodIn wsX7_endAt wsX7_can := goodIn_r _ [39, 40, 41, 42, 43, 44, 45, 46, 47, 48, 49, 50, 51, 52, 53, 54, 55, 56, 57, 58, 59, 60, 61, 62, 63, 64, 65, 66, 67] (by decide +kernel) (by decide +kernel)
set_option maxRecDepth 20000 in
theorem gX7_endAt_X7_can : GoodIn wsX7_endAt (wsV RX7 96 RX7 yX7_can wsX7_can) := goodIn_app (goodIn_of _ (by decide +kernel)) ggX7_endAt_X7_can
set_option maxRecDepth 20000 in
theorem ggX7_moves_X7_allMoves : GoodIn wsX7_moves wsX7_allMoves := goodIn_r _ [6, 7, 8, 9, 5, 10, 11, 12, 13, 14, 15, 16, 17, 18, 19, 20, 21, 22, 23, 24, 25, 26, 27, 28, 29, 30, 31, 32, 33, 34, 35, 36, 37, 38, 39, 40, 41, 42, 43, 44, 45, 46, 47, 48, 49, 50, 51, 52, 53, 54, 55, 56, 57, 58, 59, 60, 61] (by decide +kernel) (by decide +kernel)
set_option maxRecDepth 20000 in
theorem gX7_moves_X7_allMoves : GoodIn wsX7_moves (wsV RX7 140 RX7 yX7_allMoves wsX7_allMoves) := goodIn_app (goodIn_of _ (by decide +kernel)) ggX7_moves_X7_allMoves
set_option maxRecDepth 20000 in
theorem ggX7_chainAt_X7_isCell : GoodIn wsX7_chainAt wsX7_isCell := goodIn_r _ [5, 6, 7, 4, 8] (by decide +kernel) (by decide +kernel)
set_option maxRecDepth 20000 in
theorem gX7_chainAt_X7_isCell : GoodIn wsX7_chainAt (va_wsS RX7 124 yX7_isCell wsX7_isCell) := goodIn_app (goodIn_of _ (by decide +kernel)) ggX7_chainAt_X7_isCell
set_option maxRecDepth 20000 in
theorem ggX7_chainAt_X7_can : GoodIn wsX7_chainAt wsX7_can := goodIn_r _ [12, 13, 45, 46, 47, 48, 49, 50, 51, 52, 53, 54, 55, 56, 57, 58, 59, 60, 61, 62, 63, 64, 65, 66, 67, 68, 69, 70, 71] (by decide +kernel) (by decide +kernel)
set_option maxRecDepth 20000 in
theorem gX7_chainAt_X7_can : GoodIn wsX7_chainAt (wsV RX7 96 RX7 yX7_can wsX7_can) := goodIn_app (goodIn_of _ (by decide +kernel)) ggX7_chainAt_X7_can
set_option maxRecDepth 20000 in
theorem ggX7_chainAt_X7_hopsOf : GoodIn wsX7_chainAt wsX7_hopsOf := goodIn_r _ [17, 18, 1, 19, 20, 21, 4, 22, 23, 24, 25, 26, 27, 28, 29, 30, 31, 32, 33, 34, 35, 36, 37, 38, 39, 40, 41, 42, 43, 44, 45, 46, 47, 48, 49, 50, 51, 52, 53, 54, 55, 56, 57, 58, 59, 60, 61, 62, 63, 64, 65, 66, 67, 68, 69, 70, 71] (by decide +kernel) (by decide +kernel)
set_option maxRecDepth 20000 in
theorem gX7_chainAt_X7_hopsOf : GoodIn wsX7_chainAt (wsV RX7 127 RX7 yX7_hopsOf wsX7_hopsOf) := goodIn_app (goodIn_of _ (by decide +kernel)) ggX7_chainAt_X7_hopsOf
set_option maxRecDepth 20000 in
theorem ggX7_chainAt_X7_hopsFrom : GoodIn wsX7_chainAt wsX7_hopsFrom := goodIn_r _ [28, 1, 29, 30, 31, 32, 4, 33, 34, 24, 45, 46, 47, 48, 49, 50, 51, 52, 53, 54, 55, 56, 57, 58, 59, 60, 61, 62, 63, 64, 65, 66, 67, 68, 69, 70, 71] (by decide +kernel) (by decide +kernel)
set_option maxRecDepth 20000 in
theorem gX7_chainAt_X7_hopsFrom : GoodIn wsX7_chainAt (wsV RX7 152 RX7 yX7_hopsFrom wsX7_hopsFrom) := goodIn_app (goodIn_of _ (by decide +kernel)) ggX7_chainAt_X7_hopsFrom
set_option maxRecDepth 20000 in
theorem ggX7_chainAt_X7_behind : GoodIn wsX7_chainAt wsX7_behind := goodIn_r _ [33, 34, 24, 45, 46, 47, 48, 49, 50, 51, 52, 53, 54, 55, 56, 57, 58, 59, 60, 61, 62, 63, 64, 65, 66, 67, 68, 69, 70, 71] (by decide +kernel) (by decide +kernel)
set_option maxRecDepth 20000 in
theorem gX7_chainAt_X7_behind : GoodIn wsX7_chainAt (wsV RX7 148 RX7 yX7_behind wsX7_behind) := goodIn_app (goodIn_of _ (by decide +kernel)) ggX7_chainAt_X7_behind
set_option maxRecDepth 20000 in
theorem ggX7_hops_X7_areCells : GoodIn wsX7_hops wsX7_areCells := goodIn_r _ [5, 6, 7, 4, 8, 9, 10, 11, 12, 13, 14, 15, 16, 49, 50, 51, 52, 53, 54, 55, 56, 57, 58, 59, 60, 61, 62, 63, 64, 65, 66, 67, 68, 69, 70, 71, 72, 73, 74, 75] (by decide +kernel) (by decide +kernel)
set_option maxRecDepth 20000 in
theorem gX7_hops_X7_areCells : GoodIn wsX7_hops (wsV RX7 144 RX7 yX7_areCells wsX7_areCells) := goodIn_app (goodIn_of _ (by decide +kernel)) ggX7_hops_X7_areCells
set_option maxRecDepth 20000 in
theorem ggX7_hops_X7_hopsOf : GoodIn wsX7_hops wsX7_hopsOf := goodIn_r _ [20, 21, 22, 23, 24, 25, 4, 26, 27, 28, 29, 30, 31, 32, 33, 34, 35, 36, 37, 38, 39, 40, 41, 42, 43, 44, 45, 46, 47, 48, 49, 50, 51, 52, 53, 54, 55, 56, 57, 58, 59, 60, 61, 62, 63, 64, 65, 66, 67, 68, 69, 70, 71, 72, 73, 74, 75] (by decide +kernel) (by decide +kernel)
set_option maxRecDepth 20000 in
theorem gX7_hops_X7_hopsOf : GoodIn wsX7_hops (wsV RX7 127 RX7 yX7_hopsOf wsX7_hopsOf) := goodIn_app (goodIn_of _ (by decide +kernel)) ggX7_hops_X7_hopsOf
set_option maxRecDepth 20000 in
theorem ggX7_finished_X7_isIn : GoodIn wsX7_finished wsX7_isIn := goodIn_r _ [6] (by decide +kernel) (by decide +kernel)
set_option maxRecDepth 20000 in
theorem gX7_finished_X7_isIn : GoodIn wsX7_finished (va_wsS RX7 89 yX7_isIn wsX7_isIn) := goodIn_app (goodIn_of _ (by decide +kernel)) ggX7_finished_X7_isIn
set_option maxRecDepth 20000 in
theorem ggX7_finished_X7_can : GoodIn wsX7_finished wsX7_can := goodIn_r _ [10, 11, 12, 13, 14, 15, 16, 17, 18, 19, 20, 21, 22, 23, 24, 25, 26, 27, 28, 29, 30, 31, 32, 33, 34, 35, 36, 37, 38] (by decide +kernel) (by decide +kernel)
set_option maxRecDepth 20000 in
theorem gX7_finished_X7_can : GoodIn wsX7_finished (wsV RX7 96 RX7 yX7_can wsX7_can) := goodIn_app (goodIn_of _ (by decide +kernel)) ggX7_finished_X7_can
set_option maxRecDepth 20000 in
theorem ggX7_isOut_X7_isIn : GoodIn wsX7_isOut wsX7_isIn := goodIn_r _ [5] (by decide +kernel) (by decide +kernel)
set_option maxRecDepth 20000 in
theorem gX7_isOut_X7_isIn : GoodIn wsX7_isOut (va_wsS RX7 89 yX7_isIn wsX7_isIn) := goodIn_app (goodIn_of _ (by decide +kernel)) ggX7_isOut_X7_isIn
set_option maxRecDepth 20000 in
theorem ggX7_isOut_X7_can : GoodIn wsX7_isOut wsX7_can := goodIn_r _ [9, 10, 11, 12, 13, 14, 15, 16, 17, 18, 19, 20, 21, 22, 23, 24, 25, 26, 27, 28, 29, 30, 31, 32, 33, 34, 35, 36, 37] (by decide +kernel) (by decide +kernel)
set_option maxRecDepth 20000 in
theorem gX7_isOut_X7_can : GoodIn wsX7_isOut (wsV RX7 96 RX7 yX7_can wsX7_can) := goodIn_app (goodIn_of _ (by decide +kernel)) ggX7_isOut_X7_can
set_option maxRecDepth 20000 in
theorem ggX7_way_X7_isIn : GoodIn wsX7_way wsX7_isIn := goodIn_r _ [4] (by decide +kernel) (by decide +kernel)
set_option maxRecDepth 20000 in
theorem gX7_way_X7_isIn : GoodIn wsX7_way (va_wsS RX7 89 yX7_isIn wsX7_isIn) := goodIn_app (goodIn_of _ (by decide +kernel)) ggX7_way_X7_isIn
set_option maxRecDepth 20000 in
theorem ggX7_way_X7_can : GoodIn wsX7_way wsX7_can := goodIn_r _ [8, 9, 25, 26, 27, 28, 29, 30, 31, 32, 33, 34, 35, 36, 37, 38, 39, 40, 41, 42, 43, 44, 45, 46, 47, 48, 49, 50, 51] (by decide +kernel) (by decide +kernel)
set_option maxRecDepth 20000 in
theorem gX7_way_X7_can : GoodIn wsX7_way (wsV RX7 96 RX7 yX7_can wsX7_can) := goodIn_app (goodIn_of _ (by decide +kernel)) ggX7_way_X7_can
set_option maxRecDepth 20000 in
theorem ggX7_way_X7_plays : GoodIn wsX7_way wsX7_plays := goodIn_r _ [13, 14, 1, 2, 3, 4, 25, 26, 27, 28, 29, 30, 31, 32, 33, 34, 35, 36, 37, 38, 39, 40, 41, 42, 43, 44, 45, 46, 47, 48, 49, 50, 51] (by decide +kernel) (by decide +kernel)
set_option maxRecDepth 20000 in
theorem gX7_way_X7_plays : GoodIn wsX7_way (wsV RX7 100 RX7 yX7_plays wsX7_plays) := goodIn_app (goodIn_of _ (by decide +kernel)) ggX7_way_X7_plays
set_option maxRecDepth 20000 in
theorem ggX7_way_X7_wayOf : GoodIn wsX7_way wsX7_wayOf := goodIn_r _ [18, 19, 20, 21, 22, 23, 24, 25, 26, 27, 28, 29, 30, 31, 32, 33, 34, 35, 36, 37, 38, 39, 40, 41, 42, 43, 44, 45, 46, 47, 48, 49, 50, 51] (by decide +kernel) (by decide +kernel)
set_option maxRecDepth 20000 in
theorem gX7_way_X7_wayOf : GoodIn wsX7_way (wsV RX7 166 RX7 yX7_wayOf wsX7_wayOf) := goodIn_app (goodIn_of _ (by decide +kernel)) ggX7_way_X7_wayOf
set_option maxRecDepth 20000 in
theorem ggX7_best_X7_endsOf : GoodIn wsX7_best wsX7_endsOf := goodIn_r _ [9, 2, 4, 3, 10, 11, 12, 13, 8, 14, 15, 16, 17, 18, 19, 20, 21, 22, 23, 24, 25, 26, 27, 28, 29, 30, 38, 39, 40, 41, 42, 43, 44, 45, 46, 47, 48, 49, 50, 51, 52, 53, 54, 55, 56, 57, 58, 59, 60, 61, 62, 63, 64] (by decide +kernel) (by decide +kernel)
set_option maxRecDepth 20000 in
theorem gX7_best_X7_endsOf : GoodIn wsX7_best (wsV RX7 161 RX7 yX7_endsOf wsX7_endsOf) := goodIn_app (goodIn_of _ (by decide +kernel)) ggX7_best_X7_endsOf
set_option maxRecDepth 20000 in
theorem ggX7_best_X7_wayOf : GoodIn wsX7_best wsX7_wayOf := goodIn_r _ [34, 4, 35, 36, 1, 25, 37, 38, 39, 40, 41, 42, 43, 44, 45, 46, 47, 48, 49, 50, 51, 52, 53, 54, 55, 56, 57, 58, 59, 60, 61, 62, 63, 64] (by decide +kernel) (by decide +kernel)
set_option maxRecDepth 20000 in
theorem gX7_best_X7_wayOf : GoodIn wsX7_best (wsV RX7 166 RX7 yX7_wayOf wsX7_wayOf) := goodIn_app (goodIn_of _ (by decide +kernel)) ggX7_best_X7_wayOf
set_option maxRecDepth 20000 in
theorem ggX7_bestFrom_X7_best : GoodIn wsX7_bestFrom wsX7_best := goodIn_r _ [6, 7, 8, 9, 10, 11, 12, 13, 5, 14, 15, 16, 17, 18, 19, 20, 21, 22, 23, 24, 25, 26, 27, 28, 29, 30, 31, 32, 33, 34, 35, 36, 37, 38, 39, 40, 41, 42, 43, 44, 45, 46, 47, 48, 49, 50, 51, 52, 53, 54, 55, 56, 57, 58, 59, 60, 61, 62, 63, 64, 65, 66, 67, 68, 69] (by decide +kernel) (by decide +kernel)
set_option maxRecDepth 20000 in
theorem gX7_bestFrom_X7_best : GoodIn wsX7_bestFrom (wsV RX7 169 RX7 yX7_best wsX7_best) := goodIn_app (goodIn_of _ (by decide +kernel)) ggX7_bestFrom_X7_best
set_option maxRecDepth 20000 in
theorem ggX7_bestTo_X7_best : GoodIn wsX7_bestTo wsX7_best := goodIn_r _ [6, 7, 8, 9, 10, 11, 12, 13, 5, 14, 15, 16, 17, 18, 19, 20, 21, 22, 23, 24, 25, 26, 27, 28, 29, 30, 31, 32, 33, 34, 35, 36, 37, 38, 39, 40, 41, 42, 43, 44, 45, 46, 47, 48, 49, 50, 51, 52, 53, 54, 55, 56, 57, 58, 59, 60, 61, 62, 63, 64, 65, 66, 67, 68, 69] (by decide +kernel) (by decide +kernel)
set_option maxRecDepth 20000 in
theorem gX7_bestTo_X7_best : GoodIn wsX7_bestTo (wsV RX7 169 RX7 yX7_best wsX7_best) := goodIn_app (goodIn_of _ (by decide +kernel)) ggX7_bestTo_X7_best
abbrev vwCl : List vw_C := [(RX0, TX0, 6), (RX1, TX1, 2), (RX2, TX2, 8), (RX3, TX3, 5), (RX4, TX4, 7), (RX5, TX5, 4), (RX6, TX6, 8), (RX7, TX7, 27)]

