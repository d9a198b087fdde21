def RX0 : String := "CutsetWorks$Cuts"
def TX0 : u_T := fun k => match k with
  | 0 => ("CutsetWorks$Cuts", "mostOut", "I", false)
  | 1 => ("CutsetWorks$Cuts", "leastOut", "I", false)
  | 2 => ("CutsetWorks$Cuts", "mostIn", "I", false)
  | 3 => ("CutsetWorks$Cuts", "leastIn", "I", false)
  | 4 => ("CutsetWorks$Cuts", "near", "I", false)
  | 5 => ("CutsetWorks$Cuts", "far", "I", false)
  | _ => ("CutsetWorks$Cuts", "many", "I", false)
def tyX0 : Nat → FieldType := fun k => match k with
  | 0 => .int
  | 1 => .int
  | 2 => .int
  | 3 => .int
  | 4 => .int
  | 5 => .int
  | _ => .int
abbrev wsX00 : List Cond := u_ws RX0 TX0 7
theorem nmX0 : ∀ a, a < 7 → ∀ b, b < 7 → a ≠ b → (TX0 a).2.1 ≠ (TX0 b).2.1 := by decide +kernel
theorem tyX0_ok : ∀ k, k < 7 → parseFieldDescriptor (TX0 k).2.2.1 = some (tyX0 k) := by decide +kernel
abbrev cX0_init : ByteArray := prog_2_method_1_code
def yX0_init : MethodName := ⟨RX0, "<init>", "()V"⟩
abbrev cX0_weigh : ByteArray := prog_2_method_2_code
def yX0_weigh : MethodName := ⟨RX0, "weigh", "(LCutsetWorks$Net;I)V"⟩
abbrev cX0_sumOfCut : ByteArray := prog_2_method_3_code
def yX0_sumOfCut : MethodName := ⟨RX0, "sumOfCut", "(LCutsetWorks$Net;I)I"⟩
abbrev cX0_sumBothWays : ByteArray := prog_2_method_4_code
def yX0_sumBothWays : MethodName := ⟨RX0, "sumBothWays", "(LCutsetWorks$Net;I)I"⟩
abbrev cX0_isCrowd : ByteArray := prog_2_method_5_code
def yX0_isCrowd : MethodName := ⟨RX0, "isCrowd", "(LCutsetWorks$Net;I)Z"⟩
abbrev cX0_isBroken : ByteArray := prog_2_method_6_code
def yX0_isBroken : MethodName := ⟨RX0, "isBroken", "(LCutsetWorks$Net;I)Z"⟩
abbrev cX0_findLeast : ByteArray := prog_2_method_7_code
def yX0_findLeast : MethodName := ⟨RX0, "findLeast", "(LCutsetWorks$Net;II)V"⟩
abbrev cX0_leastCrowd : ByteArray := prog_2_method_8_code
def yX0_leastCrowd : MethodName := ⟨RX0, "leastCrowd", "(LCutsetWorks$Net;II)I"⟩
abbrev cX0_leastBreaker : ByteArray := prog_2_method_9_code
def yX0_leastBreaker : MethodName := ⟨RX0, "leastBreaker", "(LCutsetWorks$Net;)I"⟩
abbrev cX0_fewestApart : ByteArray := prog_2_method_10_code
def yX0_fewestApart : MethodName := ⟨RX0, "fewestApart", "(LCutsetWorks$Net;II)I"⟩
def RX1 : String := "CutsetWorks$Flows"
def TX1 : u_T := fun k => match k with
  | 0 => ("CutsetWorks$Flows", "nodes", "I", false)
  | 1 => ("CutsetWorks$Flows", "edges", "I", false)
  | 2 => ("CutsetWorks$Flows", "from", "[I", true)
  | 3 => ("CutsetWorks$Flows", "to", "[I", true)
  | 4 => ("CutsetWorks$Flows", "least", "[I", true)
  | 5 => ("CutsetWorks$Flows", "most", "[I", true)
  | 6 => ("CutsetWorks$Flows", "cost", "[I", true)
  | 7 => ("CutsetWorks$Flows", "low", "[I", true)
  | 8 => ("CutsetWorks$Flows", "high", "[I", true)
  | 9 => ("CutsetWorks$Flows", "flow", "[I", true)
  | 10 => ("CutsetWorks$Flows", "level", "[I", true)
  | 11 => ("CutsetWorks$Flows", "via", "[I", true)
  | 12 => ("CutsetWorks$Flows", "way", "[I", true)
  | _ => ("CutsetWorks$Flows", "wayLength", "I", false)
def tyX1 : Nat → FieldType := fun k => match k with
  | 0 => .int
  | 1 => .int
  | 2 => .array .int
  | 3 => .array .int
  | 4 => .array .int
  | 5 => .array .int
  | 6 => .array .int
  | 7 => .array .int
  | 8 => .array .int
  | 9 => .array .int
  | 10 => .array .int
  | 11 => .array .int
  | 12 => .array .int
  | _ => .int
abbrev wsX10 : List Cond := u_ws RX1 TX1 14
theorem nmX1 : ∀ a, a < 14 → ∀ b, b < 14 → a ≠ b → (TX1 a).2.1 ≠ (TX1 b).2.1 := by decide +kernel
theorem tyX1_ok : ∀ k, k < 14 → parseFieldDescriptor (TX1 k).2.2.1 = some (tyX1 k) := by decide +kernel
abbrev cX1_init : ByteArray := prog_3_method_1_code
def yX1_init : MethodName := ⟨RX1, "<init>", "()V"⟩
abbrev cX1_start : ByteArray := prog_3_method_2_code
def yX1_start : MethodName := ⟨RX1, "start", "(I)V"⟩
abbrev cX1_add : ByteArray := prog_3_method_3_code
def yX1_add : MethodName := ⟨RX1, "add", "(IIIII)V"⟩
abbrev cX1_setBounds : ByteArray := prog_3_method_4_code
def yX1_setBounds : MethodName := ⟨RX1, "setBounds", "(III)V"⟩
abbrev cX1_isNode : ByteArray := prog_3_method_5_code
def yX1_isNode : MethodName := ⟨RX1, "isNode", "(I)Z"⟩
abbrev cX1_isEdge : ByteArray := prog_3_method_6_code
def yX1_isEdge : MethodName := ⟨RX1, "isEdge", "(I)Z"⟩
abbrev cX1_numberOf : ByteArray := prog_3_method_7_code
def yX1_numberOf : MethodName := ⟨RX1, "numberOf", "(I)I"⟩
abbrev cX1_keep : ByteArray := prog_3_method_8_code
def yX1_keep : MethodName := ⟨RX1, "keep", "(I)V"⟩
abbrev cX1_free : ByteArray := prog_3_method_9_code
def yX1_free : MethodName := ⟨RX1, "free", "(I)V"⟩
abbrev cX1_settle : ByteArray := prog_3_method_10_code
def yX1_settle : MethodName := ⟨RX1, "settle", "()Z"⟩
abbrev cX1_lower : ByteArray := prog_3_method_11_code
def yX1_lower : MethodName := ⟨RX1, "lower", "(I)V"⟩
abbrev cX1_push : ByteArray := prog_3_method_12_code
def yX1_push : MethodName := ⟨RX1, "push", "(III)I"⟩
abbrev cX1_send : ByteArray := prog_3_method_13_code
def yX1_send : MethodName := ⟨RX1, "send", "(III)I"⟩
abbrev cX1_setDistances : ByteArray := prog_3_method_14_code
def yX1_setDistances : MethodName := ⟨RX1, "setDistances", "(II)V"⟩
abbrev cX1_leastSign : ByteArray := prog_3_method_15_code
def yX1_leastSign : MethodName := ⟨RX1, "leastSign", "(II)I"⟩
abbrev cX1_shift : ByteArray := prog_3_method_16_code
def yX1_shift : MethodName := ⟨RX1, "shift", "(I)I"⟩
abbrev cX1_cheapen : ByteArray := prog_3_method_18_code
def yX1_cheapen : MethodName := ⟨RX1, "cheapen", "()V"⟩
abbrev cX1_lowerAll : ByteArray := prog_3_method_19_code
def yX1_lowerAll : MethodName := ⟨RX1, "lowerAll", "()I"⟩
abbrev cX1_relax : ByteArray := prog_3_method_20_code
def yX1_relax : MethodName := ⟨RX1, "relax", "()I"⟩
abbrev cX1_findRing : ByteArray := prog_3_method_21_code
def yX1_findRing : MethodName := ⟨RX1, "findRing", "(I)Z"⟩
abbrev cX1_cameFrom : ByteArray := prog_3_method_22_code
def yX1_cameFrom : MethodName := ⟨RX1, "cameFrom", "(I)I"⟩
abbrev cX1_keepCheap : ByteArray := prog_3_method_23_code
def yX1_keepCheap : MethodName := ⟨RX1, "keepCheap", "()V"⟩
abbrev cX1_setLevelsFrom : ByteArray := prog_3_method_24_code
def yX1_setLevelsFrom : MethodName := ⟨RX1, "setLevelsFrom", "(I)V"⟩
abbrev cX1_levelOf : ByteArray := prog_3_method_25_code
def yX1_levelOf : MethodName := ⟨RX1, "levelOf", "(I)I"⟩
abbrev cX1_sumOfCosts : ByteArray := prog_3_method_26_code
def yX1_sumOfCosts : MethodName := ⟨RX1, "sumOfCosts", "(I)I"⟩
def RX2 : String := "CutsetWorks$League"
def TX2 : u_T := fun k => match k with
  | 0 => ("CutsetWorks$League", "teams", "I", false)
  | 1 => ("CutsetWorks$League", "wins", "[I", true)
  | _ => ("CutsetWorks$League", "left", "[I", true)
def tyX2 : Nat → FieldType := fun k => match k with
  | 0 => .int
  | 1 => .array .int
  | _ => .array .int
abbrev wsX20 : List Cond := u_ws RX2 TX2 3
theorem nmX2 : ∀ a, a < 3 → ∀ b, b < 3 → a ≠ b → (TX2 a).2.1 ≠ (TX2 b).2.1 := by decide +kernel
theorem tyX2_ok : ∀ k, k < 3 → parseFieldDescriptor (TX2 k).2.2.1 = some (tyX2 k) := by decide +kernel
abbrev cX2_init : ByteArray := prog_4_method_1_code
def yX2_init : MethodName := ⟨RX2, "<init>", "()V"⟩
abbrev cX2_enter : ByteArray := prog_4_method_2_code
def yX2_enter : MethodName := ⟨RX2, "enter", "(I)I"⟩
def RX3 : String := "CutsetWorks$Net"
def TX3 : u_T := fun k => match k with
  | 0 => ("CutsetWorks$Net", "corners", "I", true)
  | 1 => ("CutsetWorks$Net", "from", "[I", true)
  | 2 => ("CutsetWorks$Net", "to", "[I", true)
  | 3 => ("CutsetWorks$Net", "least", "[I", true)
  | 4 => ("CutsetWorks$Net", "most", "[I", true)
  | 5 => ("CutsetWorks$Net", "cost", "[I", true)
  | 6 => ("CutsetWorks$Net", "supply", "[I", true)
  | _ => ("CutsetWorks$Net", "edges", "I", false)
def tyX3 : Nat → FieldType := fun k => match k with
  | 0 => .int
  | 1 => .array .int
  | 2 => .array .int
  | 3 => .array .int
  | 4 => .array .int
  | 5 => .array .int
  | 6 => .array .int
  | _ => .int
abbrev wsX30 : List Cond := u_ws RX3 TX3 8
theorem nmX3 : ∀ a, a < 8 → ∀ b, b < 8 → a ≠ b → (TX3 a).2.1 ≠ (TX3 b).2.1 := by decide +kernel
theorem tyX3_ok : ∀ k, k < 8 → parseFieldDescriptor (TX3 k).2.2.1 = some (tyX3 k) := by decide +kernel
abbrev cX3_init : ByteArray := prog_5_method_1_code
def yX3_init : MethodName := ⟨RX3, "<init>", "(I)V"⟩
abbrev cX3_put : ByteArray := prog_5_method_2_code
def yX3_put : MethodName := ⟨RX3, "put", "(IIIII)I"⟩
abbrev cX3_set : ByteArray := prog_5_method_3_code
def yX3_set : MethodName := ⟨RX3, "set", "(IIII)V"⟩
abbrev cX3_hasLeast : ByteArray := prog_5_method_5_code
def yX3_hasLeast : MethodName := ⟨RX3, "hasLeast", "()Z"⟩
abbrev cX3_leadsStraight : ByteArray := prog_5_method_6_code
def yX3_leadsStraight : MethodName := ⟨RX3, "leadsStraight", "(II)Z"⟩
abbrev cX3_reachFrom : ByteArray := prog_5_method_7_code
def yX3_reachFrom : MethodName := ⟨RX3, "reachFrom", "(II)I"⟩
abbrev cX3_sumOfAll : ByteArray := prog_5_method_8_code
def yX3_sumOfAll : MethodName := ⟨RX3, "sumOfAll", "()J"⟩
def RX4 : String := "CutsetWorks$Pairing"
def TX4 : u_T := fun k => match k with
  | 0 => ("CutsetWorks$Pairing", "liked", "[I", true)
  | 1 => ("CutsetWorks$Pairing", "together", "[I", true)
  | _ => ("CutsetWorks$Pairing", "row", "[I", true)
def tyX4 : Nat → FieldType := fun k => match k with
  | 0 => .array .int
  | 1 => .array .int
  | _ => .array .int
abbrev wsX40 : List Cond := u_ws RX4 TX4 3
theorem nmX4 : ∀ a, a < 3 → ∀ b, b < 3 → a ≠ b → (TX4 a).2.1 ≠ (TX4 b).2.1 := by decide +kernel
theorem tyX4_ok : ∀ k, k < 3 → parseFieldDescriptor (TX4 k).2.2.1 = some (tyX4 k) := by decide +kernel
abbrev cX4_init : ByteArray := prog_6_method_1_code
def yX4_init : MethodName := ⟨RX4, "<init>", "()V"⟩
abbrev cX4_gather : ByteArray := prog_6_method_2_code
def yX4_gather : MethodName := ⟨RX4, "gather", "()V"⟩
abbrev cX4_greatest : ByteArray := prog_6_method_3_code
def yX4_greatest : MethodName := ⟨RX4, "greatest", "(II)I"⟩
abbrev cX4_tellLeastRow : ByteArray := prog_6_method_4_code
def yX4_tellLeastRow : MethodName := ⟨RX4, "tellLeastRow", "()V"⟩
abbrev cX4_leastRight : ByteArray := prog_6_method_5_code
def yX4_leastRight : MethodName := ⟨RX4, "leastRight", "(III)I"⟩
abbrev cX4_likedByOthers : ByteArray := prog_6_method_6_code
def yX4_likedByOthers : MethodName := ⟨RX4, "likedByOthers", "(I)I"⟩
abbrev cX4_leftOfCover : ByteArray := prog_6_method_7_code
def yX4_leftOfCover : MethodName := ⟨RX4, "leftOfCover", "()I"⟩
abbrev cX4_isCovered : ByteArray := prog_6_method_9_code
def yX4_isCovered : MethodName := ⟨RX4, "isCovered", "()Z"⟩
def RX5 : String := "CutsetWorks$Projects"
def TX5 : u_T := fun k => match k with
  | 0 => ("CutsetWorks$Projects", "count", "I", false)
  | 1 => ("CutsetWorks$Projects", "gains", "[I", true)
  | 2 => ("CutsetWorks$Projects", "needed", "[I", true)
  | 3 => ("CutsetWorks$Projects", "prices", "[I", true)
  | 4 => ("CutsetWorks$Projects", "greatest", "I", false)
  | 5 => ("CutsetWorks$Projects", "inAll", "I", false)
  | _ => ("CutsetWorks$Projects", "inSome", "I", false)
def tyX5 : Nat → FieldType := fun k => match k with
  | 0 => .int
  | 1 => .array .int
  | 2 => .array .int
  | 3 => .array .int
  | 4 => .int
  | 5 => .int
  | _ => .int
abbrev wsX50 : List Cond := u_ws RX5 TX5 7
theorem nmX5 : ∀ a, a < 7 → ∀ b, b < 7 → a ≠ b → (TX5 a).2.1 ≠ (TX5 b).2.1 := by decide +kernel
theorem tyX5_ok : ∀ k, k < 7 → parseFieldDescriptor (TX5 k).2.2.1 = some (tyX5 k) := by decide +kernel
abbrev cX5_init : ByteArray := prog_7_method_1_code
def yX5_init : MethodName := ⟨RX5, "<init>", "()V"⟩
abbrev cX5_put : ByteArray := prog_7_method_2_code
def yX5_put : MethodName := ⟨RX5, "put", "(II)I"⟩
abbrev cX5_choose : ByteArray := prog_7_method_3_code
def yX5_choose : MethodName := ⟨RX5, "choose", "()V"⟩
abbrev cX5_worthOf : ByteArray := prog_7_method_4_code
def yX5_worthOf : MethodName := ⟨RX5, "worthOf", "(I)I"⟩
def RX6 : String := "CutsetWorks$Streams"
def TX6 : u_T := fun k => match k with
  | 0 => ("CutsetWorks$Streams", "flows", "LCutsetWorks$Flows;", true)
  | 1 => ("CutsetWorks$Streams", "source", "I", false)
  | 2 => ("CutsetWorks$Streams", "sink", "I", false)
  | 3 => ("CutsetWorks$Streams", "back", "I", false)
  | 4 => ("CutsetWorks$Streams", "amount", "I", false)
  | _ => ("CutsetWorks$Streams", "total", "I", false)
def tyX6 : Nat → FieldType := fun k => match k with
  | 0 => .object "CutsetWorks$Flows"
  | 1 => .int
  | 2 => .int
  | 3 => .int
  | 4 => .int
  | _ => .int
abbrev wsX60 : List Cond := u_ws RX6 TX6 6
theorem nmX6 : ∀ a, a < 6 → ∀ b, b < 6 → a ≠ b → (TX6 a).2.1 ≠ (TX6 b).2.1 := by decide +kernel
theorem tyX6_ok : ∀ k, k < 6 → parseFieldDescriptor (TX6 k).2.2.1 = some (tyX6 k) := by decide +kernel
abbrev cX6_init : ByteArray := prog_8_method_1_code
def yX6_init : MethodName := ⟨RX6, "<init>", "()V"⟩
abbrev cX6_lay : ByteArray := prog_8_method_2_code
def yX6_lay : MethodName := ⟨RX6, "lay", "(LCutsetWorks$Net;II)V"⟩
abbrev cX6_addEdges : ByteArray := prog_8_method_3_code
def yX6_addEdges : MethodName := ⟨RX6, "addEdges", "(LCutsetWorks$Net;)V"⟩
abbrev cX6_fill : ByteArray := prog_8_method_5_code
def yX6_fill : MethodName := ⟨RX6, "fill", "()Z"⟩
abbrev cX6_numberOf : ByteArray := prog_8_method_6_code
def yX6_numberOf : MethodName := ⟨RX6, "numberOf", "(I)I"⟩
abbrev cX6_leastOf : ByteArray := prog_8_method_7_code
def yX6_leastOf : MethodName := ⟨RX6, "leastOf", "(I)I"⟩
abbrev cX6_tellLeastRow : ByteArray := prog_8_method_8_code
def yX6_tellLeastRow : MethodName := ⟨RX6, "tellLeastRow", "(I)V"⟩
abbrev cX6_cheapen : ByteArray := prog_8_method_9_code
def yX6_cheapen : MethodName := ⟨RX6, "cheapen", "()V"⟩
abbrev cX6_costOf : ByteArray := prog_8_method_10_code
def yX6_costOf : MethodName := ⟨RX6, "costOf", "(I)I"⟩
abbrev cX6_setPrices : ByteArray := prog_8_method_11_code
def yX6_setPrices : MethodName := ⟨RX6, "setPrices", "(II)V"⟩
abbrev cX6_hasPrice : ByteArray := prog_8_method_12_code
def yX6_hasPrice : MethodName := ⟨RX6, "hasPrice", "(I)Z"⟩
abbrev cX6_priceOf : ByteArray := prog_8_method_13_code
def yX6_priceOf : MethodName := ⟨RX6, "priceOf", "(I)I"⟩
abbrev cX6_goRounds : ByteArray := prog_8_method_14_code
def yX6_goRounds : MethodName := ⟨RX6, "goRounds", "(LCutsetWorks$Net;III)I"⟩
abbrev cX6_waysByEdges : ByteArray := prog_8_method_16_code
def yX6_waysByEdges : MethodName := ⟨RX6, "waysByEdges", "(LCutsetWorks$Net;II)I"⟩
abbrev cX6_waysByCorners : ByteArray := prog_8_method_17_code
def yX6_waysByCorners : MethodName := ⟨RX6, "waysByCorners", "(LCutsetWorks$Net;II)I"⟩
abbrev cX6_meetDemands : ByteArray := prog_8_method_18_code
def yX6_meetDemands : MethodName := ⟨RX6, "meetDemands", "(LCutsetWorks$Net;)Z"⟩
abbrev cX6_arriveBy : ByteArray := prog_8_method_19_code
def yX6_arriveBy : MethodName := ⟨RX6, "arriveBy", "(LCutsetWorks$Net;III)I"⟩
abbrev cX6_fills : ByteArray := prog_8_method_20_code
def yX6_fills : MethodName := ⟨RX6, "fills", "(LCutsetWorks$Net;I)Z"⟩
abbrev cX6_arePricesRight : ByteArray := prog_8_method_21_code
def yX6_arePricesRight : MethodName := ⟨RX6, "arePricesRight", "(LCutsetWorks$Net;)Z"⟩
def RX7 : String := "CutsetWorks$Table"
def TX7 : u_T := fun k => match k with
  | 0 => ("CutsetWorks$Table", "rows", "I", false)
  | 1 => ("CutsetWorks$Table", "columns", "I", false)
  | 2 => ("CutsetWorks$Table", "tenths", "[I", true)
  | 3 => ("CutsetWorks$Table", "whole", "[I", true)
  | 4 => ("CutsetWorks$Table", "rowSums", "[I", true)
  | 5 => ("CutsetWorks$Table", "columnSums", "[I", true)
  | _ => ("CutsetWorks$Table", "sum", "I", false)
def tyX7 : Nat → FieldType := fun k => match k with
  | 0 => .int
  | 1 => .int
  | 2 => .array .int
  | 3 => .array .int
  | 4 => .array .int
  | 5 => .array .int
  | _ => .int
abbrev wsX70 : List Cond := u_ws RX7 TX7 7
theorem nmX7 : ∀ a, a < 7 → ∀ b, b < 7 → a ≠ b → (TX7 a).2.1 ≠ (TX7 b).2.1 := by decide +kernel
theorem tyX7_ok : ∀ k, k < 7 → parseFieldDescriptor (TX7 k).2.2.1 = some (tyX7 k) := by decide +kernel
abbrev cX7_init : ByteArray := prog_9_method_1_code
def yX7_init : MethodName := ⟨RX7, "<init>", "()V"⟩
abbrev cX7_start : ByteArray := prog_9_method_2_code
def yX7_start : MethodName := ⟨RX7, "start", "(II)V"⟩
abbrev cX7_placeOf : ByteArray := prog_9_method_3_code
def yX7_placeOf : MethodName := ⟨RX7, "placeOf", "(II)I"⟩
abbrev cX7_addUp : ByteArray := prog_9_method_4_code
def yX7_addUp : MethodName := ⟨RX7, "addUp", "([I)V"⟩
abbrev cX7_roundBy : ByteArray := prog_9_method_5_code
def yX7_roundBy : MethodName := ⟨RX7, "roundBy", "(LCutsetWorks$Flows;)V"⟩
abbrev cX7_addRounded : ByteArray := prog_9_method_6_code
def yX7_addRounded : MethodName := ⟨RX7, "addRounded", "(LCutsetWorks$Flows;III)V"⟩
abbrev cX7_isRounded : ByteArray := prog_9_method_7_code
def yX7_isRounded : MethodName := ⟨RX7, "isRounded", "()Z"⟩
abbrev cX7_sumOfTenths : ByteArray := prog_9_method_8_code
def yX7_sumOfTenths : MethodName := ⟨RX7, "sumOfTenths", "(IIII)I"⟩
abbrev cX7_isNear : ByteArray := prog_9_method_9_code
def yX7_isNear : MethodName := ⟨RX7, "isNear", "(II)Z"⟩
def RX8 : String := "CutsetWorks$Tree"
def TX8 : u_T := fun k => match k with
  | 0 => ("CutsetWorks$Tree", "corners", "I", false)
  | 1 => ("CutsetWorks$Tree", "sums", "[I", true)
  | 2 => ("CutsetWorks$Tree", "parents", "[I", true)
  | _ => ("CutsetWorks$Tree", "weights", "[I", true)
def tyX8 : Nat → FieldType := fun k => match k with
  | 0 => .int
  | 1 => .array .int
  | 2 => .array .int
  | _ => .array .int
abbrev wsX80 : List Cond := u_ws RX8 TX8 4
theorem nmX8 : ∀ a, a < 4 → ∀ b, b < 4 → a ≠ b → (TX8 a).2.1 ≠ (TX8 b).2.1 := by decide +kernel
theorem tyX8_ok : ∀ k, k < 4 → parseFieldDescriptor (TX8 k).2.2.1 = some (tyX8 k) := by decide +kernel
abbrev cX8_init : ByteArray := prog_10_method_1_code
def yX8_init : MethodName := ⟨RX8, "<init>", "()V"⟩
abbrev cX8_measure : ByteArray := prog_10_method_2_code
def yX8_measure : MethodName := ⟨RX8, "measure", "(LCutsetWorks$Net;LCutsetWorks$Cuts;)V"⟩
abbrev cX8_leastCut : ByteArray := prog_10_method_3_code
def yX8_leastCut : MethodName := ⟨RX8, "leastCut", "(II)I"⟩
abbrev cX8_sideInAll : ByteArray := prog_10_method_4_code
def yX8_sideInAll : MethodName := ⟨RX8, "sideInAll", "(III)I"⟩
abbrev cX8_grow : ByteArray := prog_10_method_5_code
def yX8_grow : MethodName := ⟨RX8, "grow", "()V"⟩
abbrev cX8_leastOnWay : ByteArray := prog_10_method_6_code
def yX8_leastOnWay : MethodName := ⟨RX8, "leastOnWay", "(II)I"⟩
def RX9 : String := "CutsetWorks"
def TX9 : u_T := fun k => match k with
  | 0 => ("CutsetWorks", "nets", "[LCutsetWorks$Net;", true)
  | 1 => ("CutsetWorks", "netCount", "I", false)
  | 2 => ("CutsetWorks", "streams", "LCutsetWorks$Streams;", true)
  | 3 => ("CutsetWorks", "scan", "LCutsetWorks$Cuts;", true)
  | 4 => ("CutsetWorks", "tree", "LCutsetWorks$Tree;", true)
  | 5 => ("CutsetWorks", "pairing", "LCutsetWorks$Pairing;", true)
  | 6 => ("CutsetWorks", "league", "LCutsetWorks$League;", true)
  | 7 => ("CutsetWorks", "numbers", "LCutsetWorks$Table;", true)
  | _ => ("CutsetWorks", "projects", "LCutsetWorks$Projects;", true)
def tyX9 : Nat → FieldType := fun k => match k with
  | 0 => .array (.object "CutsetWorks$Net")
  | 1 => .int
  | 2 => .object "CutsetWorks$Streams"
  | 3 => .object "CutsetWorks$Cuts"
  | 4 => .object "CutsetWorks$Tree"
  | 5 => .object "CutsetWorks$Pairing"
  | 6 => .object "CutsetWorks$League"
  | 7 => .object "CutsetWorks$Table"
  | _ => .object "CutsetWorks$Projects"
abbrev wsX90 : List Cond := u_ws RX9 TX9 9
theorem nmX9 : ∀ a, a < 9 → ∀ b, b < 9 → a ≠ b → (TX9 a).2.1 ≠ (TX9 b).2.1 := by decide +kernel
theorem tyX9_ok : ∀ k, k < 9 → parseFieldDescriptor (TX9 k).2.2.1 = some (tyX9 k) := by decide +kernel
abbrev cX9_init : ByteArray := prog_1_method_1_code
def yX9_init : MethodName := ⟨RX9, "<init>", "()V"⟩
abbrev cX9_net : ByteArray := prog_1_method_2_code
def yX9_net : MethodName := ⟨RX9, "net", "(I)I"⟩
abbrev cX9_edge : ByteArray := prog_1_method_3_code
def yX9_edge : MethodName := ⟨RX9, "edge", "(IIIIII)I"⟩
abbrev cX9_change : ByteArray := prog_1_method_4_code
def yX9_change : MethodName := ⟨RX9, "change", "(IIIII)I"⟩
abbrev cX9_supply : ByteArray := prog_1_method_7_code
def yX9_supply : MethodName := ⟨RX9, "supply", "(III)I"⟩
abbrev cX9_most : ByteArray := prog_1_method_8_code
def yX9_most : MethodName := ⟨RX9, "most", "(III)I"⟩
abbrev cX9_flow : ByteArray := prog_1_method_9_code
def yX9_flow : MethodName := ⟨RX9, "flow", "(IIII)I"⟩
abbrev cX9_crowd : ByteArray := prog_1_method_10_code
def yX9_crowd : MethodName := ⟨RX9, "crowd", "(III)I"⟩
abbrev cX9_cut : ByteArray := prog_1_method_11_code
def yX9_cut : MethodName := ⟨RX9, "cut", "(IIIZ)I"⟩
abbrev cX9_cutSum : ByteArray := prog_1_method_12_code
def yX9_cutSum : MethodName := ⟨RX9, "cutSum", "(IIII)I"⟩
abbrev cX9_cuts : ByteArray := prog_1_method_13_code
def yX9_cuts : MethodName := ⟨RX9, "cuts", "(III)I"⟩
abbrev cX9_isFull : ByteArray := prog_1_method_14_code
def yX9_isFull : MethodName := ⟨RX9, "isFull", "(IIII)Z"⟩
abbrev cX9_rounds : ByteArray := prog_1_method_15_code
def yX9_rounds : MethodName := ⟨RX9, "rounds", "(III)I"⟩
abbrev cX9_roundAmount : ByteArray := prog_1_method_16_code
def yX9_roundAmount : MethodName := ⟨RX9, "roundAmount", "(IIII)I"⟩
abbrev cX9_cost : ByteArray := prog_1_method_18_code
def yX9_cost : MethodName := ⟨RX9, "cost", "(III)I"⟩
abbrev cX9_cheapest : ByteArray := prog_1_method_19_code
def yX9_cheapest : MethodName := ⟨RX9, "cheapest", "(IIII)I"⟩
abbrev cX9_price : ByteArray := prog_1_method_20_code
def yX9_price : MethodName := ⟨RX9, "price", "(IIII)I"⟩
abbrev cX9_edgeWays : ByteArray := prog_1_method_21_code
def yX9_edgeWays : MethodName := ⟨RX9, "edgeWays", "(III)I"⟩
abbrev cX9_cornerWays : ByteArray := prog_1_method_22_code
def yX9_cornerWays : MethodName := ⟨RX9, "cornerWays", "(III)I"⟩
abbrev cX9_apart : ByteArray := prog_1_method_23_code
def yX9_apart : MethodName := ⟨RX9, "apart", "(III)I"⟩
abbrev cX9_holds : ByteArray := prog_1_method_26_code
def yX9_holds : MethodName := ⟨RX9, "holds", "(I)Z"⟩
abbrev cX9_meets : ByteArray := prog_1_method_27_code
def yX9_meets : MethodName := ⟨RX9, "meets", "(II)I"⟩
abbrev cX9_breaks : ByteArray := prog_1_method_28_code
def yX9_breaks : MethodName := ⟨RX9, "breaks", "(I)I"⟩
abbrev cX9_parent : ByteArray := prog_1_method_29_code
def yX9_parent : MethodName := ⟨RX9, "parent", "(II)I"⟩
abbrev cX9_between : ByteArray := prog_1_method_30_code
def yX9_between : MethodName := ⟨RX9, "between", "(III)I"⟩
abbrev cX9_inSteps : ByteArray := prog_1_method_31_code
def yX9_inSteps : MethodName := ⟨RX9, "inSteps", "(IIII)I"⟩
abbrev cX9_likes : ByteArray := prog_1_method_32_code
def yX9_likes : MethodName := ⟨RX9, "likes", "(II)I"⟩
abbrev cX9_pairs : ByteArray := prog_1_method_33_code
def yX9_pairs : MethodName := ⟨RX9, "pairs", "()I"⟩
abbrev cX9_pairOf : ByteArray := prog_1_method_34_code
def yX9_pairOf : MethodName := ⟨RX9, "pairOf", "(I)I"⟩
abbrev cX9_cover : ByteArray := prog_1_method_35_code
def yX9_cover : MethodName := ⟨RX9, "cover", "(Z)I"⟩
abbrev cX9_team : ByteArray := prog_1_method_37_code
def yX9_team : MethodName := ⟨RX9, "team", "(I)I"⟩
abbrev cX9_table : ByteArray := prog_1_method_41_code
def yX9_table : MethodName := ⟨RX9, "table", "(II)I"⟩
abbrev cX9_tell : ByteArray := prog_1_method_42_code
def yX9_tell : MethodName := ⟨RX9, "tell", "(III)I"⟩
abbrev cX9_rounded : ByteArray := prog_1_method_43_code
def yX9_rounded : MethodName := ⟨RX9, "rounded", "(II)I"⟩
abbrev cX9_project : ByteArray := prog_1_method_44_code
def yX9_project : MethodName := ⟨RX9, "project", "(II)I"⟩
abbrev cX9_toolCost : ByteArray := prog_1_method_45_code
def yX9_toolCost : MethodName := ⟨RX9, "toolCost", "(II)I"⟩
abbrev cX9_best : ByteArray := prog_1_method_46_code
def yX9_best : MethodName := ⟨RX9, "best", "()I"⟩
abbrev cX9_chosen : ByteArray := prog_1_method_47_code
def yX9_chosen : MethodName := ⟨RX9, "chosen", "(Z)I"⟩
abbrev cX9_checksum : ByteArray := prog_1_method_48_code
def yX9_checksum : MethodName := ⟨RX9, "checksum", "(I)J"⟩
abbrev cX9_isSound : ByteArray := prog_1_method_51_code
def yX9_isSound : MethodName := ⟨RX9, "isSound", "()Z"⟩
abbrev cX9_isFlowSound : ByteArray := prog_1_method_52_code
def yX9_isFlowSound : MethodName := ⟨RX9, "isFlowSound", "(LCutsetWorks$Net;)Z"⟩
abbrev cX9_isCutSound : ByteArray := prog_1_method_53_code
def yX9_isCutSound : MethodName := ⟨RX9, "isCutSound", "(LCutsetWorks$Net;II)Z"⟩
abbrev cX9_areRoundsSound : ByteArray := prog_1_method_54_code
def yX9_areRoundsSound : MethodName := ⟨RX9, "areRoundsSound", "(LCutsetWorks$Net;II)Z"⟩
abbrev cX9_isTreeSound : ByteArray := prog_1_method_55_code
def yX9_isTreeSound : MethodName := ⟨RX9, "isTreeSound", "(LCutsetWorks$Net;)Z"⟩
abbrev cX9_greatestAmount : ByteArray := prog_1_method_56_code
def yX9_greatestAmount : MethodName := ⟨RX9, "greatestAmount", "(LCutsetWorks$Net;II)I"⟩
abbrev cX9_tellGreatest : ByteArray := prog_1_method_57_code
def yX9_tellGreatest : MethodName := ⟨RX9, "tellGreatest", "(LCutsetWorks$Net;II)V"⟩
abbrev cX9_tellCheapest : ByteArray := prog_1_method_58_code
def yX9_tellCheapest : MethodName := ⟨RX9, "tellCheapest", "(LCutsetWorks$Net;II)V"⟩
abbrev cX9_netAt : ByteArray := prog_1_method_59_code
def yX9_netAt : MethodName := ⟨RX9, "netAt", "(I)LCutsetWorks$Net;"⟩
abbrev cX9_needEdge : ByteArray := prog_1_method_60_code
def yX9_needEdge : MethodName := ⟨RX9, "needEdge", "(LCutsetWorks$Net;I)V"⟩
abbrev cX9_needCorner : ByteArray := prog_1_method_61_code
def yX9_needCorner : MethodName := ⟨RX9, "needCorner", "(LCutsetWorks$Net;I)V"⟩
abbrev cX9_needEnds : ByteArray := prog_1_method_62_code
def yX9_needEnds : MethodName := ⟨RX9, "needEnds", "(LCutsetWorks$Net;II)V"⟩
abbrev cX9_needNumbers : ByteArray := prog_1_method_63_code
def yX9_needNumbers : MethodName := ⟨RX9, "needNumbers", "(III)V"⟩
abbrev cX9_needFlow : ByteArray := prog_1_method_64_code
def yX9_needFlow : MethodName := ⟨RX9, "needFlow", "(Z)V"⟩
abbrev cX9_needNoLeasts : ByteArray := prog_1_method_65_code
def yX9_needNoLeasts : MethodName := ⟨RX9, "needNoLeasts", "(LCutsetWorks$Net;)V"⟩
abbrev cX9_needRound : ByteArray := prog_1_method_66_code
def yX9_needRound : MethodName := ⟨RX9, "needRound", "(LCutsetWorks$Net;III)V"⟩
abbrev cX9_needLeft : ByteArray := prog_1_method_68_code
def yX9_needLeft : MethodName := ⟨RX9, "needLeft", "(I)V"⟩
abbrev cX9_needPlace : ByteArray := prog_1_method_70_code
def yX9_needPlace : MethodName := ⟨RX9, "needPlace", "(II)V"⟩
abbrev cX9_hasBit : ByteArray := prog_1_method_71_code
def yX9_hasBit : MethodName := ⟨RX9, "hasBit", "(II)Z"⟩
abbrev cX9_hasOneOf : ByteArray := prog_1_method_72_code
def yX9_hasOneOf : MethodName := ⟨RX9, "hasOneOf", "(III)Z"⟩
def RX10 : String := "CutsetWorksModel"
def TX10 : u_T := fun k => match k with
  | _ => ("", "", "", false)
def tyX10 : Nat → FieldType := fun k => match k with
  | _ => .int
abbrev wsX100 : List Cond := u_ws RX10 TX10 0
theorem nmX10 : ∀ a, a < 0 → ∀ b, b < 0 → a ≠ b → (TX10 a).2.1 ≠ (TX10 b).2.1 := by decide +kernel
theorem tyX10_ok : ∀ k, k < 0 → parseFieldDescriptor (TX10 k).2.2.1 = some (tyX10 k) := by decide +kernel
def RJx145de : String := "java/io/Serializable"
def TJx145de : u_T := fun k => match k with
  | _ => ("", "", "", false)
def tyJx145de : Nat → FieldType := fun k => match k with
  | _ => .int
abbrev wsJx145de0 : List Cond := u_ws RJx145de TJx145de 0
theorem nmJx145de : ∀ a, a < 0 → ∀ b, b < 0 → a ≠ b → (TJx145de a).2.1 ≠ (TJx145de b).2.1 := by decide +kernel
theorem tyJx145de_ok : ∀ k, k < 0 → parseFieldDescriptor (TJx145de k).2.2.1 = some (tyJx145de k) := by decide +kernel
def RJx8e188 : String := "java/lang/Cloneable"
def TJx8e188 : u_T := fun k => match k with
  | _ => ("", "", "", false)
def tyJx8e188 : Nat → FieldType := fun k => match k with
  | _ => .int
abbrev wsJx8e1880 : List Cond := u_ws RJx8e188 TJx8e188 0
theorem nmJx8e188 : ∀ a, a < 0 → ∀ b, b < 0 → a ≠ b → (TJx8e188 a).2.1 ≠ (TJx8e188 b).2.1 := by decide +kernel
theorem tyJx8e188_ok : ∀ k, k < 0 → parseFieldDescriptor (TJx8e188 k).2.2.1 = some (tyJx8e188 k) := by decide +kernel
def RJ6 : String := "java/lang/Integer"
def TJ6 : u_T := fun k => match k with
  | _ => ("", "", "", false)
def tyJ6 : Nat → FieldType := fun k => match k with
  | _ => .int
abbrev wsJ60 : List Cond := u_ws RJ6 TJ6 0
theorem nmJ6 : ∀ a, a < 0 → ∀ b, b < 0 → a ≠ b → (TJ6 a).2.1 ≠ (TJ6 b).2.1 := by decide +kernel
theorem tyJ6_ok : ∀ k, k < 0 → parseFieldDescriptor (TJ6 k).2.2.1 = some (tyJ6 k) := by decide +kernel
abbrev cJ6_bitCount_0f7a4 : ByteArray := prog_19_method_49_code
def yJ6_bitCount_0f7a4 : MethodName := ⟨RJ6, "bitCount", "(I)I"⟩
def RJxab1ab : String := "java/lang/Iterable"
def TJxab1ab : u_T := fun k => match k with
  | _ => ("", "", "", false)
def tyJxab1ab : Nat → FieldType := fun k => match k with
  | _ => .int
abbrev wsJxab1ab0 : List Cond := u_ws RJxab1ab TJxab1ab 0
theorem nmJxab1ab : ∀ a, a < 0 → ∀ b, b < 0 → a ≠ b → (TJxab1ab a).2.1 ≠ (TJxab1ab b).2.1 := by decide +kernel
theorem tyJxab1ab_ok : ∀ k, k < 0 → parseFieldDescriptor (TJxab1ab k).2.2.1 = some (tyJxab1ab k) := by decide +kernel
def RJ9 : String := "java/lang/Math"
def TJ9 : u_T := fun k => match k with
  | _ => ("", "", "", false)
def tyJ9 : Nat → FieldType := fun k => match k with
  | _ => .int
abbrev wsJ90 : List Cond := u_ws RJ9 TJ9 0
theorem nmJ9 : ∀ a, a < 0 → ∀ b, b < 0 → a ≠ b → (TJ9 a).2.1 ≠ (TJ9 b).2.1 := by decide +kernel
theorem tyJ9_ok : ∀ k, k < 0 → parseFieldDescriptor (TJ9 k).2.2.1 = some (tyJ9 k) := by decide +kernel
abbrev cJ9_max_7cf53 : ByteArray := prog_21_method_65_code
def yJ9_max_7cf53 : MethodName := ⟨RJ9, "max", "(II)I"⟩
abbrev cJ9_min_7cf53 : ByteArray := prog_21_method_69_code
def yJ9_min_7cf53 : MethodName := ⟨RJ9, "min", "(II)I"⟩
def RJ0 : String := "java/lang/String"
def TJ0 : u_T := fun k => match k with
  | _ => ("", "", "", false)
def tyJ0 : Nat → FieldType := fun k => match k with
  | _ => .int
abbrev wsJ00 : List Cond := u_ws RJ0 TJ0 0
theorem nmJ0 : ∀ a, a < 0 → ∀ b, b < 0 → a ≠ b → (TJ0 a).2.1 ≠ (TJ0 b).2.1 := by decide +kernel
theorem tyJ0_ok : ∀ k, k < 0 → parseFieldDescriptor (TJ0 k).2.2.1 = some (tyJ0 k) := by decide +kernel
def RJ10 : String := "java/lang/System"
def TJ10 : u_T := fun k => match k with
  | _ => ("", "", "", false)
def tyJ10 : Nat → FieldType := fun k => match k with
  | _ => .int
abbrev wsJ100 : List Cond := u_ws RJ10 TJ10 0
theorem nmJ10 : ∀ a, a < 0 → ∀ b, b < 0 → a ≠ b → (TJ10 a).2.1 ≠ (TJ10 b).2.1 := by decide +kernel
theorem tyJ10_ok : ∀ k, k < 0 → parseFieldDescriptor (TJ10 k).2.2.1 = some (tyJ10 k) := by decide +kernel
def RJxa1e45 : String := "java/util/AbstractCollection"
def TJxa1e45 : u_T := fun k => match k with
  | _ => ("", "", "", false)
def tyJxa1e45 : Nat → FieldType := fun k => match k with
  | _ => .int
abbrev wsJxa1e450 : List Cond := u_ws RJxa1e45 TJxa1e45 0
theorem nmJxa1e45 : ∀ a, a < 0 → ∀ b, b < 0 → a ≠ b → (TJxa1e45 a).2.1 ≠ (TJxa1e45 b).2.1 := by decide +kernel
theorem tyJxa1e45_ok : ∀ k, k < 0 → parseFieldDescriptor (TJxa1e45 k).2.2.1 = some (tyJxa1e45 k) := by decide +kernel
abbrev cJxa1e45_init_da8c8 : ByteArray := prog_27_method_1_code
def yJxa1e45_init_da8c8 : MethodName := ⟨RJxa1e45, "<init>", "()V"⟩
def RJxc12de : String := "java/util/AbstractList"
def TJxc12de : u_T := fun k => match k with
  | _ => ("", "", "", false)
def tyJxc12de : Nat → FieldType := fun k => match k with
  | _ => .int
abbrev wsJxc12de0 : List Cond := u_ws RJxc12de TJxc12de 0
theorem nmJxc12de : ∀ a, a < 0 → ∀ b, b < 0 → a ≠ b → (TJxc12de a).2.1 ≠ (TJxc12de b).2.1 := by decide +kernel
theorem tyJxc12de_ok : ∀ k, k < 0 → parseFieldDescriptor (TJxc12de k).2.2.1 = some (tyJxc12de k) := by decide +kernel
abbrev cJxc12de_init_da8c8 : ByteArray := prog_28_method_1_code
def yJxc12de_init_da8c8 : MethodName := ⟨RJxc12de, "<init>", "()V"⟩
def RJx35411 : String := "java/util/ArrayList$Itr"
def TJx35411 : u_T := fun k => match k with
  | 0 => ("java/util/ArrayList$Itr", "cursor", "I", false)
  | 1 => ("java/util/ArrayList$Itr", "lastRet", "I", false)
  | 2 => ("java/util/ArrayList$Itr", "expectedModCount", "I", false)
  | _ => ("java/util/ArrayList$Itr", "this$0", "Ljava/util/ArrayList;", true)
def tyJx35411 : Nat → FieldType := fun k => match k with
  | 0 => .int
  | 1 => .int
  | 2 => .int
  | _ => .object "java/util/ArrayList"
abbrev wsJx354110 : List Cond := u_ws RJx35411 TJx35411 4
theorem nmJx35411 : ∀ a, a < 4 → ∀ b, b < 4 → a ≠ b → (TJx35411 a).2.1 ≠ (TJx35411 b).2.1 := by decide +kernel
theorem tyJx35411_ok : ∀ k, k < 4 → parseFieldDescriptor (TJx35411 k).2.2.1 = some (tyJx35411 k) := by decide +kernel
abbrev cJx35411_init_45d68 : ByteArray := prog_30_method_1_code
def yJx35411_init_45d68 : MethodName := ⟨RJx35411, "<init>", "(Ljava/util/ArrayList;)V"⟩
abbrev cJx35411_hasNext_aae02 : ByteArray := prog_30_method_2_code
def yJx35411_hasNext_aae02 : MethodName := ⟨RJx35411, "hasNext", "()Z"⟩
abbrev cJx35411_next_0502b : ByteArray := prog_30_method_3_code
def yJx35411_next_0502b : MethodName := ⟨RJx35411, "next", "()Ljava/lang/Object;"⟩
abbrev cJx35411_checkForComodification_da8c8 : ByteArray := prog_30_method_6_code
def yJx35411_checkForComodification_da8c8 : MethodName := ⟨RJx35411, "checkForComodification", "()V"⟩
def RJx4a65c : String := "java/util/ArrayList"
def TJx4a65c : u_T := fun k => match k with
  | 0 => ("java/util/AbstractList", "modCount", "I", false)
  | 1 => ("java/util/ArrayList", "elementData", "[Ljava/lang/Object;", false)
  | _ => ("java/util/ArrayList", "size", "I", false)
def tyJx4a65c : Nat → FieldType := fun k => match k with
  | 0 => .int
  | 1 => .array (.object "java/lang/Object")
  | _ => .int
abbrev wsJx4a65c0 : List Cond := u_ws RJx4a65c TJx4a65c 3
theorem nmJx4a65c : ∀ a, a < 3 → ∀ b, b < 3 → a ≠ b → (TJx4a65c a).2.1 ≠ (TJx4a65c b).2.1 := by decide +kernel
theorem tyJx4a65c_ok : ∀ k, k < 3 → parseFieldDescriptor (TJx4a65c k).2.2.1 = some (tyJx4a65c k) := by decide +kernel
abbrev cJx4a65c_init_da8c8 : ByteArray := prog_29_method_2_code
def yJx4a65c_init_da8c8 : MethodName := ⟨RJx4a65c, "<init>", "()V"⟩
abbrev cJx4a65c_grow_92f84 : ByteArray := prog_29_method_6_code
def yJx4a65c_grow_92f84 : MethodName := ⟨RJx4a65c, "grow", "(I)[Ljava/lang/Object;"⟩
abbrev cJx4a65c_grow_d5877 : ByteArray := prog_29_method_7_code
def yJx4a65c_grow_d5877 : MethodName := ⟨RJx4a65c, "grow", "()[Ljava/lang/Object;"⟩
abbrev cJx4a65c_size_8abf5 : ByteArray := prog_29_method_8_code
def yJx4a65c_size_8abf5 : MethodName := ⟨RJx4a65c, "size", "()I"⟩
abbrev cJx4a65c_elementData_915e3 : ByteArray := prog_29_method_18_code
def yJx4a65c_elementData_915e3 : MethodName := ⟨RJx4a65c, "elementData", "(I)Ljava/lang/Object;"⟩
abbrev cJx4a65c_get_915e3 : ByteArray := prog_29_method_20_code
def yJx4a65c_get_915e3 : MethodName := ⟨RJx4a65c, "get", "(I)Ljava/lang/Object;"⟩
abbrev cJx4a65c_add_72be8 : ByteArray := prog_29_method_24_code
def yJx4a65c_add_72be8 : MethodName := ⟨RJx4a65c, "add", "(Ljava/lang/Object;[Ljava/lang/Object;I)V"⟩
abbrev cJx4a65c_add_9ea2d : ByteArray := prog_29_method_25_code
def yJx4a65c_add_9ea2d : MethodName := ⟨RJx4a65c, "add", "(Ljava/lang/Object;)Z"⟩
abbrev cJx4a65c_iterator_32c93 : ByteArray := prog_29_method_55_code
def yJx4a65c_iterator_32c93 : MethodName := ⟨RJx4a65c, "iterator", "()Ljava/util/Iterator;"⟩
def RJ7 : String := "java/util/Arrays"
def TJ7 : u_T := fun k => match k with
  | _ => ("", "", "", false)
def tyJ7 : Nat → FieldType := fun k => match k with
  | _ => .int
abbrev wsJ70 : List Cond := u_ws RJ7 TJ7 0
theorem nmJ7 : ∀ a, a < 0 → ∀ b, b < 0 → a ≠ b → (TJ7 a).2.1 ≠ (TJ7 b).2.1 := by decide +kernel
theorem tyJ7_ok : ∀ k, k < 0 → parseFieldDescriptor (TJ7 k).2.2.1 = some (tyJ7 k) := by decide +kernel
abbrev cJ7_copyOf_1904c : ByteArray := prog_31_method_119_code
def yJ7_copyOf_1904c : MethodName := ⟨RJ7, "copyOf", "([Ljava/lang/Object;I)[Ljava/lang/Object;"⟩
abbrev cJ7_copyOf_6403c : ByteArray := prog_31_method_120_code
def yJ7_copyOf_6403c : MethodName := ⟨RJ7, "copyOf", "([Ljava/lang/Object;ILjava/lang/Class;)[Ljava/lang/Object;"⟩
def RJx5ef63 : String := "java/util/Collection"
def TJx5ef63 : u_T := fun k => match k with
  | _ => ("", "", "", false)
def tyJx5ef63 : Nat → FieldType := fun k => match k with
  | _ => .int
abbrev wsJx5ef630 : List Cond := u_ws RJx5ef63 TJx5ef63 0
theorem nmJx5ef63 : ∀ a, a < 0 → ∀ b, b < 0 → a ≠ b → (TJx5ef63 a).2.1 ≠ (TJx5ef63 b).2.1 := by decide +kernel
theorem tyJx5ef63_ok : ∀ k, k < 0 → parseFieldDescriptor (TJx5ef63 k).2.2.1 = some (tyJx5ef63 k) := by decide +kernel
def RJx4d0d8 : String := "java/util/Iterator"
def TJx4d0d8 : u_T := fun k => match k with
  | _ => ("", "", "", false)
def tyJx4d0d8 : Nat → FieldType := fun k => match k with
  | _ => .int
abbrev wsJx4d0d80 : List Cond := u_ws RJx4d0d8 TJx4d0d8 0
theorem nmJx4d0d8 : ∀ a, a < 0 → ∀ b, b < 0 → a ≠ b → (TJx4d0d8 a).2.1 ≠ (TJx4d0d8 b).2.1 := by decide +kernel
theorem tyJx4d0d8_ok : ∀ k, k < 0 → parseFieldDescriptor (TJx4d0d8 k).2.2.1 = some (tyJx4d0d8 k) := by decide +kernel
def RJxbd725 : String := "java/util/List"
def TJxbd725 : u_T := fun k => match k with
  | _ => ("", "", "", false)
def tyJxbd725 : Nat → FieldType := fun k => match k with
  | _ => .int
abbrev wsJxbd7250 : List Cond := u_ws RJxbd725 TJxbd725 0
theorem nmJxbd725 : ∀ a, a < 0 → ∀ b, b < 0 → a ≠ b → (TJxbd725 a).2.1 ≠ (TJxbd725 b).2.1 := by decide +kernel
theorem tyJxbd725_ok : ∀ k, k < 0 → parseFieldDescriptor (TJxbd725 k).2.2.1 = some (tyJxbd725 k) := by decide +kernel
def RJ15 : String := "java/util/Objects"
def TJ15 : u_T := fun k => match k with
  | _ => ("", "", "", false)
def tyJ15 : Nat → FieldType := fun k => match k with
  | _ => .int
abbrev wsJ150 : List Cond := u_ws RJ15 TJ15 0
theorem nmJ15 : ∀ a, a < 0 → ∀ b, b < 0 → a ≠ b → (TJ15 a).2.1 ≠ (TJ15 b).2.1 := by decide +kernel
theorem tyJ15_ok : ∀ k, k < 0 → parseFieldDescriptor (TJ15 k).2.2.1 = some (tyJ15 k) := by decide +kernel
abbrev cJ15_checkIndex_7cf53 : ByteArray := prog_36_method_17_code
def yJ15_checkIndex_7cf53 : MethodName := ⟨RJ15, "checkIndex", "(II)I"⟩
def RJxf0a74 : String := "java/util/RandomAccess"
def TJxf0a74 : u_T := fun k => match k with
  | _ => ("", "", "", false)
def tyJxf0a74 : Nat → FieldType := fun k => match k with
  | _ => .int
abbrev wsJxf0a740 : List Cond := u_ws RJxf0a74 TJxf0a74 0
theorem nmJxf0a74 : ∀ a, a < 0 → ∀ b, b < 0 → a ≠ b → (TJxf0a74 a).2.1 ≠ (TJxf0a74 b).2.1 := by decide +kernel
theorem tyJxf0a74_ok : ∀ k, k < 0 → parseFieldDescriptor (TJxf0a74 k).2.2.1 = some (tyJxf0a74 k) := by decide +kernel
def RJxa66e6 : String := "java/util/SequencedCollection"
def TJxa66e6 : u_T := fun k => match k with
  | _ => ("", "", "", false)
def tyJxa66e6 : Nat → FieldType := fun k => match k with
  | _ => .int
abbrev wsJxa66e60 : List Cond := u_ws RJxa66e6 TJxa66e6 0
theorem nmJxa66e6 : ∀ a, a < 0 → ∀ b, b < 0 → a ≠ b → (TJxa66e6 a).2.1 ≠ (TJxa66e6 b).2.1 := by decide +kernel
theorem tyJxa66e6_ok : ∀ k, k < 0 → parseFieldDescriptor (TJxa66e6 k).2.2.1 = some (tyJxa66e6 k) := by decide +kernel
def RJ8 : String := "jdk/internal/util/ArraysSupport"
def TJ8 : u_T := fun k => match k with
  | _ => ("", "", "", false)
def tyJ8 : Nat → FieldType := fun k => match k with
  | _ => .int
abbrev wsJ80 : List Cond := u_ws RJ8 TJ8 0
theorem nmJ8 : ∀ a, a < 0 → ∀ b, b < 0 → a ≠ b → (TJ8 a).2.1 ≠ (TJ8 b).2.1 := by decide +kernel
theorem tyJ8_ok : ∀ k, k < 0 → parseFieldDescriptor (TJ8 k).2.2.1 = some (tyJ8 k) := by decide +kernel
abbrev cJ8_newLength_cabcc : ByteArray := prog_39_method_27_code
def yJ8_newLength_cabcc : MethodName := ⟨RJ8, "newLength", "(III)I"⟩
abbrev cJ8_hugeLength_7cf53 : ByteArray := prog_39_method_28_code
def yJ8_hugeLength_7cf53 : MethodName := ⟨RJ8, "hugeLength", "(II)I"⟩
def RJ3 : String := "jdk/internal/util/Preconditions"
def TJ3 : u_T := fun k => match k with
  | _ => ("", "", "", false)
def tyJ3 : Nat → FieldType := fun k => match k with
  | _ => .int
abbrev wsJ30 : List Cond := u_ws RJ3 TJ3 0
theorem nmJ3 : ∀ a, a < 0 → ∀ b, b < 0 → a ≠ b → (TJ3 a).2.1 ≠ (TJ3 b).2.1 := by decide +kernel
theorem tyJ3_ok : ∀ k, k < 0 → parseFieldDescriptor (TJ3 k).2.2.1 = some (tyJ3 k) := by decide +kernel
abbrev cJ3_checkIndex_8e157 : ByteArray := prog_40_method_11_code
def yJ3_checkIndex_8e157 : MethodName := ⟨RJ3, "checkIndex", "(IILjava/util/function/BiFunction;)I"⟩
def RL : String := "CutsetWorksLaw"
def TL : u_T := fun k => match k with
  | 0 => ("CutsetWorksLaw", "script", "[I", false)
  | 1 => ("CutsetWorksLaw", "at", "I", false)
  | 2 => ("CutsetWorksLaw", "seed", "I", false)
  | 3 => ("CutsetWorksLaw", "x", "LCutsetWorks;", true)
  | 4 => ("CutsetWorksLaw", "corners", "I", false)
  | _ => ("CutsetWorksLaw", "edges", "Ljava/util/ArrayList;", true)
def tyL : Nat → FieldType := fun k => match k with
  | 0 => .array .int
  | 1 => .int
  | 2 => .int
  | 3 => .object "CutsetWorks"
  | 4 => .int
  | _ => .object "java/util/ArrayList"
abbrev wsL0 : List Cond := u_ws RL TL 6
theorem nmL : ∀ a, a < 6 → ∀ b, b < 6 → a ≠ b → (TL a).2.1 ≠ (TL b).2.1 := by decide +kernel
theorem tyL_ok : ∀ k, k < 6 → parseFieldDescriptor (TL k).2.2.1 = some (tyL k) := by decide +kernel
abbrev cL_init : ByteArray := method_1_code
def yL_init : MethodName := ⟨RL, "<init>", "()V"⟩
abbrev cL_cell : ByteArray := method_2_code
def yL_cell : MethodName := ⟨RL, "cell", "([II)I"⟩
abbrev cL_draw : ByteArray := method_3_code
def yL_draw : MethodName := ⟨RL, "draw", "(I)I"⟩
abbrev cL_stirred : ByteArray := method_4_code
def yL_stirred : MethodName := ⟨RL, "stirred", "([I)I"⟩
abbrev cL_mixed : ByteArray := method_5_code
def yL_mixed : MethodName := ⟨RL, "mixed", "(II)I"⟩
abbrev cL_has : ByteArray := method_6_code
def yL_has : MethodName := ⟨RL, "has", "(II)Z"⟩
abbrev cL_netOn : ByteArray := method_7_code
def yL_netOn : MethodName := ⟨RL, "netOn", "()V"⟩
abbrev cL_leaving : ByteArray := method_8_code
def yL_leaving : MethodName := ⟨RL, "leaving", "([II)I"⟩
abbrev cL_isFlow : ByteArray := method_9_code
def yL_isFlow : MethodName := ⟨RL, "isFlow", "([IIII)Z"⟩
abbrev cL_out : ByteArray := method_10_code
def yL_out : MethodName := ⟨RL, "out", "(II)I"⟩
abbrev cL_into : ByteArray := method_11_code
def yL_into : MethodName := ⟨RL, "into", "(II)I"⟩
abbrev cL_isFilled : ByteArray := method_12_code
def yL_isFilled : MethodName := ⟨RL, "isFilled", "([II)Z"⟩
abbrev cL_flowSo : ByteArray := method_13_code
def yL_flowSo : MethodName := ⟨RL, "flowSo", "()Z"⟩
abbrev cL_pricesSo : ByteArray := method_14_code
def yL_pricesSo : MethodName := ⟨RL, "pricesSo", "([III)Z"⟩
abbrev cL_roundsSo : ByteArray := method_15_code
def yL_roundsSo : MethodName := ⟨RL, "roundsSo", "(III)Z"⟩
abbrev cL_waysSo : ByteArray := method_16_code
def yL_waysSo : MethodName := ⟨RL, "waysSo", "()Z"⟩
abbrev cL_demandsSo : ByteArray := method_17_code
def yL_demandsSo : MethodName := ⟨RL, "demandsSo", "()Z"⟩
abbrev cL_treeSo : ByteArray := method_18_code
def yL_treeSo : MethodName := ⟨RL, "treeSo", "()Z"⟩
abbrev cL_pairsSo : ByteArray := method_19_code
def yL_pairsSo : MethodName := ⟨RL, "pairsSo", "()Z"⟩
abbrev cL_othersSo : ByteArray := method_20_code
def yL_othersSo : MethodName := ⟨RL, "othersSo", "()Z"⟩
abbrev cL_isNear : ByteArray := method_21_code
def yL_isNear : MethodName := ⟨RL, "isNear", "(II)Z"⟩
abbrev cL_refusedSo : ByteArray := method_22_code
def yL_refusedSo : MethodName := ⟨RL, "refusedSo", "()Z"⟩
abbrev cL_holdsAll : ByteArray := method_23_code
def yL_holdsAll : MethodName := ⟨RL, "holdsAll", "([I)Z"⟩
abbrev cL_law : ByteArray := code
def yL_law : MethodName := ⟨RL, "law", "([I)Z"⟩
