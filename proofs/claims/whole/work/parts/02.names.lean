def RX0 : String := "NotLikeThem$Chance"
def TX0 : u_T := fun k => match k with
  | 0 => ("NotLikeThem$Chance", "town", "LNotLikeThem$Town;", true)
  | 1 => ("NotLikeThem$Chance", "draws", "[I", true)
  | 2 => ("NotLikeThem$Chance", "queue", "[I", true)
  | 3 => ("NotLikeThem$Chance", "now", "[J", true)
  | _ => ("NotLikeThem$Chance", "then", "[J", true)
def tyX0 : Nat → FieldType := fun k => match k with
  | 0 => .object "NotLikeThem$Town"
  | 1 => .array .int
  | 2 => .array .int
  | 3 => .array .long
  | _ => .array .long
abbrev wsX00 : List Cond := u_ws RX0 TX0 5
theorem nmX0 : ∀ a, a < 5 → ∀ b, b < 5 → a ≠ b → (TX0 a).2.1 ≠ (TX0 b).2.1 := by decide +kernel
theorem tyX0_ok : ∀ k, k < 5 → parseFieldDescriptor (TX0 k).2.2.1 = some (tyX0 k) := by decide +kernel
abbrev cX0_init : ByteArray := prog_2_method_1_code
def yX0_init : MethodName := ⟨RX0, "<init>", "(LNotLikeThem$Town;LNotLikeThem$Spare;)V"⟩
abbrev cX0_canReach : ByteArray := prog_2_method_2_code
def yX0_canReach : MethodName := ⟨RX0, "canReach", "(II)Z"⟩
abbrev cX0_restsFrom : ByteArray := prog_2_method_3_code
def yX0_restsFrom : MethodName := ⟨RX0, "restsFrom", "(I)I"⟩
abbrev cX0_fewestDraws : ByteArray := prog_2_method_4_code
def yX0_fewestDraws : MethodName := ⟨RX0, "fewestDraws", "(I)I"⟩
abbrev cX0_search : ByteArray := prog_2_method_5_code
def yX0_search : MethodName := ⟨RX0, "search", "(I[I)I"⟩
abbrev cX0_fraction : ByteArray := prog_2_method_6_code
def yX0_fraction : MethodName := ⟨RX0, "fraction", "(IIZ)J"⟩
abbrev cX0_drawOnce : ByteArray := prog_2_method_7_code
def yX0_drawOnce : MethodName := ⟨RX0, "drawOnce", "([II)V"⟩
abbrev cX0_handOn : ByteArray := prog_2_method_8_code
def yX0_handOn : MethodName := ⟨RX0, "handOn", "(II)V"⟩
abbrev cX0_commonDivisor : ByteArray := prog_2_method_9_code
def yX0_commonDivisor : MethodName := ⟨RX0, "commonDivisor", "(JJ)J"⟩
def RX1 : String := "NotLikeThem$Heat"
def TX1 : u_T := fun k => match k with
  | _ => ("NotLikeThem$Heat", "town", "LNotLikeThem$Town;", true)
def tyX1 : Nat → FieldType := fun k => match k with
  | _ => .object "NotLikeThem$Town"
abbrev wsX10 : List Cond := u_ws RX1 TX1 1
theorem nmX1 : ∀ a, a < 1 → ∀ b, b < 1 → a ≠ b → (TX1 a).2.1 ≠ (TX1 b).2.1 := by decide +kernel
theorem tyX1_ok : ∀ k, k < 1 → parseFieldDescriptor (TX1 k).2.2.1 = some (tyX1 k) := by decide +kernel
abbrev cX1_init : ByteArray := prog_3_method_1_code
def yX1_init : MethodName := ⟨RX1, "<init>", "(LNotLikeThem$Town;)V"⟩
abbrev cX1_isDefined : ByteArray := prog_3_method_2_code
def yX1_isDefined : MethodName := ⟨RX1, "isDefined", "()Z"⟩
abbrev cX1_isEvenPair : ByteArray := prog_3_method_3_code
def yX1_isEvenPair : MethodName := ⟨RX1, "isEvenPair", "(II)Z"⟩
abbrev cX1_of : ByteArray := prog_3_method_4_code
def yX1_of : MethodName := ⟨RX1, "of", "(I)I"⟩
abbrev cX1_ofPair : ByteArray := prog_3_method_5_code
def yX1_ofPair : MethodName := ⟨RX1, "ofPair", "(III)I"⟩
abbrev cX1_ofLean : ByteArray := prog_3_method_6_code
def yX1_ofLean : MethodName := ⟨RX1, "ofLean", "(II)I"⟩
def RX2 : String := "NotLikeThem$Picture"
def TX2 : u_T := fun k => match k with
  | 0 => ("NotLikeThem$Picture", "town", "LNotLikeThem$Town;", true)
  | 1 => ("NotLikeThem$Picture", "weeks", "[I", true)
  | _ => ("NotLikeThem$Picture", "size", "I", false)
def tyX2 : Nat → FieldType := fun k => match k with
  | 0 => .object "NotLikeThem$Town"
  | 1 => .array .int
  | _ => .int
abbrev wsX20 : List Cond := u_ws RX2 TX2 3
theorem nmX2 : ∀ a, a < 3 → ∀ b, b < 3 → a ≠ b → (TX2 a).2.1 ≠ (TX2 b).2.1 := by decide +kernel
theorem tyX2_ok : ∀ k, k < 3 → parseFieldDescriptor (TX2 k).2.2.1 = some (tyX2 k) := by decide +kernel
abbrev cX2_init : ByteArray := prog_4_method_1_code
def yX2_init : MethodName := ⟨RX2, "<init>", "(LNotLikeThem$Town;)V"⟩
abbrev cX2_size : ByteArray := prog_4_method_2_code
def yX2_size : MethodName := ⟨RX2, "size", "()I"⟩
abbrev cX2_isFull : ByteArray := prog_4_method_3_code
def yX2_isFull : MethodName := ⟨RX2, "isFull", "()Z"⟩
abbrev cX2_add : ByteArray := prog_4_method_4_code
def yX2_add : MethodName := ⟨RX2, "add", "(I)V"⟩
abbrev cX2_clear : ByteArray := prog_4_method_5_code
def yX2_clear : MethodName := ⟨RX2, "clear", "()V"⟩
abbrev cX2_kindsOf : ByteArray := prog_4_method_6_code
def yX2_kindsOf : MethodName := ⟨RX2, "kindsOf", "(I)I"⟩
abbrev cX2_explanations : ByteArray := prog_4_method_7_code
def yX2_explanations : MethodName := ⟨RX2, "explanations", "()J"⟩
abbrev cX2_settleKinds : ByteArray := prog_4_method_8_code
def yX2_settleKinds : MethodName := ⟨RX2, "settleKinds", "()I"⟩
abbrev cX2_leastKind : ByteArray := prog_4_method_9_code
def yX2_leastKind : MethodName := ⟨RX2, "leastKind", "(I)I"⟩
def RX3 : String := "NotLikeThem$Rests"
def TX3 : u_T := fun k => match k with
  | _ => ("NotLikeThem$Rests", "town", "LNotLikeThem$Town;", true)
def tyX3 : Nat → FieldType := fun k => match k with
  | _ => .object "NotLikeThem$Town"
abbrev wsX30 : List Cond := u_ws RX3 TX3 1
theorem nmX3 : ∀ a, a < 1 → ∀ b, b < 1 → a ≠ b → (TX3 a).2.1 ≠ (TX3 b).2.1 := by decide +kernel
theorem tyX3_ok : ∀ k, k < 1 → parseFieldDescriptor (TX3 k).2.2.1 = some (tyX3 k) := by decide +kernel
abbrev cX3_init : ByteArray := prog_5_method_1_code
def yX3_init : MethodName := ⟨RX3, "<init>", "(LNotLikeThem$Town;)V"⟩
abbrev cX3_howMany : ByteArray := prog_5_method_2_code
def yX3_howMany : MethodName := ⟨RX3, "howMany", "()I"⟩
abbrev cX3_dressOf : ByteArray := prog_5_method_3_code
def yX3_dressOf : MethodName := ⟨RX3, "dressOf", "(I)I"⟩
abbrev cX3_fewestRestless : ByteArray := prog_5_method_4_code
def yX3_fewestRestless : MethodName := ⟨RX3, "fewestRestless", "()I"⟩
abbrev cX3_leastOfFewestRestless : ByteArray := prog_5_method_5_code
def yX3_leastOfFewestRestless : MethodName := ⟨RX3, "leastOfFewestRestless", "()I"⟩
def RX4 : String := "NotLikeThem$Rounds"
def TX4 : u_T := fun k => match k with
  | 0 => ("NotLikeThem$Rounds", "town", "LNotLikeThem$Town;", true)
  | 1 => ("NotLikeThem$Rounds", "found", "[I", true)
  | 2 => ("NotLikeThem$Rounds", "low", "[I", true)
  | 3 => ("NotLikeThem$Rounds", "path", "[I", true)
  | 4 => ("NotLikeThem$Rounds", "open", "[I", true)
  | 5 => ("NotLikeThem$Rounds", "left", "[I", true)
  | 6 => ("NotLikeThem$Rounds", "clock", "I", false)
  | 7 => ("NotLikeThem$Rounds", "pathSize", "I", false)
  | _ => ("NotLikeThem$Rounds", "openSize", "I", false)
def tyX4 : Nat → FieldType := fun k => match k with
  | 0 => .object "NotLikeThem$Town"
  | 1 => .array .int
  | 2 => .array .int
  | 3 => .array .int
  | 4 => .array .int
  | 5 => .array .int
  | 6 => .int
  | 7 => .int
  | _ => .int
abbrev wsX40 : List Cond := u_ws RX4 TX4 9
theorem nmX4 : ∀ a, a < 9 → ∀ b, b < 9 → a ≠ b → (TX4 a).2.1 ≠ (TX4 b).2.1 := by decide +kernel
theorem tyX4_ok : ∀ k, k < 9 → parseFieldDescriptor (TX4 k).2.2.1 = some (tyX4 k) := by decide +kernel
abbrev cX4_init : ByteArray := prog_6_method_1_code
def yX4_init : MethodName := ⟨RX4, "<init>", "(LNotLikeThem$Town;LNotLikeThem$Spare;)V"⟩
abbrev cX4_leastDress : ByteArray := prog_6_method_2_code
def yX4_leastDress : MethodName := ⟨RX4, "leastDress", "()I"⟩
abbrev cX4_searchFrom : ByteArray := prog_6_method_3_code
def yX4_searchFrom : MethodName := ⟨RX4, "searchFrom", "(II)I"⟩
abbrev cX4_enter : ByteArray := prog_6_method_4_code
def yX4_enter : MethodName := ⟨RX4, "enter", "(I)V"⟩
abbrev cX4_followOne : ByteArray := prog_6_method_5_code
def yX4_followOne : MethodName := ⟨RX4, "followOne", "(I)V"⟩
abbrev cX4_goBack : ByteArray := prog_6_method_6_code
def yX4_goBack : MethodName := ⟨RX4, "goBack", "(II)I"⟩
abbrev cX4_close : ByteArray := prog_6_method_7_code
def yX4_close : MethodName := ⟨RX4, "close", "(II)I"⟩
def RX5 : String := "NotLikeThem$Shop"
def TX5 : u_T := fun k => match k with
  | 0 => ("NotLikeThem$Shop", "town", "LNotLikeThem$Town;", true)
  | 1 => ("NotLikeThem$Shop", "walk", "LNotLikeThem$Walk;", true)
  | 2 => ("NotLikeThem$Shop", "dressing", "[I", true)
  | _ => ("NotLikeThem$Shop", "asking", "[I", true)
def tyX5 : Nat → FieldType := fun k => match k with
  | 0 => .object "NotLikeThem$Town"
  | 1 => .object "NotLikeThem$Walk"
  | 2 => .array .int
  | _ => .array .int
abbrev wsX50 : List Cond := u_ws RX5 TX5 4
theorem nmX5 : ∀ a, a < 4 → ∀ b, b < 4 → a ≠ b → (TX5 a).2.1 ≠ (TX5 b).2.1 := by decide +kernel
theorem tyX5_ok : ∀ k, k < 4 → parseFieldDescriptor (TX5 k).2.2.1 = some (tyX5 k) := by decide +kernel
abbrev cX5_init : ByteArray := prog_7_method_1_code
def yX5_init : MethodName := ⟨RX5, "<init>", "(LNotLikeThem$Town;LNotLikeThem$Walk;LNotLikeThem$Spare;)V"⟩
abbrev cX5_askedFrom : ByteArray := prog_7_method_2_code
def yX5_askedFrom : MethodName := ⟨RX5, "askedFrom", "(III)I"⟩
abbrev cX5_gainBy : ByteArray := prog_7_method_3_code
def yX5_gainBy : MethodName := ⟨RX5, "gainBy", "(IIIII)I"⟩
abbrev cX5_bestStock : ByteArray := prog_7_method_4_code
def yX5_bestStock : MethodName := ⟨RX5, "bestStock", "(IIII)I"⟩
abbrev cX5_tally : ByteArray := prog_7_method_5_code
def yX5_tally : MethodName := ⟨RX5, "tally", "(II)V"⟩
def RX6 : String := "NotLikeThem$Spare"
def TX6 : u_T := fun k => match k with
  | 0 => ("NotLikeThem$Spare", "a", "[I", true)
  | 1 => ("NotLikeThem$Spare", "b", "[I", true)
  | 2 => ("NotLikeThem$Spare", "c", "[I", true)
  | 3 => ("NotLikeThem$Spare", "d", "[I", true)
  | _ => ("NotLikeThem$Spare", "e", "[I", true)
def tyX6 : Nat → FieldType := fun k => match k with
  | 0 => .array .int
  | 1 => .array .int
  | 2 => .array .int
  | 3 => .array .int
  | _ => .array .int
abbrev wsX60 : List Cond := u_ws RX6 TX6 5
theorem nmX6 : ∀ a, a < 5 → ∀ b, b < 5 → a ≠ b → (TX6 a).2.1 ≠ (TX6 b).2.1 := by decide +kernel
theorem tyX6_ok : ∀ k, k < 5 → parseFieldDescriptor (TX6 k).2.2.1 = some (tyX6 k) := by decide +kernel
abbrev cX6_init : ByteArray := prog_8_method_1_code
def yX6_init : MethodName := ⟨RX6, "<init>", "()V"⟩
def RX7 : String := "NotLikeThem$Town"
def TX7 : u_T := fun k => match k with
  | 0 => ("NotLikeThem$Town", "weights", "[[I", true)
  | 1 => ("NotLikeThem$Town", "kinds", "[I", true)
  | 2 => ("NotLikeThem$Town", "leans", "[I", true)
  | 3 => ("NotLikeThem$Town", "sums", "[I", true)
  | 4 => ("NotLikeThem$Town", "restless", "[I", true)
  | 5 => ("NotLikeThem$Town", "size", "I", false)
  | 6 => ("NotLikeThem$Town", "stale", "I", false)
  | _ => ("NotLikeThem$Town", "version", "I", false)
def tyX7 : Nat → FieldType := fun k => match k with
  | 0 => .array (.array .int)
  | 1 => .array .int
  | 2 => .array .int
  | 3 => .array .int
  | 4 => .array .int
  | 5 => .int
  | 6 => .int
  | _ => .int
abbrev wsX70 : List Cond := u_ws RX7 TX7 8
theorem nmX7 : ∀ a, a < 8 → ∀ b, b < 8 → a ≠ b → (TX7 a).2.1 ≠ (TX7 b).2.1 := by decide +kernel
theorem tyX7_ok : ∀ k, k < 8 → parseFieldDescriptor (TX7 k).2.2.1 = some (tyX7 k) := by decide +kernel
abbrev cX7_init : ByteArray := prog_9_method_1_code
def yX7_init : MethodName := ⟨RX7, "<init>", "()V"⟩
abbrev cX7_size : ByteArray := prog_9_method_2_code
def yX7_size : MethodName := ⟨RX7, "size", "()I"⟩
abbrev cX7_dresses : ByteArray := prog_9_method_3_code
def yX7_dresses : MethodName := ⟨RX7, "dresses", "()I"⟩
abbrev cX7_version : ByteArray := prog_9_method_4_code
def yX7_version : MethodName := ⟨RX7, "version", "()I"⟩
abbrev cX7_has : ByteArray := prog_9_method_5_code
def yX7_has : MethodName := ⟨RX7, "has", "(I)Z"⟩
abbrev cX7_isDress : ByteArray := prog_9_method_6_code
def yX7_isDress : MethodName := ⟨RX7, "isDress", "(I)Z"⟩
abbrev cX7_startAnew : ByteArray := prog_9_method_7_code
def yX7_startAnew : MethodName := ⟨RX7, "startAnew", "(I)V"⟩
abbrev cX7_weight : ByteArray := prog_9_method_8_code
def yX7_weight : MethodName := ⟨RX7, "weight", "(II)I"⟩
abbrev cX7_setWeight : ByteArray := prog_9_method_9_code
def yX7_setWeight : MethodName := ⟨RX7, "setWeight", "(III)V"⟩
abbrev cX7_kind : ByteArray := prog_9_method_10_code
def yX7_kind : MethodName := ⟨RX7, "kind", "(I)I"⟩
abbrev cX7_setKind : ByteArray := prog_9_method_11_code
def yX7_setKind : MethodName := ⟨RX7, "setKind", "(II)V"⟩
abbrev cX7_lean : ByteArray := prog_9_method_12_code
def yX7_lean : MethodName := ⟨RX7, "lean", "(I)I"⟩
abbrev cX7_setLean : ByteArray := prog_9_method_13_code
def yX7_setLean : MethodName := ⟨RX7, "setLean", "(II)V"⟩
abbrev cX7_changed : ByteArray := prog_9_method_14_code
def yX7_changed : MethodName := ⟨RX7, "changed", "(I)V"⟩
abbrev cX7_seenBy : ByteArray := prog_9_method_15_code
def yX7_seenBy : MethodName := ⟨RX7, "seenBy", "(I)I"⟩
abbrev cX7_seeing : ByteArray := prog_9_method_16_code
def yX7_seeing : MethodName := ⟨RX7, "seeing", "(I)I"⟩
abbrev cX7_ties : ByteArray := prog_9_method_17_code
def yX7_ties : MethodName := ⟨RX7, "ties", "()I"⟩
abbrev cX7_countKind : ByteArray := prog_9_method_18_code
def yX7_countKind : MethodName := ⟨RX7, "countKind", "(I)I"⟩
abbrev cX7_sumOf : ByteArray := prog_9_method_19_code
def yX7_sumOf : MethodName := ⟨RX7, "sumOf", "(II)I"⟩
abbrev cX7_worn : ByteArray := prog_9_method_20_code
def yX7_worn : MethodName := ⟨RX7, "worn", "(II)I"⟩
abbrev cX7_nextOf : ByteArray := prog_9_method_21_code
def yX7_nextOf : MethodName := ⟨RX7, "nextOf", "(III)I"⟩
abbrev cX7_isCalm : ByteArray := prog_9_method_22_code
def yX7_isCalm : MethodName := ⟨RX7, "isCalm", "(II)Z"⟩
abbrev cX7_restlessIn : ByteArray := prog_9_method_23_code
def yX7_restlessIn : MethodName := ⟨RX7, "restlessIn", "(I)I"⟩
abbrev cX7_restless : ByteArray := prog_9_method_24_code
def yX7_restless : MethodName := ⟨RX7, "restless", "()[I"⟩
abbrev cX7_renew : ByteArray := prog_9_method_25_code
def yX7_renew : MethodName := ⟨RX7, "renew", "(I)V"⟩
abbrev cX7_fillSums : ByteArray := prog_9_method_26_code
def yX7_fillSums : MethodName := ⟨RX7, "fillSums", "(I)V"⟩
def RX8 : String := "NotLikeThem$Walk"
def TX8 : u_T := fun k => match k with
  | 0 => ("NotLikeThem$Walk", "town", "LNotLikeThem$Town;", true)
  | 1 => ("NotLikeThem$Walk", "step", "[I", true)
  | 2 => ("NotLikeThem$Walk", "ringOf", "[I", true)
  | 3 => ("NotLikeThem$Walk", "tail", "[I", true)
  | 4 => ("NotLikeThem$Walk", "queue", "[I", true)
  | 5 => ("NotLikeThem$Walk", "stepWay", "I", false)
  | 6 => ("NotLikeThem$Walk", "stepVersion", "I", false)
  | 7 => ("NotLikeThem$Walk", "ringWay", "I", false)
  | _ => ("NotLikeThem$Walk", "ringVersion", "I", false)
def tyX8 : Nat → FieldType := fun k => match k with
  | 0 => .object "NotLikeThem$Town"
  | 1 => .array .int
  | 2 => .array .int
  | 3 => .array .int
  | 4 => .array .int
  | 5 => .int
  | 6 => .int
  | 7 => .int
  | _ => .int
abbrev wsX80 : List Cond := u_ws RX8 TX8 9
theorem nmX8 : ∀ a, a < 9 → ∀ b, b < 9 → a ≠ b → (TX8 a).2.1 ≠ (TX8 b).2.1 := by decide +kernel
theorem tyX8_ok : ∀ k, k < 9 → parseFieldDescriptor (TX8 k).2.2.1 = some (tyX8 k) := by decide +kernel
abbrev cX8_init : ByteArray := prog_10_method_1_code
def yX8_init : MethodName := ⟨RX8, "<init>", "(LNotLikeThem$Town;)V"⟩
abbrev cX8_stepsBy : ByteArray := prog_10_method_2_code
def yX8_stepsBy : MethodName := ⟨RX8, "stepsBy", "(I)[I"⟩
abbrev cX8_oneByOne : ByteArray := prog_10_method_3_code
def yX8_oneByOne : MethodName := ⟨RX8, "oneByOne", "([II)I"⟩
abbrev cX8_behind : ByteArray := prog_10_method_4_code
def yX8_behind : MethodName := ⟨RX8, "behind", "(III)I"⟩
abbrev cX8_stepsToRing : ByteArray := prog_10_method_5_code
def yX8_stepsToRing : MethodName := ⟨RX8, "stepsToRing", "(II)I"⟩
abbrev cX8_entered : ByteArray := prog_10_method_6_code
def yX8_entered : MethodName := ⟨RX8, "entered", "(II)I"⟩
abbrev cX8_ringCount : ByteArray := prog_10_method_7_code
def yX8_ringCount : MethodName := ⟨RX8, "ringCount", "(I)I"⟩
abbrev cX8_leastOfRing : ByteArray := prog_10_method_8_code
def yX8_leastOfRing : MethodName := ⟨RX8, "leastOfRing", "(II)I"⟩
abbrev cX8_lengthOf : ByteArray := prog_10_method_9_code
def yX8_lengthOf : MethodName := ⟨RX8, "lengthOf", "(II)I"⟩
abbrev cX8_drawnTo : ByteArray := prog_10_method_10_code
def yX8_drawnTo : MethodName := ⟨RX8, "drawnTo", "(II)I"⟩
abbrev cX8_farthestFrom : ByteArray := prog_10_method_11_code
def yX8_farthestFrom : MethodName := ⟨RX8, "farthestFrom", "(II)I"⟩
abbrev cX8_greatestLength : ByteArray := prog_10_method_12_code
def yX8_greatestLength : MethodName := ⟨RX8, "greatestLength", "(I)I"⟩
abbrev cX8_findRings : ByteArray := prog_10_method_13_code
def yX8_findRings : MethodName := ⟨RX8, "findRings", "(I)V"⟩
abbrev cX8_takeOff : ByteArray := prog_10_method_14_code
def yX8_takeOff : MethodName := ⟨RX8, "takeOff", "(I)I"⟩
abbrev cX8_goRound : ByteArray := prog_10_method_15_code
def yX8_goRound : MethodName := ⟨RX8, "goRound", "(II)V"⟩
def RX9 : String := "NotLikeThem"
def TX9 : u_T := fun k => match k with
  | 0 => ("NotLikeThem", "town", "LNotLikeThem$Town;", true)
  | 1 => ("NotLikeThem", "warmth", "LNotLikeThem$Heat;", true)
  | 2 => ("NotLikeThem", "calmDresses", "LNotLikeThem$Rests;", true)
  | 3 => ("NotLikeThem", "walk", "LNotLikeThem$Walk;", true)
  | 4 => ("NotLikeThem", "rounds", "LNotLikeThem$Rounds;", true)
  | 5 => ("NotLikeThem", "chance", "LNotLikeThem$Chance;", true)
  | 6 => ("NotLikeThem", "picture", "LNotLikeThem$Picture;", true)
  | _ => ("NotLikeThem", "shop", "LNotLikeThem$Shop;", true)
def tyX9 : Nat → FieldType := fun k => match k with
  | 0 => .object "NotLikeThem$Town"
  | 1 => .object "NotLikeThem$Heat"
  | 2 => .object "NotLikeThem$Rests"
  | 3 => .object "NotLikeThem$Walk"
  | 4 => .object "NotLikeThem$Rounds"
  | 5 => .object "NotLikeThem$Chance"
  | 6 => .object "NotLikeThem$Picture"
  | _ => .object "NotLikeThem$Shop"
abbrev wsX90 : List Cond := u_ws RX9 TX9 8
theorem nmX9 : ∀ a, a < 8 → ∀ b, b < 8 → a ≠ b → (TX9 a).2.1 ≠ (TX9 b).2.1 := by decide +kernel
theorem tyX9_ok : ∀ k, k < 8 → parseFieldDescriptor (TX9 k).2.2.1 = some (tyX9 k) := by decide +kernel
abbrev cX9_init : ByteArray := prog_1_method_1_code
def yX9_init : MethodName := ⟨RX9, "<init>", "()V"⟩
abbrev cX9_people : ByteArray := prog_1_method_2_code
def yX9_people : MethodName := ⟨RX9, "people", "(I)I"⟩
abbrev cX9_tie : ByteArray := prog_1_method_3_code
def yX9_tie : MethodName := ⟨RX9, "tie", "(III)I"⟩
abbrev cX9_set : ByteArray := prog_1_method_4_code
def yX9_set : MethodName := ⟨RX9, "set", "(III)I"⟩
abbrev cX9_about : ByteArray := prog_1_method_5_code
def yX9_about : MethodName := ⟨RX9, "about", "(II)I"⟩
abbrev cX9_sees : ByteArray := prog_1_method_6_code
def yX9_sees : MethodName := ⟨RX9, "sees", "(II)I"⟩
abbrev cX9_sum : ByteArray := prog_1_method_7_code
def yX9_sum : MethodName := ⟨RX9, "sum", "(II)I"⟩
abbrev cX9_calm : ByteArray := prog_1_method_8_code
def yX9_calm : MethodName := ⟨RX9, "calm", "(I)I"⟩
abbrev cX9_after : ByteArray := prog_1_method_9_code
def yX9_after : MethodName := ⟨RX9, "after", "(III)I"⟩
abbrev cX9_run : ByteArray := prog_1_method_10_code
def yX9_run : MethodName := ⟨RX9, "run", "(III)I"⟩
abbrev cX9_rings : ByteArray := prog_1_method_11_code
def yX9_rings : MethodName := ⟨RX9, "rings", "(I)I"⟩
abbrev cX9_ring : ByteArray := prog_1_method_12_code
def yX9_ring : MethodName := ⟨RX9, "ring", "(III)I"⟩
abbrev cX9_longest : ByteArray := prog_1_method_13_code
def yX9_longest : MethodName := ⟨RX9, "longest", "(I)I"⟩
abbrev cX9_rests : ByteArray := prog_1_method_14_code
def yX9_rests : MethodName := ⟨RX9, "rests", "()I"⟩
abbrev cX9_rest : ByteArray := prog_1_method_15_code
def yX9_rest : MethodName := ⟨RX9, "rest", "(I)I"⟩
abbrev cX9_even : ByteArray := prog_1_method_16_code
def yX9_even : MethodName := ⟨RX9, "even", "()I"⟩
abbrev cX9_heat : ByteArray := prog_1_method_17_code
def yX9_heat : MethodName := ⟨RX9, "heat", "(I)I"⟩
abbrev cX9_lone : ByteArray := prog_1_method_18_code
def yX9_lone : MethodName := ⟨RX9, "lone", "(II)I"⟩
abbrev cX9_settled : ByteArray := prog_1_method_19_code
def yX9_settled : MethodName := ⟨RX9, "settled", "()I"⟩
abbrev cX9_witness : ByteArray := prog_1_method_20_code
def yX9_witness : MethodName := ⟨RX9, "witness", "()I"⟩
abbrev cX9_turn : ByteArray := prog_1_method_21_code
def yX9_turn : MethodName := ⟨RX9, "turn", "()I"⟩
abbrev cX9_turned : ByteArray := prog_1_method_22_code
def yX9_turned : MethodName := ⟨RX9, "turned", "()I"⟩
abbrev cX9_hold : ByteArray := prog_1_method_23_code
def yX9_hold : MethodName := ⟨RX9, "hold", "(Z)I"⟩
abbrev cX9_may : ByteArray := prog_1_method_24_code
def yX9_may : MethodName := ⟨RX9, "may", "(II)I"⟩
abbrev cX9_mays : ByteArray := prog_1_method_25_code
def yX9_mays : MethodName := ⟨RX9, "mays", "(I)I"⟩
abbrev cX9_soon : ByteArray := prog_1_method_26_code
def yX9_soon : MethodName := ⟨RX9, "soon", "(I)I"⟩
abbrev cX9_likely : ByteArray := prog_1_method_27_code
def yX9_likely : MethodName := ⟨RX9, "likely", "(IIZ)J"⟩
abbrev cX9_week : ByteArray := prog_1_method_28_code
def yX9_week : MethodName := ⟨RX9, "week", "(I)I"⟩
abbrev cX9_wipe : ByteArray := prog_1_method_29_code
def yX9_wipe : MethodName := ⟨RX9, "wipe", "()I"⟩
abbrev cX9_maybe : ByteArray := prog_1_method_30_code
def yX9_maybe : MethodName := ⟨RX9, "maybe", "(I)I"⟩
abbrev cX9_ways : ByteArray := prog_1_method_31_code
def yX9_ways : MethodName := ⟨RX9, "ways", "()J"⟩
abbrev cX9_take : ByteArray := prog_1_method_32_code
def yX9_take : MethodName := ⟨RX9, "take", "()I"⟩
abbrev cX9_asked : ByteArray := prog_1_method_33_code
def yX9_asked : MethodName := ⟨RX9, "asked", "(III)I"⟩
abbrev cX9_gain : ByteArray := prog_1_method_34_code
def yX9_gain : MethodName := ⟨RX9, "gain", "(IIIII)I"⟩
abbrev cX9_order : ByteArray := prog_1_method_35_code
def yX9_order : MethodName := ⟨RX9, "order", "(IIII)I"⟩
abbrev cX9_count : ByteArray := prog_1_method_36_code
def yX9_count : MethodName := ⟨RX9, "count", "(I)I"⟩
abbrev cX9_within : ByteArray := prog_1_method_37_code
def yX9_within : MethodName := ⟨RX9, "within", "(III)Z"⟩
abbrev cX9_isWay : ByteArray := prog_1_method_38_code
def yX9_isWay : MethodName := ⟨RX9, "isWay", "(I)Z"⟩
abbrev cX9_isShopRun : ByteArray := prog_1_method_39_code
def yX9_isShopRun : MethodName := ⟨RX9, "isShopRun", "(I)Z"⟩
abbrev cX9_isMoney : ByteArray := prog_1_method_40_code
def yX9_isMoney : MethodName := ⟨RX9, "isMoney", "(I)Z"⟩
def RX10 : String := "NotLikeThemModel"
def TX10 : u_T := fun k => match k with
  | 0 => ("NotLikeThemModel", "people", "I", false)
  | 1 => ("NotLikeThemModel", "weight", "[I", true)
  | 2 => ("NotLikeThemModel", "kind", "[I", true)
  | 3 => ("NotLikeThemModel", "lean", "[I", true)
  | 4 => ("NotLikeThemModel", "leads", "[I", true)
  | 5 => ("NotLikeThemModel", "when", "[I", true)
  | 6 => ("NotLikeThemModel", "entered", "I", false)
  | 7 => ("NotLikeThemModel", "tail", "I", false)
  | 8 => ("NotLikeThemModel", "length", "I", false)
  | 9 => ("NotLikeThemModel", "draws", "[I", true)
  | 10 => ("NotLikeThemModel", "longs", "[I", true)
  | 11 => ("NotLikeThemModel", "most", "[I", true)
  | 12 => ("NotLikeThemModel", "far", "[I", true)
  | 13 => ("NotLikeThemModel", "queue", "[I", true)
  | 14 => ("NotLikeThemModel", "calms", "[I", true)
  | 15 => ("NotLikeThemModel", "met", "I", false)
  | 16 => ("NotLikeThemModel", "chance", "[J", true)
  | 17 => ("NotLikeThemModel", "then", "[J", true)
  | 18 => ("NotLikeThemModel", "weeks", "I", false)
  | 19 => ("NotLikeThemModel", "week", "[I", true)
  | _ => ("NotLikeThemModel", "asks", "[I", true)
def tyX10 : Nat → FieldType := fun k => match k with
  | 0 => .int
  | 1 => .array .int
  | 2 => .array .int
  | 3 => .array .int
  | 4 => .array .int
  | 5 => .array .int
  | 6 => .int
  | 7 => .int
  | 8 => .int
  | 9 => .array .int
  | 10 => .array .int
  | 11 => .array .int
  | 12 => .array .int
  | 13 => .array .int
  | 14 => .array .int
  | 15 => .int
  | 16 => .array .long
  | 17 => .array .long
  | 18 => .int
  | 19 => .array .int
  | _ => .array .int
abbrev wsX100 : List Cond := u_ws RX10 TX10 21
theorem nmX10 : ∀ a, a < 21 → ∀ b, b < 21 → a ≠ b → (TX10 a).2.1 ≠ (TX10 b).2.1 := by decide +kernel
theorem tyX10_ok : ∀ k, k < 21 → parseFieldDescriptor (TX10 k).2.2.1 = some (tyX10 k) := by decide +kernel
abbrev cX10_init : ByteArray := prog_12_method_1_code
def yX10_init : MethodName := ⟨RX10, "<init>", "()V"⟩
abbrev cX10_in : ByteArray := prog_12_method_3_code
def yX10_in : MethodName := ⟨RX10, "in", "(JJJ)Z"⟩
abbrev cX10_ones : ByteArray := prog_12_method_4_code
def yX10_ones : MethodName := ⟨RX10, "ones", "(I)I"⟩
abbrev cX10_isPerson : ByteArray := prog_12_method_5_code
def yX10_isPerson : MethodName := ⟨RX10, "isPerson", "(I)Z"⟩
abbrev cX10_isDress : ByteArray := prog_12_method_6_code
def yX10_isDress : MethodName := ⟨RX10, "isDress", "(I)Z"⟩
abbrev cX10_isWay : ByteArray := prog_12_method_7_code
def yX10_isWay : MethodName := ⟨RX10, "isWay", "(I)Z"⟩
abbrev cX10_people : ByteArray := prog_12_method_8_code
def yX10_people : MethodName := ⟨RX10, "people", "(I)I"⟩
abbrev cX10_tie : ByteArray := prog_12_method_9_code
def yX10_tie : MethodName := ⟨RX10, "tie", "(III)I"⟩
abbrev cX10_set : ByteArray := prog_12_method_10_code
def yX10_set : MethodName := ⟨RX10, "set", "(III)I"⟩
abbrev cX10_about : ByteArray := prog_12_method_11_code
def yX10_about : MethodName := ⟨RX10, "about", "(II)I"⟩
abbrev cX10_sees : ByteArray := prog_12_method_12_code
def yX10_sees : MethodName := ⟨RX10, "sees", "(II)I"⟩
abbrev cX10_sumOf : ByteArray := prog_12_method_13_code
def yX10_sumOf : MethodName := ⟨RX10, "sumOf", "(II)I"⟩
abbrev cX10_nextOf : ByteArray := prog_12_method_14_code
def yX10_nextOf : MethodName := ⟨RX10, "nextOf", "(III)I"⟩
abbrev cX10_with : ByteArray := prog_12_method_15_code
def yX10_with : MethodName := ⟨RX10, "with", "(III)I"⟩
abbrev cX10_calmOf : ByteArray := prog_12_method_16_code
def yX10_calmOf : MethodName := ⟨RX10, "calmOf", "(I)I"⟩
abbrev cX10_all : ByteArray := prog_12_method_17_code
def yX10_all : MethodName := ⟨RX10, "all", "()I"⟩
abbrev cX10_stepFrom : ByteArray := prog_12_method_18_code
def yX10_stepFrom : MethodName := ⟨RX10, "stepFrom", "(II)I"⟩
abbrev cX10_sum : ByteArray := prog_12_method_19_code
def yX10_sum : MethodName := ⟨RX10, "sum", "(II)I"⟩
abbrev cX10_calm : ByteArray := prog_12_method_20_code
def yX10_calm : MethodName := ⟨RX10, "calm", "(I)I"⟩
abbrev cX10_after : ByteArray := prog_12_method_21_code
def yX10_after : MethodName := ⟨RX10, "after", "(III)I"⟩
abbrev cX10_layLeads : ByteArray := prog_12_method_22_code
def yX10_layLeads : MethodName := ⟨RX10, "layLeads", "(I)V"⟩
abbrev cX10_layRun : ByteArray := prog_12_method_23_code
def yX10_layRun : MethodName := ⟨RX10, "layRun", "(I)V"⟩
abbrev cX10_run : ByteArray := prog_12_method_24_code
def yX10_run : MethodName := ⟨RX10, "run", "(III)I"⟩
abbrev cX10_leastOfRing : ByteArray := prog_12_method_25_code
def yX10_leastOfRing : MethodName := ⟨RX10, "leastOfRing", "()I"⟩
abbrev cX10_layRings : ByteArray := prog_12_method_26_code
def yX10_layRings : MethodName := ⟨RX10, "layRings", "(I)V"⟩
abbrev cX10_rings : ByteArray := prog_12_method_27_code
def yX10_rings : MethodName := ⟨RX10, "rings", "(I)I"⟩
abbrev cX10_ring : ByteArray := prog_12_method_28_code
def yX10_ring : MethodName := ⟨RX10, "ring", "(III)I"⟩
abbrev cX10_longest : ByteArray := prog_12_method_29_code
def yX10_longest : MethodName := ⟨RX10, "longest", "(I)I"⟩
abbrev cX10_isRest : ByteArray := prog_12_method_30_code
def yX10_isRest : MethodName := ⟨RX10, "isRest", "(I)Z"⟩
abbrev cX10_rests : ByteArray := prog_12_method_31_code
def yX10_rests : MethodName := ⟨RX10, "rests", "()I"⟩
abbrev cX10_restOf : ByteArray := prog_12_method_32_code
def yX10_restOf : MethodName := ⟨RX10, "restOf", "(I)I"⟩
abbrev cX10_rest : ByteArray := prog_12_method_33_code
def yX10_rest : MethodName := ⟨RX10, "rest", "(I)I"⟩
abbrev cX10_isEven : ByteArray := prog_12_method_34_code
def yX10_isEven : MethodName := ⟨RX10, "isEven", "()Z"⟩
abbrev cX10_even : ByteArray := prog_12_method_35_code
def yX10_even : MethodName := ⟨RX10, "even", "()I"⟩
abbrev cX10_heat : ByteArray := prog_12_method_36_code
def yX10_heat : MethodName := ⟨RX10, "heat", "(I)I"⟩
abbrev cX10_loneOf : ByteArray := prog_12_method_37_code
def yX10_loneOf : MethodName := ⟨RX10, "loneOf", "(II)I"⟩
abbrev cX10_lone : ByteArray := prog_12_method_38_code
def yX10_lone : MethodName := ⟨RX10, "lone", "(II)I"⟩
abbrev cX10_layCalms : ByteArray := prog_12_method_39_code
def yX10_layCalms : MethodName := ⟨RX10, "layCalms", "()V"⟩
abbrev cX10_layFar : ByteArray := prog_12_method_40_code
def yX10_layFar : MethodName := ⟨RX10, "layFar", "(I)V"⟩
abbrev cX10_comesBack : ByteArray := prog_12_method_41_code
def yX10_comesBack : MethodName := ⟨RX10, "comesBack", "(I)Z"⟩
abbrev cX10_witnessNow : ByteArray := prog_12_method_42_code
def yX10_witnessNow : MethodName := ⟨RX10, "witnessNow", "()I"⟩
abbrev cX10_settled : ByteArray := prog_12_method_43_code
def yX10_settled : MethodName := ⟨RX10, "settled", "()I"⟩
abbrev cX10_witness : ByteArray := prog_12_method_44_code
def yX10_witness : MethodName := ⟨RX10, "witness", "()I"⟩
abbrev cX10_turnedNow : ByteArray := prog_12_method_45_code
def yX10_turnedNow : MethodName := ⟨RX10, "turnedNow", "()I"⟩
abbrev cX10_turn : ByteArray := prog_12_method_46_code
def yX10_turn : MethodName := ⟨RX10, "turn", "()I"⟩
abbrev cX10_turned : ByteArray := prog_12_method_47_code
def yX10_turned : MethodName := ⟨RX10, "turned", "()I"⟩
abbrev cX10_hold : ByteArray := prog_12_method_48_code
def yX10_hold : MethodName := ⟨RX10, "hold", "(Z)I"⟩
abbrev cX10_may : ByteArray := prog_12_method_49_code
def yX10_may : MethodName := ⟨RX10, "may", "(II)I"⟩
abbrev cX10_mays : ByteArray := prog_12_method_50_code
def yX10_mays : MethodName := ⟨RX10, "mays", "(I)I"⟩
abbrev cX10_soon : ByteArray := prog_12_method_51_code
def yX10_soon : MethodName := ⟨RX10, "soon", "(I)I"⟩
abbrev cX10_draw : ByteArray := prog_12_method_52_code
def yX10_draw : MethodName := ⟨RX10, "draw", "()V"⟩
abbrev cX10_likely : ByteArray := prog_12_method_53_code
def yX10_likely : MethodName := ⟨RX10, "likely", "(IIZ)J"⟩
abbrev cX10_week : ByteArray := prog_12_method_54_code
def yX10_week : MethodName := ⟨RX10, "week", "(I)I"⟩
abbrev cX10_wipe : ByteArray := prog_12_method_55_code
def yX10_wipe : MethodName := ⟨RX10, "wipe", "()I"⟩
abbrev cX10_maybeOf : ByteArray := prog_12_method_56_code
def yX10_maybeOf : MethodName := ⟨RX10, "maybeOf", "(I)I"⟩
abbrev cX10_maybe : ByteArray := prog_12_method_57_code
def yX10_maybe : MethodName := ⟨RX10, "maybe", "(I)I"⟩
abbrev cX10_ways : ByteArray := prog_12_method_58_code
def yX10_ways : MethodName := ⟨RX10, "ways", "()J"⟩
abbrev cX10_take : ByteArray := prog_12_method_59_code
def yX10_take : MethodName := ⟨RX10, "take", "()I"⟩
abbrev cX10_askedOf : ByteArray := prog_12_method_60_code
def yX10_askedOf : MethodName := ⟨RX10, "askedOf", "(II)I"⟩
abbrev cX10_asked : ByteArray := prog_12_method_61_code
def yX10_asked : MethodName := ⟨RX10, "asked", "(III)I"⟩
abbrev cX10_layAsks : ByteArray := prog_12_method_62_code
def yX10_layAsks : MethodName := ⟨RX10, "layAsks", "(II)V"⟩
abbrev cX10_gainOf : ByteArray := prog_12_method_63_code
def yX10_gainOf : MethodName := ⟨RX10, "gainOf", "(III)I"⟩
abbrev cX10_isShop : ByteArray := prog_12_method_64_code
def yX10_isShop : MethodName := ⟨RX10, "isShop", "(IIII)Z"⟩
abbrev cX10_gain : ByteArray := prog_12_method_65_code
def yX10_gain : MethodName := ⟨RX10, "gain", "(IIIII)I"⟩
abbrev cX10_order : ByteArray := prog_12_method_66_code
def yX10_order : MethodName := ⟨RX10, "order", "(IIII)I"⟩
abbrev cX10_count : ByteArray := prog_12_method_67_code
def yX10_count : MethodName := ⟨RX10, "count", "(I)I"⟩
def RJ6 : String := "java/lang/Integer"
abbrev cJ6_bitCount_0f7a4 : ByteArray := prog_13_method_49_code
def yJ6_bitCount_0f7a4 : MethodName := ⟨RJ6, "bitCount", "(I)I"⟩
def RJ9 : String := "java/lang/Math"
abbrev cJ9_max_7cf53 : ByteArray := prog_14_method_65_code
def yJ9_max_7cf53 : MethodName := ⟨RJ9, "max", "(II)I"⟩
abbrev cJ9_min_7cf53 : ByteArray := prog_14_method_69_code
def yJ9_min_7cf53 : MethodName := ⟨RJ9, "min", "(II)I"⟩
abbrev zCl : List vw_C := [(RX0, TX0, 5), (RX1, TX1, 1), (RX2, TX2, 3), (RX3, TX3, 1), (RX4, TX4, 9), (RX5, TX5, 4), (RX6, TX6, 5), (RX7, TX7, 8), (RX8, TX8, 9), (RX9, TX9, 8), (RX10, TX10, 21)]
def SX : ST := ([(0, 0, [some 7, some 29, some 30, some 34, some 35]), (0, 1, [some 7]), (0, 2, [some 7, some 36, none]), (0, 3, [some 7]), (0, 4, [some 7, some 29, some 30, some 31, some 32, some 33, none, none, none]), (0, 5, [some 7, some 8, some 29, some 30]), (0, 6, [some 29, some 30, some 31, some 32, some 33]), (0, 7, [some 20, some 21, some 22, some 23, some 24, none, none, none]), (0, 8, [some 7, some 25, some 26, some 27, some 28, none, none, none, none]), (0, 9, [some 7, some 1, some 3, some 8, some 4, some 0, some 2, some 5]), (1, 10, []), (1, 10, []), (1, 10, []), (1, 10, []), (1, 10, []), (1, 10, []), (1, 10, []), (1, 10, []), (1, 10, []), (1, 10, []), (3, 10, [some 10, some 11, some 12, some 13, some 14, some 15, some 16, some 17, some 18, some 19]), (1, 10, []), (1, 10, []), (1, 1024, []), (1, 1024, []), (1, 1024, []), (1, 1024, []), (1, 1024, []), (1, 1024, []), (1, 1024, []), (1, 1024, []), (1, 1024, []), (1, 1024, []), (1, 1024, []), (2, 1024, []), (2, 1024, []), (1, 8, [])], zCl)
def SM : ST := ([(0, 10, [none, some 1, some 2, some 3, some 4, some 5, none, none, none, some 6, some 7, some 8, some 9, some 10, some 11, none, some 12, some 13, none, some 14, some 15]), (1, 100, []), (1, 10, []), (1, 10, []), (1, 1024, []), (1, 1024, []), (1, 1024, []), (1, 1024, []), (1, 1024, []), (1, 1024, []), (1, 1024, []), (1, 1024, []), (2, 1024, []), (2, 1024, []), (1, 8, []), (1, 1024, [])], zCl)
theorem inX0 : ∀ w ∈ u_ws RX0 TX0 5, w ∈ lw_g := fun w h => z_w ((by decide +kernel : ∀ w ∈ u_ws RX0 TX0 5, w ∈ lw_tbl) w h) (List.all_eq_true.mp (by decide +kernel : (u_ws RX0 TX0 5).all goodWord = true) w h)
theorem inX1 : ∀ w ∈ u_ws RX1 TX1 1, w ∈ lw_g := fun w h => z_w ((by decide +kernel : ∀ w ∈ u_ws RX1 TX1 1, w ∈ lw_tbl) w h) (List.all_eq_true.mp (by decide +kernel : (u_ws RX1 TX1 1).all goodWord = true) w h)
theorem inX2 : ∀ w ∈ u_ws RX2 TX2 3, w ∈ lw_g := fun w h => z_w ((by decide +kernel : ∀ w ∈ u_ws RX2 TX2 3, w ∈ lw_tbl) w h) (List.all_eq_true.mp (by decide +kernel : (u_ws RX2 TX2 3).all goodWord = true) w h)
theorem inX3 : ∀ w ∈ u_ws RX3 TX3 1, w ∈ lw_g := fun w h => z_w ((by decide +kernel : ∀ w ∈ u_ws RX3 TX3 1, w ∈ lw_tbl) w h) (List.all_eq_true.mp (by decide +kernel : (u_ws RX3 TX3 1).all goodWord = true) w h)
theorem inX4 : ∀ w ∈ u_ws RX4 TX4 9, w ∈ lw_g := fun w h => z_w ((by decide +kernel : ∀ w ∈ u_ws RX4 TX4 9, w ∈ lw_tbl) w h) (List.all_eq_true.mp (by decide +kernel : (u_ws RX4 TX4 9).all goodWord = true) w h)
theorem inX5 : ∀ w ∈ u_ws RX5 TX5 4, w ∈ lw_g := fun w h => z_w ((by decide +kernel : ∀ w ∈ u_ws RX5 TX5 4, w ∈ lw_tbl) w h) (List.all_eq_true.mp (by decide +kernel : (u_ws RX5 TX5 4).all goodWord = true) w h)
theorem inX6 : ∀ w ∈ u_ws RX6 TX6 5, w ∈ lw_g := fun w h => z_w ((by decide +kernel : ∀ w ∈ u_ws RX6 TX6 5, w ∈ lw_tbl) w h) (List.all_eq_true.mp (by decide +kernel : (u_ws RX6 TX6 5).all goodWord = true) w h)
theorem inX7 : ∀ w ∈ u_ws RX7 TX7 8, w ∈ lw_g := fun w h => z_w ((by decide +kernel : ∀ w ∈ u_ws RX7 TX7 8, w ∈ lw_tbl) w h) (List.all_eq_true.mp (by decide +kernel : (u_ws RX7 TX7 8).all goodWord = true) w h)
theorem inX8 : ∀ w ∈ u_ws RX8 TX8 9, w ∈ lw_g := fun w h => z_w ((by decide +kernel : ∀ w ∈ u_ws RX8 TX8 9, w ∈ lw_tbl) w h) (List.all_eq_true.mp (by decide +kernel : (u_ws RX8 TX8 9).all goodWord = true) w h)
theorem inX9 : ∀ w ∈ u_ws RX9 TX9 8, w ∈ lw_g := fun w h => z_w ((by decide +kernel : ∀ w ∈ u_ws RX9 TX9 8, w ∈ lw_tbl) w h) (List.all_eq_true.mp (by decide +kernel : (u_ws RX9 TX9 8).all goodWord = true) w h)
theorem inX10 : ∀ w ∈ u_ws RX10 TX10 21, w ∈ lw_g := fun w h => z_w ((by decide +kernel : ∀ w ∈ u_ws RX10 TX10 21, w ∈ lw_tbl) w h) (List.all_eq_true.mp (by decide +kernel : (u_ws RX10 TX10 21).all goodWord = true) w h)
theorem wcX0_canReach : Cond.code yX0_canReach cX0_canReach 3 (some .boolean) ∈ lw_g := z_w (List.mem_append_right _ (List.mem_of_getElem? (i := 602) (by decide +kernel))) rfl
theorem wiX0_canReach : Cond.instanceMethod yX0_canReach ∈ lw_g := z_w (List.mem_append_right _ (List.mem_of_getElem? (i := 600) (by decide +kernel))) rfl
theorem wlX0_canReach : Cond.selects "NotLikeThem$Chance" yX0_canReach yX0_canReach ∈ lw_g := z_w (List.mem_append_right _ (List.mem_of_getElem? (i := 601) (by decide +kernel))) rfl
theorem wyX0_canReach : yX0_canReach.cls ≠ "java/lang/invoke/MethodHandle" ∧ yX0_canReach.cls ≠ "java/lang/invoke/VarHandle" ∧ (parseMethodDescriptor yX0_canReach.desc).map (fun d => d.parameters.length) = some 2 := ⟨by decide +kernel, by decide +kernel, by decide +kernel⟩
theorem wcX0_restsFrom : Cond.code yX0_restsFrom cX0_restsFrom 6 (some .int) ∈ lw_g := z_w (List.mem_append_right _ (List.mem_of_getElem? (i := 617) (by decide +kernel))) rfl
theorem wiX0_restsFrom : Cond.instanceMethod yX0_restsFrom ∈ lw_g := z_w (List.mem_append_right _ (List.mem_of_getElem? (i := 615) (by decide +kernel))) rfl
theorem wlX0_restsFrom : Cond.selects "NotLikeThem$Chance" yX0_restsFrom yX0_restsFrom ∈ lw_g := z_w (List.mem_append_right _ (List.mem_of_getElem? (i := 616) (by decide +kernel))) rfl
theorem wyX0_restsFrom : yX0_restsFrom.cls ≠ "java/lang/invoke/MethodHandle" ∧ yX0_restsFrom.cls ≠ "java/lang/invoke/VarHandle" ∧ (parseMethodDescriptor yX0_restsFrom.desc).map (fun d => d.parameters.length) = some 1 := ⟨by decide +kernel, by decide +kernel, by decide +kernel⟩
theorem wcX0_fewestDraws : Cond.code yX0_fewestDraws cX0_fewestDraws 5 (some .int) ∈ lw_g := z_w (List.mem_append_right _ (List.mem_of_getElem? (i := 625) (by decide +kernel))) rfl
theorem wiX0_fewestDraws : Cond.instanceMethod yX0_fewestDraws ∈ lw_g := z_w (List.mem_append_right _ (List.mem_of_getElem? (i := 623) (by decide +kernel))) rfl
theorem wlX0_fewestDraws : Cond.selects "NotLikeThem$Chance" yX0_fewestDraws yX0_fewestDraws ∈ lw_g := z_w (List.mem_append_right _ (List.mem_of_getElem? (i := 624) (by decide +kernel))) rfl
theorem wyX0_fewestDraws : yX0_fewestDraws.cls ≠ "java/lang/invoke/MethodHandle" ∧ yX0_fewestDraws.cls ≠ "java/lang/invoke/VarHandle" ∧ (parseMethodDescriptor yX0_fewestDraws.desc).map (fun d => d.parameters.length) = some 1 := ⟨by decide +kernel, by decide +kernel, by decide +kernel⟩
theorem wcX0_search : Cond.code yX0_search cX0_search 10 (some .int) ∈ lw_g := z_w (List.mem_append_right _ (List.mem_of_getElem? (i := 607) (by decide +kernel))) rfl
theorem wiX0_search : Cond.instanceMethod yX0_search ∈ lw_g := z_w (List.mem_append_right _ (List.mem_of_getElem? (i := 606) (by decide +kernel))) rfl
theorem wlX0_search : Cond.selects "NotLikeThem$Chance" yX0_search yX0_search ∈ lw_g := z_w (List.mem_append_left _ (List.mem_of_getElem? (i := 15) (by decide +kernel))) rfl
theorem wyX0_search : yX0_search.cls ≠ "java/lang/invoke/MethodHandle" ∧ yX0_search.cls ≠ "java/lang/invoke/VarHandle" ∧ (parseMethodDescriptor yX0_search.desc).map (fun d => d.parameters.length) = some 2 := ⟨by decide +kernel, by decide +kernel, by decide +kernel⟩
theorem wcX0_fraction : Cond.code yX0_fraction cX0_fraction 12 (some .long) ∈ lw_g := z_w (List.mem_append_right _ (List.mem_of_getElem? (i := 634) (by decide +kernel))) rfl
theorem wiX0_fraction : Cond.instanceMethod yX0_fraction ∈ lw_g := z_w (List.mem_append_right _ (List.mem_of_getElem? (i := 632) (by decide +kernel))) rfl
theorem wlX0_fraction : Cond.selects "NotLikeThem$Chance" yX0_fraction yX0_fraction ∈ lw_g := z_w (List.mem_append_right _ (List.mem_of_getElem? (i := 633) (by decide +kernel))) rfl
theorem wyX0_fraction : yX0_fraction.cls ≠ "java/lang/invoke/MethodHandle" ∧ yX0_fraction.cls ≠ "java/lang/invoke/VarHandle" ∧ (parseMethodDescriptor yX0_fraction.desc).map (fun d => d.parameters.length) = some 3 := ⟨by decide +kernel, by decide +kernel, by decide +kernel⟩
theorem wcX0_drawOnce : Cond.code yX0_drawOnce cX0_drawOnce 4 none ∈ lw_g := z_w (List.mem_append_right _ (List.mem_of_getElem? (i := 638) (by decide +kernel))) rfl
theorem wiX0_drawOnce : Cond.instanceMethod yX0_drawOnce ∈ lw_g := z_w (List.mem_append_right _ (List.mem_of_getElem? (i := 637) (by decide +kernel))) rfl
theorem wlX0_drawOnce : Cond.selects "NotLikeThem$Chance" yX0_drawOnce yX0_drawOnce ∈ lw_g := z_w (List.mem_append_left _ (List.mem_of_getElem? (i := 16) (by decide +kernel))) rfl
theorem wyX0_drawOnce : yX0_drawOnce.cls ≠ "java/lang/invoke/MethodHandle" ∧ yX0_drawOnce.cls ≠ "java/lang/invoke/VarHandle" ∧ (parseMethodDescriptor yX0_drawOnce.desc).map (fun d => d.parameters.length) = some 2 := ⟨by decide +kernel, by decide +kernel, by decide +kernel⟩
theorem wcX0_handOn : Cond.code yX0_handOn cX0_handOn 8 none ∈ lw_g := z_w (List.mem_append_right _ (List.mem_of_getElem? (i := 642) (by decide +kernel))) rfl
theorem wiX0_handOn : Cond.instanceMethod yX0_handOn ∈ lw_g := z_w (List.mem_append_right _ (List.mem_of_getElem? (i := 641) (by decide +kernel))) rfl
theorem wlX0_handOn : Cond.selects "NotLikeThem$Chance" yX0_handOn yX0_handOn ∈ lw_g := z_w (List.mem_append_left _ (List.mem_of_getElem? (i := 17) (by decide +kernel))) rfl
theorem wyX0_handOn : yX0_handOn.cls ≠ "java/lang/invoke/MethodHandle" ∧ yX0_handOn.cls ≠ "java/lang/invoke/VarHandle" ∧ (parseMethodDescriptor yX0_handOn.desc).map (fun d => d.parameters.length) = some 2 := ⟨by decide +kernel, by decide +kernel, by decide +kernel⟩
theorem wcX0_commonDivisor : Cond.code yX0_commonDivisor cX0_commonDivisor 11 (some .long) ∈ lw_g := z_w (List.mem_append_right _ (List.mem_of_getElem? (i := 647) (by decide +kernel))) rfl
theorem wsX0_commonDivisor : Cond.static yX0_commonDivisor ∈ lw_g := z_w (List.mem_append_right _ (List.mem_of_getElem? (i := 646) (by decide +kernel))) rfl
theorem wyX0_commonDivisor : yX0_commonDivisor.cls ≠ "java/lang/invoke/MethodHandle" ∧ yX0_commonDivisor.cls ≠ "java/lang/invoke/VarHandle" ∧ (parseMethodDescriptor yX0_commonDivisor.desc).map (fun d => d.parameters.length) = some 2 := ⟨by decide +kernel, by decide +kernel, by decide +kernel⟩
theorem wcX1_isDefined : Cond.code yX1_isDefined cX1_isDefined 3 (some .boolean) ∈ lw_g := z_w (List.mem_append_right _ (List.mem_of_getElem? (i := 495) (by decide +kernel))) rfl
theorem wiX1_isDefined : Cond.instanceMethod yX1_isDefined ∈ lw_g := z_w (List.mem_append_right _ (List.mem_of_getElem? (i := 493) (by decide +kernel))) rfl
theorem wlX1_isDefined : Cond.selects "NotLikeThem$Heat" yX1_isDefined yX1_isDefined ∈ lw_g := z_w (List.mem_append_right _ (List.mem_of_getElem? (i := 494) (by decide +kernel))) rfl
theorem wyX1_isDefined : yX1_isDefined.cls ≠ "java/lang/invoke/MethodHandle" ∧ yX1_isDefined.cls ≠ "java/lang/invoke/VarHandle" ∧ (parseMethodDescriptor yX1_isDefined.desc).map (fun d => d.parameters.length) = some 0 := ⟨by decide +kernel, by decide +kernel, by decide +kernel⟩
theorem wcX1_isEvenPair : Cond.code yX1_isEvenPair cX1_isEvenPair 7 (some .boolean) ∈ lw_g := z_w (List.mem_append_right _ (List.mem_of_getElem? (i := 504) (by decide +kernel))) rfl
theorem wiX1_isEvenPair : Cond.instanceMethod yX1_isEvenPair ∈ lw_g := z_w (List.mem_append_right _ (List.mem_of_getElem? (i := 503) (by decide +kernel))) rfl
theorem wlX1_isEvenPair : Cond.selects "NotLikeThem$Heat" yX1_isEvenPair yX1_isEvenPair ∈ lw_g := z_w (List.mem_append_left _ (List.mem_of_getElem? (i := 7) (by decide +kernel))) rfl
theorem wyX1_isEvenPair : yX1_isEvenPair.cls ≠ "java/lang/invoke/MethodHandle" ∧ yX1_isEvenPair.cls ≠ "java/lang/invoke/VarHandle" ∧ (parseMethodDescriptor yX1_isEvenPair.desc).map (fun d => d.parameters.length) = some 2 := ⟨by decide +kernel, by decide +kernel, by decide +kernel⟩
theorem wcX1_of : Cond.code yX1_of cX1_of 5 (some .int) ∈ lw_g := z_w (List.mem_append_right _ (List.mem_of_getElem? (i := 514) (by decide +kernel))) rfl
theorem wiX1_of : Cond.instanceMethod yX1_of ∈ lw_g := z_w (List.mem_append_right _ (List.mem_of_getElem? (i := 512) (by decide +kernel))) rfl
theorem wlX1_of : Cond.selects "NotLikeThem$Heat" yX1_of yX1_of ∈ lw_g := z_w (List.mem_append_right _ (List.mem_of_getElem? (i := 513) (by decide +kernel))) rfl
theorem wyX1_of : yX1_of.cls ≠ "java/lang/invoke/MethodHandle" ∧ yX1_of.cls ≠ "java/lang/invoke/VarHandle" ∧ (parseMethodDescriptor yX1_of.desc).map (fun d => d.parameters.length) = some 1 := ⟨by decide +kernel, by decide +kernel, by decide +kernel⟩
theorem wcX1_ofPair : Cond.code yX1_ofPair cX1_ofPair 8 (some .int) ∈ lw_g := z_w (List.mem_append_right _ (List.mem_of_getElem? (i := 524) (by decide +kernel))) rfl
theorem wiX1_ofPair : Cond.instanceMethod yX1_ofPair ∈ lw_g := z_w (List.mem_append_right _ (List.mem_of_getElem? (i := 523) (by decide +kernel))) rfl
theorem wlX1_ofPair : Cond.selects "NotLikeThem$Heat" yX1_ofPair yX1_ofPair ∈ lw_g := z_w (List.mem_append_left _ (List.mem_of_getElem? (i := 9) (by decide +kernel))) rfl
theorem wyX1_ofPair : yX1_ofPair.cls ≠ "java/lang/invoke/MethodHandle" ∧ yX1_ofPair.cls ≠ "java/lang/invoke/VarHandle" ∧ (parseMethodDescriptor yX1_ofPair.desc).map (fun d => d.parameters.length) = some 3 := ⟨by decide +kernel, by decide +kernel, by decide +kernel⟩
theorem wcX1_ofLean : Cond.code yX1_ofLean cX1_ofLean 5 (some .int) ∈ lw_g := z_w (List.mem_append_right _ (List.mem_of_getElem? (i := 518) (by decide +kernel))) rfl
theorem wiX1_ofLean : Cond.instanceMethod yX1_ofLean ∈ lw_g := z_w (List.mem_append_right _ (List.mem_of_getElem? (i := 517) (by decide +kernel))) rfl
theorem wlX1_ofLean : Cond.selects "NotLikeThem$Heat" yX1_ofLean yX1_ofLean ∈ lw_g := z_w (List.mem_append_left _ (List.mem_of_getElem? (i := 8) (by decide +kernel))) rfl
theorem wyX1_ofLean : yX1_ofLean.cls ≠ "java/lang/invoke/MethodHandle" ∧ yX1_ofLean.cls ≠ "java/lang/invoke/VarHandle" ∧ (parseMethodDescriptor yX1_ofLean.desc).map (fun d => d.parameters.length) = some 2 := ⟨by decide +kernel, by decide +kernel, by decide +kernel⟩
theorem wcX2_size : Cond.code yX2_size cX2_size 1 (some .int) ∈ lw_g := z_w (List.mem_append_right _ (List.mem_of_getElem? (i := 664) (by decide +kernel))) rfl
theorem wiX2_size : Cond.instanceMethod yX2_size ∈ lw_g := z_w (List.mem_append_right _ (List.mem_of_getElem? (i := 662) (by decide +kernel))) rfl
theorem wlX2_size : Cond.selects "NotLikeThem$Picture" yX2_size yX2_size ∈ lw_g := z_w (List.mem_append_right _ (List.mem_of_getElem? (i := 663) (by decide +kernel))) rfl
theorem wyX2_size : yX2_size.cls ≠ "java/lang/invoke/MethodHandle" ∧ yX2_size.cls ≠ "java/lang/invoke/VarHandle" ∧ (parseMethodDescriptor yX2_size.desc).map (fun d => d.parameters.length) = some 0 := ⟨by decide +kernel, by decide +kernel, by decide +kernel⟩
theorem wcX2_isFull : Cond.code yX2_isFull cX2_isFull 1 (some .boolean) ∈ lw_g := z_w (List.mem_append_right _ (List.mem_of_getElem? (i := 655) (by decide +kernel))) rfl
theorem wiX2_isFull : Cond.instanceMethod yX2_isFull ∈ lw_g := z_w (List.mem_append_right _ (List.mem_of_getElem? (i := 653) (by decide +kernel))) rfl
theorem wlX2_isFull : Cond.selects "NotLikeThem$Picture" yX2_isFull yX2_isFull ∈ lw_g := z_w (List.mem_append_right _ (List.mem_of_getElem? (i := 654) (by decide +kernel))) rfl
theorem wyX2_isFull : yX2_isFull.cls ≠ "java/lang/invoke/MethodHandle" ∧ yX2_isFull.cls ≠ "java/lang/invoke/VarHandle" ∧ (parseMethodDescriptor yX2_isFull.desc).map (fun d => d.parameters.length) = some 0 := ⟨by decide +kernel, by decide +kernel, by decide +kernel⟩
theorem wcX2_add : Cond.code yX2_add cX2_add 2 none ∈ lw_g := z_w (List.mem_append_right _ (List.mem_of_getElem? (i := 659) (by decide +kernel))) rfl
theorem wiX2_add : Cond.instanceMethod yX2_add ∈ lw_g := z_w (List.mem_append_right _ (List.mem_of_getElem? (i := 657) (by decide +kernel))) rfl
theorem wlX2_add : Cond.selects "NotLikeThem$Picture" yX2_add yX2_add ∈ lw_g := z_w (List.mem_append_right _ (List.mem_of_getElem? (i := 658) (by decide +kernel))) rfl
theorem wyX2_add : yX2_add.cls ≠ "java/lang/invoke/MethodHandle" ∧ yX2_add.cls ≠ "java/lang/invoke/VarHandle" ∧ (parseMethodDescriptor yX2_add.desc).map (fun d => d.parameters.length) = some 1 := ⟨by decide +kernel, by decide +kernel, by decide +kernel⟩
theorem wcX2_clear : Cond.code yX2_clear cX2_clear 1 none ∈ lw_g := z_w (List.mem_append_right _ (List.mem_of_getElem? (i := 280) (by decide +kernel))) rfl
theorem wiX2_clear : Cond.instanceMethod yX2_clear ∈ lw_g := z_w (List.mem_append_right _ (List.mem_of_getElem? (i := 278) (by decide +kernel))) rfl
theorem wlX2_clear : Cond.selects "NotLikeThem$Picture" yX2_clear yX2_clear ∈ lw_g := z_w (List.mem_append_right _ (List.mem_of_getElem? (i := 279) (by decide +kernel))) rfl
theorem wyX2_clear : yX2_clear.cls ≠ "java/lang/invoke/MethodHandle" ∧ yX2_clear.cls ≠ "java/lang/invoke/VarHandle" ∧ (parseMethodDescriptor yX2_clear.desc).map (fun d => d.parameters.length) = some 0 := ⟨by decide +kernel, by decide +kernel, by decide +kernel⟩
theorem wcX2_kindsOf : Cond.code yX2_kindsOf cX2_kindsOf 8 (some .int) ∈ lw_g := z_w (List.mem_append_right _ (List.mem_of_getElem? (i := 676) (by decide +kernel))) rfl
theorem wiX2_kindsOf : Cond.instanceMethod yX2_kindsOf ∈ lw_g := z_w (List.mem_append_right _ (List.mem_of_getElem? (i := 674) (by decide +kernel))) rfl
theorem wlX2_kindsOf : Cond.selects "NotLikeThem$Picture" yX2_kindsOf yX2_kindsOf ∈ lw_g := z_w (List.mem_append_right _ (List.mem_of_getElem? (i := 675) (by decide +kernel))) rfl
theorem wyX2_kindsOf : yX2_kindsOf.cls ≠ "java/lang/invoke/MethodHandle" ∧ yX2_kindsOf.cls ≠ "java/lang/invoke/VarHandle" ∧ (parseMethodDescriptor yX2_kindsOf.desc).map (fun d => d.parameters.length) = some 1 := ⟨by decide +kernel, by decide +kernel, by decide +kernel⟩
theorem wcX2_explanations : Cond.code yX2_explanations cX2_explanations 4 (some .long) ∈ lw_g := z_w (List.mem_append_right _ (List.mem_of_getElem? (i := 687) (by decide +kernel))) rfl
theorem wiX2_explanations : Cond.instanceMethod yX2_explanations ∈ lw_g := z_w (List.mem_append_right _ (List.mem_of_getElem? (i := 685) (by decide +kernel))) rfl
theorem wlX2_explanations : Cond.selects "NotLikeThem$Picture" yX2_explanations yX2_explanations ∈ lw_g := z_w (List.mem_append_right _ (List.mem_of_getElem? (i := 686) (by decide +kernel))) rfl
theorem wyX2_explanations : yX2_explanations.cls ≠ "java/lang/invoke/MethodHandle" ∧ yX2_explanations.cls ≠ "java/lang/invoke/VarHandle" ∧ (parseMethodDescriptor yX2_explanations.desc).map (fun d => d.parameters.length) = some 0 := ⟨by decide +kernel, by decide +kernel, by decide +kernel⟩
theorem wcX2_settleKinds : Cond.code yX2_settleKinds cX2_settleKinds 4 (some .int) ∈ lw_g := z_w (List.mem_append_right _ (List.mem_of_getElem? (i := 698) (by decide +kernel))) rfl
theorem wiX2_settleKinds : Cond.instanceMethod yX2_settleKinds ∈ lw_g := z_w (List.mem_append_right _ (List.mem_of_getElem? (i := 696) (by decide +kernel))) rfl
theorem wlX2_settleKinds : Cond.selects "NotLikeThem$Picture" yX2_settleKinds yX2_settleKinds ∈ lw_g := z_w (List.mem_append_right _ (List.mem_of_getElem? (i := 697) (by decide +kernel))) rfl
theorem wyX2_settleKinds : yX2_settleKinds.cls ≠ "java/lang/invoke/MethodHandle" ∧ yX2_settleKinds.cls ≠ "java/lang/invoke/VarHandle" ∧ (parseMethodDescriptor yX2_settleKinds.desc).map (fun d => d.parameters.length) = some 0 := ⟨by decide +kernel, by decide +kernel, by decide +kernel⟩
theorem wcX2_leastKind : Cond.code yX2_leastKind cX2_leastKind 2 (some .int) ∈ lw_g := z_w (List.mem_append_right _ (List.mem_of_getElem? (i := 701) (by decide +kernel))) rfl
theorem wsX2_leastKind : Cond.static yX2_leastKind ∈ lw_g := z_w (List.mem_append_right _ (List.mem_of_getElem? (i := 700) (by decide +kernel))) rfl
theorem wyX2_leastKind : yX2_leastKind.cls ≠ "java/lang/invoke/MethodHandle" ∧ yX2_leastKind.cls ≠ "java/lang/invoke/VarHandle" ∧ (parseMethodDescriptor yX2_leastKind.desc).map (fun d => d.parameters.length) = some 1 := ⟨by decide +kernel, by decide +kernel, by decide +kernel⟩
theorem wcX3_howMany : Cond.code yX3_howMany cX3_howMany 5 (some .int) ∈ lw_g := z_w (List.mem_append_right _ (List.mem_of_getElem? (i := 477) (by decide +kernel))) rfl
theorem wiX3_howMany : Cond.instanceMethod yX3_howMany ∈ lw_g := z_w (List.mem_append_right _ (List.mem_of_getElem? (i := 475) (by decide +kernel))) rfl
theorem wlX3_howMany : Cond.selects "NotLikeThem$Rests" yX3_howMany yX3_howMany ∈ lw_g := z_w (List.mem_append_right _ (List.mem_of_getElem? (i := 476) (by decide +kernel))) rfl
theorem wyX3_howMany : yX3_howMany.cls ≠ "java/lang/invoke/MethodHandle" ∧ yX3_howMany.cls ≠ "java/lang/invoke/VarHandle" ∧ (parseMethodDescriptor yX3_howMany.desc).map (fun d => d.parameters.length) = some 0 := ⟨by decide +kernel, by decide +kernel, by decide +kernel⟩
theorem wcX3_dressOf : Cond.code yX3_dressOf cX3_dressOf 6 (some .int) ∈ lw_g := z_w (List.mem_append_right _ (List.mem_of_getElem? (i := 487) (by decide +kernel))) rfl
theorem wiX3_dressOf : Cond.instanceMethod yX3_dressOf ∈ lw_g := z_w (List.mem_append_right _ (List.mem_of_getElem? (i := 485) (by decide +kernel))) rfl
theorem wlX3_dressOf : Cond.selects "NotLikeThem$Rests" yX3_dressOf yX3_dressOf ∈ lw_g := z_w (List.mem_append_right _ (List.mem_of_getElem? (i := 486) (by decide +kernel))) rfl
theorem wyX3_dressOf : yX3_dressOf.cls ≠ "java/lang/invoke/MethodHandle" ∧ yX3_dressOf.cls ≠ "java/lang/invoke/VarHandle" ∧ (parseMethodDescriptor yX3_dressOf.desc).map (fun d => d.parameters.length) = some 1 := ⟨by decide +kernel, by decide +kernel, by decide +kernel⟩
theorem wcX3_fewestRestless : Cond.code yX3_fewestRestless cX3_fewestRestless 6 (some .int) ∈ lw_g := z_w (List.mem_append_right _ (List.mem_of_getElem? (i := 575) (by decide +kernel))) rfl
theorem wiX3_fewestRestless : Cond.instanceMethod yX3_fewestRestless ∈ lw_g := z_w (List.mem_append_right _ (List.mem_of_getElem? (i := 573) (by decide +kernel))) rfl
theorem wlX3_fewestRestless : Cond.selects "NotLikeThem$Rests" yX3_fewestRestless yX3_fewestRestless ∈ lw_g := z_w (List.mem_append_right _ (List.mem_of_getElem? (i := 574) (by decide +kernel))) rfl
theorem wyX3_fewestRestless : yX3_fewestRestless.cls ≠ "java/lang/invoke/MethodHandle" ∧ yX3_fewestRestless.cls ≠ "java/lang/invoke/VarHandle" ∧ (parseMethodDescriptor yX3_fewestRestless.desc).map (fun d => d.parameters.length) = some 0 := ⟨by decide +kernel, by decide +kernel, by decide +kernel⟩
theorem wcX3_leastOfFewestRestless : Cond.code yX3_leastOfFewestRestless cX3_leastOfFewestRestless 5 (some .int) ∈ lw_g := z_w (List.mem_append_right _ (List.mem_of_getElem? (i := 594) (by decide +kernel))) rfl
theorem wiX3_leastOfFewestRestless : Cond.instanceMethod yX3_leastOfFewestRestless ∈ lw_g := z_w (List.mem_append_right _ (List.mem_of_getElem? (i := 592) (by decide +kernel))) rfl
theorem wlX3_leastOfFewestRestless : Cond.selects "NotLikeThem$Rests" yX3_leastOfFewestRestless yX3_leastOfFewestRestless ∈ lw_g := z_w (List.mem_append_right _ (List.mem_of_getElem? (i := 593) (by decide +kernel))) rfl
theorem wyX3_leastOfFewestRestless : yX3_leastOfFewestRestless.cls ≠ "java/lang/invoke/MethodHandle" ∧ yX3_leastOfFewestRestless.cls ≠ "java/lang/invoke/VarHandle" ∧ (parseMethodDescriptor yX3_leastOfFewestRestless.desc).map (fun d => d.parameters.length) = some 0 := ⟨by decide +kernel, by decide +kernel, by decide +kernel⟩
theorem wcX4_leastDress : Cond.code yX4_leastDress cX4_leastDress 5 (some .int) ∈ lw_g := z_w (List.mem_append_right _ (List.mem_of_getElem? (i := 537) (by decide +kernel))) rfl
theorem wiX4_leastDress : Cond.instanceMethod yX4_leastDress ∈ lw_g := z_w (List.mem_append_right _ (List.mem_of_getElem? (i := 535) (by decide +kernel))) rfl
theorem wlX4_leastDress : Cond.selects "NotLikeThem$Rounds" yX4_leastDress yX4_leastDress ∈ lw_g := z_w (List.mem_append_right _ (List.mem_of_getElem? (i := 536) (by decide +kernel))) rfl
theorem wyX4_leastDress : yX4_leastDress.cls ≠ "java/lang/invoke/MethodHandle" ∧ yX4_leastDress.cls ≠ "java/lang/invoke/VarHandle" ∧ (parseMethodDescriptor yX4_leastDress.desc).map (fun d => d.parameters.length) = some 0 := ⟨by decide +kernel, by decide +kernel, by decide +kernel⟩
theorem wcX4_searchFrom : Cond.code yX4_searchFrom cX4_searchFrom 7 (some .int) ∈ lw_g := z_w (List.mem_append_right _ (List.mem_of_getElem? (i := 543) (by decide +kernel))) rfl
theorem wiX4_searchFrom : Cond.instanceMethod yX4_searchFrom ∈ lw_g := z_w (List.mem_append_right _ (List.mem_of_getElem? (i := 542) (by decide +kernel))) rfl
theorem wlX4_searchFrom : Cond.selects "NotLikeThem$Rounds" yX4_searchFrom yX4_searchFrom ∈ lw_g := z_w (List.mem_append_left _ (List.mem_of_getElem? (i := 10) (by decide +kernel))) rfl
theorem wyX4_searchFrom : yX4_searchFrom.cls ≠ "java/lang/invoke/MethodHandle" ∧ yX4_searchFrom.cls ≠ "java/lang/invoke/VarHandle" ∧ (parseMethodDescriptor yX4_searchFrom.desc).map (fun d => d.parameters.length) = some 2 := ⟨by decide +kernel, by decide +kernel, by decide +kernel⟩
theorem wcX4_enter : Cond.code yX4_enter cX4_enter 2 none ∈ lw_g := z_w (List.mem_append_right _ (List.mem_of_getElem? (i := 547) (by decide +kernel))) rfl
theorem wiX4_enter : Cond.instanceMethod yX4_enter ∈ lw_g := z_w (List.mem_append_right _ (List.mem_of_getElem? (i := 546) (by decide +kernel))) rfl
theorem wlX4_enter : Cond.selects "NotLikeThem$Rounds" yX4_enter yX4_enter ∈ lw_g := z_w (List.mem_append_left _ (List.mem_of_getElem? (i := 11) (by decide +kernel))) rfl
theorem wyX4_enter : yX4_enter.cls ≠ "java/lang/invoke/MethodHandle" ∧ yX4_enter.cls ≠ "java/lang/invoke/VarHandle" ∧ (parseMethodDescriptor yX4_enter.desc).map (fun d => d.parameters.length) = some 1 := ⟨by decide +kernel, by decide +kernel, by decide +kernel⟩
theorem wcX4_followOne : Cond.code yX4_followOne cX4_followOne 4 none ∈ lw_g := z_w (List.mem_append_right _ (List.mem_of_getElem? (i := 551) (by decide +kernel))) rfl
theorem wiX4_followOne : Cond.instanceMethod yX4_followOne ∈ lw_g := z_w (List.mem_append_right _ (List.mem_of_getElem? (i := 550) (by decide +kernel))) rfl
theorem wlX4_followOne : Cond.selects "NotLikeThem$Rounds" yX4_followOne yX4_followOne ∈ lw_g := z_w (List.mem_append_left _ (List.mem_of_getElem? (i := 12) (by decide +kernel))) rfl
theorem wyX4_followOne : yX4_followOne.cls ≠ "java/lang/invoke/MethodHandle" ∧ yX4_followOne.cls ≠ "java/lang/invoke/VarHandle" ∧ (parseMethodDescriptor yX4_followOne.desc).map (fun d => d.parameters.length) = some 1 := ⟨by decide +kernel, by decide +kernel, by decide +kernel⟩
theorem wcX4_goBack : Cond.code yX4_goBack cX4_goBack 4 (some .int) ∈ lw_g := z_w (List.mem_append_right _ (List.mem_of_getElem? (i := 558) (by decide +kernel))) rfl
theorem wiX4_goBack : Cond.instanceMethod yX4_goBack ∈ lw_g := z_w (List.mem_append_right _ (List.mem_of_getElem? (i := 557) (by decide +kernel))) rfl
theorem wlX4_goBack : Cond.selects "NotLikeThem$Rounds" yX4_goBack yX4_goBack ∈ lw_g := z_w (List.mem_append_left _ (List.mem_of_getElem? (i := 13) (by decide +kernel))) rfl
theorem wyX4_goBack : yX4_goBack.cls ≠ "java/lang/invoke/MethodHandle" ∧ yX4_goBack.cls ≠ "java/lang/invoke/VarHandle" ∧ (parseMethodDescriptor yX4_goBack.desc).map (fun d => d.parameters.length) = some 2 := ⟨by decide +kernel, by decide +kernel, by decide +kernel⟩
theorem wcX4_close : Cond.code yX4_close cX4_close 6 (some .int) ∈ lw_g := z_w (List.mem_append_right _ (List.mem_of_getElem? (i := 562) (by decide +kernel))) rfl
theorem wiX4_close : Cond.instanceMethod yX4_close ∈ lw_g := z_w (List.mem_append_right _ (List.mem_of_getElem? (i := 561) (by decide +kernel))) rfl
theorem wlX4_close : Cond.selects "NotLikeThem$Rounds" yX4_close yX4_close ∈ lw_g := z_w (List.mem_append_left _ (List.mem_of_getElem? (i := 14) (by decide +kernel))) rfl
theorem wyX4_close : yX4_close.cls ≠ "java/lang/invoke/MethodHandle" ∧ yX4_close.cls ≠ "java/lang/invoke/VarHandle" ∧ (parseMethodDescriptor yX4_close.desc).map (fun d => d.parameters.length) = some 2 := ⟨by decide +kernel, by decide +kernel, by decide +kernel⟩
theorem wcX5_askedFrom : Cond.code yX5_askedFrom cX5_askedFrom 8 (some .int) ∈ lw_g := z_w (List.mem_append_right _ (List.mem_of_getElem? (i := 714) (by decide +kernel))) rfl
theorem wiX5_askedFrom : Cond.instanceMethod yX5_askedFrom ∈ lw_g := z_w (List.mem_append_right _ (List.mem_of_getElem? (i := 712) (by decide +kernel))) rfl
theorem wlX5_askedFrom : Cond.selects "NotLikeThem$Shop" yX5_askedFrom yX5_askedFrom ∈ lw_g := z_w (List.mem_append_right _ (List.mem_of_getElem? (i := 713) (by decide +kernel))) rfl
theorem wyX5_askedFrom : yX5_askedFrom.cls ≠ "java/lang/invoke/MethodHandle" ∧ yX5_askedFrom.cls ≠ "java/lang/invoke/VarHandle" ∧ (parseMethodDescriptor yX5_askedFrom.desc).map (fun d => d.parameters.length) = some 3 := ⟨by decide +kernel, by decide +kernel, by decide +kernel⟩
theorem wcX5_gainBy : Cond.code yX5_gainBy cX5_gainBy 8 (some .int) ∈ lw_g := z_w (List.mem_append_right _ (List.mem_of_getElem? (i := 727) (by decide +kernel))) rfl
theorem wiX5_gainBy : Cond.instanceMethod yX5_gainBy ∈ lw_g := z_w (List.mem_append_right _ (List.mem_of_getElem? (i := 725) (by decide +kernel))) rfl
theorem wlX5_gainBy : Cond.selects "NotLikeThem$Shop" yX5_gainBy yX5_gainBy ∈ lw_g := z_w (List.mem_append_right _ (List.mem_of_getElem? (i := 726) (by decide +kernel))) rfl
theorem wyX5_gainBy : yX5_gainBy.cls ≠ "java/lang/invoke/MethodHandle" ∧ yX5_gainBy.cls ≠ "java/lang/invoke/VarHandle" ∧ (parseMethodDescriptor yX5_gainBy.desc).map (fun d => d.parameters.length) = some 5 := ⟨by decide +kernel, by decide +kernel, by decide +kernel⟩
theorem wcX5_bestStock : Cond.code yX5_bestStock cX5_bestStock 11 (some .int) ∈ lw_g := z_w (List.mem_append_right _ (List.mem_of_getElem? (i := 741) (by decide +kernel))) rfl
theorem wiX5_bestStock : Cond.instanceMethod yX5_bestStock ∈ lw_g := z_w (List.mem_append_right _ (List.mem_of_getElem? (i := 739) (by decide +kernel))) rfl
theorem wlX5_bestStock : Cond.selects "NotLikeThem$Shop" yX5_bestStock yX5_bestStock ∈ lw_g := z_w (List.mem_append_right _ (List.mem_of_getElem? (i := 740) (by decide +kernel))) rfl
theorem wyX5_bestStock : yX5_bestStock.cls ≠ "java/lang/invoke/MethodHandle" ∧ yX5_bestStock.cls ≠ "java/lang/invoke/VarHandle" ∧ (parseMethodDescriptor yX5_bestStock.desc).map (fun d => d.parameters.length) = some 4 := ⟨by decide +kernel, by decide +kernel, by decide +kernel⟩
theorem wcX5_tally : Cond.code yX5_tally cX5_tally 9 none ∈ lw_g := z_w (List.mem_append_right _ (List.mem_of_getElem? (i := 731) (by decide +kernel))) rfl
theorem wiX5_tally : Cond.instanceMethod yX5_tally ∈ lw_g := z_w (List.mem_append_right _ (List.mem_of_getElem? (i := 730) (by decide +kernel))) rfl
theorem wlX5_tally : Cond.selects "NotLikeThem$Shop" yX5_tally yX5_tally ∈ lw_g := z_w (List.mem_append_left _ (List.mem_of_getElem? (i := 18) (by decide +kernel))) rfl
theorem wyX5_tally : yX5_tally.cls ≠ "java/lang/invoke/MethodHandle" ∧ yX5_tally.cls ≠ "java/lang/invoke/VarHandle" ∧ (parseMethodDescriptor yX5_tally.desc).map (fun d => d.parameters.length) = some 2 := ⟨by decide +kernel, by decide +kernel, by decide +kernel⟩
theorem wcX7_size : Cond.code yX7_size cX7_size 1 (some .int) ∈ lw_g := z_w (List.mem_append_right _ (List.mem_of_getElem? (i := 268) (by decide +kernel))) rfl
theorem wiX7_size : Cond.instanceMethod yX7_size ∈ lw_g := z_w (List.mem_append_right _ (List.mem_of_getElem? (i := 266) (by decide +kernel))) rfl
theorem wlX7_size : Cond.selects "NotLikeThem$Town" yX7_size yX7_size ∈ lw_g := z_w (List.mem_append_right _ (List.mem_of_getElem? (i := 267) (by decide +kernel))) rfl
theorem wyX7_size : yX7_size.cls ≠ "java/lang/invoke/MethodHandle" ∧ yX7_size.cls ≠ "java/lang/invoke/VarHandle" ∧ (parseMethodDescriptor yX7_size.desc).map (fun d => d.parameters.length) = some 0 := ⟨by decide +kernel, by decide +kernel, by decide +kernel⟩
theorem wcX7_dresses : Cond.code yX7_dresses cX7_dresses 1 (some .int) ∈ lw_g := z_w (List.mem_append_right _ (List.mem_of_getElem? (i := 344) (by decide +kernel))) rfl
theorem wiX7_dresses : Cond.instanceMethod yX7_dresses ∈ lw_g := z_w (List.mem_append_right _ (List.mem_of_getElem? (i := 342) (by decide +kernel))) rfl
theorem wlX7_dresses : Cond.selects "NotLikeThem$Town" yX7_dresses yX7_dresses ∈ lw_g := z_w (List.mem_append_right _ (List.mem_of_getElem? (i := 343) (by decide +kernel))) rfl
theorem wyX7_dresses : yX7_dresses.cls ≠ "java/lang/invoke/MethodHandle" ∧ yX7_dresses.cls ≠ "java/lang/invoke/VarHandle" ∧ (parseMethodDescriptor yX7_dresses.desc).map (fun d => d.parameters.length) = some 0 := ⟨by decide +kernel, by decide +kernel, by decide +kernel⟩
theorem wcX7_version : Cond.code yX7_version cX7_version 1 (some .int) ∈ lw_g := z_w (List.mem_append_right _ (List.mem_of_getElem? (i := 387) (by decide +kernel))) rfl
theorem wiX7_version : Cond.instanceMethod yX7_version ∈ lw_g := z_w (List.mem_append_right _ (List.mem_of_getElem? (i := 385) (by decide +kernel))) rfl
theorem wlX7_version : Cond.selects "NotLikeThem$Town" yX7_version yX7_version ∈ lw_g := z_w (List.mem_append_right _ (List.mem_of_getElem? (i := 386) (by decide +kernel))) rfl
theorem wyX7_version : yX7_version.cls ≠ "java/lang/invoke/MethodHandle" ∧ yX7_version.cls ≠ "java/lang/invoke/VarHandle" ∧ (parseMethodDescriptor yX7_version.desc).map (fun d => d.parameters.length) = some 0 := ⟨by decide +kernel, by decide +kernel, by decide +kernel⟩
theorem wcX7_has : Cond.code yX7_has cX7_has 2 (some .boolean) ∈ lw_g := z_w (List.mem_append_right _ (List.mem_of_getElem? (i := 288) (by decide +kernel))) rfl
theorem wiX7_has : Cond.instanceMethod yX7_has ∈ lw_g := z_w (List.mem_append_right _ (List.mem_of_getElem? (i := 286) (by decide +kernel))) rfl
theorem wlX7_has : Cond.selects "NotLikeThem$Town" yX7_has yX7_has ∈ lw_g := z_w (List.mem_append_right _ (List.mem_of_getElem? (i := 287) (by decide +kernel))) rfl
theorem wyX7_has : yX7_has.cls ≠ "java/lang/invoke/MethodHandle" ∧ yX7_has.cls ≠ "java/lang/invoke/VarHandle" ∧ (parseMethodDescriptor yX7_has.desc).map (fun d => d.parameters.length) = some 1 := ⟨by decide +kernel, by decide +kernel, by decide +kernel⟩
theorem wcX7_isDress : Cond.code yX7_isDress cX7_isDress 2 (some .boolean) ∈ lw_g := z_w (List.mem_append_right _ (List.mem_of_getElem? (i := 340) (by decide +kernel))) rfl
theorem wiX7_isDress : Cond.instanceMethod yX7_isDress ∈ lw_g := z_w (List.mem_append_right _ (List.mem_of_getElem? (i := 338) (by decide +kernel))) rfl
theorem wlX7_isDress : Cond.selects "NotLikeThem$Town" yX7_isDress yX7_isDress ∈ lw_g := z_w (List.mem_append_right _ (List.mem_of_getElem? (i := 339) (by decide +kernel))) rfl
theorem wyX7_isDress : yX7_isDress.cls ≠ "java/lang/invoke/MethodHandle" ∧ yX7_isDress.cls ≠ "java/lang/invoke/VarHandle" ∧ (parseMethodDescriptor yX7_isDress.desc).map (fun d => d.parameters.length) = some 1 := ⟨by decide +kernel, by decide +kernel, by decide +kernel⟩
theorem wcX7_startAnew : Cond.code yX7_startAnew cX7_startAnew 4 none ∈ lw_g := z_w (List.mem_append_right _ (List.mem_of_getElem? (i := 272) (by decide +kernel))) rfl
theorem wiX7_startAnew : Cond.instanceMethod yX7_startAnew ∈ lw_g := z_w (List.mem_append_right _ (List.mem_of_getElem? (i := 270) (by decide +kernel))) rfl
theorem wlX7_startAnew : Cond.selects "NotLikeThem$Town" yX7_startAnew yX7_startAnew ∈ lw_g := z_w (List.mem_append_right _ (List.mem_of_getElem? (i := 271) (by decide +kernel))) rfl
theorem wyX7_startAnew : yX7_startAnew.cls ≠ "java/lang/invoke/MethodHandle" ∧ yX7_startAnew.cls ≠ "java/lang/invoke/VarHandle" ∧ (parseMethodDescriptor yX7_startAnew.desc).map (fun d => d.parameters.length) = some 1 := ⟨by decide +kernel, by decide +kernel, by decide +kernel⟩
theorem wcX7_weight : Cond.code yX7_weight cX7_weight 3 (some .int) ∈ lw_g := z_w (List.mem_append_right _ (List.mem_of_getElem? (i := 292) (by decide +kernel))) rfl
theorem wiX7_weight : Cond.instanceMethod yX7_weight ∈ lw_g := z_w (List.mem_append_right _ (List.mem_of_getElem? (i := 290) (by decide +kernel))) rfl
theorem wlX7_weight : Cond.selects "NotLikeThem$Town" yX7_weight yX7_weight ∈ lw_g := z_w (List.mem_append_right _ (List.mem_of_getElem? (i := 291) (by decide +kernel))) rfl
theorem wyX7_weight : yX7_weight.cls ≠ "java/lang/invoke/MethodHandle" ∧ yX7_weight.cls ≠ "java/lang/invoke/VarHandle" ∧ (parseMethodDescriptor yX7_weight.desc).map (fun d => d.parameters.length) = some 2 := ⟨by decide +kernel, by decide +kernel, by decide +kernel⟩
theorem wcX7_setWeight : Cond.code yX7_setWeight cX7_setWeight 4 none ∈ lw_g := z_w (List.mem_append_right _ (List.mem_of_getElem? (i := 296) (by decide +kernel))) rfl
theorem wiX7_setWeight : Cond.instanceMethod yX7_setWeight ∈ lw_g := z_w (List.mem_append_right _ (List.mem_of_getElem? (i := 294) (by decide +kernel))) rfl
theorem wlX7_setWeight : Cond.selects "NotLikeThem$Town" yX7_setWeight yX7_setWeight ∈ lw_g := z_w (List.mem_append_right _ (List.mem_of_getElem? (i := 295) (by decide +kernel))) rfl
theorem wyX7_setWeight : yX7_setWeight.cls ≠ "java/lang/invoke/MethodHandle" ∧ yX7_setWeight.cls ≠ "java/lang/invoke/VarHandle" ∧ (parseMethodDescriptor yX7_setWeight.desc).map (fun d => d.parameters.length) = some 3 := ⟨by decide +kernel, by decide +kernel, by decide +kernel⟩
theorem wcX7_kind : Cond.code yX7_kind cX7_kind 2 (some .int) ∈ lw_g := z_w (List.mem_append_right _ (List.mem_of_getElem? (i := 304) (by decide +kernel))) rfl
theorem wiX7_kind : Cond.instanceMethod yX7_kind ∈ lw_g := z_w (List.mem_append_right _ (List.mem_of_getElem? (i := 302) (by decide +kernel))) rfl
theorem wlX7_kind : Cond.selects "NotLikeThem$Town" yX7_kind yX7_kind ∈ lw_g := z_w (List.mem_append_right _ (List.mem_of_getElem? (i := 303) (by decide +kernel))) rfl
theorem wyX7_kind : yX7_kind.cls ≠ "java/lang/invoke/MethodHandle" ∧ yX7_kind.cls ≠ "java/lang/invoke/VarHandle" ∧ (parseMethodDescriptor yX7_kind.desc).map (fun d => d.parameters.length) = some 1 := ⟨by decide +kernel, by decide +kernel, by decide +kernel⟩
theorem wcX7_setKind : Cond.code yX7_setKind cX7_setKind 3 none ∈ lw_g := z_w (List.mem_append_right _ (List.mem_of_getElem? (i := 308) (by decide +kernel))) rfl
theorem wiX7_setKind : Cond.instanceMethod yX7_setKind ∈ lw_g := z_w (List.mem_append_right _ (List.mem_of_getElem? (i := 306) (by decide +kernel))) rfl
theorem wlX7_setKind : Cond.selects "NotLikeThem$Town" yX7_setKind yX7_setKind ∈ lw_g := z_w (List.mem_append_right _ (List.mem_of_getElem? (i := 307) (by decide +kernel))) rfl
theorem wyX7_setKind : yX7_setKind.cls ≠ "java/lang/invoke/MethodHandle" ∧ yX7_setKind.cls ≠ "java/lang/invoke/VarHandle" ∧ (parseMethodDescriptor yX7_setKind.desc).map (fun d => d.parameters.length) = some 2 := ⟨by decide +kernel, by decide +kernel, by decide +kernel⟩
theorem wcX7_lean : Cond.code yX7_lean cX7_lean 2 (some .int) ∈ lw_g := z_w (List.mem_append_right _ (List.mem_of_getElem? (i := 312) (by decide +kernel))) rfl
theorem wiX7_lean : Cond.instanceMethod yX7_lean ∈ lw_g := z_w (List.mem_append_right _ (List.mem_of_getElem? (i := 310) (by decide +kernel))) rfl
theorem wlX7_lean : Cond.selects "NotLikeThem$Town" yX7_lean yX7_lean ∈ lw_g := z_w (List.mem_append_right _ (List.mem_of_getElem? (i := 311) (by decide +kernel))) rfl
theorem wyX7_lean : yX7_lean.cls ≠ "java/lang/invoke/MethodHandle" ∧ yX7_lean.cls ≠ "java/lang/invoke/VarHandle" ∧ (parseMethodDescriptor yX7_lean.desc).map (fun d => d.parameters.length) = some 1 := ⟨by decide +kernel, by decide +kernel, by decide +kernel⟩
theorem wcX7_setLean : Cond.code yX7_setLean cX7_setLean 3 none ∈ lw_g := z_w (List.mem_append_right _ (List.mem_of_getElem? (i := 316) (by decide +kernel))) rfl
theorem wiX7_setLean : Cond.instanceMethod yX7_setLean ∈ lw_g := z_w (List.mem_append_right _ (List.mem_of_getElem? (i := 314) (by decide +kernel))) rfl
theorem wlX7_setLean : Cond.selects "NotLikeThem$Town" yX7_setLean yX7_setLean ∈ lw_g := z_w (List.mem_append_right _ (List.mem_of_getElem? (i := 315) (by decide +kernel))) rfl
theorem wyX7_setLean : yX7_setLean.cls ≠ "java/lang/invoke/MethodHandle" ∧ yX7_setLean.cls ≠ "java/lang/invoke/VarHandle" ∧ (parseMethodDescriptor yX7_setLean.desc).map (fun d => d.parameters.length) = some 2 := ⟨by decide +kernel, by decide +kernel, by decide +kernel⟩
theorem wcX7_changed : Cond.code yX7_changed cX7_changed 2 none ∈ lw_g := z_w (List.mem_append_right _ (List.mem_of_getElem? (i := 276) (by decide +kernel))) rfl
theorem wiX7_changed : Cond.instanceMethod yX7_changed ∈ lw_g := z_w (List.mem_append_right _ (List.mem_of_getElem? (i := 275) (by decide +kernel))) rfl
theorem wlX7_changed : Cond.selects "NotLikeThem$Town" yX7_changed yX7_changed ∈ lw_g := z_w (List.mem_append_left _ (List.mem_of_getElem? (i := 0) (by decide +kernel))) rfl
theorem wyX7_changed : yX7_changed.cls ≠ "java/lang/invoke/MethodHandle" ∧ yX7_changed.cls ≠ "java/lang/invoke/VarHandle" ∧ (parseMethodDescriptor yX7_changed.desc).map (fun d => d.parameters.length) = some 1 := ⟨by decide +kernel, by decide +kernel, by decide +kernel⟩
theorem wcX7_seenBy : Cond.code yX7_seenBy cX7_seenBy 4 (some .int) ∈ lw_g := z_w (List.mem_append_right _ (List.mem_of_getElem? (i := 324) (by decide +kernel))) rfl
theorem wiX7_seenBy : Cond.instanceMethod yX7_seenBy ∈ lw_g := z_w (List.mem_append_right _ (List.mem_of_getElem? (i := 322) (by decide +kernel))) rfl
theorem wlX7_seenBy : Cond.selects "NotLikeThem$Town" yX7_seenBy yX7_seenBy ∈ lw_g := z_w (List.mem_append_right _ (List.mem_of_getElem? (i := 323) (by decide +kernel))) rfl
theorem wyX7_seenBy : yX7_seenBy.cls ≠ "java/lang/invoke/MethodHandle" ∧ yX7_seenBy.cls ≠ "java/lang/invoke/VarHandle" ∧ (parseMethodDescriptor yX7_seenBy.desc).map (fun d => d.parameters.length) = some 1 := ⟨by decide +kernel, by decide +kernel, by decide +kernel⟩
theorem wcX7_seeing : Cond.code yX7_seeing cX7_seeing 4 (some .int) ∈ lw_g := z_w (List.mem_append_right _ (List.mem_of_getElem? (i := 328) (by decide +kernel))) rfl
theorem wiX7_seeing : Cond.instanceMethod yX7_seeing ∈ lw_g := z_w (List.mem_append_right _ (List.mem_of_getElem? (i := 326) (by decide +kernel))) rfl
theorem wlX7_seeing : Cond.selects "NotLikeThem$Town" yX7_seeing yX7_seeing ∈ lw_g := z_w (List.mem_append_right _ (List.mem_of_getElem? (i := 327) (by decide +kernel))) rfl
theorem wyX7_seeing : yX7_seeing.cls ≠ "java/lang/invoke/MethodHandle" ∧ yX7_seeing.cls ≠ "java/lang/invoke/VarHandle" ∧ (parseMethodDescriptor yX7_seeing.desc).map (fun d => d.parameters.length) = some 1 := ⟨by decide +kernel, by decide +kernel, by decide +kernel⟩
theorem wcX7_ties : Cond.code yX7_ties cX7_ties 3 (some .int) ∈ lw_g := z_w (List.mem_append_right _ (List.mem_of_getElem? (i := 749) (by decide +kernel))) rfl
theorem wiX7_ties : Cond.instanceMethod yX7_ties ∈ lw_g := z_w (List.mem_append_right _ (List.mem_of_getElem? (i := 747) (by decide +kernel))) rfl
theorem wlX7_ties : Cond.selects "NotLikeThem$Town" yX7_ties yX7_ties ∈ lw_g := z_w (List.mem_append_right _ (List.mem_of_getElem? (i := 748) (by decide +kernel))) rfl
theorem wyX7_ties : yX7_ties.cls ≠ "java/lang/invoke/MethodHandle" ∧ yX7_ties.cls ≠ "java/lang/invoke/VarHandle" ∧ (parseMethodDescriptor yX7_ties.desc).map (fun d => d.parameters.length) = some 0 := ⟨by decide +kernel, by decide +kernel, by decide +kernel⟩
theorem wcX7_countKind : Cond.code yX7_countKind cX7_countKind 4 (some .int) ∈ lw_g := z_w (List.mem_append_right _ (List.mem_of_getElem? (i := 499) (by decide +kernel))) rfl
theorem wiX7_countKind : Cond.instanceMethod yX7_countKind ∈ lw_g := z_w (List.mem_append_right _ (List.mem_of_getElem? (i := 497) (by decide +kernel))) rfl
theorem wlX7_countKind : Cond.selects "NotLikeThem$Town" yX7_countKind yX7_countKind ∈ lw_g := z_w (List.mem_append_right _ (List.mem_of_getElem? (i := 498) (by decide +kernel))) rfl
theorem wyX7_countKind : yX7_countKind.cls ≠ "java/lang/invoke/MethodHandle" ∧ yX7_countKind.cls ≠ "java/lang/invoke/VarHandle" ∧ (parseMethodDescriptor yX7_countKind.desc).map (fun d => d.parameters.length) = some 1 := ⟨by decide +kernel, by decide +kernel, by decide +kernel⟩
theorem wcX7_sumOf : Cond.code yX7_sumOf cX7_sumOf 6 (some .int) ∈ lw_g := z_w (List.mem_append_right _ (List.mem_of_getElem? (i := 348) (by decide +kernel))) rfl
theorem wiX7_sumOf : Cond.instanceMethod yX7_sumOf ∈ lw_g := z_w (List.mem_append_right _ (List.mem_of_getElem? (i := 346) (by decide +kernel))) rfl
theorem wlX7_sumOf : Cond.selects "NotLikeThem$Town" yX7_sumOf yX7_sumOf ∈ lw_g := z_w (List.mem_append_right _ (List.mem_of_getElem? (i := 347) (by decide +kernel))) rfl
theorem wyX7_sumOf : yX7_sumOf.cls ≠ "java/lang/invoke/MethodHandle" ∧ yX7_sumOf.cls ≠ "java/lang/invoke/VarHandle" ∧ (parseMethodDescriptor yX7_sumOf.desc).map (fun d => d.parameters.length) = some 2 := ⟨by decide +kernel, by decide +kernel, by decide +kernel⟩
theorem wcX7_worn : Cond.code yX7_worn cX7_worn 2 (some .int) ∈ lw_g := z_w (List.mem_append_right _ (List.mem_of_getElem? (i := 351) (by decide +kernel))) rfl
theorem wsX7_worn : Cond.static yX7_worn ∈ lw_g := z_w (List.mem_append_right _ (List.mem_of_getElem? (i := 350) (by decide +kernel))) rfl
theorem wyX7_worn : yX7_worn.cls ≠ "java/lang/invoke/MethodHandle" ∧ yX7_worn.cls ≠ "java/lang/invoke/VarHandle" ∧ (parseMethodDescriptor yX7_worn.desc).map (fun d => d.parameters.length) = some 2 := ⟨by decide +kernel, by decide +kernel, by decide +kernel⟩
theorem wcX7_nextOf : Cond.code yX7_nextOf cX7_nextOf 3 (some .int) ∈ lw_g := z_w (List.mem_append_right _ (List.mem_of_getElem? (i := 368) (by decide +kernel))) rfl
theorem wsX7_nextOf : Cond.static yX7_nextOf ∈ lw_g := z_w (List.mem_append_right _ (List.mem_of_getElem? (i := 367) (by decide +kernel))) rfl
theorem wyX7_nextOf : yX7_nextOf.cls ≠ "java/lang/invoke/MethodHandle" ∧ yX7_nextOf.cls ≠ "java/lang/invoke/VarHandle" ∧ (parseMethodDescriptor yX7_nextOf.desc).map (fun d => d.parameters.length) = some 3 := ⟨by decide +kernel, by decide +kernel, by decide +kernel⟩
theorem wcX7_isCalm : Cond.code yX7_isCalm cX7_isCalm 4 (some .boolean) ∈ lw_g := z_w (List.mem_append_right _ (List.mem_of_getElem? (i := 364) (by decide +kernel))) rfl
theorem wiX7_isCalm : Cond.instanceMethod yX7_isCalm ∈ lw_g := z_w (List.mem_append_right _ (List.mem_of_getElem? (i := 362) (by decide +kernel))) rfl
theorem wlX7_isCalm : Cond.selects "NotLikeThem$Town" yX7_isCalm yX7_isCalm ∈ lw_g := z_w (List.mem_append_right _ (List.mem_of_getElem? (i := 363) (by decide +kernel))) rfl
theorem wyX7_isCalm : yX7_isCalm.cls ≠ "java/lang/invoke/MethodHandle" ∧ yX7_isCalm.cls ≠ "java/lang/invoke/VarHandle" ∧ (parseMethodDescriptor yX7_isCalm.desc).map (fun d => d.parameters.length) = some 2 := ⟨by decide +kernel, by decide +kernel, by decide +kernel⟩
theorem wcX7_restlessIn : Cond.code yX7_restlessIn cX7_restlessIn 4 (some .int) ∈ lw_g := z_w (List.mem_append_right _ (List.mem_of_getElem? (i := 360) (by decide +kernel))) rfl
theorem wiX7_restlessIn : Cond.instanceMethod yX7_restlessIn ∈ lw_g := z_w (List.mem_append_right _ (List.mem_of_getElem? (i := 358) (by decide +kernel))) rfl
theorem wlX7_restlessIn : Cond.selects "NotLikeThem$Town" yX7_restlessIn yX7_restlessIn ∈ lw_g := z_w (List.mem_append_right _ (List.mem_of_getElem? (i := 359) (by decide +kernel))) rfl
theorem wyX7_restlessIn : yX7_restlessIn.cls ≠ "java/lang/invoke/MethodHandle" ∧ yX7_restlessIn.cls ≠ "java/lang/invoke/VarHandle" ∧ (parseMethodDescriptor yX7_restlessIn.desc).map (fun d => d.parameters.length) = some 1 := ⟨by decide +kernel, by decide +kernel, by decide +kernel⟩
theorem wcX7_restless : Cond.code yX7_restless cX7_restless 2 (some (.array .int)) ∈ lw_g := z_w (List.mem_append_right _ (List.mem_of_getElem? (i := 391) (by decide +kernel))) rfl
theorem wiX7_restless : Cond.instanceMethod yX7_restless ∈ lw_g := z_w (List.mem_append_right _ (List.mem_of_getElem? (i := 389) (by decide +kernel))) rfl
theorem wlX7_restless : Cond.selects "NotLikeThem$Town" yX7_restless yX7_restless ∈ lw_g := z_w (List.mem_append_right _ (List.mem_of_getElem? (i := 390) (by decide +kernel))) rfl
theorem wyX7_restless : yX7_restless.cls ≠ "java/lang/invoke/MethodHandle" ∧ yX7_restless.cls ≠ "java/lang/invoke/VarHandle" ∧ (parseMethodDescriptor yX7_restless.desc).map (fun d => d.parameters.length) = some 0 := ⟨by decide +kernel, by decide +kernel, by decide +kernel⟩
theorem wcX7_renew : Cond.code yX7_renew cX7_renew 8 none ∈ lw_g := z_w (List.mem_append_right _ (List.mem_of_getElem? (i := 395) (by decide +kernel))) rfl
theorem wiX7_renew : Cond.instanceMethod yX7_renew ∈ lw_g := z_w (List.mem_append_right _ (List.mem_of_getElem? (i := 394) (by decide +kernel))) rfl
theorem wlX7_renew : Cond.selects "NotLikeThem$Town" yX7_renew yX7_renew ∈ lw_g := z_w (List.mem_append_left _ (List.mem_of_getElem? (i := 1) (by decide +kernel))) rfl
theorem wyX7_renew : yX7_renew.cls ≠ "java/lang/invoke/MethodHandle" ∧ yX7_renew.cls ≠ "java/lang/invoke/VarHandle" ∧ (parseMethodDescriptor yX7_renew.desc).map (fun d => d.parameters.length) = some 1 := ⟨by decide +kernel, by decide +kernel, by decide +kernel⟩
theorem wcX7_fillSums : Cond.code yX7_fillSums cX7_fillSums 8 none ∈ lw_g := z_w (List.mem_append_right _ (List.mem_of_getElem? (i := 399) (by decide +kernel))) rfl
theorem wiX7_fillSums : Cond.instanceMethod yX7_fillSums ∈ lw_g := z_w (List.mem_append_right _ (List.mem_of_getElem? (i := 398) (by decide +kernel))) rfl
theorem wlX7_fillSums : Cond.selects "NotLikeThem$Town" yX7_fillSums yX7_fillSums ∈ lw_g := z_w (List.mem_append_left _ (List.mem_of_getElem? (i := 2) (by decide +kernel))) rfl
theorem wyX7_fillSums : yX7_fillSums.cls ≠ "java/lang/invoke/MethodHandle" ∧ yX7_fillSums.cls ≠ "java/lang/invoke/VarHandle" ∧ (parseMethodDescriptor yX7_fillSums.desc).map (fun d => d.parameters.length) = some 1 := ⟨by decide +kernel, by decide +kernel, by decide +kernel⟩
theorem wcX8_stepsBy : Cond.code yX8_stepsBy cX8_stepsBy 5 (some (.array .int)) ∈ lw_g := z_w (List.mem_append_right _ (List.mem_of_getElem? (i := 383) (by decide +kernel))) rfl
theorem wiX8_stepsBy : Cond.instanceMethod yX8_stepsBy ∈ lw_g := z_w (List.mem_append_right _ (List.mem_of_getElem? (i := 381) (by decide +kernel))) rfl
theorem wlX8_stepsBy : Cond.selects "NotLikeThem$Walk" yX8_stepsBy yX8_stepsBy ∈ lw_g := z_w (List.mem_append_right _ (List.mem_of_getElem? (i := 382) (by decide +kernel))) rfl
theorem wyX8_stepsBy : yX8_stepsBy.cls ≠ "java/lang/invoke/MethodHandle" ∧ yX8_stepsBy.cls ≠ "java/lang/invoke/VarHandle" ∧ (parseMethodDescriptor yX8_stepsBy.desc).map (fun d => d.parameters.length) = some 1 := ⟨by decide +kernel, by decide +kernel, by decide +kernel⟩
theorem wcX8_oneByOne : Cond.code yX8_oneByOne cX8_oneByOne 6 (some .int) ∈ lw_g := z_w (List.mem_append_right _ (List.mem_of_getElem? (i := 404) (by decide +kernel))) rfl
theorem wiX8_oneByOne : Cond.instanceMethod yX8_oneByOne ∈ lw_g := z_w (List.mem_append_right _ (List.mem_of_getElem? (i := 403) (by decide +kernel))) rfl
theorem wlX8_oneByOne : Cond.selects "NotLikeThem$Walk" yX8_oneByOne yX8_oneByOne ∈ lw_g := z_w (List.mem_append_left _ (List.mem_of_getElem? (i := 3) (by decide +kernel))) rfl
theorem wyX8_oneByOne : yX8_oneByOne.cls ≠ "java/lang/invoke/MethodHandle" ∧ yX8_oneByOne.cls ≠ "java/lang/invoke/VarHandle" ∧ (parseMethodDescriptor yX8_oneByOne.desc).map (fun d => d.parameters.length) = some 2 := ⟨by decide +kernel, by decide +kernel, by decide +kernel⟩
theorem wcX8_behind : Cond.code yX8_behind cX8_behind 6 (some .int) ∈ lw_g := z_w (List.mem_append_right _ (List.mem_of_getElem? (i := 379) (by decide +kernel))) rfl
theorem wiX8_behind : Cond.instanceMethod yX8_behind ∈ lw_g := z_w (List.mem_append_right _ (List.mem_of_getElem? (i := 377) (by decide +kernel))) rfl
theorem wlX8_behind : Cond.selects "NotLikeThem$Walk" yX8_behind yX8_behind ∈ lw_g := z_w (List.mem_append_right _ (List.mem_of_getElem? (i := 378) (by decide +kernel))) rfl
theorem wyX8_behind : yX8_behind.cls ≠ "java/lang/invoke/MethodHandle" ∧ yX8_behind.cls ≠ "java/lang/invoke/VarHandle" ∧ (parseMethodDescriptor yX8_behind.desc).map (fun d => d.parameters.length) = some 3 := ⟨by decide +kernel, by decide +kernel, by decide +kernel⟩
theorem wcX8_stepsToRing : Cond.code yX8_stepsToRing cX8_stepsToRing 3 (some .int) ∈ lw_g := z_w (List.mem_append_right _ (List.mem_of_getElem? (i := 413) (by decide +kernel))) rfl
theorem wiX8_stepsToRing : Cond.instanceMethod yX8_stepsToRing ∈ lw_g := z_w (List.mem_append_right _ (List.mem_of_getElem? (i := 411) (by decide +kernel))) rfl
theorem wlX8_stepsToRing : Cond.selects "NotLikeThem$Walk" yX8_stepsToRing yX8_stepsToRing ∈ lw_g := z_w (List.mem_append_right _ (List.mem_of_getElem? (i := 412) (by decide +kernel))) rfl
theorem wyX8_stepsToRing : yX8_stepsToRing.cls ≠ "java/lang/invoke/MethodHandle" ∧ yX8_stepsToRing.cls ≠ "java/lang/invoke/VarHandle" ∧ (parseMethodDescriptor yX8_stepsToRing.desc).map (fun d => d.parameters.length) = some 2 := ⟨by decide +kernel, by decide +kernel, by decide +kernel⟩
theorem wcX8_entered : Cond.code yX8_entered cX8_entered 5 (some .int) ∈ lw_g := z_w (List.mem_append_right _ (List.mem_of_getElem? (i := 429) (by decide +kernel))) rfl
theorem wiX8_entered : Cond.instanceMethod yX8_entered ∈ lw_g := z_w (List.mem_append_right _ (List.mem_of_getElem? (i := 427) (by decide +kernel))) rfl
theorem wlX8_entered : Cond.selects "NotLikeThem$Walk" yX8_entered yX8_entered ∈ lw_g := z_w (List.mem_append_right _ (List.mem_of_getElem? (i := 428) (by decide +kernel))) rfl
theorem wyX8_entered : yX8_entered.cls ≠ "java/lang/invoke/MethodHandle" ∧ yX8_entered.cls ≠ "java/lang/invoke/VarHandle" ∧ (parseMethodDescriptor yX8_entered.desc).map (fun d => d.parameters.length) = some 2 := ⟨by decide +kernel, by decide +kernel, by decide +kernel⟩
theorem wcX8_ringCount : Cond.code yX8_ringCount cX8_ringCount 5 (some .int) ∈ lw_g := z_w (List.mem_append_right _ (List.mem_of_getElem? (i := 441) (by decide +kernel))) rfl
theorem wiX8_ringCount : Cond.instanceMethod yX8_ringCount ∈ lw_g := z_w (List.mem_append_right _ (List.mem_of_getElem? (i := 439) (by decide +kernel))) rfl
theorem wlX8_ringCount : Cond.selects "NotLikeThem$Walk" yX8_ringCount yX8_ringCount ∈ lw_g := z_w (List.mem_append_right _ (List.mem_of_getElem? (i := 440) (by decide +kernel))) rfl
theorem wyX8_ringCount : yX8_ringCount.cls ≠ "java/lang/invoke/MethodHandle" ∧ yX8_ringCount.cls ≠ "java/lang/invoke/VarHandle" ∧ (parseMethodDescriptor yX8_ringCount.desc).map (fun d => d.parameters.length) = some 1 := ⟨by decide +kernel, by decide +kernel, by decide +kernel⟩
theorem wcX8_leastOfRing : Cond.code yX8_leastOfRing cX8_leastOfRing 6 (some .int) ∈ lw_g := z_w (List.mem_append_right _ (List.mem_of_getElem? (i := 449) (by decide +kernel))) rfl
theorem wiX8_leastOfRing : Cond.instanceMethod yX8_leastOfRing ∈ lw_g := z_w (List.mem_append_right _ (List.mem_of_getElem? (i := 447) (by decide +kernel))) rfl
theorem wlX8_leastOfRing : Cond.selects "NotLikeThem$Walk" yX8_leastOfRing yX8_leastOfRing ∈ lw_g := z_w (List.mem_append_right _ (List.mem_of_getElem? (i := 448) (by decide +kernel))) rfl
theorem wyX8_leastOfRing : yX8_leastOfRing.cls ≠ "java/lang/invoke/MethodHandle" ∧ yX8_leastOfRing.cls ≠ "java/lang/invoke/VarHandle" ∧ (parseMethodDescriptor yX8_leastOfRing.desc).map (fun d => d.parameters.length) = some 2 := ⟨by decide +kernel, by decide +kernel, by decide +kernel⟩
theorem wcX8_lengthOf : Cond.code yX8_lengthOf cX8_lengthOf 5 (some .int) ∈ lw_g := z_w (List.mem_append_right _ (List.mem_of_getElem? (i := 433) (by decide +kernel))) rfl
theorem wiX8_lengthOf : Cond.instanceMethod yX8_lengthOf ∈ lw_g := z_w (List.mem_append_right _ (List.mem_of_getElem? (i := 431) (by decide +kernel))) rfl
theorem wlX8_lengthOf : Cond.selects "NotLikeThem$Walk" yX8_lengthOf yX8_lengthOf ∈ lw_g := z_w (List.mem_append_right _ (List.mem_of_getElem? (i := 432) (by decide +kernel))) rfl
theorem wyX8_lengthOf : yX8_lengthOf.cls ≠ "java/lang/invoke/MethodHandle" ∧ yX8_lengthOf.cls ≠ "java/lang/invoke/VarHandle" ∧ (parseMethodDescriptor yX8_lengthOf.desc).map (fun d => d.parameters.length) = some 2 := ⟨by decide +kernel, by decide +kernel, by decide +kernel⟩
theorem wcX8_drawnTo : Cond.code yX8_drawnTo cX8_drawnTo 6 (some .int) ∈ lw_g := z_w (List.mem_append_right _ (List.mem_of_getElem? (i := 453) (by decide +kernel))) rfl
theorem wiX8_drawnTo : Cond.instanceMethod yX8_drawnTo ∈ lw_g := z_w (List.mem_append_right _ (List.mem_of_getElem? (i := 451) (by decide +kernel))) rfl
theorem wlX8_drawnTo : Cond.selects "NotLikeThem$Walk" yX8_drawnTo yX8_drawnTo ∈ lw_g := z_w (List.mem_append_right _ (List.mem_of_getElem? (i := 452) (by decide +kernel))) rfl
theorem wyX8_drawnTo : yX8_drawnTo.cls ≠ "java/lang/invoke/MethodHandle" ∧ yX8_drawnTo.cls ≠ "java/lang/invoke/VarHandle" ∧ (parseMethodDescriptor yX8_drawnTo.desc).map (fun d => d.parameters.length) = some 2 := ⟨by decide +kernel, by decide +kernel, by decide +kernel⟩
theorem wcX8_farthestFrom : Cond.code yX8_farthestFrom cX8_farthestFrom 6 (some .int) ∈ lw_g := z_w (List.mem_append_right _ (List.mem_of_getElem? (i := 457) (by decide +kernel))) rfl
theorem wiX8_farthestFrom : Cond.instanceMethod yX8_farthestFrom ∈ lw_g := z_w (List.mem_append_right _ (List.mem_of_getElem? (i := 455) (by decide +kernel))) rfl
theorem wlX8_farthestFrom : Cond.selects "NotLikeThem$Walk" yX8_farthestFrom yX8_farthestFrom ∈ lw_g := z_w (List.mem_append_right _ (List.mem_of_getElem? (i := 456) (by decide +kernel))) rfl
theorem wyX8_farthestFrom : yX8_farthestFrom.cls ≠ "java/lang/invoke/MethodHandle" ∧ yX8_farthestFrom.cls ≠ "java/lang/invoke/VarHandle" ∧ (parseMethodDescriptor yX8_farthestFrom.desc).map (fun d => d.parameters.length) = some 2 := ⟨by decide +kernel, by decide +kernel, by decide +kernel⟩
theorem wcX8_greatestLength : Cond.code yX8_greatestLength cX8_greatestLength 5 (some .int) ∈ lw_g := z_w (List.mem_append_right _ (List.mem_of_getElem? (i := 468) (by decide +kernel))) rfl
theorem wiX8_greatestLength : Cond.instanceMethod yX8_greatestLength ∈ lw_g := z_w (List.mem_append_right _ (List.mem_of_getElem? (i := 466) (by decide +kernel))) rfl
theorem wlX8_greatestLength : Cond.selects "NotLikeThem$Walk" yX8_greatestLength yX8_greatestLength ∈ lw_g := z_w (List.mem_append_right _ (List.mem_of_getElem? (i := 467) (by decide +kernel))) rfl
theorem wyX8_greatestLength : yX8_greatestLength.cls ≠ "java/lang/invoke/MethodHandle" ∧ yX8_greatestLength.cls ≠ "java/lang/invoke/VarHandle" ∧ (parseMethodDescriptor yX8_greatestLength.desc).map (fun d => d.parameters.length) = some 1 := ⟨by decide +kernel, by decide +kernel, by decide +kernel⟩
theorem wcX8_findRings : Cond.code yX8_findRings cX8_findRings 6 none ∈ lw_g := z_w (List.mem_append_right _ (List.mem_of_getElem? (i := 417) (by decide +kernel))) rfl
theorem wiX8_findRings : Cond.instanceMethod yX8_findRings ∈ lw_g := z_w (List.mem_append_right _ (List.mem_of_getElem? (i := 416) (by decide +kernel))) rfl
theorem wlX8_findRings : Cond.selects "NotLikeThem$Walk" yX8_findRings yX8_findRings ∈ lw_g := z_w (List.mem_append_left _ (List.mem_of_getElem? (i := 4) (by decide +kernel))) rfl
theorem wyX8_findRings : yX8_findRings.cls ≠ "java/lang/invoke/MethodHandle" ∧ yX8_findRings.cls ≠ "java/lang/invoke/VarHandle" ∧ (parseMethodDescriptor yX8_findRings.desc).map (fun d => d.parameters.length) = some 1 := ⟨by decide +kernel, by decide +kernel, by decide +kernel⟩
theorem wcX8_takeOff : Cond.code yX8_takeOff cX8_takeOff 5 (some .int) ∈ lw_g := z_w (List.mem_append_right _ (List.mem_of_getElem? (i := 421) (by decide +kernel))) rfl
theorem wiX8_takeOff : Cond.instanceMethod yX8_takeOff ∈ lw_g := z_w (List.mem_append_right _ (List.mem_of_getElem? (i := 420) (by decide +kernel))) rfl
theorem wlX8_takeOff : Cond.selects "NotLikeThem$Walk" yX8_takeOff yX8_takeOff ∈ lw_g := z_w (List.mem_append_left _ (List.mem_of_getElem? (i := 5) (by decide +kernel))) rfl
theorem wyX8_takeOff : yX8_takeOff.cls ≠ "java/lang/invoke/MethodHandle" ∧ yX8_takeOff.cls ≠ "java/lang/invoke/VarHandle" ∧ (parseMethodDescriptor yX8_takeOff.desc).map (fun d => d.parameters.length) = some 1 := ⟨by decide +kernel, by decide +kernel, by decide +kernel⟩
theorem wcX8_goRound : Cond.code yX8_goRound cX8_goRound 5 none ∈ lw_g := z_w (List.mem_append_right _ (List.mem_of_getElem? (i := 425) (by decide +kernel))) rfl
theorem wiX8_goRound : Cond.instanceMethod yX8_goRound ∈ lw_g := z_w (List.mem_append_right _ (List.mem_of_getElem? (i := 424) (by decide +kernel))) rfl
theorem wlX8_goRound : Cond.selects "NotLikeThem$Walk" yX8_goRound yX8_goRound ∈ lw_g := z_w (List.mem_append_left _ (List.mem_of_getElem? (i := 6) (by decide +kernel))) rfl
theorem wyX8_goRound : yX8_goRound.cls ≠ "java/lang/invoke/MethodHandle" ∧ yX8_goRound.cls ≠ "java/lang/invoke/VarHandle" ∧ (parseMethodDescriptor yX8_goRound.desc).map (fun d => d.parameters.length) = some 2 := ⟨by decide +kernel, by decide +kernel, by decide +kernel⟩
theorem wcX9_people : Cond.code yX9_people cX9_people 3 (some .int) ∈ lw_g := z_w (List.mem_append_right _ (List.mem_of_getElem? (i := 261) (by decide +kernel))) rfl
theorem wiX9_people : Cond.instanceMethod yX9_people ∈ lw_g := z_w (List.mem_append_right _ (List.mem_of_getElem? (i := 259) (by decide +kernel))) rfl
theorem wlX9_people : Cond.selects "NotLikeThem" yX9_people yX9_people ∈ lw_g := z_w (List.mem_append_right _ (List.mem_of_getElem? (i := 260) (by decide +kernel))) rfl
theorem wyX9_people : yX9_people.cls ≠ "java/lang/invoke/MethodHandle" ∧ yX9_people.cls ≠ "java/lang/invoke/VarHandle" ∧ (parseMethodDescriptor yX9_people.desc).map (fun d => d.parameters.length) = some 1 := ⟨by decide +kernel, by decide +kernel, by decide +kernel⟩
theorem wcX9_tie : Cond.code yX9_tie cX9_tie 5 (some .int) ∈ lw_g := z_w (List.mem_append_right _ (List.mem_of_getElem? (i := 284) (by decide +kernel))) rfl
theorem wiX9_tie : Cond.instanceMethod yX9_tie ∈ lw_g := z_w (List.mem_append_right _ (List.mem_of_getElem? (i := 282) (by decide +kernel))) rfl
theorem wlX9_tie : Cond.selects "NotLikeThem" yX9_tie yX9_tie ∈ lw_g := z_w (List.mem_append_right _ (List.mem_of_getElem? (i := 283) (by decide +kernel))) rfl
theorem wyX9_tie : yX9_tie.cls ≠ "java/lang/invoke/MethodHandle" ∧ yX9_tie.cls ≠ "java/lang/invoke/VarHandle" ∧ (parseMethodDescriptor yX9_tie.desc).map (fun d => d.parameters.length) = some 3 := ⟨by decide +kernel, by decide +kernel, by decide +kernel⟩
theorem wcX9_set : Cond.code yX9_set cX9_set 5 (some .int) ∈ lw_g := z_w (List.mem_append_right _ (List.mem_of_getElem? (i := 300) (by decide +kernel))) rfl
theorem wiX9_set : Cond.instanceMethod yX9_set ∈ lw_g := z_w (List.mem_append_right _ (List.mem_of_getElem? (i := 298) (by decide +kernel))) rfl
theorem wlX9_set : Cond.selects "NotLikeThem" yX9_set yX9_set ∈ lw_g := z_w (List.mem_append_right _ (List.mem_of_getElem? (i := 299) (by decide +kernel))) rfl
theorem wyX9_set : yX9_set.cls ≠ "java/lang/invoke/MethodHandle" ∧ yX9_set.cls ≠ "java/lang/invoke/VarHandle" ∧ (parseMethodDescriptor yX9_set.desc).map (fun d => d.parameters.length) = some 3 := ⟨by decide +kernel, by decide +kernel, by decide +kernel⟩
theorem wcX9_about : Cond.code yX9_about cX9_about 3 (some .int) ∈ lw_g := z_w (List.mem_append_right _ (List.mem_of_getElem? (i := 320) (by decide +kernel))) rfl
theorem wiX9_about : Cond.instanceMethod yX9_about ∈ lw_g := z_w (List.mem_append_right _ (List.mem_of_getElem? (i := 318) (by decide +kernel))) rfl
theorem wlX9_about : Cond.selects "NotLikeThem" yX9_about yX9_about ∈ lw_g := z_w (List.mem_append_right _ (List.mem_of_getElem? (i := 319) (by decide +kernel))) rfl
theorem wyX9_about : yX9_about.cls ≠ "java/lang/invoke/MethodHandle" ∧ yX9_about.cls ≠ "java/lang/invoke/VarHandle" ∧ (parseMethodDescriptor yX9_about.desc).map (fun d => d.parameters.length) = some 2 := ⟨by decide +kernel, by decide +kernel, by decide +kernel⟩
theorem wcX9_sees : Cond.code yX9_sees cX9_sees 3 (some .int) ∈ lw_g := z_w (List.mem_append_right _ (List.mem_of_getElem? (i := 332) (by decide +kernel))) rfl
theorem wiX9_sees : Cond.instanceMethod yX9_sees ∈ lw_g := z_w (List.mem_append_right _ (List.mem_of_getElem? (i := 330) (by decide +kernel))) rfl
theorem wlX9_sees : Cond.selects "NotLikeThem" yX9_sees yX9_sees ∈ lw_g := z_w (List.mem_append_right _ (List.mem_of_getElem? (i := 331) (by decide +kernel))) rfl
theorem wyX9_sees : yX9_sees.cls ≠ "java/lang/invoke/MethodHandle" ∧ yX9_sees.cls ≠ "java/lang/invoke/VarHandle" ∧ (parseMethodDescriptor yX9_sees.desc).map (fun d => d.parameters.length) = some 2 := ⟨by decide +kernel, by decide +kernel, by decide +kernel⟩
theorem wcX9_sum : Cond.code yX9_sum cX9_sum 3 (some .int) ∈ lw_g := z_w (List.mem_append_right _ (List.mem_of_getElem? (i := 336) (by decide +kernel))) rfl
theorem wiX9_sum : Cond.instanceMethod yX9_sum ∈ lw_g := z_w (List.mem_append_right _ (List.mem_of_getElem? (i := 334) (by decide +kernel))) rfl
theorem wlX9_sum : Cond.selects "NotLikeThem" yX9_sum yX9_sum ∈ lw_g := z_w (List.mem_append_right _ (List.mem_of_getElem? (i := 335) (by decide +kernel))) rfl
theorem wyX9_sum : yX9_sum.cls ≠ "java/lang/invoke/MethodHandle" ∧ yX9_sum.cls ≠ "java/lang/invoke/VarHandle" ∧ (parseMethodDescriptor yX9_sum.desc).map (fun d => d.parameters.length) = some 2 := ⟨by decide +kernel, by decide +kernel, by decide +kernel⟩
theorem wcX9_calm : Cond.code yX9_calm cX9_calm 2 (some .int) ∈ lw_g := z_w (List.mem_append_right _ (List.mem_of_getElem? (i := 355) (by decide +kernel))) rfl
theorem wiX9_calm : Cond.instanceMethod yX9_calm ∈ lw_g := z_w (List.mem_append_right _ (List.mem_of_getElem? (i := 353) (by decide +kernel))) rfl
theorem wlX9_calm : Cond.selects "NotLikeThem" yX9_calm yX9_calm ∈ lw_g := z_w (List.mem_append_right _ (List.mem_of_getElem? (i := 354) (by decide +kernel))) rfl
theorem wyX9_calm : yX9_calm.cls ≠ "java/lang/invoke/MethodHandle" ∧ yX9_calm.cls ≠ "java/lang/invoke/VarHandle" ∧ (parseMethodDescriptor yX9_calm.desc).map (fun d => d.parameters.length) = some 1 := ⟨by decide +kernel, by decide +kernel, by decide +kernel⟩
theorem wcX9_after : Cond.code yX9_after cX9_after 4 (some .int) ∈ lw_g := z_w (List.mem_append_right _ (List.mem_of_getElem? (i := 372) (by decide +kernel))) rfl
theorem wiX9_after : Cond.instanceMethod yX9_after ∈ lw_g := z_w (List.mem_append_right _ (List.mem_of_getElem? (i := 370) (by decide +kernel))) rfl
theorem wlX9_after : Cond.selects "NotLikeThem" yX9_after yX9_after ∈ lw_g := z_w (List.mem_append_right _ (List.mem_of_getElem? (i := 371) (by decide +kernel))) rfl
theorem wyX9_after : yX9_after.cls ≠ "java/lang/invoke/MethodHandle" ∧ yX9_after.cls ≠ "java/lang/invoke/VarHandle" ∧ (parseMethodDescriptor yX9_after.desc).map (fun d => d.parameters.length) = some 3 := ⟨by decide +kernel, by decide +kernel, by decide +kernel⟩
theorem wcX9_run : Cond.code yX9_run cX9_run 4 (some .int) ∈ lw_g := z_w (List.mem_append_right _ (List.mem_of_getElem? (i := 409) (by decide +kernel))) rfl
theorem wiX9_run : Cond.instanceMethod yX9_run ∈ lw_g := z_w (List.mem_append_right _ (List.mem_of_getElem? (i := 407) (by decide +kernel))) rfl
theorem wlX9_run : Cond.selects "NotLikeThem" yX9_run yX9_run ∈ lw_g := z_w (List.mem_append_right _ (List.mem_of_getElem? (i := 408) (by decide +kernel))) rfl
theorem wyX9_run : yX9_run.cls ≠ "java/lang/invoke/MethodHandle" ∧ yX9_run.cls ≠ "java/lang/invoke/VarHandle" ∧ (parseMethodDescriptor yX9_run.desc).map (fun d => d.parameters.length) = some 3 := ⟨by decide +kernel, by decide +kernel, by decide +kernel⟩
theorem wcX9_rings : Cond.code yX9_rings cX9_rings 2 (some .int) ∈ lw_g := z_w (List.mem_append_right _ (List.mem_of_getElem? (i := 437) (by decide +kernel))) rfl
theorem wiX9_rings : Cond.instanceMethod yX9_rings ∈ lw_g := z_w (List.mem_append_right _ (List.mem_of_getElem? (i := 435) (by decide +kernel))) rfl
theorem wlX9_rings : Cond.selects "NotLikeThem" yX9_rings yX9_rings ∈ lw_g := z_w (List.mem_append_right _ (List.mem_of_getElem? (i := 436) (by decide +kernel))) rfl
theorem wyX9_rings : yX9_rings.cls ≠ "java/lang/invoke/MethodHandle" ∧ yX9_rings.cls ≠ "java/lang/invoke/VarHandle" ∧ (parseMethodDescriptor yX9_rings.desc).map (fun d => d.parameters.length) = some 1 := ⟨by decide +kernel, by decide +kernel, by decide +kernel⟩
theorem wcX9_ring : Cond.code yX9_ring cX9_ring 5 (some .int) ∈ lw_g := z_w (List.mem_append_right _ (List.mem_of_getElem? (i := 445) (by decide +kernel))) rfl
theorem wiX9_ring : Cond.instanceMethod yX9_ring ∈ lw_g := z_w (List.mem_append_right _ (List.mem_of_getElem? (i := 443) (by decide +kernel))) rfl
theorem wlX9_ring : Cond.selects "NotLikeThem" yX9_ring yX9_ring ∈ lw_g := z_w (List.mem_append_right _ (List.mem_of_getElem? (i := 444) (by decide +kernel))) rfl
theorem wyX9_ring : yX9_ring.cls ≠ "java/lang/invoke/MethodHandle" ∧ yX9_ring.cls ≠ "java/lang/invoke/VarHandle" ∧ (parseMethodDescriptor yX9_ring.desc).map (fun d => d.parameters.length) = some 3 := ⟨by decide +kernel, by decide +kernel, by decide +kernel⟩
theorem wcX9_longest : Cond.code yX9_longest cX9_longest 2 (some .int) ∈ lw_g := z_w (List.mem_append_right _ (List.mem_of_getElem? (i := 464) (by decide +kernel))) rfl
theorem wiX9_longest : Cond.instanceMethod yX9_longest ∈ lw_g := z_w (List.mem_append_right _ (List.mem_of_getElem? (i := 462) (by decide +kernel))) rfl
theorem wlX9_longest : Cond.selects "NotLikeThem" yX9_longest yX9_longest ∈ lw_g := z_w (List.mem_append_right _ (List.mem_of_getElem? (i := 463) (by decide +kernel))) rfl
theorem wyX9_longest : yX9_longest.cls ≠ "java/lang/invoke/MethodHandle" ∧ yX9_longest.cls ≠ "java/lang/invoke/VarHandle" ∧ (parseMethodDescriptor yX9_longest.desc).map (fun d => d.parameters.length) = some 1 := ⟨by decide +kernel, by decide +kernel, by decide +kernel⟩
theorem wcX9_rests : Cond.code yX9_rests cX9_rests 1 (some .int) ∈ lw_g := z_w (List.mem_append_right _ (List.mem_of_getElem? (i := 473) (by decide +kernel))) rfl
theorem wiX9_rests : Cond.instanceMethod yX9_rests ∈ lw_g := z_w (List.mem_append_right _ (List.mem_of_getElem? (i := 471) (by decide +kernel))) rfl
theorem wlX9_rests : Cond.selects "NotLikeThem" yX9_rests yX9_rests ∈ lw_g := z_w (List.mem_append_right _ (List.mem_of_getElem? (i := 472) (by decide +kernel))) rfl
theorem wyX9_rests : yX9_rests.cls ≠ "java/lang/invoke/MethodHandle" ∧ yX9_rests.cls ≠ "java/lang/invoke/VarHandle" ∧ (parseMethodDescriptor yX9_rests.desc).map (fun d => d.parameters.length) = some 0 := ⟨by decide +kernel, by decide +kernel, by decide +kernel⟩
theorem wcX9_rest : Cond.code yX9_rest cX9_rest 3 (some .int) ∈ lw_g := z_w (List.mem_append_right _ (List.mem_of_getElem? (i := 483) (by decide +kernel))) rfl
theorem wiX9_rest : Cond.instanceMethod yX9_rest ∈ lw_g := z_w (List.mem_append_right _ (List.mem_of_getElem? (i := 481) (by decide +kernel))) rfl
theorem wlX9_rest : Cond.selects "NotLikeThem" yX9_rest yX9_rest ∈ lw_g := z_w (List.mem_append_right _ (List.mem_of_getElem? (i := 482) (by decide +kernel))) rfl
theorem wyX9_rest : yX9_rest.cls ≠ "java/lang/invoke/MethodHandle" ∧ yX9_rest.cls ≠ "java/lang/invoke/VarHandle" ∧ (parseMethodDescriptor yX9_rest.desc).map (fun d => d.parameters.length) = some 1 := ⟨by decide +kernel, by decide +kernel, by decide +kernel⟩
theorem wcX9_even : Cond.code yX9_even cX9_even 1 (some .int) ∈ lw_g := z_w (List.mem_append_right _ (List.mem_of_getElem? (i := 491) (by decide +kernel))) rfl
theorem wiX9_even : Cond.instanceMethod yX9_even ∈ lw_g := z_w (List.mem_append_right _ (List.mem_of_getElem? (i := 489) (by decide +kernel))) rfl
theorem wlX9_even : Cond.selects "NotLikeThem" yX9_even yX9_even ∈ lw_g := z_w (List.mem_append_right _ (List.mem_of_getElem? (i := 490) (by decide +kernel))) rfl
theorem wyX9_even : yX9_even.cls ≠ "java/lang/invoke/MethodHandle" ∧ yX9_even.cls ≠ "java/lang/invoke/VarHandle" ∧ (parseMethodDescriptor yX9_even.desc).map (fun d => d.parameters.length) = some 0 := ⟨by decide +kernel, by decide +kernel, by decide +kernel⟩
theorem wcX9_heat : Cond.code yX9_heat cX9_heat 2 (some .int) ∈ lw_g := z_w (List.mem_append_right _ (List.mem_of_getElem? (i := 510) (by decide +kernel))) rfl
theorem wiX9_heat : Cond.instanceMethod yX9_heat ∈ lw_g := z_w (List.mem_append_right _ (List.mem_of_getElem? (i := 508) (by decide +kernel))) rfl
theorem wlX9_heat : Cond.selects "NotLikeThem" yX9_heat yX9_heat ∈ lw_g := z_w (List.mem_append_right _ (List.mem_of_getElem? (i := 509) (by decide +kernel))) rfl
theorem wyX9_heat : yX9_heat.cls ≠ "java/lang/invoke/MethodHandle" ∧ yX9_heat.cls ≠ "java/lang/invoke/VarHandle" ∧ (parseMethodDescriptor yX9_heat.desc).map (fun d => d.parameters.length) = some 1 := ⟨by decide +kernel, by decide +kernel, by decide +kernel⟩
theorem wcX9_lone : Cond.code yX9_lone cX9_lone 3 (some .int) ∈ lw_g := z_w (List.mem_append_right _ (List.mem_of_getElem? (i := 528) (by decide +kernel))) rfl
theorem wiX9_lone : Cond.instanceMethod yX9_lone ∈ lw_g := z_w (List.mem_append_right _ (List.mem_of_getElem? (i := 526) (by decide +kernel))) rfl
theorem wlX9_lone : Cond.selects "NotLikeThem" yX9_lone yX9_lone ∈ lw_g := z_w (List.mem_append_right _ (List.mem_of_getElem? (i := 527) (by decide +kernel))) rfl
theorem wyX9_lone : yX9_lone.cls ≠ "java/lang/invoke/MethodHandle" ∧ yX9_lone.cls ≠ "java/lang/invoke/VarHandle" ∧ (parseMethodDescriptor yX9_lone.desc).map (fun d => d.parameters.length) = some 2 := ⟨by decide +kernel, by decide +kernel, by decide +kernel⟩
theorem wcX9_settled : Cond.code yX9_settled cX9_settled 1 (some .int) ∈ lw_g := z_w (List.mem_append_right _ (List.mem_of_getElem? (i := 533) (by decide +kernel))) rfl
theorem wiX9_settled : Cond.instanceMethod yX9_settled ∈ lw_g := z_w (List.mem_append_right _ (List.mem_of_getElem? (i := 531) (by decide +kernel))) rfl
theorem wlX9_settled : Cond.selects "NotLikeThem" yX9_settled yX9_settled ∈ lw_g := z_w (List.mem_append_right _ (List.mem_of_getElem? (i := 532) (by decide +kernel))) rfl
theorem wyX9_settled : yX9_settled.cls ≠ "java/lang/invoke/MethodHandle" ∧ yX9_settled.cls ≠ "java/lang/invoke/VarHandle" ∧ (parseMethodDescriptor yX9_settled.desc).map (fun d => d.parameters.length) = some 0 := ⟨by decide +kernel, by decide +kernel, by decide +kernel⟩
theorem wcX9_witness : Cond.code yX9_witness cX9_witness 2 (some .int) ∈ lw_g := z_w (List.mem_append_right _ (List.mem_of_getElem? (i := 566) (by decide +kernel))) rfl
theorem wiX9_witness : Cond.instanceMethod yX9_witness ∈ lw_g := z_w (List.mem_append_right _ (List.mem_of_getElem? (i := 564) (by decide +kernel))) rfl
theorem wlX9_witness : Cond.selects "NotLikeThem" yX9_witness yX9_witness ∈ lw_g := z_w (List.mem_append_right _ (List.mem_of_getElem? (i := 565) (by decide +kernel))) rfl
theorem wyX9_witness : yX9_witness.cls ≠ "java/lang/invoke/MethodHandle" ∧ yX9_witness.cls ≠ "java/lang/invoke/VarHandle" ∧ (parseMethodDescriptor yX9_witness.desc).map (fun d => d.parameters.length) = some 0 := ⟨by decide +kernel, by decide +kernel, by decide +kernel⟩
theorem wcX9_turn : Cond.code yX9_turn cX9_turn 1 (some .int) ∈ lw_g := z_w (List.mem_append_right _ (List.mem_of_getElem? (i := 570) (by decide +kernel))) rfl
theorem wiX9_turn : Cond.instanceMethod yX9_turn ∈ lw_g := z_w (List.mem_append_right _ (List.mem_of_getElem? (i := 568) (by decide +kernel))) rfl
theorem wlX9_turn : Cond.selects "NotLikeThem" yX9_turn yX9_turn ∈ lw_g := z_w (List.mem_append_right _ (List.mem_of_getElem? (i := 569) (by decide +kernel))) rfl
theorem wyX9_turn : yX9_turn.cls ≠ "java/lang/invoke/MethodHandle" ∧ yX9_turn.cls ≠ "java/lang/invoke/VarHandle" ∧ (parseMethodDescriptor yX9_turn.desc).map (fun d => d.parameters.length) = some 0 := ⟨by decide +kernel, by decide +kernel, by decide +kernel⟩
theorem wcX9_turned : Cond.code yX9_turned cX9_turned 1 (some .int) ∈ lw_g := z_w (List.mem_append_right _ (List.mem_of_getElem? (i := 586) (by decide +kernel))) rfl
theorem wiX9_turned : Cond.instanceMethod yX9_turned ∈ lw_g := z_w (List.mem_append_right _ (List.mem_of_getElem? (i := 584) (by decide +kernel))) rfl
theorem wlX9_turned : Cond.selects "NotLikeThem" yX9_turned yX9_turned ∈ lw_g := z_w (List.mem_append_right _ (List.mem_of_getElem? (i := 585) (by decide +kernel))) rfl
theorem wyX9_turned : yX9_turned.cls ≠ "java/lang/invoke/MethodHandle" ∧ yX9_turned.cls ≠ "java/lang/invoke/VarHandle" ∧ (parseMethodDescriptor yX9_turned.desc).map (fun d => d.parameters.length) = some 0 := ⟨by decide +kernel, by decide +kernel, by decide +kernel⟩
theorem wcX9_hold : Cond.code yX9_hold cX9_hold 3 (some .int) ∈ lw_g := z_w (List.mem_append_right _ (List.mem_of_getElem? (i := 590) (by decide +kernel))) rfl
theorem wiX9_hold : Cond.instanceMethod yX9_hold ∈ lw_g := z_w (List.mem_append_right _ (List.mem_of_getElem? (i := 588) (by decide +kernel))) rfl
theorem wlX9_hold : Cond.selects "NotLikeThem" yX9_hold yX9_hold ∈ lw_g := z_w (List.mem_append_right _ (List.mem_of_getElem? (i := 589) (by decide +kernel))) rfl
theorem wyX9_hold : yX9_hold.cls ≠ "java/lang/invoke/MethodHandle" ∧ yX9_hold.cls ≠ "java/lang/invoke/VarHandle" ∧ (parseMethodDescriptor yX9_hold.desc).map (fun d => d.parameters.length) = some 1 := ⟨by decide +kernel, by decide +kernel, by decide +kernel⟩
theorem wcX9_may : Cond.code yX9_may cX9_may 4 (some .int) ∈ lw_g := z_w (List.mem_append_right _ (List.mem_of_getElem? (i := 598) (by decide +kernel))) rfl
theorem wiX9_may : Cond.instanceMethod yX9_may ∈ lw_g := z_w (List.mem_append_right _ (List.mem_of_getElem? (i := 596) (by decide +kernel))) rfl
theorem wlX9_may : Cond.selects "NotLikeThem" yX9_may yX9_may ∈ lw_g := z_w (List.mem_append_right _ (List.mem_of_getElem? (i := 597) (by decide +kernel))) rfl
theorem wyX9_may : yX9_may.cls ≠ "java/lang/invoke/MethodHandle" ∧ yX9_may.cls ≠ "java/lang/invoke/VarHandle" ∧ (parseMethodDescriptor yX9_may.desc).map (fun d => d.parameters.length) = some 2 := ⟨by decide +kernel, by decide +kernel, by decide +kernel⟩
theorem wcX9_mays : Cond.code yX9_mays cX9_mays 2 (some .int) ∈ lw_g := z_w (List.mem_append_right _ (List.mem_of_getElem? (i := 613) (by decide +kernel))) rfl
theorem wiX9_mays : Cond.instanceMethod yX9_mays ∈ lw_g := z_w (List.mem_append_right _ (List.mem_of_getElem? (i := 611) (by decide +kernel))) rfl
theorem wlX9_mays : Cond.selects "NotLikeThem" yX9_mays yX9_mays ∈ lw_g := z_w (List.mem_append_right _ (List.mem_of_getElem? (i := 612) (by decide +kernel))) rfl
theorem wyX9_mays : yX9_mays.cls ≠ "java/lang/invoke/MethodHandle" ∧ yX9_mays.cls ≠ "java/lang/invoke/VarHandle" ∧ (parseMethodDescriptor yX9_mays.desc).map (fun d => d.parameters.length) = some 1 := ⟨by decide +kernel, by decide +kernel, by decide +kernel⟩
theorem wcX9_soon : Cond.code yX9_soon cX9_soon 3 (some .int) ∈ lw_g := z_w (List.mem_append_right _ (List.mem_of_getElem? (i := 621) (by decide +kernel))) rfl
theorem wiX9_soon : Cond.instanceMethod yX9_soon ∈ lw_g := z_w (List.mem_append_right _ (List.mem_of_getElem? (i := 619) (by decide +kernel))) rfl
theorem wlX9_soon : Cond.selects "NotLikeThem" yX9_soon yX9_soon ∈ lw_g := z_w (List.mem_append_right _ (List.mem_of_getElem? (i := 620) (by decide +kernel))) rfl
theorem wyX9_soon : yX9_soon.cls ≠ "java/lang/invoke/MethodHandle" ∧ yX9_soon.cls ≠ "java/lang/invoke/VarHandle" ∧ (parseMethodDescriptor yX9_soon.desc).map (fun d => d.parameters.length) = some 1 := ⟨by decide +kernel, by decide +kernel, by decide +kernel⟩
theorem wcX9_likely : Cond.code yX9_likely cX9_likely 4 (some .long) ∈ lw_g := z_w (List.mem_append_right _ (List.mem_of_getElem? (i := 629) (by decide +kernel))) rfl
theorem wiX9_likely : Cond.instanceMethod yX9_likely ∈ lw_g := z_w (List.mem_append_right _ (List.mem_of_getElem? (i := 627) (by decide +kernel))) rfl
theorem wlX9_likely : Cond.selects "NotLikeThem" yX9_likely yX9_likely ∈ lw_g := z_w (List.mem_append_right _ (List.mem_of_getElem? (i := 628) (by decide +kernel))) rfl
theorem wyX9_likely : yX9_likely.cls ≠ "java/lang/invoke/MethodHandle" ∧ yX9_likely.cls ≠ "java/lang/invoke/VarHandle" ∧ (parseMethodDescriptor yX9_likely.desc).map (fun d => d.parameters.length) = some 3 := ⟨by decide +kernel, by decide +kernel, by decide +kernel⟩
theorem wcX9_week : Cond.code yX9_week cX9_week 2 (some .int) ∈ lw_g := z_w (List.mem_append_right _ (List.mem_of_getElem? (i := 651) (by decide +kernel))) rfl
theorem wiX9_week : Cond.instanceMethod yX9_week ∈ lw_g := z_w (List.mem_append_right _ (List.mem_of_getElem? (i := 649) (by decide +kernel))) rfl
theorem wlX9_week : Cond.selects "NotLikeThem" yX9_week yX9_week ∈ lw_g := z_w (List.mem_append_right _ (List.mem_of_getElem? (i := 650) (by decide +kernel))) rfl
theorem wyX9_week : yX9_week.cls ≠ "java/lang/invoke/MethodHandle" ∧ yX9_week.cls ≠ "java/lang/invoke/VarHandle" ∧ (parseMethodDescriptor yX9_week.desc).map (fun d => d.parameters.length) = some 1 := ⟨by decide +kernel, by decide +kernel, by decide +kernel⟩
theorem wcX9_wipe : Cond.code yX9_wipe cX9_wipe 2 (some .int) ∈ lw_g := z_w (List.mem_append_right _ (List.mem_of_getElem? (i := 668) (by decide +kernel))) rfl
theorem wiX9_wipe : Cond.instanceMethod yX9_wipe ∈ lw_g := z_w (List.mem_append_right _ (List.mem_of_getElem? (i := 666) (by decide +kernel))) rfl
theorem wlX9_wipe : Cond.selects "NotLikeThem" yX9_wipe yX9_wipe ∈ lw_g := z_w (List.mem_append_right _ (List.mem_of_getElem? (i := 667) (by decide +kernel))) rfl
theorem wyX9_wipe : yX9_wipe.cls ≠ "java/lang/invoke/MethodHandle" ∧ yX9_wipe.cls ≠ "java/lang/invoke/VarHandle" ∧ (parseMethodDescriptor yX9_wipe.desc).map (fun d => d.parameters.length) = some 0 := ⟨by decide +kernel, by decide +kernel, by decide +kernel⟩
theorem wcX9_maybe : Cond.code yX9_maybe cX9_maybe 2 (some .int) ∈ lw_g := z_w (List.mem_append_right _ (List.mem_of_getElem? (i := 672) (by decide +kernel))) rfl
theorem wiX9_maybe : Cond.instanceMethod yX9_maybe ∈ lw_g := z_w (List.mem_append_right _ (List.mem_of_getElem? (i := 670) (by decide +kernel))) rfl
theorem wlX9_maybe : Cond.selects "NotLikeThem" yX9_maybe yX9_maybe ∈ lw_g := z_w (List.mem_append_right _ (List.mem_of_getElem? (i := 671) (by decide +kernel))) rfl
theorem wyX9_maybe : yX9_maybe.cls ≠ "java/lang/invoke/MethodHandle" ∧ yX9_maybe.cls ≠ "java/lang/invoke/VarHandle" ∧ (parseMethodDescriptor yX9_maybe.desc).map (fun d => d.parameters.length) = some 1 := ⟨by decide +kernel, by decide +kernel, by decide +kernel⟩
theorem wcX9_ways : Cond.code yX9_ways cX9_ways 1 (some .long) ∈ lw_g := z_w (List.mem_append_right _ (List.mem_of_getElem? (i := 683) (by decide +kernel))) rfl
theorem wiX9_ways : Cond.instanceMethod yX9_ways ∈ lw_g := z_w (List.mem_append_right _ (List.mem_of_getElem? (i := 681) (by decide +kernel))) rfl
theorem wlX9_ways : Cond.selects "NotLikeThem" yX9_ways yX9_ways ∈ lw_g := z_w (List.mem_append_right _ (List.mem_of_getElem? (i := 682) (by decide +kernel))) rfl
theorem wyX9_ways : yX9_ways.cls ≠ "java/lang/invoke/MethodHandle" ∧ yX9_ways.cls ≠ "java/lang/invoke/VarHandle" ∧ (parseMethodDescriptor yX9_ways.desc).map (fun d => d.parameters.length) = some 0 := ⟨by decide +kernel, by decide +kernel, by decide +kernel⟩
theorem wcX9_take : Cond.code yX9_take cX9_take 1 (some .int) ∈ lw_g := z_w (List.mem_append_right _ (List.mem_of_getElem? (i := 694) (by decide +kernel))) rfl
theorem wiX9_take : Cond.instanceMethod yX9_take ∈ lw_g := z_w (List.mem_append_right _ (List.mem_of_getElem? (i := 692) (by decide +kernel))) rfl
theorem wlX9_take : Cond.selects "NotLikeThem" yX9_take yX9_take ∈ lw_g := z_w (List.mem_append_right _ (List.mem_of_getElem? (i := 693) (by decide +kernel))) rfl
theorem wyX9_take : yX9_take.cls ≠ "java/lang/invoke/MethodHandle" ∧ yX9_take.cls ≠ "java/lang/invoke/VarHandle" ∧ (parseMethodDescriptor yX9_take.desc).map (fun d => d.parameters.length) = some 0 := ⟨by decide +kernel, by decide +kernel, by decide +kernel⟩
theorem wcX9_asked : Cond.code yX9_asked cX9_asked 4 (some .int) ∈ lw_g := z_w (List.mem_append_right _ (List.mem_of_getElem? (i := 707) (by decide +kernel))) rfl
theorem wiX9_asked : Cond.instanceMethod yX9_asked ∈ lw_g := z_w (List.mem_append_right _ (List.mem_of_getElem? (i := 705) (by decide +kernel))) rfl
theorem wlX9_asked : Cond.selects "NotLikeThem" yX9_asked yX9_asked ∈ lw_g := z_w (List.mem_append_right _ (List.mem_of_getElem? (i := 706) (by decide +kernel))) rfl
theorem wyX9_asked : yX9_asked.cls ≠ "java/lang/invoke/MethodHandle" ∧ yX9_asked.cls ≠ "java/lang/invoke/VarHandle" ∧ (parseMethodDescriptor yX9_asked.desc).map (fun d => d.parameters.length) = some 3 := ⟨by decide +kernel, by decide +kernel, by decide +kernel⟩
theorem wcX9_gain : Cond.code yX9_gain cX9_gain 6 (some .int) ∈ lw_g := z_w (List.mem_append_right _ (List.mem_of_getElem? (i := 720) (by decide +kernel))) rfl
theorem wiX9_gain : Cond.instanceMethod yX9_gain ∈ lw_g := z_w (List.mem_append_right _ (List.mem_of_getElem? (i := 718) (by decide +kernel))) rfl
theorem wlX9_gain : Cond.selects "NotLikeThem" yX9_gain yX9_gain ∈ lw_g := z_w (List.mem_append_right _ (List.mem_of_getElem? (i := 719) (by decide +kernel))) rfl
theorem wyX9_gain : yX9_gain.cls ≠ "java/lang/invoke/MethodHandle" ∧ yX9_gain.cls ≠ "java/lang/invoke/VarHandle" ∧ (parseMethodDescriptor yX9_gain.desc).map (fun d => d.parameters.length) = some 5 := ⟨by decide +kernel, by decide +kernel, by decide +kernel⟩
theorem wcX9_order : Cond.code yX9_order cX9_order 5 (some .int) ∈ lw_g := z_w (List.mem_append_right _ (List.mem_of_getElem? (i := 737) (by decide +kernel))) rfl
theorem wiX9_order : Cond.instanceMethod yX9_order ∈ lw_g := z_w (List.mem_append_right _ (List.mem_of_getElem? (i := 735) (by decide +kernel))) rfl
theorem wlX9_order : Cond.selects "NotLikeThem" yX9_order yX9_order ∈ lw_g := z_w (List.mem_append_right _ (List.mem_of_getElem? (i := 736) (by decide +kernel))) rfl
theorem wyX9_order : yX9_order.cls ≠ "java/lang/invoke/MethodHandle" ∧ yX9_order.cls ≠ "java/lang/invoke/VarHandle" ∧ (parseMethodDescriptor yX9_order.desc).map (fun d => d.parameters.length) = some 4 := ⟨by decide +kernel, by decide +kernel, by decide +kernel⟩
theorem wcX9_count : Cond.code yX9_count cX9_count 2 (some .int) ∈ lw_g := z_w (List.mem_append_right _ (List.mem_of_getElem? (i := 745) (by decide +kernel))) rfl
theorem wiX9_count : Cond.instanceMethod yX9_count ∈ lw_g := z_w (List.mem_append_right _ (List.mem_of_getElem? (i := 743) (by decide +kernel))) rfl
theorem wlX9_count : Cond.selects "NotLikeThem" yX9_count yX9_count ∈ lw_g := z_w (List.mem_append_right _ (List.mem_of_getElem? (i := 744) (by decide +kernel))) rfl
theorem wyX9_count : yX9_count.cls ≠ "java/lang/invoke/MethodHandle" ∧ yX9_count.cls ≠ "java/lang/invoke/VarHandle" ∧ (parseMethodDescriptor yX9_count.desc).map (fun d => d.parameters.length) = some 1 := ⟨by decide +kernel, by decide +kernel, by decide +kernel⟩
theorem wcX9_within : Cond.code yX9_within cX9_within 3 (some .boolean) ∈ lw_g := z_w (List.mem_append_right _ (List.mem_of_getElem? (i := 264) (by decide +kernel))) rfl
theorem wsX9_within : Cond.static yX9_within ∈ lw_g := z_w (List.mem_append_right _ (List.mem_of_getElem? (i := 263) (by decide +kernel))) rfl
theorem wyX9_within : yX9_within.cls ≠ "java/lang/invoke/MethodHandle" ∧ yX9_within.cls ≠ "java/lang/invoke/VarHandle" ∧ (parseMethodDescriptor yX9_within.desc).map (fun d => d.parameters.length) = some 3 := ⟨by decide +kernel, by decide +kernel, by decide +kernel⟩
theorem wcX9_isWay : Cond.code yX9_isWay cX9_isWay 1 (some .boolean) ∈ lw_g := z_w (List.mem_append_right _ (List.mem_of_getElem? (i := 375) (by decide +kernel))) rfl
theorem wsX9_isWay : Cond.static yX9_isWay ∈ lw_g := z_w (List.mem_append_right _ (List.mem_of_getElem? (i := 374) (by decide +kernel))) rfl
theorem wyX9_isWay : yX9_isWay.cls ≠ "java/lang/invoke/MethodHandle" ∧ yX9_isWay.cls ≠ "java/lang/invoke/VarHandle" ∧ (parseMethodDescriptor yX9_isWay.desc).map (fun d => d.parameters.length) = some 1 := ⟨by decide +kernel, by decide +kernel, by decide +kernel⟩
theorem wcX9_isShopRun : Cond.code yX9_isShopRun cX9_isShopRun 1 (some .boolean) ∈ lw_g := z_w (List.mem_append_right _ (List.mem_of_getElem? (i := 710) (by decide +kernel))) rfl
theorem wsX9_isShopRun : Cond.static yX9_isShopRun ∈ lw_g := z_w (List.mem_append_right _ (List.mem_of_getElem? (i := 709) (by decide +kernel))) rfl
theorem wyX9_isShopRun : yX9_isShopRun.cls ≠ "java/lang/invoke/MethodHandle" ∧ yX9_isShopRun.cls ≠ "java/lang/invoke/VarHandle" ∧ (parseMethodDescriptor yX9_isShopRun.desc).map (fun d => d.parameters.length) = some 1 := ⟨by decide +kernel, by decide +kernel, by decide +kernel⟩
theorem wcX9_isMoney : Cond.code yX9_isMoney cX9_isMoney 1 (some .boolean) ∈ lw_g := z_w (List.mem_append_right _ (List.mem_of_getElem? (i := 723) (by decide +kernel))) rfl
theorem wsX9_isMoney : Cond.static yX9_isMoney ∈ lw_g := z_w (List.mem_append_right _ (List.mem_of_getElem? (i := 722) (by decide +kernel))) rfl
theorem wyX9_isMoney : yX9_isMoney.cls ≠ "java/lang/invoke/MethodHandle" ∧ yX9_isMoney.cls ≠ "java/lang/invoke/VarHandle" ∧ (parseMethodDescriptor yX9_isMoney.desc).map (fun d => d.parameters.length) = some 1 := ⟨by decide +kernel, by decide +kernel, by decide +kernel⟩
theorem wcX10_in : Cond.code yX10_in cX10_in 6 (some .boolean) ∈ lw_g := z_w (List.mem_append_right _ (List.mem_of_getElem? (i := 828) (by decide +kernel))) rfl
theorem wsX10_in : Cond.static yX10_in ∈ lw_g := z_w (List.mem_append_right _ (List.mem_of_getElem? (i := 827) (by decide +kernel))) rfl
theorem wyX10_in : yX10_in.cls ≠ "java/lang/invoke/MethodHandle" ∧ yX10_in.cls ≠ "java/lang/invoke/VarHandle" ∧ (parseMethodDescriptor yX10_in.desc).map (fun d => d.parameters.length) = some 3 := ⟨by decide +kernel, by decide +kernel, by decide +kernel⟩
theorem wcX10_ones : Cond.code yX10_ones cX10_ones 3 (some .int) ∈ lw_g := z_w (List.mem_append_right _ (List.mem_of_getElem? (i := 999) (by decide +kernel))) rfl
theorem wsX10_ones : Cond.static yX10_ones ∈ lw_g := z_w (List.mem_append_right _ (List.mem_of_getElem? (i := 998) (by decide +kernel))) rfl
theorem wyX10_ones : yX10_ones.cls ≠ "java/lang/invoke/MethodHandle" ∧ yX10_ones.cls ≠ "java/lang/invoke/VarHandle" ∧ (parseMethodDescriptor yX10_ones.desc).map (fun d => d.parameters.length) = some 1 := ⟨by decide +kernel, by decide +kernel, by decide +kernel⟩
theorem wcX10_isPerson : Cond.code yX10_isPerson cX10_isPerson 2 (some .boolean) ∈ lw_g := z_w (List.mem_append_right _ (List.mem_of_getElem? (i := 836) (by decide +kernel))) rfl
theorem wiX10_isPerson : Cond.instanceMethod yX10_isPerson ∈ lw_g := z_w (List.mem_append_right _ (List.mem_of_getElem? (i := 835) (by decide +kernel))) rfl
theorem wlX10_isPerson : Cond.selects "NotLikeThemModel" yX10_isPerson yX10_isPerson ∈ lw_g := z_w (List.mem_append_left _ (List.mem_of_getElem? (i := 19) (by decide +kernel))) rfl
theorem wyX10_isPerson : yX10_isPerson.cls ≠ "java/lang/invoke/MethodHandle" ∧ yX10_isPerson.cls ≠ "java/lang/invoke/VarHandle" ∧ (parseMethodDescriptor yX10_isPerson.desc).map (fun d => d.parameters.length) = some 1 := ⟨by decide +kernel, by decide +kernel, by decide +kernel⟩
theorem wcX10_isDress : Cond.code yX10_isDress cX10_isDress 2 (some .boolean) ∈ lw_g := z_w (List.mem_append_right _ (List.mem_of_getElem? (i := 859) (by decide +kernel))) rfl
theorem wiX10_isDress : Cond.instanceMethod yX10_isDress ∈ lw_g := z_w (List.mem_append_right _ (List.mem_of_getElem? (i := 858) (by decide +kernel))) rfl
theorem wlX10_isDress : Cond.selects "NotLikeThemModel" yX10_isDress yX10_isDress ∈ lw_g := z_w (List.mem_append_left _ (List.mem_of_getElem? (i := 20) (by decide +kernel))) rfl
theorem wyX10_isDress : yX10_isDress.cls ≠ "java/lang/invoke/MethodHandle" ∧ yX10_isDress.cls ≠ "java/lang/invoke/VarHandle" ∧ (parseMethodDescriptor yX10_isDress.desc).map (fun d => d.parameters.length) = some 1 := ⟨by decide +kernel, by decide +kernel, by decide +kernel⟩
theorem wcX10_isWay : Cond.code yX10_isWay cX10_isWay 1 (some .boolean) ∈ lw_g := z_w (List.mem_append_right _ (List.mem_of_getElem? (i := 882) (by decide +kernel))) rfl
theorem wsX10_isWay : Cond.static yX10_isWay ∈ lw_g := z_w (List.mem_append_right _ (List.mem_of_getElem? (i := 881) (by decide +kernel))) rfl
theorem wyX10_isWay : yX10_isWay.cls ≠ "java/lang/invoke/MethodHandle" ∧ yX10_isWay.cls ≠ "java/lang/invoke/VarHandle" ∧ (parseMethodDescriptor yX10_isWay.desc).map (fun d => d.parameters.length) = some 1 := ⟨by decide +kernel, by decide +kernel, by decide +kernel⟩
theorem wcX10_people : Cond.code yX10_people cX10_people 4 (some .int) ∈ lw_g := z_w (List.mem_append_right _ (List.mem_of_getElem? (i := 824) (by decide +kernel))) rfl
theorem wiX10_people : Cond.instanceMethod yX10_people ∈ lw_g := z_w (List.mem_append_right _ (List.mem_of_getElem? (i := 822) (by decide +kernel))) rfl
theorem wlX10_people : Cond.selects "NotLikeThemModel" yX10_people yX10_people ∈ lw_g := z_w (List.mem_append_right _ (List.mem_of_getElem? (i := 823) (by decide +kernel))) rfl
theorem wyX10_people : yX10_people.cls ≠ "java/lang/invoke/MethodHandle" ∧ yX10_people.cls ≠ "java/lang/invoke/VarHandle" ∧ (parseMethodDescriptor yX10_people.desc).map (fun d => d.parameters.length) = some 1 := ⟨by decide +kernel, by decide +kernel, by decide +kernel⟩
theorem wcX10_tie : Cond.code yX10_tie cX10_tie 5 (some .int) ∈ lw_g := z_w (List.mem_append_right _ (List.mem_of_getElem? (i := 832) (by decide +kernel))) rfl
theorem wiX10_tie : Cond.instanceMethod yX10_tie ∈ lw_g := z_w (List.mem_append_right _ (List.mem_of_getElem? (i := 830) (by decide +kernel))) rfl
theorem wlX10_tie : Cond.selects "NotLikeThemModel" yX10_tie yX10_tie ∈ lw_g := z_w (List.mem_append_right _ (List.mem_of_getElem? (i := 831) (by decide +kernel))) rfl
theorem wyX10_tie : yX10_tie.cls ≠ "java/lang/invoke/MethodHandle" ∧ yX10_tie.cls ≠ "java/lang/invoke/VarHandle" ∧ (parseMethodDescriptor yX10_tie.desc).map (fun d => d.parameters.length) = some 3 := ⟨by decide +kernel, by decide +kernel, by decide +kernel⟩
theorem wcX10_set : Cond.code yX10_set cX10_set 5 (some .int) ∈ lw_g := z_w (List.mem_append_right _ (List.mem_of_getElem? (i := 841) (by decide +kernel))) rfl
theorem wiX10_set : Cond.instanceMethod yX10_set ∈ lw_g := z_w (List.mem_append_right _ (List.mem_of_getElem? (i := 839) (by decide +kernel))) rfl
theorem wlX10_set : Cond.selects "NotLikeThemModel" yX10_set yX10_set ∈ lw_g := z_w (List.mem_append_right _ (List.mem_of_getElem? (i := 840) (by decide +kernel))) rfl
theorem wyX10_set : yX10_set.cls ≠ "java/lang/invoke/MethodHandle" ∧ yX10_set.cls ≠ "java/lang/invoke/VarHandle" ∧ (parseMethodDescriptor yX10_set.desc).map (fun d => d.parameters.length) = some 3 := ⟨by decide +kernel, by decide +kernel, by decide +kernel⟩
theorem wcX10_about : Cond.code yX10_about cX10_about 6 (some .int) ∈ lw_g := z_w (List.mem_append_right _ (List.mem_of_getElem? (i := 847) (by decide +kernel))) rfl
theorem wiX10_about : Cond.instanceMethod yX10_about ∈ lw_g := z_w (List.mem_append_right _ (List.mem_of_getElem? (i := 845) (by decide +kernel))) rfl
theorem wlX10_about : Cond.selects "NotLikeThemModel" yX10_about yX10_about ∈ lw_g := z_w (List.mem_append_right _ (List.mem_of_getElem? (i := 846) (by decide +kernel))) rfl
theorem wyX10_about : yX10_about.cls ≠ "java/lang/invoke/MethodHandle" ∧ yX10_about.cls ≠ "java/lang/invoke/VarHandle" ∧ (parseMethodDescriptor yX10_about.desc).map (fun d => d.parameters.length) = some 2 := ⟨by decide +kernel, by decide +kernel, by decide +kernel⟩
theorem wcX10_sees : Cond.code yX10_sees cX10_sees 3 (some .int) ∈ lw_g := z_w (List.mem_append_right _ (List.mem_of_getElem? (i := 851) (by decide +kernel))) rfl
theorem wiX10_sees : Cond.instanceMethod yX10_sees ∈ lw_g := z_w (List.mem_append_right _ (List.mem_of_getElem? (i := 849) (by decide +kernel))) rfl
theorem wlX10_sees : Cond.selects "NotLikeThemModel" yX10_sees yX10_sees ∈ lw_g := z_w (List.mem_append_right _ (List.mem_of_getElem? (i := 850) (by decide +kernel))) rfl
theorem wyX10_sees : yX10_sees.cls ≠ "java/lang/invoke/MethodHandle" ∧ yX10_sees.cls ≠ "java/lang/invoke/VarHandle" ∧ (parseMethodDescriptor yX10_sees.desc).map (fun d => d.parameters.length) = some 2 := ⟨by decide +kernel, by decide +kernel, by decide +kernel⟩
theorem wcX10_sumOf : Cond.code yX10_sumOf cX10_sumOf 5 (some .int) ∈ lw_g := z_w (List.mem_append_right _ (List.mem_of_getElem? (i := 863) (by decide +kernel))) rfl
theorem wiX10_sumOf : Cond.instanceMethod yX10_sumOf ∈ lw_g := z_w (List.mem_append_right _ (List.mem_of_getElem? (i := 862) (by decide +kernel))) rfl
theorem wlX10_sumOf : Cond.selects "NotLikeThemModel" yX10_sumOf yX10_sumOf ∈ lw_g := z_w (List.mem_append_left _ (List.mem_of_getElem? (i := 21) (by decide +kernel))) rfl
theorem wyX10_sumOf : yX10_sumOf.cls ≠ "java/lang/invoke/MethodHandle" ∧ yX10_sumOf.cls ≠ "java/lang/invoke/VarHandle" ∧ (parseMethodDescriptor yX10_sumOf.desc).map (fun d => d.parameters.length) = some 2 := ⟨by decide +kernel, by decide +kernel, by decide +kernel⟩
theorem wcX10_nextOf : Cond.code yX10_nextOf cX10_nextOf 6 (some .int) ∈ lw_g := z_w (List.mem_append_right _ (List.mem_of_getElem? (i := 875) (by decide +kernel))) rfl
theorem wiX10_nextOf : Cond.instanceMethod yX10_nextOf ∈ lw_g := z_w (List.mem_append_right _ (List.mem_of_getElem? (i := 874) (by decide +kernel))) rfl
theorem wlX10_nextOf : Cond.selects "NotLikeThemModel" yX10_nextOf yX10_nextOf ∈ lw_g := z_w (List.mem_append_left _ (List.mem_of_getElem? (i := 23) (by decide +kernel))) rfl
theorem wyX10_nextOf : yX10_nextOf.cls ≠ "java/lang/invoke/MethodHandle" ∧ yX10_nextOf.cls ≠ "java/lang/invoke/VarHandle" ∧ (parseMethodDescriptor yX10_nextOf.desc).map (fun d => d.parameters.length) = some 3 := ⟨by decide +kernel, by decide +kernel, by decide +kernel⟩
theorem wcX10_with : Cond.code yX10_with cX10_with 4 (some .int) ∈ lw_g := z_w (List.mem_append_right _ (List.mem_of_getElem? (i := 891) (by decide +kernel))) rfl
theorem wiX10_with : Cond.instanceMethod yX10_with ∈ lw_g := z_w (List.mem_append_right _ (List.mem_of_getElem? (i := 890) (by decide +kernel))) rfl
theorem wlX10_with : Cond.selects "NotLikeThemModel" yX10_with yX10_with ∈ lw_g := z_w (List.mem_append_left _ (List.mem_of_getElem? (i := 25) (by decide +kernel))) rfl
theorem wyX10_with : yX10_with.cls ≠ "java/lang/invoke/MethodHandle" ∧ yX10_with.cls ≠ "java/lang/invoke/VarHandle" ∧ (parseMethodDescriptor yX10_with.desc).map (fun d => d.parameters.length) = some 3 := ⟨by decide +kernel, by decide +kernel, by decide +kernel⟩
theorem wcX10_calmOf : Cond.code yX10_calmOf cX10_calmOf 4 (some .int) ∈ lw_g := z_w (List.mem_append_right _ (List.mem_of_getElem? (i := 871) (by decide +kernel))) rfl
theorem wiX10_calmOf : Cond.instanceMethod yX10_calmOf ∈ lw_g := z_w (List.mem_append_right _ (List.mem_of_getElem? (i := 870) (by decide +kernel))) rfl
theorem wlX10_calmOf : Cond.selects "NotLikeThemModel" yX10_calmOf yX10_calmOf ∈ lw_g := z_w (List.mem_append_left _ (List.mem_of_getElem? (i := 22) (by decide +kernel))) rfl
theorem wyX10_calmOf : yX10_calmOf.cls ≠ "java/lang/invoke/MethodHandle" ∧ yX10_calmOf.cls ≠ "java/lang/invoke/VarHandle" ∧ (parseMethodDescriptor yX10_calmOf.desc).map (fun d => d.parameters.length) = some 1 := ⟨by decide +kernel, by decide +kernel, by decide +kernel⟩
theorem wcX10_all : Cond.code yX10_all cX10_all 1 (some .int) ∈ lw_g := z_w (List.mem_append_right _ (List.mem_of_getElem? (i := 904) (by decide +kernel))) rfl
theorem wiX10_all : Cond.instanceMethod yX10_all ∈ lw_g := z_w (List.mem_append_right _ (List.mem_of_getElem? (i := 903) (by decide +kernel))) rfl
theorem wlX10_all : Cond.selects "NotLikeThemModel" yX10_all yX10_all ∈ lw_g := z_w (List.mem_append_left _ (List.mem_of_getElem? (i := 27) (by decide +kernel))) rfl
theorem wyX10_all : yX10_all.cls ≠ "java/lang/invoke/MethodHandle" ∧ yX10_all.cls ≠ "java/lang/invoke/VarHandle" ∧ (parseMethodDescriptor yX10_all.desc).map (fun d => d.parameters.length) = some 0 := ⟨by decide +kernel, by decide +kernel, by decide +kernel⟩
theorem wcX10_stepFrom : Cond.code yX10_stepFrom cX10_stepFrom 5 (some .int) ∈ lw_g := z_w (List.mem_append_right _ (List.mem_of_getElem? (i := 887) (by decide +kernel))) rfl
theorem wiX10_stepFrom : Cond.instanceMethod yX10_stepFrom ∈ lw_g := z_w (List.mem_append_right _ (List.mem_of_getElem? (i := 886) (by decide +kernel))) rfl
theorem wlX10_stepFrom : Cond.selects "NotLikeThemModel" yX10_stepFrom yX10_stepFrom ∈ lw_g := z_w (List.mem_append_left _ (List.mem_of_getElem? (i := 24) (by decide +kernel))) rfl
theorem wyX10_stepFrom : yX10_stepFrom.cls ≠ "java/lang/invoke/MethodHandle" ∧ yX10_stepFrom.cls ≠ "java/lang/invoke/VarHandle" ∧ (parseMethodDescriptor yX10_stepFrom.desc).map (fun d => d.parameters.length) = some 2 := ⟨by decide +kernel, by decide +kernel, by decide +kernel⟩
theorem wcX10_sum : Cond.code yX10_sum cX10_sum 3 (some .int) ∈ lw_g := z_w (List.mem_append_right _ (List.mem_of_getElem? (i := 855) (by decide +kernel))) rfl
theorem wiX10_sum : Cond.instanceMethod yX10_sum ∈ lw_g := z_w (List.mem_append_right _ (List.mem_of_getElem? (i := 853) (by decide +kernel))) rfl
theorem wlX10_sum : Cond.selects "NotLikeThemModel" yX10_sum yX10_sum ∈ lw_g := z_w (List.mem_append_right _ (List.mem_of_getElem? (i := 854) (by decide +kernel))) rfl
theorem wyX10_sum : yX10_sum.cls ≠ "java/lang/invoke/MethodHandle" ∧ yX10_sum.cls ≠ "java/lang/invoke/VarHandle" ∧ (parseMethodDescriptor yX10_sum.desc).map (fun d => d.parameters.length) = some 2 := ⟨by decide +kernel, by decide +kernel, by decide +kernel⟩
theorem wcX10_calm : Cond.code yX10_calm cX10_calm 2 (some .int) ∈ lw_g := z_w (List.mem_append_right _ (List.mem_of_getElem? (i := 867) (by decide +kernel))) rfl
theorem wiX10_calm : Cond.instanceMethod yX10_calm ∈ lw_g := z_w (List.mem_append_right _ (List.mem_of_getElem? (i := 865) (by decide +kernel))) rfl
theorem wlX10_calm : Cond.selects "NotLikeThemModel" yX10_calm yX10_calm ∈ lw_g := z_w (List.mem_append_right _ (List.mem_of_getElem? (i := 866) (by decide +kernel))) rfl
theorem wyX10_calm : yX10_calm.cls ≠ "java/lang/invoke/MethodHandle" ∧ yX10_calm.cls ≠ "java/lang/invoke/VarHandle" ∧ (parseMethodDescriptor yX10_calm.desc).map (fun d => d.parameters.length) = some 1 := ⟨by decide +kernel, by decide +kernel, by decide +kernel⟩
theorem wcX10_after : Cond.code yX10_after cX10_after 6 (some .int) ∈ lw_g := z_w (List.mem_append_right _ (List.mem_of_getElem? (i := 879) (by decide +kernel))) rfl
theorem wiX10_after : Cond.instanceMethod yX10_after ∈ lw_g := z_w (List.mem_append_right _ (List.mem_of_getElem? (i := 877) (by decide +kernel))) rfl
theorem wlX10_after : Cond.selects "NotLikeThemModel" yX10_after yX10_after ∈ lw_g := z_w (List.mem_append_right _ (List.mem_of_getElem? (i := 878) (by decide +kernel))) rfl
theorem wyX10_after : yX10_after.cls ≠ "java/lang/invoke/MethodHandle" ∧ yX10_after.cls ≠ "java/lang/invoke/VarHandle" ∧ (parseMethodDescriptor yX10_after.desc).map (fun d => d.parameters.length) = some 3 := ⟨by decide +kernel, by decide +kernel, by decide +kernel⟩
theorem wcX10_layLeads : Cond.code yX10_layLeads cX10_layLeads 3 none ∈ lw_g := z_w (List.mem_append_right _ (List.mem_of_getElem? (i := 900) (by decide +kernel))) rfl
theorem wiX10_layLeads : Cond.instanceMethod yX10_layLeads ∈ lw_g := z_w (List.mem_append_right _ (List.mem_of_getElem? (i := 899) (by decide +kernel))) rfl
theorem wlX10_layLeads : Cond.selects "NotLikeThemModel" yX10_layLeads yX10_layLeads ∈ lw_g := z_w (List.mem_append_left _ (List.mem_of_getElem? (i := 26) (by decide +kernel))) rfl
theorem wyX10_layLeads : yX10_layLeads.cls ≠ "java/lang/invoke/MethodHandle" ∧ yX10_layLeads.cls ≠ "java/lang/invoke/VarHandle" ∧ (parseMethodDescriptor yX10_layLeads.desc).map (fun d => d.parameters.length) = some 1 := ⟨by decide +kernel, by decide +kernel, by decide +kernel⟩
theorem wcX10_layRun : Cond.code yX10_layRun cX10_layRun 4 none ∈ lw_g := z_w (List.mem_append_right _ (List.mem_of_getElem? (i := 908) (by decide +kernel))) rfl
theorem wiX10_layRun : Cond.instanceMethod yX10_layRun ∈ lw_g := z_w (List.mem_append_right _ (List.mem_of_getElem? (i := 907) (by decide +kernel))) rfl
theorem wlX10_layRun : Cond.selects "NotLikeThemModel" yX10_layRun yX10_layRun ∈ lw_g := z_w (List.mem_append_left _ (List.mem_of_getElem? (i := 28) (by decide +kernel))) rfl
theorem wyX10_layRun : yX10_layRun.cls ≠ "java/lang/invoke/MethodHandle" ∧ yX10_layRun.cls ≠ "java/lang/invoke/VarHandle" ∧ (parseMethodDescriptor yX10_layRun.desc).map (fun d => d.parameters.length) = some 1 := ⟨by decide +kernel, by decide +kernel, by decide +kernel⟩
theorem wcX10_run : Cond.code yX10_run cX10_run 4 (some .int) ∈ lw_g := z_w (List.mem_append_right _ (List.mem_of_getElem? (i := 895) (by decide +kernel))) rfl
theorem wiX10_run : Cond.instanceMethod yX10_run ∈ lw_g := z_w (List.mem_append_right _ (List.mem_of_getElem? (i := 893) (by decide +kernel))) rfl
theorem wlX10_run : Cond.selects "NotLikeThemModel" yX10_run yX10_run ∈ lw_g := z_w (List.mem_append_right _ (List.mem_of_getElem? (i := 894) (by decide +kernel))) rfl
theorem wyX10_run : yX10_run.cls ≠ "java/lang/invoke/MethodHandle" ∧ yX10_run.cls ≠ "java/lang/invoke/VarHandle" ∧ (parseMethodDescriptor yX10_run.desc).map (fun d => d.parameters.length) = some 3 := ⟨by decide +kernel, by decide +kernel, by decide +kernel⟩
theorem wcX10_leastOfRing : Cond.code yX10_leastOfRing cX10_leastOfRing 3 (some .int) ∈ lw_g := z_w (List.mem_append_right _ (List.mem_of_getElem? (i := 920) (by decide +kernel))) rfl
theorem wiX10_leastOfRing : Cond.instanceMethod yX10_leastOfRing ∈ lw_g := z_w (List.mem_append_right _ (List.mem_of_getElem? (i := 919) (by decide +kernel))) rfl
theorem wlX10_leastOfRing : Cond.selects "NotLikeThemModel" yX10_leastOfRing yX10_leastOfRing ∈ lw_g := z_w (List.mem_append_left _ (List.mem_of_getElem? (i := 30) (by decide +kernel))) rfl
theorem wyX10_leastOfRing : yX10_leastOfRing.cls ≠ "java/lang/invoke/MethodHandle" ∧ yX10_leastOfRing.cls ≠ "java/lang/invoke/VarHandle" ∧ (parseMethodDescriptor yX10_leastOfRing.desc).map (fun d => d.parameters.length) = some 0 := ⟨by decide +kernel, by decide +kernel, by decide +kernel⟩
theorem wcX10_layRings : Cond.code yX10_layRings cX10_layRings 4 none ∈ lw_g := z_w (List.mem_append_right _ (List.mem_of_getElem? (i := 916) (by decide +kernel))) rfl
theorem wiX10_layRings : Cond.instanceMethod yX10_layRings ∈ lw_g := z_w (List.mem_append_right _ (List.mem_of_getElem? (i := 915) (by decide +kernel))) rfl
theorem wlX10_layRings : Cond.selects "NotLikeThemModel" yX10_layRings yX10_layRings ∈ lw_g := z_w (List.mem_append_left _ (List.mem_of_getElem? (i := 29) (by decide +kernel))) rfl
theorem wyX10_layRings : yX10_layRings.cls ≠ "java/lang/invoke/MethodHandle" ∧ yX10_layRings.cls ≠ "java/lang/invoke/VarHandle" ∧ (parseMethodDescriptor yX10_layRings.desc).map (fun d => d.parameters.length) = some 1 := ⟨by decide +kernel, by decide +kernel, by decide +kernel⟩
theorem wcX10_rings : Cond.code yX10_rings cX10_rings 4 (some .int) ∈ lw_g := z_w (List.mem_append_right _ (List.mem_of_getElem? (i := 912) (by decide +kernel))) rfl
theorem wiX10_rings : Cond.instanceMethod yX10_rings ∈ lw_g := z_w (List.mem_append_right _ (List.mem_of_getElem? (i := 910) (by decide +kernel))) rfl
theorem wlX10_rings : Cond.selects "NotLikeThemModel" yX10_rings yX10_rings ∈ lw_g := z_w (List.mem_append_right _ (List.mem_of_getElem? (i := 911) (by decide +kernel))) rfl
theorem wyX10_rings : yX10_rings.cls ≠ "java/lang/invoke/MethodHandle" ∧ yX10_rings.cls ≠ "java/lang/invoke/VarHandle" ∧ (parseMethodDescriptor yX10_rings.desc).map (fun d => d.parameters.length) = some 1 := ⟨by decide +kernel, by decide +kernel, by decide +kernel⟩
theorem wcX10_ring : Cond.code yX10_ring cX10_ring 6 (some .int) ∈ lw_g := z_w (List.mem_append_right _ (List.mem_of_getElem? (i := 924) (by decide +kernel))) rfl
theorem wiX10_ring : Cond.instanceMethod yX10_ring ∈ lw_g := z_w (List.mem_append_right _ (List.mem_of_getElem? (i := 922) (by decide +kernel))) rfl
theorem wlX10_ring : Cond.selects "NotLikeThemModel" yX10_ring yX10_ring ∈ lw_g := z_w (List.mem_append_right _ (List.mem_of_getElem? (i := 923) (by decide +kernel))) rfl
theorem wyX10_ring : yX10_ring.cls ≠ "java/lang/invoke/MethodHandle" ∧ yX10_ring.cls ≠ "java/lang/invoke/VarHandle" ∧ (parseMethodDescriptor yX10_ring.desc).map (fun d => d.parameters.length) = some 3 := ⟨by decide +kernel, by decide +kernel, by decide +kernel⟩
theorem wcX10_longest : Cond.code yX10_longest cX10_longest 4 (some .int) ∈ lw_g := z_w (List.mem_append_right _ (List.mem_of_getElem? (i := 928) (by decide +kernel))) rfl
theorem wiX10_longest : Cond.instanceMethod yX10_longest ∈ lw_g := z_w (List.mem_append_right _ (List.mem_of_getElem? (i := 926) (by decide +kernel))) rfl
theorem wlX10_longest : Cond.selects "NotLikeThemModel" yX10_longest yX10_longest ∈ lw_g := z_w (List.mem_append_right _ (List.mem_of_getElem? (i := 927) (by decide +kernel))) rfl
theorem wyX10_longest : yX10_longest.cls ≠ "java/lang/invoke/MethodHandle" ∧ yX10_longest.cls ≠ "java/lang/invoke/VarHandle" ∧ (parseMethodDescriptor yX10_longest.desc).map (fun d => d.parameters.length) = some 1 := ⟨by decide +kernel, by decide +kernel, by decide +kernel⟩
theorem wcX10_isRest : Cond.code yX10_isRest cX10_isRest 2 (some .boolean) ∈ lw_g := z_w (List.mem_append_right _ (List.mem_of_getElem? (i := 936) (by decide +kernel))) rfl
theorem wiX10_isRest : Cond.instanceMethod yX10_isRest ∈ lw_g := z_w (List.mem_append_right _ (List.mem_of_getElem? (i := 935) (by decide +kernel))) rfl
theorem wlX10_isRest : Cond.selects "NotLikeThemModel" yX10_isRest yX10_isRest ∈ lw_g := z_w (List.mem_append_left _ (List.mem_of_getElem? (i := 31) (by decide +kernel))) rfl
theorem wyX10_isRest : yX10_isRest.cls ≠ "java/lang/invoke/MethodHandle" ∧ yX10_isRest.cls ≠ "java/lang/invoke/VarHandle" ∧ (parseMethodDescriptor yX10_isRest.desc).map (fun d => d.parameters.length) = some 1 := ⟨by decide +kernel, by decide +kernel, by decide +kernel⟩
theorem wcX10_rests : Cond.code yX10_rests cX10_rests 3 (some .int) ∈ lw_g := z_w (List.mem_append_right _ (List.mem_of_getElem? (i := 932) (by decide +kernel))) rfl
theorem wiX10_rests : Cond.instanceMethod yX10_rests ∈ lw_g := z_w (List.mem_append_right _ (List.mem_of_getElem? (i := 930) (by decide +kernel))) rfl
theorem wlX10_rests : Cond.selects "NotLikeThemModel" yX10_rests yX10_rests ∈ lw_g := z_w (List.mem_append_right _ (List.mem_of_getElem? (i := 931) (by decide +kernel))) rfl
theorem wyX10_rests : yX10_rests.cls ≠ "java/lang/invoke/MethodHandle" ∧ yX10_rests.cls ≠ "java/lang/invoke/VarHandle" ∧ (parseMethodDescriptor yX10_rests.desc).map (fun d => d.parameters.length) = some 0 := ⟨by decide +kernel, by decide +kernel, by decide +kernel⟩
theorem wcX10_restOf : Cond.code yX10_restOf cX10_restOf 4 (some .int) ∈ lw_g := z_w (List.mem_append_right _ (List.mem_of_getElem? (i := 944) (by decide +kernel))) rfl
theorem wiX10_restOf : Cond.instanceMethod yX10_restOf ∈ lw_g := z_w (List.mem_append_right _ (List.mem_of_getElem? (i := 943) (by decide +kernel))) rfl
theorem wlX10_restOf : Cond.selects "NotLikeThemModel" yX10_restOf yX10_restOf ∈ lw_g := z_w (List.mem_append_left _ (List.mem_of_getElem? (i := 32) (by decide +kernel))) rfl
theorem wyX10_restOf : yX10_restOf.cls ≠ "java/lang/invoke/MethodHandle" ∧ yX10_restOf.cls ≠ "java/lang/invoke/VarHandle" ∧ (parseMethodDescriptor yX10_restOf.desc).map (fun d => d.parameters.length) = some 1 := ⟨by decide +kernel, by decide +kernel, by decide +kernel⟩
theorem wcX10_rest : Cond.code yX10_rest cX10_rest 2 (some .int) ∈ lw_g := z_w (List.mem_append_right _ (List.mem_of_getElem? (i := 940) (by decide +kernel))) rfl
theorem wiX10_rest : Cond.instanceMethod yX10_rest ∈ lw_g := z_w (List.mem_append_right _ (List.mem_of_getElem? (i := 938) (by decide +kernel))) rfl
theorem wlX10_rest : Cond.selects "NotLikeThemModel" yX10_rest yX10_rest ∈ lw_g := z_w (List.mem_append_right _ (List.mem_of_getElem? (i := 939) (by decide +kernel))) rfl
theorem wyX10_rest : yX10_rest.cls ≠ "java/lang/invoke/MethodHandle" ∧ yX10_rest.cls ≠ "java/lang/invoke/VarHandle" ∧ (parseMethodDescriptor yX10_rest.desc).map (fun d => d.parameters.length) = some 1 := ⟨by decide +kernel, by decide +kernel, by decide +kernel⟩
theorem wcX10_isEven : Cond.code yX10_isEven cX10_isEven 5 (some .boolean) ∈ lw_g := z_w (List.mem_append_right _ (List.mem_of_getElem? (i := 952) (by decide +kernel))) rfl
theorem wiX10_isEven : Cond.instanceMethod yX10_isEven ∈ lw_g := z_w (List.mem_append_right _ (List.mem_of_getElem? (i := 951) (by decide +kernel))) rfl
theorem wlX10_isEven : Cond.selects "NotLikeThemModel" yX10_isEven yX10_isEven ∈ lw_g := z_w (List.mem_append_left _ (List.mem_of_getElem? (i := 33) (by decide +kernel))) rfl
theorem wyX10_isEven : yX10_isEven.cls ≠ "java/lang/invoke/MethodHandle" ∧ yX10_isEven.cls ≠ "java/lang/invoke/VarHandle" ∧ (parseMethodDescriptor yX10_isEven.desc).map (fun d => d.parameters.length) = some 0 := ⟨by decide +kernel, by decide +kernel, by decide +kernel⟩
theorem wcX10_even : Cond.code yX10_even cX10_even 1 (some .int) ∈ lw_g := z_w (List.mem_append_right _ (List.mem_of_getElem? (i := 948) (by decide +kernel))) rfl
theorem wiX10_even : Cond.instanceMethod yX10_even ∈ lw_g := z_w (List.mem_append_right _ (List.mem_of_getElem? (i := 946) (by decide +kernel))) rfl
theorem wlX10_even : Cond.selects "NotLikeThemModel" yX10_even yX10_even ∈ lw_g := z_w (List.mem_append_right _ (List.mem_of_getElem? (i := 947) (by decide +kernel))) rfl
theorem wyX10_even : yX10_even.cls ≠ "java/lang/invoke/MethodHandle" ∧ yX10_even.cls ≠ "java/lang/invoke/VarHandle" ∧ (parseMethodDescriptor yX10_even.desc).map (fun d => d.parameters.length) = some 0 := ⟨by decide +kernel, by decide +kernel, by decide +kernel⟩
theorem wcX10_heat : Cond.code yX10_heat cX10_heat 9 (some .int) ∈ lw_g := z_w (List.mem_append_right _ (List.mem_of_getElem? (i := 956) (by decide +kernel))) rfl
theorem wiX10_heat : Cond.instanceMethod yX10_heat ∈ lw_g := z_w (List.mem_append_right _ (List.mem_of_getElem? (i := 954) (by decide +kernel))) rfl
theorem wlX10_heat : Cond.selects "NotLikeThemModel" yX10_heat yX10_heat ∈ lw_g := z_w (List.mem_append_right _ (List.mem_of_getElem? (i := 955) (by decide +kernel))) rfl
theorem wyX10_heat : yX10_heat.cls ≠ "java/lang/invoke/MethodHandle" ∧ yX10_heat.cls ≠ "java/lang/invoke/VarHandle" ∧ (parseMethodDescriptor yX10_heat.desc).map (fun d => d.parameters.length) = some 1 := ⟨by decide +kernel, by decide +kernel, by decide +kernel⟩
theorem wcX10_loneOf : Cond.code yX10_loneOf cX10_loneOf 3 (some .int) ∈ lw_g := z_w (List.mem_append_right _ (List.mem_of_getElem? (i := 964) (by decide +kernel))) rfl
theorem wiX10_loneOf : Cond.instanceMethod yX10_loneOf ∈ lw_g := z_w (List.mem_append_right _ (List.mem_of_getElem? (i := 963) (by decide +kernel))) rfl
theorem wlX10_loneOf : Cond.selects "NotLikeThemModel" yX10_loneOf yX10_loneOf ∈ lw_g := z_w (List.mem_append_left _ (List.mem_of_getElem? (i := 34) (by decide +kernel))) rfl
theorem wyX10_loneOf : yX10_loneOf.cls ≠ "java/lang/invoke/MethodHandle" ∧ yX10_loneOf.cls ≠ "java/lang/invoke/VarHandle" ∧ (parseMethodDescriptor yX10_loneOf.desc).map (fun d => d.parameters.length) = some 2 := ⟨by decide +kernel, by decide +kernel, by decide +kernel⟩
theorem wcX10_lone : Cond.code yX10_lone cX10_lone 3 (some .int) ∈ lw_g := z_w (List.mem_append_right _ (List.mem_of_getElem? (i := 960) (by decide +kernel))) rfl
theorem wiX10_lone : Cond.instanceMethod yX10_lone ∈ lw_g := z_w (List.mem_append_right _ (List.mem_of_getElem? (i := 958) (by decide +kernel))) rfl
theorem wlX10_lone : Cond.selects "NotLikeThemModel" yX10_lone yX10_lone ∈ lw_g := z_w (List.mem_append_right _ (List.mem_of_getElem? (i := 959) (by decide +kernel))) rfl
theorem wyX10_lone : yX10_lone.cls ≠ "java/lang/invoke/MethodHandle" ∧ yX10_lone.cls ≠ "java/lang/invoke/VarHandle" ∧ (parseMethodDescriptor yX10_lone.desc).map (fun d => d.parameters.length) = some 2 := ⟨by decide +kernel, by decide +kernel, by decide +kernel⟩
theorem wcX10_layCalms : Cond.code yX10_layCalms cX10_layCalms 2 none ∈ lw_g := z_w (List.mem_append_right _ (List.mem_of_getElem? (i := 976) (by decide +kernel))) rfl
theorem wiX10_layCalms : Cond.instanceMethod yX10_layCalms ∈ lw_g := z_w (List.mem_append_right _ (List.mem_of_getElem? (i := 975) (by decide +kernel))) rfl
theorem wlX10_layCalms : Cond.selects "NotLikeThemModel" yX10_layCalms yX10_layCalms ∈ lw_g := z_w (List.mem_append_left _ (List.mem_of_getElem? (i := 36) (by decide +kernel))) rfl
theorem wyX10_layCalms : yX10_layCalms.cls ≠ "java/lang/invoke/MethodHandle" ∧ yX10_layCalms.cls ≠ "java/lang/invoke/VarHandle" ∧ (parseMethodDescriptor yX10_layCalms.desc).map (fun d => d.parameters.length) = some 0 := ⟨by decide +kernel, by decide +kernel, by decide +kernel⟩
theorem wcX10_layFar : Cond.code yX10_layFar cX10_layFar 6 none ∈ lw_g := z_w (List.mem_append_right _ (List.mem_of_getElem? (i := 984) (by decide +kernel))) rfl
theorem wiX10_layFar : Cond.instanceMethod yX10_layFar ∈ lw_g := z_w (List.mem_append_right _ (List.mem_of_getElem? (i := 983) (by decide +kernel))) rfl
theorem wlX10_layFar : Cond.selects "NotLikeThemModel" yX10_layFar yX10_layFar ∈ lw_g := z_w (List.mem_append_left _ (List.mem_of_getElem? (i := 38) (by decide +kernel))) rfl
theorem wyX10_layFar : yX10_layFar.cls ≠ "java/lang/invoke/MethodHandle" ∧ yX10_layFar.cls ≠ "java/lang/invoke/VarHandle" ∧ (parseMethodDescriptor yX10_layFar.desc).map (fun d => d.parameters.length) = some 1 := ⟨by decide +kernel, by decide +kernel, by decide +kernel⟩
theorem wcX10_comesBack : Cond.code yX10_comesBack cX10_comesBack 5 (some .boolean) ∈ lw_g := z_w (List.mem_append_right _ (List.mem_of_getElem? (i := 980) (by decide +kernel))) rfl
theorem wiX10_comesBack : Cond.instanceMethod yX10_comesBack ∈ lw_g := z_w (List.mem_append_right _ (List.mem_of_getElem? (i := 979) (by decide +kernel))) rfl
theorem wlX10_comesBack : Cond.selects "NotLikeThemModel" yX10_comesBack yX10_comesBack ∈ lw_g := z_w (List.mem_append_left _ (List.mem_of_getElem? (i := 37) (by decide +kernel))) rfl
theorem wyX10_comesBack : yX10_comesBack.cls ≠ "java/lang/invoke/MethodHandle" ∧ yX10_comesBack.cls ≠ "java/lang/invoke/VarHandle" ∧ (parseMethodDescriptor yX10_comesBack.desc).map (fun d => d.parameters.length) = some 1 := ⟨by decide +kernel, by decide +kernel, by decide +kernel⟩
theorem wcX10_witnessNow : Cond.code yX10_witnessNow cX10_witnessNow 2 (some .int) ∈ lw_g := z_w (List.mem_append_right _ (List.mem_of_getElem? (i := 972) (by decide +kernel))) rfl
theorem wiX10_witnessNow : Cond.instanceMethod yX10_witnessNow ∈ lw_g := z_w (List.mem_append_right _ (List.mem_of_getElem? (i := 971) (by decide +kernel))) rfl
theorem wlX10_witnessNow : Cond.selects "NotLikeThemModel" yX10_witnessNow yX10_witnessNow ∈ lw_g := z_w (List.mem_append_left _ (List.mem_of_getElem? (i := 35) (by decide +kernel))) rfl
theorem wyX10_witnessNow : yX10_witnessNow.cls ≠ "java/lang/invoke/MethodHandle" ∧ yX10_witnessNow.cls ≠ "java/lang/invoke/VarHandle" ∧ (parseMethodDescriptor yX10_witnessNow.desc).map (fun d => d.parameters.length) = some 0 := ⟨by decide +kernel, by decide +kernel, by decide +kernel⟩
theorem wcX10_settled : Cond.code yX10_settled cX10_settled 1 (some .int) ∈ lw_g := z_w (List.mem_append_right _ (List.mem_of_getElem? (i := 968) (by decide +kernel))) rfl
theorem wiX10_settled : Cond.instanceMethod yX10_settled ∈ lw_g := z_w (List.mem_append_right _ (List.mem_of_getElem? (i := 966) (by decide +kernel))) rfl
theorem wlX10_settled : Cond.selects "NotLikeThemModel" yX10_settled yX10_settled ∈ lw_g := z_w (List.mem_append_right _ (List.mem_of_getElem? (i := 967) (by decide +kernel))) rfl
theorem wyX10_settled : yX10_settled.cls ≠ "java/lang/invoke/MethodHandle" ∧ yX10_settled.cls ≠ "java/lang/invoke/VarHandle" ∧ (parseMethodDescriptor yX10_settled.desc).map (fun d => d.parameters.length) = some 0 := ⟨by decide +kernel, by decide +kernel, by decide +kernel⟩
theorem wcX10_witness : Cond.code yX10_witness cX10_witness 1 (some .int) ∈ lw_g := z_w (List.mem_append_right _ (List.mem_of_getElem? (i := 988) (by decide +kernel))) rfl
theorem wiX10_witness : Cond.instanceMethod yX10_witness ∈ lw_g := z_w (List.mem_append_right _ (List.mem_of_getElem? (i := 986) (by decide +kernel))) rfl
theorem wlX10_witness : Cond.selects "NotLikeThemModel" yX10_witness yX10_witness ∈ lw_g := z_w (List.mem_append_right _ (List.mem_of_getElem? (i := 987) (by decide +kernel))) rfl
theorem wyX10_witness : yX10_witness.cls ≠ "java/lang/invoke/MethodHandle" ∧ yX10_witness.cls ≠ "java/lang/invoke/VarHandle" ∧ (parseMethodDescriptor yX10_witness.desc).map (fun d => d.parameters.length) = some 0 := ⟨by decide +kernel, by decide +kernel, by decide +kernel⟩
theorem wcX10_turnedNow : Cond.code yX10_turnedNow cX10_turnedNow 4 (some .int) ∈ lw_g := z_w (List.mem_append_right _ (List.mem_of_getElem? (i := 996) (by decide +kernel))) rfl
theorem wiX10_turnedNow : Cond.instanceMethod yX10_turnedNow ∈ lw_g := z_w (List.mem_append_right _ (List.mem_of_getElem? (i := 995) (by decide +kernel))) rfl
theorem wlX10_turnedNow : Cond.selects "NotLikeThemModel" yX10_turnedNow yX10_turnedNow ∈ lw_g := z_w (List.mem_append_left _ (List.mem_of_getElem? (i := 39) (by decide +kernel))) rfl
theorem wyX10_turnedNow : yX10_turnedNow.cls ≠ "java/lang/invoke/MethodHandle" ∧ yX10_turnedNow.cls ≠ "java/lang/invoke/VarHandle" ∧ (parseMethodDescriptor yX10_turnedNow.desc).map (fun d => d.parameters.length) = some 0 := ⟨by decide +kernel, by decide +kernel, by decide +kernel⟩
theorem wcX10_turn : Cond.code yX10_turn cX10_turn 2 (some .int) ∈ lw_g := z_w (List.mem_append_right _ (List.mem_of_getElem? (i := 992) (by decide +kernel))) rfl
theorem wiX10_turn : Cond.instanceMethod yX10_turn ∈ lw_g := z_w (List.mem_append_right _ (List.mem_of_getElem? (i := 990) (by decide +kernel))) rfl
theorem wlX10_turn : Cond.selects "NotLikeThemModel" yX10_turn yX10_turn ∈ lw_g := z_w (List.mem_append_right _ (List.mem_of_getElem? (i := 991) (by decide +kernel))) rfl
theorem wyX10_turn : yX10_turn.cls ≠ "java/lang/invoke/MethodHandle" ∧ yX10_turn.cls ≠ "java/lang/invoke/VarHandle" ∧ (parseMethodDescriptor yX10_turn.desc).map (fun d => d.parameters.length) = some 0 := ⟨by decide +kernel, by decide +kernel, by decide +kernel⟩
theorem wcX10_turned : Cond.code yX10_turned cX10_turned 1 (some .int) ∈ lw_g := z_w (List.mem_append_right _ (List.mem_of_getElem? (i := 1003) (by decide +kernel))) rfl
theorem wiX10_turned : Cond.instanceMethod yX10_turned ∈ lw_g := z_w (List.mem_append_right _ (List.mem_of_getElem? (i := 1001) (by decide +kernel))) rfl
theorem wlX10_turned : Cond.selects "NotLikeThemModel" yX10_turned yX10_turned ∈ lw_g := z_w (List.mem_append_right _ (List.mem_of_getElem? (i := 1002) (by decide +kernel))) rfl
theorem wyX10_turned : yX10_turned.cls ≠ "java/lang/invoke/MethodHandle" ∧ yX10_turned.cls ≠ "java/lang/invoke/VarHandle" ∧ (parseMethodDescriptor yX10_turned.desc).map (fun d => d.parameters.length) = some 0 := ⟨by decide +kernel, by decide +kernel, by decide +kernel⟩
theorem wcX10_hold : Cond.code yX10_hold cX10_hold 4 (some .int) ∈ lw_g := z_w (List.mem_append_right _ (List.mem_of_getElem? (i := 1007) (by decide +kernel))) rfl
theorem wiX10_hold : Cond.instanceMethod yX10_hold ∈ lw_g := z_w (List.mem_append_right _ (List.mem_of_getElem? (i := 1005) (by decide +kernel))) rfl
theorem wlX10_hold : Cond.selects "NotLikeThemModel" yX10_hold yX10_hold ∈ lw_g := z_w (List.mem_append_right _ (List.mem_of_getElem? (i := 1006) (by decide +kernel))) rfl
theorem wyX10_hold : yX10_hold.cls ≠ "java/lang/invoke/MethodHandle" ∧ yX10_hold.cls ≠ "java/lang/invoke/VarHandle" ∧ (parseMethodDescriptor yX10_hold.desc).map (fun d => d.parameters.length) = some 1 := ⟨by decide +kernel, by decide +kernel, by decide +kernel⟩
theorem wcX10_may : Cond.code yX10_may cX10_may 4 (some .int) ∈ lw_g := z_w (List.mem_append_right _ (List.mem_of_getElem? (i := 1011) (by decide +kernel))) rfl
theorem wiX10_may : Cond.instanceMethod yX10_may ∈ lw_g := z_w (List.mem_append_right _ (List.mem_of_getElem? (i := 1009) (by decide +kernel))) rfl
theorem wlX10_may : Cond.selects "NotLikeThemModel" yX10_may yX10_may ∈ lw_g := z_w (List.mem_append_right _ (List.mem_of_getElem? (i := 1010) (by decide +kernel))) rfl
theorem wyX10_may : yX10_may.cls ≠ "java/lang/invoke/MethodHandle" ∧ yX10_may.cls ≠ "java/lang/invoke/VarHandle" ∧ (parseMethodDescriptor yX10_may.desc).map (fun d => d.parameters.length) = some 2 := ⟨by decide +kernel, by decide +kernel, by decide +kernel⟩
theorem wcX10_mays : Cond.code yX10_mays cX10_mays 4 (some .int) ∈ lw_g := z_w (List.mem_append_right _ (List.mem_of_getElem? (i := 1015) (by decide +kernel))) rfl
theorem wiX10_mays : Cond.instanceMethod yX10_mays ∈ lw_g := z_w (List.mem_append_right _ (List.mem_of_getElem? (i := 1013) (by decide +kernel))) rfl
theorem wlX10_mays : Cond.selects "NotLikeThemModel" yX10_mays yX10_mays ∈ lw_g := z_w (List.mem_append_right _ (List.mem_of_getElem? (i := 1014) (by decide +kernel))) rfl
theorem wyX10_mays : yX10_mays.cls ≠ "java/lang/invoke/MethodHandle" ∧ yX10_mays.cls ≠ "java/lang/invoke/VarHandle" ∧ (parseMethodDescriptor yX10_mays.desc).map (fun d => d.parameters.length) = some 1 := ⟨by decide +kernel, by decide +kernel, by decide +kernel⟩
theorem wcX10_soon : Cond.code yX10_soon cX10_soon 3 (some .int) ∈ lw_g := z_w (List.mem_append_right _ (List.mem_of_getElem? (i := 1019) (by decide +kernel))) rfl
theorem wiX10_soon : Cond.instanceMethod yX10_soon ∈ lw_g := z_w (List.mem_append_right _ (List.mem_of_getElem? (i := 1017) (by decide +kernel))) rfl
theorem wlX10_soon : Cond.selects "NotLikeThemModel" yX10_soon yX10_soon ∈ lw_g := z_w (List.mem_append_right _ (List.mem_of_getElem? (i := 1018) (by decide +kernel))) rfl
theorem wyX10_soon : yX10_soon.cls ≠ "java/lang/invoke/MethodHandle" ∧ yX10_soon.cls ≠ "java/lang/invoke/VarHandle" ∧ (parseMethodDescriptor yX10_soon.desc).map (fun d => d.parameters.length) = some 1 := ⟨by decide +kernel, by decide +kernel, by decide +kernel⟩
theorem wcX10_draw : Cond.code yX10_draw cX10_draw 4 none ∈ lw_g := z_w (List.mem_append_right _ (List.mem_of_getElem? (i := 1029) (by decide +kernel))) rfl
theorem wiX10_draw : Cond.instanceMethod yX10_draw ∈ lw_g := z_w (List.mem_append_right _ (List.mem_of_getElem? (i := 1028) (by decide +kernel))) rfl
theorem wlX10_draw : Cond.selects "NotLikeThemModel" yX10_draw yX10_draw ∈ lw_g := z_w (List.mem_append_left _ (List.mem_of_getElem? (i := 40) (by decide +kernel))) rfl
theorem wyX10_draw : yX10_draw.cls ≠ "java/lang/invoke/MethodHandle" ∧ yX10_draw.cls ≠ "java/lang/invoke/VarHandle" ∧ (parseMethodDescriptor yX10_draw.desc).map (fun d => d.parameters.length) = some 0 := ⟨by decide +kernel, by decide +kernel, by decide +kernel⟩
theorem wcX10_likely : Cond.code yX10_likely cX10_likely 14 (some .long) ∈ lw_g := z_w (List.mem_append_right _ (List.mem_of_getElem? (i := 1023) (by decide +kernel))) rfl
theorem wiX10_likely : Cond.instanceMethod yX10_likely ∈ lw_g := z_w (List.mem_append_right _ (List.mem_of_getElem? (i := 1021) (by decide +kernel))) rfl
theorem wlX10_likely : Cond.selects "NotLikeThemModel" yX10_likely yX10_likely ∈ lw_g := z_w (List.mem_append_right _ (List.mem_of_getElem? (i := 1022) (by decide +kernel))) rfl
theorem wyX10_likely : yX10_likely.cls ≠ "java/lang/invoke/MethodHandle" ∧ yX10_likely.cls ≠ "java/lang/invoke/VarHandle" ∧ (parseMethodDescriptor yX10_likely.desc).map (fun d => d.parameters.length) = some 3 := ⟨by decide +kernel, by decide +kernel, by decide +kernel⟩
theorem wcX10_week : Cond.code yX10_week cX10_week 2 (some .int) ∈ lw_g := z_w (List.mem_append_right _ (List.mem_of_getElem? (i := 1034) (by decide +kernel))) rfl
theorem wiX10_week : Cond.instanceMethod yX10_week ∈ lw_g := z_w (List.mem_append_right _ (List.mem_of_getElem? (i := 1032) (by decide +kernel))) rfl
theorem wlX10_week : Cond.selects "NotLikeThemModel" yX10_week yX10_week ∈ lw_g := z_w (List.mem_append_right _ (List.mem_of_getElem? (i := 1033) (by decide +kernel))) rfl
theorem wyX10_week : yX10_week.cls ≠ "java/lang/invoke/MethodHandle" ∧ yX10_week.cls ≠ "java/lang/invoke/VarHandle" ∧ (parseMethodDescriptor yX10_week.desc).map (fun d => d.parameters.length) = some 1 := ⟨by decide +kernel, by decide +kernel, by decide +kernel⟩
theorem wcX10_wipe : Cond.code yX10_wipe cX10_wipe 2 (some .int) ∈ lw_g := z_w (List.mem_append_right _ (List.mem_of_getElem? (i := 1038) (by decide +kernel))) rfl
theorem wiX10_wipe : Cond.instanceMethod yX10_wipe ∈ lw_g := z_w (List.mem_append_right _ (List.mem_of_getElem? (i := 1036) (by decide +kernel))) rfl
theorem wlX10_wipe : Cond.selects "NotLikeThemModel" yX10_wipe yX10_wipe ∈ lw_g := z_w (List.mem_append_right _ (List.mem_of_getElem? (i := 1037) (by decide +kernel))) rfl
theorem wyX10_wipe : yX10_wipe.cls ≠ "java/lang/invoke/MethodHandle" ∧ yX10_wipe.cls ≠ "java/lang/invoke/VarHandle" ∧ (parseMethodDescriptor yX10_wipe.desc).map (fun d => d.parameters.length) = some 0 := ⟨by decide +kernel, by decide +kernel, by decide +kernel⟩
theorem wcX10_maybeOf : Cond.code yX10_maybeOf cX10_maybeOf 6 (some .int) ∈ lw_g := z_w (List.mem_append_right _ (List.mem_of_getElem? (i := 1046) (by decide +kernel))) rfl
theorem wiX10_maybeOf : Cond.instanceMethod yX10_maybeOf ∈ lw_g := z_w (List.mem_append_right _ (List.mem_of_getElem? (i := 1045) (by decide +kernel))) rfl
theorem wlX10_maybeOf : Cond.selects "NotLikeThemModel" yX10_maybeOf yX10_maybeOf ∈ lw_g := z_w (List.mem_append_left _ (List.mem_of_getElem? (i := 41) (by decide +kernel))) rfl
theorem wyX10_maybeOf : yX10_maybeOf.cls ≠ "java/lang/invoke/MethodHandle" ∧ yX10_maybeOf.cls ≠ "java/lang/invoke/VarHandle" ∧ (parseMethodDescriptor yX10_maybeOf.desc).map (fun d => d.parameters.length) = some 1 := ⟨by decide +kernel, by decide +kernel, by decide +kernel⟩
theorem wcX10_maybe : Cond.code yX10_maybe cX10_maybe 2 (some .int) ∈ lw_g := z_w (List.mem_append_right _ (List.mem_of_getElem? (i := 1042) (by decide +kernel))) rfl
theorem wiX10_maybe : Cond.instanceMethod yX10_maybe ∈ lw_g := z_w (List.mem_append_right _ (List.mem_of_getElem? (i := 1040) (by decide +kernel))) rfl
theorem wlX10_maybe : Cond.selects "NotLikeThemModel" yX10_maybe yX10_maybe ∈ lw_g := z_w (List.mem_append_right _ (List.mem_of_getElem? (i := 1041) (by decide +kernel))) rfl
theorem wyX10_maybe : yX10_maybe.cls ≠ "java/lang/invoke/MethodHandle" ∧ yX10_maybe.cls ≠ "java/lang/invoke/VarHandle" ∧ (parseMethodDescriptor yX10_maybe.desc).map (fun d => d.parameters.length) = some 1 := ⟨by decide +kernel, by decide +kernel, by decide +kernel⟩
theorem wcX10_ways : Cond.code yX10_ways cX10_ways 4 (some .long) ∈ lw_g := z_w (List.mem_append_right _ (List.mem_of_getElem? (i := 1050) (by decide +kernel))) rfl
theorem wiX10_ways : Cond.instanceMethod yX10_ways ∈ lw_g := z_w (List.mem_append_right _ (List.mem_of_getElem? (i := 1048) (by decide +kernel))) rfl
theorem wlX10_ways : Cond.selects "NotLikeThemModel" yX10_ways yX10_ways ∈ lw_g := z_w (List.mem_append_right _ (List.mem_of_getElem? (i := 1049) (by decide +kernel))) rfl
theorem wyX10_ways : yX10_ways.cls ≠ "java/lang/invoke/MethodHandle" ∧ yX10_ways.cls ≠ "java/lang/invoke/VarHandle" ∧ (parseMethodDescriptor yX10_ways.desc).map (fun d => d.parameters.length) = some 0 := ⟨by decide +kernel, by decide +kernel, by decide +kernel⟩
theorem wcX10_take : Cond.code yX10_take cX10_take 5 (some .int) ∈ lw_g := z_w (List.mem_append_right _ (List.mem_of_getElem? (i := 1054) (by decide +kernel))) rfl
theorem wiX10_take : Cond.instanceMethod yX10_take ∈ lw_g := z_w (List.mem_append_right _ (List.mem_of_getElem? (i := 1052) (by decide +kernel))) rfl
theorem wlX10_take : Cond.selects "NotLikeThemModel" yX10_take yX10_take ∈ lw_g := z_w (List.mem_append_right _ (List.mem_of_getElem? (i := 1053) (by decide +kernel))) rfl
theorem wyX10_take : yX10_take.cls ≠ "java/lang/invoke/MethodHandle" ∧ yX10_take.cls ≠ "java/lang/invoke/VarHandle" ∧ (parseMethodDescriptor yX10_take.desc).map (fun d => d.parameters.length) = some 0 := ⟨by decide +kernel, by decide +kernel, by decide +kernel⟩
theorem wcX10_askedOf : Cond.code yX10_askedOf cX10_askedOf 7 (some .int) ∈ lw_g := z_w (List.mem_append_right _ (List.mem_of_getElem? (i := 1064) (by decide +kernel))) rfl
theorem wiX10_askedOf : Cond.instanceMethod yX10_askedOf ∈ lw_g := z_w (List.mem_append_right _ (List.mem_of_getElem? (i := 1063) (by decide +kernel))) rfl
theorem wlX10_askedOf : Cond.selects "NotLikeThemModel" yX10_askedOf yX10_askedOf ∈ lw_g := z_w (List.mem_append_left _ (List.mem_of_getElem? (i := 42) (by decide +kernel))) rfl
theorem wyX10_askedOf : yX10_askedOf.cls ≠ "java/lang/invoke/MethodHandle" ∧ yX10_askedOf.cls ≠ "java/lang/invoke/VarHandle" ∧ (parseMethodDescriptor yX10_askedOf.desc).map (fun d => d.parameters.length) = some 2 := ⟨by decide +kernel, by decide +kernel, by decide +kernel⟩
theorem wcX10_asked : Cond.code yX10_asked cX10_asked 4 (some .int) ∈ lw_g := z_w (List.mem_append_right _ (List.mem_of_getElem? (i := 1059) (by decide +kernel))) rfl
theorem wiX10_asked : Cond.instanceMethod yX10_asked ∈ lw_g := z_w (List.mem_append_right _ (List.mem_of_getElem? (i := 1057) (by decide +kernel))) rfl
theorem wlX10_asked : Cond.selects "NotLikeThemModel" yX10_asked yX10_asked ∈ lw_g := z_w (List.mem_append_right _ (List.mem_of_getElem? (i := 1058) (by decide +kernel))) rfl
theorem wyX10_asked : yX10_asked.cls ≠ "java/lang/invoke/MethodHandle" ∧ yX10_asked.cls ≠ "java/lang/invoke/VarHandle" ∧ (parseMethodDescriptor yX10_asked.desc).map (fun d => d.parameters.length) = some 3 := ⟨by decide +kernel, by decide +kernel, by decide +kernel⟩
theorem wcX10_layAsks : Cond.code yX10_layAsks cX10_layAsks 4 none ∈ lw_g := z_w (List.mem_append_right _ (List.mem_of_getElem? (i := 1077) (by decide +kernel))) rfl
theorem wiX10_layAsks : Cond.instanceMethod yX10_layAsks ∈ lw_g := z_w (List.mem_append_right _ (List.mem_of_getElem? (i := 1076) (by decide +kernel))) rfl
theorem wlX10_layAsks : Cond.selects "NotLikeThemModel" yX10_layAsks yX10_layAsks ∈ lw_g := z_w (List.mem_append_left _ (List.mem_of_getElem? (i := 43) (by decide +kernel))) rfl
theorem wyX10_layAsks : yX10_layAsks.cls ≠ "java/lang/invoke/MethodHandle" ∧ yX10_layAsks.cls ≠ "java/lang/invoke/VarHandle" ∧ (parseMethodDescriptor yX10_layAsks.desc).map (fun d => d.parameters.length) = some 2 := ⟨by decide +kernel, by decide +kernel, by decide +kernel⟩
theorem wcX10_gainOf : Cond.code yX10_gainOf cX10_gainOf 6 (some .int) ∈ lw_g := z_w (List.mem_append_right _ (List.mem_of_getElem? (i := 1081) (by decide +kernel))) rfl
theorem wiX10_gainOf : Cond.instanceMethod yX10_gainOf ∈ lw_g := z_w (List.mem_append_right _ (List.mem_of_getElem? (i := 1080) (by decide +kernel))) rfl
theorem wlX10_gainOf : Cond.selects "NotLikeThemModel" yX10_gainOf yX10_gainOf ∈ lw_g := z_w (List.mem_append_left _ (List.mem_of_getElem? (i := 44) (by decide +kernel))) rfl
theorem wyX10_gainOf : yX10_gainOf.cls ≠ "java/lang/invoke/MethodHandle" ∧ yX10_gainOf.cls ≠ "java/lang/invoke/VarHandle" ∧ (parseMethodDescriptor yX10_gainOf.desc).map (fun d => d.parameters.length) = some 3 := ⟨by decide +kernel, by decide +kernel, by decide +kernel⟩
theorem wcX10_isShop : Cond.code yX10_isShop cX10_isShop 4 (some .boolean) ∈ lw_g := z_w (List.mem_append_right _ (List.mem_of_getElem? (i := 1071) (by decide +kernel))) rfl
theorem wsX10_isShop : Cond.static yX10_isShop ∈ lw_g := z_w (List.mem_append_right _ (List.mem_of_getElem? (i := 1070) (by decide +kernel))) rfl
theorem wyX10_isShop : yX10_isShop.cls ≠ "java/lang/invoke/MethodHandle" ∧ yX10_isShop.cls ≠ "java/lang/invoke/VarHandle" ∧ (parseMethodDescriptor yX10_isShop.desc).map (fun d => d.parameters.length) = some 4 := ⟨by decide +kernel, by decide +kernel, by decide +kernel⟩
theorem wcX10_gain : Cond.code yX10_gain cX10_gain 6 (some .int) ∈ lw_g := z_w (List.mem_append_right _ (List.mem_of_getElem? (i := 1068) (by decide +kernel))) rfl
theorem wiX10_gain : Cond.instanceMethod yX10_gain ∈ lw_g := z_w (List.mem_append_right _ (List.mem_of_getElem? (i := 1066) (by decide +kernel))) rfl
theorem wlX10_gain : Cond.selects "NotLikeThemModel" yX10_gain yX10_gain ∈ lw_g := z_w (List.mem_append_right _ (List.mem_of_getElem? (i := 1067) (by decide +kernel))) rfl
theorem wyX10_gain : yX10_gain.cls ≠ "java/lang/invoke/MethodHandle" ∧ yX10_gain.cls ≠ "java/lang/invoke/VarHandle" ∧ (parseMethodDescriptor yX10_gain.desc).map (fun d => d.parameters.length) = some 5 := ⟨by decide +kernel, by decide +kernel, by decide +kernel⟩
theorem wcX10_order : Cond.code yX10_order cX10_order 9 (some .int) ∈ lw_g := z_w (List.mem_append_right _ (List.mem_of_getElem? (i := 1085) (by decide +kernel))) rfl
theorem wiX10_order : Cond.instanceMethod yX10_order ∈ lw_g := z_w (List.mem_append_right _ (List.mem_of_getElem? (i := 1083) (by decide +kernel))) rfl
theorem wlX10_order : Cond.selects "NotLikeThemModel" yX10_order yX10_order ∈ lw_g := z_w (List.mem_append_right _ (List.mem_of_getElem? (i := 1084) (by decide +kernel))) rfl
theorem wyX10_order : yX10_order.cls ≠ "java/lang/invoke/MethodHandle" ∧ yX10_order.cls ≠ "java/lang/invoke/VarHandle" ∧ (parseMethodDescriptor yX10_order.desc).map (fun d => d.parameters.length) = some 4 := ⟨by decide +kernel, by decide +kernel, by decide +kernel⟩
theorem wcX10_count : Cond.code yX10_count cX10_count 6 (some .int) ∈ lw_g := z_w (List.mem_append_right _ (List.mem_of_getElem? (i := 1089) (by decide +kernel))) rfl
theorem wiX10_count : Cond.instanceMethod yX10_count ∈ lw_g := z_w (List.mem_append_right _ (List.mem_of_getElem? (i := 1087) (by decide +kernel))) rfl
theorem wlX10_count : Cond.selects "NotLikeThemModel" yX10_count yX10_count ∈ lw_g := z_w (List.mem_append_right _ (List.mem_of_getElem? (i := 1088) (by decide +kernel))) rfl
theorem wyX10_count : yX10_count.cls ≠ "java/lang/invoke/MethodHandle" ∧ yX10_count.cls ≠ "java/lang/invoke/VarHandle" ∧ (parseMethodDescriptor yX10_count.desc).map (fun d => d.parameters.length) = some 1 := ⟨by decide +kernel, by decide +kernel, by decide +kernel⟩
theorem wcJ6_bitCount_0f7a4 : Cond.code yJ6_bitCount_0f7a4 cJ6_bitCount_0f7a4 1 (some .int) ∈ lw_g := z_w (List.mem_append_right _ (List.mem_of_getElem? (i := 578) (by decide +kernel))) rfl
theorem wsJ6_bitCount_0f7a4 : Cond.static yJ6_bitCount_0f7a4 ∈ lw_g := z_w (List.mem_append_right _ (List.mem_of_getElem? (i := 577) (by decide +kernel))) rfl
theorem wyJ6_bitCount_0f7a4 : yJ6_bitCount_0f7a4.cls ≠ "java/lang/invoke/MethodHandle" ∧ yJ6_bitCount_0f7a4.cls ≠ "java/lang/invoke/VarHandle" ∧ (parseMethodDescriptor yJ6_bitCount_0f7a4.desc).map (fun d => d.parameters.length) = some 1 := ⟨by decide +kernel, by decide +kernel, by decide +kernel⟩
theorem wnX0 : Cond.initialized "NotLikeThem$Chance" ∈ lw_g := z_w (List.mem_append_right _ (List.mem_of_getElem? (i := 8) (by decide +kernel))) rfl
theorem wnX1 : Cond.initialized "NotLikeThem$Heat" ∈ lw_g := z_w (List.mem_append_right _ (List.mem_of_getElem? (i := 4) (by decide +kernel))) rfl
theorem wnX2 : Cond.initialized "NotLikeThem$Picture" ∈ lw_g := z_w (List.mem_append_right _ (List.mem_of_getElem? (i := 9) (by decide +kernel))) rfl
theorem wnX3 : Cond.initialized "NotLikeThem$Rests" ∈ lw_g := z_w (List.mem_append_right _ (List.mem_of_getElem? (i := 5) (by decide +kernel))) rfl
theorem wnX4 : Cond.initialized "NotLikeThem$Rounds" ∈ lw_g := z_w (List.mem_append_right _ (List.mem_of_getElem? (i := 7) (by decide +kernel))) rfl
theorem wnX5 : Cond.initialized "NotLikeThem$Shop" ∈ lw_g := z_w (List.mem_append_right _ (List.mem_of_getElem? (i := 10) (by decide +kernel))) rfl
theorem wnX6 : Cond.initialized "NotLikeThem$Spare" ∈ lw_g := z_w (List.mem_append_right _ (List.mem_of_getElem? (i := 2) (by decide +kernel))) rfl
theorem wnX7 : Cond.initialized "NotLikeThem$Town" ∈ lw_g := z_w (List.mem_append_right _ (List.mem_of_getElem? (i := 3) (by decide +kernel))) rfl
theorem wnX8 : Cond.initialized "NotLikeThem$Walk" ∈ lw_g := z_w (List.mem_append_right _ (List.mem_of_getElem? (i := 6) (by decide +kernel))) rfl
theorem wnX9 : Cond.initialized "NotLikeThem" ∈ lw_g := z_w (List.mem_append_right _ (List.mem_of_getElem? (i := 1) (by decide +kernel))) rfl
theorem wnX10 : Cond.initialized "NotLikeThemModel" ∈ lw_g := z_w (List.mem_append_right _ (List.mem_of_getElem? (i := 11) (by decide +kernel))) rfl
theorem wnJ6 : Cond.initialized "java/lang/Integer" ∈ lw_g := z_w (List.mem_append_right _ (List.mem_of_getElem? (i := 13) (by decide +kernel))) rfl
