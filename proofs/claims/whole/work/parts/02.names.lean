def RX0 : String := "RockHeat$Bore"
def TX0 : u_T := fun k => match k with
  | 0 => ("RockHeat$Bore", "number", "I", true)
  | 1 => ("RockHeat$Bore", "x", "I", true)
  | 2 => ("RockHeat$Bore", "y", "I", true)
  | 3 => ("RockHeat$Bore", "degrees", "I", true)
  | 4 => ("RockHeat$Bore", "rings", "Ljava/util/ArrayList;", true)
  | 5 => ("RockHeat$Bore", "top", "LRockHeat$Ring;", true)
  | 6 => ("RockHeat$Bore", "last", "LRockHeat$Ring;", true)
  | 7 => ("RockHeat$Bore", "lead", "I", false)
  | 8 => ("RockHeat$Bore", "water", "I", false)
  | 9 => ("RockHeat$Bore", "open", "Z", false)
  | _ => ("RockHeat$Bore", "given", "J", false)
def tyX0 : Nat → FieldType := fun k => match k with
  | 0 => .int
  | 1 => .int
  | 2 => .int
  | 3 => .int
  | 4 => .object "java/util/ArrayList"
  | 5 => .object "RockHeat$Ring"
  | 6 => .object "RockHeat$Ring"
  | 7 => .int
  | 8 => .int
  | 9 => .boolean
  | _ => .long
abbrev wsX00 : List Cond := u_ws RX0 TX0 11
theorem nmX0 : ∀ a, a < 11 → ∀ b, b < 11 → a ≠ b → (TX0 a).2.1 ≠ (TX0 b).2.1 := by decide +kernel
theorem tyX0_ok : ∀ k, k < 11 → parseFieldDescriptor (TX0 k).2.2.1 = some (tyX0 k) := by decide +kernel
abbrev cX0_init : ByteArray := prog_2_method_1_code
def yX0_init : MethodName := ⟨RX0, "<init>", "(IIIIII)V"⟩
abbrev cX0_isFrozen : ByteArray := prog_2_method_2_code
def yX0_isFrozen : MethodName := ⟨RX0, "isFrozen", "()Z"⟩
abbrev cX0_leadOut : ByteArray := prog_2_method_3_code
def yX0_leadOut : MethodName := ⟨RX0, "leadOut", "()J"⟩
abbrev cX0_shareWith : ByteArray := prog_2_method_4_code
def yX0_shareWith : MethodName := ⟨RX0, "shareWith", "(LRockHeat$Bore;I)V"⟩
abbrev cX0_wash : ByteArray := prog_2_method_5_code
def yX0_wash : MethodName := ⟨RX0, "wash", "()J"⟩
abbrev cX0_settle : ByteArray := prog_2_method_6_code
def yX0_settle : MethodName := ⟨RX0, "settle", "()V"⟩
abbrev cX0_follow : ByteArray := prog_2_method_7_code
def yX0_follow : MethodName := ⟨RX0, "follow", "(LRockHeat$Bore;)V"⟩
def RX1 : String := "RockHeat$Ground"
def TX1 : u_T := fun k => match k with
  | 0 => ("RockHeat$Ground", "town", "LRockHeat$Town;", true)
  | 1 => ("RockHeat$Ground", "table", "LRockHeat$Table;", true)
  | 2 => ("RockHeat$Ground", "rules", "LRockHeat$Rules;", true)
  | 3 => ("RockHeat$Ground", "bores", "Ljava/util/ArrayList;", true)
  | 4 => ("RockHeat$Ground", "totals", "[J", true)
  | 5 => ("RockHeat$Ground", "share", "I", false)
  | _ => ("RockHeat$Ground", "hour", "I", false)
def tyX1 : Nat → FieldType := fun k => match k with
  | 0 => .object "RockHeat$Town"
  | 1 => .object "RockHeat$Table"
  | 2 => .object "RockHeat$Rules"
  | 3 => .object "java/util/ArrayList"
  | 4 => .array .long
  | 5 => .int
  | _ => .int
abbrev wsX10 : List Cond := u_ws RX1 TX1 7
theorem nmX1 : ∀ a, a < 7 → ∀ b, b < 7 → a ≠ b → (TX1 a).2.1 ≠ (TX1 b).2.1 := by decide +kernel
theorem tyX1_ok : ∀ k, k < 7 → parseFieldDescriptor (TX1 k).2.2.1 = some (tyX1 k) := by decide +kernel
abbrev cX1_init : ByteArray := prog_3_method_1_code
def yX1_init : MethodName := ⟨RX1, "<init>", "(LRockHeat$Town;LRockHeat$Table;LRockHeat$Rules;)V"⟩
abbrev cX1_find : ByteArray := prog_3_method_2_code
def yX1_find : MethodName := ⟨RX1, "find", "(I)LRockHeat$Bore;"⟩
abbrev cX1_pass : ByteArray := prog_3_method_3_code
def yX1_pass : MethodName := ⟨RX1, "pass", "()V"⟩
abbrev cX1_layFlows : ByteArray := prog_3_method_4_code
def yX1_layFlows : MethodName := ⟨RX1, "layFlows", "()V"⟩
abbrev cX1_takeSun : ByteArray := prog_3_method_5_code
def yX1_takeSun : MethodName := ⟨RX1, "takeSun", "()V"⟩
abbrev cX1_meet : ByteArray := prog_3_method_6_code
def yX1_meet : MethodName := ⟨RX1, "meet", "(J)V"⟩
abbrev cX1_follow : ByteArray := prog_3_method_7_code
def yX1_follow : MethodName := ⟨RX1, "follow", "(LRockHeat$Ground;)V"⟩
abbrev cX1_shut : ByteArray := prog_3_method_8_code
def yX1_shut : MethodName := ⟨RX1, "shut", "(I)V"⟩
abbrev cX1_openOnly : ByteArray := prog_3_method_9_code
def yX1_openOnly : MethodName := ⟨RX1, "openOnly", "(I)V"⟩
abbrev cX1_openOnes : ByteArray := prog_3_method_10_code
def yX1_openOnes : MethodName := ⟨RX1, "openOnes", "()I"⟩
abbrev cX1_coldestNow : ByteArray := prog_3_method_11_code
def yX1_coldestNow : MethodName := ⟨RX1, "coldestNow", "()J"⟩
abbrev cX1_heatInAll : ByteArray := prog_3_method_12_code
def yX1_heatInAll : MethodName := ⟨RX1, "heatInAll", "(Z)J"⟩
def RX2 : String := "RockHeat$House"
def TX2 : u_T := fun k => match k with
  | 0 => ("RockHeat$House", "base", "I", true)
  | 1 => ("RockHeat$House", "more", "I", true)
  | 2 => ("RockHeat$House", "wake", "I", true)
  | 3 => ("RockHeat$House", "told", "Z", false)
  | _ => ("RockHeat$House", "day", "I", false)
def tyX2 : Nat → FieldType := fun k => match k with
  | 0 => .int
  | 1 => .int
  | 2 => .int
  | 3 => .boolean
  | _ => .int
abbrev wsX20 : List Cond := u_ws RX2 TX2 5
theorem nmX2 : ∀ a, a < 5 → ∀ b, b < 5 → a ≠ b → (TX2 a).2.1 ≠ (TX2 b).2.1 := by decide +kernel
theorem tyX2_ok : ∀ k, k < 5 → parseFieldDescriptor (TX2 k).2.2.1 = some (tyX2 k) := by decide +kernel
abbrev cX2_init : ByteArray := prog_4_method_1_code
def yX2_init : MethodName := ⟨RX2, "<init>", "(III)V"⟩
abbrev cX2_isJoinedOn : ByteArray := prog_4_method_2_code
def yX2_isJoinedOn : MethodName := ⟨RX2, "isJoinedOn", "(I)Z"⟩
def RX3 : String := "RockHeat$Reading"
def TX3 : u_T := fun k => match k with
  | 0 => ("RockHeat$Reading", "bore", "I", true)
  | 1 => ("RockHeat$Reading", "hour", "I", true)
  | _ => ("RockHeat$Reading", "wrong", "J", true)
def tyX3 : Nat → FieldType := fun k => match k with
  | 0 => .int
  | 1 => .int
  | _ => .long
abbrev wsX30 : List Cond := u_ws RX3 TX3 3
theorem nmX3 : ∀ a, a < 3 → ∀ b, b < 3 → a ≠ b → (TX3 a).2.1 ≠ (TX3 b).2.1 := by decide +kernel
theorem tyX3_ok : ∀ k, k < 3 → parseFieldDescriptor (TX3 k).2.2.1 = some (tyX3 k) := by decide +kernel
abbrev cX3_init : ByteArray := prog_5_method_1_code
def yX3_init : MethodName := ⟨RX3, "<init>", "(IIJ)V"⟩
def RX4 : String := "RockHeat$Ring"
def TX4 : u_T := fun k => match k with
  | 0 => ("RockHeat$Ring", "hold", "J", true)
  | 1 => ("RockHeat$Ring", "first", "J", true)
  | 2 => ("RockHeat$Ring", "heat", "J", false)
  | 3 => ("RockHeat$Ring", "warm", "J", false)
  | _ => ("RockHeat$Ring", "flow", "J", false)
def tyX4 : Nat → FieldType := fun k => match k with
  | 0 => .long
  | 1 => .long
  | 2 => .long
  | 3 => .long
  | _ => .long
abbrev wsX40 : List Cond := u_ws RX4 TX4 5
theorem nmX4 : ∀ a, a < 5 → ∀ b, b < 5 → a ≠ b → (TX4 a).2.1 ≠ (TX4 b).2.1 := by decide +kernel
theorem tyX4_ok : ∀ k, k < 5 → parseFieldDescriptor (TX4 k).2.2.1 = some (tyX4 k) := by decide +kernel
abbrev cX4_init : ByteArray := prog_6_method_1_code
def yX4_init : MethodName := ⟨RX4, "<init>", "(JJ)V"⟩
abbrev cX4_settle : ByteArray := prog_6_method_2_code
def yX4_settle : MethodName := ⟨RX4, "settle", "()V"⟩
abbrev cX4_follow : ByteArray := prog_6_method_3_code
def yX4_follow : MethodName := ⟨RX4, "follow", "(LRockHeat$Ring;)V"⟩
def RX5 : String := "RockHeat$Rule"
def TX5 : u_T := fun k => match k with
  | 0 => ("RockHeat$Rule", "purpose", "I", true)
  | 1 => ("RockHeat$Rule", "day", "I", true)
  | 2 => ("RockHeat$Rule", "code", "[I", true)
  | _ => ("RockHeat$Rule", "used", "I", true)
def tyX5 : Nat → FieldType := fun k => match k with
  | 0 => .int
  | 1 => .int
  | 2 => .array .int
  | _ => .int
abbrev wsX50 : List Cond := u_ws RX5 TX5 4
theorem nmX5 : ∀ a, a < 4 → ∀ b, b < 4 → a ≠ b → (TX5 a).2.1 ≠ (TX5 b).2.1 := by decide +kernel
theorem tyX5_ok : ∀ k, k < 4 → parseFieldDescriptor (TX5 k).2.2.1 = some (tyX5 k) := by decide +kernel
abbrev cX5_init : ByteArray := prog_7_method_1_code
def yX5_init : MethodName := ⟨RX5, "<init>", "(II[II)V"⟩
def RX6 : String := "RockHeat$Rules"
def TX6 : u_T := fun k => match k with
  | 0 => ("RockHeat$Rules", "told", "Ljava/util/ArrayList;", true)
  | 1 => ("RockHeat$Rules", "letters", "[J", true)
  | _ => ("RockHeat$Rules", "stack", "[J", true)
def tyX6 : Nat → FieldType := fun k => match k with
  | 0 => .object "java/util/ArrayList"
  | 1 => .array .long
  | _ => .array .long
abbrev wsX60 : List Cond := u_ws RX6 TX6 3
theorem nmX6 : ∀ a, a < 3 → ∀ b, b < 3 → a ≠ b → (TX6 a).2.1 ≠ (TX6 b).2.1 := by decide +kernel
theorem tyX6_ok : ∀ k, k < 3 → parseFieldDescriptor (TX6 k).2.2.1 = some (tyX6 k) := by decide +kernel
abbrev cX6_init : ByteArray := prog_8_method_1_code
def yX6_init : MethodName := ⟨RX6, "<init>", "()V"⟩
abbrev cX6_inForce : ByteArray := prog_8_method_2_code
def yX6_inForce : MethodName := ⟨RX6, "inForce", "(II)LRockHeat$Rule;"⟩
abbrev cX6_tellHour : ByteArray := prog_8_method_3_code
def yX6_tellHour : MethodName := ⟨RX6, "tellHour", "(LRockHeat$Town;IJ)V"⟩
abbrev cX6_worth : ByteArray := prog_8_method_4_code
def yX6_worth : MethodName := ⟨RX6, "worth", "(LRockHeat$Rule;LRockHeat$Bore;)J"⟩
abbrev cX6_workOut : ByteArray := prog_8_method_5_code
def yX6_workOut : MethodName := ⟨RX6, "workOut", "([II)J"⟩
abbrev cX6_valueOf : ByteArray := prog_8_method_6_code
def yX6_valueOf : MethodName := ⟨RX6, "valueOf", "(I)J"⟩
abbrev cX6_step : ByteArray := prog_8_method_7_code
def yX6_step : MethodName := ⟨RX6, "step", "(IJJ)J"⟩
def RX7 : String := "RockHeat$Table"
def TX7 : u_T := fun k => match k with
  | 0 => ("RockHeat$Table", "warms", "[I", true)
  | 1 => ("RockHeat$Table", "lifts", "[I", true)
  | _ => ("RockHeat$Table", "size", "I", false)
def tyX7 : Nat → FieldType := fun k => match k with
  | 0 => .array .int
  | 1 => .array .int
  | _ => .int
abbrev wsX70 : List Cond := u_ws RX7 TX7 3
theorem nmX7 : ∀ a, a < 3 → ∀ b, b < 3 → a ≠ b → (TX7 a).2.1 ≠ (TX7 b).2.1 := by decide +kernel
theorem tyX7_ok : ∀ k, k < 3 → parseFieldDescriptor (TX7 k).2.2.1 = some (tyX7 k) := by decide +kernel
abbrev cX7_init : ByteArray := prog_9_method_1_code
def yX7_init : MethodName := ⟨RX7, "<init>", "()V"⟩
abbrev cX7_isAboveLast : ByteArray := prog_9_method_2_code
def yX7_isAboveLast : MethodName := ⟨RX7, "isAboveLast", "(I)Z"⟩
abbrev cX7_addPoint : ByteArray := prog_9_method_3_code
def yX7_addPoint : MethodName := ⟨RX7, "addPoint", "(II)V"⟩
abbrev cX7_liftAt : ByteArray := prog_9_method_4_code
def yX7_liftAt : MethodName := ⟨RX7, "liftAt", "(J)J"⟩
def RX8 : String := "RockHeat$Tank"
def TX8 : u_T := fun k => match k with
  | 0 => ("RockHeat$Tank", "crates", "I", false)
  | 1 => ("RockHeat$Tank", "size", "I", false)
  | 2 => ("RockHeat$Tank", "bought", "[J", true)
  | 3 => ("RockHeat$Tank", "needs", "[J", true)
  | 4 => ("RockHeat$Tank", "prices", "[J", true)
  | _ => ("RockHeat$Tank", "costs", "[[J", true)
def tyX8 : Nat → FieldType := fun k => match k with
  | 0 => .int
  | 1 => .int
  | 2 => .array .long
  | 3 => .array .long
  | 4 => .array .long
  | _ => .array (.array .long)
abbrev wsX80 : List Cond := u_ws RX8 TX8 6
theorem nmX8 : ∀ a, a < 6 → ∀ b, b < 6 → a ≠ b → (TX8 a).2.1 ≠ (TX8 b).2.1 := by decide +kernel
theorem tyX8_ok : ∀ k, k < 6 → parseFieldDescriptor (TX8 k).2.2.1 = some (tyX8 k) := by decide +kernel
abbrev cX8_init : ByteArray := prog_10_method_1_code
def yX8_init : MethodName := ⟨RX8, "<init>", "()V"⟩
abbrev cX8_plan : ByteArray := prog_10_method_2_code
def yX8_plan : MethodName := ⟨RX8, "plan", "(LRockHeat$Town;I)V"⟩
abbrev cX8_leastCost : ByteArray := prog_10_method_3_code
def yX8_leastCost : MethodName := ⟨RX8, "leastCost", "()J"⟩
abbrev cX8_leastFrom : ByteArray := prog_10_method_4_code
def yX8_leastFrom : MethodName := ⟨RX8, "leastFrom", "(II)J"⟩
abbrev cX8_firstBest : ByteArray := prog_10_method_5_code
def yX8_firstBest : MethodName := ⟨RX8, "firstBest", "(II)I"⟩
abbrev cX8_costOf : ByteArray := prog_10_method_6_code
def yX8_costOf : MethodName := ⟨RX8, "costOf", "(III)J"⟩
def RX9 : String := "RockHeat$Tape"
def TX9 : u_T := fun k => match k with
  | 0 => ("RockHeat$Tape", "bytes", "[I", true)
  | 1 => ("RockHeat$Tape", "code", "[I", true)
  | 2 => ("RockHeat$Tape", "size", "I", false)
  | 3 => ("RockHeat$Tape", "used", "I", false)
  | 4 => ("RockHeat$Tape", "at", "I", false)
  | _ => ("RockHeat$Tape", "fault", "I", false)
def tyX9 : Nat → FieldType := fun k => match k with
  | 0 => .array .int
  | 1 => .array .int
  | 2 => .int
  | 3 => .int
  | 4 => .int
  | _ => .int
abbrev wsX90 : List Cond := u_ws RX9 TX9 6
theorem nmX9 : ∀ a, a < 6 → ∀ b, b < 6 → a ≠ b → (TX9 a).2.1 ≠ (TX9 b).2.1 := by decide +kernel
theorem tyX9_ok : ∀ k, k < 6 → parseFieldDescriptor (TX9 k).2.2.1 = some (tyX9 k) := by decide +kernel
abbrev cX9_init : ByteArray := prog_11_method_1_code
def yX9_init : MethodName := ⟨RX9, "<init>", "()V"⟩
abbrev cX9_put : ByteArray := prog_11_method_2_code
def yX9_put : MethodName := ⟨RX9, "put", "(I)V"⟩
abbrev cX9_compile : ByteArray := prog_11_method_3_code
def yX9_compile : MethodName := ⟨RX9, "compile", "()I"⟩
abbrev cX9_readSum : ByteArray := prog_11_method_4_code
def yX9_readSum : MethodName := ⟨RX9, "readSum", "(I)V"⟩
abbrev cX9_readTerm : ByteArray := prog_11_method_5_code
def yX9_readTerm : MethodName := ⟨RX9, "readTerm", "(I)V"⟩
abbrev cX9_readUnit : ByteArray := prog_11_method_6_code
def yX9_readUnit : MethodName := ⟨RX9, "readUnit", "(I)V"⟩
abbrev cX9_readBracket : ByteArray := prog_11_method_7_code
def yX9_readBracket : MethodName := ⟨RX9, "readBracket", "(I)V"⟩
abbrev cX9_readNumber : ByteArray := prog_11_method_8_code
def yX9_readNumber : MethodName := ⟨RX9, "readNumber", "()V"⟩
abbrev cX9_takeOperator : ByteArray := prog_11_method_9_code
def yX9_takeOperator : MethodName := ⟨RX9, "takeOperator", "()I"⟩
abbrev cX9_seen : ByteArray := prog_11_method_10_code
def yX9_seen : MethodName := ⟨RX9, "seen", "()I"⟩
abbrev cX9_isAt : ByteArray := prog_11_method_11_code
def yX9_isAt : MethodName := ⟨RX9, "isAt", "(Ljava/lang/String;)Z"⟩
abbrev cX9_isAtDigit : ByteArray := prog_11_method_12_code
def yX9_isAtDigit : MethodName := ⟨RX9, "isAtDigit", "()Z"⟩
abbrev cX9_emit : ByteArray := prog_11_method_13_code
def yX9_emit : MethodName := ⟨RX9, "emit", "(I)V"⟩
abbrev cX9_fail : ByteArray := prog_11_method_14_code
def yX9_fail : MethodName := ⟨RX9, "fail", "()V"⟩
def RX10 : String := "RockHeat$Town"
def TX10 : u_T := fun k => match k with
  | 0 => ("RockHeat$Town", "houses", "Ljava/util/ArrayList;", true)
  | 1 => ("RockHeat$Town", "colds", "[I", true)
  | 2 => ("RockHeat$Town", "prices", "[I", true)
  | _ => ("RockHeat$Town", "suns", "[I", true)
def tyX10 : Nat → FieldType := fun k => match k with
  | 0 => .object "java/util/ArrayList"
  | 1 => .array .int
  | 2 => .array .int
  | _ => .array .int
abbrev wsX100 : List Cond := u_ws RX10 TX10 4
theorem nmX10 : ∀ a, a < 4 → ∀ b, b < 4 → a ≠ b → (TX10 a).2.1 ≠ (TX10 b).2.1 := by decide +kernel
theorem tyX10_ok : ∀ k, k < 4 → parseFieldDescriptor (TX10 k).2.2.1 = some (tyX10 k) := by decide +kernel
abbrev cX10_init : ByteArray := prog_12_method_1_code
def yX10_init : MethodName := ⟨RX10, "<init>", "()V"⟩
abbrev cX10_needOf : ByteArray := prog_12_method_2_code
def yX10_needOf : MethodName := ⟨RX10, "needOf", "(I)J"⟩
abbrev cX10_joinedOn : ByteArray := prog_12_method_3_code
def yX10_joinedOn : MethodName := ⟨RX10, "joinedOn", "(I)I"⟩
def RX11 : String := "RockHeat"
def TX11 : u_T := fun k => match k with
  | 0 => ("RockHeat", "town", "LRockHeat$Town;", true)
  | 1 => ("RockHeat", "table", "LRockHeat$Table;", true)
  | 2 => ("RockHeat", "rules", "LRockHeat$Rules;", true)
  | 3 => ("RockHeat", "tape", "LRockHeat$Tape;", true)
  | 4 => ("RockHeat", "tank", "LRockHeat$Tank;", true)
  | 5 => ("RockHeat", "ground", "LRockHeat$Ground;", true)
  | 6 => ("RockHeat", "mind", "LRockHeat$Ground;", true)
  | 7 => ("RockHeat", "readings", "Ljava/util/ArrayList;", true)
  | 8 => ("RockHeat", "refusals", "[I", true)
  | 9 => ("RockHeat", "coldest", "J", false)
  | _ => ("RockHeat", "coldestHour", "I", false)
def tyX11 : Nat → FieldType := fun k => match k with
  | 0 => .object "RockHeat$Town"
  | 1 => .object "RockHeat$Table"
  | 2 => .object "RockHeat$Rules"
  | 3 => .object "RockHeat$Tape"
  | 4 => .object "RockHeat$Tank"
  | 5 => .object "RockHeat$Ground"
  | 6 => .object "RockHeat$Ground"
  | 7 => .object "java/util/ArrayList"
  | 8 => .array .int
  | 9 => .long
  | _ => .int
abbrev wsX110 : List Cond := u_ws RX11 TX11 11
theorem nmX11 : ∀ a, a < 11 → ∀ b, b < 11 → a ≠ b → (TX11 a).2.1 ≠ (TX11 b).2.1 := by decide +kernel
theorem tyX11_ok : ∀ k, k < 11 → parseFieldDescriptor (TX11 k).2.2.1 = some (tyX11 k) := by decide +kernel
abbrev cX11_init : ByteArray := prog_1_method_1_code
def yX11_init : MethodName := ⟨RX11, "<init>", "()V"⟩
abbrev cX11_hours : ByteArray := prog_1_method_2_code
def yX11_hours : MethodName := ⟨RX11, "hours", "(I)I"⟩
abbrev cX11_bore : ByteArray := prog_1_method_3_code
def yX11_bore : MethodName := ⟨RX11, "bore", "(IIIII)I"⟩
abbrev cX11_soil : ByteArray := prog_1_method_4_code
def yX11_soil : MethodName := ⟨RX11, "soil", "(III)I"⟩
abbrev cX11_share : ByteArray := prog_1_method_5_code
def yX11_share : MethodName := ⟨RX11, "share", "(I)I"⟩
abbrev cX11_open : ByteArray := prog_1_method_6_code
def yX11_open : MethodName := ⟨RX11, "open", "(IZ)I"⟩
abbrev cX11_heat : ByteArray := prog_1_method_7_code
def yX11_heat : MethodName := ⟨RX11, "heat", "(II)J"⟩
abbrev cX11_warmth : ByteArray := prog_1_method_8_code
def yX11_warmth : MethodName := ⟨RX11, "warmth", "(II)J"⟩
abbrev cX11_frozen : ByteArray := prog_1_method_9_code
def yX11_frozen : MethodName := ⟨RX11, "frozen", "(I)I"⟩
abbrev cX11_house : ByteArray := prog_1_method_10_code
def yX11_house : MethodName := ⟨RX11, "house", "(III)I"⟩
abbrev cX11_join : ByteArray := prog_1_method_11_code
def yX11_join : MethodName := ⟨RX11, "join", "(II)I"⟩
abbrev cX11_cold : ByteArray := prog_1_method_12_code
def yX11_cold : MethodName := ⟨RX11, "cold", "(II)I"⟩
abbrev cX11_need : ByteArray := prog_1_method_13_code
def yX11_need : MethodName := ⟨RX11, "need", "(I)J"⟩
abbrev cX11_point : ByteArray := prog_1_method_14_code
def yX11_point : MethodName := ⟨RX11, "point", "(II)I"⟩
abbrev cX11_untable : ByteArray := prog_1_method_15_code
def yX11_untable : MethodName := ⟨RX11, "untable", "()I"⟩
abbrev cX11_lift : ByteArray := prog_1_method_16_code
def yX11_lift : MethodName := ⟨RX11, "lift", "(I)I"⟩
abbrev cX11_price : ByteArray := prog_1_method_17_code
def yX11_price : MethodName := ⟨RX11, "price", "(II)I"⟩
abbrev cX11_sun : ByteArray := prog_1_method_18_code
def yX11_sun : MethodName := ⟨RX11, "sun", "(II)I"⟩
abbrev cX11_feed : ByteArray := prog_1_method_19_code
def yX11_feed : MethodName := ⟨RX11, "feed", "(IJ)I"⟩
abbrev cX11_rule : ByteArray := prog_1_method_20_code
def yX11_rule : MethodName := ⟨RX11, "rule", "(II)I"⟩
abbrev cX11_may : ByteArray := prog_1_method_21_code
def yX11_may : MethodName := ⟨RX11, "may", "(II)I"⟩
abbrev cX11_told : ByteArray := prog_1_method_22_code
def yX11_told : MethodName := ⟨RX11, "told", "(I)J"⟩
abbrev cX11_given : ByteArray := prog_1_method_23_code
def yX11_given : MethodName := ⟨RX11, "given", "(I)J"⟩
abbrev cX11_ahead : ByteArray := prog_1_method_24_code
def yX11_ahead : MethodName := ⟨RX11, "ahead", "(III)J"⟩
abbrev cX11_few : ByteArray := prog_1_method_25_code
def yX11_few : MethodName := ⟨RX11, "few", "(II)I"⟩
abbrev cX11_takenFrom : ByteArray := prog_1_method_26_code
def yX11_takenFrom : MethodName := ⟨RX11, "takenFrom", "(III)J"⟩
abbrev cX11_tank : ByteArray := prog_1_method_27_code
def yX11_tank : MethodName := ⟨RX11, "tank", "(II)I"⟩
abbrev cX11_best : ByteArray := prog_1_method_28_code
def yX11_best : MethodName := ⟨RX11, "best", "(I)J"⟩
abbrev cX11_reading : ByteArray := prog_1_method_29_code
def yX11_reading : MethodName := ⟨RX11, "reading", "(II)I"⟩
abbrev cX11_wrong : ByteArray := prog_1_method_30_code
def yX11_wrong : MethodName := ⟨RX11, "wrong", "(I)J"⟩
abbrev cX11_leak : ByteArray := prog_1_method_31_code
def yX11_leak : MethodName := ⟨RX11, "leak", "(I)J"⟩
abbrev cX11_count : ByteArray := prog_1_method_32_code
def yX11_count : MethodName := ⟨RX11, "count", "(I)I"⟩
abbrev cX11_findRing : ByteArray := prog_1_method_33_code
def yX11_findRing : MethodName := ⟨RX11, "findRing", "(II)LRockHeat$Ring;"⟩
abbrev cX11_passColdest : ByteArray := prog_1_method_34_code
def yX11_passColdest : MethodName := ⟨RX11, "passColdest", "(I)V"⟩
abbrev cX11_isEnough : ByteArray := prog_1_method_35_code
def yX11_isEnough : MethodName := ⟨RX11, "isEnough", "(IIJ)Z"⟩
abbrev cX11_givenInMind : ByteArray := prog_1_method_36_code
def yX11_givenInMind : MethodName := ⟨RX11, "givenInMind", "(III)J"⟩
abbrev cX11_refuse : ByteArray := prog_1_method_37_code
def yX11_refuse : MethodName := ⟨RX11, "refuse", "(I)I"⟩
abbrev cX11_refuseLong : ByteArray := prog_1_method_38_code
def yX11_refuseLong : MethodName := ⟨RX11, "refuseLong", "(I)J"⟩
abbrev cX11_beyond : ByteArray := prog_1_method_39_code
def yX11_beyond : MethodName := ⟨RX11, "beyond", "(III)I"⟩
abbrev cX11_firstOf : ByteArray := prog_1_method_40_code
def yX11_firstOf : MethodName := ⟨RX11, "firstOf", "(II)I"⟩
abbrev cX11_replace : ByteArray := prog_1_method_41_code
def yX11_replace : MethodName := ⟨RX11, "replace", "([III)I"⟩
abbrev cX11_inRound : ByteArray := prog_1_method_42_code
def yX11_inRound : MethodName := ⟨RX11, "inRound", "([II)I"⟩
abbrev cX11_cut : ByteArray := prog_1_method_43_code
def yX11_cut : MethodName := ⟨RX11, "cut", "(JJ)J"⟩
def RX12 : String := "RockHeatModel"
def TX12 : u_T := fun k => match k with
  | 0 => ("RockHeatModel", "refused", "[I", true)
  | 1 => ("RockHeatModel", "hour", "I", false)
  | 2 => ("RockHeatModel", "bores", "I", false)
  | 3 => ("RockHeatModel", "placeX", "[I", true)
  | 4 => ("RockHeatModel", "placeY", "[I", true)
  | 5 => ("RockHeatModel", "rings", "[I", true)
  | 6 => ("RockHeatModel", "hold", "[I", true)
  | 7 => ("RockHeatModel", "step", "[I", true)
  | 8 => ("RockHeatModel", "first", "[I", true)
  | 9 => ("RockHeatModel", "lead", "[I", true)
  | 10 => ("RockHeatModel", "water", "[I", true)
  | 11 => ("RockHeatModel", "isOpen", "[Z", true)
  | 12 => ("RockHeatModel", "share", "I", false)
  | 13 => ("RockHeatModel", "heat", "[J", true)
  | 14 => ("RockHeatModel", "given", "[J", true)
  | 15 => ("RockHeatModel", "told", "[J", true)
  | 16 => ("RockHeatModel", "houses", "I", false)
  | 17 => ("RockHeatModel", "base", "[I", true)
  | 18 => ("RockHeatModel", "more", "[I", true)
  | 19 => ("RockHeatModel", "wake", "[I", true)
  | 20 => ("RockHeatModel", "joined", "[I", true)
  | 21 => ("RockHeatModel", "cold", "[I", true)
  | 22 => ("RockHeatModel", "points", "I", false)
  | 23 => ("RockHeatModel", "pointWarmth", "[I", true)
  | 24 => ("RockHeatModel", "pointLift", "[I", true)
  | 25 => ("RockHeatModel", "price", "[I", true)
  | 26 => ("RockHeatModel", "sun", "[I", true)
  | 27 => ("RockHeatModel", "tape", "[I", true)
  | 28 => ("RockHeatModel", "taped", "I", false)
  | 29 => ("RockHeatModel", "rules", "I", false)
  | 30 => ("RockHeatModel", "ruleFor", "[I", true)
  | 31 => ("RockHeatModel", "ruleDay", "[I", true)
  | 32 => ("RockHeatModel", "ruleSize", "[I", true)
  | 33 => ("RockHeatModel", "codes", "[I", true)
  | 34 => ("RockHeatModel", "crates", "I", false)
  | 35 => ("RockHeatModel", "size", "I", false)
  | 36 => ("RockHeatModel", "readings", "I", false)
  | 37 => ("RockHeatModel", "readOf", "[I", true)
  | 38 => ("RockHeatModel", "readHour", "[I", true)
  | 39 => ("RockHeatModel", "wrong", "[J", true)
  | 40 => ("RockHeatModel", "letters", "[I", true)
  | 41 => ("RockHeatModel", "at", "I", false)
  | 42 => ("RockHeatModel", "out", "I", false)
  | 43 => ("RockHeatModel", "isFaulty", "Z", false)
  | 44 => ("RockHeatModel", "names", "[J", true)
  | 45 => ("RockHeatModel", "stack", "[J", true)
  | 46 => ("RockHeatModel", "was", "[J", true)
  | 47 => ("RockHeatModel", "wasHeat", "[J", true)
  | 48 => ("RockHeatModel", "takes", "[J", true)
  | 49 => ("RockHeatModel", "gives", "[J", true)
  | 50 => ("RockHeatModel", "lifts", "[J", true)
  | 51 => ("RockHeatModel", "keptHeat", "[J", true)
  | 52 => ("RockHeatModel", "keptGiven", "[J", true)
  | 53 => ("RockHeatModel", "keptTold", "[J", true)
  | 54 => ("RockHeatModel", "keptOpen", "[Z", true)
  | 55 => ("RockHeatModel", "keptHour", "I", false)
  | 56 => ("RockHeatModel", "least", "[J", true)
  | _ => ("RockHeatModel", "bought", "[J", true)
def tyX12 : Nat → FieldType := fun k => match k with
  | 0 => .array .int
  | 1 => .int
  | 2 => .int
  | 3 => .array .int
  | 4 => .array .int
  | 5 => .array .int
  | 6 => .array .int
  | 7 => .array .int
  | 8 => .array .int
  | 9 => .array .int
  | 10 => .array .int
  | 11 => .array .boolean
  | 12 => .int
  | 13 => .array .long
  | 14 => .array .long
  | 15 => .array .long
  | 16 => .int
  | 17 => .array .int
  | 18 => .array .int
  | 19 => .array .int
  | 20 => .array .int
  | 21 => .array .int
  | 22 => .int
  | 23 => .array .int
  | 24 => .array .int
  | 25 => .array .int
  | 26 => .array .int
  | 27 => .array .int
  | 28 => .int
  | 29 => .int
  | 30 => .array .int
  | 31 => .array .int
  | 32 => .array .int
  | 33 => .array .int
  | 34 => .int
  | 35 => .int
  | 36 => .int
  | 37 => .array .int
  | 38 => .array .int
  | 39 => .array .long
  | 40 => .array .int
  | 41 => .int
  | 42 => .int
  | 43 => .boolean
  | 44 => .array .long
  | 45 => .array .long
  | 46 => .array .long
  | 47 => .array .long
  | 48 => .array .long
  | 49 => .array .long
  | 50 => .array .long
  | 51 => .array .long
  | 52 => .array .long
  | 53 => .array .long
  | 54 => .array .boolean
  | 55 => .int
  | 56 => .array .long
  | _ => .array .long
abbrev wsX120 : List Cond := u_ws RX12 TX12 58
theorem nmX12 : ∀ a, a < 58 → ∀ b, b < 58 → a ≠ b → (TX12 a).2.1 ≠ (TX12 b).2.1 := by decide +kernel
theorem tyX12_ok : ∀ k, k < 58 → parseFieldDescriptor (TX12 k).2.2.1 = some (tyX12 k) := by decide +kernel
abbrev cX12_init : ByteArray := prog_14_method_1_code
def yX12_init : MethodName := ⟨RX12, "<init>", "()V"⟩
abbrev cX12_in : ByteArray := prog_14_method_3_code
def yX12_in : MethodName := ⟨RX12, "in", "(JJJ)Z"⟩
abbrev cX12_refuse : ByteArray := prog_14_method_4_code
def yX12_refuse : MethodName := ⟨RX12, "refuse", "(I)I"⟩
abbrev cX12_refuseLong : ByteArray := prog_14_method_5_code
def yX12_refuseLong : MethodName := ⟨RX12, "refuseLong", "(I)J"⟩
abbrev cX12_isBore : ByteArray := prog_14_method_6_code
def yX12_isBore : MethodName := ⟨RX12, "isBore", "(I)Z"⟩
abbrev cX12_cut : ByteArray := prog_14_method_7_code
def yX12_cut : MethodName := ⟨RX12, "cut", "(JJJ)J"⟩
abbrev cX12_holdOf : ByteArray := prog_14_method_8_code
def yX12_holdOf : MethodName := ⟨RX12, "holdOf", "(II)I"⟩
abbrev cX12_warmthOf : ByteArray := prog_14_method_9_code
def yX12_warmthOf : MethodName := ⟨RX12, "warmthOf", "(II)J"⟩
abbrev cX12_atFirst : ByteArray := prog_14_method_10_code
def yX12_atFirst : MethodName := ⟨RX12, "atFirst", "(II)J"⟩
abbrev cX12_hours : ByteArray := prog_14_method_11_code
def yX12_hours : MethodName := ⟨RX12, "hours", "(I)I"⟩
abbrev cX12_bore : ByteArray := prog_14_method_12_code
def yX12_bore : MethodName := ⟨RX12, "bore", "(IIIII)I"⟩
abbrev cX12_soil : ByteArray := prog_14_method_13_code
def yX12_soil : MethodName := ⟨RX12, "soil", "(III)I"⟩
abbrev cX12_share : ByteArray := prog_14_method_14_code
def yX12_share : MethodName := ⟨RX12, "share", "(I)I"⟩
abbrev cX12_open : ByteArray := prog_14_method_15_code
def yX12_open : MethodName := ⟨RX12, "open", "(IZ)I"⟩
abbrev cX12_isRing : ByteArray := prog_14_method_16_code
def yX12_isRing : MethodName := ⟨RX12, "isRing", "(II)Z"⟩
abbrev cX12_heat : ByteArray := prog_14_method_17_code
def yX12_heat : MethodName := ⟨RX12, "heat", "(II)J"⟩
abbrev cX12_warmth : ByteArray := prog_14_method_18_code
def yX12_warmth : MethodName := ⟨RX12, "warmth", "(II)J"⟩
abbrev cX12_frozen : ByteArray := prog_14_method_19_code
def yX12_frozen : MethodName := ⟨RX12, "frozen", "(I)I"⟩
abbrev cX12_house : ByteArray := prog_14_method_20_code
def yX12_house : MethodName := ⟨RX12, "house", "(III)I"⟩
abbrev cX12_join : ByteArray := prog_14_method_21_code
def yX12_join : MethodName := ⟨RX12, "join", "(II)I"⟩
abbrev cX12_cold : ByteArray := prog_14_method_22_code
def yX12_cold : MethodName := ⟨RX12, "cold", "(II)I"⟩
abbrev cX12_isJoined : ByteArray := prog_14_method_23_code
def yX12_isJoined : MethodName := ⟨RX12, "isJoined", "(II)Z"⟩
abbrev cX12_needOf : ByteArray := prog_14_method_24_code
def yX12_needOf : MethodName := ⟨RX12, "needOf", "(I)J"⟩
abbrev cX12_need : ByteArray := prog_14_method_25_code
def yX12_need : MethodName := ⟨RX12, "need", "(I)J"⟩
abbrev cX12_point : ByteArray := prog_14_method_26_code
def yX12_point : MethodName := ⟨RX12, "point", "(II)I"⟩
abbrev cX12_untable : ByteArray := prog_14_method_27_code
def yX12_untable : MethodName := ⟨RX12, "untable", "()I"⟩
abbrev cX12_liftAt : ByteArray := prog_14_method_28_code
def yX12_liftAt : MethodName := ⟨RX12, "liftAt", "(J)J"⟩
abbrev cX12_lift : ByteArray := prog_14_method_29_code
def yX12_lift : MethodName := ⟨RX12, "lift", "(I)I"⟩
abbrev cX12_barred : ByteArray := prog_14_method_30_code
def yX12_barred : MethodName := ⟨RX12, "barred", "(III)I"⟩
abbrev cX12_price : ByteArray := prog_14_method_31_code
def yX12_price : MethodName := ⟨RX12, "price", "(II)I"⟩
abbrev cX12_sun : ByteArray := prog_14_method_32_code
def yX12_sun : MethodName := ⟨RX12, "sun", "(II)I"⟩
abbrev cX12_feed : ByteArray := prog_14_method_33_code
def yX12_feed : MethodName := ⟨RX12, "feed", "(IJ)I"⟩
abbrev cX12_here : ByteArray := prog_14_method_34_code
def yX12_here : MethodName := ⟨RX12, "here", "()I"⟩
abbrev cX12_puts : ByteArray := prog_14_method_35_code
def yX12_puts : MethodName := ⟨RX12, "puts", "(I)V"⟩
abbrev cX12_sum : ByteArray := prog_14_method_36_code
def yX12_sum : MethodName := ⟨RX12, "sum", "(I)V"⟩
abbrev cX12_term : ByteArray := prog_14_method_37_code
def yX12_term : MethodName := ⟨RX12, "term", "(I)V"⟩
abbrev cX12_unit : ByteArray := prog_14_method_38_code
def yX12_unit : MethodName := ⟨RX12, "unit", "(I)V"⟩
abbrev cX12_compares : ByteArray := prog_14_method_39_code
def yX12_compares : MethodName := ⟨RX12, "compares", "(I)V"⟩
abbrev cX12_rule : ByteArray := prog_14_method_40_code
def yX12_rule : MethodName := ⟨RX12, "rule", "(II)I"⟩
abbrev cX12_two : ByteArray := prog_14_method_41_code
def yX12_two : MethodName := ⟨RX12, "two", "(IJJ)J"⟩
abbrev cX12_worth : ByteArray := prog_14_method_42_code
def yX12_worth : MethodName := ⟨RX12, "worth", "(I)J"⟩
abbrev cX12_mayOf : ByteArray := prog_14_method_43_code
def yX12_mayOf : MethodName := ⟨RX12, "mayOf", "(II)J"⟩
abbrev cX12_may : ByteArray := prog_14_method_44_code
def yX12_may : MethodName := ⟨RX12, "may", "(II)I"⟩
abbrev cX12_begins : ByteArray := prog_14_method_45_code
def yX12_begins : MethodName := ⟨RX12, "begins", "()V"⟩
abbrev cX12_ground : ByteArray := prog_14_method_46_code
def yX12_ground : MethodName := ⟨RX12, "ground", "()V"⟩
abbrev cX12_farOf : ByteArray := prog_14_method_47_code
def yX12_farOf : MethodName := ⟨RX12, "farOf", "(II)I"⟩
abbrev cX12_goes : ByteArray := prog_14_method_48_code
def yX12_goes : MethodName := ⟨RX12, "goes", "()V"⟩
abbrev cX12_told : ByteArray := prog_14_method_49_code
def yX12_told : MethodName := ⟨RX12, "told", "(I)J"⟩
abbrev cX12_given : ByteArray := prog_14_method_50_code
def yX12_given : MethodName := ⟨RX12, "given", "(I)J"⟩
abbrev cX12_keeps : ByteArray := prog_14_method_51_code
def yX12_keeps : MethodName := ⟨RX12, "keeps", "()V"⟩
abbrev cX12_laysBack : ByteArray := prog_14_method_52_code
def yX12_laysBack : MethodName := ⟨RX12, "laysBack", "()V"⟩
abbrev cX12_bars : ByteArray := prog_14_method_53_code
def yX12_bars : MethodName := ⟨RX12, "bars", "(II)I"⟩
abbrev cX12_ahead : ByteArray := prog_14_method_54_code
def yX12_ahead : MethodName := ⟨RX12, "ahead", "(III)J"⟩
abbrev cX12_many : ByteArray := prog_14_method_55_code
def yX12_many : MethodName := ⟨RX12, "many", "(I)I"⟩
abbrev cX12_few : ByteArray := prog_14_method_56_code
def yX12_few : MethodName := ⟨RX12, "few", "(II)I"⟩
abbrev cX12_givenBy : ByteArray := prog_14_method_57_code
def yX12_givenBy : MethodName := ⟨RX12, "givenBy", "(III)J"⟩
abbrev cX12_takenFrom : ByteArray := prog_14_method_58_code
def yX12_takenFrom : MethodName := ⟨RX12, "takenFrom", "(III)J"⟩
abbrev cX12_tank : ByteArray := prog_14_method_59_code
def yX12_tank : MethodName := ⟨RX12, "tank", "(II)I"⟩
abbrev cX12_boughtIn : ByteArray := prog_14_method_60_code
def yX12_boughtIn : MethodName := ⟨RX12, "boughtIn", "(II)J"⟩
abbrev cX12_costIn : ByteArray := prog_14_method_61_code
def yX12_costIn : MethodName := ⟨RX12, "costIn", "(II)J"⟩
abbrev cX12_mayBe : ByteArray := prog_14_method_62_code
def yX12_mayBe : MethodName := ⟨RX12, "mayBe", "(III)Z"⟩
abbrev cX12_plans : ByteArray := prog_14_method_63_code
def yX12_plans : MethodName := ⟨RX12, "plans", "()V"⟩
abbrev cX12_best : ByteArray := prog_14_method_64_code
def yX12_best : MethodName := ⟨RX12, "best", "(I)J"⟩
abbrev cX12_reading : ByteArray := prog_14_method_65_code
def yX12_reading : MethodName := ⟨RX12, "reading", "(II)I"⟩
abbrev cX12_wrong : ByteArray := prog_14_method_66_code
def yX12_wrong : MethodName := ⟨RX12, "wrong", "(I)J"⟩
abbrev cX12_leak : ByteArray := prog_14_method_67_code
def yX12_leak : MethodName := ⟨RX12, "leak", "(I)J"⟩
abbrev cX12_count : ByteArray := prog_14_method_68_code
def yX12_count : MethodName := ⟨RX12, "count", "(I)I"⟩
def RJx145de : String := "java/io/Serializable"
def TJx145de : u_T := fun k => match k with
  | _ => ("", "", "", false)
def tyJx145de : Nat → FieldType := fun k => match k with
  | _ => .int
abbrev wsJx145de0 : List Cond := u_ws RJx145de TJx145de 0
theorem nmJx145de : ∀ a, a < 0 → ∀ b, b < 0 → a ≠ b → (TJx145de a).2.1 ≠ (TJx145de b).2.1 := by decide +kernel
theorem tyJx145de_ok : ∀ k, k < 0 → parseFieldDescriptor (TJx145de k).2.2.1 = some (tyJx145de k) := by decide +kernel
def RJx9f9b0 : String := "java/lang/CharSequence"
def TJx9f9b0 : u_T := fun k => match k with
  | _ => ("", "", "", false)
def tyJx9f9b0 : Nat → FieldType := fun k => match k with
  | _ => .int
abbrev wsJx9f9b00 : List Cond := u_ws RJx9f9b0 TJx9f9b0 0
theorem nmJx9f9b0 : ∀ a, a < 0 → ∀ b, b < 0 → a ≠ b → (TJx9f9b0 a).2.1 ≠ (TJx9f9b0 b).2.1 := by decide +kernel
theorem tyJx9f9b0_ok : ∀ k, k < 0 → parseFieldDescriptor (TJx9f9b0 k).2.2.1 = some (tyJx9f9b0 k) := by decide +kernel
def RJ11 : String := "java/lang/Character"
def TJ11 : u_T := fun k => match k with
  | _ => ("", "", "", false)
def tyJ11 : Nat → FieldType := fun k => match k with
  | _ => .int
abbrev wsJ110 : List Cond := u_ws RJ11 TJ11 0
theorem nmJ11 : ∀ a, a < 0 → ∀ b, b < 0 → a ≠ b → (TJ11 a).2.1 ≠ (TJ11 b).2.1 := by decide +kernel
theorem tyJ11_ok : ∀ k, k < 0 → parseFieldDescriptor (TJ11 k).2.2.1 = some (tyJ11 k) := by decide +kernel
abbrev cJ11_isValidCodePoint_9a6ad : ByteArray := prog_17_method_11_code
def yJ11_isValidCodePoint_9a6ad : MethodName := ⟨RJ11, "isValidCodePoint", "(I)Z"⟩
abbrev cJ11_highSurrogate_5068e : ByteArray := prog_17_method_28_code
def yJ11_highSurrogate_5068e : MethodName := ⟨RJ11, "highSurrogate", "(I)C"⟩
abbrev cJ11_lowSurrogate_5068e : ByteArray := prog_17_method_29_code
def yJ11_lowSurrogate_5068e : MethodName := ⟨RJ11, "lowSurrogate", "(I)C"⟩
def RJx8e188 : String := "java/lang/Cloneable"
def TJx8e188 : u_T := fun k => match k with
  | _ => ("", "", "", false)
def tyJx8e188 : Nat → FieldType := fun k => match k with
  | _ => .int
abbrev wsJx8e1880 : List Cond := u_ws RJx8e188 TJx8e188 0
theorem nmJx8e188 : ∀ a, a < 0 → ∀ b, b < 0 → a ≠ b → (TJx8e188 a).2.1 ≠ (TJx8e188 b).2.1 := by decide +kernel
theorem tyJx8e188_ok : ∀ k, k < 0 → parseFieldDescriptor (TJx8e188 k).2.2.1 = some (tyJx8e188 k) := by decide +kernel
def RJxb160c : String := "java/lang/Comparable"
def TJxb160c : u_T := fun k => match k with
  | _ => ("", "", "", false)
def tyJxb160c : Nat → FieldType := fun k => match k with
  | _ => .int
abbrev wsJxb160c0 : List Cond := u_ws RJxb160c TJxb160c 0
theorem nmJxb160c : ∀ a, a < 0 → ∀ b, b < 0 → a ≠ b → (TJxb160c a).2.1 ≠ (TJxb160c b).2.1 := by decide +kernel
theorem tyJxb160c_ok : ∀ k, k < 0 → parseFieldDescriptor (TJxb160c k).2.2.1 = some (tyJxb160c k) := by decide +kernel
def RJ6 : String := "java/lang/Integer"
def TJ6 : u_T := fun k => match k with
  | _ => ("", "", "", false)
def tyJ6 : Nat → FieldType := fun k => match k with
  | _ => .int
abbrev wsJ60 : List Cond := u_ws RJ6 TJ6 0
theorem nmJ6 : ∀ a, a < 0 → ∀ b, b < 0 → a ≠ b → (TJ6 a).2.1 ≠ (TJ6 b).2.1 := by decide +kernel
theorem tyJ6_ok : ∀ k, k < 0 → parseFieldDescriptor (TJ6 k).2.2.1 = some (tyJ6 k) := by decide +kernel
abbrev cJ6_bitCount_0f7a4 : ByteArray := prog_20_method_49_code
def yJ6_bitCount_0f7a4 : MethodName := ⟨RJ6, "bitCount", "(I)I"⟩
def RJxab1ab : String := "java/lang/Iterable"
def TJxab1ab : u_T := fun k => match k with
  | _ => ("", "", "", false)
def tyJxab1ab : Nat → FieldType := fun k => match k with
  | _ => .int
abbrev wsJxab1ab0 : List Cond := u_ws RJxab1ab TJxab1ab 0
theorem nmJxab1ab : ∀ a, a < 0 → ∀ b, b < 0 → a ≠ b → (TJxab1ab a).2.1 ≠ (TJxab1ab b).2.1 := by decide +kernel
theorem tyJxab1ab_ok : ∀ k, k < 0 → parseFieldDescriptor (TJxab1ab k).2.2.1 = some (tyJxab1ab k) := by decide +kernel
def RJ9 : String := "java/lang/Math"
def TJ9 : u_T := fun k => match k with
  | _ => ("", "", "", false)
def tyJ9 : Nat → FieldType := fun k => match k with
  | _ => .int
abbrev wsJ90 : List Cond := u_ws RJ9 TJ9 0
theorem nmJ9 : ∀ a, a < 0 → ∀ b, b < 0 → a ≠ b → (TJ9 a).2.1 ≠ (TJ9 b).2.1 := by decide +kernel
theorem tyJ9_ok : ∀ k, k < 0 → parseFieldDescriptor (TJ9 k).2.2.1 = some (tyJ9 k) := by decide +kernel
abbrev cJ9_floorMod_7cf53 : ByteArray := prog_22_method_50_code
def yJ9_floorMod_7cf53 : MethodName := ⟨RJ9, "floorMod", "(II)I"⟩
abbrev cJ9_abs_0f7a4 : ByteArray := prog_22_method_59_code
def yJ9_abs_0f7a4 : MethodName := ⟨RJ9, "abs", "(I)I"⟩
abbrev cJ9_max_7cf53 : ByteArray := prog_22_method_65_code
def yJ9_max_7cf53 : MethodName := ⟨RJ9, "max", "(II)I"⟩
abbrev cJ9_max_f86c9 : ByteArray := prog_22_method_66_code
def yJ9_max_f86c9 : MethodName := ⟨RJ9, "max", "(JJ)J"⟩
abbrev cJ9_min_7cf53 : ByteArray := prog_22_method_69_code
def yJ9_min_7cf53 : MethodName := ⟨RJ9, "min", "(II)I"⟩
abbrev cJ9_min_f86c9 : ByteArray := prog_22_method_70_code
def yJ9_min_f86c9 : MethodName := ⟨RJ9, "min", "(JJ)J"⟩
def RJ0 : String := "java/lang/String"
def TJ0 : u_T := fun k => match k with
  | _ => ("", "", "", false)
def tyJ0 : Nat → FieldType := fun k => match k with
  | _ => .int
abbrev wsJ00 : List Cond := u_ws RJ0 TJ0 0
theorem nmJ0 : ∀ a, a < 0 → ∀ b, b < 0 → a ≠ b → (TJ0 a).2.1 ≠ (TJ0 b).2.1 := by decide +kernel
theorem tyJ0_ok : ∀ k, k < 0 → parseFieldDescriptor (TJ0 k).2.2.1 = some (tyJ0 k) := by decide +kernel
abbrev cJ0_length_8abf5 : ByteArray := prog_23_method_54_code
def yJ0_length_8abf5 : MethodName := ⟨RJ0, "length", "()I"⟩
abbrev cJ0_indexOf_0f7a4 : ByteArray := prog_23_method_79_code
def yJ0_indexOf_0f7a4 : MethodName := ⟨RJ0, "indexOf", "(I)I"⟩
abbrev cJ0_indexOf_7cf53 : ByteArray := prog_23_method_80_code
def yJ0_indexOf_7cf53 : MethodName := ⟨RJ0, "indexOf", "(II)I"⟩
abbrev cJ0_coder_7d493 : ByteArray := prog_23_method_152_code
def yJ0_coder_7d493 : MethodName := ⟨RJ0, "coder", "()B"⟩
abbrev cJ0_isLatin1_aae02 : ByteArray := prog_23_method_154_code
def yJ0_isLatin1_aae02 : MethodName := ⟨RJ0, "isLatin1", "()Z"⟩
abbrev cJ0_checkBoundsBeginEnd_23922 : ByteArray := prog_23_method_158_code
def yJ0_checkBoundsBeginEnd_23922 : MethodName := ⟨RJ0, "checkBoundsBeginEnd", "(III)V"⟩
def RJ1 : String := "java/lang/StringLatin1"
def TJ1 : u_T := fun k => match k with
  | _ => ("", "", "", false)
def tyJ1 : Nat → FieldType := fun k => match k with
  | _ => .int
abbrev wsJ10 : List Cond := u_ws RJ1 TJ1 0
theorem nmJ1 : ∀ a, a < 0 → ∀ b, b < 0 → a ≠ b → (TJ1 a).2.1 ≠ (TJ1 b).2.1 := by decide +kernel
theorem tyJ1_ok : ∀ k, k < 0 → parseFieldDescriptor (TJ1 k).2.2.1 = some (tyJ1 k) := by decide +kernel
abbrev cJ1_canEncode_9a6ad : ByteArray := prog_24_method_4_code
def yJ1_canEncode_9a6ad : MethodName := ⟨RJ1, "canEncode", "(I)Z"⟩
abbrev cJ1_indexOf_4cfef : ByteArray := prog_24_method_22_code
def yJ1_indexOf_4cfef : MethodName := ⟨RJ1, "indexOf", "([BIII)I"⟩
abbrev cJ1_indexOfChar_4cfef : ByteArray := prog_24_method_23_code
def yJ1_indexOfChar_4cfef : MethodName := ⟨RJ1, "indexOfChar", "([BIII)I"⟩
def RJ2 : String := "java/lang/StringUTF16"
def TJ2 : u_T := fun k => match k with
  | _ => ("", "", "", false)
def tyJ2 : Nat → FieldType := fun k => match k with
  | _ => .int
abbrev wsJ20 : List Cond := u_ws RJ2 TJ2 0
theorem nmJ2 : ∀ a, a < 0 → ∀ b, b < 0 → a ≠ b → (TJ2 a).2.1 ≠ (TJ2 b).2.1 := by decide +kernel
theorem tyJ2_ok : ∀ k, k < 0 → parseFieldDescriptor (TJ2 k).2.2.1 = some (tyJ2 k) := by decide +kernel
abbrev cJ2_getChar_3b067 : ByteArray := prog_25_method_5_code
def yJ2_getChar_3b067 : MethodName := ⟨RJ2, "getChar", "([BI)C"⟩
abbrev cJ2_length_9d52b : ByteArray := prog_25_method_6_code
def yJ2_length_9d52b : MethodName := ⟨RJ2, "length", "([B)I"⟩
abbrev cJ2_indexOf_4cfef : ByteArray := prog_25_method_40_code
def yJ2_indexOf_4cfef : MethodName := ⟨RJ2, "indexOf", "([BIII)I"⟩
abbrev cJ2_indexOfChar_4cfef : ByteArray := prog_25_method_47_code
def yJ2_indexOfChar_4cfef : MethodName := ⟨RJ2, "indexOfChar", "([BIII)I"⟩
abbrev cJ2_indexOfCharUnsafe_4cfef : ByteArray := prog_25_method_48_code
def yJ2_indexOfCharUnsafe_4cfef : MethodName := ⟨RJ2, "indexOfCharUnsafe", "([BIII)I"⟩
abbrev cJ2_indexOfSupplementary_4cfef : ByteArray := prog_25_method_49_code
def yJ2_indexOfSupplementary_4cfef : MethodName := ⟨RJ2, "indexOfSupplementary", "([BIII)I"⟩
abbrev cJ2_checkBoundsBeginEnd_d044e : ByteArray := prog_25_method_93_code
def yJ2_checkBoundsBeginEnd_d044e : MethodName := ⟨RJ2, "checkBoundsBeginEnd", "(II[B)V"⟩
def RJ10 : String := "java/lang/System"
def TJ10 : u_T := fun k => match k with
  | _ => ("", "", "", false)
def tyJ10 : Nat → FieldType := fun k => match k with
  | _ => .int
abbrev wsJ100 : List Cond := u_ws RJ10 TJ10 0
theorem nmJ10 : ∀ a, a < 0 → ∀ b, b < 0 → a ≠ b → (TJ10 a).2.1 ≠ (TJ10 b).2.1 := by decide +kernel
theorem tyJ10_ok : ∀ k, k < 0 → parseFieldDescriptor (TJ10 k).2.2.1 = some (tyJ10 k) := by decide +kernel
def RJxfd54e : String := "java/lang/constant/Constable"
def TJxfd54e : u_T := fun k => match k with
  | _ => ("", "", "", false)
def tyJxfd54e : Nat → FieldType := fun k => match k with
  | _ => .int
abbrev wsJxfd54e0 : List Cond := u_ws RJxfd54e TJxfd54e 0
theorem nmJxfd54e : ∀ a, a < 0 → ∀ b, b < 0 → a ≠ b → (TJxfd54e a).2.1 ≠ (TJxfd54e b).2.1 := by decide +kernel
theorem tyJxfd54e_ok : ∀ k, k < 0 → parseFieldDescriptor (TJxfd54e k).2.2.1 = some (tyJxfd54e k) := by decide +kernel
def RJx3cf43 : String := "java/lang/constant/ConstantDesc"
def TJx3cf43 : u_T := fun k => match k with
  | _ => ("", "", "", false)
def tyJx3cf43 : Nat → FieldType := fun k => match k with
  | _ => .int
abbrev wsJx3cf430 : List Cond := u_ws RJx3cf43 TJx3cf43 0
theorem nmJx3cf43 : ∀ a, a < 0 → ∀ b, b < 0 → a ≠ b → (TJx3cf43 a).2.1 ≠ (TJx3cf43 b).2.1 := by decide +kernel
theorem tyJx3cf43_ok : ∀ k, k < 0 → parseFieldDescriptor (TJx3cf43 k).2.2.1 = some (tyJx3cf43 k) := by decide +kernel
def RJxa1e45 : String := "java/util/AbstractCollection"
def TJxa1e45 : u_T := fun k => match k with
  | _ => ("", "", "", false)
def tyJxa1e45 : Nat → FieldType := fun k => match k with
  | _ => .int
abbrev wsJxa1e450 : List Cond := u_ws RJxa1e45 TJxa1e45 0
theorem nmJxa1e45 : ∀ a, a < 0 → ∀ b, b < 0 → a ≠ b → (TJxa1e45 a).2.1 ≠ (TJxa1e45 b).2.1 := by decide +kernel
theorem tyJxa1e45_ok : ∀ k, k < 0 → parseFieldDescriptor (TJxa1e45 k).2.2.1 = some (tyJxa1e45 k) := by decide +kernel
abbrev cJxa1e45_init_da8c8 : ByteArray := prog_29_method_1_code
def yJxa1e45_init_da8c8 : MethodName := ⟨RJxa1e45, "<init>", "()V"⟩
def RJxc12de : String := "java/util/AbstractList"
def TJxc12de : u_T := fun k => match k with
  | _ => ("", "", "", false)
def tyJxc12de : Nat → FieldType := fun k => match k with
  | _ => .int
abbrev wsJxc12de0 : List Cond := u_ws RJxc12de TJxc12de 0
theorem nmJxc12de : ∀ a, a < 0 → ∀ b, b < 0 → a ≠ b → (TJxc12de a).2.1 ≠ (TJxc12de b).2.1 := by decide +kernel
theorem tyJxc12de_ok : ∀ k, k < 0 → parseFieldDescriptor (TJxc12de k).2.2.1 = some (tyJxc12de k) := by decide +kernel
abbrev cJxc12de_init_da8c8 : ByteArray := prog_30_method_1_code
def yJxc12de_init_da8c8 : MethodName := ⟨RJxc12de, "<init>", "()V"⟩
def RJx4a65c : String := "java/util/ArrayList"
def TJx4a65c : u_T := fun k => match k with
  | 0 => ("java/util/AbstractList", "modCount", "I", false)
  | 1 => ("java/util/ArrayList", "elementData", "[Ljava/lang/Object;", false)
  | _ => ("java/util/ArrayList", "size", "I", false)
def tyJx4a65c : Nat → FieldType := fun k => match k with
  | 0 => .int
  | 1 => .array (.object "java/lang/Object")
  | _ => .int
abbrev wsJx4a65c0 : List Cond := u_ws RJx4a65c TJx4a65c 3
theorem nmJx4a65c : ∀ a, a < 3 → ∀ b, b < 3 → a ≠ b → (TJx4a65c a).2.1 ≠ (TJx4a65c b).2.1 := by decide +kernel
theorem tyJx4a65c_ok : ∀ k, k < 3 → parseFieldDescriptor (TJx4a65c k).2.2.1 = some (tyJx4a65c k) := by decide +kernel
abbrev cJx4a65c_init_da8c8 : ByteArray := prog_31_method_2_code
def yJx4a65c_init_da8c8 : MethodName := ⟨RJx4a65c, "<init>", "()V"⟩
abbrev cJx4a65c_grow_92f84 : ByteArray := prog_31_method_6_code
def yJx4a65c_grow_92f84 : MethodName := ⟨RJx4a65c, "grow", "(I)[Ljava/lang/Object;"⟩
abbrev cJx4a65c_grow_d5877 : ByteArray := prog_31_method_7_code
def yJx4a65c_grow_d5877 : MethodName := ⟨RJx4a65c, "grow", "()[Ljava/lang/Object;"⟩
abbrev cJx4a65c_size_8abf5 : ByteArray := prog_31_method_8_code
def yJx4a65c_size_8abf5 : MethodName := ⟨RJx4a65c, "size", "()I"⟩
abbrev cJx4a65c_isEmpty_aae02 : ByteArray := prog_31_method_9_code
def yJx4a65c_isEmpty_aae02 : MethodName := ⟨RJx4a65c, "isEmpty", "()Z"⟩
abbrev cJx4a65c_elementData_915e3 : ByteArray := prog_31_method_18_code
def yJx4a65c_elementData_915e3 : MethodName := ⟨RJx4a65c, "elementData", "(I)Ljava/lang/Object;"⟩
abbrev cJx4a65c_get_915e3 : ByteArray := prog_31_method_20_code
def yJx4a65c_get_915e3 : MethodName := ⟨RJx4a65c, "get", "(I)Ljava/lang/Object;"⟩
abbrev cJx4a65c_add_72be8 : ByteArray := prog_31_method_24_code
def yJx4a65c_add_72be8 : MethodName := ⟨RJx4a65c, "add", "(Ljava/lang/Object;[Ljava/lang/Object;I)V"⟩
abbrev cJx4a65c_add_9ea2d : ByteArray := prog_31_method_25_code
def yJx4a65c_add_9ea2d : MethodName := ⟨RJx4a65c, "add", "(Ljava/lang/Object;)Z"⟩
def RJ7 : String := "java/util/Arrays"
def TJ7 : u_T := fun k => match k with
  | _ => ("", "", "", false)
def tyJ7 : Nat → FieldType := fun k => match k with
  | _ => .int
abbrev wsJ70 : List Cond := u_ws RJ7 TJ7 0
theorem nmJ7 : ∀ a, a < 0 → ∀ b, b < 0 → a ≠ b → (TJ7 a).2.1 ≠ (TJ7 b).2.1 := by decide +kernel
theorem tyJ7_ok : ∀ k, k < 0 → parseFieldDescriptor (TJ7 k).2.2.1 = some (tyJ7 k) := by decide +kernel
abbrev cJ7_copyOf_1904c : ByteArray := prog_32_method_119_code
def yJ7_copyOf_1904c : MethodName := ⟨RJ7, "copyOf", "([Ljava/lang/Object;I)[Ljava/lang/Object;"⟩
abbrev cJ7_copyOf_6403c : ByteArray := prog_32_method_120_code
def yJ7_copyOf_6403c : MethodName := ⟨RJ7, "copyOf", "([Ljava/lang/Object;ILjava/lang/Class;)[Ljava/lang/Object;"⟩
def RJx5ef63 : String := "java/util/Collection"
def TJx5ef63 : u_T := fun k => match k with
  | _ => ("", "", "", false)
def tyJx5ef63 : Nat → FieldType := fun k => match k with
  | _ => .int
abbrev wsJx5ef630 : List Cond := u_ws RJx5ef63 TJx5ef63 0
theorem nmJx5ef63 : ∀ a, a < 0 → ∀ b, b < 0 → a ≠ b → (TJx5ef63 a).2.1 ≠ (TJx5ef63 b).2.1 := by decide +kernel
theorem tyJx5ef63_ok : ∀ k, k < 0 → parseFieldDescriptor (TJx5ef63 k).2.2.1 = some (tyJx5ef63 k) := by decide +kernel
def RJxbd725 : String := "java/util/List"
def TJxbd725 : u_T := fun k => match k with
  | _ => ("", "", "", false)
def tyJxbd725 : Nat → FieldType := fun k => match k with
  | _ => .int
abbrev wsJxbd7250 : List Cond := u_ws RJxbd725 TJxbd725 0
theorem nmJxbd725 : ∀ a, a < 0 → ∀ b, b < 0 → a ≠ b → (TJxbd725 a).2.1 ≠ (TJxbd725 b).2.1 := by decide +kernel
theorem tyJxbd725_ok : ∀ k, k < 0 → parseFieldDescriptor (TJxbd725 k).2.2.1 = some (tyJxbd725 k) := by decide +kernel
def RJ15 : String := "java/util/Objects"
def TJ15 : u_T := fun k => match k with
  | _ => ("", "", "", false)
def tyJ15 : Nat → FieldType := fun k => match k with
  | _ => .int
abbrev wsJ150 : List Cond := u_ws RJ15 TJ15 0
theorem nmJ15 : ∀ a, a < 0 → ∀ b, b < 0 → a ≠ b → (TJ15 a).2.1 ≠ (TJ15 b).2.1 := by decide +kernel
theorem tyJ15_ok : ∀ k, k < 0 → parseFieldDescriptor (TJ15 k).2.2.1 = some (tyJ15 k) := by decide +kernel
abbrev cJ15_checkIndex_7cf53 : ByteArray := prog_35_method_17_code
def yJ15_checkIndex_7cf53 : MethodName := ⟨RJ15, "checkIndex", "(II)I"⟩
def RJxf0a74 : String := "java/util/RandomAccess"
def TJxf0a74 : u_T := fun k => match k with
  | _ => ("", "", "", false)
def tyJxf0a74 : Nat → FieldType := fun k => match k with
  | _ => .int
abbrev wsJxf0a740 : List Cond := u_ws RJxf0a74 TJxf0a74 0
theorem nmJxf0a74 : ∀ a, a < 0 → ∀ b, b < 0 → a ≠ b → (TJxf0a74 a).2.1 ≠ (TJxf0a74 b).2.1 := by decide +kernel
theorem tyJxf0a74_ok : ∀ k, k < 0 → parseFieldDescriptor (TJxf0a74 k).2.2.1 = some (tyJxf0a74 k) := by decide +kernel
def RJxa66e6 : String := "java/util/SequencedCollection"
def TJxa66e6 : u_T := fun k => match k with
  | _ => ("", "", "", false)
def tyJxa66e6 : Nat → FieldType := fun k => match k with
  | _ => .int
abbrev wsJxa66e60 : List Cond := u_ws RJxa66e6 TJxa66e6 0
theorem nmJxa66e6 : ∀ a, a < 0 → ∀ b, b < 0 → a ≠ b → (TJxa66e6 a).2.1 ≠ (TJxa66e6 b).2.1 := by decide +kernel
theorem tyJxa66e6_ok : ∀ k, k < 0 → parseFieldDescriptor (TJxa66e6 k).2.2.1 = some (tyJxa66e6 k) := by decide +kernel
def RJ8 : String := "jdk/internal/util/ArraysSupport"
def TJ8 : u_T := fun k => match k with
  | _ => ("", "", "", false)
def tyJ8 : Nat → FieldType := fun k => match k with
  | _ => .int
abbrev wsJ80 : List Cond := u_ws RJ8 TJ8 0
theorem nmJ8 : ∀ a, a < 0 → ∀ b, b < 0 → a ≠ b → (TJ8 a).2.1 ≠ (TJ8 b).2.1 := by decide +kernel
theorem tyJ8_ok : ∀ k, k < 0 → parseFieldDescriptor (TJ8 k).2.2.1 = some (tyJ8 k) := by decide +kernel
abbrev cJ8_newLength_cabcc : ByteArray := prog_38_method_27_code
def yJ8_newLength_cabcc : MethodName := ⟨RJ8, "newLength", "(III)I"⟩
abbrev cJ8_hugeLength_7cf53 : ByteArray := prog_38_method_28_code
def yJ8_hugeLength_7cf53 : MethodName := ⟨RJ8, "hugeLength", "(II)I"⟩
def RJ3 : String := "jdk/internal/util/Preconditions"
def TJ3 : u_T := fun k => match k with
  | _ => ("", "", "", false)
def tyJ3 : Nat → FieldType := fun k => match k with
  | _ => .int
abbrev wsJ30 : List Cond := u_ws RJ3 TJ3 0
theorem nmJ3 : ∀ a, a < 0 → ∀ b, b < 0 → a ≠ b → (TJ3 a).2.1 ≠ (TJ3 b).2.1 := by decide +kernel
theorem tyJ3_ok : ∀ k, k < 0 → parseFieldDescriptor (TJ3 k).2.2.1 = some (tyJ3 k) := by decide +kernel
abbrev cJ3_checkIndex_8e157 : ByteArray := prog_39_method_11_code
def yJ3_checkIndex_8e157 : MethodName := ⟨RJ3, "checkIndex", "(IILjava/util/function/BiFunction;)I"⟩
abbrev cJ3_checkFromToIndex_8c36e : ByteArray := prog_39_method_12_code
def yJ3_checkFromToIndex_8c36e : MethodName := ⟨RJ3, "checkFromToIndex", "(IIILjava/util/function/BiFunction;)I"⟩
def RL : String := "RockHeatLaw"
abbrev cL_law : ByteArray := code
def yL_law : MethodName := ⟨RL, "law", "([I)Z"⟩
abbrev vwCl : List vw_C := [(RJx4a65c, TJx4a65c, 3), (RX0, TX0, 11), (RX1, TX1, 7), (RX2, TX2, 5), (RX3, TX3, 3), (RX4, TX4, 5), (RX5, TX5, 4), (RX6, TX6, 3), (RX7, TX7, 3), (RX8, TX8, 6), (RX9, TX9, 6), (RX10, TX10, 4), (RX11, TX11, 11), (RX12, TX12, 58)]
