def RX0 : String := "LifeKeys$Field"
def TX0 : u_T := fun k => match k with
  | _ => ("", "", "", false)
def tyX0 : Nat → FieldType := fun k => match k with
  | _ => .int
abbrev wsX00 : List Cond := u_ws RX0 TX0 0
theorem nmX0 : ∀ a, a < 0 → ∀ b, b < 0 → a ≠ b → (TX0 a).2.1 ≠ (TX0 b).2.1 := by decide +kernel
theorem tyX0_ok : ∀ k, k < 0 → parseFieldDescriptor (TX0 k).2.2.1 = some (tyX0 k) := by decide +kernel
abbrev cX0_isNumber : ByteArray := prog_2_method_2_code
def yX0_isNumber : MethodName := ⟨RX0, "isNumbe\x72", "(I)Z"⟩
abbrev cX0_isSecret : ByteArray := prog_2_method_3_code
def yX0_isSecret : MethodName := ⟨RX0, "isSecret", "(I)Z"⟩
abbrev cX0_isPower : ByteArray := prog_2_method_4_code
def yX0_isPower : MethodName := ⟨RX0, "isPowe\x72", "(I)Z"⟩
abbrev cX0_sum : ByteArray := prog_2_method_5_code
def yX0_sum : MethodName := ⟨RX0, "sum", "(II)I"⟩
abbrev cX0_times : ByteArray := prog_2_method_6_code
def yX0_times : MethodName := ⟨RX0, "times", "(II)I"⟩
abbrev cX0_product : ByteArray := prog_2_method_7_code
def yX0_product : MethodName := ⟨RX0, "product", "(II)I"⟩
abbrev cX0_raise : ByteArray := prog_2_method_8_code
def yX0_raise : MethodName := ⟨RX0, "raise", "(II)I"⟩
abbrev cX0_powerOf4 : ByteArray := prog_2_method_9_code
def yX0_powerOf4 : MethodName := ⟨RX0, "powerOf4", "(I)I"⟩
abbrev cX0_inverse : ByteArray := prog_2_method_10_code
def yX0_inverse : MethodName := ⟨RX0, "inverse", "(I)I"⟩
abbrev cX0_weight : ByteArray := prog_2_method_11_code
def yX0_weight : MethodName := ⟨RX0, "weight", "(II)I"⟩
abbrev cX0_challenge : ByteArray := prog_2_method_12_code
def yX0_challenge : MethodName := ⟨RX0, "challenge", "(II)I"⟩
abbrev cX0_nextSeed : ByteArray := prog_2_method_13_code
def yX0_nextSeed : MethodName := ⟨RX0, "nextSeed", "(J)J"⟩
abbrev cX0_coefficient : ByteArray := prog_2_method_14_code
def yX0_coefficient : MethodName := ⟨RX0, "coefficient", "(J)I"⟩
abbrev cX0_start : ByteArray := prog_2_method_15_code
def yX0_start : MethodName := ⟨RX0, "start", "(J)I"⟩
def RX1 : String := "LifeKeys$Keys"
def TX1 : u_T := fun k => match k with
  | 0 => ("LifeKeys$Keys", "count", "I", false)
  | 1 => ("LifeKeys$Keys", "secret", "[I", true)
  | 2 => ("LifeKeys$Keys", "sort", "[I", true)
  | 3 => ("LifeKeys$Keys", "root", "[I", true)
  | 4 => ("LifeKeys$Keys", "day", "[I", true)
  | 5 => ("LifeKeys$Keys", "oldSince", "[I", true)
  | 6 => ("LifeKeys$Keys", "burns", "I", false)
  | 7 => ("LifeKeys$Keys", "burnKey", "[I", true)
  | 8 => ("LifeKeys$Keys", "burnFrom", "[I", true)
  | _ => ("LifeKeys$Keys", "burnTold", "[I", true)
def tyX1 : Nat → FieldType := fun k => match k with
  | 0 => .int
  | 1 => .array .int
  | 2 => .array .int
  | 3 => .array .int
  | 4 => .array .int
  | 5 => .array .int
  | 6 => .int
  | 7 => .array .int
  | 8 => .array .int
  | _ => .array .int
abbrev wsX10 : List Cond := u_ws RX1 TX1 10
theorem nmX1 : ∀ a, a < 10 → ∀ b, b < 10 → a ≠ b → (TX1 a).2.1 ≠ (TX1 b).2.1 := by decide +kernel
theorem tyX1_ok : ∀ k, k < 10 → parseFieldDescriptor (TX1 k).2.2.1 = some (tyX1 k) := by decide +kernel
abbrev cX1_init : ByteArray := prog_3_method_1_code
def yX1_init : MethodName := ⟨RX1, "<init>", "()V"⟩
abbrev cX1_knows : ByteArray := prog_3_method_2_code
def yX1_knows : MethodName := ⟨RX1, "knows", "(I)Z"⟩
abbrev cX1_add : ByteArray := prog_3_method_3_code
def yX1_add : MethodName := ⟨RX1, "add", "(IIII)I"⟩
abbrev cX1_madeSecret : ByteArray := prog_3_method_4_code
def yX1_madeSecret : MethodName := ⟨RX1, "madeSecret", "(II)I"⟩
abbrev cX1_all : ByteArray := prog_3_method_5_code
def yX1_all : MethodName := ⟨RX1, "all", "()J"⟩
abbrev cX1_publicOf : ByteArray := prog_3_method_6_code
def yX1_publicOf : MethodName := ⟨RX1, "publicOf", "(I)I"⟩
abbrev cX1_addBurn : ByteArray := prog_3_method_7_code
def yX1_addBurn : MethodName := ⟨RX1, "addBurn", "(III)Z"⟩
abbrev cX1_burntFrom : ByteArray := prog_3_method_8_code
def yX1_burntFrom : MethodName := ⟨RX1, "burntFrom", "(II)I"⟩
abbrev cX1_isBurnt : ByteArray := prog_3_method_9_code
def yX1_isBurnt : MethodName := ⟨RX1, "isBurnt", "(III)Z"⟩
abbrev cX1_maySign : ByteArray := prog_3_method_10_code
def yX1_maySign : MethodName := ⟨RX1, "maySign", "(II)Z"⟩
def RX2 : String := "LifeKeys$Loans"
def TX2 : u_T := fun k => match k with
  | 0 => ("LifeKeys$Loans", "count", "I", false)
  | 1 => ("LifeKeys$Loans", "key", "[I", true)
  | 2 => ("LifeKeys$Loans", "to", "[I", true)
  | 3 => ("LifeKeys$Loans", "usesLeft", "[I", true)
  | 4 => ("LifeKeys$Loans", "thing", "[I", true)
  | _ => ("LifeKeys$Loans", "isBack", "[Z", true)
def tyX2 : Nat → FieldType := fun k => match k with
  | 0 => .int
  | 1 => .array .int
  | 2 => .array .int
  | 3 => .array .int
  | 4 => .array .int
  | _ => .array .boolean
abbrev wsX20 : List Cond := u_ws RX2 TX2 6
theorem nmX2 : ∀ a, a < 6 → ∀ b, b < 6 → a ≠ b → (TX2 a).2.1 ≠ (TX2 b).2.1 := by decide +kernel
theorem tyX2_ok : ∀ k, k < 6 → parseFieldDescriptor (TX2 k).2.2.1 = some (tyX2 k) := by decide +kernel
abbrev cX2_init : ByteArray := prog_4_method_1_code
def yX2_init : MethodName := ⟨RX2, "<init>", "()V"⟩
abbrev cX2_knows : ByteArray := prog_4_method_2_code
def yX2_knows : MethodName := ⟨RX2, "knows", "(I)Z"⟩
abbrev cX2_add : ByteArray := prog_4_method_3_code
def yX2_add : MethodName := ⟨RX2, "add", "(IIII)I"⟩
abbrev cX2_serves : ByteArray := prog_4_method_4_code
def yX2_serves : MethodName := ⟨RX2, "serves", "(III)Z"⟩
abbrev cX2_notBack : ByteArray := prog_4_method_5_code
def yX2_notBack : MethodName := ⟨RX2, "notBack", "()I"⟩
def RX3 : String := "LifeKeys$Partings"
def TX3 : u_T := fun k => match k with
  | 0 => ("LifeKeys$Partings", "count", "I", false)
  | 1 => ("LifeKeys$Partings", "key", "[I", true)
  | 2 => ("LifeKeys$Partings", "set", "[I", true)
  | 3 => ("LifeKeys$Partings", "need", "[I", true)
  | 4 => ("LifeKeys$Partings", "day", "[I", true)
  | 5 => ("LifeKeys$Partings", "out", "[I", true)
  | _ => ("LifeKeys$Partings", "curve", "[[I", true)
def tyX3 : Nat → FieldType := fun k => match k with
  | 0 => .int
  | 1 => .array .int
  | 2 => .array .int
  | 3 => .array .int
  | 4 => .array .int
  | 5 => .array .int
  | _ => .array (.array .int)
abbrev wsX30 : List Cond := u_ws RX3 TX3 7
theorem nmX3 : ∀ a, a < 7 → ∀ b, b < 7 → a ≠ b → (TX3 a).2.1 ≠ (TX3 b).2.1 := by decide +kernel
theorem tyX3_ok : ∀ k, k < 7 → parseFieldDescriptor (TX3 k).2.2.1 = some (tyX3 k) := by decide +kernel
abbrev cX3_init : ByteArray := prog_5_method_1_code
def yX3_init : MethodName := ⟨RX3, "<init>", "()V"⟩
abbrev cX3_knows : ByteArray := prog_5_method_2_code
def yX3_knows : MethodName := ⟨RX3, "knows", "(I)Z"⟩
abbrev cX3_add : ByteArray := prog_5_method_3_code
def yX3_add : MethodName := ⟨RX3, "add", "(IIII)I"⟩
abbrev cX3_drawCurve : ByteArray := prog_5_method_4_code
def yX3_drawCurve : MethodName := ⟨RX3, "drawCurve", "(IIJ)V"⟩
abbrev cX3_inForce : ByteArray := prog_5_method_5_code
def yX3_inForce : MethodName := ⟨RX3, "inForce", "(II)Z"⟩
abbrev cX3_lastInForce : ByteArray := prog_5_method_6_code
def yX3_lastInForce : MethodName := ⟨RX3, "lastInForce", "(II)I"⟩
abbrev cX3_isAmong : ByteArray := prog_5_method_7_code
def yX3_isAmong : MethodName := ⟨RX3, "isAmong", "(II)Z"⟩
abbrev cX3_partOf : ByteArray := prog_5_method_8_code
def yX3_partOf : MethodName := ⟨RX3, "partOf", "(II)I"⟩
abbrev cX3_checkOf : ByteArray := prog_5_method_9_code
def yX3_checkOf : MethodName := ⟨RX3, "checkOf", "(II)I"⟩
abbrev cX3_checkedPart : ByteArray := prog_5_method_10_code
def yX3_checkedPart : MethodName := ⟨RX3, "checkedPart", "(II)I"⟩
def RX4 : String := "LifeKeys$Reach"
def TX4 : u_T := fun k => match k with
  | 0 => ("LifeKeys$Reach", "held", "[J", true)
  | 1 => ("LifeKeys$Reach", "key", "[I", true)
  | 2 => ("LifeKeys$Reach", "set", "[I", true)
  | 3 => ("LifeKeys$Reach", "need", "[I", true)
  | 4 => ("LifeKeys$Reach", "live", "[I", true)
  | 5 => ("LifeKeys$Reach", "liveCount", "I", false)
  | 6 => ("LifeKeys$Reach", "from", "[I", true)
  | 7 => ("LifeKeys$Reach", "to", "[I", true)
  | 8 => ("LifeKeys$Reach", "steps", "I", false)
  | 9 => ("LifeKeys$Reach", "leastSize", "I", false)
  | 10 => ("LifeKeys$Reach", "leastWays", "I", false)
  | _ => ("LifeKeys$Reach", "leastFirst", "I", false)
def tyX4 : Nat → FieldType := fun k => match k with
  | 0 => .array .long
  | 1 => .array .int
  | 2 => .array .int
  | 3 => .array .int
  | 4 => .array .int
  | 5 => .int
  | 6 => .array .int
  | 7 => .array .int
  | 8 => .int
  | 9 => .int
  | 10 => .int
  | _ => .int
abbrev wsX40 : List Cond := u_ws RX4 TX4 12
theorem nmX4 : ∀ a, a < 12 → ∀ b, b < 12 → a ≠ b → (TX4 a).2.1 ≠ (TX4 b).2.1 := by decide +kernel
theorem tyX4_ok : ∀ k, k < 12 → parseFieldDescriptor (TX4 k).2.2.1 = some (tyX4 k) := by decide +kernel
abbrev cX4_init : ByteArray := prog_6_method_1_code
def yX4_init : MethodName := ⟨RX4, "<init>", "()V"⟩
abbrev cX4_settle : ByteArray := prog_6_method_2_code
def yX4_settle : MethodName := ⟨RX4, "settle", "(ILLifeKeys$Keys;LLifeKeys$Ties;LLifeKeys$Partings;)V"⟩
abbrev cX4_settlePartings : ByteArray := prog_6_method_3_code
def yX4_settlePartings : MethodName := ⟨RX4, "settlePartings", "(ILLifeKeys$Partings;)V"⟩
abbrev cX4_addStep : ByteArray := prog_6_method_4_code
def yX4_addStep : MethodName := ⟨RX4, "addStep", "(II)V"⟩
abbrev cX4_gets : ByteArray := prog_6_method_5_code
def yX4_gets : MethodName := ⟨RX4, "gets", "(I)J"⟩
abbrev cX4_atOnce : ByteArray := prog_6_method_6_code
def yX4_atOnce : MethodName := ⟨RX4, "atOnce", "(I)J"⟩
abbrev cX4_suffices : ByteArray := prog_6_method_7_code
def yX4_suffices : MethodName := ⟨RX4, "suffices", "(II)Z"⟩
abbrev cX4_onward : ByteArray := prog_6_method_8_code
def yX4_onward : MethodName := ⟨RX4, "onward", "(J)J"⟩
abbrev cX4_sourcesOf : ByteArray := prog_6_method_9_code
def yX4_sourcesOf : MethodName := ⟨RX4, "sourcesOf", "(I)J"⟩
abbrev cX4_holdersOfAny : ByteArray := prog_6_method_10_code
def yX4_holdersOfAny : MethodName := ⟨RX4, "holdersOfAny", "(J)I"⟩
abbrev cX4_keepLive : ByteArray := prog_6_method_11_code
def yX4_keepLive : MethodName := ⟨RX4, "keepLive", "(J)V"⟩
abbrev cX4_searchLeast : ByteArray := prog_6_method_12_code
def yX4_searchLeast : MethodName := ⟨RX4, "searchLeast", "(IZI)V"⟩
abbrev cX4_comesTo : ByteArray := prog_6_method_13_code
def yX4_comesTo : MethodName := ⟨RX4, "comesTo", "(II)Z"⟩
abbrev cX4_takeLeast : ByteArray := prog_6_method_14_code
def yX4_takeLeast : MethodName := ⟨RX4, "takeLeast", "(II)V"⟩
abbrev cX4_lowestFree : ByteArray := prog_6_method_15_code
def yX4_lowestFree : MethodName := ⟨RX4, "lowestFree", "(J)I"⟩
def RX5 : String := "LifeKeys$Rules"
def TX5 : u_T := fun k => match k with
  | 0 => ("LifeKeys$Rules", "count", "I", false)
  | 1 => ("LifeKeys$Rules", "words", "[I", true)
  | 2 => ("LifeKeys$Rules", "lengths", "[I", true)
  | 3 => ("LifeKeys$Rules", "draft", "[I", true)
  | 4 => ("LifeKeys$Rules", "drafted", "I", false)
  | 5 => ("LifeKeys$Rules", "text", "[I", false)
  | 6 => ("LifeKeys$Rules", "at", "I", false)
  | 7 => ("LifeKeys$Rules", "end", "I", false)
  | 8 => ("LifeKeys$Rules", "faultAt", "I", false)
  | 9 => ("LifeKeys$Rules", "stack", "[Z", true)
  | 10 => ("LifeKeys$Rules", "height", "I", false)
  | 11 => ("LifeKeys$Rules", "saidYes", "I", false)
  | 12 => ("LifeKeys$Rules", "saidNo", "I", false)
  | 13 => ("LifeKeys$Rules", "deadOnes", "I", false)
  | _ => ("LifeKeys$Rules", "waited", "I", false)
def tyX5 : Nat → FieldType := fun k => match k with
  | 0 => .int
  | 1 => .array .int
  | 2 => .array .int
  | 3 => .array .int
  | 4 => .int
  | 5 => .array .int
  | 6 => .int
  | 7 => .int
  | 8 => .int
  | 9 => .array .boolean
  | 10 => .int
  | 11 => .int
  | 12 => .int
  | 13 => .int
  | _ => .int
abbrev wsX50 : List Cond := u_ws RX5 TX5 15
theorem nmX5 : ∀ a, a < 15 → ∀ b, b < 15 → a ≠ b → (TX5 a).2.1 ≠ (TX5 b).2.1 := by decide +kernel
theorem tyX5_ok : ∀ k, k < 15 → parseFieldDescriptor (TX5 k).2.2.1 = some (tyX5 k) := by decide +kernel
abbrev cX5_init : ByteArray := prog_7_method_1_code
def yX5_init : MethodName := ⟨RX5, "<init>", "()V"⟩
abbrev cX5_knows : ByteArray := prog_7_method_2_code
def yX5_knows : MethodName := ⟨RX5, "knows", "(I)Z"⟩
abbrev cX5_faultOf : ByteArray := prog_7_method_3_code
def yX5_faultOf : MethodName := ⟨RX5, "faultOf", "([II)I"⟩
abbrev cX5_keepDraft : ByteArray := prog_7_method_4_code
def yX5_keepDraft : MethodName := ⟨RX5, "keepDraft", "()I"⟩
abbrev cX5_any : ByteArray := prog_7_method_5_code
def yX5_any : MethodName := ⟨RX5, "any", "(I)V"⟩
abbrev cX5_all : ByteArray := prog_7_method_6_code
def yX5_all : MethodName := ⟨RX5, "all", "(I)V"⟩
abbrev cX5_unit : ByteArray := prog_7_method_7_code
def yX5_unit : MethodName := ⟨RX5, "unit", "(I)V"⟩
abbrev cX5_within : ByteArray := prog_7_method_8_code
def yX5_within : MethodName := ⟨RX5, "within", "(I)V"⟩
abbrev cX5_atLeast : ByteArray := prog_7_method_9_code
def yX5_atLeast : MethodName := ⟨RX5, "atLeast", "(I)V"⟩
abbrev cX5_fact : ByteArray := prog_7_method_10_code
def yX5_fact : MethodName := ⟨RX5, "fact", "(I)V"⟩
abbrev cX5_number : ByteArray := prog_7_method_11_code
def yX5_number : MethodName := ⟨RX5, "numbe\x72", "(I)I"⟩
abbrev cX5_enters : ByteArray := prog_7_method_12_code
def yX5_enters : MethodName := ⟨RX5, "enters", "(I)Z"⟩
abbrev cX5_passes : ByteArray := prog_7_method_13_code
def yX5_passes : MethodName := ⟨RX5, "passes", "(I)Z"⟩
abbrev cX5_skipBlanks : ByteArray := prog_7_method_14_code
def yX5_skipBlanks : MethodName := ⟨RX5, "skipBlanks", "()V"⟩
abbrev cX5_here : ByteArray := prog_7_method_15_code
def yX5_here : MethodName := ⟨RX5, "here", "()I"⟩
abbrev cX5_stop : ByteArray := prog_7_method_16_code
def yX5_stop : MethodName := ⟨RX5, "stop", "(I)V"⟩
abbrev cX5_write : ByteArray := prog_7_method_17_code
def yX5_write : MethodName := ⟨RX5, "write", "(II)V"⟩
abbrev cX5_isDigit : ByteArray := prog_7_method_18_code
def yX5_isDigit : MethodName := ⟨RX5, "isDigit", "(I)Z"⟩
abbrev cX5_holds : ByteArray := prog_7_method_19_code
def yX5_holds : MethodName := ⟨RX5, "holds", "(IIII)Z"⟩
abbrev cX5_weigh : ByteArray := prog_7_method_20_code
def yX5_weigh : MethodName := ⟨RX5, "weigh", "(I)V"⟩
abbrev cX5_push : ByteArray := prog_7_method_21_code
def yX5_push : MethodName := ⟨RX5, "push", "(Z)V"⟩
abbrev cX5_pop : ByteArray := prog_7_method_22_code
def yX5_pop : MethodName := ⟨RX5, "pop", "()Z"⟩
abbrev cX5_popHolding : ByteArray := prog_7_method_23_code
def yX5_popHolding : MethodName := ⟨RX5, "popHolding", "(I)I"⟩
def RX6 : String := "LifeKeys$Sayings"
def TX6 : u_T := fun k => match k with
  | 0 => ("LifeKeys$Sayings", "count", "I", false)
  | 1 => ("LifeKeys$Sayings", "by", "[I", true)
  | 2 => ("LifeKeys$Sayings", "about", "[I", true)
  | 3 => ("LifeKeys$Sayings", "yes", "[Z", true)
  | 4 => ("LifeKeys$Sayings", "day", "[I", true)
  | 5 => ("LifeKeys$Sayings", "deathRules", "I", false)
  | 6 => ("LifeKeys$Sayings", "deathHolde\x72", "[I", true)
  | 7 => ("LifeKeys$Sayings", "deathRule", "[I", true)
  | _ => ("LifeKeys$Sayings", "deathDay", "[I", true)
def tyX6 : Nat → FieldType := fun k => match k with
  | 0 => .int
  | 1 => .array .int
  | 2 => .array .int
  | 3 => .array .boolean
  | 4 => .array .int
  | 5 => .int
  | 6 => .array .int
  | 7 => .array .int
  | _ => .array .int
abbrev wsX60 : List Cond := u_ws RX6 TX6 9
theorem nmX6 : ∀ a, a < 9 → ∀ b, b < 9 → a ≠ b → (TX6 a).2.1 ≠ (TX6 b).2.1 := by decide +kernel
theorem tyX6_ok : ∀ k, k < 9 → parseFieldDescriptor (TX6 k).2.2.1 = some (tyX6 k) := by decide +kernel
abbrev cX6_init : ByteArray := prog_8_method_1_code
def yX6_init : MethodName := ⟨RX6, "<init>", "()V"⟩
abbrev cX6_deathOf : ByteArray := prog_8_method_2_code
def yX6_deathOf : MethodName := ⟨RX6, "deathOf", "(I)I"⟩
abbrev cX6_add : ByteArray := prog_8_method_3_code
def yX6_add : MethodName := ⟨RX6, "add", "(IIZI)Z"⟩
abbrev cX6_addRuleOfDeath : ByteArray := prog_8_method_4_code
def yX6_addRuleOfDeath : MethodName := ⟨RX6, "addRuleOfDeath", "(III)Z"⟩
abbrev cX6_ruleOfDeath : ByteArray := prog_8_method_5_code
def yX6_ruleOfDeath : MethodName := ⟨RX6, "ruleOfDeath", "(II)I"⟩
abbrev cX6_voices : ByteArray := prog_8_method_6_code
def yX6_voices : MethodName := ⟨RX6, "voices", "(II)I"⟩
abbrev cX6_firstYes : ByteArray := prog_8_method_7_code
def yX6_firstYes : MethodName := ⟨RX6, "firstYes", "(II)I"⟩
def RX7 : String := "LifeKeys$Signatures"
def TX7 : u_T := fun k => match k with
  | 0 => ("LifeKeys$Signatures", "count", "I", false)
  | 1 => ("LifeKeys$Signatures", "\x72", "[I", true)
  | 2 => ("LifeKeys$Signatures", "s", "[I", true)
  | 3 => ("LifeKeys$Signatures", "key", "[I", true)
  | 4 => ("LifeKeys$Signatures", "thing", "[I", true)
  | 5 => ("LifeKeys$Signatures", "day", "[I", true)
  | _ => ("LifeKeys$Signatures", "start", "[I", true)
def tyX7 : Nat → FieldType := fun k => match k with
  | 0 => .int
  | 1 => .array .int
  | 2 => .array .int
  | 3 => .array .int
  | 4 => .array .int
  | 5 => .array .int
  | _ => .array .int
abbrev wsX70 : List Cond := u_ws RX7 TX7 7
theorem nmX7 : ∀ a, a < 7 → ∀ b, b < 7 → a ≠ b → (TX7 a).2.1 ≠ (TX7 b).2.1 := by decide +kernel
theorem tyX7_ok : ∀ k, k < 7 → parseFieldDescriptor (TX7 k).2.2.1 = some (tyX7 k) := by decide +kernel
abbrev cX7_init : ByteArray := prog_9_method_1_code
def yX7_init : MethodName := ⟨RX7, "<init>", "()V"⟩
abbrev cX7_knows : ByteArray := prog_9_method_2_code
def yX7_knows : MethodName := ⟨RX7, "knows", "(I)Z"⟩
abbrev cX7_isFull : ByteArray := prog_9_method_3_code
def yX7_isFull : MethodName := ⟨RX7, "isFull", "()Z"⟩
abbrev cX7_add : ByteArray := prog_9_method_4_code
def yX7_add : MethodName := ⟨RX7, "add", "(IIIII)I"⟩
abbrev cX7_drawStarts : ByteArray := prog_9_method_5_code
def yX7_drawStarts : MethodName := ⟨RX7, "drawStarts", "(IJ)I"⟩
def RX8 : String := "LifeKeys$Tape"
def TX8 : u_T := fun k => match k with
  | 0 => ("LifeKeys$Tape", "bytes", "[I", true)
  | _ => ("LifeKeys$Tape", "length", "I", false)
def tyX8 : Nat → FieldType := fun k => match k with
  | 0 => .array .int
  | _ => .int
abbrev wsX80 : List Cond := u_ws RX8 TX8 2
theorem nmX8 : ∀ a, a < 2 → ∀ b, b < 2 → a ≠ b → (TX8 a).2.1 ≠ (TX8 b).2.1 := by decide +kernel
theorem tyX8_ok : ∀ k, k < 2 → parseFieldDescriptor (TX8 k).2.2.1 = some (tyX8 k) := by decide +kernel
abbrev cX8_init : ByteArray := prog_10_method_1_code
def yX8_init : MethodName := ⟨RX8, "<init>", "()V"⟩
abbrev cX8_bytesIn : ByteArray := prog_10_method_2_code
def yX8_bytesIn : MethodName := ⟨RX8, "bytesIn", "(I)I"⟩
abbrev cX8_append : ByteArray := prog_10_method_3_code
def yX8_append : MethodName := ⟨RX8, "append", "(I)V"⟩
abbrev cX8_isName : ByteArray := prog_10_method_4_code
def yX8_isName : MethodName := ⟨RX8, "isName", "()Z"⟩
abbrev cX8_nameNumber : ByteArray := prog_10_method_5_code
def yX8_nameNumber : MethodName := ⟨RX8, "nameNumbe\x72", "()I"⟩
def RX9 : String := "LifeKeys$Things"
def TX9 : u_T := fun k => match k with
  | 0 => ("LifeKeys$Things", "count", "I", false)
  | 1 => ("LifeKeys$Things", "digest", "[I", true)
  | 2 => ("LifeKeys$Things", "to", "[I", true)
  | 3 => ("LifeKeys$Things", "byRule", "[Z", true)
  | 4 => ("LifeKeys$Things", "asked", "[I", true)
  | _ => ("LifeKeys$Things", "opened", "[Z", true)
def tyX9 : Nat → FieldType := fun k => match k with
  | 0 => .int
  | 1 => .array .int
  | 2 => .array .int
  | 3 => .array .boolean
  | 4 => .array .int
  | _ => .array .boolean
abbrev wsX90 : List Cond := u_ws RX9 TX9 6
theorem nmX9 : ∀ a, a < 6 → ∀ b, b < 6 → a ≠ b → (TX9 a).2.1 ≠ (TX9 b).2.1 := by decide +kernel
theorem tyX9_ok : ∀ k, k < 6 → parseFieldDescriptor (TX9 k).2.2.1 = some (tyX9 k) := by decide +kernel
abbrev cX9_init : ByteArray := prog_11_method_1_code
def yX9_init : MethodName := ⟨RX9, "<init>", "()V"⟩
abbrev cX9_knows : ByteArray := prog_11_method_2_code
def yX9_knows : MethodName := ⟨RX9, "knows", "(I)Z"⟩
abbrev cX9_isByRule : ByteArray := prog_11_method_3_code
def yX9_isByRule : MethodName := ⟨RX9, "isByRule", "(I)Z"⟩
abbrev cX9_add : ByteArray := prog_11_method_4_code
def yX9_add : MethodName := ⟨RX9, "add", "(IIZ)I"⟩
abbrev cX9_openedOnes : ByteArray := prog_11_method_5_code
def yX9_openedOnes : MethodName := ⟨RX9, "openedOnes", "()I"⟩
def RX10 : String := "LifeKeys$Ties"
def TX10 : u_T := fun k => match k with
  | 0 => ("LifeKeys$Ties", "heldNow", "[J", true)
  | 1 => ("LifeKeys$Ties", "turns", "I", false)
  | 2 => ("LifeKeys$Ties", "turnHolde\x72", "[I", true)
  | 3 => ("LifeKeys$Ties", "turnKey", "[I", true)
  | 4 => ("LifeKeys$Ties", "turnDay", "[I", true)
  | 5 => ("LifeKeys$Ties", "wraps", "I", false)
  | 6 => ("LifeKeys$Ties", "inne\x72", "[I", true)
  | 7 => ("LifeKeys$Ties", "oute\x72", "[I", true)
  | 8 => ("LifeKeys$Ties", "wrapped", "[I", true)
  | _ => ("LifeKeys$Ties", "cutOn", "[I", true)
def tyX10 : Nat → FieldType := fun k => match k with
  | 0 => .array .long
  | 1 => .int
  | 2 => .array .int
  | 3 => .array .int
  | 4 => .array .int
  | 5 => .int
  | 6 => .array .int
  | 7 => .array .int
  | 8 => .array .int
  | _ => .array .int
abbrev wsX100 : List Cond := u_ws RX10 TX10 10
theorem nmX10 : ∀ a, a < 10 → ∀ b, b < 10 → a ≠ b → (TX10 a).2.1 ≠ (TX10 b).2.1 := by decide +kernel
theorem tyX10_ok : ∀ k, k < 10 → parseFieldDescriptor (TX10 k).2.2.1 = some (tyX10 k) := by decide +kernel
abbrev cX10_init : ByteArray := prog_12_method_1_code
def yX10_init : MethodName := ⟨RX10, "<init>", "()V"⟩
abbrev cX10_hasNow : ByteArray := prog_12_method_2_code
def yX10_hasNow : MethodName := ⟨RX10, "hasNow", "(II)Z"⟩
abbrev cX10_turn : ByteArray := prog_12_method_3_code
def yX10_turn : MethodName := ⟨RX10, "turn", "(III)Z"⟩
abbrev cX10_heldOn : ByteArray := prog_12_method_4_code
def yX10_heldOn : MethodName := ⟨RX10, "heldOn", "(I[J)V"⟩
abbrev cX10_addWrap : ByteArray := prog_12_method_5_code
def yX10_addWrap : MethodName := ⟨RX10, "addWrap", "(III)I"⟩
abbrev cX10_cutWrap : ByteArray := prog_12_method_6_code
def yX10_cutWrap : MethodName := ⟨RX10, "cutWrap", "(II)Z"⟩
abbrev cX10_isWrapOn : ByteArray := prog_12_method_7_code
def yX10_isWrapOn : MethodName := ⟨RX10, "isWrapOn", "(II)Z"⟩
abbrev cX10_uncutWraps : ByteArray := prog_12_method_8_code
def yX10_uncutWraps : MethodName := ⟨RX10, "uncutWraps", "()I"⟩
def RX11 : String := "LifeKeys"
def TX11 : u_T := fun k => match k with
  | 0 => ("LifeKeys", "now", "I", false)
  | 1 => ("LifeKeys", "holderCount", "I", false)
  | 2 => ("LifeKeys", "falseHolders", "I", false)
  | 3 => ("LifeKeys", "benchHolders", "I", false)
  | 4 => ("LifeKeys", "bench", "[I", true)
  | 5 => ("LifeKeys", "fallCount", "I", false)
  | 6 => ("LifeKeys", "falls", "[I", true)
  | 7 => ("LifeKeys", "tape", "LLifeKeys$Tape;", true)
  | 8 => ("LifeKeys", "keys", "LLifeKeys$Keys;", true)
  | 9 => ("LifeKeys", "ties", "LLifeKeys$Ties;", true)
  | 10 => ("LifeKeys", "partings", "LLifeKeys$Partings;", true)
  | 11 => ("LifeKeys", "rules", "LLifeKeys$Rules;", true)
  | 12 => ("LifeKeys", "sayings", "LLifeKeys$Sayings;", true)
  | 13 => ("LifeKeys", "things", "LLifeKeys$Things;", true)
  | 14 => ("LifeKeys", "signatures", "LLifeKeys$Signatures;", true)
  | 15 => ("LifeKeys", "loans", "LLifeKeys$Loans;", true)
  | _ => ("LifeKeys", "reach", "LLifeKeys$Reach;", true)
def tyX11 : Nat → FieldType := fun k => match k with
  | 0 => .int
  | 1 => .int
  | 2 => .int
  | 3 => .int
  | 4 => .array .int
  | 5 => .int
  | 6 => .array .int
  | 7 => .object "LifeKeys$Tape"
  | 8 => .object "LifeKeys$Keys"
  | 9 => .object "LifeKeys$Ties"
  | 10 => .object "LifeKeys$Partings"
  | 11 => .object "LifeKeys$Rules"
  | 12 => .object "LifeKeys$Sayings"
  | 13 => .object "LifeKeys$Things"
  | 14 => .object "LifeKeys$Signatures"
  | 15 => .object "LifeKeys$Loans"
  | _ => .object "LifeKeys$Reach"
abbrev wsX110 : List Cond := u_ws RX11 TX11 17
theorem nmX11 : ∀ a, a < 17 → ∀ b, b < 17 → a ≠ b → (TX11 a).2.1 ≠ (TX11 b).2.1 := by decide +kernel
theorem tyX11_ok : ∀ k, k < 17 → parseFieldDescriptor (TX11 k).2.2.1 = some (tyX11 k) := by decide +kernel
abbrev cX11_init : ByteArray := prog_1_method_1_code
def yX11_init : MethodName := ⟨RX11, "<init>", "()V"⟩
abbrev cX11_days : ByteArray := prog_1_method_2_code
def yX11_days : MethodName := ⟨RX11, "days", "(I)I"⟩
abbrev cX11_holder : ByteArray := prog_1_method_3_code
def yX11_holder : MethodName := ⟨RX11, "holde\x72", "()I"⟩
abbrev cX11_key : ByteArray := prog_1_method_4_code
def yX11_key : MethodName := ⟨RX11, "key", "(IZ)I"⟩
abbrev cX11_feed : ByteArray := prog_1_method_5_code
def yX11_feed : MethodName := ⟨RX11, "feed", "(IIIII)I"⟩
abbrev cX11_end : ByteArray := prog_1_method_6_code
def yX11_end : MethodName := ⟨RX11, "end", "(I)Z"⟩
abbrev cX11_make : ByteArray := prog_1_method_7_code
def yX11_make : MethodName := ⟨RX11, "make", "(I)I"⟩
abbrev cX11_open : ByteArray := prog_1_method_8_code
def yX11_open : MethodName := ⟨RX11, "open", "(I)I"⟩
abbrev cX11_told : ByteArray := prog_1_method_9_code
def yX11_told : MethodName := ⟨RX11, "told", "(II)I"⟩
abbrev cX11_give : ByteArray := prog_1_method_10_code
def yX11_give : MethodName := ⟨RX11, "give", "(II)Z"⟩
abbrev cX11_take : ByteArray := prog_1_method_11_code
def yX11_take : MethodName := ⟨RX11, "take", "(II)Z"⟩
abbrev cX11_wrap : ByteArray := prog_1_method_12_code
def yX11_wrap : MethodName := ⟨RX11, "wrap", "(II)I"⟩
abbrev cX11_cut : ByteArray := prog_1_method_13_code
def yX11_cut : MethodName := ⟨RX11, "cut", "(I)Z"⟩
abbrev cX11_part : ByteArray := prog_1_method_14_code
def yX11_part : MethodName := ⟨RX11, "part", "(IIIJ)I"⟩
abbrev cX11_again : ByteArray := prog_1_method_15_code
def yX11_again : MethodName := ⟨RX11, "again", "(IJ)I"⟩
abbrev cX11_piece : ByteArray := prog_1_method_16_code
def yX11_piece : MethodName := ⟨RX11, "piece", "(II)I"⟩
abbrev cX11_checks : ByteArray := prog_1_method_17_code
def yX11_checks : MethodName := ⟨RX11, "checks", "(II)I"⟩
abbrev cX11_fits : ByteArray := prog_1_method_18_code
def yX11_fits : MethodName := ⟨RX11, "fits", "(III)I"⟩
abbrev cX11_lay : ByteArray := prog_1_method_19_code
def yX11_lay : MethodName := ⟨RX11, "lay", "(II)I"⟩
abbrev cX11_join : ByteArray := prog_1_method_20_code
def yX11_join : MethodName := ⟨RX11, "join", "()I"⟩
abbrev cX11_left : ByteArray := prog_1_method_21_code
def yX11_left : MethodName := ⟨RX11, "left", "(II)I"⟩
abbrev cX11_got : ByteArray := prog_1_method_22_code
def yX11_got : MethodName := ⟨RX11, "got", "(II)J"⟩
abbrev cX11_fault : ByteArray := prog_1_method_23_code
def yX11_fault : MethodName := ⟨RX11, "fault", "()I"⟩
abbrev cX11_rule : ByteArray := prog_1_method_24_code
def yX11_rule : MethodName := ⟨RX11, "rule", "()I"⟩
abbrev cX11_death : ByteArray := prog_1_method_25_code
def yX11_death : MethodName := ⟨RX11, "death", "(II)Z"⟩
abbrev cX11_seal : ByteArray := prog_1_method_26_code
def yX11_seal : MethodName := ⟨RX11, "seal", "(IIZ)I"⟩
abbrev cX11_say : ByteArray := prog_1_method_27_code
def yX11_say : MethodName := ⟨RX11, "say", "(IIZ)Z"⟩
abbrev cX11_mourn : ByteArray := prog_1_method_28_code
def yX11_mourn : MethodName := ⟨RX11, "mourn", "(IIZ)Z"⟩
abbrev cX11_ask : ByteArray := prog_1_method_29_code
def yX11_ask : MethodName := ⟨RX11, "ask", "(I)Z"⟩
abbrev cX11_may : ByteArray := prog_1_method_30_code
def yX11_may : MethodName := ⟨RX11, "may", "(III)I"⟩
abbrev cX11_dead : ByteArray := prog_1_method_31_code
def yX11_dead : MethodName := ⟨RX11, "dead", "(III)I"⟩
abbrev cX11_unseal : ByteArray := prog_1_method_32_code
def yX11_unseal : MethodName := ⟨RX11, "unseal", "(I)I"⟩
abbrev cX11_sign : ByteArray := prog_1_method_33_code
def yX11_sign : MethodName := ⟨RX11, "sign", "(IIII)I"⟩
abbrev cX11_falsely : ByteArray := prog_1_method_34_code
def yX11_falsely : MethodName := ⟨RX11, "falsely", "(IZ)Z"⟩
abbrev cX11_several : ByteArray := prog_1_method_35_code
def yX11_several : MethodName := ⟨RX11, "several", "(IIIJ)I"⟩
abbrev cX11_signed : ByteArray := prog_1_method_36_code
def yX11_signed : MethodName := ⟨RX11, "signed", "(II)I"⟩
abbrev cX11_taken : ByteArray := prog_1_method_37_code
def yX11_taken : MethodName := ⟨RX11, "taken", "(IIII)I"⟩
abbrev cX11_burn : ByteArray := prog_1_method_38_code
def yX11_burn : MethodName := ⟨RX11, "burn", "(II)Z"⟩
abbrev cX11_old : ByteArray := prog_1_method_39_code
def yX11_old : MethodName := ⟨RX11, "old", "(I)Z"⟩
abbrev cX11_stands : ByteArray := prog_1_method_40_code
def yX11_stands : MethodName := ⟨RX11, "stands", "(II)I"⟩
abbrev cX11_lend : ByteArray := prog_1_method_41_code
def yX11_lend : MethodName := ⟨RX11, "lend", "(IIIII)I"⟩
abbrev cX11_use : ByteArray := prog_1_method_42_code
def yX11_use : MethodName := ⟨RX11, "use", "(III)I"⟩
abbrev cX11_back : ByteArray := prog_1_method_43_code
def yX11_back : MethodName := ⟨RX11, "back", "(I)Z"⟩
abbrev cX11_fall : ByteArray := prog_1_method_44_code
def yX11_fall : MethodName := ⟨RX11, "fall", "(I)I"⟩
abbrev cX11_fallen : ByteArray := prog_1_method_45_code
def yX11_fallen : MethodName := ⟨RX11, "fallen", "(II)J"⟩
abbrev cX11_least : ByteArray := prog_1_method_46_code
def yX11_least : MethodName := ⟨RX11, "least", "(II)I"⟩
abbrev cX11_ways : ByteArray := prog_1_method_47_code
def yX11_ways : MethodName := ⟨RX11, "ways", "(II)I"⟩
abbrev cX11_first : ByteArray := prog_1_method_48_code
def yX11_first : MethodName := ⟨RX11, "first", "(II)I"⟩
abbrev cX11_better : ByteArray := prog_1_method_49_code
def yX11_better : MethodName := ⟨RX11, "bette\x72", "(I)I"⟩
abbrev cX11_order : ByteArray := prog_1_method_50_code
def yX11_order : MethodName := ⟨RX11, "orde\x72", "(II)I"⟩
abbrev cX11_count : ByteArray := prog_1_method_51_code
def yX11_count : MethodName := ⟨RX11, "count", "(I)I"⟩
abbrev cX11_countFurther : ByteArray := prog_1_method_52_code
def yX11_countFurther : MethodName := ⟨RX11, "countFurthe\x72", "(I)I"⟩
abbrev cX11_isHolder : ByteArray := prog_1_method_53_code
def yX11_isHolder : MethodName := ⟨RX11, "isHolde\x72", "(I)Z"⟩
abbrev cX11_allHolders : ByteArray := prog_1_method_54_code
def yX11_allHolders : MethodName := ⟨RX11, "allHolders", "()I"⟩
abbrev cX11_isSet : ByteArray := prog_1_method_55_code
def yX11_isSet : MethodName := ⟨RX11, "isSet", "(I)Z"⟩
abbrev cX11_othersThan : ByteArray := prog_1_method_56_code
def yX11_othersThan : MethodName := ⟨RX11, "othersThan", "(I)I"⟩
abbrev cX11_isFall : ByteArray := prog_1_method_57_code
def yX11_isFall : MethodName := ⟨RX11, "isFall", "(I)Z"⟩
abbrev cX11_isPast : ByteArray := prog_1_method_58_code
def yX11_isPast : MethodName := ⟨RX11, "isPast", "(I)Z"⟩
abbrev cX11_isDay : ByteArray := prog_1_method_59_code
def yX11_isDay : MethodName := ⟨RX11, "isDay", "(I)Z"⟩
abbrev cX11_hasBit : ByteArray := prog_1_method_60_code
def yX11_hasBit : MethodName := ⟨RX11, "hasBit", "(II)Z"⟩
abbrev cX11_hasKey : ByteArray := prog_1_method_61_code
def yX11_hasKey : MethodName := ⟨RX11, "hasKey", "(JI)Z"⟩
abbrev cX11_ruleHolds : ByteArray := prog_1_method_62_code
def yX11_ruleHolds : MethodName := ⟨RX11, "ruleHolds", "(III)Z"⟩
abbrev cX11_isDead : ByteArray := prog_1_method_63_code
def yX11_isDead : MethodName := ⟨RX11, "isDead", "(III)Z"⟩
abbrev cX11_settleReach : ByteArray := prog_1_method_64_code
def yX11_settleReach : MethodName := ⟨RX11, "settleReach", "(I)V"⟩
abbrev cX11_getsNow : ByteArray := prog_1_method_65_code
def yX11_getsNow : MethodName := ⟨RX11, "getsNow", "(II)Z"⟩
abbrev cX11_signAlone : ByteArray := prog_1_method_66_code
def yX11_signAlone : MethodName := ⟨RX11, "signAlone", "(III)I"⟩
abbrev cX11_signTogether : ByteArray := prog_1_method_67_code
def yX11_signTogether : MethodName := ⟨RX11, "signTogethe\x72", "(IIIJ)I"⟩
abbrev cX11_givenBy : ByteArray := prog_1_method_68_code
def yX11_givenBy : MethodName := ⟨RX11, "givenBy", "(III)I"⟩
abbrev cX11_agrees : ByteArray := prog_1_method_69_code
def yX11_agrees : MethodName := ⟨RX11, "agrees", "(IIII)Z"⟩
abbrev cX11_searchLeast : ByteArray := prog_1_method_70_code
def yX11_searchLeast : MethodName := ⟨RX11, "searchLeast", "(II)Z"⟩
abbrev cX11_outlastsFalls : ByteArray := prog_1_method_71_code
def yX11_outlastsFalls : MethodName := ⟨RX11, "outlastsFalls", "(II)Z"⟩
def RX12 : String := "LifeKeysModel"
def TX12 : u_T := fun k => match k with
  | 0 => ("LifeKeysModel", "thrown", "I", false)
  | 1 => ("LifeKeysModel", "now", "I", false)
  | 2 => ("LifeKeysModel", "sort", "[I", true)
  | 3 => ("LifeKeysModel", "secret", "[I", true)
  | 4 => ("LifeKeysModel", "rootOf", "[I", true)
  | 5 => ("LifeKeysModel", "keyDay", "[I", true)
  | 6 => ("LifeKeysModel", "oldFrom", "[I", true)
  | 7 => ("LifeKeysModel", "giveHolde\x72", "[I", true)
  | 8 => ("LifeKeysModel", "giveKey", "[I", true)
  | 9 => ("LifeKeysModel", "giveDay", "[I", true)
  | 10 => ("LifeKeysModel", "isGiving", "[Z", true)
  | 11 => ("LifeKeysModel", "isFalse", "[Z", true)
  | 12 => ("LifeKeysModel", "holders", "I", false)
  | 13 => ("LifeKeysModel", "keys", "I", false)
  | 14 => ("LifeKeysModel", "gives", "I", false)
  | 15 => ("LifeKeysModel", "tape", "[B", true)
  | 16 => ("LifeKeysModel", "length", "I", false)
  | 17 => ("LifeKeysModel", "inne\x72", "[I", true)
  | 18 => ("LifeKeysModel", "oute\x72", "[I", true)
  | 19 => ("LifeKeysModel", "wrapDay", "[I", true)
  | 20 => ("LifeKeysModel", "wrapEnd", "[I", true)
  | 21 => ("LifeKeysModel", "partKey", "[I", true)
  | 22 => ("LifeKeysModel", "partHolders", "[I", true)
  | 23 => ("LifeKeysModel", "partNeed", "[I", true)
  | 24 => ("LifeKeysModel", "partDay", "[I", true)
  | 25 => ("LifeKeysModel", "partEnd", "[I", true)
  | 26 => ("LifeKeysModel", "curve", "[I", true)
  | 27 => ("LifeKeysModel", "benchHolde\x72", "[I", true)
  | 28 => ("LifeKeysModel", "benchNumbe\x72", "[I", true)
  | 29 => ("LifeKeysModel", "wraps", "I", false)
  | 30 => ("LifeKeysModel", "partings", "I", false)
  | 31 => ("LifeKeysModel", "bench", "I", false)
  | 32 => ("LifeKeysModel", "hasBits", "[J", true)
  | 33 => ("LifeKeysModel", "ruleText", "[B", true)
  | 34 => ("LifeKeysModel", "ruleLong", "[I", true)
  | 35 => ("LifeKeysModel", "deathHolde\x72", "[I", true)
  | 36 => ("LifeKeysModel", "deathRule", "[I", true)
  | 37 => ("LifeKeysModel", "deathTold", "[I", true)
  | 38 => ("LifeKeysModel", "digest", "[I", true)
  | 39 => ("LifeKeysModel", "sealedTo", "[I", true)
  | 40 => ("LifeKeysModel", "askedOn", "[I", true)
  | 41 => ("LifeKeysModel", "sayHolde\x72", "[I", true)
  | 42 => ("LifeKeysModel", "sayOf", "[I", true)
  | 43 => ("LifeKeysModel", "sayDay", "[I", true)
  | 44 => ("LifeKeysModel", "isByRule", "[Z", true)
  | 45 => ("LifeKeysModel", "isOpened", "[Z", true)
  | 46 => ("LifeKeysModel", "isYes", "[Z", true)
  | 47 => ("LifeKeysModel", "isOfDeath", "[Z", true)
  | 48 => ("LifeKeysModel", "rules", "I", false)
  | 49 => ("LifeKeysModel", "deaths", "I", false)
  | 50 => ("LifeKeysModel", "things", "I", false)
  | 51 => ("LifeKeysModel", "sayings", "I", false)
  | 52 => ("LifeKeysModel", "text", "[B", false)
  | 53 => ("LifeKeysModel", "begins", "I", false)
  | 54 => ("LifeKeysModel", "ends", "I", false)
  | 55 => ("LifeKeysModel", "at", "I", false)
  | 56 => ("LifeKeysModel", "fault", "I", false)
  | 57 => ("LifeKeysModel", "deep", "I", false)
  | 58 => ("LifeKeysModel", "of", "I", false)
  | 59 => ("LifeKeysModel", "day", "I", false)
  | 60 => ("LifeKeysModel", "seen", "I", false)
  | 61 => ("LifeKeysModel", "first", "I", false)
  | 62 => ("LifeKeysModel", "ofDeath", "Z", false)
  | 63 => ("LifeKeysModel", "isDead", "[Z", true)
  | 64 => ("LifeKeysModel", "signR", "[I", true)
  | 65 => ("LifeKeysModel", "signS", "[I", true)
  | 66 => ("LifeKeysModel", "signKey", "[I", true)
  | 67 => ("LifeKeysModel", "signThing", "[I", true)
  | 68 => ("LifeKeysModel", "signDay", "[I", true)
  | 69 => ("LifeKeysModel", "burnKey", "[I", true)
  | 70 => ("LifeKeysModel", "burnDay", "[I", true)
  | 71 => ("LifeKeysModel", "burnTold", "[I", true)
  | 72 => ("LifeKeysModel", "lentKey", "[I", true)
  | 73 => ("LifeKeysModel", "lentTo", "[I", true)
  | 74 => ("LifeKeysModel", "lentUses", "[I", true)
  | 75 => ("LifeKeysModel", "lentThing", "[I", true)
  | 76 => ("LifeKeysModel", "isBack", "[Z", true)
  | 77 => ("LifeKeysModel", "signatures", "I", false)
  | 78 => ("LifeKeysModel", "burns", "I", false)
  | 79 => ("LifeKeysModel", "lents", "I", false)
  | 80 => ("LifeKeysModel", "fallSet", "[I", true)
  | 81 => ("LifeKeysModel", "orde\x72", "[I", true)
  | 82 => ("LifeKeysModel", "falls", "I", false)
  | 83 => ("LifeKeysModel", "bestSet", "I", false)
  | _ => ("LifeKeysModel", "wayMany", "I", false)
def tyX12 : Nat → FieldType := fun k => match k with
  | 0 => .int
  | 1 => .int
  | 2 => .array .int
  | 3 => .array .int
  | 4 => .array .int
  | 5 => .array .int
  | 6 => .array .int
  | 7 => .array .int
  | 8 => .array .int
  | 9 => .array .int
  | 10 => .array .boolean
  | 11 => .array .boolean
  | 12 => .int
  | 13 => .int
  | 14 => .int
  | 15 => .array .byte
  | 16 => .int
  | 17 => .array .int
  | 18 => .array .int
  | 19 => .array .int
  | 20 => .array .int
  | 21 => .array .int
  | 22 => .array .int
  | 23 => .array .int
  | 24 => .array .int
  | 25 => .array .int
  | 26 => .array .int
  | 27 => .array .int
  | 28 => .array .int
  | 29 => .int
  | 30 => .int
  | 31 => .int
  | 32 => .array .long
  | 33 => .array .byte
  | 34 => .array .int
  | 35 => .array .int
  | 36 => .array .int
  | 37 => .array .int
  | 38 => .array .int
  | 39 => .array .int
  | 40 => .array .int
  | 41 => .array .int
  | 42 => .array .int
  | 43 => .array .int
  | 44 => .array .boolean
  | 45 => .array .boolean
  | 46 => .array .boolean
  | 47 => .array .boolean
  | 48 => .int
  | 49 => .int
  | 50 => .int
  | 51 => .int
  | 52 => .array .byte
  | 53 => .int
  | 54 => .int
  | 55 => .int
  | 56 => .int
  | 57 => .int
  | 58 => .int
  | 59 => .int
  | 60 => .int
  | 61 => .int
  | 62 => .boolean
  | 63 => .array .boolean
  | 64 => .array .int
  | 65 => .array .int
  | 66 => .array .int
  | 67 => .array .int
  | 68 => .array .int
  | 69 => .array .int
  | 70 => .array .int
  | 71 => .array .int
  | 72 => .array .int
  | 73 => .array .int
  | 74 => .array .int
  | 75 => .array .int
  | 76 => .array .boolean
  | 77 => .int
  | 78 => .int
  | 79 => .int
  | 80 => .array .int
  | 81 => .array .int
  | 82 => .int
  | 83 => .int
  | _ => .int
abbrev wsX120 : List Cond := u_ws RX12 TX12 85
theorem nmX12 : ∀ a, a < 85 → ∀ b, b < 85 → a ≠ b → (TX12 a).2.1 ≠ (TX12 b).2.1 := by decide +kernel
theorem tyX12_ok : ∀ k, k < 85 → parseFieldDescriptor (TX12 k).2.2.1 = some (tyX12 k) := by decide +kernel
abbrev cX12_init : ByteArray := prog_14_method_1_code
def yX12_init : MethodName := ⟨RX12, "<init>", "()V"⟩
abbrev cX12_thrown : ByteArray := prog_14_method_2_code
def yX12_thrown : MethodName := ⟨RX12, "thrown", "()I"⟩
abbrev cX12_isIn : ByteArray := prog_14_method_3_code
def yX12_isIn : MethodName := ⟨RX12, "isIn", "(III)Z"⟩
abbrev cX12_isKnown : ByteArray := prog_14_method_4_code
def yX12_isKnown : MethodName := ⟨RX12, "isKnown", "(I)Z"⟩
abbrev cX12_isDay : ByteArray := prog_14_method_5_code
def yX12_isDay : MethodName := ⟨RX12, "isDay", "(I)Z"⟩
abbrev cX12_days : ByteArray := prog_14_method_6_code
def yX12_days : MethodName := ⟨RX12, "days", "(I)I"⟩
abbrev cX12_power : ByteArray := prog_14_method_7_code
def yX12_power : MethodName := ⟨RX12, "powe\x72", "(III)I"⟩
abbrev cX12_four : ByteArray := prog_14_method_8_code
def yX12_four : MethodName := ⟨RX12, "fou\x72", "(I)I"⟩
abbrev cX12_inverse : ByteArray := prog_14_method_9_code
def yX12_inverse : MethodName := ⟨RX12, "inverse", "(I)I"⟩
abbrev cX12_isHolder : ByteArray := prog_14_method_10_code
def yX12_isHolder : MethodName := ⟨RX12, "isHolde\x72", "(I)Z"⟩
abbrev cX12_isKey : ByteArray := prog_14_method_11_code
def yX12_isKey : MethodName := ⟨RX12, "isKey", "(I)Z"⟩
abbrev cX12_areHolders : ByteArray := prog_14_method_12_code
def yX12_areHolders : MethodName := ⟨RX12, "areHolders", "(II)Z"⟩
abbrev cX12_holder : ByteArray := prog_14_method_13_code
def yX12_holder : MethodName := ⟨RX12, "holde\x72", "()I"⟩
abbrev cX12_add : ByteArray := prog_14_method_14_code
def yX12_add : MethodName := ⟨RX12, "add", "(III)I"⟩
abbrev cX12_key : ByteArray := prog_14_method_15_code
def yX12_key : MethodName := ⟨RX12, "key", "(IZ)I"⟩
abbrev cX12_bytesIn : ByteArray := prog_14_method_16_code
def yX12_bytesIn : MethodName := ⟨RX12, "bytesIn", "(I)I"⟩
abbrev cX12_put : ByteArray := prog_14_method_17_code
def yX12_put : MethodName := ⟨RX12, "put", "(I)V"⟩
abbrev cX12_feed : ByteArray := prog_14_method_18_code
def yX12_feed : MethodName := ⟨RX12, "feed", "(IIIII)I"⟩
abbrev cX12_end : ByteArray := prog_14_method_19_code
def yX12_end : MethodName := ⟨RX12, "end", "(I)Z"⟩
abbrev cX12_make : ByteArray := prog_14_method_20_code
def yX12_make : MethodName := ⟨RX12, "make", "(I)I"⟩
abbrev cX12_open : ByteArray := prog_14_method_21_code
def yX12_open : MethodName := ⟨RX12, "open", "(I)I"⟩
abbrev cX12_has : ByteArray := prog_14_method_22_code
def yX12_has : MethodName := ⟨RX12, "has", "(III)Z"⟩
abbrev cX12_hands : ByteArray := prog_14_method_23_code
def yX12_hands : MethodName := ⟨RX12, "hands", "(IIZ)Z"⟩
abbrev cX12_give : ByteArray := prog_14_method_24_code
def yX12_give : MethodName := ⟨RX12, "give", "(II)Z"⟩
abbrev cX12_take : ByteArray := prog_14_method_25_code
def yX12_take : MethodName := ⟨RX12, "take", "(II)Z"⟩
abbrev cX12_wrap : ByteArray := prog_14_method_26_code
def yX12_wrap : MethodName := ⟨RX12, "wrap", "(II)I"⟩
abbrev cX12_cut : ByteArray := prog_14_method_27_code
def yX12_cut : MethodName := ⟨RX12, "cut", "(I)Z"⟩
abbrev cX12_next : ByteArray := prog_14_method_28_code
def yX12_next : MethodName := ⟨RX12, "next", "(J)J"⟩
abbrev cX12_drawn : ByteArray := prog_14_method_29_code
def yX12_drawn : MethodName := ⟨RX12, "drawn", "(JI)I"⟩
abbrev cX12_parted : ByteArray := prog_14_method_30_code
def yX12_parted : MethodName := ⟨RX12, "parted", "(IIIJ)I"⟩
abbrev cX12_part : ByteArray := prog_14_method_31_code
def yX12_part : MethodName := ⟨RX12, "part", "(IIIJ)I"⟩
abbrev cX12_isParting : ByteArray := prog_14_method_32_code
def yX12_isParting : MethodName := ⟨RX12, "isParting", "(I)Z"⟩
abbrev cX12_again : ByteArray := prog_14_method_33_code
def yX12_again : MethodName := ⟨RX12, "again", "(IJ)I"⟩
abbrev cX12_isAmong : ByteArray := prog_14_method_34_code
def yX12_isAmong : MethodName := ⟨RX12, "isAmong", "(II)Z"⟩
abbrev cX12_pieceOf : ByteArray := prog_14_method_35_code
def yX12_pieceOf : MethodName := ⟨RX12, "pieceOf", "(II)I"⟩
abbrev cX12_piece : ByteArray := prog_14_method_36_code
def yX12_piece : MethodName := ⟨RX12, "piece", "(II)I"⟩
abbrev cX12_checks : ByteArray := prog_14_method_37_code
def yX12_checks : MethodName := ⟨RX12, "checks", "(II)I"⟩
abbrev cX12_fits : ByteArray := prog_14_method_38_code
def yX12_fits : MethodName := ⟨RX12, "fits", "(III)I"⟩
abbrev cX12_lay : ByteArray := prog_14_method_39_code
def yX12_lay : MethodName := ⟨RX12, "lay", "(II)I"⟩
abbrev cX12_weight : ByteArray := prog_14_method_40_code
def yX12_weight : MethodName := ⟨RX12, "weight", "(II)I"⟩
abbrev cX12_join : ByteArray := prog_14_method_41_code
def yX12_join : MethodName := ⟨RX12, "join", "()I"⟩
abbrev cX12_left : ByteArray := prog_14_method_42_code
def yX12_left : MethodName := ⟨RX12, "left", "(II)I"⟩
abbrev cX12_isForce : ByteArray := prog_14_method_43_code
def yX12_isForce : MethodName := ⟨RX12, "isForce", "(II)Z"⟩
abbrev cX12_isWrapped : ByteArray := prog_14_method_44_code
def yX12_isWrapped : MethodName := ⟨RX12, "isWrapped", "(II)Z"⟩
abbrev cX12_layHas : ByteArray := prog_14_method_45_code
def yX12_layHas : MethodName := ⟨RX12, "layHas", "(I)V"⟩
abbrev cX12_closes : ByteArray := prog_14_method_46_code
def yX12_closes : MethodName := ⟨RX12, "closes", "(IIII)J"⟩
abbrev cX12_gets : ByteArray := prog_14_method_47_code
def yX12_gets : MethodName := ⟨RX12, "gets", "(II)J"⟩
abbrev cX12_got : ByteArray := prog_14_method_48_code
def yX12_got : MethodName := ⟨RX12, "got", "(II)J"⟩
abbrev cX12_look : ByteArray := prog_14_method_49_code
def yX12_look : MethodName := ⟨RX12, "look", "()I"⟩
abbrev cX12_stop : ByteArray := prog_14_method_50_code
def yX12_stop : MethodName := ⟨RX12, "stop", "()Z"⟩
abbrev cX12_goesIn : ByteArray := prog_14_method_51_code
def yX12_goesIn : MethodName := ⟨RX12, "goesIn", "()Z"⟩
abbrev cX12_takes : ByteArray := prog_14_method_52_code
def yX12_takes : MethodName := ⟨RX12, "takes", "(I)Z"⟩
abbrev cX12_isDigit : ByteArray := prog_14_method_53_code
def yX12_isDigit : MethodName := ⟨RX12, "isDigit", "()Z"⟩
abbrev cX12_number : ByteArray := prog_14_method_54_code
def yX12_number : MethodName := ⟨RX12, "numbe\x72", "(I)I"⟩
abbrev cX12_any : ByteArray := prog_14_method_55_code
def yX12_any : MethodName := ⟨RX12, "any", "()Z"⟩
abbrev cX12_all : ByteArray := prog_14_method_56_code
def yX12_all : MethodName := ⟨RX12, "all", "()Z"⟩
abbrev cX12_unit : ByteArray := prog_14_method_57_code
def yX12_unit : MethodName := ⟨RX12, "unit", "()Z"⟩
abbrev cX12_saysLast : ByteArray := prog_14_method_58_code
def yX12_saysLast : MethodName := ⟨RX12, "saysLast", "(I)I"⟩
abbrev cX12_isDead : ByteArray := prog_14_method_59_code
def yX12_isDead : MethodName := ⟨RX12, "isDead", "(I)Z"⟩
abbrev cX12_goThrough : ByteArray := prog_14_method_60_code
def yX12_goThrough : MethodName := ⟨RX12, "goThrough", "([BII)Z"⟩
abbrev cX12_holds : ByteArray := prog_14_method_61_code
def yX12_holds : MethodName := ⟨RX12, "holds", "(I)Z"⟩
abbrev cX12_findDead : ByteArray := prog_14_method_62_code
def yX12_findDead : MethodName := ⟨RX12, "findDead", "(II)V"⟩
abbrev cX12_holdsFor : ByteArray := prog_14_method_63_code
def yX12_holdsFor : MethodName := ⟨RX12, "holdsFo\x72", "(III)Z"⟩
abbrev cX12_fault : ByteArray := prog_14_method_64_code
def yX12_fault : MethodName := ⟨RX12, "fault", "()I"⟩
abbrev cX12_rule : ByteArray := prog_14_method_65_code
def yX12_rule : MethodName := ⟨RX12, "rule", "()I"⟩
abbrev cX12_isRule : ByteArray := prog_14_method_66_code
def yX12_isRule : MethodName := ⟨RX12, "isRule", "(I)Z"⟩
abbrev cX12_death : ByteArray := prog_14_method_67_code
def yX12_death : MethodName := ⟨RX12, "death", "(II)Z"⟩
abbrev cX12_isThing : ByteArray := prog_14_method_68_code
def yX12_isThing : MethodName := ⟨RX12, "isThing", "(I)Z"⟩
abbrev cX12_seal : ByteArray := prog_14_method_69_code
def yX12_seal : MethodName := ⟨RX12, "seal", "(IIZ)I"⟩
abbrev cX12_says : ByteArray := prog_14_method_70_code
def yX12_says : MethodName := ⟨RX12, "says", "(IIZZ)Z"⟩
abbrev cX12_say : ByteArray := prog_14_method_71_code
def yX12_say : MethodName := ⟨RX12, "say", "(IIZ)Z"⟩
abbrev cX12_mourn : ByteArray := prog_14_method_72_code
def yX12_mourn : MethodName := ⟨RX12, "mourn", "(IIZ)Z"⟩
abbrev cX12_ask : ByteArray := prog_14_method_73_code
def yX12_ask : MethodName := ⟨RX12, "ask", "(I)Z"⟩
abbrev cX12_may : ByteArray := prog_14_method_74_code
def yX12_may : MethodName := ⟨RX12, "may", "(III)I"⟩
abbrev cX12_dead : ByteArray := prog_14_method_75_code
def yX12_dead : MethodName := ⟨RX12, "dead", "(III)I"⟩
abbrev cX12_unseal : ByteArray := prog_14_method_76_code
def yX12_unseal : MethodName := ⟨RX12, "unseal", "(I)I"⟩
abbrev cX12_burntFrom : ByteArray := prog_14_method_77_code
def yX12_burntFrom : MethodName := ⟨RX12, "burntFrom", "(II)I"⟩
abbrev cX12_maySign : ByteArray := prog_14_method_78_code
def yX12_maySign : MethodName := ⟨RX12, "maySign", "(I)Z"⟩
abbrev cX12_challenge : ByteArray := prog_14_method_79_code
def yX12_challenge : MethodName := ⟨RX12, "challenge", "(II)I"⟩
abbrev cX12_keeps : ByteArray := prog_14_method_80_code
def yX12_keeps : MethodName := ⟨RX12, "keeps", "(IIII)I"⟩
abbrev cX12_signs : ByteArray := prog_14_method_81_code
def yX12_signs : MethodName := ⟨RX12, "signs", "(III)I"⟩
abbrev cX12_sign : ByteArray := prog_14_method_82_code
def yX12_sign : MethodName := ⟨RX12, "sign", "(IIII)I"⟩
abbrev cX12_falsely : ByteArray := prog_14_method_83_code
def yX12_falsely : MethodName := ⟨RX12, "falsely", "(IZ)Z"⟩
abbrev cX12_several : ByteArray := prog_14_method_84_code
def yX12_several : MethodName := ⟨RX12, "several", "(IIIJ)I"⟩
abbrev cX12_signed : ByteArray := prog_14_method_85_code
def yX12_signed : MethodName := ⟨RX12, "signed", "(II)I"⟩
abbrev cX12_taken : ByteArray := prog_14_method_86_code
def yX12_taken : MethodName := ⟨RX12, "taken", "(IIII)I"⟩
abbrev cX12_burn : ByteArray := prog_14_method_87_code
def yX12_burn : MethodName := ⟨RX12, "burn", "(II)Z"⟩
abbrev cX12_old : ByteArray := prog_14_method_88_code
def yX12_old : MethodName := ⟨RX12, "old", "(I)Z"⟩
abbrev cX12_stands : ByteArray := prog_14_method_89_code
def yX12_stands : MethodName := ⟨RX12, "stands", "(II)I"⟩
abbrev cX12_lend : ByteArray := prog_14_method_90_code
def yX12_lend : MethodName := ⟨RX12, "lend", "(IIIII)I"⟩
abbrev cX12_use : ByteArray := prog_14_method_91_code
def yX12_use : MethodName := ⟨RX12, "use", "(III)I"⟩
abbrev cX12_back : ByteArray := prog_14_method_92_code
def yX12_back : MethodName := ⟨RX12, "back", "(I)Z"⟩
abbrev cX12_told : ByteArray := prog_14_method_93_code
def yX12_told : MethodName := ⟨RX12, "told", "(II)I"⟩
abbrev cX12_isFall : ByteArray := prog_14_method_94_code
def yX12_isFall : MethodName := ⟨RX12, "isFall", "(I)Z"⟩
abbrev cX12_fall : ByteArray := prog_14_method_95_code
def yX12_fall : MethodName := ⟨RX12, "fall", "(I)I"⟩
abbrev cX12_others : ByteArray := prog_14_method_96_code
def yX12_others : MethodName := ⟨RX12, "others", "(I)I"⟩
abbrev cX12_allKeys : ByteArray := prog_14_method_97_code
def yX12_allKeys : MethodName := ⟨RX12, "allKeys", "()J"⟩
abbrev cX12_fallen : ByteArray := prog_14_method_98_code
def yX12_fallen : MethodName := ⟨RX12, "fallen", "(II)J"⟩
abbrev cX12_harms : ByteArray := prog_14_method_99_code
def yX12_harms : MethodName := ⟨RX12, "harms", "(III)Z"⟩
abbrev cX12_finds : ByteArray := prog_14_method_100_code
def yX12_finds : MethodName := ⟨RX12, "finds", "(II)Z"⟩
abbrev cX12_least : ByteArray := prog_14_method_101_code
def yX12_least : MethodName := ⟨RX12, "least", "(II)I"⟩
abbrev cX12_ways : ByteArray := prog_14_method_102_code
def yX12_ways : MethodName := ⟨RX12, "ways", "(II)I"⟩
abbrev cX12_first : ByteArray := prog_14_method_103_code
def yX12_first : MethodName := ⟨RX12, "first", "(II)I"⟩
abbrev cX12_isWell : ByteArray := prog_14_method_104_code
def yX12_isWell : MethodName := ⟨RX12, "isWell", "(II)Z"⟩
abbrev cX12_better : ByteArray := prog_14_method_105_code
def yX12_better : MethodName := ⟨RX12, "bette\x72", "(I)I"⟩
abbrev cX12_isBarred : ByteArray := prog_14_method_106_code
def yX12_isBarred : MethodName := ⟨RX12, "isBarred", "(IJJ)Z"⟩
abbrev cX12_order : ByteArray := prog_14_method_107_code
def yX12_order : MethodName := ⟨RX12, "orde\x72", "(II)I"⟩
abbrev cX12_count : ByteArray := prog_14_method_108_code
def yX12_count : MethodName := ⟨RX12, "count", "(I)I"⟩
def RJx145de : String := "java/io/Serializable"
def TJx145de : u_T := fun k => match k with
  | _ => ("", "", "", false)
def tyJx145de : Nat → FieldType := fun k => match k with
  | _ => .int
abbrev wsJx145de0 : List Cond := u_ws RJx145de TJx145de 0
theorem nmJx145de : ∀ a, a < 0 → ∀ b, b < 0 → a ≠ b → (TJx145de a).2.1 ≠ (TJx145de b).2.1 := by decide +kernel
theorem tyJx145de_ok : ∀ k, k < 0 → parseFieldDescriptor (TJx145de k).2.2.1 = some (tyJx145de k) := by decide +kernel
def RJ6 : String := "java/lang/Intege\x72"
def TJ6 : u_T := fun k => match k with
  | _ => ("", "", "", false)
def tyJ6 : Nat → FieldType := fun k => match k with
  | _ => .int
abbrev wsJ60 : List Cond := u_ws RJ6 TJ6 0
theorem nmJ6 : ∀ a, a < 0 → ∀ b, b < 0 → a ≠ b → (TJ6 a).2.1 ≠ (TJ6 b).2.1 := by decide +kernel
theorem tyJ6_ok : ∀ k, k < 0 → parseFieldDescriptor (TJ6 k).2.2.1 = some (tyJ6 k) := by decide +kernel
abbrev cJ6_bitCount_0f7a4 : ByteArray := prog_17_method_49_code
def yJ6_bitCount_0f7a4 : MethodName := ⟨RJ6, "bitCount", "(I)I"⟩
def RJ9 : String := "java/lang/Math"
def TJ9 : u_T := fun k => match k with
  | _ => ("", "", "", false)
def tyJ9 : Nat → FieldType := fun k => match k with
  | _ => .int
abbrev wsJ90 : List Cond := u_ws RJ9 TJ9 0
theorem nmJ9 : ∀ a, a < 0 → ∀ b, b < 0 → a ≠ b → (TJ9 a).2.1 ≠ (TJ9 b).2.1 := by decide +kernel
theorem tyJ9_ok : ∀ k, k < 0 → parseFieldDescriptor (TJ9 k).2.2.1 = some (tyJ9 k) := by decide +kernel
abbrev cJ9_floorMod_7cf53 : ByteArray := prog_18_method_50_code
def yJ9_floorMod_7cf53 : MethodName := ⟨RJ9, "floorMod", "(II)I"⟩
abbrev cJ9_abs_0f7a4 : ByteArray := prog_18_method_59_code
def yJ9_abs_0f7a4 : MethodName := ⟨RJ9, "abs", "(I)I"⟩
abbrev cJ9_max_7cf53 : ByteArray := prog_18_method_65_code
def yJ9_max_7cf53 : MethodName := ⟨RJ9, "max", "(II)I"⟩
abbrev cJ9_min_7cf53 : ByteArray := prog_18_method_69_code
def yJ9_min_7cf53 : MethodName := ⟨RJ9, "min", "(II)I"⟩
def RJ0 : String := "java/lang/String"
def TJ0 : u_T := fun k => match k with
  | _ => ("", "", "", false)
def tyJ0 : Nat → FieldType := fun k => match k with
  | _ => .int
abbrev wsJ00 : List Cond := u_ws RJ0 TJ0 0
theorem nmJ0 : ∀ a, a < 0 → ∀ b, b < 0 → a ≠ b → (TJ0 a).2.1 ≠ (TJ0 b).2.1 := by decide +kernel
theorem tyJ0_ok : ∀ k, k < 0 → parseFieldDescriptor (TJ0 k).2.2.1 = some (tyJ0 k) := by decide +kernel
def RJ10 : String := "java/lang/System"
def TJ10 : u_T := fun k => match k with
  | _ => ("", "", "", false)
def tyJ10 : Nat → FieldType := fun k => match k with
  | _ => .int
abbrev wsJ100 : List Cond := u_ws RJ10 TJ10 0
theorem nmJ10 : ∀ a, a < 0 → ∀ b, b < 0 → a ≠ b → (TJ10 a).2.1 ≠ (TJ10 b).2.1 := by decide +kernel
theorem tyJ10_ok : ∀ k, k < 0 → parseFieldDescriptor (TJ10 k).2.2.1 = some (tyJ10 k) := by decide +kernel
def RL : String := "LifeKeysLaw"
abbrev cL_open : ByteArray := method_3_code
def yL_open : MethodName := ⟨RL, "open", "(LLifeKeys;I[J)I"⟩
abbrev cL_law : ByteArray := code
def yL_law : MethodName := ⟨RL, "law", "([I)Z"⟩
def BG : List Cond := lw_tbl.filter goodWord
def b_nest : Cond → Bool
  | .fieldLinkNest .. => true
  | .methodLinkNest .. => true
  | _ => false
theorem bm_1 {w : Cond} (h : w ∈ tables_1_1) : w ∈ tables_1 := List.mem_append_left _ h
theorem bg_1 {w : Cond} (h : w ∈ tables_1_1) (hg : goodWord w = true) : w ∈ BG := List.mem_filter.mpr ⟨List.mem_append_right _ (bm_1 h), hg⟩
theorem bm_2 {w : Cond} (h : w ∈ tables_1_2) : w ∈ tables_1 := List.mem_append_right _ (List.mem_append_left _ h)
theorem bg_2 {w : Cond} (h : w ∈ tables_1_2) (hg : goodWord w = true) : w ∈ BG := List.mem_filter.mpr ⟨List.mem_append_right _ (bm_2 h), hg⟩
theorem bm_3 {w : Cond} (h : w ∈ tables_1_3) : w ∈ tables_1 := List.mem_append_right _ (List.mem_append_right _ (List.mem_append_left _ h))
theorem bg_3 {w : Cond} (h : w ∈ tables_1_3) (hg : goodWord w = true) : w ∈ BG := List.mem_filter.mpr ⟨List.mem_append_right _ (bm_3 h), hg⟩
theorem bm_4 {w : Cond} (h : w ∈ tables_1_4) : w ∈ tables_1 := List.mem_append_right _ (List.mem_append_right _ (List.mem_append_right _ (List.mem_append_left _ h)))
theorem bg_4 {w : Cond} (h : w ∈ tables_1_4) (hg : goodWord w = true) : w ∈ BG := List.mem_filter.mpr ⟨List.mem_append_right _ (bm_4 h), hg⟩
theorem bm_5 {w : Cond} (h : w ∈ tables_1_5) : w ∈ tables_1 := List.mem_append_right _ (List.mem_append_right _ (List.mem_append_right _ (List.mem_append_right _ (List.mem_append_left _ h))))
theorem bg_5 {w : Cond} (h : w ∈ tables_1_5) (hg : goodWord w = true) : w ∈ BG := List.mem_filter.mpr ⟨List.mem_append_right _ (bm_5 h), hg⟩
theorem bm_6 {w : Cond} (h : w ∈ tables_1_6) : w ∈ tables_1 := List.mem_append_right _ (List.mem_append_right _ (List.mem_append_right _ (List.mem_append_right _ (List.mem_append_right _ (List.mem_append_left _ h)))))
theorem bg_6 {w : Cond} (h : w ∈ tables_1_6) (hg : goodWord w = true) : w ∈ BG := List.mem_filter.mpr ⟨List.mem_append_right _ (bm_6 h), hg⟩
theorem bm_7 {w : Cond} (h : w ∈ tables_1_7) : w ∈ tables_1 := List.mem_append_right _ (List.mem_append_right _ (List.mem_append_right _ (List.mem_append_right _ (List.mem_append_right _ (List.mem_append_right _ (List.mem_append_left _ h))))))
theorem bg_7 {w : Cond} (h : w ∈ tables_1_7) (hg : goodWord w = true) : w ∈ BG := List.mem_filter.mpr ⟨List.mem_append_right _ (bm_7 h), hg⟩
theorem bm_8 {w : Cond} (h : w ∈ tables_1_8) : w ∈ tables_1 := List.mem_append_right _ (List.mem_append_right _ (List.mem_append_right _ (List.mem_append_right _ (List.mem_append_right _ (List.mem_append_right _ (List.mem_append_right _ (List.mem_append_left _ h)))))))
theorem bg_8 {w : Cond} (h : w ∈ tables_1_8) (hg : goodWord w = true) : w ∈ BG := List.mem_filter.mpr ⟨List.mem_append_right _ (bm_8 h), hg⟩
theorem bm_9 {w : Cond} (h : w ∈ tables_1_9) : w ∈ tables_1 := List.mem_append_right _ (List.mem_append_right _ (List.mem_append_right _ (List.mem_append_right _ (List.mem_append_right _ (List.mem_append_right _ (List.mem_append_right _ (List.mem_append_right _ (h))))))))
theorem bg_9 {w : Cond} (h : w ∈ tables_1_9) (hg : goodWord w = true) : w ∈ BG := List.mem_filter.mpr ⟨List.mem_append_right _ (bm_9 h), hg⟩
theorem bg_s {w : Cond} (h : w ∈ k2_sels lw_privs) (hg : goodWord w = true) : w ∈ BG := List.mem_filter.mpr ⟨List.mem_append_left _ h, hg⟩
theorem bg_good {w : Cond} (h : w ∈ BG) : goodWord w = true := (List.mem_filter.mp h).2
theorem wd_0 : (Jvm.Cond.initialized "LifeKeysLaw") ∈ BG := bg_1 (List.mem_of_getElem? (i := 0) (by decide +kernel)) (by decide +kernel)
theorem wd_1 : (Jvm.Cond.initialized "LifeKeys") ∈ BG := bg_1 (List.mem_of_getElem? (i := 1) (by decide +kernel)) (by decide +kernel)
theorem wd_2 : (Jvm.Cond.initialized "LifeKeys$Tape") ∈ BG := bg_1 (List.mem_of_getElem? (i := 2) (by decide +kernel)) (by decide +kernel)
theorem wd_3 : (Jvm.Cond.initialized "LifeKeys$Keys") ∈ BG := bg_1 (List.mem_of_getElem? (i := 3) (by decide +kernel)) (by decide +kernel)
theorem wd_4 : (Jvm.Cond.initialized "LifeKeys$Ties") ∈ BG := bg_1 (List.mem_of_getElem? (i := 4) (by decide +kernel)) (by decide +kernel)
theorem wd_5 : (Jvm.Cond.initialized "LifeKeys$Partings") ∈ BG := bg_1 (List.mem_of_getElem? (i := 5) (by decide +kernel)) (by decide +kernel)
theorem wd_6 : (Jvm.Cond.initialized "LifeKeys$Rules") ∈ BG := bg_1 (List.mem_of_getElem? (i := 6) (by decide +kernel)) (by decide +kernel)
theorem wd_7 : (Jvm.Cond.initialized "LifeKeys$Sayings") ∈ BG := bg_1 (List.mem_of_getElem? (i := 7) (by decide +kernel)) (by decide +kernel)
theorem wd_8 : (Jvm.Cond.initialized "LifeKeys$Things") ∈ BG := bg_1 (List.mem_of_getElem? (i := 8) (by decide +kernel)) (by decide +kernel)
theorem wd_9 : (Jvm.Cond.initialized "LifeKeys$Signatures") ∈ BG := bg_1 (List.mem_of_getElem? (i := 9) (by decide +kernel)) (by decide +kernel)
theorem wd_10 : (Jvm.Cond.initialized "LifeKeys$Loans") ∈ BG := bg_1 (List.mem_of_getElem? (i := 10) (by decide +kernel)) (by decide +kernel)
theorem wd_11 : (Jvm.Cond.initialized "LifeKeys$Reach") ∈ BG := bg_1 (List.mem_of_getElem? (i := 11) (by decide +kernel)) (by decide +kernel)
theorem wd_12 : (Jvm.Cond.initialized "LifeKeysModel") ∈ BG := bg_1 (List.mem_of_getElem? (i := 12) (by decide +kernel)) (by decide +kernel)
theorem wd_13 : (Jvm.Cond.initialized "LifeKeys$Field") ∈ BG := bg_1 (List.mem_of_getElem? (i := 13) (by decide +kernel)) (by decide +kernel)
theorem wd_14 : (Jvm.Cond.initialized "java/lang/Throwable") ∈ BG := bg_1 (List.mem_of_getElem? (i := 14) (by decide +kernel)) (by decide +kernel)
theorem wd_15 : (Jvm.Cond.initialized "java/lang/Exception") ∈ BG := bg_1 (List.mem_of_getElem? (i := 15) (by decide +kernel)) (by decide +kernel)
theorem wd_16 : (Jvm.Cond.initialized "java/lang/RuntimeException") ∈ BG := bg_1 (List.mem_of_getElem? (i := 16) (by decide +kernel)) (by decide +kernel)
theorem wd_17 : (Jvm.Cond.initialized "java/util/NoSuchElementException") ∈ BG := bg_1 (List.mem_of_getElem? (i := 17) (by decide +kernel)) (by decide +kernel)
theorem wd_18 : (Jvm.Cond.initialized "java/lang/Intege\x72") ∈ BG := bg_1 (List.mem_of_getElem? (i := 18) (by decide +kernel)) (by decide +kernel)
theorem wd_19 : (Jvm.Cond.initialized "java/lang/Math") ∈ BG := bg_1 (List.mem_of_getElem? (i := 19) (by decide +kernel)) (by decide +kernel)
theorem wd_20 : (Jvm.Cond.initialized "java/lang/System") ∈ BG := bg_1 (List.mem_of_getElem? (i := 20) (by decide +kernel)) (by decide +kernel)
theorem wd_21 : (Jvm.Cond.classLink "LifeKeysLaw" (8 : Nat) "LifeKeys") ∈ BG := bg_1 (List.mem_of_getElem? (i := 21) (by decide +kernel)) (by decide +kernel)
theorem wd_22 : (Jvm.Cond.instantiable "LifeKeys" (17 : Nat)) ∈ BG := bg_1 (List.mem_of_getElem? (i := 22) (by decide +kernel)) (by decide +kernel)
theorem wd_23 : (Jvm.Cond.methodLink "LifeKeysLaw" (15 : Nat) ({ cls := "LifeKeys", name := "<init>", desc := "()V" } : Jvm.MethodName)) ∈ BG := bg_1 (List.mem_of_getElem? (i := 23) (by decide +kernel)) (by decide +kernel)
theorem wd_24 : (Jvm.Cond.instanceMethod ({ cls := "LifeKeys", name := "<init>", desc := "()V" } : Jvm.MethodName)) ∈ BG := bg_1 (List.mem_of_getElem? (i := 24) (by decide +kernel)) (by decide +kernel)
theorem wd_25 : (Jvm.Cond.code ({ cls := "LifeKeys", name := "<init>", desc := "()V" } : Jvm.MethodName) prog_1_method_1_code (1 : Nat) (Option.none : Option Jvm.ClassFile.FieldType)) ∈ BG := bg_1 (List.mem_of_getElem? (i := 25) (by decide +kernel)) (by decide +kernel)
theorem wd_26 : (Jvm.Cond.methodLink "LifeKeys" (1 : Nat) ({ cls := "java/lang/Object", name := "<init>", desc := "()V" } : Jvm.MethodName)) ∈ BG := bg_1 (List.mem_of_getElem? (i := 26) (by decide +kernel)) (by decide +kernel)
theorem wd_27 : (Jvm.Cond.instanceMethod ({ cls := "java/lang/Object", name := "<init>", desc := "()V" } : Jvm.MethodName)) ∈ BG := bg_1 (List.mem_of_getElem? (i := 27) (by decide +kernel)) (by decide +kernel)
theorem wd_28 : (Jvm.Cond.code ({ cls := "java/lang/Object", name := "<init>", desc := "()V" } : Jvm.MethodName) object_method_1_code (1 : Nat) (Option.none : Option Jvm.ClassFile.FieldType)) ∈ BG := bg_1 (List.mem_of_getElem? (i := 28) (by decide +kernel)) (by decide +kernel)
theorem wd_29 : (Jvm.Cond.classLink "LifeKeys" (16 : Nat) "LifeKeys$Tape") ∈ BG := bg_1 (List.mem_of_getElem? (i := 29) (by decide +kernel)) (by decide +kernel)
theorem wd_30 : (Jvm.Cond.instantiable "LifeKeys$Tape" (2 : Nat)) ∈ BG := bg_1 (List.mem_of_getElem? (i := 30) (by decide +kernel)) (by decide +kernel)
theorem wd_31 : (Jvm.Cond.methodLinkNest "LifeKeys" (18 : Nat) ({ cls := "LifeKeys$Tape", name := "<init>", desc := "()V" } : Jvm.MethodName) "LifeKeys") ∈ tables_1 := bm_1 (List.mem_of_getElem? (i := 31) (by decide +kernel))
theorem wd_32 : (Jvm.Cond.instanceMethod ({ cls := "LifeKeys$Tape", name := "<init>", desc := "()V" } : Jvm.MethodName)) ∈ BG := bg_1 (List.mem_of_getElem? (i := 32) (by decide +kernel)) (by decide +kernel)
theorem wd_33 : (Jvm.Cond.code ({ cls := "LifeKeys$Tape", name := "<init>", desc := "()V" } : Jvm.MethodName) prog_10_method_1_code (1 : Nat) (Option.none : Option Jvm.ClassFile.FieldType)) ∈ BG := bg_1 (List.mem_of_getElem? (i := 33) (by decide +kernel)) (by decide +kernel)
theorem wd_34 : (Jvm.Cond.methodLink "LifeKeys$Tape" (1 : Nat) ({ cls := "java/lang/Object", name := "<init>", desc := "()V" } : Jvm.MethodName)) ∈ BG := bg_1 (List.mem_of_getElem? (i := 34) (by decide +kernel)) (by decide +kernel)
theorem wd_35 : (Jvm.Cond.fieldLink "LifeKeys$Tape" (9 : Nat) "LifeKeys$Tape" "bytes" "[I") ∈ BG := bg_1 (List.mem_of_getElem? (i := 35) (by decide +kernel)) (by decide +kernel)
theorem wd_36 : (Jvm.Cond.fieldLinkNest "LifeKeys" (254 : Nat) "LifeKeys$Tape" "bytes" "[I" "LifeKeys") ∈ tables_1 := bm_1 (List.mem_of_getElem? (i := 36) (by decide +kernel))
theorem wd_37 : (Jvm.Cond.fieldLink "LifeKeys$Tape" (13 : Nat) "LifeKeys$Tape" "length" "I") ∈ BG := bg_1 (List.mem_of_getElem? (i := 37) (by decide +kernel)) (by decide +kernel)
theorem wd_38 : (Jvm.Cond.fieldLinkNest "LifeKeys" (107 : Nat) "LifeKeys$Tape" "length" "I" "LifeKeys") ∈ tables_1 := bm_1 (List.mem_of_getElem? (i := 38) (by decide +kernel))
theorem wd_39 : (Jvm.Cond.laysFinal "LifeKeys$Tape" "LifeKeys$Tape" "bytes" "[I") ∈ BG := bg_1 (List.mem_of_getElem? (i := 39) (by decide +kernel)) (by decide +kernel)
theorem wd_41 : (Jvm.Cond.lays "LifeKeys$Tape" "LifeKeys$Tape" "length" "I") ∈ BG := bg_1 (List.mem_of_getElem? (i := 41) (by decide +kernel)) (by decide +kernel)
theorem wd_44 : (Jvm.Cond.arrayClass Jvm.ClassFile.FieldType.int) ∈ BG := bg_1 (List.mem_of_getElem? (i := 44) (by decide +kernel)) (by decide +kernel)
theorem wd_45 : (Jvm.Cond.classLink "LifeKeys" (23 : Nat) "LifeKeys$Keys") ∈ BG := bg_1 (List.mem_of_getElem? (i := 45) (by decide +kernel)) (by decide +kernel)
theorem wd_46 : (Jvm.Cond.instantiable "LifeKeys$Keys" (10 : Nat)) ∈ BG := bg_1 (List.mem_of_getElem? (i := 46) (by decide +kernel)) (by decide +kernel)
theorem wd_47 : (Jvm.Cond.methodLinkNest "LifeKeys" (25 : Nat) ({ cls := "LifeKeys$Keys", name := "<init>", desc := "()V" } : Jvm.MethodName) "LifeKeys") ∈ tables_1 := bm_1 (List.mem_of_getElem? (i := 47) (by decide +kernel))
theorem wd_48 : (Jvm.Cond.instanceMethod ({ cls := "LifeKeys$Keys", name := "<init>", desc := "()V" } : Jvm.MethodName)) ∈ BG := bg_1 (List.mem_of_getElem? (i := 48) (by decide +kernel)) (by decide +kernel)
theorem wd_49 : (Jvm.Cond.code ({ cls := "LifeKeys$Keys", name := "<init>", desc := "()V" } : Jvm.MethodName) prog_3_method_1_code (1 : Nat) (Option.none : Option Jvm.ClassFile.FieldType)) ∈ BG := bg_1 (List.mem_of_getElem? (i := 49) (by decide +kernel)) (by decide +kernel)
theorem wd_50 : (Jvm.Cond.methodLink "LifeKeys$Keys" (3 : Nat) ({ cls := "java/lang/Object", name := "<init>", desc := "()V" } : Jvm.MethodName)) ∈ BG := bg_1 (List.mem_of_getElem? (i := 50) (by decide +kernel)) (by decide +kernel)
theorem wd_51 : (Jvm.Cond.fieldLink "LifeKeys$Keys" (36 : Nat) "LifeKeys$Keys" "count" "I") ∈ BG := bg_1 (List.mem_of_getElem? (i := 51) (by decide +kernel)) (by decide +kernel)
theorem wd_52 : (Jvm.Cond.fieldLinkNest "LifeKeys$Reach" (52 : Nat) "LifeKeys$Keys" "count" "I" "LifeKeys") ∈ tables_1 := bm_1 (List.mem_of_getElem? (i := 52) (by decide +kernel))
theorem wd_53 : (Jvm.Cond.fieldLinkNest "LifeKeys" (395 : Nat) "LifeKeys$Keys" "count" "I" "LifeKeys") ∈ tables_1 := bm_1 (List.mem_of_getElem? (i := 53) (by decide +kernel))
theorem wd_54 : (Jvm.Cond.fieldLink "LifeKeys$Keys" (11 : Nat) "LifeKeys$Keys" "secret" "[I") ∈ BG := bg_1 (List.mem_of_getElem? (i := 54) (by decide +kernel)) (by decide +kernel)
theorem wd_55 : (Jvm.Cond.fieldLinkNest "LifeKeys" (124 : Nat) "LifeKeys$Keys" "secret" "[I" "LifeKeys") ∈ tables_1 := bm_1 (List.mem_of_getElem? (i := 55) (by decide +kernel))
theorem wd_56 : (Jvm.Cond.fieldLink "LifeKeys$Keys" (15 : Nat) "LifeKeys$Keys" "sort" "[I") ∈ BG := bg_1 (List.mem_of_getElem? (i := 56) (by decide +kernel)) (by decide +kernel)
theorem wd_57 : (Jvm.Cond.fieldLinkNest "LifeKeys$Reach" (55 : Nat) "LifeKeys$Keys" "sort" "[I" "LifeKeys") ∈ tables_1 := bm_1 (List.mem_of_getElem? (i := 57) (by decide +kernel))
theorem wd_58 : (Jvm.Cond.fieldLinkNest "LifeKeys" (117 : Nat) "LifeKeys$Keys" "sort" "[I" "LifeKeys") ∈ tables_1 := bm_1 (List.mem_of_getElem? (i := 58) (by decide +kernel))
theorem wd_59 : (Jvm.Cond.fieldLink "LifeKeys$Keys" (18 : Nat) "LifeKeys$Keys" "root" "[I") ∈ BG := bg_1 (List.mem_of_getElem? (i := 59) (by decide +kernel)) (by decide +kernel)
theorem wd_60 : (Jvm.Cond.fieldLinkNest "LifeKeys$Reach" (61 : Nat) "LifeKeys$Keys" "root" "[I" "LifeKeys") ∈ tables_1 := bm_1 (List.mem_of_getElem? (i := 60) (by decide +kernel))
theorem wd_61 : (Jvm.Cond.fieldLinkNest "LifeKeys" (145 : Nat) "LifeKeys$Keys" "root" "[I" "LifeKeys") ∈ tables_1 := bm_1 (List.mem_of_getElem? (i := 61) (by decide +kernel))
theorem wd_62 : (Jvm.Cond.fieldLink "LifeKeys$Keys" (21 : Nat) "LifeKeys$Keys" "day" "[I") ∈ BG := bg_1 (List.mem_of_getElem? (i := 62) (by decide +kernel)) (by decide +kernel)
theorem wd_63 : (Jvm.Cond.fieldLinkNest "LifeKeys$Reach" (58 : Nat) "LifeKeys$Keys" "day" "[I" "LifeKeys") ∈ tables_1 := bm_1 (List.mem_of_getElem? (i := 63) (by decide +kernel))
theorem wd_64 : (Jvm.Cond.fieldLink "LifeKeys$Keys" (24 : Nat) "LifeKeys$Keys" "oldSince" "[I") ∈ BG := bg_1 (List.mem_of_getElem? (i := 64) (by decide +kernel)) (by decide +kernel)
theorem wd_65 : (Jvm.Cond.fieldLinkNest "LifeKeys" (151 : Nat) "LifeKeys$Keys" "oldSince" "[I" "LifeKeys") ∈ tables_1 := bm_1 (List.mem_of_getElem? (i := 65) (by decide +kernel))
theorem wd_66 : (Jvm.Cond.fieldLink "LifeKeys$Keys" (46 : Nat) "LifeKeys$Keys" "burns" "I") ∈ BG := bg_1 (List.mem_of_getElem? (i := 66) (by decide +kernel)) (by decide +kernel)
theorem wd_67 : (Jvm.Cond.fieldLink "LifeKeys$Keys" (27 : Nat) "LifeKeys$Keys" "burnKey" "[I") ∈ BG := bg_1 (List.mem_of_getElem? (i := 67) (by decide +kernel)) (by decide +kernel)
theorem wd_68 : (Jvm.Cond.fieldLink "LifeKeys$Keys" (30 : Nat) "LifeKeys$Keys" "burnFrom" "[I") ∈ BG := bg_1 (List.mem_of_getElem? (i := 68) (by decide +kernel)) (by decide +kernel)
theorem wd_69 : (Jvm.Cond.fieldLink "LifeKeys$Keys" (33 : Nat) "LifeKeys$Keys" "burnTold" "[I") ∈ BG := bg_1 (List.mem_of_getElem? (i := 69) (by decide +kernel)) (by decide +kernel)
theorem wd_70 : (Jvm.Cond.lays "LifeKeys$Keys" "LifeKeys$Keys" "count" "I") ∈ BG := bg_1 (List.mem_of_getElem? (i := 70) (by decide +kernel)) (by decide +kernel)
theorem wd_72 : (Jvm.Cond.laysFinal "LifeKeys$Keys" "LifeKeys$Keys" "secret" "[I") ∈ BG := bg_1 (List.mem_of_getElem? (i := 72) (by decide +kernel)) (by decide +kernel)
theorem wd_74 : (Jvm.Cond.laysFinal "LifeKeys$Keys" "LifeKeys$Keys" "sort" "[I") ∈ BG := bg_1 (List.mem_of_getElem? (i := 74) (by decide +kernel)) (by decide +kernel)
theorem wd_76 : (Jvm.Cond.laysFinal "LifeKeys$Keys" "LifeKeys$Keys" "root" "[I") ∈ BG := bg_1 (List.mem_of_getElem? (i := 76) (by decide +kernel)) (by decide +kernel)
theorem wd_78 : (Jvm.Cond.laysFinal "LifeKeys$Keys" "LifeKeys$Keys" "day" "[I") ∈ BG := bg_1 (List.mem_of_getElem? (i := 78) (by decide +kernel)) (by decide +kernel)
theorem wd_80 : (Jvm.Cond.laysFinal "LifeKeys$Keys" "LifeKeys$Keys" "oldSince" "[I") ∈ BG := bg_1 (List.mem_of_getElem? (i := 80) (by decide +kernel)) (by decide +kernel)
theorem wd_82 : (Jvm.Cond.lays "LifeKeys$Keys" "LifeKeys$Keys" "burns" "I") ∈ BG := bg_1 (List.mem_of_getElem? (i := 82) (by decide +kernel)) (by decide +kernel)
theorem wd_84 : (Jvm.Cond.laysFinal "LifeKeys$Keys" "LifeKeys$Keys" "burnKey" "[I") ∈ BG := bg_1 (List.mem_of_getElem? (i := 84) (by decide +kernel)) (by decide +kernel)
theorem wd_86 : (Jvm.Cond.laysFinal "LifeKeys$Keys" "LifeKeys$Keys" "burnFrom" "[I") ∈ BG := bg_1 (List.mem_of_getElem? (i := 86) (by decide +kernel)) (by decide +kernel)
theorem wd_88 : (Jvm.Cond.laysFinal "LifeKeys$Keys" "LifeKeys$Keys" "burnTold" "[I") ∈ BG := bg_1 (List.mem_of_getElem? (i := 88) (by decide +kernel)) (by decide +kernel)
theorem wd_91 : (Jvm.Cond.classLink "LifeKeys" (30 : Nat) "LifeKeys$Ties") ∈ BG := bg_1 (List.mem_of_getElem? (i := 91) (by decide +kernel)) (by decide +kernel)
theorem wd_92 : (Jvm.Cond.instantiable "LifeKeys$Ties" (10 : Nat)) ∈ BG := bg_1 (List.mem_of_getElem? (i := 92) (by decide +kernel)) (by decide +kernel)
theorem wd_93 : (Jvm.Cond.methodLinkNest "LifeKeys" (32 : Nat) ({ cls := "LifeKeys$Ties", name := "<init>", desc := "()V" } : Jvm.MethodName) "LifeKeys") ∈ tables_1 := bm_1 (List.mem_of_getElem? (i := 93) (by decide +kernel))
theorem wd_94 : (Jvm.Cond.instanceMethod ({ cls := "LifeKeys$Ties", name := "<init>", desc := "()V" } : Jvm.MethodName)) ∈ BG := bg_1 (List.mem_of_getElem? (i := 94) (by decide +kernel)) (by decide +kernel)
theorem wd_95 : (Jvm.Cond.code ({ cls := "LifeKeys$Ties", name := "<init>", desc := "()V" } : Jvm.MethodName) prog_12_method_1_code (1 : Nat) (Option.none : Option Jvm.ClassFile.FieldType)) ∈ BG := bg_1 (List.mem_of_getElem? (i := 95) (by decide +kernel)) (by decide +kernel)
theorem wd_96 : (Jvm.Cond.methodLink "LifeKeys$Ties" (3 : Nat) ({ cls := "java/lang/Object", name := "<init>", desc := "()V" } : Jvm.MethodName)) ∈ BG := bg_1 (List.mem_of_getElem? (i := 96) (by decide +kernel)) (by decide +kernel)
theorem wd_97 : (Jvm.Cond.fieldLink "LifeKeys$Ties" (9 : Nat) "LifeKeys$Ties" "heldNow" "[J") ∈ BG := bg_1 (List.mem_of_getElem? (i := 97) (by decide +kernel)) (by decide +kernel)
theorem wd_98 : (Jvm.Cond.fieldLink "LifeKeys$Ties" (41 : Nat) "LifeKeys$Ties" "turns" "I") ∈ BG := bg_1 (List.mem_of_getElem? (i := 98) (by decide +kernel)) (by decide +kernel)
theorem wd_99 : (Jvm.Cond.fieldLink "LifeKeys$Ties" (15 : Nat) "LifeKeys$Ties" "turnHolde\x72" "[I") ∈ BG := bg_1 (List.mem_of_getElem? (i := 99) (by decide +kernel)) (by decide +kernel)
theorem wd_100 : (Jvm.Cond.fieldLink "LifeKeys$Ties" (19 : Nat) "LifeKeys$Ties" "turnKey" "[I") ∈ BG := bg_1 (List.mem_of_getElem? (i := 100) (by decide +kernel)) (by decide +kernel)
theorem wd_101 : (Jvm.Cond.fieldLink "LifeKeys$Ties" (22 : Nat) "LifeKeys$Ties" "turnDay" "[I") ∈ BG := bg_1 (List.mem_of_getElem? (i := 101) (by decide +kernel)) (by decide +kernel)
theorem wd_102 : (Jvm.Cond.fieldLinkNest "LifeKeys$Reach" (68 : Nat) "LifeKeys$Ties" "wraps" "I" "LifeKeys") ∈ tables_1 := bm_1 (List.mem_of_getElem? (i := 102) (by decide +kernel))
theorem wd_103 : (Jvm.Cond.fieldLink "LifeKeys$Ties" (45 : Nat) "LifeKeys$Ties" "wraps" "I") ∈ BG := bg_1 (List.mem_of_getElem? (i := 103) (by decide +kernel)) (by decide +kernel)
theorem wd_104 : (Jvm.Cond.fieldLink "LifeKeys$Ties" (25 : Nat) "LifeKeys$Ties" "inne\x72" "[I") ∈ BG := bg_1 (List.mem_of_getElem? (i := 104) (by decide +kernel)) (by decide +kernel)
theorem wd_105 : (Jvm.Cond.fieldLinkNest "LifeKeys$Reach" (78 : Nat) "LifeKeys$Ties" "inne\x72" "[I" "LifeKeys") ∈ tables_1 := bm_1 (List.mem_of_getElem? (i := 105) (by decide +kernel))
theorem wd_106 : (Jvm.Cond.fieldLink "LifeKeys$Ties" (28 : Nat) "LifeKeys$Ties" "oute\x72" "[I") ∈ BG := bg_1 (List.mem_of_getElem? (i := 106) (by decide +kernel)) (by decide +kernel)
theorem wd_107 : (Jvm.Cond.fieldLinkNest "LifeKeys$Reach" (75 : Nat) "LifeKeys$Ties" "oute\x72" "[I" "LifeKeys") ∈ tables_1 := bm_1 (List.mem_of_getElem? (i := 107) (by decide +kernel))
theorem wd_108 : (Jvm.Cond.fieldLink "LifeKeys$Ties" (31 : Nat) "LifeKeys$Ties" "wrapped" "[I") ∈ BG := bg_1 (List.mem_of_getElem? (i := 108) (by decide +kernel)) (by decide +kernel)
theorem wd_109 : (Jvm.Cond.fieldLink "LifeKeys$Ties" (34 : Nat) "LifeKeys$Ties" "cutOn" "[I") ∈ BG := bg_1 (List.mem_of_getElem? (i := 109) (by decide +kernel)) (by decide +kernel)
theorem wd_110 : (Jvm.Cond.laysFinal "LifeKeys$Ties" "LifeKeys$Ties" "heldNow" "[J") ∈ BG := bg_1 (List.mem_of_getElem? (i := 110) (by decide +kernel)) (by decide +kernel)
theorem wd_112 : (Jvm.Cond.lays "LifeKeys$Ties" "LifeKeys$Ties" "turns" "I") ∈ BG := bg_1 (List.mem_of_getElem? (i := 112) (by decide +kernel)) (by decide +kernel)
theorem wd_114 : (Jvm.Cond.laysFinal "LifeKeys$Ties" "LifeKeys$Ties" "turnHolde\x72" "[I") ∈ BG := bg_1 (List.mem_of_getElem? (i := 114) (by decide +kernel)) (by decide +kernel)
theorem wd_116 : (Jvm.Cond.laysFinal "LifeKeys$Ties" "LifeKeys$Ties" "turnKey" "[I") ∈ BG := bg_1 (List.mem_of_getElem? (i := 116) (by decide +kernel)) (by decide +kernel)
theorem wd_118 : (Jvm.Cond.laysFinal "LifeKeys$Ties" "LifeKeys$Ties" "turnDay" "[I") ∈ BG := bg_1 (List.mem_of_getElem? (i := 118) (by decide +kernel)) (by decide +kernel)
theorem wd_120 : (Jvm.Cond.lays "LifeKeys$Ties" "LifeKeys$Ties" "wraps" "I") ∈ BG := bg_1 (List.mem_of_getElem? (i := 120) (by decide +kernel)) (by decide +kernel)
theorem wd_122 : (Jvm.Cond.laysFinal "LifeKeys$Ties" "LifeKeys$Ties" "inne\x72" "[I") ∈ BG := bg_1 (List.mem_of_getElem? (i := 122) (by decide +kernel)) (by decide +kernel)
theorem wd_124 : (Jvm.Cond.laysFinal "LifeKeys$Ties" "LifeKeys$Ties" "oute\x72" "[I") ∈ BG := bg_1 (List.mem_of_getElem? (i := 124) (by decide +kernel)) (by decide +kernel)
theorem wd_126 : (Jvm.Cond.laysFinal "LifeKeys$Ties" "LifeKeys$Ties" "wrapped" "[I") ∈ BG := bg_1 (List.mem_of_getElem? (i := 126) (by decide +kernel)) (by decide +kernel)
theorem wd_128 : (Jvm.Cond.laysFinal "LifeKeys$Ties" "LifeKeys$Ties" "cutOn" "[I") ∈ BG := bg_1 (List.mem_of_getElem? (i := 128) (by decide +kernel)) (by decide +kernel)
theorem wd_131 : (Jvm.Cond.arrayClass Jvm.ClassFile.FieldType.long) ∈ BG := bg_1 (List.mem_of_getElem? (i := 131) (by decide +kernel)) (by decide +kernel)
theorem wd_132 : (Jvm.Cond.classLink "LifeKeys" (37 : Nat) "LifeKeys$Partings") ∈ BG := bg_1 (List.mem_of_getElem? (i := 132) (by decide +kernel)) (by decide +kernel)
theorem wd_133 : (Jvm.Cond.instantiable "LifeKeys$Partings" (7 : Nat)) ∈ BG := bg_1 (List.mem_of_getElem? (i := 133) (by decide +kernel)) (by decide +kernel)
theorem wd_134 : (Jvm.Cond.methodLinkNest "LifeKeys" (39 : Nat) ({ cls := "LifeKeys$Partings", name := "<init>", desc := "()V" } : Jvm.MethodName) "LifeKeys") ∈ tables_1 := bm_1 (List.mem_of_getElem? (i := 134) (by decide +kernel))
theorem wd_135 : (Jvm.Cond.instanceMethod ({ cls := "LifeKeys$Partings", name := "<init>", desc := "()V" } : Jvm.MethodName)) ∈ BG := bg_1 (List.mem_of_getElem? (i := 135) (by decide +kernel)) (by decide +kernel)
theorem wd_136 : (Jvm.Cond.code ({ cls := "LifeKeys$Partings", name := "<init>", desc := "()V" } : Jvm.MethodName) prog_5_method_1_code (1 : Nat) (Option.none : Option Jvm.ClassFile.FieldType)) ∈ BG := bg_1 (List.mem_of_getElem? (i := 136) (by decide +kernel)) (by decide +kernel)
theorem wd_137 : (Jvm.Cond.methodLink "LifeKeys$Partings" (3 : Nat) ({ cls := "java/lang/Object", name := "<init>", desc := "()V" } : Jvm.MethodName)) ∈ BG := bg_1 (List.mem_of_getElem? (i := 137) (by decide +kernel)) (by decide +kernel)
theorem wd_138 : (Jvm.Cond.classLink "LifeKeys$Partings" (27 : Nat) "[[I") ∈ BG := bg_1 (List.mem_of_getElem? (i := 138) (by decide +kernel)) (by decide +kernel)
theorem wd_139 : (Jvm.Cond.arrayOver (Jvm.ClassFile.FieldType.array Jvm.ClassFile.FieldType.int)) ∈ tables_1 := bm_1 (List.mem_of_getElem? (i := 139) (by decide +kernel))
theorem wd_140 : (Jvm.Cond.fieldLink "LifeKeys$Partings" (32 : Nat) "LifeKeys$Partings" "count" "I") ∈ BG := bg_1 (List.mem_of_getElem? (i := 140) (by decide +kernel)) (by decide +kernel)
theorem wd_141 : (Jvm.Cond.fieldLinkNest "LifeKeys$Reach" (84 : Nat) "LifeKeys$Partings" "count" "I" "LifeKeys") ∈ tables_1 := bm_1 (List.mem_of_getElem? (i := 141) (by decide +kernel))
theorem wd_142 : (Jvm.Cond.fieldLinkNest "LifeKeys" (398 : Nat) "LifeKeys$Partings" "count" "I" "LifeKeys") ∈ tables_1 := bm_1 (List.mem_of_getElem? (i := 142) (by decide +kernel))
theorem wd_143 : (Jvm.Cond.fieldLink "LifeKeys$Partings" (11 : Nat) "LifeKeys$Partings" "key" "[I") ∈ BG := bg_1 (List.mem_of_getElem? (i := 143) (by decide +kernel)) (by decide +kernel)
theorem wd_144 : (Jvm.Cond.fieldLinkNest "LifeKeys$Reach" (88 : Nat) "LifeKeys$Partings" "key" "[I" "LifeKeys") ∈ tables_1 := bm_1 (List.mem_of_getElem? (i := 144) (by decide +kernel))
theorem wd_145 : (Jvm.Cond.fieldLinkNest "LifeKeys" (191 : Nat) "LifeKeys$Partings" "key" "[I" "LifeKeys") ∈ tables_1 := bm_1 (List.mem_of_getElem? (i := 145) (by decide +kernel))
theorem wd_146 : (Jvm.Cond.fieldLink "LifeKeys$Partings" (15 : Nat) "LifeKeys$Partings" "set" "[I") ∈ BG := bg_1 (List.mem_of_getElem? (i := 146) (by decide +kernel)) (by decide +kernel)
theorem wd_147 : (Jvm.Cond.fieldLinkNest "LifeKeys$Reach" (89 : Nat) "LifeKeys$Partings" "set" "[I" "LifeKeys") ∈ tables_1 := bm_1 (List.mem_of_getElem? (i := 147) (by decide +kernel))
theorem wd_148 : (Jvm.Cond.fieldLinkNest "LifeKeys" (194 : Nat) "LifeKeys$Partings" "set" "[I" "LifeKeys") ∈ tables_1 := bm_1 (List.mem_of_getElem? (i := 148) (by decide +kernel))
theorem wd_149 : (Jvm.Cond.fieldLink "LifeKeys$Partings" (18 : Nat) "LifeKeys$Partings" "need" "[I") ∈ BG := bg_1 (List.mem_of_getElem? (i := 149) (by decide +kernel)) (by decide +kernel)
theorem wd_150 : (Jvm.Cond.fieldLinkNest "LifeKeys$Reach" (90 : Nat) "LifeKeys$Partings" "need" "[I" "LifeKeys") ∈ tables_1 := bm_1 (List.mem_of_getElem? (i := 150) (by decide +kernel))
theorem wd_151 : (Jvm.Cond.fieldLinkNest "LifeKeys" (197 : Nat) "LifeKeys$Partings" "need" "[I" "LifeKeys") ∈ tables_1 := bm_1 (List.mem_of_getElem? (i := 151) (by decide +kernel))
theorem wd_152 : (Jvm.Cond.fieldLink "LifeKeys$Partings" (21 : Nat) "LifeKeys$Partings" "day" "[I") ∈ BG := bg_1 (List.mem_of_getElem? (i := 152) (by decide +kernel)) (by decide +kernel)
theorem wd_153 : (Jvm.Cond.fieldLink "LifeKeys$Partings" (24 : Nat) "LifeKeys$Partings" "out" "[I") ∈ BG := bg_1 (List.mem_of_getElem? (i := 153) (by decide +kernel)) (by decide +kernel)
theorem wd_154 : (Jvm.Cond.fieldLinkNest "LifeKeys" (200 : Nat) "LifeKeys$Partings" "out" "[I" "LifeKeys") ∈ tables_1 := bm_1 (List.mem_of_getElem? (i := 154) (by decide +kernel))
theorem wd_155 : (Jvm.Cond.fieldLink "LifeKeys$Partings" (29 : Nat) "LifeKeys$Partings" "curve" "[[I") ∈ BG := bg_1 (List.mem_of_getElem? (i := 155) (by decide +kernel)) (by decide +kernel)
theorem wd_156 : (Jvm.Cond.lays "LifeKeys$Partings" "LifeKeys$Partings" "count" "I") ∈ BG := bg_1 (List.mem_of_getElem? (i := 156) (by decide +kernel)) (by decide +kernel)
theorem wd_158 : (Jvm.Cond.laysFinal "LifeKeys$Partings" "LifeKeys$Partings" "key" "[I") ∈ BG := bg_1 (List.mem_of_getElem? (i := 158) (by decide +kernel)) (by decide +kernel)
theorem wd_160 : (Jvm.Cond.laysFinal "LifeKeys$Partings" "LifeKeys$Partings" "set" "[I") ∈ BG := bg_1 (List.mem_of_getElem? (i := 160) (by decide +kernel)) (by decide +kernel)
theorem wd_162 : (Jvm.Cond.laysFinal "LifeKeys$Partings" "LifeKeys$Partings" "need" "[I") ∈ BG := bg_1 (List.mem_of_getElem? (i := 162) (by decide +kernel)) (by decide +kernel)
theorem wd_164 : (Jvm.Cond.laysFinal "LifeKeys$Partings" "LifeKeys$Partings" "day" "[I") ∈ BG := bg_1 (List.mem_of_getElem? (i := 164) (by decide +kernel)) (by decide +kernel)
theorem wd_166 : (Jvm.Cond.laysFinal "LifeKeys$Partings" "LifeKeys$Partings" "out" "[I") ∈ BG := bg_1 (List.mem_of_getElem? (i := 166) (by decide +kernel)) (by decide +kernel)
theorem wd_168 : (Jvm.Cond.laysFinal "LifeKeys$Partings" "LifeKeys$Partings" "curve" "[[I") ∈ BG := bg_1 (List.mem_of_getElem? (i := 168) (by decide +kernel)) (by decide +kernel)
theorem wd_171 : (Jvm.Cond.classLink "LifeKeys" (44 : Nat) "LifeKeys$Rules") ∈ BG := bg_1 (List.mem_of_getElem? (i := 171) (by decide +kernel)) (by decide +kernel)
theorem wd_172 : (Jvm.Cond.instantiable "LifeKeys$Rules" (15 : Nat)) ∈ BG := bg_1 (List.mem_of_getElem? (i := 172) (by decide +kernel)) (by decide +kernel)
theorem wd_173 : (Jvm.Cond.methodLinkNest "LifeKeys" (46 : Nat) ({ cls := "LifeKeys$Rules", name := "<init>", desc := "()V" } : Jvm.MethodName) "LifeKeys") ∈ tables_1 := bm_1 (List.mem_of_getElem? (i := 173) (by decide +kernel))
theorem wd_174 : (Jvm.Cond.instanceMethod ({ cls := "LifeKeys$Rules", name := "<init>", desc := "()V" } : Jvm.MethodName)) ∈ BG := bg_1 (List.mem_of_getElem? (i := 174) (by decide +kernel)) (by decide +kernel)
theorem wd_175 : (Jvm.Cond.code ({ cls := "LifeKeys$Rules", name := "<init>", desc := "()V" } : Jvm.MethodName) prog_7_method_1_code (1 : Nat) (Option.none : Option Jvm.ClassFile.FieldType)) ∈ BG := bg_1 (List.mem_of_getElem? (i := 175) (by decide +kernel)) (by decide +kernel)
theorem wd_176 : (Jvm.Cond.methodLink "LifeKeys$Rules" (5 : Nat) ({ cls := "java/lang/Object", name := "<init>", desc := "()V" } : Jvm.MethodName)) ∈ BG := bg_1 (List.mem_of_getElem? (i := 176) (by decide +kernel)) (by decide +kernel)
theorem wd_177 : (Jvm.Cond.fieldLink "LifeKeys$Rules" (30 : Nat) "LifeKeys$Rules" "count" "I") ∈ BG := bg_1 (List.mem_of_getElem? (i := 177) (by decide +kernel)) (by decide +kernel)
theorem wd_178 : (Jvm.Cond.fieldLinkNest "LifeKeys" (402 : Nat) "LifeKeys$Rules" "count" "I" "LifeKeys") ∈ tables_1 := bm_1 (List.mem_of_getElem? (i := 178) (by decide +kernel))
theorem wd_179 : (Jvm.Cond.fieldLink "LifeKeys$Rules" (13 : Nat) "LifeKeys$Rules" "words" "[I") ∈ BG := bg_1 (List.mem_of_getElem? (i := 179) (by decide +kernel)) (by decide +kernel)
theorem wd_180 : (Jvm.Cond.fieldLink "LifeKeys$Rules" (17 : Nat) "LifeKeys$Rules" "lengths" "[I") ∈ BG := bg_1 (List.mem_of_getElem? (i := 180) (by decide +kernel)) (by decide +kernel)
theorem wd_181 : (Jvm.Cond.fieldLink "LifeKeys$Rules" (20 : Nat) "LifeKeys$Rules" "draft" "[I") ∈ BG := bg_1 (List.mem_of_getElem? (i := 181) (by decide +kernel)) (by decide +kernel)
theorem wd_182 : (Jvm.Cond.fieldLink "LifeKeys$Rules" (49 : Nat) "LifeKeys$Rules" "drafted" "I") ∈ BG := bg_1 (List.mem_of_getElem? (i := 182) (by decide +kernel)) (by decide +kernel)
theorem wd_183 : (Jvm.Cond.fieldLink "LifeKeys$Rules" (23 : Nat) "LifeKeys$Rules" "text" "[I") ∈ BG := bg_1 (List.mem_of_getElem? (i := 183) (by decide +kernel)) (by decide +kernel)
theorem wd_184 : (Jvm.Cond.fieldLink "LifeKeys$Rules" (34 : Nat) "LifeKeys$Rules" "at" "I") ∈ BG := bg_1 (List.mem_of_getElem? (i := 184) (by decide +kernel)) (by decide +kernel)
theorem wd_185 : (Jvm.Cond.fieldLink "LifeKeys$Rules" (43 : Nat) "LifeKeys$Rules" "end" "I") ∈ BG := bg_1 (List.mem_of_getElem? (i := 185) (by decide +kernel)) (by decide +kernel)
theorem wd_186 : (Jvm.Cond.fieldLink "LifeKeys$Rules" (46 : Nat) "LifeKeys$Rules" "faultAt" "I") ∈ BG := bg_1 (List.mem_of_getElem? (i := 186) (by decide +kernel)) (by decide +kernel)
theorem wd_187 : (Jvm.Cond.fieldLink "LifeKeys$Rules" (26 : Nat) "LifeKeys$Rules" "stack" "[Z") ∈ BG := bg_1 (List.mem_of_getElem? (i := 187) (by decide +kernel)) (by decide +kernel)
theorem wd_188 : (Jvm.Cond.fieldLink "LifeKeys$Rules" (122 : Nat) "LifeKeys$Rules" "height" "I") ∈ BG := bg_1 (List.mem_of_getElem? (i := 188) (by decide +kernel)) (by decide +kernel)
theorem wd_189 : (Jvm.Cond.fieldLink "LifeKeys$Rules" (110 : Nat) "LifeKeys$Rules" "saidYes" "I") ∈ BG := bg_1 (List.mem_of_getElem? (i := 189) (by decide +kernel)) (by decide +kernel)
theorem wd_190 : (Jvm.Cond.fieldLink "LifeKeys$Rules" (113 : Nat) "LifeKeys$Rules" "saidNo" "I") ∈ BG := bg_1 (List.mem_of_getElem? (i := 190) (by decide +kernel)) (by decide +kernel)
theorem wd_191 : (Jvm.Cond.fieldLink "LifeKeys$Rules" (116 : Nat) "LifeKeys$Rules" "deadOnes" "I") ∈ BG := bg_1 (List.mem_of_getElem? (i := 191) (by decide +kernel)) (by decide +kernel)
theorem wd_192 : (Jvm.Cond.fieldLink "LifeKeys$Rules" (119 : Nat) "LifeKeys$Rules" "waited" "I") ∈ BG := bg_1 (List.mem_of_getElem? (i := 192) (by decide +kernel)) (by decide +kernel)
theorem wd_193 : (Jvm.Cond.lays "LifeKeys$Rules" "LifeKeys$Rules" "count" "I") ∈ BG := bg_1 (List.mem_of_getElem? (i := 193) (by decide +kernel)) (by decide +kernel)
theorem wd_195 : (Jvm.Cond.laysFinal "LifeKeys$Rules" "LifeKeys$Rules" "words" "[I") ∈ BG := bg_1 (List.mem_of_getElem? (i := 195) (by decide +kernel)) (by decide +kernel)
theorem wd_197 : (Jvm.Cond.laysFinal "LifeKeys$Rules" "LifeKeys$Rules" "lengths" "[I") ∈ BG := bg_1 (List.mem_of_getElem? (i := 197) (by decide +kernel)) (by decide +kernel)
theorem wd_199 : (Jvm.Cond.laysFinal "LifeKeys$Rules" "LifeKeys$Rules" "draft" "[I") ∈ BG := bg_1 (List.mem_of_getElem? (i := 199) (by decide +kernel)) (by decide +kernel)
theorem wd_201 : (Jvm.Cond.lays "LifeKeys$Rules" "LifeKeys$Rules" "drafted" "I") ∈ BG := bg_1 (List.mem_of_getElem? (i := 201) (by decide +kernel)) (by decide +kernel)
theorem wd_203 : (Jvm.Cond.lays "LifeKeys$Rules" "LifeKeys$Rules" "text" "[I") ∈ BG := bg_1 (List.mem_of_getElem? (i := 203) (by decide +kernel)) (by decide +kernel)
theorem wd_205 : (Jvm.Cond.lays "LifeKeys$Rules" "LifeKeys$Rules" "at" "I") ∈ BG := bg_1 (List.mem_of_getElem? (i := 205) (by decide +kernel)) (by decide +kernel)
theorem wd_207 : (Jvm.Cond.lays "LifeKeys$Rules" "LifeKeys$Rules" "end" "I") ∈ BG := bg_1 (List.mem_of_getElem? (i := 207) (by decide +kernel)) (by decide +kernel)
theorem wd_209 : (Jvm.Cond.lays "LifeKeys$Rules" "LifeKeys$Rules" "faultAt" "I") ∈ BG := bg_1 (List.mem_of_getElem? (i := 209) (by decide +kernel)) (by decide +kernel)
theorem wd_211 : (Jvm.Cond.laysFinal "LifeKeys$Rules" "LifeKeys$Rules" "stack" "[Z") ∈ BG := bg_1 (List.mem_of_getElem? (i := 211) (by decide +kernel)) (by decide +kernel)
theorem wd_213 : (Jvm.Cond.lays "LifeKeys$Rules" "LifeKeys$Rules" "height" "I") ∈ BG := bg_1 (List.mem_of_getElem? (i := 213) (by decide +kernel)) (by decide +kernel)
theorem wd_215 : (Jvm.Cond.lays "LifeKeys$Rules" "LifeKeys$Rules" "saidYes" "I") ∈ BG := bg_1 (List.mem_of_getElem? (i := 215) (by decide +kernel)) (by decide +kernel)
theorem wd_217 : (Jvm.Cond.lays "LifeKeys$Rules" "LifeKeys$Rules" "saidNo" "I") ∈ BG := bg_1 (List.mem_of_getElem? (i := 217) (by decide +kernel)) (by decide +kernel)
theorem wd_219 : (Jvm.Cond.lays "LifeKeys$Rules" "LifeKeys$Rules" "deadOnes" "I") ∈ BG := bg_1 (List.mem_of_getElem? (i := 219) (by decide +kernel)) (by decide +kernel)
theorem wd_221 : (Jvm.Cond.lays "LifeKeys$Rules" "LifeKeys$Rules" "waited" "I") ∈ BG := bg_1 (List.mem_of_getElem? (i := 221) (by decide +kernel)) (by decide +kernel)
theorem wd_224 : (Jvm.Cond.arrayClass Jvm.ClassFile.FieldType.boolean) ∈ BG := bg_1 (List.mem_of_getElem? (i := 224) (by decide +kernel)) (by decide +kernel)
theorem wd_225 : (Jvm.Cond.classLink "LifeKeys" (51 : Nat) "LifeKeys$Sayings") ∈ BG := bg_1 (List.mem_of_getElem? (i := 225) (by decide +kernel)) (by decide +kernel)
theorem wd_226 : (Jvm.Cond.instantiable "LifeKeys$Sayings" (9 : Nat)) ∈ BG := bg_1 (List.mem_of_getElem? (i := 226) (by decide +kernel)) (by decide +kernel)
theorem wd_227 : (Jvm.Cond.methodLinkNest "LifeKeys" (53 : Nat) ({ cls := "LifeKeys$Sayings", name := "<init>", desc := "()V" } : Jvm.MethodName) "LifeKeys") ∈ tables_1 := bm_1 (List.mem_of_getElem? (i := 227) (by decide +kernel))
theorem wd_228 : (Jvm.Cond.instanceMethod ({ cls := "LifeKeys$Sayings", name := "<init>", desc := "()V" } : Jvm.MethodName)) ∈ BG := bg_1 (List.mem_of_getElem? (i := 228) (by decide +kernel)) (by decide +kernel)
theorem wd_229 : (Jvm.Cond.code ({ cls := "LifeKeys$Sayings", name := "<init>", desc := "()V" } : Jvm.MethodName) prog_8_method_1_code (1 : Nat) (Option.none : Option Jvm.ClassFile.FieldType)) ∈ BG := bg_1 (List.mem_of_getElem? (i := 229) (by decide +kernel)) (by decide +kernel)
theorem wd_230 : (Jvm.Cond.methodLink "LifeKeys$Sayings" (3 : Nat) ({ cls := "java/lang/Object", name := "<init>", desc := "()V" } : Jvm.MethodName)) ∈ BG := bg_1 (List.mem_of_getElem? (i := 230) (by decide +kernel)) (by decide +kernel)
theorem wd_231 : (Jvm.Cond.fieldLink "LifeKeys$Sayings" (36 : Nat) "LifeKeys$Sayings" "count" "I") ∈ BG := bg_1 (List.mem_of_getElem? (i := 231) (by decide +kernel)) (by decide +kernel)
theorem wd_232 : (Jvm.Cond.fieldLinkNest "LifeKeys" (407 : Nat) "LifeKeys$Sayings" "count" "I" "LifeKeys") ∈ tables_1 := bm_1 (List.mem_of_getElem? (i := 232) (by decide +kernel))
theorem wd_233 : (Jvm.Cond.fieldLink "LifeKeys$Sayings" (11 : Nat) "LifeKeys$Sayings" "by" "[I") ∈ BG := bg_1 (List.mem_of_getElem? (i := 233) (by decide +kernel)) (by decide +kernel)
theorem wd_234 : (Jvm.Cond.fieldLink "LifeKeys$Sayings" (15 : Nat) "LifeKeys$Sayings" "about" "[I") ∈ BG := bg_1 (List.mem_of_getElem? (i := 234) (by decide +kernel)) (by decide +kernel)
theorem wd_235 : (Jvm.Cond.fieldLink "LifeKeys$Sayings" (18 : Nat) "LifeKeys$Sayings" "yes" "[Z") ∈ BG := bg_1 (List.mem_of_getElem? (i := 235) (by decide +kernel)) (by decide +kernel)
theorem wd_236 : (Jvm.Cond.fieldLink "LifeKeys$Sayings" (22 : Nat) "LifeKeys$Sayings" "day" "[I") ∈ BG := bg_1 (List.mem_of_getElem? (i := 236) (by decide +kernel)) (by decide +kernel)
theorem wd_237 : (Jvm.Cond.fieldLink "LifeKeys$Sayings" (40 : Nat) "LifeKeys$Sayings" "deathRules" "I") ∈ BG := bg_1 (List.mem_of_getElem? (i := 237) (by decide +kernel)) (by decide +kernel)
theorem wd_238 : (Jvm.Cond.fieldLink "LifeKeys$Sayings" (25 : Nat) "LifeKeys$Sayings" "deathHolde\x72" "[I") ∈ BG := bg_1 (List.mem_of_getElem? (i := 238) (by decide +kernel)) (by decide +kernel)
theorem wd_239 : (Jvm.Cond.fieldLink "LifeKeys$Sayings" (28 : Nat) "LifeKeys$Sayings" "deathRule" "[I") ∈ BG := bg_1 (List.mem_of_getElem? (i := 239) (by decide +kernel)) (by decide +kernel)
theorem wd_240 : (Jvm.Cond.fieldLink "LifeKeys$Sayings" (31 : Nat) "LifeKeys$Sayings" "deathDay" "[I") ∈ BG := bg_2 (List.mem_of_getElem? (i := 0) (by decide +kernel)) (by decide +kernel)
theorem wd_241 : (Jvm.Cond.lays "LifeKeys$Sayings" "LifeKeys$Sayings" "count" "I") ∈ BG := bg_2 (List.mem_of_getElem? (i := 1) (by decide +kernel)) (by decide +kernel)
theorem wd_243 : (Jvm.Cond.laysFinal "LifeKeys$Sayings" "LifeKeys$Sayings" "by" "[I") ∈ BG := bg_2 (List.mem_of_getElem? (i := 3) (by decide +kernel)) (by decide +kernel)
theorem wd_245 : (Jvm.Cond.laysFinal "LifeKeys$Sayings" "LifeKeys$Sayings" "about" "[I") ∈ BG := bg_2 (List.mem_of_getElem? (i := 5) (by decide +kernel)) (by decide +kernel)
theorem wd_247 : (Jvm.Cond.laysFinal "LifeKeys$Sayings" "LifeKeys$Sayings" "yes" "[Z") ∈ BG := bg_2 (List.mem_of_getElem? (i := 7) (by decide +kernel)) (by decide +kernel)
theorem wd_249 : (Jvm.Cond.laysFinal "LifeKeys$Sayings" "LifeKeys$Sayings" "day" "[I") ∈ BG := bg_2 (List.mem_of_getElem? (i := 9) (by decide +kernel)) (by decide +kernel)
theorem wd_251 : (Jvm.Cond.lays "LifeKeys$Sayings" "LifeKeys$Sayings" "deathRules" "I") ∈ BG := bg_2 (List.mem_of_getElem? (i := 11) (by decide +kernel)) (by decide +kernel)
theorem wd_253 : (Jvm.Cond.laysFinal "LifeKeys$Sayings" "LifeKeys$Sayings" "deathHolde\x72" "[I") ∈ BG := bg_2 (List.mem_of_getElem? (i := 13) (by decide +kernel)) (by decide +kernel)
theorem wd_255 : (Jvm.Cond.laysFinal "LifeKeys$Sayings" "LifeKeys$Sayings" "deathRule" "[I") ∈ BG := bg_2 (List.mem_of_getElem? (i := 15) (by decide +kernel)) (by decide +kernel)
theorem wd_257 : (Jvm.Cond.laysFinal "LifeKeys$Sayings" "LifeKeys$Sayings" "deathDay" "[I") ∈ BG := bg_2 (List.mem_of_getElem? (i := 17) (by decide +kernel)) (by decide +kernel)
theorem wd_260 : (Jvm.Cond.classLink "LifeKeys" (58 : Nat) "LifeKeys$Things") ∈ BG := bg_2 (List.mem_of_getElem? (i := 20) (by decide +kernel)) (by decide +kernel)
theorem wd_261 : (Jvm.Cond.instantiable "LifeKeys$Things" (6 : Nat)) ∈ BG := bg_2 (List.mem_of_getElem? (i := 21) (by decide +kernel)) (by decide +kernel)
theorem wd_262 : (Jvm.Cond.methodLinkNest "LifeKeys" (60 : Nat) ({ cls := "LifeKeys$Things", name := "<init>", desc := "()V" } : Jvm.MethodName) "LifeKeys") ∈ tables_1 := bm_2 (List.mem_of_getElem? (i := 22) (by decide +kernel))
theorem wd_263 : (Jvm.Cond.instanceMethod ({ cls := "LifeKeys$Things", name := "<init>", desc := "()V" } : Jvm.MethodName)) ∈ BG := bg_2 (List.mem_of_getElem? (i := 23) (by decide +kernel)) (by decide +kernel)
theorem wd_264 : (Jvm.Cond.code ({ cls := "LifeKeys$Things", name := "<init>", desc := "()V" } : Jvm.MethodName) prog_11_method_1_code (1 : Nat) (Option.none : Option Jvm.ClassFile.FieldType)) ∈ BG := bg_2 (List.mem_of_getElem? (i := 24) (by decide +kernel)) (by decide +kernel)
theorem wd_265 : (Jvm.Cond.methodLink "LifeKeys$Things" (3 : Nat) ({ cls := "java/lang/Object", name := "<init>", desc := "()V" } : Jvm.MethodName)) ∈ BG := bg_2 (List.mem_of_getElem? (i := 25) (by decide +kernel)) (by decide +kernel)
theorem wd_266 : (Jvm.Cond.fieldLink "LifeKeys$Things" (28 : Nat) "LifeKeys$Things" "count" "I") ∈ BG := bg_2 (List.mem_of_getElem? (i := 26) (by decide +kernel)) (by decide +kernel)
theorem wd_267 : (Jvm.Cond.fieldLinkNest "LifeKeys" (403 : Nat) "LifeKeys$Things" "count" "I" "LifeKeys") ∈ tables_1 := bm_2 (List.mem_of_getElem? (i := 27) (by decide +kernel))
theorem wd_268 : (Jvm.Cond.fieldLink "LifeKeys$Things" (11 : Nat) "LifeKeys$Things" "digest" "[I") ∈ BG := bg_2 (List.mem_of_getElem? (i := 28) (by decide +kernel)) (by decide +kernel)
theorem wd_269 : (Jvm.Cond.fieldLinkNest "LifeKeys" (333 : Nat) "LifeKeys$Things" "digest" "[I" "LifeKeys") ∈ tables_1 := bm_2 (List.mem_of_getElem? (i := 29) (by decide +kernel))
theorem wd_270 : (Jvm.Cond.fieldLink "LifeKeys$Things" (15 : Nat) "LifeKeys$Things" "to" "[I") ∈ BG := bg_2 (List.mem_of_getElem? (i := 30) (by decide +kernel)) (by decide +kernel)
theorem wd_271 : (Jvm.Cond.fieldLinkNest "LifeKeys" (421 : Nat) "LifeKeys$Things" "to" "[I" "LifeKeys") ∈ tables_1 := bm_2 (List.mem_of_getElem? (i := 31) (by decide +kernel))
theorem wd_272 : (Jvm.Cond.fieldLink "LifeKeys$Things" (18 : Nat) "LifeKeys$Things" "byRule" "[Z") ∈ BG := bg_2 (List.mem_of_getElem? (i := 32) (by decide +kernel)) (by decide +kernel)
theorem wd_273 : (Jvm.Cond.fieldLink "LifeKeys$Things" (22 : Nat) "LifeKeys$Things" "asked" "[I") ∈ BG := bg_2 (List.mem_of_getElem? (i := 33) (by decide +kernel)) (by decide +kernel)
theorem wd_274 : (Jvm.Cond.fieldLinkNest "LifeKeys" (278 : Nat) "LifeKeys$Things" "asked" "[I" "LifeKeys") ∈ tables_1 := bm_2 (List.mem_of_getElem? (i := 34) (by decide +kernel))
theorem wd_275 : (Jvm.Cond.fieldLink "LifeKeys$Things" (25 : Nat) "LifeKeys$Things" "opened" "[Z") ∈ BG := bg_2 (List.mem_of_getElem? (i := 35) (by decide +kernel)) (by decide +kernel)
theorem wd_276 : (Jvm.Cond.fieldLinkNest "LifeKeys" (293 : Nat) "LifeKeys$Things" "opened" "[Z" "LifeKeys") ∈ tables_1 := bm_2 (List.mem_of_getElem? (i := 36) (by decide +kernel))
theorem wd_277 : (Jvm.Cond.lays "LifeKeys$Things" "LifeKeys$Things" "count" "I") ∈ BG := bg_2 (List.mem_of_getElem? (i := 37) (by decide +kernel)) (by decide +kernel)
theorem wd_279 : (Jvm.Cond.laysFinal "LifeKeys$Things" "LifeKeys$Things" "digest" "[I") ∈ BG := bg_2 (List.mem_of_getElem? (i := 39) (by decide +kernel)) (by decide +kernel)
theorem wd_281 : (Jvm.Cond.laysFinal "LifeKeys$Things" "LifeKeys$Things" "to" "[I") ∈ BG := bg_2 (List.mem_of_getElem? (i := 41) (by decide +kernel)) (by decide +kernel)
theorem wd_283 : (Jvm.Cond.laysFinal "LifeKeys$Things" "LifeKeys$Things" "byRule" "[Z") ∈ BG := bg_2 (List.mem_of_getElem? (i := 43) (by decide +kernel)) (by decide +kernel)
theorem wd_285 : (Jvm.Cond.laysFinal "LifeKeys$Things" "LifeKeys$Things" "asked" "[I") ∈ BG := bg_2 (List.mem_of_getElem? (i := 45) (by decide +kernel)) (by decide +kernel)
theorem wd_287 : (Jvm.Cond.laysFinal "LifeKeys$Things" "LifeKeys$Things" "opened" "[Z") ∈ BG := bg_2 (List.mem_of_getElem? (i := 47) (by decide +kernel)) (by decide +kernel)
theorem wd_290 : (Jvm.Cond.classLink "LifeKeys" (65 : Nat) "LifeKeys$Signatures") ∈ BG := bg_2 (List.mem_of_getElem? (i := 50) (by decide +kernel)) (by decide +kernel)
theorem wd_291 : (Jvm.Cond.instantiable "LifeKeys$Signatures" (7 : Nat)) ∈ BG := bg_2 (List.mem_of_getElem? (i := 51) (by decide +kernel)) (by decide +kernel)
theorem wd_292 : (Jvm.Cond.methodLinkNest "LifeKeys" (67 : Nat) ({ cls := "LifeKeys$Signatures", name := "<init>", desc := "()V" } : Jvm.MethodName) "LifeKeys") ∈ tables_1 := bm_2 (List.mem_of_getElem? (i := 52) (by decide +kernel))
theorem wd_293 : (Jvm.Cond.instanceMethod ({ cls := "LifeKeys$Signatures", name := "<init>", desc := "()V" } : Jvm.MethodName)) ∈ BG := bg_2 (List.mem_of_getElem? (i := 53) (by decide +kernel)) (by decide +kernel)
theorem wd_294 : (Jvm.Cond.code ({ cls := "LifeKeys$Signatures", name := "<init>", desc := "()V" } : Jvm.MethodName) prog_9_method_1_code (1 : Nat) (Option.none : Option Jvm.ClassFile.FieldType)) ∈ BG := bg_2 (List.mem_of_getElem? (i := 54) (by decide +kernel)) (by decide +kernel)
theorem wd_295 : (Jvm.Cond.methodLink "LifeKeys$Signatures" (3 : Nat) ({ cls := "java/lang/Object", name := "<init>", desc := "()V" } : Jvm.MethodName)) ∈ BG := bg_2 (List.mem_of_getElem? (i := 55) (by decide +kernel)) (by decide +kernel)
theorem wd_296 : (Jvm.Cond.fieldLink "LifeKeys$Signatures" (30 : Nat) "LifeKeys$Signatures" "count" "I") ∈ BG := bg_2 (List.mem_of_getElem? (i := 56) (by decide +kernel)) (by decide +kernel)
theorem wd_297 : (Jvm.Cond.fieldLinkNest "LifeKeys" (408 : Nat) "LifeKeys$Signatures" "count" "I" "LifeKeys") ∈ tables_1 := bm_2 (List.mem_of_getElem? (i := 57) (by decide +kernel))
theorem wd_298 : (Jvm.Cond.fieldLink "LifeKeys$Signatures" (11 : Nat) "LifeKeys$Signatures" "\x72" "[I") ∈ BG := bg_2 (List.mem_of_getElem? (i := 58) (by decide +kernel)) (by decide +kernel)
theorem wd_299 : (Jvm.Cond.fieldLinkNest "LifeKeys" (317 : Nat) "LifeKeys$Signatures" "\x72" "[I" "LifeKeys") ∈ tables_1 := bm_2 (List.mem_of_getElem? (i := 59) (by decide +kernel))
theorem wd_300 : (Jvm.Cond.fieldLink "LifeKeys$Signatures" (15 : Nat) "LifeKeys$Signatures" "s" "[I") ∈ BG := bg_2 (List.mem_of_getElem? (i := 60) (by decide +kernel)) (by decide +kernel)
theorem wd_301 : (Jvm.Cond.fieldLinkNest "LifeKeys" (320 : Nat) "LifeKeys$Signatures" "s" "[I" "LifeKeys") ∈ tables_1 := bm_2 (List.mem_of_getElem? (i := 61) (by decide +kernel))
theorem wd_302 : (Jvm.Cond.fieldLink "LifeKeys$Signatures" (18 : Nat) "LifeKeys$Signatures" "key" "[I") ∈ BG := bg_2 (List.mem_of_getElem? (i := 62) (by decide +kernel)) (by decide +kernel)
theorem wd_303 : (Jvm.Cond.fieldLinkNest "LifeKeys" (323 : Nat) "LifeKeys$Signatures" "key" "[I" "LifeKeys") ∈ tables_1 := bm_2 (List.mem_of_getElem? (i := 63) (by decide +kernel))
theorem wd_304 : (Jvm.Cond.fieldLink "LifeKeys$Signatures" (21 : Nat) "LifeKeys$Signatures" "thing" "[I") ∈ BG := bg_2 (List.mem_of_getElem? (i := 64) (by decide +kernel)) (by decide +kernel)
theorem wd_305 : (Jvm.Cond.fieldLinkNest "LifeKeys" (324 : Nat) "LifeKeys$Signatures" "thing" "[I" "LifeKeys") ∈ tables_1 := bm_2 (List.mem_of_getElem? (i := 65) (by decide +kernel))
theorem wd_306 : (Jvm.Cond.fieldLink "LifeKeys$Signatures" (24 : Nat) "LifeKeys$Signatures" "day" "[I") ∈ BG := bg_2 (List.mem_of_getElem? (i := 66) (by decide +kernel)) (by decide +kernel)
theorem wd_307 : (Jvm.Cond.fieldLinkNest "LifeKeys" (327 : Nat) "LifeKeys$Signatures" "day" "[I" "LifeKeys") ∈ tables_1 := bm_2 (List.mem_of_getElem? (i := 67) (by decide +kernel))
theorem wd_308 : (Jvm.Cond.fieldLink "LifeKeys$Signatures" (27 : Nat) "LifeKeys$Signatures" "start" "[I") ∈ BG := bg_2 (List.mem_of_getElem? (i := 68) (by decide +kernel)) (by decide +kernel)
theorem wd_309 : (Jvm.Cond.fieldLinkNest "LifeKeys" (458 : Nat) "LifeKeys$Signatures" "start" "[I" "LifeKeys") ∈ tables_1 := bm_2 (List.mem_of_getElem? (i := 69) (by decide +kernel))
theorem wd_310 : (Jvm.Cond.lays "LifeKeys$Signatures" "LifeKeys$Signatures" "count" "I") ∈ BG := bg_2 (List.mem_of_getElem? (i := 70) (by decide +kernel)) (by decide +kernel)
theorem wd_312 : (Jvm.Cond.laysFinal "LifeKeys$Signatures" "LifeKeys$Signatures" "\x72" "[I") ∈ BG := bg_2 (List.mem_of_getElem? (i := 72) (by decide +kernel)) (by decide +kernel)
theorem wd_314 : (Jvm.Cond.laysFinal "LifeKeys$Signatures" "LifeKeys$Signatures" "s" "[I") ∈ BG := bg_2 (List.mem_of_getElem? (i := 74) (by decide +kernel)) (by decide +kernel)
theorem wd_316 : (Jvm.Cond.laysFinal "LifeKeys$Signatures" "LifeKeys$Signatures" "key" "[I") ∈ BG := bg_2 (List.mem_of_getElem? (i := 76) (by decide +kernel)) (by decide +kernel)
theorem wd_318 : (Jvm.Cond.laysFinal "LifeKeys$Signatures" "LifeKeys$Signatures" "thing" "[I") ∈ BG := bg_2 (List.mem_of_getElem? (i := 78) (by decide +kernel)) (by decide +kernel)
theorem wd_320 : (Jvm.Cond.laysFinal "LifeKeys$Signatures" "LifeKeys$Signatures" "day" "[I") ∈ BG := bg_2 (List.mem_of_getElem? (i := 80) (by decide +kernel)) (by decide +kernel)
theorem wd_322 : (Jvm.Cond.laysFinal "LifeKeys$Signatures" "LifeKeys$Signatures" "start" "[I") ∈ BG := bg_2 (List.mem_of_getElem? (i := 82) (by decide +kernel)) (by decide +kernel)
theorem wd_325 : (Jvm.Cond.classLink "LifeKeys" (72 : Nat) "LifeKeys$Loans") ∈ BG := bg_2 (List.mem_of_getElem? (i := 85) (by decide +kernel)) (by decide +kernel)
theorem wd_326 : (Jvm.Cond.instantiable "LifeKeys$Loans" (6 : Nat)) ∈ BG := bg_2 (List.mem_of_getElem? (i := 86) (by decide +kernel)) (by decide +kernel)
theorem wd_327 : (Jvm.Cond.methodLinkNest "LifeKeys" (74 : Nat) ({ cls := "LifeKeys$Loans", name := "<init>", desc := "()V" } : Jvm.MethodName) "LifeKeys") ∈ tables_1 := bm_2 (List.mem_of_getElem? (i := 87) (by decide +kernel))
theorem wd_328 : (Jvm.Cond.instanceMethod ({ cls := "LifeKeys$Loans", name := "<init>", desc := "()V" } : Jvm.MethodName)) ∈ BG := bg_2 (List.mem_of_getElem? (i := 88) (by decide +kernel)) (by decide +kernel)
theorem wd_329 : (Jvm.Cond.code ({ cls := "LifeKeys$Loans", name := "<init>", desc := "()V" } : Jvm.MethodName) prog_4_method_1_code (1 : Nat) (Option.none : Option Jvm.ClassFile.FieldType)) ∈ BG := bg_2 (List.mem_of_getElem? (i := 89) (by decide +kernel)) (by decide +kernel)
theorem wd_330 : (Jvm.Cond.methodLink "LifeKeys$Loans" (3 : Nat) ({ cls := "java/lang/Object", name := "<init>", desc := "()V" } : Jvm.MethodName)) ∈ BG := bg_2 (List.mem_of_getElem? (i := 90) (by decide +kernel)) (by decide +kernel)
theorem wd_331 : (Jvm.Cond.fieldLink "LifeKeys$Loans" (28 : Nat) "LifeKeys$Loans" "count" "I") ∈ BG := bg_2 (List.mem_of_getElem? (i := 91) (by decide +kernel)) (by decide +kernel)
theorem wd_332 : (Jvm.Cond.fieldLink "LifeKeys$Loans" (11 : Nat) "LifeKeys$Loans" "key" "[I") ∈ BG := bg_2 (List.mem_of_getElem? (i := 92) (by decide +kernel)) (by decide +kernel)
theorem wd_333 : (Jvm.Cond.fieldLinkNest "LifeKeys" (355 : Nat) "LifeKeys$Loans" "key" "[I" "LifeKeys") ∈ tables_1 := bm_2 (List.mem_of_getElem? (i := 93) (by decide +kernel))
theorem wd_334 : (Jvm.Cond.fieldLink "LifeKeys$Loans" (15 : Nat) "LifeKeys$Loans" "to" "[I") ∈ BG := bg_2 (List.mem_of_getElem? (i := 94) (by decide +kernel)) (by decide +kernel)
theorem wd_335 : (Jvm.Cond.fieldLink "LifeKeys$Loans" (18 : Nat) "LifeKeys$Loans" "usesLeft" "[I") ∈ BG := bg_2 (List.mem_of_getElem? (i := 95) (by decide +kernel)) (by decide +kernel)
theorem wd_336 : (Jvm.Cond.fieldLinkNest "LifeKeys" (356 : Nat) "LifeKeys$Loans" "usesLeft" "[I" "LifeKeys") ∈ tables_1 := bm_2 (List.mem_of_getElem? (i := 96) (by decide +kernel))
theorem wd_337 : (Jvm.Cond.fieldLink "LifeKeys$Loans" (21 : Nat) "LifeKeys$Loans" "thing" "[I") ∈ BG := bg_2 (List.mem_of_getElem? (i := 97) (by decide +kernel)) (by decide +kernel)
theorem wd_338 : (Jvm.Cond.fieldLink "LifeKeys$Loans" (24 : Nat) "LifeKeys$Loans" "isBack" "[Z") ∈ BG := bg_2 (List.mem_of_getElem? (i := 98) (by decide +kernel)) (by decide +kernel)
theorem wd_339 : (Jvm.Cond.fieldLinkNest "LifeKeys" (360 : Nat) "LifeKeys$Loans" "isBack" "[Z" "LifeKeys") ∈ tables_1 := bm_2 (List.mem_of_getElem? (i := 99) (by decide +kernel))
theorem wd_340 : (Jvm.Cond.lays "LifeKeys$Loans" "LifeKeys$Loans" "count" "I") ∈ BG := bg_2 (List.mem_of_getElem? (i := 100) (by decide +kernel)) (by decide +kernel)
theorem wd_342 : (Jvm.Cond.laysFinal "LifeKeys$Loans" "LifeKeys$Loans" "key" "[I") ∈ BG := bg_2 (List.mem_of_getElem? (i := 102) (by decide +kernel)) (by decide +kernel)
theorem wd_344 : (Jvm.Cond.laysFinal "LifeKeys$Loans" "LifeKeys$Loans" "to" "[I") ∈ BG := bg_2 (List.mem_of_getElem? (i := 104) (by decide +kernel)) (by decide +kernel)
theorem wd_346 : (Jvm.Cond.laysFinal "LifeKeys$Loans" "LifeKeys$Loans" "usesLeft" "[I") ∈ BG := bg_2 (List.mem_of_getElem? (i := 106) (by decide +kernel)) (by decide +kernel)
theorem wd_348 : (Jvm.Cond.laysFinal "LifeKeys$Loans" "LifeKeys$Loans" "thing" "[I") ∈ BG := bg_2 (List.mem_of_getElem? (i := 108) (by decide +kernel)) (by decide +kernel)
theorem wd_350 : (Jvm.Cond.laysFinal "LifeKeys$Loans" "LifeKeys$Loans" "isBack" "[Z") ∈ BG := bg_2 (List.mem_of_getElem? (i := 110) (by decide +kernel)) (by decide +kernel)
theorem wd_353 : (Jvm.Cond.classLink "LifeKeys" (79 : Nat) "LifeKeys$Reach") ∈ BG := bg_2 (List.mem_of_getElem? (i := 113) (by decide +kernel)) (by decide +kernel)
theorem wd_354 : (Jvm.Cond.instantiable "LifeKeys$Reach" (12 : Nat)) ∈ BG := bg_2 (List.mem_of_getElem? (i := 114) (by decide +kernel)) (by decide +kernel)
theorem wd_355 : (Jvm.Cond.methodLinkNest "LifeKeys" (81 : Nat) ({ cls := "LifeKeys$Reach", name := "<init>", desc := "()V" } : Jvm.MethodName) "LifeKeys") ∈ tables_1 := bm_2 (List.mem_of_getElem? (i := 115) (by decide +kernel))
theorem wd_356 : (Jvm.Cond.instanceMethod ({ cls := "LifeKeys$Reach", name := "<init>", desc := "()V" } : Jvm.MethodName)) ∈ BG := bg_2 (List.mem_of_getElem? (i := 116) (by decide +kernel)) (by decide +kernel)
theorem wd_357 : (Jvm.Cond.code ({ cls := "LifeKeys$Reach", name := "<init>", desc := "()V" } : Jvm.MethodName) prog_6_method_1_code (1 : Nat) (Option.none : Option Jvm.ClassFile.FieldType)) ∈ BG := bg_2 (List.mem_of_getElem? (i := 117) (by decide +kernel)) (by decide +kernel)
theorem wd_358 : (Jvm.Cond.methodLink "LifeKeys$Reach" (7 : Nat) ({ cls := "java/lang/Object", name := "<init>", desc := "()V" } : Jvm.MethodName)) ∈ BG := bg_2 (List.mem_of_getElem? (i := 118) (by decide +kernel)) (by decide +kernel)
theorem wd_359 : (Jvm.Cond.fieldLink "LifeKeys$Reach" (13 : Nat) "LifeKeys$Reach" "held" "[J") ∈ BG := bg_2 (List.mem_of_getElem? (i := 119) (by decide +kernel)) (by decide +kernel)
theorem wd_360 : (Jvm.Cond.fieldLink "LifeKeys$Reach" (21 : Nat) "LifeKeys$Reach" "key" "[I") ∈ BG := bg_2 (List.mem_of_getElem? (i := 120) (by decide +kernel)) (by decide +kernel)
theorem wd_361 : (Jvm.Cond.fieldLink "LifeKeys$Reach" (25 : Nat) "LifeKeys$Reach" "set" "[I") ∈ BG := bg_2 (List.mem_of_getElem? (i := 121) (by decide +kernel)) (by decide +kernel)
theorem wd_362 : (Jvm.Cond.fieldLink "LifeKeys$Reach" (28 : Nat) "LifeKeys$Reach" "need" "[I") ∈ BG := bg_2 (List.mem_of_getElem? (i := 122) (by decide +kernel)) (by decide +kernel)
theorem wd_363 : (Jvm.Cond.fieldLinkNest "LifeKeys" (464 : Nat) "LifeKeys$Reach" "need" "[I" "LifeKeys") ∈ tables_1 := bm_2 (List.mem_of_getElem? (i := 123) (by decide +kernel))
theorem wd_364 : (Jvm.Cond.fieldLink "LifeKeys$Reach" (31 : Nat) "LifeKeys$Reach" "live" "[I") ∈ BG := bg_2 (List.mem_of_getElem? (i := 124) (by decide +kernel)) (by decide +kernel)
theorem wd_365 : (Jvm.Cond.fieldLink "LifeKeys$Reach" (81 : Nat) "LifeKeys$Reach" "liveCount" "I") ∈ BG := bg_2 (List.mem_of_getElem? (i := 125) (by decide +kernel)) (by decide +kernel)
theorem wd_366 : (Jvm.Cond.fieldLink "LifeKeys$Reach" (34 : Nat) "LifeKeys$Reach" "from" "[I") ∈ BG := bg_2 (List.mem_of_getElem? (i := 126) (by decide +kernel)) (by decide +kernel)
theorem wd_367 : (Jvm.Cond.fieldLink "LifeKeys$Reach" (37 : Nat) "LifeKeys$Reach" "to" "[I") ∈ BG := bg_2 (List.mem_of_getElem? (i := 127) (by decide +kernel)) (by decide +kernel)
theorem wd_368 : (Jvm.Cond.fieldLink "LifeKeys$Reach" (48 : Nat) "LifeKeys$Reach" "steps" "I") ∈ BG := bg_2 (List.mem_of_getElem? (i := 128) (by decide +kernel)) (by decide +kernel)
theorem wd_369 : (Jvm.Cond.fieldLink "LifeKeys$Reach" (128 : Nat) "LifeKeys$Reach" "leastSize" "I") ∈ BG := bg_2 (List.mem_of_getElem? (i := 129) (by decide +kernel)) (by decide +kernel)
theorem wd_370 : (Jvm.Cond.fieldLinkNest "LifeKeys" (379 : Nat) "LifeKeys$Reach" "leastSize" "I" "LifeKeys") ∈ tables_1 := bm_2 (List.mem_of_getElem? (i := 130) (by decide +kernel))
theorem wd_371 : (Jvm.Cond.fieldLink "LifeKeys$Reach" (131 : Nat) "LifeKeys$Reach" "leastWays" "I") ∈ BG := bg_2 (List.mem_of_getElem? (i := 131) (by decide +kernel)) (by decide +kernel)
theorem wd_372 : (Jvm.Cond.fieldLinkNest "LifeKeys" (382 : Nat) "LifeKeys$Reach" "leastWays" "I" "LifeKeys") ∈ tables_1 := bm_2 (List.mem_of_getElem? (i := 132) (by decide +kernel))
theorem wd_373 : (Jvm.Cond.fieldLink "LifeKeys$Reach" (134 : Nat) "LifeKeys$Reach" "leastFirst" "I") ∈ BG := bg_2 (List.mem_of_getElem? (i := 133) (by decide +kernel)) (by decide +kernel)
theorem wd_374 : (Jvm.Cond.fieldLinkNest "LifeKeys" (385 : Nat) "LifeKeys$Reach" "leastFirst" "I" "LifeKeys") ∈ tables_1 := bm_2 (List.mem_of_getElem? (i := 134) (by decide +kernel))
theorem wd_375 : (Jvm.Cond.laysFinal "LifeKeys$Reach" "LifeKeys$Reach" "held" "[J") ∈ BG := bg_2 (List.mem_of_getElem? (i := 135) (by decide +kernel)) (by decide +kernel)
theorem wd_377 : (Jvm.Cond.laysFinal "LifeKeys$Reach" "LifeKeys$Reach" "key" "[I") ∈ BG := bg_2 (List.mem_of_getElem? (i := 137) (by decide +kernel)) (by decide +kernel)
theorem wd_379 : (Jvm.Cond.laysFinal "LifeKeys$Reach" "LifeKeys$Reach" "set" "[I") ∈ BG := bg_2 (List.mem_of_getElem? (i := 139) (by decide +kernel)) (by decide +kernel)
theorem wd_381 : (Jvm.Cond.laysFinal "LifeKeys$Reach" "LifeKeys$Reach" "need" "[I") ∈ BG := bg_2 (List.mem_of_getElem? (i := 141) (by decide +kernel)) (by decide +kernel)
theorem wd_383 : (Jvm.Cond.laysFinal "LifeKeys$Reach" "LifeKeys$Reach" "live" "[I") ∈ BG := bg_2 (List.mem_of_getElem? (i := 143) (by decide +kernel)) (by decide +kernel)
theorem wd_385 : (Jvm.Cond.lays "LifeKeys$Reach" "LifeKeys$Reach" "liveCount" "I") ∈ BG := bg_2 (List.mem_of_getElem? (i := 145) (by decide +kernel)) (by decide +kernel)
theorem wd_387 : (Jvm.Cond.laysFinal "LifeKeys$Reach" "LifeKeys$Reach" "from" "[I") ∈ BG := bg_2 (List.mem_of_getElem? (i := 147) (by decide +kernel)) (by decide +kernel)
theorem wd_389 : (Jvm.Cond.laysFinal "LifeKeys$Reach" "LifeKeys$Reach" "to" "[I") ∈ BG := bg_2 (List.mem_of_getElem? (i := 149) (by decide +kernel)) (by decide +kernel)
theorem wd_391 : (Jvm.Cond.lays "LifeKeys$Reach" "LifeKeys$Reach" "steps" "I") ∈ BG := bg_2 (List.mem_of_getElem? (i := 151) (by decide +kernel)) (by decide +kernel)
theorem wd_393 : (Jvm.Cond.lays "LifeKeys$Reach" "LifeKeys$Reach" "leastSize" "I") ∈ BG := bg_2 (List.mem_of_getElem? (i := 153) (by decide +kernel)) (by decide +kernel)
theorem wd_395 : (Jvm.Cond.lays "LifeKeys$Reach" "LifeKeys$Reach" "leastWays" "I") ∈ BG := bg_2 (List.mem_of_getElem? (i := 155) (by decide +kernel)) (by decide +kernel)
theorem wd_397 : (Jvm.Cond.lays "LifeKeys$Reach" "LifeKeys$Reach" "leastFirst" "I") ∈ BG := bg_2 (List.mem_of_getElem? (i := 157) (by decide +kernel)) (by decide +kernel)
theorem wd_400 : (Jvm.Cond.fieldLink "LifeKeys" (86 : Nat) "LifeKeys" "now" "I") ∈ BG := bg_2 (List.mem_of_getElem? (i := 160) (by decide +kernel)) (by decide +kernel)
theorem wd_401 : (Jvm.Cond.fieldLink "LifeKeys" (90 : Nat) "LifeKeys" "holderCount" "I") ∈ BG := bg_2 (List.mem_of_getElem? (i := 161) (by decide +kernel)) (by decide +kernel)
theorem wd_402 : (Jvm.Cond.fieldLink "LifeKeys" (306 : Nat) "LifeKeys" "falseHolders" "I") ∈ BG := bg_2 (List.mem_of_getElem? (i := 162) (by decide +kernel)) (by decide +kernel)
theorem wd_403 : (Jvm.Cond.fieldLink "LifeKeys" (222 : Nat) "LifeKeys" "benchHolders" "I") ∈ BG := bg_2 (List.mem_of_getElem? (i := 163) (by decide +kernel)) (by decide +kernel)
theorem wd_404 : (Jvm.Cond.fieldLink "LifeKeys" (9 : Nat) "LifeKeys" "bench" "[I") ∈ BG := bg_2 (List.mem_of_getElem? (i := 164) (by decide +kernel)) (by decide +kernel)
theorem wd_405 : (Jvm.Cond.fieldLink "LifeKeys" (363 : Nat) "LifeKeys" "fallCount" "I") ∈ BG := bg_2 (List.mem_of_getElem? (i := 165) (by decide +kernel)) (by decide +kernel)
theorem wd_406 : (Jvm.Cond.fieldLink "LifeKeys" (13 : Nat) "LifeKeys" "falls" "[I") ∈ BG := bg_2 (List.mem_of_getElem? (i := 166) (by decide +kernel)) (by decide +kernel)
theorem wd_407 : (Jvm.Cond.fieldLink "LifeKeys" (19 : Nat) "LifeKeys" "tape" "LLifeKeys$Tape;") ∈ BG := bg_2 (List.mem_of_getElem? (i := 167) (by decide +kernel)) (by decide +kernel)
theorem wd_408 : (Jvm.Cond.fieldLink "LifeKeys" (26 : Nat) "LifeKeys" "keys" "LLifeKeys$Keys;") ∈ BG := bg_2 (List.mem_of_getElem? (i := 168) (by decide +kernel)) (by decide +kernel)
theorem wd_409 : (Jvm.Cond.fieldLink "LifeKeys" (33 : Nat) "LifeKeys" "ties" "LLifeKeys$Ties;") ∈ BG := bg_2 (List.mem_of_getElem? (i := 169) (by decide +kernel)) (by decide +kernel)
theorem wd_410 : (Jvm.Cond.fieldLink "LifeKeys" (40 : Nat) "LifeKeys" "partings" "LLifeKeys$Partings;") ∈ BG := bg_2 (List.mem_of_getElem? (i := 170) (by decide +kernel)) (by decide +kernel)
theorem wd_411 : (Jvm.Cond.fieldLink "LifeKeys" (47 : Nat) "LifeKeys" "rules" "LLifeKeys$Rules;") ∈ BG := bg_2 (List.mem_of_getElem? (i := 171) (by decide +kernel)) (by decide +kernel)
theorem wd_412 : (Jvm.Cond.fieldLink "LifeKeys" (54 : Nat) "LifeKeys" "sayings" "LLifeKeys$Sayings;") ∈ BG := bg_2 (List.mem_of_getElem? (i := 172) (by decide +kernel)) (by decide +kernel)
theorem wd_413 : (Jvm.Cond.fieldLink "LifeKeys" (61 : Nat) "LifeKeys" "things" "LLifeKeys$Things;") ∈ BG := bg_2 (List.mem_of_getElem? (i := 173) (by decide +kernel)) (by decide +kernel)
theorem wd_414 : (Jvm.Cond.fieldLink "LifeKeys" (68 : Nat) "LifeKeys" "signatures" "LLifeKeys$Signatures;") ∈ BG := bg_2 (List.mem_of_getElem? (i := 174) (by decide +kernel)) (by decide +kernel)
theorem wd_415 : (Jvm.Cond.fieldLink "LifeKeys" (75 : Nat) "LifeKeys" "loans" "LLifeKeys$Loans;") ∈ BG := bg_2 (List.mem_of_getElem? (i := 175) (by decide +kernel)) (by decide +kernel)
theorem wd_416 : (Jvm.Cond.fieldLink "LifeKeys" (82 : Nat) "LifeKeys" "reach" "LLifeKeys$Reach;") ∈ BG := bg_2 (List.mem_of_getElem? (i := 176) (by decide +kernel)) (by decide +kernel)
theorem wd_417 : (Jvm.Cond.lays "LifeKeys" "LifeKeys" "now" "I") ∈ BG := bg_2 (List.mem_of_getElem? (i := 177) (by decide +kernel)) (by decide +kernel)
theorem wd_419 : (Jvm.Cond.lays "LifeKeys" "LifeKeys" "holderCount" "I") ∈ BG := bg_2 (List.mem_of_getElem? (i := 179) (by decide +kernel)) (by decide +kernel)
theorem wd_421 : (Jvm.Cond.lays "LifeKeys" "LifeKeys" "falseHolders" "I") ∈ BG := bg_2 (List.mem_of_getElem? (i := 181) (by decide +kernel)) (by decide +kernel)
theorem wd_423 : (Jvm.Cond.lays "LifeKeys" "LifeKeys" "benchHolders" "I") ∈ BG := bg_2 (List.mem_of_getElem? (i := 183) (by decide +kernel)) (by decide +kernel)
theorem wd_425 : (Jvm.Cond.laysFinal "LifeKeys" "LifeKeys" "bench" "[I") ∈ BG := bg_2 (List.mem_of_getElem? (i := 185) (by decide +kernel)) (by decide +kernel)
theorem wd_427 : (Jvm.Cond.lays "LifeKeys" "LifeKeys" "fallCount" "I") ∈ BG := bg_2 (List.mem_of_getElem? (i := 187) (by decide +kernel)) (by decide +kernel)
theorem wd_429 : (Jvm.Cond.laysFinal "LifeKeys" "LifeKeys" "falls" "[I") ∈ BG := bg_2 (List.mem_of_getElem? (i := 189) (by decide +kernel)) (by decide +kernel)
theorem wd_431 : (Jvm.Cond.laysFinal "LifeKeys" "LifeKeys" "tape" "LLifeKeys$Tape;") ∈ BG := bg_2 (List.mem_of_getElem? (i := 191) (by decide +kernel)) (by decide +kernel)
theorem wd_433 : (Jvm.Cond.laysFinal "LifeKeys" "LifeKeys" "keys" "LLifeKeys$Keys;") ∈ BG := bg_2 (List.mem_of_getElem? (i := 193) (by decide +kernel)) (by decide +kernel)
theorem wd_435 : (Jvm.Cond.laysFinal "LifeKeys" "LifeKeys" "ties" "LLifeKeys$Ties;") ∈ BG := bg_2 (List.mem_of_getElem? (i := 195) (by decide +kernel)) (by decide +kernel)
theorem wd_437 : (Jvm.Cond.laysFinal "LifeKeys" "LifeKeys" "partings" "LLifeKeys$Partings;") ∈ BG := bg_2 (List.mem_of_getElem? (i := 197) (by decide +kernel)) (by decide +kernel)
theorem wd_439 : (Jvm.Cond.laysFinal "LifeKeys" "LifeKeys" "rules" "LLifeKeys$Rules;") ∈ BG := bg_2 (List.mem_of_getElem? (i := 199) (by decide +kernel)) (by decide +kernel)
theorem wd_441 : (Jvm.Cond.laysFinal "LifeKeys" "LifeKeys" "sayings" "LLifeKeys$Sayings;") ∈ BG := bg_2 (List.mem_of_getElem? (i := 201) (by decide +kernel)) (by decide +kernel)
theorem wd_443 : (Jvm.Cond.laysFinal "LifeKeys" "LifeKeys" "things" "LLifeKeys$Things;") ∈ BG := bg_2 (List.mem_of_getElem? (i := 203) (by decide +kernel)) (by decide +kernel)
theorem wd_445 : (Jvm.Cond.laysFinal "LifeKeys" "LifeKeys" "signatures" "LLifeKeys$Signatures;") ∈ BG := bg_2 (List.mem_of_getElem? (i := 205) (by decide +kernel)) (by decide +kernel)
theorem wd_447 : (Jvm.Cond.laysFinal "LifeKeys" "LifeKeys" "loans" "LLifeKeys$Loans;") ∈ BG := bg_2 (List.mem_of_getElem? (i := 207) (by decide +kernel)) (by decide +kernel)
theorem wd_449 : (Jvm.Cond.laysFinal "LifeKeys" "LifeKeys" "reach" "LLifeKeys$Reach;") ∈ BG := bg_2 (List.mem_of_getElem? (i := 209) (by decide +kernel)) (by decide +kernel)
theorem wd_452 : (Jvm.Cond.methodLink "LifeKeysLaw" (19 : Nat) ({ cls := "LifeKeys", name := "days", desc := "(I)I" } : Jvm.MethodName)) ∈ BG := bg_2 (List.mem_of_getElem? (i := 212) (by decide +kernel)) (by decide +kernel)
theorem wd_453 : (Jvm.Cond.instanceMethod ({ cls := "LifeKeys", name := "days", desc := "(I)I" } : Jvm.MethodName)) ∈ BG := bg_2 (List.mem_of_getElem? (i := 213) (by decide +kernel)) (by decide +kernel)
theorem wd_454 : (Jvm.Cond.selects "LifeKeys" ({ cls := "LifeKeys", name := "days", desc := "(I)I" } : Jvm.MethodName) ({ cls := "LifeKeys", name := "days", desc := "(I)I" } : Jvm.MethodName)) ∈ BG := bg_2 (List.mem_of_getElem? (i := 214) (by decide +kernel)) (by decide +kernel)
theorem wd_455 : (Jvm.Cond.code ({ cls := "LifeKeys", name := "days", desc := "(I)I" } : Jvm.MethodName) prog_1_method_2_code (2 : Nat) (Option.some Jvm.ClassFile.FieldType.int)) ∈ BG := bg_2 (List.mem_of_getElem? (i := 215) (by decide +kernel)) (by decide +kernel)
theorem wd_456 : (Jvm.Cond.methodLink "LifeKeysLaw" (23 : Nat) ({ cls := "LifeKeys", name := "holde\x72", desc := "()I" } : Jvm.MethodName)) ∈ BG := bg_2 (List.mem_of_getElem? (i := 216) (by decide +kernel)) (by decide +kernel)
theorem wd_457 : (Jvm.Cond.instanceMethod ({ cls := "LifeKeys", name := "holde\x72", desc := "()I" } : Jvm.MethodName)) ∈ BG := bg_2 (List.mem_of_getElem? (i := 217) (by decide +kernel)) (by decide +kernel)
theorem wd_458 : (Jvm.Cond.selects "LifeKeys" ({ cls := "LifeKeys", name := "holde\x72", desc := "()I" } : Jvm.MethodName) ({ cls := "LifeKeys", name := "holde\x72", desc := "()I" } : Jvm.MethodName)) ∈ BG := bg_2 (List.mem_of_getElem? (i := 218) (by decide +kernel)) (by decide +kernel)
theorem wd_459 : (Jvm.Cond.code ({ cls := "LifeKeys", name := "holde\x72", desc := "()I" } : Jvm.MethodName) prog_1_method_3_code (1 : Nat) (Option.some Jvm.ClassFile.FieldType.int)) ∈ BG := bg_2 (List.mem_of_getElem? (i := 219) (by decide +kernel)) (by decide +kernel)
theorem wd_460 : (Jvm.Cond.methodLink "LifeKeysLaw" (28 : Nat) ({ cls := "LifeKeys", name := "key", desc := "(IZ)I" } : Jvm.MethodName)) ∈ BG := bg_2 (List.mem_of_getElem? (i := 220) (by decide +kernel)) (by decide +kernel)
theorem wd_461 : (Jvm.Cond.instanceMethod ({ cls := "LifeKeys", name := "key", desc := "(IZ)I" } : Jvm.MethodName)) ∈ BG := bg_2 (List.mem_of_getElem? (i := 221) (by decide +kernel)) (by decide +kernel)
theorem wd_462 : (Jvm.Cond.selects "LifeKeys" ({ cls := "LifeKeys", name := "key", desc := "(IZ)I" } : Jvm.MethodName) ({ cls := "LifeKeys", name := "key", desc := "(IZ)I" } : Jvm.MethodName)) ∈ BG := bg_2 (List.mem_of_getElem? (i := 222) (by decide +kernel)) (by decide +kernel)
theorem wd_463 : (Jvm.Cond.code ({ cls := "LifeKeys", name := "key", desc := "(IZ)I" } : Jvm.MethodName) prog_1_method_4_code (3 : Nat) (Option.some Jvm.ClassFile.FieldType.int)) ∈ BG := bg_2 (List.mem_of_getElem? (i := 223) (by decide +kernel)) (by decide +kernel)
theorem wd_464 : (Jvm.Cond.methodLink "LifeKeys" (93 : Nat) ({ cls := "LifeKeys$Field", name := "isSecret", desc := "(I)Z" } : Jvm.MethodName)) ∈ BG := bg_2 (List.mem_of_getElem? (i := 224) (by decide +kernel)) (by decide +kernel)
theorem wd_465 : (Jvm.Cond.static ({ cls := "LifeKeys$Field", name := "isSecret", desc := "(I)Z" } : Jvm.MethodName)) ∈ BG := bg_2 (List.mem_of_getElem? (i := 225) (by decide +kernel)) (by decide +kernel)
theorem wd_466 : (Jvm.Cond.code ({ cls := "LifeKeys$Field", name := "isSecret", desc := "(I)Z" } : Jvm.MethodName) prog_2_method_3_code (1 : Nat) (Option.some Jvm.ClassFile.FieldType.boolean)) ∈ BG := bg_2 (List.mem_of_getElem? (i := 226) (by decide +kernel)) (by decide +kernel)
theorem wd_467 : (Jvm.Cond.methodLink "LifeKeys" (99 : Nat) ({ cls := "LifeKeys$Keys", name := "add", desc := "(IIII)I" } : Jvm.MethodName)) ∈ BG := bg_2 (List.mem_of_getElem? (i := 227) (by decide +kernel)) (by decide +kernel)
theorem wd_468 : (Jvm.Cond.instanceMethod ({ cls := "LifeKeys$Keys", name := "add", desc := "(IIII)I" } : Jvm.MethodName)) ∈ BG := bg_2 (List.mem_of_getElem? (i := 228) (by decide +kernel)) (by decide +kernel)
theorem wd_469 : (Jvm.Cond.selects "LifeKeys$Keys" ({ cls := "LifeKeys$Keys", name := "add", desc := "(IIII)I" } : Jvm.MethodName) ({ cls := "LifeKeys$Keys", name := "add", desc := "(IIII)I" } : Jvm.MethodName)) ∈ BG := bg_2 (List.mem_of_getElem? (i := 229) (by decide +kernel)) (by decide +kernel)
theorem wd_470 : (Jvm.Cond.code ({ cls := "LifeKeys$Keys", name := "add", desc := "(IIII)I" } : Jvm.MethodName) prog_3_method_3_code (5 : Nat) (Option.some Jvm.ClassFile.FieldType.int)) ∈ BG := bg_2 (List.mem_of_getElem? (i := 230) (by decide +kernel)) (by decide +kernel)
theorem wd_471 : (Jvm.Cond.methodLink "LifeKeysLaw" (33 : Nat) ({ cls := "LifeKeys", name := "feed", desc := "(IIIII)I" } : Jvm.MethodName)) ∈ BG := bg_2 (List.mem_of_getElem? (i := 231) (by decide +kernel)) (by decide +kernel)
theorem wd_472 : (Jvm.Cond.instanceMethod ({ cls := "LifeKeys", name := "feed", desc := "(IIIII)I" } : Jvm.MethodName)) ∈ BG := bg_2 (List.mem_of_getElem? (i := 232) (by decide +kernel)) (by decide +kernel)
theorem wd_473 : (Jvm.Cond.selects "LifeKeys" ({ cls := "LifeKeys", name := "feed", desc := "(IIIII)I" } : Jvm.MethodName) ({ cls := "LifeKeys", name := "feed", desc := "(IIIII)I" } : Jvm.MethodName)) ∈ BG := bg_2 (List.mem_of_getElem? (i := 233) (by decide +kernel)) (by decide +kernel)
theorem wd_474 : (Jvm.Cond.code ({ cls := "LifeKeys", name := "feed", desc := "(IIIII)I" } : Jvm.MethodName) prog_1_method_5_code (7 : Nat) (Option.some Jvm.ClassFile.FieldType.int)) ∈ BG := bg_2 (List.mem_of_getElem? (i := 234) (by decide +kernel)) (by decide +kernel)
theorem wd_475 : (Jvm.Cond.methodLink "LifeKeys" (103 : Nat) ({ cls := "LifeKeys$Tape", name := "bytesIn", desc := "(I)I" } : Jvm.MethodName)) ∈ BG := bg_2 (List.mem_of_getElem? (i := 235) (by decide +kernel)) (by decide +kernel)
theorem wd_476 : (Jvm.Cond.static ({ cls := "LifeKeys$Tape", name := "bytesIn", desc := "(I)I" } : Jvm.MethodName)) ∈ BG := bg_2 (List.mem_of_getElem? (i := 236) (by decide +kernel)) (by decide +kernel)
theorem wd_477 : (Jvm.Cond.code ({ cls := "LifeKeys$Tape", name := "bytesIn", desc := "(I)I" } : Jvm.MethodName) prog_10_method_2_code (3 : Nat) (Option.some Jvm.ClassFile.FieldType.int)) ∈ BG := bg_2 (List.mem_of_getElem? (i := 237) (by decide +kernel)) (by decide +kernel)
theorem wd_478 : (Jvm.Cond.methodLink "LifeKeys" (110 : Nat) ({ cls := "LifeKeys$Tape", name := "append", desc := "(I)V" } : Jvm.MethodName)) ∈ BG := bg_2 (List.mem_of_getElem? (i := 238) (by decide +kernel)) (by decide +kernel)
theorem wd_479 : (Jvm.Cond.instanceMethod ({ cls := "LifeKeys$Tape", name := "append", desc := "(I)V" } : Jvm.MethodName)) ∈ BG := bg_2 (List.mem_of_getElem? (i := 239) (by decide +kernel)) (by decide +kernel)
theorem wd_480 : (Jvm.Cond.selects "LifeKeys$Tape" ({ cls := "LifeKeys$Tape", name := "append", desc := "(I)V" } : Jvm.MethodName) ({ cls := "LifeKeys$Tape", name := "append", desc := "(I)V" } : Jvm.MethodName)) ∈ BG := bg_3 (List.mem_of_getElem? (i := 0) (by decide +kernel)) (by decide +kernel)
theorem wd_481 : (Jvm.Cond.code ({ cls := "LifeKeys$Tape", name := "append", desc := "(I)V" } : Jvm.MethodName) prog_10_method_3_code (4 : Nat) (Option.none : Option Jvm.ClassFile.FieldType)) ∈ BG := bg_3 (List.mem_of_getElem? (i := 1) (by decide +kernel)) (by decide +kernel)
theorem wd_482 : (Jvm.Cond.methodLink "LifeKeysLaw" (38 : Nat) ({ cls := "LifeKeys", name := "end", desc := "(I)Z" } : Jvm.MethodName)) ∈ BG := bg_3 (List.mem_of_getElem? (i := 2) (by decide +kernel)) (by decide +kernel)
theorem wd_483 : (Jvm.Cond.instanceMethod ({ cls := "LifeKeys", name := "end", desc := "(I)Z" } : Jvm.MethodName)) ∈ BG := bg_3 (List.mem_of_getElem? (i := 3) (by decide +kernel)) (by decide +kernel)
theorem wd_484 : (Jvm.Cond.selects "LifeKeys" ({ cls := "LifeKeys", name := "end", desc := "(I)Z" } : Jvm.MethodName) ({ cls := "LifeKeys", name := "end", desc := "(I)Z" } : Jvm.MethodName)) ∈ BG := bg_3 (List.mem_of_getElem? (i := 4) (by decide +kernel)) (by decide +kernel)
theorem wd_485 : (Jvm.Cond.code ({ cls := "LifeKeys", name := "end", desc := "(I)Z" } : Jvm.MethodName) prog_1_method_6_code (2 : Nat) (Option.some Jvm.ClassFile.FieldType.boolean)) ∈ BG := bg_3 (List.mem_of_getElem? (i := 5) (by decide +kernel)) (by decide +kernel)
theorem wd_486 : (Jvm.Cond.methodLink "LifeKeysLaw" (43 : Nat) ({ cls := "LifeKeys", name := "make", desc := "(I)I" } : Jvm.MethodName)) ∈ BG := bg_3 (List.mem_of_getElem? (i := 6) (by decide +kernel)) (by decide +kernel)
theorem wd_487 : (Jvm.Cond.instanceMethod ({ cls := "LifeKeys", name := "make", desc := "(I)I" } : Jvm.MethodName)) ∈ BG := bg_3 (List.mem_of_getElem? (i := 7) (by decide +kernel)) (by decide +kernel)
theorem wd_488 : (Jvm.Cond.selects "LifeKeys" ({ cls := "LifeKeys", name := "make", desc := "(I)I" } : Jvm.MethodName) ({ cls := "LifeKeys", name := "make", desc := "(I)I" } : Jvm.MethodName)) ∈ BG := bg_3 (List.mem_of_getElem? (i := 8) (by decide +kernel)) (by decide +kernel)
theorem wd_489 : (Jvm.Cond.code ({ cls := "LifeKeys", name := "make", desc := "(I)I" } : Jvm.MethodName) prog_1_method_7_code (4 : Nat) (Option.some Jvm.ClassFile.FieldType.int)) ∈ BG := bg_3 (List.mem_of_getElem? (i := 9) (by decide +kernel)) (by decide +kernel)
theorem wd_490 : (Jvm.Cond.methodLink "LifeKeys" (114 : Nat) ({ cls := "LifeKeys$Keys", name := "knows", desc := "(I)Z" } : Jvm.MethodName)) ∈ BG := bg_3 (List.mem_of_getElem? (i := 10) (by decide +kernel)) (by decide +kernel)
theorem wd_491 : (Jvm.Cond.instanceMethod ({ cls := "LifeKeys$Keys", name := "knows", desc := "(I)Z" } : Jvm.MethodName)) ∈ BG := bg_3 (List.mem_of_getElem? (i := 11) (by decide +kernel)) (by decide +kernel)
theorem wd_492 : (Jvm.Cond.selects "LifeKeys$Keys" ({ cls := "LifeKeys$Keys", name := "knows", desc := "(I)Z" } : Jvm.MethodName) ({ cls := "LifeKeys$Keys", name := "knows", desc := "(I)Z" } : Jvm.MethodName)) ∈ BG := bg_3 (List.mem_of_getElem? (i := 12) (by decide +kernel)) (by decide +kernel)
theorem wd_493 : (Jvm.Cond.code ({ cls := "LifeKeys$Keys", name := "knows", desc := "(I)Z" } : Jvm.MethodName) prog_3_method_2_code (2 : Nat) (Option.some Jvm.ClassFile.FieldType.boolean)) ∈ BG := bg_3 (List.mem_of_getElem? (i := 13) (by decide +kernel)) (by decide +kernel)
theorem wd_494 : (Jvm.Cond.methodLink "LifeKeys" (120 : Nat) ({ cls := "LifeKeys$Tape", name := "isName", desc := "()Z" } : Jvm.MethodName)) ∈ BG := bg_3 (List.mem_of_getElem? (i := 14) (by decide +kernel)) (by decide +kernel)
theorem wd_495 : (Jvm.Cond.instanceMethod ({ cls := "LifeKeys$Tape", name := "isName", desc := "()Z" } : Jvm.MethodName)) ∈ BG := bg_3 (List.mem_of_getElem? (i := 15) (by decide +kernel)) (by decide +kernel)
theorem wd_496 : (Jvm.Cond.selects "LifeKeys$Tape" ({ cls := "LifeKeys$Tape", name := "isName", desc := "()Z" } : Jvm.MethodName) ({ cls := "LifeKeys$Tape", name := "isName", desc := "()Z" } : Jvm.MethodName)) ∈ BG := bg_3 (List.mem_of_getElem? (i := 16) (by decide +kernel)) (by decide +kernel)
theorem wd_497 : (Jvm.Cond.code ({ cls := "LifeKeys$Tape", name := "isName", desc := "()Z" } : Jvm.MethodName) prog_10_method_4_code (1 : Nat) (Option.some Jvm.ClassFile.FieldType.boolean)) ∈ BG := bg_3 (List.mem_of_getElem? (i := 17) (by decide +kernel)) (by decide +kernel)
theorem wd_498 : (Jvm.Cond.methodLink "LifeKeys" (127 : Nat) ({ cls := "LifeKeys$Tape", name := "nameNumbe\x72", desc := "()I" } : Jvm.MethodName)) ∈ BG := bg_3 (List.mem_of_getElem? (i := 18) (by decide +kernel)) (by decide +kernel)
theorem wd_499 : (Jvm.Cond.instanceMethod ({ cls := "LifeKeys$Tape", name := "nameNumbe\x72", desc := "()I" } : Jvm.MethodName)) ∈ BG := bg_3 (List.mem_of_getElem? (i := 19) (by decide +kernel)) (by decide +kernel)
theorem wd_500 : (Jvm.Cond.selects "LifeKeys$Tape" ({ cls := "LifeKeys$Tape", name := "nameNumbe\x72", desc := "()I" } : Jvm.MethodName) ({ cls := "LifeKeys$Tape", name := "nameNumbe\x72", desc := "()I" } : Jvm.MethodName)) ∈ BG := bg_3 (List.mem_of_getElem? (i := 20) (by decide +kernel)) (by decide +kernel)
theorem wd_501 : (Jvm.Cond.code ({ cls := "LifeKeys$Tape", name := "nameNumbe\x72", desc := "()I" } : Jvm.MethodName) prog_10_method_5_code (3 : Nat) (Option.some Jvm.ClassFile.FieldType.int)) ∈ BG := bg_3 (List.mem_of_getElem? (i := 21) (by decide +kernel)) (by decide +kernel)
theorem wd_502 : (Jvm.Cond.methodLink "LifeKeys" (131 : Nat) ({ cls := "LifeKeys$Keys", name := "madeSecret", desc := "(II)I" } : Jvm.MethodName)) ∈ BG := bg_3 (List.mem_of_getElem? (i := 22) (by decide +kernel)) (by decide +kernel)
theorem wd_503 : (Jvm.Cond.static ({ cls := "LifeKeys$Keys", name := "madeSecret", desc := "(II)I" } : Jvm.MethodName)) ∈ BG := bg_3 (List.mem_of_getElem? (i := 23) (by decide +kernel)) (by decide +kernel)
theorem wd_504 : (Jvm.Cond.code ({ cls := "LifeKeys$Keys", name := "madeSecret", desc := "(II)I" } : Jvm.MethodName) prog_3_method_4_code (2 : Nat) (Option.some Jvm.ClassFile.FieldType.int)) ∈ BG := bg_3 (List.mem_of_getElem? (i := 24) (by decide +kernel)) (by decide +kernel)
theorem wd_505 : (Jvm.Cond.methodLink "LifeKeysLaw" (56 : Nat) ({ cls := "LifeKeys", name := "told", desc := "(II)I" } : Jvm.MethodName)) ∈ BG := bg_3 (List.mem_of_getElem? (i := 25) (by decide +kernel)) (by decide +kernel)
theorem wd_506 : (Jvm.Cond.instanceMethod ({ cls := "LifeKeys", name := "told", desc := "(II)I" } : Jvm.MethodName)) ∈ BG := bg_3 (List.mem_of_getElem? (i := 26) (by decide +kernel)) (by decide +kernel)
theorem wd_507 : (Jvm.Cond.selects "LifeKeys" ({ cls := "LifeKeys", name := "told", desc := "(II)I" } : Jvm.MethodName) ({ cls := "LifeKeys", name := "told", desc := "(II)I" } : Jvm.MethodName)) ∈ BG := bg_3 (List.mem_of_getElem? (i := 27) (by decide +kernel)) (by decide +kernel)
theorem wd_508 : (Jvm.Cond.code ({ cls := "LifeKeys", name := "told", desc := "(II)I" } : Jvm.MethodName) prog_1_method_9_code (3 : Nat) (Option.some Jvm.ClassFile.FieldType.int)) ∈ BG := bg_3 (List.mem_of_getElem? (i := 28) (by decide +kernel)) (by decide +kernel)
theorem wd_509 : (Jvm.Cond.methodLink "LifeKeys" (148 : Nat) ({ cls := "LifeKeys$Keys", name := "burntFrom", desc := "(II)I" } : Jvm.MethodName)) ∈ BG := bg_3 (List.mem_of_getElem? (i := 29) (by decide +kernel)) (by decide +kernel)
theorem wd_510 : (Jvm.Cond.instanceMethod ({ cls := "LifeKeys$Keys", name := "burntFrom", desc := "(II)I" } : Jvm.MethodName)) ∈ BG := bg_3 (List.mem_of_getElem? (i := 30) (by decide +kernel)) (by decide +kernel)
theorem wd_511 : (Jvm.Cond.selects "LifeKeys$Keys" ({ cls := "LifeKeys$Keys", name := "burntFrom", desc := "(II)I" } : Jvm.MethodName) ({ cls := "LifeKeys$Keys", name := "burntFrom", desc := "(II)I" } : Jvm.MethodName)) ∈ BG := bg_3 (List.mem_of_getElem? (i := 31) (by decide +kernel)) (by decide +kernel)
theorem wd_512 : (Jvm.Cond.code ({ cls := "LifeKeys$Keys", name := "burntFrom", desc := "(II)I" } : Jvm.MethodName) prog_3_method_8_code (5 : Nat) (Option.some Jvm.ClassFile.FieldType.int)) ∈ BG := bg_3 (List.mem_of_getElem? (i := 32) (by decide +kernel)) (by decide +kernel)
theorem wd_513 : (Jvm.Cond.methodLink "LifeKeys" (154 : Nat) ({ cls := "LifeKeys$Partings", name := "lastInForce", desc := "(II)I" } : Jvm.MethodName)) ∈ BG := bg_3 (List.mem_of_getElem? (i := 33) (by decide +kernel)) (by decide +kernel)
theorem wd_514 : (Jvm.Cond.instanceMethod ({ cls := "LifeKeys$Partings", name := "lastInForce", desc := "(II)I" } : Jvm.MethodName)) ∈ BG := bg_3 (List.mem_of_getElem? (i := 34) (by decide +kernel)) (by decide +kernel)
theorem wd_515 : (Jvm.Cond.selects "LifeKeys$Partings" ({ cls := "LifeKeys$Partings", name := "lastInForce", desc := "(II)I" } : Jvm.MethodName) ({ cls := "LifeKeys$Partings", name := "lastInForce", desc := "(II)I" } : Jvm.MethodName)) ∈ BG := bg_3 (List.mem_of_getElem? (i := 35) (by decide +kernel)) (by decide +kernel)
theorem wd_516 : (Jvm.Cond.code ({ cls := "LifeKeys$Partings", name := "lastInForce", desc := "(II)I" } : Jvm.MethodName) prog_5_method_6_code (4 : Nat) (Option.some Jvm.ClassFile.FieldType.int)) ∈ BG := bg_3 (List.mem_of_getElem? (i := 36) (by decide +kernel)) (by decide +kernel)
theorem wd_517 : (Jvm.Cond.methodLink "LifeKeys$Partings" (50 : Nat) ({ cls := "LifeKeys$Partings", name := "inForce", desc := "(II)Z" } : Jvm.MethodName)) ∈ BG := bg_3 (List.mem_of_getElem? (i := 37) (by decide +kernel)) (by decide +kernel)
theorem wd_518 : (Jvm.Cond.instanceMethod ({ cls := "LifeKeys$Partings", name := "inForce", desc := "(II)Z" } : Jvm.MethodName)) ∈ BG := bg_3 (List.mem_of_getElem? (i := 38) (by decide +kernel)) (by decide +kernel)
theorem wd_519 : (Jvm.Cond.selects "LifeKeys$Partings" ({ cls := "LifeKeys$Partings", name := "inForce", desc := "(II)Z" } : Jvm.MethodName) ({ cls := "LifeKeys$Partings", name := "inForce", desc := "(II)Z" } : Jvm.MethodName)) ∈ BG := bg_3 (List.mem_of_getElem? (i := 39) (by decide +kernel)) (by decide +kernel)
theorem wd_520 : (Jvm.Cond.code ({ cls := "LifeKeys$Partings", name := "inForce", desc := "(II)Z" } : Jvm.MethodName) prog_5_method_5_code (3 : Nat) (Option.some Jvm.ClassFile.FieldType.boolean)) ∈ BG := bg_3 (List.mem_of_getElem? (i := 40) (by decide +kernel)) (by decide +kernel)
theorem wd_521 : (Jvm.Cond.methodLink "LifeKeys$Partings" (46 : Nat) ({ cls := "LifeKeys$Partings", name := "knows", desc := "(I)Z" } : Jvm.MethodName)) ∈ BG := bg_3 (List.mem_of_getElem? (i := 41) (by decide +kernel)) (by decide +kernel)
theorem wd_522 : (Jvm.Cond.instanceMethod ({ cls := "LifeKeys$Partings", name := "knows", desc := "(I)Z" } : Jvm.MethodName)) ∈ BG := bg_3 (List.mem_of_getElem? (i := 42) (by decide +kernel)) (by decide +kernel)
theorem wd_523 : (Jvm.Cond.selects "LifeKeys$Partings" ({ cls := "LifeKeys$Partings", name := "knows", desc := "(I)Z" } : Jvm.MethodName) ({ cls := "LifeKeys$Partings", name := "knows", desc := "(I)Z" } : Jvm.MethodName)) ∈ BG := bg_3 (List.mem_of_getElem? (i := 43) (by decide +kernel)) (by decide +kernel)
theorem wd_524 : (Jvm.Cond.code ({ cls := "LifeKeys$Partings", name := "knows", desc := "(I)Z" } : Jvm.MethodName) prog_5_method_2_code (2 : Nat) (Option.some Jvm.ClassFile.FieldType.boolean)) ∈ BG := bg_3 (List.mem_of_getElem? (i := 44) (by decide +kernel)) (by decide +kernel)
theorem wd_525 : (Jvm.Cond.methodLink "LifeKeysLaw" (61 : Nat) ({ cls := "LifeKeys", name := "give", desc := "(II)Z" } : Jvm.MethodName)) ∈ BG := bg_3 (List.mem_of_getElem? (i := 45) (by decide +kernel)) (by decide +kernel)
theorem wd_526 : (Jvm.Cond.instanceMethod ({ cls := "LifeKeys", name := "give", desc := "(II)Z" } : Jvm.MethodName)) ∈ BG := bg_3 (List.mem_of_getElem? (i := 46) (by decide +kernel)) (by decide +kernel)
theorem wd_527 : (Jvm.Cond.selects "LifeKeys" ({ cls := "LifeKeys", name := "give", desc := "(II)Z" } : Jvm.MethodName) ({ cls := "LifeKeys", name := "give", desc := "(II)Z" } : Jvm.MethodName)) ∈ BG := bg_3 (List.mem_of_getElem? (i := 47) (by decide +kernel)) (by decide +kernel)
theorem wd_528 : (Jvm.Cond.code ({ cls := "LifeKeys", name := "give", desc := "(II)Z" } : Jvm.MethodName) prog_1_method_10_code (3 : Nat) (Option.some Jvm.ClassFile.FieldType.boolean)) ∈ BG := bg_3 (List.mem_of_getElem? (i := 48) (by decide +kernel)) (by decide +kernel)
theorem wd_529 : (Jvm.Cond.methodLink "LifeKeys" (157 : Nat) ({ cls := "LifeKeys", name := "isHolde\x72", desc := "(I)Z" } : Jvm.MethodName)) ∈ BG := bg_3 (List.mem_of_getElem? (i := 49) (by decide +kernel)) (by decide +kernel)
theorem wd_531 : (Jvm.Cond.instanceMethod ({ cls := "LifeKeys", name := "isHolde\x72", desc := "(I)Z" } : Jvm.MethodName)) ∈ BG := bg_3 (List.mem_of_getElem? (i := 51) (by decide +kernel)) (by decide +kernel)
theorem wd_532 : (Jvm.Cond.code ({ cls := "LifeKeys", name := "isHolde\x72", desc := "(I)Z" } : Jvm.MethodName) prog_1_method_53_code (2 : Nat) (Option.some Jvm.ClassFile.FieldType.boolean)) ∈ BG := bg_3 (List.mem_of_getElem? (i := 52) (by decide +kernel)) (by decide +kernel)
theorem wd_533 : (Jvm.Cond.methodLink "LifeKeys" (160 : Nat) ({ cls := "LifeKeys$Ties", name := "hasNow", desc := "(II)Z" } : Jvm.MethodName)) ∈ BG := bg_3 (List.mem_of_getElem? (i := 53) (by decide +kernel)) (by decide +kernel)
theorem wd_534 : (Jvm.Cond.instanceMethod ({ cls := "LifeKeys$Ties", name := "hasNow", desc := "(II)Z" } : Jvm.MethodName)) ∈ BG := bg_3 (List.mem_of_getElem? (i := 54) (by decide +kernel)) (by decide +kernel)
theorem wd_535 : (Jvm.Cond.selects "LifeKeys$Ties" ({ cls := "LifeKeys$Ties", name := "hasNow", desc := "(II)Z" } : Jvm.MethodName) ({ cls := "LifeKeys$Ties", name := "hasNow", desc := "(II)Z" } : Jvm.MethodName)) ∈ BG := bg_3 (List.mem_of_getElem? (i := 55) (by decide +kernel)) (by decide +kernel)
theorem wd_536 : (Jvm.Cond.code ({ cls := "LifeKeys$Ties", name := "hasNow", desc := "(II)Z" } : Jvm.MethodName) prog_12_method_2_code (3 : Nat) (Option.some Jvm.ClassFile.FieldType.boolean)) ∈ BG := bg_3 (List.mem_of_getElem? (i := 56) (by decide +kernel)) (by decide +kernel)
theorem wd_537 : (Jvm.Cond.methodLinkNest "LifeKeys$Ties" (37 : Nat) ({ cls := "LifeKeys", name := "hasKey", desc := "(JI)Z" } : Jvm.MethodName) "LifeKeys") ∈ tables_1 := bm_3 (List.mem_of_getElem? (i := 57) (by decide +kernel))
theorem wd_538 : (Jvm.Cond.static ({ cls := "LifeKeys", name := "hasKey", desc := "(JI)Z" } : Jvm.MethodName)) ∈ BG := bg_3 (List.mem_of_getElem? (i := 58) (by decide +kernel)) (by decide +kernel)
theorem wd_539 : (Jvm.Cond.code ({ cls := "LifeKeys", name := "hasKey", desc := "(JI)Z" } : Jvm.MethodName) prog_1_method_61_code (3 : Nat) (Option.some Jvm.ClassFile.FieldType.boolean)) ∈ BG := bg_3 (List.mem_of_getElem? (i := 59) (by decide +kernel)) (by decide +kernel)
theorem wd_540 : (Jvm.Cond.methodLink "LifeKeys" (164 : Nat) ({ cls := "LifeKeys$Ties", name := "turn", desc := "(III)Z" } : Jvm.MethodName)) ∈ BG := bg_3 (List.mem_of_getElem? (i := 60) (by decide +kernel)) (by decide +kernel)
theorem wd_541 : (Jvm.Cond.instanceMethod ({ cls := "LifeKeys$Ties", name := "turn", desc := "(III)Z" } : Jvm.MethodName)) ∈ BG := bg_3 (List.mem_of_getElem? (i := 61) (by decide +kernel)) (by decide +kernel)
theorem wd_542 : (Jvm.Cond.selects "LifeKeys$Ties" ({ cls := "LifeKeys$Ties", name := "turn", desc := "(III)Z" } : Jvm.MethodName) ({ cls := "LifeKeys$Ties", name := "turn", desc := "(III)Z" } : Jvm.MethodName)) ∈ BG := bg_3 (List.mem_of_getElem? (i := 62) (by decide +kernel)) (by decide +kernel)
theorem wd_543 : (Jvm.Cond.code ({ cls := "LifeKeys$Ties", name := "turn", desc := "(III)Z" } : Jvm.MethodName) prog_12_method_3_code (4 : Nat) (Option.some Jvm.ClassFile.FieldType.boolean)) ∈ BG := bg_3 (List.mem_of_getElem? (i := 63) (by decide +kernel)) (by decide +kernel)
theorem wd_544 : (Jvm.Cond.methodLink "LifeKeysLaw" (66 : Nat) ({ cls := "LifeKeys", name := "take", desc := "(II)Z" } : Jvm.MethodName)) ∈ BG := bg_3 (List.mem_of_getElem? (i := 64) (by decide +kernel)) (by decide +kernel)
theorem wd_545 : (Jvm.Cond.instanceMethod ({ cls := "LifeKeys", name := "take", desc := "(II)Z" } : Jvm.MethodName)) ∈ BG := bg_3 (List.mem_of_getElem? (i := 65) (by decide +kernel)) (by decide +kernel)
theorem wd_546 : (Jvm.Cond.selects "LifeKeys" ({ cls := "LifeKeys", name := "take", desc := "(II)Z" } : Jvm.MethodName) ({ cls := "LifeKeys", name := "take", desc := "(II)Z" } : Jvm.MethodName)) ∈ BG := bg_3 (List.mem_of_getElem? (i := 66) (by decide +kernel)) (by decide +kernel)
theorem wd_547 : (Jvm.Cond.code ({ cls := "LifeKeys", name := "take", desc := "(II)Z" } : Jvm.MethodName) prog_1_method_11_code (3 : Nat) (Option.some Jvm.ClassFile.FieldType.boolean)) ∈ BG := bg_3 (List.mem_of_getElem? (i := 67) (by decide +kernel)) (by decide +kernel)
theorem wd_548 : (Jvm.Cond.methodLink "LifeKeysLaw" (70 : Nat) ({ cls := "LifeKeys", name := "wrap", desc := "(II)I" } : Jvm.MethodName)) ∈ BG := bg_3 (List.mem_of_getElem? (i := 68) (by decide +kernel)) (by decide +kernel)
theorem wd_549 : (Jvm.Cond.instanceMethod ({ cls := "LifeKeys", name := "wrap", desc := "(II)I" } : Jvm.MethodName)) ∈ BG := bg_3 (List.mem_of_getElem? (i := 69) (by decide +kernel)) (by decide +kernel)
theorem wd_550 : (Jvm.Cond.selects "LifeKeys" ({ cls := "LifeKeys", name := "wrap", desc := "(II)I" } : Jvm.MethodName) ({ cls := "LifeKeys", name := "wrap", desc := "(II)I" } : Jvm.MethodName)) ∈ BG := bg_3 (List.mem_of_getElem? (i := 70) (by decide +kernel)) (by decide +kernel)
theorem wd_551 : (Jvm.Cond.code ({ cls := "LifeKeys", name := "wrap", desc := "(II)I" } : Jvm.MethodName) prog_1_method_12_code (3 : Nat) (Option.some Jvm.ClassFile.FieldType.int)) ∈ BG := bg_3 (List.mem_of_getElem? (i := 71) (by decide +kernel)) (by decide +kernel)
theorem wd_552 : (Jvm.Cond.methodLink "LifeKeys" (168 : Nat) ({ cls := "LifeKeys$Ties", name := "addWrap", desc := "(III)I" } : Jvm.MethodName)) ∈ BG := bg_3 (List.mem_of_getElem? (i := 72) (by decide +kernel)) (by decide +kernel)
theorem wd_553 : (Jvm.Cond.instanceMethod ({ cls := "LifeKeys$Ties", name := "addWrap", desc := "(III)I" } : Jvm.MethodName)) ∈ BG := bg_3 (List.mem_of_getElem? (i := 73) (by decide +kernel)) (by decide +kernel)
theorem wd_554 : (Jvm.Cond.selects "LifeKeys$Ties" ({ cls := "LifeKeys$Ties", name := "addWrap", desc := "(III)I" } : Jvm.MethodName) ({ cls := "LifeKeys$Ties", name := "addWrap", desc := "(III)I" } : Jvm.MethodName)) ∈ BG := bg_3 (List.mem_of_getElem? (i := 74) (by decide +kernel)) (by decide +kernel)
theorem wd_555 : (Jvm.Cond.code ({ cls := "LifeKeys$Ties", name := "addWrap", desc := "(III)I" } : Jvm.MethodName) prog_12_method_5_code (4 : Nat) (Option.some Jvm.ClassFile.FieldType.int)) ∈ BG := bg_3 (List.mem_of_getElem? (i := 75) (by decide +kernel)) (by decide +kernel)
theorem wd_556 : (Jvm.Cond.methodLink "LifeKeysLaw" (74 : Nat) ({ cls := "LifeKeys", name := "cut", desc := "(I)Z" } : Jvm.MethodName)) ∈ BG := bg_3 (List.mem_of_getElem? (i := 76) (by decide +kernel)) (by decide +kernel)
theorem wd_557 : (Jvm.Cond.instanceMethod ({ cls := "LifeKeys", name := "cut", desc := "(I)Z" } : Jvm.MethodName)) ∈ BG := bg_3 (List.mem_of_getElem? (i := 77) (by decide +kernel)) (by decide +kernel)
theorem wd_558 : (Jvm.Cond.selects "LifeKeys" ({ cls := "LifeKeys", name := "cut", desc := "(I)Z" } : Jvm.MethodName) ({ cls := "LifeKeys", name := "cut", desc := "(I)Z" } : Jvm.MethodName)) ∈ BG := bg_3 (List.mem_of_getElem? (i := 78) (by decide +kernel)) (by decide +kernel)
theorem wd_559 : (Jvm.Cond.code ({ cls := "LifeKeys", name := "cut", desc := "(I)Z" } : Jvm.MethodName) prog_1_method_13_code (2 : Nat) (Option.some Jvm.ClassFile.FieldType.boolean)) ∈ BG := bg_3 (List.mem_of_getElem? (i := 79) (by decide +kernel)) (by decide +kernel)
theorem wd_560 : (Jvm.Cond.methodLink "LifeKeys" (172 : Nat) ({ cls := "LifeKeys$Ties", name := "cutWrap", desc := "(II)Z" } : Jvm.MethodName)) ∈ BG := bg_3 (List.mem_of_getElem? (i := 80) (by decide +kernel)) (by decide +kernel)
theorem wd_561 : (Jvm.Cond.instanceMethod ({ cls := "LifeKeys$Ties", name := "cutWrap", desc := "(II)Z" } : Jvm.MethodName)) ∈ BG := bg_3 (List.mem_of_getElem? (i := 81) (by decide +kernel)) (by decide +kernel)
theorem wd_562 : (Jvm.Cond.selects "LifeKeys$Ties" ({ cls := "LifeKeys$Ties", name := "cutWrap", desc := "(II)Z" } : Jvm.MethodName) ({ cls := "LifeKeys$Ties", name := "cutWrap", desc := "(II)Z" } : Jvm.MethodName)) ∈ BG := bg_3 (List.mem_of_getElem? (i := 82) (by decide +kernel)) (by decide +kernel)
theorem wd_563 : (Jvm.Cond.code ({ cls := "LifeKeys$Ties", name := "cutWrap", desc := "(II)Z" } : Jvm.MethodName) prog_12_method_6_code (3 : Nat) (Option.some Jvm.ClassFile.FieldType.boolean)) ∈ BG := bg_3 (List.mem_of_getElem? (i := 83) (by decide +kernel)) (by decide +kernel)
theorem wd_564 : (Jvm.Cond.methodLink "LifeKeysLaw" (80 : Nat) ({ cls := "LifeKeys", name := "part", desc := "(IIIJ)I" } : Jvm.MethodName)) ∈ BG := bg_3 (List.mem_of_getElem? (i := 84) (by decide +kernel)) (by decide +kernel)
theorem wd_565 : (Jvm.Cond.instanceMethod ({ cls := "LifeKeys", name := "part", desc := "(IIIJ)I" } : Jvm.MethodName)) ∈ BG := bg_3 (List.mem_of_getElem? (i := 85) (by decide +kernel)) (by decide +kernel)
theorem wd_566 : (Jvm.Cond.selects "LifeKeys" ({ cls := "LifeKeys", name := "part", desc := "(IIIJ)I" } : Jvm.MethodName) ({ cls := "LifeKeys", name := "part", desc := "(IIIJ)I" } : Jvm.MethodName)) ∈ BG := bg_3 (List.mem_of_getElem? (i := 86) (by decide +kernel)) (by decide +kernel)
theorem wd_567 : (Jvm.Cond.code ({ cls := "LifeKeys", name := "part", desc := "(IIIJ)I" } : Jvm.MethodName) prog_1_method_14_code (7 : Nat) (Option.some Jvm.ClassFile.FieldType.int)) ∈ BG := bg_3 (List.mem_of_getElem? (i := 87) (by decide +kernel)) (by decide +kernel)
theorem wd_568 : (Jvm.Cond.methodLink "LifeKeys" (175 : Nat) ({ cls := "LifeKeys", name := "isSet", desc := "(I)Z" } : Jvm.MethodName)) ∈ BG := bg_3 (List.mem_of_getElem? (i := 88) (by decide +kernel)) (by decide +kernel)
theorem wd_570 : (Jvm.Cond.instanceMethod ({ cls := "LifeKeys", name := "isSet", desc := "(I)Z" } : Jvm.MethodName)) ∈ BG := bg_3 (List.mem_of_getElem? (i := 90) (by decide +kernel)) (by decide +kernel)
theorem wd_571 : (Jvm.Cond.code ({ cls := "LifeKeys", name := "isSet", desc := "(I)Z" } : Jvm.MethodName) prog_1_method_55_code (2 : Nat) (Option.some Jvm.ClassFile.FieldType.boolean)) ∈ BG := bg_3 (List.mem_of_getElem? (i := 91) (by decide +kernel)) (by decide +kernel)
theorem wd_572 : (Jvm.Cond.methodLink "LifeKeys" (415 : Nat) ({ cls := "LifeKeys", name := "allHolders", desc := "()I" } : Jvm.MethodName)) ∈ BG := bg_3 (List.mem_of_getElem? (i := 92) (by decide +kernel)) (by decide +kernel)
theorem wd_574 : (Jvm.Cond.instanceMethod ({ cls := "LifeKeys", name := "allHolders", desc := "()I" } : Jvm.MethodName)) ∈ BG := bg_3 (List.mem_of_getElem? (i := 94) (by decide +kernel)) (by decide +kernel)
theorem wd_575 : (Jvm.Cond.code ({ cls := "LifeKeys", name := "allHolders", desc := "()I" } : Jvm.MethodName) prog_1_method_54_code (1 : Nat) (Option.some Jvm.ClassFile.FieldType.int)) ∈ BG := bg_3 (List.mem_of_getElem? (i := 95) (by decide +kernel)) (by decide +kernel)
theorem wd_576 : (Jvm.Cond.methodLink "LifeKeys" (178 : Nat) ({ cls := "java/lang/Intege\x72", name := "bitCount", desc := "(I)I" } : Jvm.MethodName)) ∈ BG := bg_3 (List.mem_of_getElem? (i := 96) (by decide +kernel)) (by decide +kernel)
theorem wd_577 : (Jvm.Cond.static ({ cls := "java/lang/Intege\x72", name := "bitCount", desc := "(I)I" } : Jvm.MethodName)) ∈ BG := bg_3 (List.mem_of_getElem? (i := 97) (by decide +kernel)) (by decide +kernel)
theorem wd_578 : (Jvm.Cond.code ({ cls := "java/lang/Intege\x72", name := "bitCount", desc := "(I)I" } : Jvm.MethodName) prog_17_method_49_code (1 : Nat) (Option.some Jvm.ClassFile.FieldType.int)) ∈ BG := bg_3 (List.mem_of_getElem? (i := 98) (by decide +kernel)) (by decide +kernel)
theorem wd_579 : (Jvm.Cond.constant "java/lang/Intege\x72" (265 : Nat) (1431655765 : Int32)) ∈ BG := bg_3 (List.mem_of_getElem? (i := 99) (by decide +kernel)) (by decide +kernel)
theorem wd_580 : (Jvm.Cond.constant "java/lang/Intege\x72" (266 : Nat) (858993459 : Int32)) ∈ BG := bg_3 (List.mem_of_getElem? (i := 100) (by decide +kernel)) (by decide +kernel)
theorem wd_581 : (Jvm.Cond.constant "java/lang/Intege\x72" (267 : Nat) (252645135 : Int32)) ∈ BG := bg_3 (List.mem_of_getElem? (i := 101) (by decide +kernel)) (by decide +kernel)
theorem wd_582 : (Jvm.Cond.methodLink "LifeKeys" (183 : Nat) ({ cls := "LifeKeys$Partings", name := "add", desc := "(IIII)I" } : Jvm.MethodName)) ∈ BG := bg_3 (List.mem_of_getElem? (i := 102) (by decide +kernel)) (by decide +kernel)
theorem wd_583 : (Jvm.Cond.instanceMethod ({ cls := "LifeKeys$Partings", name := "add", desc := "(IIII)I" } : Jvm.MethodName)) ∈ BG := bg_3 (List.mem_of_getElem? (i := 103) (by decide +kernel)) (by decide +kernel)
theorem wd_584 : (Jvm.Cond.selects "LifeKeys$Partings" ({ cls := "LifeKeys$Partings", name := "add", desc := "(IIII)I" } : Jvm.MethodName) ({ cls := "LifeKeys$Partings", name := "add", desc := "(IIII)I" } : Jvm.MethodName)) ∈ BG := bg_3 (List.mem_of_getElem? (i := 104) (by decide +kernel)) (by decide +kernel)
theorem wd_585 : (Jvm.Cond.code ({ cls := "LifeKeys$Partings", name := "add", desc := "(IIII)I" } : Jvm.MethodName) prog_5_method_3_code (5 : Nat) (Option.some Jvm.ClassFile.FieldType.int)) ∈ BG := bg_3 (List.mem_of_getElem? (i := 105) (by decide +kernel)) (by decide +kernel)
theorem wd_586 : (Jvm.Cond.methodLink "LifeKeys" (184 : Nat) ({ cls := "LifeKeys$Partings", name := "drawCurve", desc := "(IIJ)V" } : Jvm.MethodName)) ∈ BG := bg_3 (List.mem_of_getElem? (i := 106) (by decide +kernel)) (by decide +kernel)
theorem wd_587 : (Jvm.Cond.instanceMethod ({ cls := "LifeKeys$Partings", name := "drawCurve", desc := "(IIJ)V" } : Jvm.MethodName)) ∈ BG := bg_3 (List.mem_of_getElem? (i := 107) (by decide +kernel)) (by decide +kernel)
theorem wd_588 : (Jvm.Cond.selects "LifeKeys$Partings" ({ cls := "LifeKeys$Partings", name := "drawCurve", desc := "(IIJ)V" } : Jvm.MethodName) ({ cls := "LifeKeys$Partings", name := "drawCurve", desc := "(IIJ)V" } : Jvm.MethodName)) ∈ BG := bg_3 (List.mem_of_getElem? (i := 108) (by decide +kernel)) (by decide +kernel)
theorem wd_589 : (Jvm.Cond.code ({ cls := "LifeKeys$Partings", name := "drawCurve", desc := "(IIJ)V" } : Jvm.MethodName) prog_5_method_4_code (8 : Nat) (Option.none : Option Jvm.ClassFile.FieldType)) ∈ BG := bg_3 (List.mem_of_getElem? (i := 109) (by decide +kernel)) (by decide +kernel)
theorem wd_590 : (Jvm.Cond.methodLink "LifeKeys$Partings" (36 : Nat) ({ cls := "LifeKeys$Field", name := "nextSeed", desc := "(J)J" } : Jvm.MethodName)) ∈ BG := bg_3 (List.mem_of_getElem? (i := 110) (by decide +kernel)) (by decide +kernel)
theorem wd_591 : (Jvm.Cond.static ({ cls := "LifeKeys$Field", name := "nextSeed", desc := "(J)J" } : Jvm.MethodName)) ∈ BG := bg_3 (List.mem_of_getElem? (i := 111) (by decide +kernel)) (by decide +kernel)
theorem wd_592 : (Jvm.Cond.code ({ cls := "LifeKeys$Field", name := "nextSeed", desc := "(J)J" } : Jvm.MethodName) prog_2_method_13_code (2 : Nat) (Option.some Jvm.ClassFile.FieldType.long)) ∈ BG := bg_3 (List.mem_of_getElem? (i := 112) (by decide +kernel)) (by decide +kernel)
theorem wd_593 : (Jvm.Cond.constantLong "LifeKeys$Field" (34 : Nat) (6364136223846793005 : Int64)) ∈ BG := bg_3 (List.mem_of_getElem? (i := 113) (by decide +kernel)) (by decide +kernel)
theorem wd_594 : (Jvm.Cond.constantLong "LifeKeys$Field" (36 : Nat) (1442695040888963407 : Int64)) ∈ BG := bg_3 (List.mem_of_getElem? (i := 114) (by decide +kernel)) (by decide +kernel)
theorem wd_595 : (Jvm.Cond.methodLink "LifeKeys$Partings" (42 : Nat) ({ cls := "LifeKeys$Field", name := "coefficient", desc := "(J)I" } : Jvm.MethodName)) ∈ BG := bg_3 (List.mem_of_getElem? (i := 115) (by decide +kernel)) (by decide +kernel)
theorem wd_596 : (Jvm.Cond.static ({ cls := "LifeKeys$Field", name := "coefficient", desc := "(J)I" } : Jvm.MethodName)) ∈ BG := bg_3 (List.mem_of_getElem? (i := 116) (by decide +kernel)) (by decide +kernel)
theorem wd_597 : (Jvm.Cond.code ({ cls := "LifeKeys$Field", name := "coefficient", desc := "(J)I" } : Jvm.MethodName) prog_2_method_14_code (2 : Nat) (Option.some Jvm.ClassFile.FieldType.int)) ∈ BG := bg_3 (List.mem_of_getElem? (i := 117) (by decide +kernel)) (by decide +kernel)
theorem wd_598 : (Jvm.Cond.constantLong "LifeKeys$Field" (38 : Nat) (1019 : Int64)) ∈ BG := bg_3 (List.mem_of_getElem? (i := 118) (by decide +kernel)) (by decide +kernel)
theorem wd_599 : (Jvm.Cond.methodLink "LifeKeysLaw" (85 : Nat) ({ cls := "LifeKeys", name := "again", desc := "(IJ)I" } : Jvm.MethodName)) ∈ BG := bg_3 (List.mem_of_getElem? (i := 119) (by decide +kernel)) (by decide +kernel)
theorem wd_600 : (Jvm.Cond.instanceMethod ({ cls := "LifeKeys", name := "again", desc := "(IJ)I" } : Jvm.MethodName)) ∈ BG := bg_3 (List.mem_of_getElem? (i := 120) (by decide +kernel)) (by decide +kernel)
theorem wd_601 : (Jvm.Cond.selects "LifeKeys" ({ cls := "LifeKeys", name := "again", desc := "(IJ)I" } : Jvm.MethodName) ({ cls := "LifeKeys", name := "again", desc := "(IJ)I" } : Jvm.MethodName)) ∈ BG := bg_3 (List.mem_of_getElem? (i := 121) (by decide +kernel)) (by decide +kernel)
theorem wd_602 : (Jvm.Cond.code ({ cls := "LifeKeys", name := "again", desc := "(IJ)I" } : Jvm.MethodName) prog_1_method_15_code (6 : Nat) (Option.some Jvm.ClassFile.FieldType.int)) ∈ BG := bg_3 (List.mem_of_getElem? (i := 122) (by decide +kernel)) (by decide +kernel)
theorem wd_603 : (Jvm.Cond.methodLink "LifeKeys" (188 : Nat) ({ cls := "LifeKeys$Partings", name := "inForce", desc := "(II)Z" } : Jvm.MethodName)) ∈ BG := bg_3 (List.mem_of_getElem? (i := 123) (by decide +kernel)) (by decide +kernel)
theorem wd_604 : (Jvm.Cond.methodLink "LifeKeysLaw" (90 : Nat) ({ cls := "LifeKeys", name := "piece", desc := "(II)I" } : Jvm.MethodName)) ∈ BG := bg_3 (List.mem_of_getElem? (i := 124) (by decide +kernel)) (by decide +kernel)
theorem wd_605 : (Jvm.Cond.instanceMethod ({ cls := "LifeKeys", name := "piece", desc := "(II)I" } : Jvm.MethodName)) ∈ BG := bg_3 (List.mem_of_getElem? (i := 125) (by decide +kernel)) (by decide +kernel)
theorem wd_606 : (Jvm.Cond.selects "LifeKeys" ({ cls := "LifeKeys", name := "piece", desc := "(II)I" } : Jvm.MethodName) ({ cls := "LifeKeys", name := "piece", desc := "(II)I" } : Jvm.MethodName)) ∈ BG := bg_3 (List.mem_of_getElem? (i := 126) (by decide +kernel)) (by decide +kernel)
theorem wd_607 : (Jvm.Cond.code ({ cls := "LifeKeys", name := "piece", desc := "(II)I" } : Jvm.MethodName) prog_1_method_16_code (3 : Nat) (Option.some Jvm.ClassFile.FieldType.int)) ∈ BG := bg_3 (List.mem_of_getElem? (i := 127) (by decide +kernel)) (by decide +kernel)
theorem wd_608 : (Jvm.Cond.methodLink "LifeKeys" (203 : Nat) ({ cls := "LifeKeys$Partings", name := "isAmong", desc := "(II)Z" } : Jvm.MethodName)) ∈ BG := bg_3 (List.mem_of_getElem? (i := 128) (by decide +kernel)) (by decide +kernel)
theorem wd_609 : (Jvm.Cond.instanceMethod ({ cls := "LifeKeys$Partings", name := "isAmong", desc := "(II)Z" } : Jvm.MethodName)) ∈ BG := bg_3 (List.mem_of_getElem? (i := 129) (by decide +kernel)) (by decide +kernel)
theorem wd_610 : (Jvm.Cond.selects "LifeKeys$Partings" ({ cls := "LifeKeys$Partings", name := "isAmong", desc := "(II)Z" } : Jvm.MethodName) ({ cls := "LifeKeys$Partings", name := "isAmong", desc := "(II)Z" } : Jvm.MethodName)) ∈ BG := bg_3 (List.mem_of_getElem? (i := 130) (by decide +kernel)) (by decide +kernel)
theorem wd_611 : (Jvm.Cond.code ({ cls := "LifeKeys$Partings", name := "isAmong", desc := "(II)Z" } : Jvm.MethodName) prog_5_method_7_code (3 : Nat) (Option.some Jvm.ClassFile.FieldType.boolean)) ∈ BG := bg_3 (List.mem_of_getElem? (i := 131) (by decide +kernel)) (by decide +kernel)
theorem wd_612 : (Jvm.Cond.methodLinkNest "LifeKeys$Partings" (54 : Nat) ({ cls := "LifeKeys", name := "hasBit", desc := "(II)Z" } : Jvm.MethodName) "LifeKeys") ∈ tables_1 := bm_3 (List.mem_of_getElem? (i := 132) (by decide +kernel))
theorem wd_613 : (Jvm.Cond.static ({ cls := "LifeKeys", name := "hasBit", desc := "(II)Z" } : Jvm.MethodName)) ∈ BG := bg_3 (List.mem_of_getElem? (i := 133) (by decide +kernel)) (by decide +kernel)
theorem wd_614 : (Jvm.Cond.code ({ cls := "LifeKeys", name := "hasBit", desc := "(II)Z" } : Jvm.MethodName) prog_1_method_60_code (2 : Nat) (Option.some Jvm.ClassFile.FieldType.boolean)) ∈ BG := bg_3 (List.mem_of_getElem? (i := 134) (by decide +kernel)) (by decide +kernel)
theorem wd_615 : (Jvm.Cond.methodLink "LifeKeys" (206 : Nat) ({ cls := "LifeKeys$Partings", name := "partOf", desc := "(II)I" } : Jvm.MethodName)) ∈ BG := bg_3 (List.mem_of_getElem? (i := 135) (by decide +kernel)) (by decide +kernel)
theorem wd_616 : (Jvm.Cond.instanceMethod ({ cls := "LifeKeys$Partings", name := "partOf", desc := "(II)I" } : Jvm.MethodName)) ∈ BG := bg_3 (List.mem_of_getElem? (i := 136) (by decide +kernel)) (by decide +kernel)
theorem wd_617 : (Jvm.Cond.selects "LifeKeys$Partings" ({ cls := "LifeKeys$Partings", name := "partOf", desc := "(II)I" } : Jvm.MethodName) ({ cls := "LifeKeys$Partings", name := "partOf", desc := "(II)I" } : Jvm.MethodName)) ∈ BG := bg_3 (List.mem_of_getElem? (i := 137) (by decide +kernel)) (by decide +kernel)
theorem wd_618 : (Jvm.Cond.code ({ cls := "LifeKeys$Partings", name := "partOf", desc := "(II)I" } : Jvm.MethodName) prog_5_method_8_code (5 : Nat) (Option.some Jvm.ClassFile.FieldType.int)) ∈ BG := bg_3 (List.mem_of_getElem? (i := 138) (by decide +kernel)) (by decide +kernel)
theorem wd_619 : (Jvm.Cond.methodLink "LifeKeys$Partings" (57 : Nat) ({ cls := "LifeKeys$Field", name := "times", desc := "(II)I" } : Jvm.MethodName)) ∈ BG := bg_3 (List.mem_of_getElem? (i := 139) (by decide +kernel)) (by decide +kernel)
theorem wd_620 : (Jvm.Cond.static ({ cls := "LifeKeys$Field", name := "times", desc := "(II)I" } : Jvm.MethodName)) ∈ BG := bg_3 (List.mem_of_getElem? (i := 140) (by decide +kernel)) (by decide +kernel)
theorem wd_621 : (Jvm.Cond.code ({ cls := "LifeKeys$Field", name := "times", desc := "(II)I" } : Jvm.MethodName) prog_2_method_6_code (2 : Nat) (Option.some Jvm.ClassFile.FieldType.int)) ∈ BG := bg_3 (List.mem_of_getElem? (i := 141) (by decide +kernel)) (by decide +kernel)
theorem wd_622 : (Jvm.Cond.methodLink "LifeKeys$Partings" (61 : Nat) ({ cls := "LifeKeys$Field", name := "sum", desc := "(II)I" } : Jvm.MethodName)) ∈ BG := bg_3 (List.mem_of_getElem? (i := 142) (by decide +kernel)) (by decide +kernel)
theorem wd_623 : (Jvm.Cond.static ({ cls := "LifeKeys$Field", name := "sum", desc := "(II)I" } : Jvm.MethodName)) ∈ BG := bg_3 (List.mem_of_getElem? (i := 143) (by decide +kernel)) (by decide +kernel)
theorem wd_624 : (Jvm.Cond.code ({ cls := "LifeKeys$Field", name := "sum", desc := "(II)I" } : Jvm.MethodName) prog_2_method_5_code (2 : Nat) (Option.some Jvm.ClassFile.FieldType.int)) ∈ BG := bg_3 (List.mem_of_getElem? (i := 144) (by decide +kernel)) (by decide +kernel)
theorem wd_625 : (Jvm.Cond.methodLink "LifeKeysLaw" (94 : Nat) ({ cls := "LifeKeys", name := "checks", desc := "(II)I" } : Jvm.MethodName)) ∈ BG := bg_3 (List.mem_of_getElem? (i := 145) (by decide +kernel)) (by decide +kernel)
theorem wd_626 : (Jvm.Cond.instanceMethod ({ cls := "LifeKeys", name := "checks", desc := "(II)I" } : Jvm.MethodName)) ∈ BG := bg_3 (List.mem_of_getElem? (i := 146) (by decide +kernel)) (by decide +kernel)
theorem wd_627 : (Jvm.Cond.selects "LifeKeys" ({ cls := "LifeKeys", name := "checks", desc := "(II)I" } : Jvm.MethodName) ({ cls := "LifeKeys", name := "checks", desc := "(II)I" } : Jvm.MethodName)) ∈ BG := bg_3 (List.mem_of_getElem? (i := 147) (by decide +kernel)) (by decide +kernel)
theorem wd_628 : (Jvm.Cond.code ({ cls := "LifeKeys", name := "checks", desc := "(II)I" } : Jvm.MethodName) prog_1_method_17_code (3 : Nat) (Option.some Jvm.ClassFile.FieldType.int)) ∈ BG := bg_3 (List.mem_of_getElem? (i := 148) (by decide +kernel)) (by decide +kernel)
theorem wd_629 : (Jvm.Cond.methodLink "LifeKeys" (209 : Nat) ({ cls := "LifeKeys$Partings", name := "knows", desc := "(I)Z" } : Jvm.MethodName)) ∈ BG := bg_3 (List.mem_of_getElem? (i := 149) (by decide +kernel)) (by decide +kernel)
theorem wd_630 : (Jvm.Cond.methodLink "LifeKeys" (210 : Nat) ({ cls := "LifeKeys$Partings", name := "checkOf", desc := "(II)I" } : Jvm.MethodName)) ∈ BG := bg_3 (List.mem_of_getElem? (i := 150) (by decide +kernel)) (by decide +kernel)
theorem wd_631 : (Jvm.Cond.instanceMethod ({ cls := "LifeKeys$Partings", name := "checkOf", desc := "(II)I" } : Jvm.MethodName)) ∈ BG := bg_3 (List.mem_of_getElem? (i := 151) (by decide +kernel)) (by decide +kernel)
theorem wd_632 : (Jvm.Cond.selects "LifeKeys$Partings" ({ cls := "LifeKeys$Partings", name := "checkOf", desc := "(II)I" } : Jvm.MethodName) ({ cls := "LifeKeys$Partings", name := "checkOf", desc := "(II)I" } : Jvm.MethodName)) ∈ BG := bg_3 (List.mem_of_getElem? (i := 152) (by decide +kernel)) (by decide +kernel)
theorem wd_633 : (Jvm.Cond.code ({ cls := "LifeKeys$Partings", name := "checkOf", desc := "(II)I" } : Jvm.MethodName) prog_5_method_9_code (3 : Nat) (Option.some Jvm.ClassFile.FieldType.int)) ∈ BG := bg_3 (List.mem_of_getElem? (i := 153) (by decide +kernel)) (by decide +kernel)
theorem wd_634 : (Jvm.Cond.methodLink "LifeKeys$Partings" (64 : Nat) ({ cls := "LifeKeys$Field", name := "powerOf4", desc := "(I)I" } : Jvm.MethodName)) ∈ BG := bg_3 (List.mem_of_getElem? (i := 154) (by decide +kernel)) (by decide +kernel)
theorem wd_635 : (Jvm.Cond.static ({ cls := "LifeKeys$Field", name := "powerOf4", desc := "(I)I" } : Jvm.MethodName)) ∈ BG := bg_3 (List.mem_of_getElem? (i := 155) (by decide +kernel)) (by decide +kernel)
theorem wd_636 : (Jvm.Cond.code ({ cls := "LifeKeys$Field", name := "powerOf4", desc := "(I)I" } : Jvm.MethodName) prog_2_method_9_code (1 : Nat) (Option.some Jvm.ClassFile.FieldType.int)) ∈ BG := bg_3 (List.mem_of_getElem? (i := 156) (by decide +kernel)) (by decide +kernel)
theorem wd_637 : (Jvm.Cond.methodLink "LifeKeys$Field" (15 : Nat) ({ cls := "LifeKeys$Field", name := "raise", desc := "(II)I" } : Jvm.MethodName)) ∈ BG := bg_3 (List.mem_of_getElem? (i := 157) (by decide +kernel)) (by decide +kernel)
theorem wd_638 : (Jvm.Cond.static ({ cls := "LifeKeys$Field", name := "raise", desc := "(II)I" } : Jvm.MethodName)) ∈ BG := bg_3 (List.mem_of_getElem? (i := 158) (by decide +kernel)) (by decide +kernel)
theorem wd_639 : (Jvm.Cond.code ({ cls := "LifeKeys$Field", name := "raise", desc := "(II)I" } : Jvm.MethodName) prog_2_method_8_code (5 : Nat) (Option.some Jvm.ClassFile.FieldType.int)) ∈ BG := bg_3 (List.mem_of_getElem? (i := 159) (by decide +kernel)) (by decide +kernel)
theorem wd_640 : (Jvm.Cond.methodLink "LifeKeys$Field" (11 : Nat) ({ cls := "LifeKeys$Field", name := "product", desc := "(II)I" } : Jvm.MethodName)) ∈ BG := bg_3 (List.mem_of_getElem? (i := 160) (by decide +kernel)) (by decide +kernel)
theorem wd_641 : (Jvm.Cond.static ({ cls := "LifeKeys$Field", name := "product", desc := "(II)I" } : Jvm.MethodName)) ∈ BG := bg_3 (List.mem_of_getElem? (i := 161) (by decide +kernel)) (by decide +kernel)
theorem wd_642 : (Jvm.Cond.code ({ cls := "LifeKeys$Field", name := "product", desc := "(II)I" } : Jvm.MethodName) prog_2_method_7_code (2 : Nat) (Option.some Jvm.ClassFile.FieldType.int)) ∈ BG := bg_3 (List.mem_of_getElem? (i := 162) (by decide +kernel)) (by decide +kernel)
theorem wd_643 : (Jvm.Cond.methodLink "LifeKeysLaw" (98 : Nat) ({ cls := "LifeKeys", name := "fits", desc := "(III)I" } : Jvm.MethodName)) ∈ BG := bg_3 (List.mem_of_getElem? (i := 163) (by decide +kernel)) (by decide +kernel)
theorem wd_644 : (Jvm.Cond.instanceMethod ({ cls := "LifeKeys", name := "fits", desc := "(III)I" } : Jvm.MethodName)) ∈ BG := bg_3 (List.mem_of_getElem? (i := 164) (by decide +kernel)) (by decide +kernel)
theorem wd_645 : (Jvm.Cond.selects "LifeKeys" ({ cls := "LifeKeys", name := "fits", desc := "(III)I" } : Jvm.MethodName) ({ cls := "LifeKeys", name := "fits", desc := "(III)I" } : Jvm.MethodName)) ∈ BG := bg_3 (List.mem_of_getElem? (i := 165) (by decide +kernel)) (by decide +kernel)
theorem wd_646 : (Jvm.Cond.code ({ cls := "LifeKeys", name := "fits", desc := "(III)I" } : Jvm.MethodName) prog_1_method_18_code (4 : Nat) (Option.some Jvm.ClassFile.FieldType.int)) ∈ BG := bg_3 (List.mem_of_getElem? (i := 166) (by decide +kernel)) (by decide +kernel)
theorem wd_647 : (Jvm.Cond.methodLink "LifeKeys" (213 : Nat) ({ cls := "LifeKeys$Field", name := "isNumbe\x72", desc := "(I)Z" } : Jvm.MethodName)) ∈ BG := bg_3 (List.mem_of_getElem? (i := 167) (by decide +kernel)) (by decide +kernel)
theorem wd_648 : (Jvm.Cond.static ({ cls := "LifeKeys$Field", name := "isNumbe\x72", desc := "(I)Z" } : Jvm.MethodName)) ∈ BG := bg_3 (List.mem_of_getElem? (i := 168) (by decide +kernel)) (by decide +kernel)
theorem wd_649 : (Jvm.Cond.code ({ cls := "LifeKeys$Field", name := "isNumbe\x72", desc := "(I)Z" } : Jvm.MethodName) prog_2_method_2_code (1 : Nat) (Option.some Jvm.ClassFile.FieldType.boolean)) ∈ BG := bg_3 (List.mem_of_getElem? (i := 169) (by decide +kernel)) (by decide +kernel)
theorem wd_650 : (Jvm.Cond.methodLink "LifeKeys" (216 : Nat) ({ cls := "LifeKeys$Field", name := "powerOf4", desc := "(I)I" } : Jvm.MethodName)) ∈ BG := bg_3 (List.mem_of_getElem? (i := 170) (by decide +kernel)) (by decide +kernel)
theorem wd_651 : (Jvm.Cond.methodLink "LifeKeys" (219 : Nat) ({ cls := "LifeKeys$Partings", name := "checkedPart", desc := "(II)I" } : Jvm.MethodName)) ∈ BG := bg_3 (List.mem_of_getElem? (i := 171) (by decide +kernel)) (by decide +kernel)
theorem wd_652 : (Jvm.Cond.instanceMethod ({ cls := "LifeKeys$Partings", name := "checkedPart", desc := "(II)I" } : Jvm.MethodName)) ∈ BG := bg_3 (List.mem_of_getElem? (i := 172) (by decide +kernel)) (by decide +kernel)
theorem wd_653 : (Jvm.Cond.selects "LifeKeys$Partings" ({ cls := "LifeKeys$Partings", name := "checkedPart", desc := "(II)I" } : Jvm.MethodName) ({ cls := "LifeKeys$Partings", name := "checkedPart", desc := "(II)I" } : Jvm.MethodName)) ∈ BG := bg_3 (List.mem_of_getElem? (i := 173) (by decide +kernel)) (by decide +kernel)
theorem wd_654 : (Jvm.Cond.code ({ cls := "LifeKeys$Partings", name := "checkedPart", desc := "(II)I" } : Jvm.MethodName) prog_5_method_10_code (6 : Nat) (Option.some Jvm.ClassFile.FieldType.int)) ∈ BG := bg_3 (List.mem_of_getElem? (i := 174) (by decide +kernel)) (by decide +kernel)
theorem wd_655 : (Jvm.Cond.methodLink "LifeKeys$Partings" (68 : Nat) ({ cls := "LifeKeys$Partings", name := "checkOf", desc := "(II)I" } : Jvm.MethodName)) ∈ BG := bg_3 (List.mem_of_getElem? (i := 175) (by decide +kernel)) (by decide +kernel)
theorem wd_656 : (Jvm.Cond.methodLink "LifeKeys$Partings" (71 : Nat) ({ cls := "LifeKeys$Field", name := "raise", desc := "(II)I" } : Jvm.MethodName)) ∈ BG := bg_3 (List.mem_of_getElem? (i := 176) (by decide +kernel)) (by decide +kernel)
theorem wd_657 : (Jvm.Cond.methodLink "LifeKeys$Partings" (74 : Nat) ({ cls := "LifeKeys$Field", name := "product", desc := "(II)I" } : Jvm.MethodName)) ∈ BG := bg_3 (List.mem_of_getElem? (i := 177) (by decide +kernel)) (by decide +kernel)
theorem wd_658 : (Jvm.Cond.methodLink "LifeKeysLaw" (103 : Nat) ({ cls := "LifeKeys", name := "lay", desc := "(II)I" } : Jvm.MethodName)) ∈ BG := bg_3 (List.mem_of_getElem? (i := 178) (by decide +kernel)) (by decide +kernel)
theorem wd_659 : (Jvm.Cond.instanceMethod ({ cls := "LifeKeys", name := "lay", desc := "(II)I" } : Jvm.MethodName)) ∈ BG := bg_3 (List.mem_of_getElem? (i := 179) (by decide +kernel)) (by decide +kernel)
theorem wd_660 : (Jvm.Cond.selects "LifeKeys" ({ cls := "LifeKeys", name := "lay", desc := "(II)I" } : Jvm.MethodName) ({ cls := "LifeKeys", name := "lay", desc := "(II)I" } : Jvm.MethodName)) ∈ BG := bg_3 (List.mem_of_getElem? (i := 180) (by decide +kernel)) (by decide +kernel)
theorem wd_661 : (Jvm.Cond.code ({ cls := "LifeKeys", name := "lay", desc := "(II)I" } : Jvm.MethodName) prog_1_method_19_code (3 : Nat) (Option.some Jvm.ClassFile.FieldType.int)) ∈ BG := bg_3 (List.mem_of_getElem? (i := 181) (by decide +kernel)) (by decide +kernel)
theorem wd_662 : (Jvm.Cond.methodLink "LifeKeys" (225 : Nat) ({ cls := "LifeKeys", name := "hasBit", desc := "(II)Z" } : Jvm.MethodName)) ∈ BG := bg_3 (List.mem_of_getElem? (i := 182) (by decide +kernel)) (by decide +kernel)
theorem wd_663 : (Jvm.Cond.methodLink "LifeKeysLaw" (107 : Nat) ({ cls := "LifeKeys", name := "join", desc := "()I" } : Jvm.MethodName)) ∈ BG := bg_3 (List.mem_of_getElem? (i := 183) (by decide +kernel)) (by decide +kernel)
theorem wd_664 : (Jvm.Cond.instanceMethod ({ cls := "LifeKeys", name := "join", desc := "()I" } : Jvm.MethodName)) ∈ BG := bg_3 (List.mem_of_getElem? (i := 184) (by decide +kernel)) (by decide +kernel)
theorem wd_665 : (Jvm.Cond.selects "LifeKeys" ({ cls := "LifeKeys", name := "join", desc := "()I" } : Jvm.MethodName) ({ cls := "LifeKeys", name := "join", desc := "()I" } : Jvm.MethodName)) ∈ BG := bg_3 (List.mem_of_getElem? (i := 185) (by decide +kernel)) (by decide +kernel)
theorem wd_666 : (Jvm.Cond.code ({ cls := "LifeKeys", name := "join", desc := "()I" } : Jvm.MethodName) prog_1_method_20_code (3 : Nat) (Option.some Jvm.ClassFile.FieldType.int)) ∈ BG := bg_3 (List.mem_of_getElem? (i := 186) (by decide +kernel)) (by decide +kernel)
theorem wd_667 : (Jvm.Cond.methodLink "LifeKeys" (228 : Nat) ({ cls := "LifeKeys$Field", name := "weight", desc := "(II)I" } : Jvm.MethodName)) ∈ BG := bg_3 (List.mem_of_getElem? (i := 187) (by decide +kernel)) (by decide +kernel)
theorem wd_668 : (Jvm.Cond.static ({ cls := "LifeKeys$Field", name := "weight", desc := "(II)I" } : Jvm.MethodName)) ∈ BG := bg_3 (List.mem_of_getElem? (i := 188) (by decide +kernel)) (by decide +kernel)
theorem wd_669 : (Jvm.Cond.code ({ cls := "LifeKeys$Field", name := "weight", desc := "(II)I" } : Jvm.MethodName) prog_2_method_11_code (5 : Nat) (Option.some Jvm.ClassFile.FieldType.int)) ∈ BG := bg_3 (List.mem_of_getElem? (i := 189) (by decide +kernel)) (by decide +kernel)
theorem wd_670 : (Jvm.Cond.methodLinkNest "LifeKeys$Field" (21 : Nat) ({ cls := "LifeKeys", name := "hasBit", desc := "(II)Z" } : Jvm.MethodName) "LifeKeys") ∈ tables_1 := bm_3 (List.mem_of_getElem? (i := 190) (by decide +kernel))
theorem wd_671 : (Jvm.Cond.methodLink "LifeKeys$Field" (18 : Nat) ({ cls := "LifeKeys$Field", name := "times", desc := "(II)I" } : Jvm.MethodName)) ∈ BG := bg_3 (List.mem_of_getElem? (i := 191) (by decide +kernel)) (by decide +kernel)
theorem wd_672 : (Jvm.Cond.methodLink "LifeKeys$Field" (25 : Nat) ({ cls := "java/lang/Math", name := "floorMod", desc := "(II)I" } : Jvm.MethodName)) ∈ BG := bg_3 (List.mem_of_getElem? (i := 192) (by decide +kernel)) (by decide +kernel)
theorem wd_673 : (Jvm.Cond.static ({ cls := "java/lang/Math", name := "floorMod", desc := "(II)I" } : Jvm.MethodName)) ∈ BG := bg_3 (List.mem_of_getElem? (i := 193) (by decide +kernel)) (by decide +kernel)
theorem wd_674 : (Jvm.Cond.code ({ cls := "java/lang/Math", name := "floorMod", desc := "(II)I" } : Jvm.MethodName) prog_18_method_50_code (3 : Nat) (Option.some Jvm.ClassFile.FieldType.int)) ∈ BG := bg_3 (List.mem_of_getElem? (i := 194) (by decide +kernel)) (by decide +kernel)
theorem wd_675 : (Jvm.Cond.methodLink "LifeKeys$Field" (30 : Nat) ({ cls := "LifeKeys$Field", name := "inverse", desc := "(I)I" } : Jvm.MethodName)) ∈ BG := bg_3 (List.mem_of_getElem? (i := 195) (by decide +kernel)) (by decide +kernel)
theorem wd_676 : (Jvm.Cond.static ({ cls := "LifeKeys$Field", name := "inverse", desc := "(I)I" } : Jvm.MethodName)) ∈ BG := bg_3 (List.mem_of_getElem? (i := 196) (by decide +kernel)) (by decide +kernel)
theorem wd_677 : (Jvm.Cond.code ({ cls := "LifeKeys$Field", name := "inverse", desc := "(I)I" } : Jvm.MethodName) prog_2_method_10_code (4 : Nat) (Option.some Jvm.ClassFile.FieldType.int)) ∈ BG := bg_3 (List.mem_of_getElem? (i := 197) (by decide +kernel)) (by decide +kernel)
theorem wd_678 : (Jvm.Cond.methodLink "LifeKeys" (231 : Nat) ({ cls := "LifeKeys$Field", name := "times", desc := "(II)I" } : Jvm.MethodName)) ∈ BG := bg_3 (List.mem_of_getElem? (i := 198) (by decide +kernel)) (by decide +kernel)
theorem wd_679 : (Jvm.Cond.methodLink "LifeKeys" (234 : Nat) ({ cls := "LifeKeys$Field", name := "sum", desc := "(II)I" } : Jvm.MethodName)) ∈ BG := bg_3 (List.mem_of_getElem? (i := 199) (by decide +kernel)) (by decide +kernel)
theorem wd_680 : (Jvm.Cond.methodLink "LifeKeysLaw" (111 : Nat) ({ cls := "LifeKeys", name := "left", desc := "(II)I" } : Jvm.MethodName)) ∈ BG := bg_3 (List.mem_of_getElem? (i := 200) (by decide +kernel)) (by decide +kernel)
theorem wd_681 : (Jvm.Cond.instanceMethod ({ cls := "LifeKeys", name := "left", desc := "(II)I" } : Jvm.MethodName)) ∈ BG := bg_3 (List.mem_of_getElem? (i := 201) (by decide +kernel)) (by decide +kernel)
theorem wd_682 : (Jvm.Cond.selects "LifeKeys" ({ cls := "LifeKeys", name := "left", desc := "(II)I" } : Jvm.MethodName) ({ cls := "LifeKeys", name := "left", desc := "(II)I" } : Jvm.MethodName)) ∈ BG := bg_3 (List.mem_of_getElem? (i := 202) (by decide +kernel)) (by decide +kernel)
theorem wd_683 : (Jvm.Cond.code ({ cls := "LifeKeys", name := "left", desc := "(II)I" } : Jvm.MethodName) prog_1_method_21_code (3 : Nat) (Option.some Jvm.ClassFile.FieldType.int)) ∈ BG := bg_3 (List.mem_of_getElem? (i := 203) (by decide +kernel)) (by decide +kernel)
theorem wd_684 : (Jvm.Cond.methodLink "LifeKeys" (237 : Nat) ({ cls := "java/lang/Math", name := "max", desc := "(II)I" } : Jvm.MethodName)) ∈ BG := bg_3 (List.mem_of_getElem? (i := 204) (by decide +kernel)) (by decide +kernel)
theorem wd_685 : (Jvm.Cond.static ({ cls := "java/lang/Math", name := "max", desc := "(II)I" } : Jvm.MethodName)) ∈ BG := bg_3 (List.mem_of_getElem? (i := 205) (by decide +kernel)) (by decide +kernel)
theorem wd_686 : (Jvm.Cond.code ({ cls := "java/lang/Math", name := "max", desc := "(II)I" } : Jvm.MethodName) prog_18_method_65_code (2 : Nat) (Option.some Jvm.ClassFile.FieldType.int)) ∈ BG := bg_3 (List.mem_of_getElem? (i := 206) (by decide +kernel)) (by decide +kernel)
theorem wd_687 : (Jvm.Cond.methodLink "LifeKeysLaw" (115 : Nat) ({ cls := "LifeKeys", name := "got", desc := "(II)J" } : Jvm.MethodName)) ∈ BG := bg_3 (List.mem_of_getElem? (i := 207) (by decide +kernel)) (by decide +kernel)
theorem wd_688 : (Jvm.Cond.instanceMethod ({ cls := "LifeKeys", name := "got", desc := "(II)J" } : Jvm.MethodName)) ∈ BG := bg_3 (List.mem_of_getElem? (i := 208) (by decide +kernel)) (by decide +kernel)
theorem wd_689 : (Jvm.Cond.selects "LifeKeys" ({ cls := "LifeKeys", name := "got", desc := "(II)J" } : Jvm.MethodName) ({ cls := "LifeKeys", name := "got", desc := "(II)J" } : Jvm.MethodName)) ∈ BG := bg_3 (List.mem_of_getElem? (i := 209) (by decide +kernel)) (by decide +kernel)
theorem wd_690 : (Jvm.Cond.code ({ cls := "LifeKeys", name := "got", desc := "(II)J" } : Jvm.MethodName) prog_1_method_22_code (3 : Nat) (Option.some Jvm.ClassFile.FieldType.long)) ∈ BG := bg_3 (List.mem_of_getElem? (i := 210) (by decide +kernel)) (by decide +kernel)
theorem wd_691 : (Jvm.Cond.methodLink "LifeKeys" (242 : Nat) ({ cls := "LifeKeys", name := "isPast", desc := "(I)Z" } : Jvm.MethodName)) ∈ BG := bg_3 (List.mem_of_getElem? (i := 211) (by decide +kernel)) (by decide +kernel)
theorem wd_693 : (Jvm.Cond.instanceMethod ({ cls := "LifeKeys", name := "isPast", desc := "(I)Z" } : Jvm.MethodName)) ∈ BG := bg_3 (List.mem_of_getElem? (i := 213) (by decide +kernel)) (by decide +kernel)
theorem wd_694 : (Jvm.Cond.code ({ cls := "LifeKeys", name := "isPast", desc := "(I)Z" } : Jvm.MethodName) prog_1_method_58_code (2 : Nat) (Option.some Jvm.ClassFile.FieldType.boolean)) ∈ BG := bg_3 (List.mem_of_getElem? (i := 214) (by decide +kernel)) (by decide +kernel)
theorem wd_695 : (Jvm.Cond.constantLong "LifeKeys" (245 : Nat) (-1 : Int64)) ∈ BG := bg_3 (List.mem_of_getElem? (i := 215) (by decide +kernel)) (by decide +kernel)
theorem wd_696 : (Jvm.Cond.methodLink "LifeKeys" (247 : Nat) ({ cls := "LifeKeys", name := "settleReach", desc := "(I)V" } : Jvm.MethodName)) ∈ BG := bg_3 (List.mem_of_getElem? (i := 216) (by decide +kernel)) (by decide +kernel)
theorem wd_698 : (Jvm.Cond.instanceMethod ({ cls := "LifeKeys", name := "settleReach", desc := "(I)V" } : Jvm.MethodName)) ∈ BG := bg_3 (List.mem_of_getElem? (i := 218) (by decide +kernel)) (by decide +kernel)
theorem wd_699 : (Jvm.Cond.code ({ cls := "LifeKeys", name := "settleReach", desc := "(I)V" } : Jvm.MethodName) prog_1_method_64_code (2 : Nat) (Option.none : Option Jvm.ClassFile.FieldType)) ∈ BG := bg_3 (List.mem_of_getElem? (i := 219) (by decide +kernel)) (by decide +kernel)
theorem wd_700 : (Jvm.Cond.methodLink "LifeKeys" (437 : Nat) ({ cls := "LifeKeys$Reach", name := "settle", desc := "(ILLifeKeys$Keys;LLifeKeys$Ties;LLifeKeys$Partings;)V" } : Jvm.MethodName)) ∈ BG := bg_3 (List.mem_of_getElem? (i := 220) (by decide +kernel)) (by decide +kernel)
theorem wd_701 : (Jvm.Cond.instanceMethod ({ cls := "LifeKeys$Reach", name := "settle", desc := "(ILLifeKeys$Keys;LLifeKeys$Ties;LLifeKeys$Partings;)V" } : Jvm.MethodName)) ∈ BG := bg_3 (List.mem_of_getElem? (i := 221) (by decide +kernel)) (by decide +kernel)
theorem wd_702 : (Jvm.Cond.selects "LifeKeys$Reach" ({ cls := "LifeKeys$Reach", name := "settle", desc := "(ILLifeKeys$Keys;LLifeKeys$Ties;LLifeKeys$Partings;)V" } : Jvm.MethodName) ({ cls := "LifeKeys$Reach", name := "settle", desc := "(ILLifeKeys$Keys;LLifeKeys$Ties;LLifeKeys$Partings;)V" } : Jvm.MethodName)) ∈ BG := bg_3 (List.mem_of_getElem? (i := 222) (by decide +kernel)) (by decide +kernel)
theorem wd_703 : (Jvm.Cond.code ({ cls := "LifeKeys$Reach", name := "settle", desc := "(ILLifeKeys$Keys;LLifeKeys$Ties;LLifeKeys$Partings;)V" } : Jvm.MethodName) prog_6_method_2_code (6 : Nat) (Option.none : Option Jvm.ClassFile.FieldType)) ∈ BG := bg_3 (List.mem_of_getElem? (i := 223) (by decide +kernel)) (by decide +kernel)
theorem wd_704 : (Jvm.Cond.methodLink "LifeKeys$Reach" (40 : Nat) ({ cls := "LifeKeys$Ties", name := "heldOn", desc := "(I[J)V" } : Jvm.MethodName)) ∈ BG := bg_3 (List.mem_of_getElem? (i := 224) (by decide +kernel)) (by decide +kernel)
theorem wd_705 : (Jvm.Cond.instanceMethod ({ cls := "LifeKeys$Ties", name := "heldOn", desc := "(I[J)V" } : Jvm.MethodName)) ∈ BG := bg_3 (List.mem_of_getElem? (i := 225) (by decide +kernel)) (by decide +kernel)
theorem wd_706 : (Jvm.Cond.selects "LifeKeys$Ties" ({ cls := "LifeKeys$Ties", name := "heldOn", desc := "(I[J)V" } : Jvm.MethodName) ({ cls := "LifeKeys$Ties", name := "heldOn", desc := "(I[J)V" } : Jvm.MethodName)) ∈ BG := bg_3 (List.mem_of_getElem? (i := 226) (by decide +kernel)) (by decide +kernel)
theorem wd_707 : (Jvm.Cond.code ({ cls := "LifeKeys$Ties", name := "heldOn", desc := "(I[J)V" } : Jvm.MethodName) prog_12_method_4_code (4 : Nat) (Option.none : Option Jvm.ClassFile.FieldType)) ∈ BG := bg_3 (List.mem_of_getElem? (i := 227) (by decide +kernel)) (by decide +kernel)
theorem wd_708 : (Jvm.Cond.methodLink "LifeKeys$Reach" (44 : Nat) ({ cls := "LifeKeys$Reach", name := "settlePartings", desc := "(ILLifeKeys$Partings;)V" } : Jvm.MethodName)) ∈ BG := bg_3 (List.mem_of_getElem? (i := 228) (by decide +kernel)) (by decide +kernel)
theorem wd_710 : (Jvm.Cond.instanceMethod ({ cls := "LifeKeys$Reach", name := "settlePartings", desc := "(ILLifeKeys$Partings;)V" } : Jvm.MethodName)) ∈ BG := bg_3 (List.mem_of_getElem? (i := 230) (by decide +kernel)) (by decide +kernel)
theorem wd_711 : (Jvm.Cond.code ({ cls := "LifeKeys$Reach", name := "settlePartings", desc := "(ILLifeKeys$Partings;)V" } : Jvm.MethodName) prog_6_method_3_code (4 : Nat) (Option.none : Option Jvm.ClassFile.FieldType)) ∈ BG := bg_3 (List.mem_of_getElem? (i := 231) (by decide +kernel)) (by decide +kernel)
theorem wd_712 : (Jvm.Cond.methodLink "LifeKeys$Reach" (85 : Nat) ({ cls := "LifeKeys$Partings", name := "inForce", desc := "(II)Z" } : Jvm.MethodName)) ∈ BG := bg_3 (List.mem_of_getElem? (i := 232) (by decide +kernel)) (by decide +kernel)
theorem wd_713 : (Jvm.Cond.methodLink "LifeKeys$Reach" (64 : Nat) ({ cls := "LifeKeys$Reach", name := "addStep", desc := "(II)V" } : Jvm.MethodName)) ∈ BG := bg_3 (List.mem_of_getElem? (i := 233) (by decide +kernel)) (by decide +kernel)
theorem wd_715 : (Jvm.Cond.instanceMethod ({ cls := "LifeKeys$Reach", name := "addStep", desc := "(II)V" } : Jvm.MethodName)) ∈ BG := bg_3 (List.mem_of_getElem? (i := 235) (by decide +kernel)) (by decide +kernel)
theorem wd_716 : (Jvm.Cond.code ({ cls := "LifeKeys$Reach", name := "addStep", desc := "(II)V" } : Jvm.MethodName) prog_6_method_4_code (3 : Nat) (Option.none : Option Jvm.ClassFile.FieldType)) ∈ BG := bg_3 (List.mem_of_getElem? (i := 236) (by decide +kernel)) (by decide +kernel)
theorem wd_717 : (Jvm.Cond.methodLink "LifeKeys$Reach" (71 : Nat) ({ cls := "LifeKeys$Ties", name := "isWrapOn", desc := "(II)Z" } : Jvm.MethodName)) ∈ BG := bg_3 (List.mem_of_getElem? (i := 237) (by decide +kernel)) (by decide +kernel)
theorem wd_718 : (Jvm.Cond.instanceMethod ({ cls := "LifeKeys$Ties", name := "isWrapOn", desc := "(II)Z" } : Jvm.MethodName)) ∈ BG := bg_3 (List.mem_of_getElem? (i := 238) (by decide +kernel)) (by decide +kernel)
theorem wd_719 : (Jvm.Cond.selects "LifeKeys$Ties" ({ cls := "LifeKeys$Ties", name := "isWrapOn", desc := "(II)Z" } : Jvm.MethodName) ({ cls := "LifeKeys$Ties", name := "isWrapOn", desc := "(II)Z" } : Jvm.MethodName)) ∈ BG := bg_3 (List.mem_of_getElem? (i := 239) (by decide +kernel)) (by decide +kernel)
theorem wd_720 : (Jvm.Cond.code ({ cls := "LifeKeys$Ties", name := "isWrapOn", desc := "(II)Z" } : Jvm.MethodName) prog_12_method_7_code (3 : Nat) (Option.some Jvm.ClassFile.FieldType.boolean)) ∈ BG := bg_4 (List.mem_of_getElem? (i := 0) (by decide +kernel)) (by decide +kernel)
theorem wd_721 : (Jvm.Cond.methodLink "LifeKeys" (250 : Nat) ({ cls := "LifeKeys$Reach", name := "gets", desc := "(I)J" } : Jvm.MethodName)) ∈ BG := bg_4 (List.mem_of_getElem? (i := 1) (by decide +kernel)) (by decide +kernel)
theorem wd_722 : (Jvm.Cond.instanceMethod ({ cls := "LifeKeys$Reach", name := "gets", desc := "(I)J" } : Jvm.MethodName)) ∈ BG := bg_4 (List.mem_of_getElem? (i := 2) (by decide +kernel)) (by decide +kernel)
theorem wd_723 : (Jvm.Cond.selects "LifeKeys$Reach" ({ cls := "LifeKeys$Reach", name := "gets", desc := "(I)J" } : Jvm.MethodName) ({ cls := "LifeKeys$Reach", name := "gets", desc := "(I)J" } : Jvm.MethodName)) ∈ BG := bg_4 (List.mem_of_getElem? (i := 3) (by decide +kernel)) (by decide +kernel)
theorem wd_724 : (Jvm.Cond.code ({ cls := "LifeKeys$Reach", name := "gets", desc := "(I)J" } : Jvm.MethodName) prog_6_method_5_code (2 : Nat) (Option.some Jvm.ClassFile.FieldType.long)) ∈ BG := bg_4 (List.mem_of_getElem? (i := 4) (by decide +kernel)) (by decide +kernel)
theorem wd_725 : (Jvm.Cond.methodLink "LifeKeys$Reach" (91 : Nat) ({ cls := "LifeKeys$Reach", name := "atOnce", desc := "(I)J" } : Jvm.MethodName)) ∈ BG := bg_4 (List.mem_of_getElem? (i := 5) (by decide +kernel)) (by decide +kernel)
theorem wd_727 : (Jvm.Cond.instanceMethod ({ cls := "LifeKeys$Reach", name := "atOnce", desc := "(I)J" } : Jvm.MethodName)) ∈ BG := bg_4 (List.mem_of_getElem? (i := 7) (by decide +kernel)) (by decide +kernel)
theorem wd_728 : (Jvm.Cond.code ({ cls := "LifeKeys$Reach", name := "atOnce", desc := "(I)J" } : Jvm.MethodName) prog_6_method_6_code (5 : Nat) (Option.some Jvm.ClassFile.FieldType.long)) ∈ BG := bg_4 (List.mem_of_getElem? (i := 8) (by decide +kernel)) (by decide +kernel)
theorem wd_729 : (Jvm.Cond.methodLinkNest "LifeKeys$Reach" (99 : Nat) ({ cls := "LifeKeys", name := "hasBit", desc := "(II)Z" } : Jvm.MethodName) "LifeKeys") ∈ tables_1 := bm_4 (List.mem_of_getElem? (i := 9) (by decide +kernel))
theorem wd_730 : (Jvm.Cond.methodLink "LifeKeys$Reach" (102 : Nat) ({ cls := "LifeKeys$Reach", name := "suffices", desc := "(II)Z" } : Jvm.MethodName)) ∈ BG := bg_4 (List.mem_of_getElem? (i := 10) (by decide +kernel)) (by decide +kernel)
theorem wd_732 : (Jvm.Cond.instanceMethod ({ cls := "LifeKeys$Reach", name := "suffices", desc := "(II)Z" } : Jvm.MethodName)) ∈ BG := bg_4 (List.mem_of_getElem? (i := 12) (by decide +kernel)) (by decide +kernel)
theorem wd_733 : (Jvm.Cond.code ({ cls := "LifeKeys$Reach", name := "suffices", desc := "(II)Z" } : Jvm.MethodName) prog_6_method_7_code (3 : Nat) (Option.some Jvm.ClassFile.FieldType.boolean)) ∈ BG := bg_4 (List.mem_of_getElem? (i := 13) (by decide +kernel)) (by decide +kernel)
theorem wd_734 : (Jvm.Cond.methodLink "LifeKeys$Reach" (105 : Nat) ({ cls := "java/lang/Intege\x72", name := "bitCount", desc := "(I)I" } : Jvm.MethodName)) ∈ BG := bg_4 (List.mem_of_getElem? (i := 14) (by decide +kernel)) (by decide +kernel)
theorem wd_735 : (Jvm.Cond.methodLink "LifeKeys$Reach" (95 : Nat) ({ cls := "LifeKeys$Reach", name := "onward", desc := "(J)J" } : Jvm.MethodName)) ∈ BG := bg_4 (List.mem_of_getElem? (i := 15) (by decide +kernel)) (by decide +kernel)
theorem wd_737 : (Jvm.Cond.instanceMethod ({ cls := "LifeKeys$Reach", name := "onward", desc := "(J)J" } : Jvm.MethodName)) ∈ BG := bg_4 (List.mem_of_getElem? (i := 17) (by decide +kernel)) (by decide +kernel)
theorem wd_738 : (Jvm.Cond.code ({ cls := "LifeKeys$Reach", name := "onward", desc := "(J)J" } : Jvm.MethodName) prog_6_method_8_code (9 : Nat) (Option.some Jvm.ClassFile.FieldType.long)) ∈ BG := bg_4 (List.mem_of_getElem? (i := 18) (by decide +kernel)) (by decide +kernel)
theorem wd_739 : (Jvm.Cond.constantLong "LifeKeys$Reach" (111 : Nat) (-1 : Int64)) ∈ BG := bg_4 (List.mem_of_getElem? (i := 19) (by decide +kernel)) (by decide +kernel)
theorem wd_740 : (Jvm.Cond.methodLinkNest "LifeKeys$Reach" (113 : Nat) ({ cls := "LifeKeys", name := "hasKey", desc := "(JI)Z" } : Jvm.MethodName) "LifeKeys") ∈ tables_1 := bm_4 (List.mem_of_getElem? (i := 20) (by decide +kernel))
theorem wd_741 : (Jvm.Cond.methodLink "LifeKeysLaw" (120 : Nat) ({ cls := "LifeKeys", name := "fault", desc := "()I" } : Jvm.MethodName)) ∈ BG := bg_4 (List.mem_of_getElem? (i := 21) (by decide +kernel)) (by decide +kernel)
theorem wd_742 : (Jvm.Cond.instanceMethod ({ cls := "LifeKeys", name := "fault", desc := "()I" } : Jvm.MethodName)) ∈ BG := bg_4 (List.mem_of_getElem? (i := 22) (by decide +kernel)) (by decide +kernel)
theorem wd_743 : (Jvm.Cond.selects "LifeKeys" ({ cls := "LifeKeys", name := "fault", desc := "()I" } : Jvm.MethodName) ({ cls := "LifeKeys", name := "fault", desc := "()I" } : Jvm.MethodName)) ∈ BG := bg_4 (List.mem_of_getElem? (i := 23) (by decide +kernel)) (by decide +kernel)
theorem wd_744 : (Jvm.Cond.code ({ cls := "LifeKeys", name := "fault", desc := "()I" } : Jvm.MethodName) prog_1_method_23_code (1 : Nat) (Option.some Jvm.ClassFile.FieldType.int)) ∈ BG := bg_4 (List.mem_of_getElem? (i := 24) (by decide +kernel)) (by decide +kernel)
theorem wd_745 : (Jvm.Cond.methodLink "LifeKeys" (257 : Nat) ({ cls := "LifeKeys$Rules", name := "faultOf", desc := "([II)I" } : Jvm.MethodName)) ∈ BG := bg_4 (List.mem_of_getElem? (i := 25) (by decide +kernel)) (by decide +kernel)
theorem wd_746 : (Jvm.Cond.instanceMethod ({ cls := "LifeKeys$Rules", name := "faultOf", desc := "([II)I" } : Jvm.MethodName)) ∈ BG := bg_4 (List.mem_of_getElem? (i := 26) (by decide +kernel)) (by decide +kernel)
theorem wd_747 : (Jvm.Cond.selects "LifeKeys$Rules" ({ cls := "LifeKeys$Rules", name := "faultOf", desc := "([II)I" } : Jvm.MethodName) ({ cls := "LifeKeys$Rules", name := "faultOf", desc := "([II)I" } : Jvm.MethodName)) ∈ BG := bg_4 (List.mem_of_getElem? (i := 27) (by decide +kernel)) (by decide +kernel)
theorem wd_748 : (Jvm.Cond.code ({ cls := "LifeKeys$Rules", name := "faultOf", desc := "([II)I" } : Jvm.MethodName) prog_7_method_3_code (3 : Nat) (Option.some Jvm.ClassFile.FieldType.int)) ∈ BG := bg_4 (List.mem_of_getElem? (i := 28) (by decide +kernel)) (by decide +kernel)
theorem wd_749 : (Jvm.Cond.methodLink "LifeKeys$Rules" (37 : Nat) ({ cls := "java/lang/Math", name := "min", desc := "(II)I" } : Jvm.MethodName)) ∈ BG := bg_4 (List.mem_of_getElem? (i := 29) (by decide +kernel)) (by decide +kernel)
theorem wd_750 : (Jvm.Cond.static ({ cls := "java/lang/Math", name := "min", desc := "(II)I" } : Jvm.MethodName)) ∈ BG := bg_4 (List.mem_of_getElem? (i := 30) (by decide +kernel)) (by decide +kernel)
theorem wd_751 : (Jvm.Cond.code ({ cls := "java/lang/Math", name := "min", desc := "(II)I" } : Jvm.MethodName) prog_18_method_69_code (2 : Nat) (Option.some Jvm.ClassFile.FieldType.int)) ∈ BG := bg_4 (List.mem_of_getElem? (i := 31) (by decide +kernel)) (by decide +kernel)
theorem wd_752 : (Jvm.Cond.methodLink "LifeKeys$Rules" (52 : Nat) ({ cls := "LifeKeys$Rules", name := "any", desc := "(I)V" } : Jvm.MethodName)) ∈ BG := bg_4 (List.mem_of_getElem? (i := 32) (by decide +kernel)) (by decide +kernel)
theorem wd_754 : (Jvm.Cond.instanceMethod ({ cls := "LifeKeys$Rules", name := "any", desc := "(I)V" } : Jvm.MethodName)) ∈ BG := bg_4 (List.mem_of_getElem? (i := 34) (by decide +kernel)) (by decide +kernel)
theorem wd_755 : (Jvm.Cond.code ({ cls := "LifeKeys$Rules", name := "any", desc := "(I)V" } : Jvm.MethodName) prog_7_method_5_code (3 : Nat) (Option.none : Option Jvm.ClassFile.FieldType)) ∈ BG := bg_4 (List.mem_of_getElem? (i := 35) (by decide +kernel)) (by decide +kernel)
theorem wd_756 : (Jvm.Cond.methodLink "LifeKeys$Rules" (65 : Nat) ({ cls := "LifeKeys$Rules", name := "all", desc := "(I)V" } : Jvm.MethodName)) ∈ BG := bg_4 (List.mem_of_getElem? (i := 36) (by decide +kernel)) (by decide +kernel)
theorem wd_758 : (Jvm.Cond.instanceMethod ({ cls := "LifeKeys$Rules", name := "all", desc := "(I)V" } : Jvm.MethodName)) ∈ BG := bg_4 (List.mem_of_getElem? (i := 38) (by decide +kernel)) (by decide +kernel)
theorem wd_759 : (Jvm.Cond.code ({ cls := "LifeKeys$Rules", name := "all", desc := "(I)V" } : Jvm.MethodName) prog_7_method_6_code (3 : Nat) (Option.none : Option Jvm.ClassFile.FieldType)) ∈ BG := bg_4 (List.mem_of_getElem? (i := 39) (by decide +kernel)) (by decide +kernel)
theorem wd_760 : (Jvm.Cond.methodLink "LifeKeys$Rules" (76 : Nat) ({ cls := "LifeKeys$Rules", name := "unit", desc := "(I)V" } : Jvm.MethodName)) ∈ BG := bg_4 (List.mem_of_getElem? (i := 40) (by decide +kernel)) (by decide +kernel)
theorem wd_762 : (Jvm.Cond.instanceMethod ({ cls := "LifeKeys$Rules", name := "unit", desc := "(I)V" } : Jvm.MethodName)) ∈ BG := bg_4 (List.mem_of_getElem? (i := 42) (by decide +kernel)) (by decide +kernel)
theorem wd_763 : (Jvm.Cond.code ({ cls := "LifeKeys$Rules", name := "unit", desc := "(I)V" } : Jvm.MethodName) prog_7_method_7_code (3 : Nat) (Option.none : Option Jvm.ClassFile.FieldType)) ∈ BG := bg_4 (List.mem_of_getElem? (i := 43) (by decide +kernel)) (by decide +kernel)
theorem wd_764 : (Jvm.Cond.methodLink "LifeKeys$Rules" (79 : Nat) ({ cls := "LifeKeys$Rules", name := "skipBlanks", desc := "()V" } : Jvm.MethodName)) ∈ BG := bg_4 (List.mem_of_getElem? (i := 44) (by decide +kernel)) (by decide +kernel)
theorem wd_766 : (Jvm.Cond.instanceMethod ({ cls := "LifeKeys$Rules", name := "skipBlanks", desc := "()V" } : Jvm.MethodName)) ∈ BG := bg_4 (List.mem_of_getElem? (i := 46) (by decide +kernel)) (by decide +kernel)
theorem wd_767 : (Jvm.Cond.code ({ cls := "LifeKeys$Rules", name := "skipBlanks", desc := "()V" } : Jvm.MethodName) prog_7_method_14_code (1 : Nat) (Option.none : Option Jvm.ClassFile.FieldType)) ∈ BG := bg_4 (List.mem_of_getElem? (i := 47) (by decide +kernel)) (by decide +kernel)
theorem wd_768 : (Jvm.Cond.methodLink "LifeKeys$Rules" (82 : Nat) ({ cls := "LifeKeys$Rules", name := "here", desc := "()I" } : Jvm.MethodName)) ∈ BG := bg_4 (List.mem_of_getElem? (i := 48) (by decide +kernel)) (by decide +kernel)
theorem wd_770 : (Jvm.Cond.instanceMethod ({ cls := "LifeKeys$Rules", name := "here", desc := "()I" } : Jvm.MethodName)) ∈ BG := bg_4 (List.mem_of_getElem? (i := 50) (by decide +kernel)) (by decide +kernel)
theorem wd_771 : (Jvm.Cond.code ({ cls := "LifeKeys$Rules", name := "here", desc := "()I" } : Jvm.MethodName) prog_7_method_15_code (1 : Nat) (Option.some Jvm.ClassFile.FieldType.int)) ∈ BG := bg_4 (List.mem_of_getElem? (i := 51) (by decide +kernel)) (by decide +kernel)
theorem wd_772 : (Jvm.Cond.methodLink "LifeKeys$Rules" (86 : Nat) ({ cls := "LifeKeys$Rules", name := "enters", desc := "(I)Z" } : Jvm.MethodName)) ∈ BG := bg_4 (List.mem_of_getElem? (i := 52) (by decide +kernel)) (by decide +kernel)
theorem wd_774 : (Jvm.Cond.instanceMethod ({ cls := "LifeKeys$Rules", name := "enters", desc := "(I)Z" } : Jvm.MethodName)) ∈ BG := bg_4 (List.mem_of_getElem? (i := 54) (by decide +kernel)) (by decide +kernel)
theorem wd_775 : (Jvm.Cond.code ({ cls := "LifeKeys$Rules", name := "enters", desc := "(I)Z" } : Jvm.MethodName) prog_7_method_12_code (2 : Nat) (Option.some Jvm.ClassFile.FieldType.boolean)) ∈ BG := bg_4 (List.mem_of_getElem? (i := 55) (by decide +kernel)) (by decide +kernel)
theorem wd_776 : (Jvm.Cond.methodLink "LifeKeys$Rules" (56 : Nat) ({ cls := "LifeKeys$Rules", name := "stop", desc := "(I)V" } : Jvm.MethodName)) ∈ BG := bg_4 (List.mem_of_getElem? (i := 56) (by decide +kernel)) (by decide +kernel)
theorem wd_778 : (Jvm.Cond.instanceMethod ({ cls := "LifeKeys$Rules", name := "stop", desc := "(I)V" } : Jvm.MethodName)) ∈ BG := bg_4 (List.mem_of_getElem? (i := 58) (by decide +kernel)) (by decide +kernel)
theorem wd_779 : (Jvm.Cond.code ({ cls := "LifeKeys$Rules", name := "stop", desc := "(I)V" } : Jvm.MethodName) prog_7_method_16_code (2 : Nat) (Option.none : Option Jvm.ClassFile.FieldType)) ∈ BG := bg_4 (List.mem_of_getElem? (i := 59) (by decide +kernel)) (by decide +kernel)
theorem wd_780 : (Jvm.Cond.methodLink "LifeKeys$Rules" (72 : Nat) ({ cls := "LifeKeys$Rules", name := "write", desc := "(II)V" } : Jvm.MethodName)) ∈ BG := bg_4 (List.mem_of_getElem? (i := 60) (by decide +kernel)) (by decide +kernel)
theorem wd_782 : (Jvm.Cond.instanceMethod ({ cls := "LifeKeys$Rules", name := "write", desc := "(II)V" } : Jvm.MethodName)) ∈ BG := bg_4 (List.mem_of_getElem? (i := 62) (by decide +kernel)) (by decide +kernel)
theorem wd_783 : (Jvm.Cond.code ({ cls := "LifeKeys$Rules", name := "write", desc := "(II)V" } : Jvm.MethodName) prog_7_method_17_code (3 : Nat) (Option.none : Option Jvm.ClassFile.FieldType)) ∈ BG := bg_4 (List.mem_of_getElem? (i := 63) (by decide +kernel)) (by decide +kernel)
theorem wd_784 : (Jvm.Cond.methodLink "LifeKeys$Rules" (89 : Nat) ({ cls := "LifeKeys$Rules", name := "within", desc := "(I)V" } : Jvm.MethodName)) ∈ BG := bg_4 (List.mem_of_getElem? (i := 64) (by decide +kernel)) (by decide +kernel)
theorem wd_786 : (Jvm.Cond.instanceMethod ({ cls := "LifeKeys$Rules", name := "within", desc := "(I)V" } : Jvm.MethodName)) ∈ BG := bg_4 (List.mem_of_getElem? (i := 66) (by decide +kernel)) (by decide +kernel)
theorem wd_787 : (Jvm.Cond.code ({ cls := "LifeKeys$Rules", name := "within", desc := "(I)V" } : Jvm.MethodName) prog_7_method_8_code (2 : Nat) (Option.none : Option Jvm.ClassFile.FieldType)) ∈ BG := bg_4 (List.mem_of_getElem? (i := 67) (by decide +kernel)) (by decide +kernel)
theorem wd_788 : (Jvm.Cond.methodLink "LifeKeys$Rules" (68 : Nat) ({ cls := "LifeKeys$Rules", name := "passes", desc := "(I)Z" } : Jvm.MethodName)) ∈ BG := bg_4 (List.mem_of_getElem? (i := 68) (by decide +kernel)) (by decide +kernel)
theorem wd_790 : (Jvm.Cond.instanceMethod ({ cls := "LifeKeys$Rules", name := "passes", desc := "(I)Z" } : Jvm.MethodName)) ∈ BG := bg_4 (List.mem_of_getElem? (i := 70) (by decide +kernel)) (by decide +kernel)
theorem wd_791 : (Jvm.Cond.code ({ cls := "LifeKeys$Rules", name := "passes", desc := "(I)Z" } : Jvm.MethodName) prog_7_method_13_code (2 : Nat) (Option.some Jvm.ClassFile.FieldType.boolean)) ∈ BG := bg_4 (List.mem_of_getElem? (i := 71) (by decide +kernel)) (by decide +kernel)
theorem wd_792 : (Jvm.Cond.methodLink "LifeKeys$Rules" (92 : Nat) ({ cls := "LifeKeys$Rules", name := "isDigit", desc := "(I)Z" } : Jvm.MethodName)) ∈ BG := bg_4 (List.mem_of_getElem? (i := 72) (by decide +kernel)) (by decide +kernel)
theorem wd_793 : (Jvm.Cond.static ({ cls := "LifeKeys$Rules", name := "isDigit", desc := "(I)Z" } : Jvm.MethodName)) ∈ BG := bg_4 (List.mem_of_getElem? (i := 73) (by decide +kernel)) (by decide +kernel)
theorem wd_794 : (Jvm.Cond.code ({ cls := "LifeKeys$Rules", name := "isDigit", desc := "(I)Z" } : Jvm.MethodName) prog_7_method_18_code (1 : Nat) (Option.some Jvm.ClassFile.FieldType.boolean)) ∈ BG := bg_4 (List.mem_of_getElem? (i := 74) (by decide +kernel)) (by decide +kernel)
theorem wd_795 : (Jvm.Cond.methodLink "LifeKeys$Rules" (95 : Nat) ({ cls := "LifeKeys$Rules", name := "atLeast", desc := "(I)V" } : Jvm.MethodName)) ∈ BG := bg_4 (List.mem_of_getElem? (i := 75) (by decide +kernel)) (by decide +kernel)
theorem wd_797 : (Jvm.Cond.instanceMethod ({ cls := "LifeKeys$Rules", name := "atLeast", desc := "(I)V" } : Jvm.MethodName)) ∈ BG := bg_4 (List.mem_of_getElem? (i := 77) (by decide +kernel)) (by decide +kernel)
theorem wd_798 : (Jvm.Cond.code ({ cls := "LifeKeys$Rules", name := "atLeast", desc := "(I)V" } : Jvm.MethodName) prog_7_method_9_code (5 : Nat) (Option.none : Option Jvm.ClassFile.FieldType)) ∈ BG := bg_4 (List.mem_of_getElem? (i := 78) (by decide +kernel)) (by decide +kernel)
theorem wd_799 : (Jvm.Cond.methodLink "LifeKeys$Rules" (101 : Nat) ({ cls := "LifeKeys$Rules", name := "numbe\x72", desc := "(I)I" } : Jvm.MethodName)) ∈ BG := bg_4 (List.mem_of_getElem? (i := 79) (by decide +kernel)) (by decide +kernel)
theorem wd_801 : (Jvm.Cond.instanceMethod ({ cls := "LifeKeys$Rules", name := "numbe\x72", desc := "(I)I" } : Jvm.MethodName)) ∈ BG := bg_4 (List.mem_of_getElem? (i := 81) (by decide +kernel)) (by decide +kernel)
theorem wd_802 : (Jvm.Cond.code ({ cls := "LifeKeys$Rules", name := "numbe\x72", desc := "(I)I" } : Jvm.MethodName) prog_7_method_11_code (4 : Nat) (Option.some Jvm.ClassFile.FieldType.int)) ∈ BG := bg_4 (List.mem_of_getElem? (i := 82) (by decide +kernel)) (by decide +kernel)
theorem wd_803 : (Jvm.Cond.methodLink "LifeKeys$Rules" (98 : Nat) ({ cls := "LifeKeys$Rules", name := "fact", desc := "(I)V" } : Jvm.MethodName)) ∈ BG := bg_4 (List.mem_of_getElem? (i := 83) (by decide +kernel)) (by decide +kernel)
theorem wd_805 : (Jvm.Cond.instanceMethod ({ cls := "LifeKeys$Rules", name := "fact", desc := "(I)V" } : Jvm.MethodName)) ∈ BG := bg_4 (List.mem_of_getElem? (i := 85) (by decide +kernel)) (by decide +kernel)
theorem wd_806 : (Jvm.Cond.code ({ cls := "LifeKeys$Rules", name := "fact", desc := "(I)V" } : Jvm.MethodName) prog_7_method_10_code (3 : Nat) (Option.none : Option Jvm.ClassFile.FieldType)) ∈ BG := bg_4 (List.mem_of_getElem? (i := 86) (by decide +kernel)) (by decide +kernel)
theorem wd_807 : (Jvm.Cond.methodLink "LifeKeysLaw" (124 : Nat) ({ cls := "LifeKeys", name := "rule", desc := "()I" } : Jvm.MethodName)) ∈ BG := bg_4 (List.mem_of_getElem? (i := 87) (by decide +kernel)) (by decide +kernel)
theorem wd_808 : (Jvm.Cond.instanceMethod ({ cls := "LifeKeys", name := "rule", desc := "()I" } : Jvm.MethodName)) ∈ BG := bg_4 (List.mem_of_getElem? (i := 88) (by decide +kernel)) (by decide +kernel)
theorem wd_809 : (Jvm.Cond.selects "LifeKeys" ({ cls := "LifeKeys", name := "rule", desc := "()I" } : Jvm.MethodName) ({ cls := "LifeKeys", name := "rule", desc := "()I" } : Jvm.MethodName)) ∈ BG := bg_4 (List.mem_of_getElem? (i := 89) (by decide +kernel)) (by decide +kernel)
theorem wd_810 : (Jvm.Cond.code ({ cls := "LifeKeys", name := "rule", desc := "()I" } : Jvm.MethodName) prog_1_method_24_code (2 : Nat) (Option.some Jvm.ClassFile.FieldType.int)) ∈ BG := bg_4 (List.mem_of_getElem? (i := 90) (by decide +kernel)) (by decide +kernel)
theorem wd_811 : (Jvm.Cond.methodLink "LifeKeys" (261 : Nat) ({ cls := "LifeKeys$Rules", name := "keepDraft", desc := "()I" } : Jvm.MethodName)) ∈ BG := bg_4 (List.mem_of_getElem? (i := 91) (by decide +kernel)) (by decide +kernel)
theorem wd_812 : (Jvm.Cond.instanceMethod ({ cls := "LifeKeys$Rules", name := "keepDraft", desc := "()I" } : Jvm.MethodName)) ∈ BG := bg_4 (List.mem_of_getElem? (i := 92) (by decide +kernel)) (by decide +kernel)
theorem wd_813 : (Jvm.Cond.selects "LifeKeys$Rules" ({ cls := "LifeKeys$Rules", name := "keepDraft", desc := "()I" } : Jvm.MethodName) ({ cls := "LifeKeys$Rules", name := "keepDraft", desc := "()I" } : Jvm.MethodName)) ∈ BG := bg_4 (List.mem_of_getElem? (i := 93) (by decide +kernel)) (by decide +kernel)
theorem wd_814 : (Jvm.Cond.code ({ cls := "LifeKeys$Rules", name := "keepDraft", desc := "()I" } : Jvm.MethodName) prog_7_method_4_code (1 : Nat) (Option.some Jvm.ClassFile.FieldType.int)) ∈ BG := bg_4 (List.mem_of_getElem? (i := 94) (by decide +kernel)) (by decide +kernel)
theorem wd_815 : (Jvm.Cond.methodLink "LifeKeys$Rules" (59 : Nat) ({ cls := "java/lang/System", name := "arraycopy", desc := "(Ljava/lang/Object;ILjava/lang/Object;II)V" } : Jvm.MethodName)) ∈ BG := bg_4 (List.mem_of_getElem? (i := 95) (by decide +kernel)) (by decide +kernel)
theorem wd_816 : (Jvm.Cond.static ({ cls := "java/lang/System", name := "arraycopy", desc := "(Ljava/lang/Object;ILjava/lang/Object;II)V" } : Jvm.MethodName)) ∈ BG := bg_4 (List.mem_of_getElem? (i := 96) (by decide +kernel)) (by decide +kernel)
theorem wd_817 : (Jvm.Cond.native ({ cls := "java/lang/System", name := "arraycopy", desc := "(Ljava/lang/Object;ILjava/lang/Object;II)V" } : Jvm.MethodName)) ∈ tables_1 := bm_4 (List.mem_of_getElem? (i := 97) (by decide +kernel))
theorem wd_818 : (Jvm.Cond.methodLink "LifeKeysLaw" (128 : Nat) ({ cls := "LifeKeys", name := "death", desc := "(II)Z" } : Jvm.MethodName)) ∈ BG := bg_4 (List.mem_of_getElem? (i := 98) (by decide +kernel)) (by decide +kernel)
theorem wd_819 : (Jvm.Cond.instanceMethod ({ cls := "LifeKeys", name := "death", desc := "(II)Z" } : Jvm.MethodName)) ∈ BG := bg_4 (List.mem_of_getElem? (i := 99) (by decide +kernel)) (by decide +kernel)
theorem wd_820 : (Jvm.Cond.selects "LifeKeys" ({ cls := "LifeKeys", name := "death", desc := "(II)Z" } : Jvm.MethodName) ({ cls := "LifeKeys", name := "death", desc := "(II)Z" } : Jvm.MethodName)) ∈ BG := bg_4 (List.mem_of_getElem? (i := 100) (by decide +kernel)) (by decide +kernel)
theorem wd_821 : (Jvm.Cond.code ({ cls := "LifeKeys", name := "death", desc := "(II)Z" } : Jvm.MethodName) prog_1_method_25_code (3 : Nat) (Option.some Jvm.ClassFile.FieldType.boolean)) ∈ BG := bg_4 (List.mem_of_getElem? (i := 101) (by decide +kernel)) (by decide +kernel)
theorem wd_822 : (Jvm.Cond.methodLink "LifeKeys" (264 : Nat) ({ cls := "LifeKeys$Rules", name := "knows", desc := "(I)Z" } : Jvm.MethodName)) ∈ BG := bg_4 (List.mem_of_getElem? (i := 102) (by decide +kernel)) (by decide +kernel)
theorem wd_823 : (Jvm.Cond.instanceMethod ({ cls := "LifeKeys$Rules", name := "knows", desc := "(I)Z" } : Jvm.MethodName)) ∈ BG := bg_4 (List.mem_of_getElem? (i := 103) (by decide +kernel)) (by decide +kernel)
theorem wd_824 : (Jvm.Cond.selects "LifeKeys$Rules" ({ cls := "LifeKeys$Rules", name := "knows", desc := "(I)Z" } : Jvm.MethodName) ({ cls := "LifeKeys$Rules", name := "knows", desc := "(I)Z" } : Jvm.MethodName)) ∈ BG := bg_4 (List.mem_of_getElem? (i := 104) (by decide +kernel)) (by decide +kernel)
theorem wd_825 : (Jvm.Cond.code ({ cls := "LifeKeys$Rules", name := "knows", desc := "(I)Z" } : Jvm.MethodName) prog_7_method_2_code (2 : Nat) (Option.some Jvm.ClassFile.FieldType.boolean)) ∈ BG := bg_4 (List.mem_of_getElem? (i := 105) (by decide +kernel)) (by decide +kernel)
theorem wd_826 : (Jvm.Cond.methodLink "LifeKeys" (265 : Nat) ({ cls := "LifeKeys$Sayings", name := "addRuleOfDeath", desc := "(III)Z" } : Jvm.MethodName)) ∈ BG := bg_4 (List.mem_of_getElem? (i := 106) (by decide +kernel)) (by decide +kernel)
theorem wd_827 : (Jvm.Cond.instanceMethod ({ cls := "LifeKeys$Sayings", name := "addRuleOfDeath", desc := "(III)Z" } : Jvm.MethodName)) ∈ BG := bg_4 (List.mem_of_getElem? (i := 107) (by decide +kernel)) (by decide +kernel)
theorem wd_828 : (Jvm.Cond.selects "LifeKeys$Sayings" ({ cls := "LifeKeys$Sayings", name := "addRuleOfDeath", desc := "(III)Z" } : Jvm.MethodName) ({ cls := "LifeKeys$Sayings", name := "addRuleOfDeath", desc := "(III)Z" } : Jvm.MethodName)) ∈ BG := bg_4 (List.mem_of_getElem? (i := 108) (by decide +kernel)) (by decide +kernel)
theorem wd_829 : (Jvm.Cond.code ({ cls := "LifeKeys$Sayings", name := "addRuleOfDeath", desc := "(III)Z" } : Jvm.MethodName) prog_8_method_4_code (4 : Nat) (Option.some Jvm.ClassFile.FieldType.boolean)) ∈ BG := bg_4 (List.mem_of_getElem? (i := 109) (by decide +kernel)) (by decide +kernel)
theorem wd_830 : (Jvm.Cond.methodLink "LifeKeysLaw" (132 : Nat) ({ cls := "LifeKeys", name := "seal", desc := "(IIZ)I" } : Jvm.MethodName)) ∈ BG := bg_4 (List.mem_of_getElem? (i := 110) (by decide +kernel)) (by decide +kernel)
theorem wd_831 : (Jvm.Cond.instanceMethod ({ cls := "LifeKeys", name := "seal", desc := "(IIZ)I" } : Jvm.MethodName)) ∈ BG := bg_4 (List.mem_of_getElem? (i := 111) (by decide +kernel)) (by decide +kernel)
theorem wd_832 : (Jvm.Cond.selects "LifeKeys" ({ cls := "LifeKeys", name := "seal", desc := "(IIZ)I" } : Jvm.MethodName) ({ cls := "LifeKeys", name := "seal", desc := "(IIZ)I" } : Jvm.MethodName)) ∈ BG := bg_4 (List.mem_of_getElem? (i := 112) (by decide +kernel)) (by decide +kernel)
theorem wd_833 : (Jvm.Cond.code ({ cls := "LifeKeys", name := "seal", desc := "(IIZ)I" } : Jvm.MethodName) prog_1_method_26_code (5 : Nat) (Option.some Jvm.ClassFile.FieldType.int)) ∈ BG := bg_4 (List.mem_of_getElem? (i := 113) (by decide +kernel)) (by decide +kernel)
theorem wd_834 : (Jvm.Cond.methodLink "LifeKeys" (268 : Nat) ({ cls := "LifeKeys$Things", name := "add", desc := "(IIZ)I" } : Jvm.MethodName)) ∈ BG := bg_4 (List.mem_of_getElem? (i := 114) (by decide +kernel)) (by decide +kernel)
theorem wd_835 : (Jvm.Cond.instanceMethod ({ cls := "LifeKeys$Things", name := "add", desc := "(IIZ)I" } : Jvm.MethodName)) ∈ BG := bg_4 (List.mem_of_getElem? (i := 115) (by decide +kernel)) (by decide +kernel)
theorem wd_836 : (Jvm.Cond.selects "LifeKeys$Things" ({ cls := "LifeKeys$Things", name := "add", desc := "(IIZ)I" } : Jvm.MethodName) ({ cls := "LifeKeys$Things", name := "add", desc := "(IIZ)I" } : Jvm.MethodName)) ∈ BG := bg_4 (List.mem_of_getElem? (i := 116) (by decide +kernel)) (by decide +kernel)
theorem wd_837 : (Jvm.Cond.code ({ cls := "LifeKeys$Things", name := "add", desc := "(IIZ)I" } : Jvm.MethodName) prog_11_method_4_code (4 : Nat) (Option.some Jvm.ClassFile.FieldType.int)) ∈ BG := bg_4 (List.mem_of_getElem? (i := 117) (by decide +kernel)) (by decide +kernel)
theorem wd_838 : (Jvm.Cond.methodLink "LifeKeysLaw" (137 : Nat) ({ cls := "LifeKeys", name := "say", desc := "(IIZ)Z" } : Jvm.MethodName)) ∈ BG := bg_4 (List.mem_of_getElem? (i := 118) (by decide +kernel)) (by decide +kernel)
theorem wd_839 : (Jvm.Cond.instanceMethod ({ cls := "LifeKeys", name := "say", desc := "(IIZ)Z" } : Jvm.MethodName)) ∈ BG := bg_4 (List.mem_of_getElem? (i := 119) (by decide +kernel)) (by decide +kernel)
theorem wd_840 : (Jvm.Cond.selects "LifeKeys" ({ cls := "LifeKeys", name := "say", desc := "(IIZ)Z" } : Jvm.MethodName) ({ cls := "LifeKeys", name := "say", desc := "(IIZ)Z" } : Jvm.MethodName)) ∈ BG := bg_4 (List.mem_of_getElem? (i := 120) (by decide +kernel)) (by decide +kernel)
theorem wd_841 : (Jvm.Cond.code ({ cls := "LifeKeys", name := "say", desc := "(IIZ)Z" } : Jvm.MethodName) prog_1_method_27_code (4 : Nat) (Option.some Jvm.ClassFile.FieldType.boolean)) ∈ BG := bg_4 (List.mem_of_getElem? (i := 121) (by decide +kernel)) (by decide +kernel)
theorem wd_842 : (Jvm.Cond.methodLink "LifeKeys" (271 : Nat) ({ cls := "LifeKeys$Things", name := "knows", desc := "(I)Z" } : Jvm.MethodName)) ∈ BG := bg_4 (List.mem_of_getElem? (i := 122) (by decide +kernel)) (by decide +kernel)
theorem wd_843 : (Jvm.Cond.instanceMethod ({ cls := "LifeKeys$Things", name := "knows", desc := "(I)Z" } : Jvm.MethodName)) ∈ BG := bg_4 (List.mem_of_getElem? (i := 123) (by decide +kernel)) (by decide +kernel)
theorem wd_844 : (Jvm.Cond.selects "LifeKeys$Things" ({ cls := "LifeKeys$Things", name := "knows", desc := "(I)Z" } : Jvm.MethodName) ({ cls := "LifeKeys$Things", name := "knows", desc := "(I)Z" } : Jvm.MethodName)) ∈ BG := bg_4 (List.mem_of_getElem? (i := 124) (by decide +kernel)) (by decide +kernel)
theorem wd_845 : (Jvm.Cond.code ({ cls := "LifeKeys$Things", name := "knows", desc := "(I)Z" } : Jvm.MethodName) prog_11_method_2_code (2 : Nat) (Option.some Jvm.ClassFile.FieldType.boolean)) ∈ BG := bg_4 (List.mem_of_getElem? (i := 125) (by decide +kernel)) (by decide +kernel)
theorem wd_846 : (Jvm.Cond.methodLink "LifeKeys" (272 : Nat) ({ cls := "LifeKeys$Sayings", name := "add", desc := "(IIZI)Z" } : Jvm.MethodName)) ∈ BG := bg_4 (List.mem_of_getElem? (i := 126) (by decide +kernel)) (by decide +kernel)
theorem wd_847 : (Jvm.Cond.instanceMethod ({ cls := "LifeKeys$Sayings", name := "add", desc := "(IIZI)Z" } : Jvm.MethodName)) ∈ BG := bg_4 (List.mem_of_getElem? (i := 127) (by decide +kernel)) (by decide +kernel)
theorem wd_848 : (Jvm.Cond.selects "LifeKeys$Sayings" ({ cls := "LifeKeys$Sayings", name := "add", desc := "(IIZI)Z" } : Jvm.MethodName) ({ cls := "LifeKeys$Sayings", name := "add", desc := "(IIZI)Z" } : Jvm.MethodName)) ∈ BG := bg_4 (List.mem_of_getElem? (i := 128) (by decide +kernel)) (by decide +kernel)
theorem wd_849 : (Jvm.Cond.code ({ cls := "LifeKeys$Sayings", name := "add", desc := "(IIZI)Z" } : Jvm.MethodName) prog_8_method_3_code (5 : Nat) (Option.some Jvm.ClassFile.FieldType.boolean)) ∈ BG := bg_4 (List.mem_of_getElem? (i := 129) (by decide +kernel)) (by decide +kernel)
theorem wd_850 : (Jvm.Cond.methodLink "LifeKeysLaw" (142 : Nat) ({ cls := "LifeKeys", name := "mourn", desc := "(IIZ)Z" } : Jvm.MethodName)) ∈ BG := bg_4 (List.mem_of_getElem? (i := 130) (by decide +kernel)) (by decide +kernel)
theorem wd_851 : (Jvm.Cond.instanceMethod ({ cls := "LifeKeys", name := "mourn", desc := "(IIZ)Z" } : Jvm.MethodName)) ∈ BG := bg_4 (List.mem_of_getElem? (i := 131) (by decide +kernel)) (by decide +kernel)
theorem wd_852 : (Jvm.Cond.selects "LifeKeys" ({ cls := "LifeKeys", name := "mourn", desc := "(IIZ)Z" } : Jvm.MethodName) ({ cls := "LifeKeys", name := "mourn", desc := "(IIZ)Z" } : Jvm.MethodName)) ∈ BG := bg_4 (List.mem_of_getElem? (i := 132) (by decide +kernel)) (by decide +kernel)
theorem wd_853 : (Jvm.Cond.code ({ cls := "LifeKeys", name := "mourn", desc := "(IIZ)Z" } : Jvm.MethodName) prog_1_method_28_code (4 : Nat) (Option.some Jvm.ClassFile.FieldType.boolean)) ∈ BG := bg_4 (List.mem_of_getElem? (i := 133) (by decide +kernel)) (by decide +kernel)
theorem wd_854 : (Jvm.Cond.methodLink "LifeKeys" (275 : Nat) ({ cls := "LifeKeys$Sayings", name := "deathOf", desc := "(I)I" } : Jvm.MethodName)) ∈ BG := bg_4 (List.mem_of_getElem? (i := 134) (by decide +kernel)) (by decide +kernel)
theorem wd_855 : (Jvm.Cond.static ({ cls := "LifeKeys$Sayings", name := "deathOf", desc := "(I)I" } : Jvm.MethodName)) ∈ BG := bg_4 (List.mem_of_getElem? (i := 135) (by decide +kernel)) (by decide +kernel)
theorem wd_856 : (Jvm.Cond.code ({ cls := "LifeKeys$Sayings", name := "deathOf", desc := "(I)I" } : Jvm.MethodName) prog_8_method_2_code (1 : Nat) (Option.some Jvm.ClassFile.FieldType.int)) ∈ BG := bg_4 (List.mem_of_getElem? (i := 136) (by decide +kernel)) (by decide +kernel)
theorem wd_857 : (Jvm.Cond.methodLink "LifeKeysLaw" (146 : Nat) ({ cls := "LifeKeys", name := "ask", desc := "(I)Z" } : Jvm.MethodName)) ∈ BG := bg_4 (List.mem_of_getElem? (i := 137) (by decide +kernel)) (by decide +kernel)
theorem wd_858 : (Jvm.Cond.instanceMethod ({ cls := "LifeKeys", name := "ask", desc := "(I)Z" } : Jvm.MethodName)) ∈ BG := bg_4 (List.mem_of_getElem? (i := 138) (by decide +kernel)) (by decide +kernel)
theorem wd_859 : (Jvm.Cond.selects "LifeKeys" ({ cls := "LifeKeys", name := "ask", desc := "(I)Z" } : Jvm.MethodName) ({ cls := "LifeKeys", name := "ask", desc := "(I)Z" } : Jvm.MethodName)) ∈ BG := bg_4 (List.mem_of_getElem? (i := 139) (by decide +kernel)) (by decide +kernel)
theorem wd_860 : (Jvm.Cond.code ({ cls := "LifeKeys", name := "ask", desc := "(I)Z" } : Jvm.MethodName) prog_1_method_29_code (2 : Nat) (Option.some Jvm.ClassFile.FieldType.boolean)) ∈ BG := bg_4 (List.mem_of_getElem? (i := 140) (by decide +kernel)) (by decide +kernel)
theorem wd_861 : (Jvm.Cond.methodLink "LifeKeysLaw" (150 : Nat) ({ cls := "LifeKeys", name := "may", desc := "(III)I" } : Jvm.MethodName)) ∈ BG := bg_4 (List.mem_of_getElem? (i := 141) (by decide +kernel)) (by decide +kernel)
theorem wd_862 : (Jvm.Cond.instanceMethod ({ cls := "LifeKeys", name := "may", desc := "(III)I" } : Jvm.MethodName)) ∈ BG := bg_4 (List.mem_of_getElem? (i := 142) (by decide +kernel)) (by decide +kernel)
theorem wd_863 : (Jvm.Cond.selects "LifeKeys" ({ cls := "LifeKeys", name := "may", desc := "(III)I" } : Jvm.MethodName) ({ cls := "LifeKeys", name := "may", desc := "(III)I" } : Jvm.MethodName)) ∈ BG := bg_4 (List.mem_of_getElem? (i := 143) (by decide +kernel)) (by decide +kernel)
theorem wd_864 : (Jvm.Cond.code ({ cls := "LifeKeys", name := "may", desc := "(III)I" } : Jvm.MethodName) prog_1_method_30_code (4 : Nat) (Option.some Jvm.ClassFile.FieldType.int)) ∈ BG := bg_4 (List.mem_of_getElem? (i := 144) (by decide +kernel)) (by decide +kernel)
theorem wd_865 : (Jvm.Cond.methodLink "LifeKeys" (281 : Nat) ({ cls := "LifeKeys$Things", name := "isByRule", desc := "(I)Z" } : Jvm.MethodName)) ∈ BG := bg_4 (List.mem_of_getElem? (i := 145) (by decide +kernel)) (by decide +kernel)
theorem wd_866 : (Jvm.Cond.instanceMethod ({ cls := "LifeKeys$Things", name := "isByRule", desc := "(I)Z" } : Jvm.MethodName)) ∈ BG := bg_4 (List.mem_of_getElem? (i := 146) (by decide +kernel)) (by decide +kernel)
theorem wd_867 : (Jvm.Cond.selects "LifeKeys$Things" ({ cls := "LifeKeys$Things", name := "isByRule", desc := "(I)Z" } : Jvm.MethodName) ({ cls := "LifeKeys$Things", name := "isByRule", desc := "(I)Z" } : Jvm.MethodName)) ∈ BG := bg_4 (List.mem_of_getElem? (i := 147) (by decide +kernel)) (by decide +kernel)
theorem wd_868 : (Jvm.Cond.code ({ cls := "LifeKeys$Things", name := "isByRule", desc := "(I)Z" } : Jvm.MethodName) prog_11_method_3_code (2 : Nat) (Option.some Jvm.ClassFile.FieldType.boolean)) ∈ BG := bg_4 (List.mem_of_getElem? (i := 148) (by decide +kernel)) (by decide +kernel)
theorem wd_869 : (Jvm.Cond.methodLink "LifeKeys$Things" (32 : Nat) ({ cls := "LifeKeys$Things", name := "knows", desc := "(I)Z" } : Jvm.MethodName)) ∈ BG := bg_4 (List.mem_of_getElem? (i := 149) (by decide +kernel)) (by decide +kernel)
theorem wd_870 : (Jvm.Cond.methodLink "LifeKeys" (284 : Nat) ({ cls := "LifeKeys", name := "isDay", desc := "(I)Z" } : Jvm.MethodName)) ∈ BG := bg_4 (List.mem_of_getElem? (i := 150) (by decide +kernel)) (by decide +kernel)
theorem wd_871 : (Jvm.Cond.static ({ cls := "LifeKeys", name := "isDay", desc := "(I)Z" } : Jvm.MethodName)) ∈ BG := bg_4 (List.mem_of_getElem? (i := 151) (by decide +kernel)) (by decide +kernel)
theorem wd_872 : (Jvm.Cond.code ({ cls := "LifeKeys", name := "isDay", desc := "(I)Z" } : Jvm.MethodName) prog_1_method_59_code (1 : Nat) (Option.some Jvm.ClassFile.FieldType.boolean)) ∈ BG := bg_4 (List.mem_of_getElem? (i := 152) (by decide +kernel)) (by decide +kernel)
theorem wd_873 : (Jvm.Cond.methodLink "LifeKeys" (287 : Nat) ({ cls := "LifeKeys", name := "ruleHolds", desc := "(III)Z" } : Jvm.MethodName)) ∈ BG := bg_4 (List.mem_of_getElem? (i := 153) (by decide +kernel)) (by decide +kernel)
theorem wd_875 : (Jvm.Cond.instanceMethod ({ cls := "LifeKeys", name := "ruleHolds", desc := "(III)Z" } : Jvm.MethodName)) ∈ BG := bg_4 (List.mem_of_getElem? (i := 155) (by decide +kernel)) (by decide +kernel)
theorem wd_876 : (Jvm.Cond.code ({ cls := "LifeKeys", name := "ruleHolds", desc := "(III)Z" } : Jvm.MethodName) prog_1_method_62_code (8 : Nat) (Option.some Jvm.ClassFile.FieldType.boolean)) ∈ BG := bg_4 (List.mem_of_getElem? (i := 156) (by decide +kernel)) (by decide +kernel)
theorem wd_877 : (Jvm.Cond.methodLink "LifeKeys" (418 : Nat) ({ cls := "java/lang/Math", name := "min", desc := "(II)I" } : Jvm.MethodName)) ∈ BG := bg_4 (List.mem_of_getElem? (i := 157) (by decide +kernel)) (by decide +kernel)
theorem wd_878 : (Jvm.Cond.methodLink "LifeKeys" (290 : Nat) ({ cls := "LifeKeys", name := "isDead", desc := "(III)Z" } : Jvm.MethodName)) ∈ BG := bg_4 (List.mem_of_getElem? (i := 158) (by decide +kernel)) (by decide +kernel)
theorem wd_880 : (Jvm.Cond.instanceMethod ({ cls := "LifeKeys", name := "isDead", desc := "(III)Z" } : Jvm.MethodName)) ∈ BG := bg_4 (List.mem_of_getElem? (i := 160) (by decide +kernel)) (by decide +kernel)
theorem wd_881 : (Jvm.Cond.code ({ cls := "LifeKeys", name := "isDead", desc := "(III)Z" } : Jvm.MethodName) prog_1_method_63_code (9 : Nat) (Option.some Jvm.ClassFile.FieldType.boolean)) ∈ BG := bg_4 (List.mem_of_getElem? (i := 161) (by decide +kernel)) (by decide +kernel)
theorem wd_882 : (Jvm.Cond.methodLink "LifeKeys" (431 : Nat) ({ cls := "LifeKeys$Sayings", name := "ruleOfDeath", desc := "(II)I" } : Jvm.MethodName)) ∈ BG := bg_4 (List.mem_of_getElem? (i := 162) (by decide +kernel)) (by decide +kernel)
theorem wd_883 : (Jvm.Cond.instanceMethod ({ cls := "LifeKeys$Sayings", name := "ruleOfDeath", desc := "(II)I" } : Jvm.MethodName)) ∈ BG := bg_4 (List.mem_of_getElem? (i := 163) (by decide +kernel)) (by decide +kernel)
theorem wd_884 : (Jvm.Cond.selects "LifeKeys$Sayings" ({ cls := "LifeKeys$Sayings", name := "ruleOfDeath", desc := "(II)I" } : Jvm.MethodName) ({ cls := "LifeKeys$Sayings", name := "ruleOfDeath", desc := "(II)I" } : Jvm.MethodName)) ∈ BG := bg_4 (List.mem_of_getElem? (i := 164) (by decide +kernel)) (by decide +kernel)
theorem wd_885 : (Jvm.Cond.code ({ cls := "LifeKeys$Sayings", name := "ruleOfDeath", desc := "(II)I" } : Jvm.MethodName) prog_8_method_5_code (4 : Nat) (Option.some Jvm.ClassFile.FieldType.int)) ∈ BG := bg_4 (List.mem_of_getElem? (i := 165) (by decide +kernel)) (by decide +kernel)
theorem wd_886 : (Jvm.Cond.methodLink "LifeKeys" (434 : Nat) ({ cls := "LifeKeys$Sayings", name := "firstYes", desc := "(II)I" } : Jvm.MethodName)) ∈ BG := bg_4 (List.mem_of_getElem? (i := 166) (by decide +kernel)) (by decide +kernel)
theorem wd_887 : (Jvm.Cond.instanceMethod ({ cls := "LifeKeys$Sayings", name := "firstYes", desc := "(II)I" } : Jvm.MethodName)) ∈ BG := bg_4 (List.mem_of_getElem? (i := 167) (by decide +kernel)) (by decide +kernel)
theorem wd_888 : (Jvm.Cond.selects "LifeKeys$Sayings" ({ cls := "LifeKeys$Sayings", name := "firstYes", desc := "(II)I" } : Jvm.MethodName) ({ cls := "LifeKeys$Sayings", name := "firstYes", desc := "(II)I" } : Jvm.MethodName)) ∈ BG := bg_4 (List.mem_of_getElem? (i := 168) (by decide +kernel)) (by decide +kernel)
theorem wd_889 : (Jvm.Cond.code ({ cls := "LifeKeys$Sayings", name := "firstYes", desc := "(II)I" } : Jvm.MethodName) prog_8_method_7_code (4 : Nat) (Option.some Jvm.ClassFile.FieldType.int)) ∈ BG := bg_4 (List.mem_of_getElem? (i := 169) (by decide +kernel)) (by decide +kernel)
theorem wd_890 : (Jvm.Cond.methodLink "LifeKeys" (424 : Nat) ({ cls := "LifeKeys$Sayings", name := "voices", desc := "(II)I" } : Jvm.MethodName)) ∈ BG := bg_4 (List.mem_of_getElem? (i := 170) (by decide +kernel)) (by decide +kernel)
theorem wd_891 : (Jvm.Cond.instanceMethod ({ cls := "LifeKeys$Sayings", name := "voices", desc := "(II)I" } : Jvm.MethodName)) ∈ BG := bg_4 (List.mem_of_getElem? (i := 171) (by decide +kernel)) (by decide +kernel)
theorem wd_892 : (Jvm.Cond.selects "LifeKeys$Sayings" ({ cls := "LifeKeys$Sayings", name := "voices", desc := "(II)I" } : Jvm.MethodName) ({ cls := "LifeKeys$Sayings", name := "voices", desc := "(II)I" } : Jvm.MethodName)) ∈ BG := bg_4 (List.mem_of_getElem? (i := 172) (by decide +kernel)) (by decide +kernel)
theorem wd_893 : (Jvm.Cond.code ({ cls := "LifeKeys$Sayings", name := "voices", desc := "(II)I" } : Jvm.MethodName) prog_8_method_6_code (6 : Nat) (Option.some Jvm.ClassFile.FieldType.int)) ∈ BG := bg_4 (List.mem_of_getElem? (i := 173) (by decide +kernel)) (by decide +kernel)
theorem wd_894 : (Jvm.Cond.methodLink "LifeKeys" (427 : Nat) ({ cls := "LifeKeys$Rules", name := "holds", desc := "(IIII)Z" } : Jvm.MethodName)) ∈ BG := bg_4 (List.mem_of_getElem? (i := 174) (by decide +kernel)) (by decide +kernel)
theorem wd_895 : (Jvm.Cond.instanceMethod ({ cls := "LifeKeys$Rules", name := "holds", desc := "(IIII)Z" } : Jvm.MethodName)) ∈ BG := bg_4 (List.mem_of_getElem? (i := 175) (by decide +kernel)) (by decide +kernel)
theorem wd_896 : (Jvm.Cond.selects "LifeKeys$Rules" ({ cls := "LifeKeys$Rules", name := "holds", desc := "(IIII)Z" } : Jvm.MethodName) ({ cls := "LifeKeys$Rules", name := "holds", desc := "(IIII)Z" } : Jvm.MethodName)) ∈ BG := bg_4 (List.mem_of_getElem? (i := 176) (by decide +kernel)) (by decide +kernel)
theorem wd_897 : (Jvm.Cond.code ({ cls := "LifeKeys$Rules", name := "holds", desc := "(IIII)Z" } : Jvm.MethodName) prog_7_method_19_code (7 : Nat) (Option.some Jvm.ClassFile.FieldType.boolean)) ∈ BG := bg_4 (List.mem_of_getElem? (i := 177) (by decide +kernel)) (by decide +kernel)
theorem wd_898 : (Jvm.Cond.methodLink "LifeKeys$Rules" (105 : Nat) ({ cls := "LifeKeys$Rules", name := "knows", desc := "(I)Z" } : Jvm.MethodName)) ∈ BG := bg_4 (List.mem_of_getElem? (i := 178) (by decide +kernel)) (by decide +kernel)
theorem wd_899 : (Jvm.Cond.methodLink "LifeKeys$Rules" (125 : Nat) ({ cls := "LifeKeys$Rules", name := "weigh", desc := "(I)V" } : Jvm.MethodName)) ∈ BG := bg_4 (List.mem_of_getElem? (i := 179) (by decide +kernel)) (by decide +kernel)
theorem wd_901 : (Jvm.Cond.instanceMethod ({ cls := "LifeKeys$Rules", name := "weigh", desc := "(I)V" } : Jvm.MethodName)) ∈ BG := bg_4 (List.mem_of_getElem? (i := 181) (by decide +kernel)) (by decide +kernel)
theorem wd_902 : (Jvm.Cond.code ({ cls := "LifeKeys$Rules", name := "weigh", desc := "(I)V" } : Jvm.MethodName) prog_7_method_20_code (3 : Nat) (Option.none : Option Jvm.ClassFile.FieldType)) ∈ BG := bg_4 (List.mem_of_getElem? (i := 182) (by decide +kernel)) (by decide +kernel)
theorem wd_903 : (Jvm.Cond.methodLink "LifeKeys$Rules" (128 : Nat) ({ cls := "LifeKeys$Rules", name := "pop", desc := "()Z" } : Jvm.MethodName)) ∈ BG := bg_4 (List.mem_of_getElem? (i := 183) (by decide +kernel)) (by decide +kernel)
theorem wd_905 : (Jvm.Cond.instanceMethod ({ cls := "LifeKeys$Rules", name := "pop", desc := "()Z" } : Jvm.MethodName)) ∈ BG := bg_4 (List.mem_of_getElem? (i := 185) (by decide +kernel)) (by decide +kernel)
theorem wd_906 : (Jvm.Cond.code ({ cls := "LifeKeys$Rules", name := "pop", desc := "()Z" } : Jvm.MethodName) prog_7_method_22_code (1 : Nat) (Option.some Jvm.ClassFile.FieldType.boolean)) ∈ BG := bg_4 (List.mem_of_getElem? (i := 186) (by decide +kernel)) (by decide +kernel)
theorem wd_907 : (Jvm.Cond.methodLink "LifeKeys$Rules" (132 : Nat) ({ cls := "LifeKeys$Rules", name := "push", desc := "(Z)V" } : Jvm.MethodName)) ∈ BG := bg_4 (List.mem_of_getElem? (i := 187) (by decide +kernel)) (by decide +kernel)
theorem wd_909 : (Jvm.Cond.instanceMethod ({ cls := "LifeKeys$Rules", name := "push", desc := "(Z)V" } : Jvm.MethodName)) ∈ BG := bg_4 (List.mem_of_getElem? (i := 189) (by decide +kernel)) (by decide +kernel)
theorem wd_910 : (Jvm.Cond.code ({ cls := "LifeKeys$Rules", name := "push", desc := "(Z)V" } : Jvm.MethodName) prog_7_method_21_code (2 : Nat) (Option.none : Option Jvm.ClassFile.FieldType)) ∈ BG := bg_4 (List.mem_of_getElem? (i := 190) (by decide +kernel)) (by decide +kernel)
theorem wd_911 : (Jvm.Cond.methodLink "LifeKeys$Rules" (136 : Nat) ({ cls := "LifeKeys$Rules", name := "popHolding", desc := "(I)I" } : Jvm.MethodName)) ∈ BG := bg_4 (List.mem_of_getElem? (i := 191) (by decide +kernel)) (by decide +kernel)
theorem wd_913 : (Jvm.Cond.instanceMethod ({ cls := "LifeKeys$Rules", name := "popHolding", desc := "(I)I" } : Jvm.MethodName)) ∈ BG := bg_4 (List.mem_of_getElem? (i := 193) (by decide +kernel)) (by decide +kernel)
theorem wd_914 : (Jvm.Cond.code ({ cls := "LifeKeys$Rules", name := "popHolding", desc := "(I)I" } : Jvm.MethodName) prog_7_method_23_code (4 : Nat) (Option.some Jvm.ClassFile.FieldType.int)) ∈ BG := bg_4 (List.mem_of_getElem? (i := 194) (by decide +kernel)) (by decide +kernel)
theorem wd_915 : (Jvm.Cond.methodLinkNest "LifeKeys$Rules" (139 : Nat) ({ cls := "LifeKeys", name := "hasBit", desc := "(II)Z" } : Jvm.MethodName) "LifeKeys") ∈ tables_1 := bm_4 (List.mem_of_getElem? (i := 195) (by decide +kernel))
theorem wd_916 : (Jvm.Cond.methodLink "LifeKeysLaw" (154 : Nat) ({ cls := "LifeKeys", name := "dead", desc := "(III)I" } : Jvm.MethodName)) ∈ BG := bg_4 (List.mem_of_getElem? (i := 196) (by decide +kernel)) (by decide +kernel)
theorem wd_917 : (Jvm.Cond.instanceMethod ({ cls := "LifeKeys", name := "dead", desc := "(III)I" } : Jvm.MethodName)) ∈ BG := bg_4 (List.mem_of_getElem? (i := 197) (by decide +kernel)) (by decide +kernel)
theorem wd_918 : (Jvm.Cond.selects "LifeKeys" ({ cls := "LifeKeys", name := "dead", desc := "(III)I" } : Jvm.MethodName) ({ cls := "LifeKeys", name := "dead", desc := "(III)I" } : Jvm.MethodName)) ∈ BG := bg_4 (List.mem_of_getElem? (i := 198) (by decide +kernel)) (by decide +kernel)
theorem wd_919 : (Jvm.Cond.code ({ cls := "LifeKeys", name := "dead", desc := "(III)I" } : Jvm.MethodName) prog_1_method_31_code (4 : Nat) (Option.some Jvm.ClassFile.FieldType.int)) ∈ BG := bg_4 (List.mem_of_getElem? (i := 199) (by decide +kernel)) (by decide +kernel)
theorem wd_920 : (Jvm.Cond.methodLink "LifeKeysLaw" (158 : Nat) ({ cls := "LifeKeys", name := "unseal", desc := "(I)I" } : Jvm.MethodName)) ∈ BG := bg_4 (List.mem_of_getElem? (i := 200) (by decide +kernel)) (by decide +kernel)
theorem wd_921 : (Jvm.Cond.instanceMethod ({ cls := "LifeKeys", name := "unseal", desc := "(I)I" } : Jvm.MethodName)) ∈ BG := bg_4 (List.mem_of_getElem? (i := 201) (by decide +kernel)) (by decide +kernel)
theorem wd_922 : (Jvm.Cond.selects "LifeKeys" ({ cls := "LifeKeys", name := "unseal", desc := "(I)I" } : Jvm.MethodName) ({ cls := "LifeKeys", name := "unseal", desc := "(I)I" } : Jvm.MethodName)) ∈ BG := bg_4 (List.mem_of_getElem? (i := 202) (by decide +kernel)) (by decide +kernel)
theorem wd_923 : (Jvm.Cond.code ({ cls := "LifeKeys", name := "unseal", desc := "(I)I" } : Jvm.MethodName) prog_1_method_32_code (2 : Nat) (Option.some Jvm.ClassFile.FieldType.int)) ∈ BG := bg_4 (List.mem_of_getElem? (i := 203) (by decide +kernel)) (by decide +kernel)
theorem wd_924 : (Jvm.Cond.methodLink "LifeKeysLaw" (162 : Nat) ({ cls := "LifeKeys", name := "sign", desc := "(IIII)I" } : Jvm.MethodName)) ∈ BG := bg_4 (List.mem_of_getElem? (i := 204) (by decide +kernel)) (by decide +kernel)
theorem wd_925 : (Jvm.Cond.instanceMethod ({ cls := "LifeKeys", name := "sign", desc := "(IIII)I" } : Jvm.MethodName)) ∈ BG := bg_4 (List.mem_of_getElem? (i := 205) (by decide +kernel)) (by decide +kernel)
theorem wd_926 : (Jvm.Cond.selects "LifeKeys" ({ cls := "LifeKeys", name := "sign", desc := "(IIII)I" } : Jvm.MethodName) ({ cls := "LifeKeys", name := "sign", desc := "(IIII)I" } : Jvm.MethodName)) ∈ BG := bg_4 (List.mem_of_getElem? (i := 206) (by decide +kernel)) (by decide +kernel)
theorem wd_927 : (Jvm.Cond.code ({ cls := "LifeKeys", name := "sign", desc := "(IIII)I" } : Jvm.MethodName) prog_1_method_33_code (5 : Nat) (Option.some Jvm.ClassFile.FieldType.int)) ∈ BG := bg_4 (List.mem_of_getElem? (i := 207) (by decide +kernel)) (by decide +kernel)
theorem wd_928 : (Jvm.Cond.methodLink "LifeKeys" (297 : Nat) ({ cls := "LifeKeys$Keys", name := "maySign", desc := "(II)Z" } : Jvm.MethodName)) ∈ BG := bg_4 (List.mem_of_getElem? (i := 208) (by decide +kernel)) (by decide +kernel)
theorem wd_929 : (Jvm.Cond.instanceMethod ({ cls := "LifeKeys$Keys", name := "maySign", desc := "(II)Z" } : Jvm.MethodName)) ∈ BG := bg_4 (List.mem_of_getElem? (i := 209) (by decide +kernel)) (by decide +kernel)
theorem wd_930 : (Jvm.Cond.selects "LifeKeys$Keys" ({ cls := "LifeKeys$Keys", name := "maySign", desc := "(II)Z" } : Jvm.MethodName) ({ cls := "LifeKeys$Keys", name := "maySign", desc := "(II)Z" } : Jvm.MethodName)) ∈ BG := bg_4 (List.mem_of_getElem? (i := 210) (by decide +kernel)) (by decide +kernel)
theorem wd_931 : (Jvm.Cond.code ({ cls := "LifeKeys$Keys", name := "maySign", desc := "(II)Z" } : Jvm.MethodName) prog_3_method_10_code (3 : Nat) (Option.some Jvm.ClassFile.FieldType.boolean)) ∈ BG := bg_4 (List.mem_of_getElem? (i := 211) (by decide +kernel)) (by decide +kernel)
theorem wd_932 : (Jvm.Cond.methodLink "LifeKeys$Keys" (53 : Nat) ({ cls := "LifeKeys$Keys", name := "isBurnt", desc := "(III)Z" } : Jvm.MethodName)) ∈ BG := bg_4 (List.mem_of_getElem? (i := 212) (by decide +kernel)) (by decide +kernel)
theorem wd_933 : (Jvm.Cond.instanceMethod ({ cls := "LifeKeys$Keys", name := "isBurnt", desc := "(III)Z" } : Jvm.MethodName)) ∈ BG := bg_4 (List.mem_of_getElem? (i := 213) (by decide +kernel)) (by decide +kernel)
theorem wd_934 : (Jvm.Cond.selects "LifeKeys$Keys" ({ cls := "LifeKeys$Keys", name := "isBurnt", desc := "(III)Z" } : Jvm.MethodName) ({ cls := "LifeKeys$Keys", name := "isBurnt", desc := "(III)Z" } : Jvm.MethodName)) ∈ BG := bg_4 (List.mem_of_getElem? (i := 214) (by decide +kernel)) (by decide +kernel)
theorem wd_935 : (Jvm.Cond.code ({ cls := "LifeKeys$Keys", name := "isBurnt", desc := "(III)Z" } : Jvm.MethodName) prog_3_method_9_code (5 : Nat) (Option.some Jvm.ClassFile.FieldType.boolean)) ∈ BG := bg_4 (List.mem_of_getElem? (i := 215) (by decide +kernel)) (by decide +kernel)
theorem wd_936 : (Jvm.Cond.methodLink "LifeKeys$Keys" (49 : Nat) ({ cls := "LifeKeys$Keys", name := "burntFrom", desc := "(II)I" } : Jvm.MethodName)) ∈ BG := bg_4 (List.mem_of_getElem? (i := 216) (by decide +kernel)) (by decide +kernel)
theorem wd_937 : (Jvm.Cond.methodLink "LifeKeys" (300 : Nat) ({ cls := "LifeKeys", name := "getsNow", desc := "(II)Z" } : Jvm.MethodName)) ∈ BG := bg_4 (List.mem_of_getElem? (i := 217) (by decide +kernel)) (by decide +kernel)
theorem wd_939 : (Jvm.Cond.instanceMethod ({ cls := "LifeKeys", name := "getsNow", desc := "(II)Z" } : Jvm.MethodName)) ∈ BG := bg_4 (List.mem_of_getElem? (i := 219) (by decide +kernel)) (by decide +kernel)
theorem wd_940 : (Jvm.Cond.code ({ cls := "LifeKeys", name := "getsNow", desc := "(II)Z" } : Jvm.MethodName) prog_1_method_65_code (3 : Nat) (Option.some Jvm.ClassFile.FieldType.boolean)) ∈ BG := bg_4 (List.mem_of_getElem? (i := 220) (by decide +kernel)) (by decide +kernel)
theorem wd_941 : (Jvm.Cond.methodLink "LifeKeys" (441 : Nat) ({ cls := "LifeKeys", name := "hasKey", desc := "(JI)Z" } : Jvm.MethodName)) ∈ BG := bg_4 (List.mem_of_getElem? (i := 221) (by decide +kernel)) (by decide +kernel)
theorem wd_942 : (Jvm.Cond.methodLink "LifeKeys" (303 : Nat) ({ cls := "LifeKeys", name := "signAlone", desc := "(III)I" } : Jvm.MethodName)) ∈ BG := bg_4 (List.mem_of_getElem? (i := 222) (by decide +kernel)) (by decide +kernel)
theorem wd_944 : (Jvm.Cond.instanceMethod ({ cls := "LifeKeys", name := "signAlone", desc := "(III)I" } : Jvm.MethodName)) ∈ BG := bg_4 (List.mem_of_getElem? (i := 224) (by decide +kernel)) (by decide +kernel)
theorem wd_945 : (Jvm.Cond.code ({ cls := "LifeKeys", name := "signAlone", desc := "(III)I" } : Jvm.MethodName) prog_1_method_66_code (7 : Nat) (Option.some Jvm.ClassFile.FieldType.int)) ∈ BG := bg_4 (List.mem_of_getElem? (i := 225) (by decide +kernel)) (by decide +kernel)
theorem wd_946 : (Jvm.Cond.methodLink "LifeKeys" (336 : Nat) ({ cls := "LifeKeys$Field", name := "challenge", desc := "(II)I" } : Jvm.MethodName)) ∈ BG := bg_4 (List.mem_of_getElem? (i := 226) (by decide +kernel)) (by decide +kernel)
theorem wd_947 : (Jvm.Cond.static ({ cls := "LifeKeys$Field", name := "challenge", desc := "(II)I" } : Jvm.MethodName)) ∈ BG := bg_4 (List.mem_of_getElem? (i := 227) (by decide +kernel)) (by decide +kernel)
theorem wd_948 : (Jvm.Cond.code ({ cls := "LifeKeys$Field", name := "challenge", desc := "(II)I" } : Jvm.MethodName) prog_2_method_12_code (2 : Nat) (Option.some Jvm.ClassFile.FieldType.int)) ∈ BG := bg_4 (List.mem_of_getElem? (i := 228) (by decide +kernel)) (by decide +kernel)
theorem wd_949 : (Jvm.Cond.methodLink "LifeKeys" (445 : Nat) ({ cls := "LifeKeys$Signatures", name := "add", desc := "(IIIII)I" } : Jvm.MethodName)) ∈ BG := bg_4 (List.mem_of_getElem? (i := 229) (by decide +kernel)) (by decide +kernel)
theorem wd_950 : (Jvm.Cond.instanceMethod ({ cls := "LifeKeys$Signatures", name := "add", desc := "(IIIII)I" } : Jvm.MethodName)) ∈ BG := bg_4 (List.mem_of_getElem? (i := 230) (by decide +kernel)) (by decide +kernel)
theorem wd_951 : (Jvm.Cond.selects "LifeKeys$Signatures" ({ cls := "LifeKeys$Signatures", name := "add", desc := "(IIIII)I" } : Jvm.MethodName) ({ cls := "LifeKeys$Signatures", name := "add", desc := "(IIIII)I" } : Jvm.MethodName)) ∈ BG := bg_4 (List.mem_of_getElem? (i := 231) (by decide +kernel)) (by decide +kernel)
theorem wd_952 : (Jvm.Cond.code ({ cls := "LifeKeys$Signatures", name := "add", desc := "(IIIII)I" } : Jvm.MethodName) prog_9_method_4_code (6 : Nat) (Option.some Jvm.ClassFile.FieldType.int)) ∈ BG := bg_4 (List.mem_of_getElem? (i := 232) (by decide +kernel)) (by decide +kernel)
theorem wd_953 : (Jvm.Cond.methodLink "LifeKeys$Signatures" (34 : Nat) ({ cls := "LifeKeys$Signatures", name := "isFull", desc := "()Z" } : Jvm.MethodName)) ∈ BG := bg_4 (List.mem_of_getElem? (i := 233) (by decide +kernel)) (by decide +kernel)
theorem wd_954 : (Jvm.Cond.instanceMethod ({ cls := "LifeKeys$Signatures", name := "isFull", desc := "()Z" } : Jvm.MethodName)) ∈ BG := bg_4 (List.mem_of_getElem? (i := 234) (by decide +kernel)) (by decide +kernel)
theorem wd_955 : (Jvm.Cond.selects "LifeKeys$Signatures" ({ cls := "LifeKeys$Signatures", name := "isFull", desc := "()Z" } : Jvm.MethodName) ({ cls := "LifeKeys$Signatures", name := "isFull", desc := "()Z" } : Jvm.MethodName)) ∈ BG := bg_4 (List.mem_of_getElem? (i := 235) (by decide +kernel)) (by decide +kernel)
theorem wd_956 : (Jvm.Cond.code ({ cls := "LifeKeys$Signatures", name := "isFull", desc := "()Z" } : Jvm.MethodName) prog_9_method_3_code (1 : Nat) (Option.some Jvm.ClassFile.FieldType.boolean)) ∈ BG := bg_4 (List.mem_of_getElem? (i := 236) (by decide +kernel)) (by decide +kernel)
theorem wd_957 : (Jvm.Cond.methodLink "LifeKeysLaw" (167 : Nat) ({ cls := "LifeKeys", name := "falsely", desc := "(IZ)Z" } : Jvm.MethodName)) ∈ BG := bg_4 (List.mem_of_getElem? (i := 237) (by decide +kernel)) (by decide +kernel)
theorem wd_958 : (Jvm.Cond.instanceMethod ({ cls := "LifeKeys", name := "falsely", desc := "(IZ)Z" } : Jvm.MethodName)) ∈ BG := bg_4 (List.mem_of_getElem? (i := 238) (by decide +kernel)) (by decide +kernel)
theorem wd_959 : (Jvm.Cond.selects "LifeKeys" ({ cls := "LifeKeys", name := "falsely", desc := "(IZ)Z" } : Jvm.MethodName) ({ cls := "LifeKeys", name := "falsely", desc := "(IZ)Z" } : Jvm.MethodName)) ∈ BG := bg_4 (List.mem_of_getElem? (i := 239) (by decide +kernel)) (by decide +kernel)
theorem wd_960 : (Jvm.Cond.code ({ cls := "LifeKeys", name := "falsely", desc := "(IZ)Z" } : Jvm.MethodName) prog_1_method_34_code (3 : Nat) (Option.some Jvm.ClassFile.FieldType.boolean)) ∈ BG := bg_5 (List.mem_of_getElem? (i := 0) (by decide +kernel)) (by decide +kernel)
theorem wd_961 : (Jvm.Cond.methodLink "LifeKeysLaw" (172 : Nat) ({ cls := "LifeKeys", name := "several", desc := "(IIIJ)I" } : Jvm.MethodName)) ∈ BG := bg_5 (List.mem_of_getElem? (i := 1) (by decide +kernel)) (by decide +kernel)
theorem wd_962 : (Jvm.Cond.instanceMethod ({ cls := "LifeKeys", name := "several", desc := "(IIIJ)I" } : Jvm.MethodName)) ∈ BG := bg_5 (List.mem_of_getElem? (i := 2) (by decide +kernel)) (by decide +kernel)
theorem wd_963 : (Jvm.Cond.selects "LifeKeys" ({ cls := "LifeKeys", name := "several", desc := "(IIIJ)I" } : Jvm.MethodName) ({ cls := "LifeKeys", name := "several", desc := "(IIIJ)I" } : Jvm.MethodName)) ∈ BG := bg_5 (List.mem_of_getElem? (i := 3) (by decide +kernel)) (by decide +kernel)
theorem wd_964 : (Jvm.Cond.code ({ cls := "LifeKeys", name := "several", desc := "(IIIJ)I" } : Jvm.MethodName) prog_1_method_35_code (7 : Nat) (Option.some Jvm.ClassFile.FieldType.int)) ∈ BG := bg_5 (List.mem_of_getElem? (i := 4) (by decide +kernel)) (by decide +kernel)
theorem wd_965 : (Jvm.Cond.methodLink "LifeKeys" (309 : Nat) ({ cls := "LifeKeys$Signatures", name := "isFull", desc := "()Z" } : Jvm.MethodName)) ∈ BG := bg_5 (List.mem_of_getElem? (i := 5) (by decide +kernel)) (by decide +kernel)
theorem wd_966 : (Jvm.Cond.methodLink "LifeKeys" (312 : Nat) ({ cls := "LifeKeys", name := "signTogethe\x72", desc := "(IIIJ)I" } : Jvm.MethodName)) ∈ BG := bg_5 (List.mem_of_getElem? (i := 6) (by decide +kernel)) (by decide +kernel)
theorem wd_968 : (Jvm.Cond.instanceMethod ({ cls := "LifeKeys", name := "signTogethe\x72", desc := "(IIIJ)I" } : Jvm.MethodName)) ∈ BG := bg_5 (List.mem_of_getElem? (i := 8) (by decide +kernel)) (by decide +kernel)
theorem wd_969 : (Jvm.Cond.code ({ cls := "LifeKeys", name := "signTogethe\x72", desc := "(IIIJ)I" } : Jvm.MethodName) prog_1_method_67_code (12 : Nat) (Option.some Jvm.ClassFile.FieldType.int)) ∈ BG := bg_5 (List.mem_of_getElem? (i := 9) (by decide +kernel)) (by decide +kernel)
theorem wd_970 : (Jvm.Cond.methodLink "LifeKeys" (448 : Nat) ({ cls := "LifeKeys$Signatures", name := "drawStarts", desc := "(IJ)I" } : Jvm.MethodName)) ∈ BG := bg_5 (List.mem_of_getElem? (i := 10) (by decide +kernel)) (by decide +kernel)
theorem wd_971 : (Jvm.Cond.instanceMethod ({ cls := "LifeKeys$Signatures", name := "drawStarts", desc := "(IJ)I" } : Jvm.MethodName)) ∈ BG := bg_5 (List.mem_of_getElem? (i := 11) (by decide +kernel)) (by decide +kernel)
theorem wd_972 : (Jvm.Cond.selects "LifeKeys$Signatures" ({ cls := "LifeKeys$Signatures", name := "drawStarts", desc := "(IJ)I" } : Jvm.MethodName) ({ cls := "LifeKeys$Signatures", name := "drawStarts", desc := "(IJ)I" } : Jvm.MethodName)) ∈ BG := bg_5 (List.mem_of_getElem? (i := 12) (by decide +kernel)) (by decide +kernel)
theorem wd_973 : (Jvm.Cond.code ({ cls := "LifeKeys$Signatures", name := "drawStarts", desc := "(IJ)I" } : Jvm.MethodName) prog_9_method_5_code (8 : Nat) (Option.some Jvm.ClassFile.FieldType.int)) ∈ BG := bg_5 (List.mem_of_getElem? (i := 13) (by decide +kernel)) (by decide +kernel)
theorem wd_974 : (Jvm.Cond.methodLinkNest "LifeKeys$Signatures" (38 : Nat) ({ cls := "LifeKeys", name := "hasBit", desc := "(II)Z" } : Jvm.MethodName) "LifeKeys") ∈ tables_1 := bm_5 (List.mem_of_getElem? (i := 14) (by decide +kernel))
theorem wd_975 : (Jvm.Cond.methodLink "LifeKeys$Signatures" (42 : Nat) ({ cls := "LifeKeys$Field", name := "nextSeed", desc := "(J)J" } : Jvm.MethodName)) ∈ BG := bg_5 (List.mem_of_getElem? (i := 15) (by decide +kernel)) (by decide +kernel)
theorem wd_976 : (Jvm.Cond.methodLink "LifeKeys$Signatures" (48 : Nat) ({ cls := "LifeKeys$Field", name := "start", desc := "(J)I" } : Jvm.MethodName)) ∈ BG := bg_5 (List.mem_of_getElem? (i := 16) (by decide +kernel)) (by decide +kernel)
theorem wd_977 : (Jvm.Cond.static ({ cls := "LifeKeys$Field", name := "start", desc := "(J)I" } : Jvm.MethodName)) ∈ BG := bg_5 (List.mem_of_getElem? (i := 17) (by decide +kernel)) (by decide +kernel)
theorem wd_978 : (Jvm.Cond.code ({ cls := "LifeKeys$Field", name := "start", desc := "(J)I" } : Jvm.MethodName) prog_2_method_15_code (2 : Nat) (Option.some Jvm.ClassFile.FieldType.int)) ∈ BG := bg_5 (List.mem_of_getElem? (i := 18) (by decide +kernel)) (by decide +kernel)
theorem wd_979 : (Jvm.Cond.constantLong "LifeKeys$Field" (40 : Nat) (1018 : Int64)) ∈ BG := bg_5 (List.mem_of_getElem? (i := 19) (by decide +kernel)) (by decide +kernel)
theorem wd_980 : (Jvm.Cond.methodLink "LifeKeys$Signatures" (51 : Nat) ({ cls := "LifeKeys$Field", name := "powerOf4", desc := "(I)I" } : Jvm.MethodName)) ∈ BG := bg_5 (List.mem_of_getElem? (i := 20) (by decide +kernel)) (by decide +kernel)
theorem wd_981 : (Jvm.Cond.methodLink "LifeKeys$Signatures" (55 : Nat) ({ cls := "LifeKeys$Field", name := "product", desc := "(II)I" } : Jvm.MethodName)) ∈ BG := bg_5 (List.mem_of_getElem? (i := 21) (by decide +kernel)) (by decide +kernel)
theorem wd_982 : (Jvm.Cond.methodLink "LifeKeys" (452 : Nat) ({ cls := "LifeKeys", name := "givenBy", desc := "(III)I" } : Jvm.MethodName)) ∈ BG := bg_5 (List.mem_of_getElem? (i := 22) (by decide +kernel)) (by decide +kernel)
theorem wd_984 : (Jvm.Cond.instanceMethod ({ cls := "LifeKeys", name := "givenBy", desc := "(III)I" } : Jvm.MethodName)) ∈ BG := bg_5 (List.mem_of_getElem? (i := 24) (by decide +kernel)) (by decide +kernel)
theorem wd_985 : (Jvm.Cond.code ({ cls := "LifeKeys", name := "givenBy", desc := "(III)I" } : Jvm.MethodName) prog_1_method_68_code (5 : Nat) (Option.some Jvm.ClassFile.FieldType.int)) ∈ BG := bg_5 (List.mem_of_getElem? (i := 25) (by decide +kernel)) (by decide +kernel)
theorem wd_986 : (Jvm.Cond.methodLink "LifeKeys" (455 : Nat) ({ cls := "LifeKeys", name := "agrees", desc := "(IIII)Z" } : Jvm.MethodName)) ∈ BG := bg_5 (List.mem_of_getElem? (i := 26) (by decide +kernel)) (by decide +kernel)
theorem wd_988 : (Jvm.Cond.instanceMethod ({ cls := "LifeKeys", name := "agrees", desc := "(IIII)Z" } : Jvm.MethodName)) ∈ BG := bg_5 (List.mem_of_getElem? (i := 28) (by decide +kernel)) (by decide +kernel)
theorem wd_989 : (Jvm.Cond.code ({ cls := "LifeKeys", name := "agrees", desc := "(IIII)Z" } : Jvm.MethodName) prog_1_method_69_code (7 : Nat) (Option.some Jvm.ClassFile.FieldType.boolean)) ∈ BG := bg_5 (List.mem_of_getElem? (i := 29) (by decide +kernel)) (by decide +kernel)
theorem wd_990 : (Jvm.Cond.methodLink "LifeKeys" (339 : Nat) ({ cls := "LifeKeys$Field", name := "raise", desc := "(II)I" } : Jvm.MethodName)) ∈ BG := bg_5 (List.mem_of_getElem? (i := 30) (by decide +kernel)) (by decide +kernel)
theorem wd_991 : (Jvm.Cond.methodLink "LifeKeys" (342 : Nat) ({ cls := "LifeKeys$Field", name := "product", desc := "(II)I" } : Jvm.MethodName)) ∈ BG := bg_5 (List.mem_of_getElem? (i := 31) (by decide +kernel)) (by decide +kernel)
theorem wd_992 : (Jvm.Cond.methodLink "LifeKeysLaw" (176 : Nat) ({ cls := "LifeKeys", name := "signed", desc := "(II)I" } : Jvm.MethodName)) ∈ BG := bg_5 (List.mem_of_getElem? (i := 32) (by decide +kernel)) (by decide +kernel)
theorem wd_993 : (Jvm.Cond.instanceMethod ({ cls := "LifeKeys", name := "signed", desc := "(II)I" } : Jvm.MethodName)) ∈ BG := bg_5 (List.mem_of_getElem? (i := 33) (by decide +kernel)) (by decide +kernel)
theorem wd_994 : (Jvm.Cond.selects "LifeKeys" ({ cls := "LifeKeys", name := "signed", desc := "(II)I" } : Jvm.MethodName) ({ cls := "LifeKeys", name := "signed", desc := "(II)I" } : Jvm.MethodName)) ∈ BG := bg_5 (List.mem_of_getElem? (i := 34) (by decide +kernel)) (by decide +kernel)
theorem wd_995 : (Jvm.Cond.code ({ cls := "LifeKeys", name := "signed", desc := "(II)I" } : Jvm.MethodName) prog_1_method_36_code (3 : Nat) (Option.some Jvm.ClassFile.FieldType.int)) ∈ BG := bg_5 (List.mem_of_getElem? (i := 35) (by decide +kernel)) (by decide +kernel)
theorem wd_996 : (Jvm.Cond.methodLink "LifeKeys" (316 : Nat) ({ cls := "LifeKeys$Signatures", name := "knows", desc := "(I)Z" } : Jvm.MethodName)) ∈ BG := bg_5 (List.mem_of_getElem? (i := 36) (by decide +kernel)) (by decide +kernel)
theorem wd_997 : (Jvm.Cond.instanceMethod ({ cls := "LifeKeys$Signatures", name := "knows", desc := "(I)Z" } : Jvm.MethodName)) ∈ BG := bg_5 (List.mem_of_getElem? (i := 37) (by decide +kernel)) (by decide +kernel)
theorem wd_998 : (Jvm.Cond.selects "LifeKeys$Signatures" ({ cls := "LifeKeys$Signatures", name := "knows", desc := "(I)Z" } : Jvm.MethodName) ({ cls := "LifeKeys$Signatures", name := "knows", desc := "(I)Z" } : Jvm.MethodName)) ∈ BG := bg_5 (List.mem_of_getElem? (i := 38) (by decide +kernel)) (by decide +kernel)
theorem wd_999 : (Jvm.Cond.code ({ cls := "LifeKeys$Signatures", name := "knows", desc := "(I)Z" } : Jvm.MethodName) prog_9_method_2_code (2 : Nat) (Option.some Jvm.ClassFile.FieldType.boolean)) ∈ BG := bg_5 (List.mem_of_getElem? (i := 39) (by decide +kernel)) (by decide +kernel)
theorem wd_1000 : (Jvm.Cond.methodLink "LifeKeysLaw" (180 : Nat) ({ cls := "LifeKeys", name := "taken", desc := "(IIII)I" } : Jvm.MethodName)) ∈ BG := bg_5 (List.mem_of_getElem? (i := 40) (by decide +kernel)) (by decide +kernel)
theorem wd_1001 : (Jvm.Cond.instanceMethod ({ cls := "LifeKeys", name := "taken", desc := "(IIII)I" } : Jvm.MethodName)) ∈ BG := bg_5 (List.mem_of_getElem? (i := 41) (by decide +kernel)) (by decide +kernel)
theorem wd_1002 : (Jvm.Cond.selects "LifeKeys" ({ cls := "LifeKeys", name := "taken", desc := "(IIII)I" } : Jvm.MethodName) ({ cls := "LifeKeys", name := "taken", desc := "(IIII)I" } : Jvm.MethodName)) ∈ BG := bg_5 (List.mem_of_getElem? (i := 42) (by decide +kernel)) (by decide +kernel)
theorem wd_1003 : (Jvm.Cond.code ({ cls := "LifeKeys", name := "taken", desc := "(IIII)I" } : Jvm.MethodName) prog_1_method_37_code (6 : Nat) (Option.some Jvm.ClassFile.FieldType.int)) ∈ BG := bg_5 (List.mem_of_getElem? (i := 43) (by decide +kernel)) (by decide +kernel)
theorem wd_1004 : (Jvm.Cond.methodLink "LifeKeys" (330 : Nat) ({ cls := "LifeKeys$Field", name := "isPowe\x72", desc := "(I)Z" } : Jvm.MethodName)) ∈ BG := bg_5 (List.mem_of_getElem? (i := 44) (by decide +kernel)) (by decide +kernel)
theorem wd_1005 : (Jvm.Cond.static ({ cls := "LifeKeys$Field", name := "isPowe\x72", desc := "(I)Z" } : Jvm.MethodName)) ∈ BG := bg_5 (List.mem_of_getElem? (i := 45) (by decide +kernel)) (by decide +kernel)
theorem wd_1006 : (Jvm.Cond.code ({ cls := "LifeKeys$Field", name := "isPowe\x72", desc := "(I)Z" } : Jvm.MethodName) prog_2_method_4_code (1 : Nat) (Option.some Jvm.ClassFile.FieldType.boolean)) ∈ BG := bg_5 (List.mem_of_getElem? (i := 46) (by decide +kernel)) (by decide +kernel)
theorem wd_1007 : (Jvm.Cond.methodLink "LifeKeys" (142 : Nat) ({ cls := "LifeKeys$Keys", name := "publicOf", desc := "(I)I" } : Jvm.MethodName)) ∈ BG := bg_5 (List.mem_of_getElem? (i := 47) (by decide +kernel)) (by decide +kernel)
theorem wd_1008 : (Jvm.Cond.instanceMethod ({ cls := "LifeKeys$Keys", name := "publicOf", desc := "(I)I" } : Jvm.MethodName)) ∈ BG := bg_5 (List.mem_of_getElem? (i := 48) (by decide +kernel)) (by decide +kernel)
theorem wd_1009 : (Jvm.Cond.selects "LifeKeys$Keys" ({ cls := "LifeKeys$Keys", name := "publicOf", desc := "(I)I" } : Jvm.MethodName) ({ cls := "LifeKeys$Keys", name := "publicOf", desc := "(I)I" } : Jvm.MethodName)) ∈ BG := bg_5 (List.mem_of_getElem? (i := 49) (by decide +kernel)) (by decide +kernel)
theorem wd_1010 : (Jvm.Cond.code ({ cls := "LifeKeys$Keys", name := "publicOf", desc := "(I)I" } : Jvm.MethodName) prog_3_method_6_code (2 : Nat) (Option.some Jvm.ClassFile.FieldType.int)) ∈ BG := bg_5 (List.mem_of_getElem? (i := 50) (by decide +kernel)) (by decide +kernel)
theorem wd_1011 : (Jvm.Cond.methodLink "LifeKeys$Keys" (42 : Nat) ({ cls := "LifeKeys$Field", name := "powerOf4", desc := "(I)I" } : Jvm.MethodName)) ∈ BG := bg_5 (List.mem_of_getElem? (i := 51) (by decide +kernel)) (by decide +kernel)
theorem wd_1012 : (Jvm.Cond.methodLink "LifeKeysLaw" (184 : Nat) ({ cls := "LifeKeys", name := "burn", desc := "(II)Z" } : Jvm.MethodName)) ∈ BG := bg_5 (List.mem_of_getElem? (i := 52) (by decide +kernel)) (by decide +kernel)
theorem wd_1013 : (Jvm.Cond.instanceMethod ({ cls := "LifeKeys", name := "burn", desc := "(II)Z" } : Jvm.MethodName)) ∈ BG := bg_5 (List.mem_of_getElem? (i := 53) (by decide +kernel)) (by decide +kernel)
theorem wd_1014 : (Jvm.Cond.selects "LifeKeys" ({ cls := "LifeKeys", name := "burn", desc := "(II)Z" } : Jvm.MethodName) ({ cls := "LifeKeys", name := "burn", desc := "(II)Z" } : Jvm.MethodName)) ∈ BG := bg_5 (List.mem_of_getElem? (i := 54) (by decide +kernel)) (by decide +kernel)
theorem wd_1015 : (Jvm.Cond.code ({ cls := "LifeKeys", name := "burn", desc := "(II)Z" } : Jvm.MethodName) prog_1_method_38_code (3 : Nat) (Option.some Jvm.ClassFile.FieldType.boolean)) ∈ BG := bg_5 (List.mem_of_getElem? (i := 55) (by decide +kernel)) (by decide +kernel)
theorem wd_1016 : (Jvm.Cond.methodLink "LifeKeys" (345 : Nat) ({ cls := "LifeKeys$Keys", name := "addBurn", desc := "(III)Z" } : Jvm.MethodName)) ∈ BG := bg_5 (List.mem_of_getElem? (i := 56) (by decide +kernel)) (by decide +kernel)
theorem wd_1017 : (Jvm.Cond.instanceMethod ({ cls := "LifeKeys$Keys", name := "addBurn", desc := "(III)Z" } : Jvm.MethodName)) ∈ BG := bg_5 (List.mem_of_getElem? (i := 57) (by decide +kernel)) (by decide +kernel)
theorem wd_1018 : (Jvm.Cond.selects "LifeKeys$Keys" ({ cls := "LifeKeys$Keys", name := "addBurn", desc := "(III)Z" } : Jvm.MethodName) ({ cls := "LifeKeys$Keys", name := "addBurn", desc := "(III)Z" } : Jvm.MethodName)) ∈ BG := bg_5 (List.mem_of_getElem? (i := 58) (by decide +kernel)) (by decide +kernel)
theorem wd_1019 : (Jvm.Cond.code ({ cls := "LifeKeys$Keys", name := "addBurn", desc := "(III)Z" } : Jvm.MethodName) prog_3_method_7_code (4 : Nat) (Option.some Jvm.ClassFile.FieldType.boolean)) ∈ BG := bg_5 (List.mem_of_getElem? (i := 59) (by decide +kernel)) (by decide +kernel)
theorem wd_1020 : (Jvm.Cond.methodLink "LifeKeysLaw" (188 : Nat) ({ cls := "LifeKeys", name := "old", desc := "(I)Z" } : Jvm.MethodName)) ∈ BG := bg_5 (List.mem_of_getElem? (i := 60) (by decide +kernel)) (by decide +kernel)
theorem wd_1021 : (Jvm.Cond.instanceMethod ({ cls := "LifeKeys", name := "old", desc := "(I)Z" } : Jvm.MethodName)) ∈ BG := bg_5 (List.mem_of_getElem? (i := 61) (by decide +kernel)) (by decide +kernel)
theorem wd_1022 : (Jvm.Cond.selects "LifeKeys" ({ cls := "LifeKeys", name := "old", desc := "(I)Z" } : Jvm.MethodName) ({ cls := "LifeKeys", name := "old", desc := "(I)Z" } : Jvm.MethodName)) ∈ BG := bg_5 (List.mem_of_getElem? (i := 62) (by decide +kernel)) (by decide +kernel)
theorem wd_1023 : (Jvm.Cond.code ({ cls := "LifeKeys", name := "old", desc := "(I)Z" } : Jvm.MethodName) prog_1_method_39_code (2 : Nat) (Option.some Jvm.ClassFile.FieldType.boolean)) ∈ BG := bg_5 (List.mem_of_getElem? (i := 63) (by decide +kernel)) (by decide +kernel)
theorem wd_1024 : (Jvm.Cond.methodLink "LifeKeysLaw" (192 : Nat) ({ cls := "LifeKeys", name := "stands", desc := "(II)I" } : Jvm.MethodName)) ∈ BG := bg_5 (List.mem_of_getElem? (i := 64) (by decide +kernel)) (by decide +kernel)
theorem wd_1025 : (Jvm.Cond.instanceMethod ({ cls := "LifeKeys", name := "stands", desc := "(II)I" } : Jvm.MethodName)) ∈ BG := bg_5 (List.mem_of_getElem? (i := 65) (by decide +kernel)) (by decide +kernel)
theorem wd_1026 : (Jvm.Cond.selects "LifeKeys" ({ cls := "LifeKeys", name := "stands", desc := "(II)I" } : Jvm.MethodName) ({ cls := "LifeKeys", name := "stands", desc := "(II)I" } : Jvm.MethodName)) ∈ BG := bg_5 (List.mem_of_getElem? (i := 66) (by decide +kernel)) (by decide +kernel)
theorem wd_1027 : (Jvm.Cond.code ({ cls := "LifeKeys", name := "stands", desc := "(II)I" } : Jvm.MethodName) prog_1_method_40_code (5 : Nat) (Option.some Jvm.ClassFile.FieldType.int)) ∈ BG := bg_5 (List.mem_of_getElem? (i := 67) (by decide +kernel)) (by decide +kernel)
theorem wd_1028 : (Jvm.Cond.methodLink "LifeKeys" (348 : Nat) ({ cls := "LifeKeys$Keys", name := "isBurnt", desc := "(III)Z" } : Jvm.MethodName)) ∈ BG := bg_5 (List.mem_of_getElem? (i := 68) (by decide +kernel)) (by decide +kernel)
theorem wd_1029 : (Jvm.Cond.methodLink "LifeKeysLaw" (196 : Nat) ({ cls := "LifeKeys", name := "lend", desc := "(IIIII)I" } : Jvm.MethodName)) ∈ BG := bg_5 (List.mem_of_getElem? (i := 69) (by decide +kernel)) (by decide +kernel)
theorem wd_1030 : (Jvm.Cond.instanceMethod ({ cls := "LifeKeys", name := "lend", desc := "(IIIII)I" } : Jvm.MethodName)) ∈ BG := bg_5 (List.mem_of_getElem? (i := 70) (by decide +kernel)) (by decide +kernel)
theorem wd_1031 : (Jvm.Cond.selects "LifeKeys" ({ cls := "LifeKeys", name := "lend", desc := "(IIIII)I" } : Jvm.MethodName) ({ cls := "LifeKeys", name := "lend", desc := "(IIIII)I" } : Jvm.MethodName)) ∈ BG := bg_5 (List.mem_of_getElem? (i := 71) (by decide +kernel)) (by decide +kernel)
theorem wd_1032 : (Jvm.Cond.code ({ cls := "LifeKeys", name := "lend", desc := "(IIIII)I" } : Jvm.MethodName) prog_1_method_41_code (6 : Nat) (Option.some Jvm.ClassFile.FieldType.int)) ∈ BG := bg_5 (List.mem_of_getElem? (i := 72) (by decide +kernel)) (by decide +kernel)
theorem wd_1033 : (Jvm.Cond.methodLink "LifeKeys" (351 : Nat) ({ cls := "LifeKeys$Loans", name := "add", desc := "(IIII)I" } : Jvm.MethodName)) ∈ BG := bg_5 (List.mem_of_getElem? (i := 73) (by decide +kernel)) (by decide +kernel)
theorem wd_1034 : (Jvm.Cond.instanceMethod ({ cls := "LifeKeys$Loans", name := "add", desc := "(IIII)I" } : Jvm.MethodName)) ∈ BG := bg_5 (List.mem_of_getElem? (i := 74) (by decide +kernel)) (by decide +kernel)
theorem wd_1035 : (Jvm.Cond.selects "LifeKeys$Loans" ({ cls := "LifeKeys$Loans", name := "add", desc := "(IIII)I" } : Jvm.MethodName) ({ cls := "LifeKeys$Loans", name := "add", desc := "(IIII)I" } : Jvm.MethodName)) ∈ BG := bg_5 (List.mem_of_getElem? (i := 75) (by decide +kernel)) (by decide +kernel)
theorem wd_1036 : (Jvm.Cond.code ({ cls := "LifeKeys$Loans", name := "add", desc := "(IIII)I" } : Jvm.MethodName) prog_4_method_3_code (5 : Nat) (Option.some Jvm.ClassFile.FieldType.int)) ∈ BG := bg_5 (List.mem_of_getElem? (i := 76) (by decide +kernel)) (by decide +kernel)
theorem wd_1037 : (Jvm.Cond.methodLink "LifeKeysLaw" (200 : Nat) ({ cls := "LifeKeys", name := "use", desc := "(III)I" } : Jvm.MethodName)) ∈ BG := bg_5 (List.mem_of_getElem? (i := 77) (by decide +kernel)) (by decide +kernel)
theorem wd_1038 : (Jvm.Cond.instanceMethod ({ cls := "LifeKeys", name := "use", desc := "(III)I" } : Jvm.MethodName)) ∈ BG := bg_5 (List.mem_of_getElem? (i := 78) (by decide +kernel)) (by decide +kernel)
theorem wd_1039 : (Jvm.Cond.selects "LifeKeys" ({ cls := "LifeKeys", name := "use", desc := "(III)I" } : Jvm.MethodName) ({ cls := "LifeKeys", name := "use", desc := "(III)I" } : Jvm.MethodName)) ∈ BG := bg_5 (List.mem_of_getElem? (i := 79) (by decide +kernel)) (by decide +kernel)
theorem wd_1040 : (Jvm.Cond.code ({ cls := "LifeKeys", name := "use", desc := "(III)I" } : Jvm.MethodName) prog_1_method_42_code (6 : Nat) (Option.some Jvm.ClassFile.FieldType.int)) ∈ BG := bg_5 (List.mem_of_getElem? (i := 80) (by decide +kernel)) (by decide +kernel)
theorem wd_1041 : (Jvm.Cond.methodLink "LifeKeys" (352 : Nat) ({ cls := "LifeKeys$Loans", name := "serves", desc := "(III)Z" } : Jvm.MethodName)) ∈ BG := bg_5 (List.mem_of_getElem? (i := 81) (by decide +kernel)) (by decide +kernel)
theorem wd_1042 : (Jvm.Cond.instanceMethod ({ cls := "LifeKeys$Loans", name := "serves", desc := "(III)Z" } : Jvm.MethodName)) ∈ BG := bg_5 (List.mem_of_getElem? (i := 82) (by decide +kernel)) (by decide +kernel)
theorem wd_1043 : (Jvm.Cond.selects "LifeKeys$Loans" ({ cls := "LifeKeys$Loans", name := "serves", desc := "(III)Z" } : Jvm.MethodName) ({ cls := "LifeKeys$Loans", name := "serves", desc := "(III)Z" } : Jvm.MethodName)) ∈ BG := bg_5 (List.mem_of_getElem? (i := 83) (by decide +kernel)) (by decide +kernel)
theorem wd_1044 : (Jvm.Cond.code ({ cls := "LifeKeys$Loans", name := "serves", desc := "(III)Z" } : Jvm.MethodName) prog_4_method_4_code (4 : Nat) (Option.some Jvm.ClassFile.FieldType.boolean)) ∈ BG := bg_5 (List.mem_of_getElem? (i := 84) (by decide +kernel)) (by decide +kernel)
theorem wd_1045 : (Jvm.Cond.methodLink "LifeKeys$Loans" (32 : Nat) ({ cls := "LifeKeys$Loans", name := "knows", desc := "(I)Z" } : Jvm.MethodName)) ∈ BG := bg_5 (List.mem_of_getElem? (i := 85) (by decide +kernel)) (by decide +kernel)
theorem wd_1046 : (Jvm.Cond.instanceMethod ({ cls := "LifeKeys$Loans", name := "knows", desc := "(I)Z" } : Jvm.MethodName)) ∈ BG := bg_5 (List.mem_of_getElem? (i := 86) (by decide +kernel)) (by decide +kernel)
theorem wd_1047 : (Jvm.Cond.selects "LifeKeys$Loans" ({ cls := "LifeKeys$Loans", name := "knows", desc := "(I)Z" } : Jvm.MethodName) ({ cls := "LifeKeys$Loans", name := "knows", desc := "(I)Z" } : Jvm.MethodName)) ∈ BG := bg_5 (List.mem_of_getElem? (i := 87) (by decide +kernel)) (by decide +kernel)
theorem wd_1048 : (Jvm.Cond.code ({ cls := "LifeKeys$Loans", name := "knows", desc := "(I)Z" } : Jvm.MethodName) prog_4_method_2_code (2 : Nat) (Option.some Jvm.ClassFile.FieldType.boolean)) ∈ BG := bg_5 (List.mem_of_getElem? (i := 88) (by decide +kernel)) (by decide +kernel)
theorem wd_1049 : (Jvm.Cond.methodLink "LifeKeysLaw" (204 : Nat) ({ cls := "LifeKeys", name := "back", desc := "(I)Z" } : Jvm.MethodName)) ∈ BG := bg_5 (List.mem_of_getElem? (i := 89) (by decide +kernel)) (by decide +kernel)
theorem wd_1050 : (Jvm.Cond.instanceMethod ({ cls := "LifeKeys", name := "back", desc := "(I)Z" } : Jvm.MethodName)) ∈ BG := bg_5 (List.mem_of_getElem? (i := 90) (by decide +kernel)) (by decide +kernel)
theorem wd_1051 : (Jvm.Cond.selects "LifeKeys" ({ cls := "LifeKeys", name := "back", desc := "(I)Z" } : Jvm.MethodName) ({ cls := "LifeKeys", name := "back", desc := "(I)Z" } : Jvm.MethodName)) ∈ BG := bg_5 (List.mem_of_getElem? (i := 91) (by decide +kernel)) (by decide +kernel)
theorem wd_1052 : (Jvm.Cond.code ({ cls := "LifeKeys", name := "back", desc := "(I)Z" } : Jvm.MethodName) prog_1_method_43_code (2 : Nat) (Option.some Jvm.ClassFile.FieldType.boolean)) ∈ BG := bg_5 (List.mem_of_getElem? (i := 92) (by decide +kernel)) (by decide +kernel)
theorem wd_1053 : (Jvm.Cond.methodLink "LifeKeys" (359 : Nat) ({ cls := "LifeKeys$Loans", name := "knows", desc := "(I)Z" } : Jvm.MethodName)) ∈ BG := bg_5 (List.mem_of_getElem? (i := 93) (by decide +kernel)) (by decide +kernel)
theorem wd_1054 : (Jvm.Cond.methodLink "LifeKeysLaw" (208 : Nat) ({ cls := "LifeKeys", name := "fall", desc := "(I)I" } : Jvm.MethodName)) ∈ BG := bg_5 (List.mem_of_getElem? (i := 94) (by decide +kernel)) (by decide +kernel)
theorem wd_1055 : (Jvm.Cond.instanceMethod ({ cls := "LifeKeys", name := "fall", desc := "(I)I" } : Jvm.MethodName)) ∈ BG := bg_5 (List.mem_of_getElem? (i := 95) (by decide +kernel)) (by decide +kernel)
theorem wd_1056 : (Jvm.Cond.selects "LifeKeys" ({ cls := "LifeKeys", name := "fall", desc := "(I)I" } : Jvm.MethodName) ({ cls := "LifeKeys", name := "fall", desc := "(I)I" } : Jvm.MethodName)) ∈ BG := bg_5 (List.mem_of_getElem? (i := 96) (by decide +kernel)) (by decide +kernel)
theorem wd_1057 : (Jvm.Cond.code ({ cls := "LifeKeys", name := "fall", desc := "(I)I" } : Jvm.MethodName) prog_1_method_44_code (2 : Nat) (Option.some Jvm.ClassFile.FieldType.int)) ∈ BG := bg_5 (List.mem_of_getElem? (i := 97) (by decide +kernel)) (by decide +kernel)
theorem wd_1058 : (Jvm.Cond.methodLink "LifeKeysLaw" (212 : Nat) ({ cls := "LifeKeys", name := "fallen", desc := "(II)J" } : Jvm.MethodName)) ∈ BG := bg_5 (List.mem_of_getElem? (i := 98) (by decide +kernel)) (by decide +kernel)
theorem wd_1059 : (Jvm.Cond.instanceMethod ({ cls := "LifeKeys", name := "fallen", desc := "(II)J" } : Jvm.MethodName)) ∈ BG := bg_5 (List.mem_of_getElem? (i := 99) (by decide +kernel)) (by decide +kernel)
theorem wd_1060 : (Jvm.Cond.selects "LifeKeys" ({ cls := "LifeKeys", name := "fallen", desc := "(II)J" } : Jvm.MethodName) ({ cls := "LifeKeys", name := "fallen", desc := "(II)J" } : Jvm.MethodName)) ∈ BG := bg_5 (List.mem_of_getElem? (i := 100) (by decide +kernel)) (by decide +kernel)
theorem wd_1061 : (Jvm.Cond.code ({ cls := "LifeKeys", name := "fallen", desc := "(II)J" } : Jvm.MethodName) prog_1_method_45_code (3 : Nat) (Option.some Jvm.ClassFile.FieldType.long)) ∈ BG := bg_5 (List.mem_of_getElem? (i := 101) (by decide +kernel)) (by decide +kernel)
theorem wd_1062 : (Jvm.Cond.methodLink "LifeKeys" (366 : Nat) ({ cls := "LifeKeys", name := "isFall", desc := "(I)Z" } : Jvm.MethodName)) ∈ BG := bg_5 (List.mem_of_getElem? (i := 102) (by decide +kernel)) (by decide +kernel)
theorem wd_1064 : (Jvm.Cond.instanceMethod ({ cls := "LifeKeys", name := "isFall", desc := "(I)Z" } : Jvm.MethodName)) ∈ BG := bg_5 (List.mem_of_getElem? (i := 104) (by decide +kernel)) (by decide +kernel)
theorem wd_1065 : (Jvm.Cond.code ({ cls := "LifeKeys", name := "isFall", desc := "(I)Z" } : Jvm.MethodName) prog_1_method_57_code (2 : Nat) (Option.some Jvm.ClassFile.FieldType.boolean)) ∈ BG := bg_5 (List.mem_of_getElem? (i := 105) (by decide +kernel)) (by decide +kernel)
theorem wd_1066 : (Jvm.Cond.methodLink "LifeKeys" (369 : Nat) ({ cls := "LifeKeys$Keys", name := "all", desc := "()J" } : Jvm.MethodName)) ∈ BG := bg_5 (List.mem_of_getElem? (i := 106) (by decide +kernel)) (by decide +kernel)
theorem wd_1067 : (Jvm.Cond.instanceMethod ({ cls := "LifeKeys$Keys", name := "all", desc := "()J" } : Jvm.MethodName)) ∈ BG := bg_5 (List.mem_of_getElem? (i := 107) (by decide +kernel)) (by decide +kernel)
theorem wd_1068 : (Jvm.Cond.selects "LifeKeys$Keys" ({ cls := "LifeKeys$Keys", name := "all", desc := "()J" } : Jvm.MethodName) ({ cls := "LifeKeys$Keys", name := "all", desc := "()J" } : Jvm.MethodName)) ∈ BG := bg_5 (List.mem_of_getElem? (i := 108) (by decide +kernel)) (by decide +kernel)
theorem wd_1069 : (Jvm.Cond.code ({ cls := "LifeKeys$Keys", name := "all", desc := "()J" } : Jvm.MethodName) prog_3_method_5_code (1 : Nat) (Option.some Jvm.ClassFile.FieldType.long)) ∈ BG := bg_5 (List.mem_of_getElem? (i := 109) (by decide +kernel)) (by decide +kernel)
theorem wd_1070 : (Jvm.Cond.methodLink "LifeKeys" (373 : Nat) ({ cls := "LifeKeys", name := "othersThan", desc := "(I)I" } : Jvm.MethodName)) ∈ BG := bg_5 (List.mem_of_getElem? (i := 110) (by decide +kernel)) (by decide +kernel)
theorem wd_1072 : (Jvm.Cond.instanceMethod ({ cls := "LifeKeys", name := "othersThan", desc := "(I)I" } : Jvm.MethodName)) ∈ BG := bg_5 (List.mem_of_getElem? (i := 112) (by decide +kernel)) (by decide +kernel)
theorem wd_1073 : (Jvm.Cond.code ({ cls := "LifeKeys", name := "othersThan", desc := "(I)I" } : Jvm.MethodName) prog_1_method_56_code (2 : Nat) (Option.some Jvm.ClassFile.FieldType.int)) ∈ BG := bg_5 (List.mem_of_getElem? (i := 113) (by decide +kernel)) (by decide +kernel)
theorem wd_1074 : (Jvm.Cond.methodLink "LifeKeysLaw" (216 : Nat) ({ cls := "LifeKeys", name := "least", desc := "(II)I" } : Jvm.MethodName)) ∈ BG := bg_5 (List.mem_of_getElem? (i := 114) (by decide +kernel)) (by decide +kernel)
theorem wd_1075 : (Jvm.Cond.instanceMethod ({ cls := "LifeKeys", name := "least", desc := "(II)I" } : Jvm.MethodName)) ∈ BG := bg_5 (List.mem_of_getElem? (i := 115) (by decide +kernel)) (by decide +kernel)
theorem wd_1076 : (Jvm.Cond.selects "LifeKeys" ({ cls := "LifeKeys", name := "least", desc := "(II)I" } : Jvm.MethodName) ({ cls := "LifeKeys", name := "least", desc := "(II)I" } : Jvm.MethodName)) ∈ BG := bg_5 (List.mem_of_getElem? (i := 116) (by decide +kernel)) (by decide +kernel)
theorem wd_1077 : (Jvm.Cond.code ({ cls := "LifeKeys", name := "least", desc := "(II)I" } : Jvm.MethodName) prog_1_method_46_code (3 : Nat) (Option.some Jvm.ClassFile.FieldType.int)) ∈ BG := bg_5 (List.mem_of_getElem? (i := 117) (by decide +kernel)) (by decide +kernel)
theorem wd_1078 : (Jvm.Cond.methodLink "LifeKeys" (376 : Nat) ({ cls := "LifeKeys", name := "searchLeast", desc := "(II)Z" } : Jvm.MethodName)) ∈ BG := bg_5 (List.mem_of_getElem? (i := 118) (by decide +kernel)) (by decide +kernel)
theorem wd_1080 : (Jvm.Cond.instanceMethod ({ cls := "LifeKeys", name := "searchLeast", desc := "(II)Z" } : Jvm.MethodName)) ∈ BG := bg_5 (List.mem_of_getElem? (i := 120) (by decide +kernel)) (by decide +kernel)
theorem wd_1081 : (Jvm.Cond.code ({ cls := "LifeKeys", name := "searchLeast", desc := "(II)Z" } : Jvm.MethodName) prog_1_method_70_code (3 : Nat) (Option.some Jvm.ClassFile.FieldType.boolean)) ∈ BG := bg_5 (List.mem_of_getElem? (i := 121) (by decide +kernel)) (by decide +kernel)
theorem wd_1082 : (Jvm.Cond.methodLink "LifeKeys" (461 : Nat) ({ cls := "LifeKeys$Reach", name := "searchLeast", desc := "(IZI)V" } : Jvm.MethodName)) ∈ BG := bg_5 (List.mem_of_getElem? (i := 122) (by decide +kernel)) (by decide +kernel)
theorem wd_1083 : (Jvm.Cond.instanceMethod ({ cls := "LifeKeys$Reach", name := "searchLeast", desc := "(IZI)V" } : Jvm.MethodName)) ∈ BG := bg_5 (List.mem_of_getElem? (i := 123) (by decide +kernel)) (by decide +kernel)
theorem wd_1084 : (Jvm.Cond.selects "LifeKeys$Reach" ({ cls := "LifeKeys$Reach", name := "searchLeast", desc := "(IZI)V" } : Jvm.MethodName) ({ cls := "LifeKeys$Reach", name := "searchLeast", desc := "(IZI)V" } : Jvm.MethodName)) ∈ BG := bg_5 (List.mem_of_getElem? (i := 124) (by decide +kernel)) (by decide +kernel)
theorem wd_1085 : (Jvm.Cond.code ({ cls := "LifeKeys$Reach", name := "searchLeast", desc := "(IZI)V" } : Jvm.MethodName) prog_6_method_12_code (9 : Nat) (Option.none : Option Jvm.ClassFile.FieldType)) ∈ BG := bg_5 (List.mem_of_getElem? (i := 125) (by decide +kernel)) (by decide +kernel)
theorem wd_1086 : (Jvm.Cond.methodLink "LifeKeys$Reach" (117 : Nat) ({ cls := "LifeKeys$Reach", name := "sourcesOf", desc := "(I)J" } : Jvm.MethodName)) ∈ BG := bg_5 (List.mem_of_getElem? (i := 126) (by decide +kernel)) (by decide +kernel)
theorem wd_1088 : (Jvm.Cond.instanceMethod ({ cls := "LifeKeys$Reach", name := "sourcesOf", desc := "(I)J" } : Jvm.MethodName)) ∈ BG := bg_5 (List.mem_of_getElem? (i := 128) (by decide +kernel)) (by decide +kernel)
theorem wd_1089 : (Jvm.Cond.code ({ cls := "LifeKeys$Reach", name := "sourcesOf", desc := "(I)J" } : Jvm.MethodName) prog_6_method_9_code (8 : Nat) (Option.some Jvm.ClassFile.FieldType.long)) ∈ BG := bg_5 (List.mem_of_getElem? (i := 129) (by decide +kernel)) (by decide +kernel)
theorem wd_1090 : (Jvm.Cond.methodLink "LifeKeys$Reach" (120 : Nat) ({ cls := "LifeKeys$Reach", name := "holdersOfAny", desc := "(J)I" } : Jvm.MethodName)) ∈ BG := bg_5 (List.mem_of_getElem? (i := 130) (by decide +kernel)) (by decide +kernel)
theorem wd_1092 : (Jvm.Cond.instanceMethod ({ cls := "LifeKeys$Reach", name := "holdersOfAny", desc := "(J)I" } : Jvm.MethodName)) ∈ BG := bg_5 (List.mem_of_getElem? (i := 132) (by decide +kernel)) (by decide +kernel)
theorem wd_1093 : (Jvm.Cond.code ({ cls := "LifeKeys$Reach", name := "holdersOfAny", desc := "(J)I" } : Jvm.MethodName) prog_6_method_10_code (5 : Nat) (Option.some Jvm.ClassFile.FieldType.int)) ∈ BG := bg_5 (List.mem_of_getElem? (i := 133) (by decide +kernel)) (by decide +kernel)
theorem wd_1094 : (Jvm.Cond.methodLink "LifeKeys$Reach" (124 : Nat) ({ cls := "LifeKeys$Reach", name := "keepLive", desc := "(J)V" } : Jvm.MethodName)) ∈ BG := bg_5 (List.mem_of_getElem? (i := 134) (by decide +kernel)) (by decide +kernel)
theorem wd_1096 : (Jvm.Cond.instanceMethod ({ cls := "LifeKeys$Reach", name := "keepLive", desc := "(J)V" } : Jvm.MethodName)) ∈ BG := bg_5 (List.mem_of_getElem? (i := 136) (by decide +kernel)) (by decide +kernel)
theorem wd_1097 : (Jvm.Cond.code ({ cls := "LifeKeys$Reach", name := "keepLive", desc := "(J)V" } : Jvm.MethodName) prog_6_method_11_code (5 : Nat) (Option.none : Option Jvm.ClassFile.FieldType)) ∈ BG := bg_5 (List.mem_of_getElem? (i := 137) (by decide +kernel)) (by decide +kernel)
theorem wd_1098 : (Jvm.Cond.methodLink "LifeKeys$Reach" (137 : Nat) ({ cls := "LifeKeys$Reach", name := "comesTo", desc := "(II)Z" } : Jvm.MethodName)) ∈ BG := bg_5 (List.mem_of_getElem? (i := 138) (by decide +kernel)) (by decide +kernel)
theorem wd_1100 : (Jvm.Cond.instanceMethod ({ cls := "LifeKeys$Reach", name := "comesTo", desc := "(II)Z" } : Jvm.MethodName)) ∈ BG := bg_5 (List.mem_of_getElem? (i := 140) (by decide +kernel)) (by decide +kernel)
theorem wd_1101 : (Jvm.Cond.code ({ cls := "LifeKeys$Reach", name := "comesTo", desc := "(II)Z" } : Jvm.MethodName) prog_6_method_13_code (4 : Nat) (Option.some Jvm.ClassFile.FieldType.boolean)) ∈ BG := bg_5 (List.mem_of_getElem? (i := 141) (by decide +kernel)) (by decide +kernel)
theorem wd_1102 : (Jvm.Cond.methodLink "LifeKeys$Reach" (140 : Nat) ({ cls := "LifeKeys$Reach", name := "takeLeast", desc := "(II)V" } : Jvm.MethodName)) ∈ BG := bg_5 (List.mem_of_getElem? (i := 142) (by decide +kernel)) (by decide +kernel)
theorem wd_1104 : (Jvm.Cond.instanceMethod ({ cls := "LifeKeys$Reach", name := "takeLeast", desc := "(II)V" } : Jvm.MethodName)) ∈ BG := bg_5 (List.mem_of_getElem? (i := 144) (by decide +kernel)) (by decide +kernel)
theorem wd_1105 : (Jvm.Cond.code ({ cls := "LifeKeys$Reach", name := "takeLeast", desc := "(II)V" } : Jvm.MethodName) prog_6_method_14_code (5 : Nat) (Option.none : Option Jvm.ClassFile.FieldType)) ∈ BG := bg_5 (List.mem_of_getElem? (i := 145) (by decide +kernel)) (by decide +kernel)
theorem wd_1106 : (Jvm.Cond.methodLink "LifeKeysLaw" (220 : Nat) ({ cls := "LifeKeys", name := "ways", desc := "(II)I" } : Jvm.MethodName)) ∈ BG := bg_5 (List.mem_of_getElem? (i := 146) (by decide +kernel)) (by decide +kernel)
theorem wd_1107 : (Jvm.Cond.instanceMethod ({ cls := "LifeKeys", name := "ways", desc := "(II)I" } : Jvm.MethodName)) ∈ BG := bg_5 (List.mem_of_getElem? (i := 147) (by decide +kernel)) (by decide +kernel)
theorem wd_1108 : (Jvm.Cond.selects "LifeKeys" ({ cls := "LifeKeys", name := "ways", desc := "(II)I" } : Jvm.MethodName) ({ cls := "LifeKeys", name := "ways", desc := "(II)I" } : Jvm.MethodName)) ∈ BG := bg_5 (List.mem_of_getElem? (i := 148) (by decide +kernel)) (by decide +kernel)
theorem wd_1109 : (Jvm.Cond.code ({ cls := "LifeKeys", name := "ways", desc := "(II)I" } : Jvm.MethodName) prog_1_method_47_code (3 : Nat) (Option.some Jvm.ClassFile.FieldType.int)) ∈ BG := bg_5 (List.mem_of_getElem? (i := 149) (by decide +kernel)) (by decide +kernel)
theorem wd_1110 : (Jvm.Cond.methodLink "LifeKeysLaw" (224 : Nat) ({ cls := "LifeKeys", name := "first", desc := "(II)I" } : Jvm.MethodName)) ∈ BG := bg_5 (List.mem_of_getElem? (i := 150) (by decide +kernel)) (by decide +kernel)
theorem wd_1111 : (Jvm.Cond.instanceMethod ({ cls := "LifeKeys", name := "first", desc := "(II)I" } : Jvm.MethodName)) ∈ BG := bg_5 (List.mem_of_getElem? (i := 151) (by decide +kernel)) (by decide +kernel)
theorem wd_1112 : (Jvm.Cond.selects "LifeKeys" ({ cls := "LifeKeys", name := "first", desc := "(II)I" } : Jvm.MethodName) ({ cls := "LifeKeys", name := "first", desc := "(II)I" } : Jvm.MethodName)) ∈ BG := bg_5 (List.mem_of_getElem? (i := 152) (by decide +kernel)) (by decide +kernel)
theorem wd_1113 : (Jvm.Cond.code ({ cls := "LifeKeys", name := "first", desc := "(II)I" } : Jvm.MethodName) prog_1_method_48_code (3 : Nat) (Option.some Jvm.ClassFile.FieldType.int)) ∈ BG := bg_5 (List.mem_of_getElem? (i := 153) (by decide +kernel)) (by decide +kernel)
theorem wd_1114 : (Jvm.Cond.methodLink "LifeKeysLaw" (228 : Nat) ({ cls := "LifeKeys", name := "bette\x72", desc := "(I)I" } : Jvm.MethodName)) ∈ BG := bg_5 (List.mem_of_getElem? (i := 154) (by decide +kernel)) (by decide +kernel)
theorem wd_1115 : (Jvm.Cond.instanceMethod ({ cls := "LifeKeys", name := "bette\x72", desc := "(I)I" } : Jvm.MethodName)) ∈ BG := bg_5 (List.mem_of_getElem? (i := 155) (by decide +kernel)) (by decide +kernel)
theorem wd_1116 : (Jvm.Cond.selects "LifeKeys" ({ cls := "LifeKeys", name := "bette\x72", desc := "(I)I" } : Jvm.MethodName) ({ cls := "LifeKeys", name := "bette\x72", desc := "(I)I" } : Jvm.MethodName)) ∈ BG := bg_5 (List.mem_of_getElem? (i := 156) (by decide +kernel)) (by decide +kernel)
theorem wd_1117 : (Jvm.Cond.code ({ cls := "LifeKeys", name := "bette\x72", desc := "(I)I" } : Jvm.MethodName) prog_1_method_49_code (5 : Nat) (Option.some Jvm.ClassFile.FieldType.int)) ∈ BG := bg_5 (List.mem_of_getElem? (i := 157) (by decide +kernel)) (by decide +kernel)
theorem wd_1118 : (Jvm.Cond.methodLink "LifeKeys" (388 : Nat) ({ cls := "LifeKeys", name := "outlastsFalls", desc := "(II)Z" } : Jvm.MethodName)) ∈ BG := bg_5 (List.mem_of_getElem? (i := 158) (by decide +kernel)) (by decide +kernel)
theorem wd_1120 : (Jvm.Cond.instanceMethod ({ cls := "LifeKeys", name := "outlastsFalls", desc := "(II)Z" } : Jvm.MethodName)) ∈ BG := bg_5 (List.mem_of_getElem? (i := 160) (by decide +kernel)) (by decide +kernel)
theorem wd_1121 : (Jvm.Cond.code ({ cls := "LifeKeys", name := "outlastsFalls", desc := "(II)Z" } : Jvm.MethodName) prog_1_method_71_code (7 : Nat) (Option.some Jvm.ClassFile.FieldType.boolean)) ∈ BG := bg_5 (List.mem_of_getElem? (i := 161) (by decide +kernel)) (by decide +kernel)
theorem wd_1122 : (Jvm.Cond.methodLink "LifeKeysLaw" (232 : Nat) ({ cls := "LifeKeys", name := "orde\x72", desc := "(II)I" } : Jvm.MethodName)) ∈ BG := bg_5 (List.mem_of_getElem? (i := 162) (by decide +kernel)) (by decide +kernel)
theorem wd_1123 : (Jvm.Cond.instanceMethod ({ cls := "LifeKeys", name := "orde\x72", desc := "(II)I" } : Jvm.MethodName)) ∈ BG := bg_5 (List.mem_of_getElem? (i := 163) (by decide +kernel)) (by decide +kernel)
theorem wd_1124 : (Jvm.Cond.selects "LifeKeys" ({ cls := "LifeKeys", name := "orde\x72", desc := "(II)I" } : Jvm.MethodName) ({ cls := "LifeKeys", name := "orde\x72", desc := "(II)I" } : Jvm.MethodName)) ∈ BG := bg_5 (List.mem_of_getElem? (i := 164) (by decide +kernel)) (by decide +kernel)
theorem wd_1125 : (Jvm.Cond.code ({ cls := "LifeKeys", name := "orde\x72", desc := "(II)I" } : Jvm.MethodName) prog_1_method_50_code (7 : Nat) (Option.some Jvm.ClassFile.FieldType.int)) ∈ BG := bg_5 (List.mem_of_getElem? (i := 165) (by decide +kernel)) (by decide +kernel)
theorem wd_1126 : (Jvm.Cond.methodLink "LifeKeys" (391 : Nat) ({ cls := "LifeKeys$Reach", name := "lowestFree", desc := "(J)I" } : Jvm.MethodName)) ∈ BG := bg_5 (List.mem_of_getElem? (i := 166) (by decide +kernel)) (by decide +kernel)
theorem wd_1127 : (Jvm.Cond.instanceMethod ({ cls := "LifeKeys$Reach", name := "lowestFree", desc := "(J)I" } : Jvm.MethodName)) ∈ BG := bg_5 (List.mem_of_getElem? (i := 167) (by decide +kernel)) (by decide +kernel)
theorem wd_1128 : (Jvm.Cond.selects "LifeKeys$Reach" ({ cls := "LifeKeys$Reach", name := "lowestFree", desc := "(J)I" } : Jvm.MethodName) ({ cls := "LifeKeys$Reach", name := "lowestFree", desc := "(J)I" } : Jvm.MethodName)) ∈ BG := bg_5 (List.mem_of_getElem? (i := 168) (by decide +kernel)) (by decide +kernel)
theorem wd_1129 : (Jvm.Cond.code ({ cls := "LifeKeys$Reach", name := "lowestFree", desc := "(J)I" } : Jvm.MethodName) prog_6_method_15_code (6 : Nat) (Option.some Jvm.ClassFile.FieldType.int)) ∈ BG := bg_5 (List.mem_of_getElem? (i := 169) (by decide +kernel)) (by decide +kernel)
theorem wd_1130 : (Jvm.Cond.methodLink "LifeKeysLaw" (236 : Nat) ({ cls := "LifeKeys", name := "count", desc := "(I)I" } : Jvm.MethodName)) ∈ BG := bg_5 (List.mem_of_getElem? (i := 170) (by decide +kernel)) (by decide +kernel)
theorem wd_1131 : (Jvm.Cond.instanceMethod ({ cls := "LifeKeys", name := "count", desc := "(I)I" } : Jvm.MethodName)) ∈ BG := bg_5 (List.mem_of_getElem? (i := 171) (by decide +kernel)) (by decide +kernel)
theorem wd_1132 : (Jvm.Cond.selects "LifeKeys" ({ cls := "LifeKeys", name := "count", desc := "(I)I" } : Jvm.MethodName) ({ cls := "LifeKeys", name := "count", desc := "(I)I" } : Jvm.MethodName)) ∈ BG := bg_5 (List.mem_of_getElem? (i := 172) (by decide +kernel)) (by decide +kernel)
theorem wd_1133 : (Jvm.Cond.code ({ cls := "LifeKeys", name := "count", desc := "(I)I" } : Jvm.MethodName) prog_1_method_51_code (2 : Nat) (Option.some Jvm.ClassFile.FieldType.int)) ∈ BG := bg_5 (List.mem_of_getElem? (i := 173) (by decide +kernel)) (by decide +kernel)
theorem wd_1134 : (Jvm.Cond.methodLink "LifeKeys" (399 : Nat) ({ cls := "LifeKeys$Ties", name := "uncutWraps", desc := "()I" } : Jvm.MethodName)) ∈ BG := bg_5 (List.mem_of_getElem? (i := 174) (by decide +kernel)) (by decide +kernel)
theorem wd_1135 : (Jvm.Cond.instanceMethod ({ cls := "LifeKeys$Ties", name := "uncutWraps", desc := "()I" } : Jvm.MethodName)) ∈ BG := bg_5 (List.mem_of_getElem? (i := 175) (by decide +kernel)) (by decide +kernel)
theorem wd_1136 : (Jvm.Cond.selects "LifeKeys$Ties" ({ cls := "LifeKeys$Ties", name := "uncutWraps", desc := "()I" } : Jvm.MethodName) ({ cls := "LifeKeys$Ties", name := "uncutWraps", desc := "()I" } : Jvm.MethodName)) ∈ BG := bg_5 (List.mem_of_getElem? (i := 176) (by decide +kernel)) (by decide +kernel)
theorem wd_1137 : (Jvm.Cond.code ({ cls := "LifeKeys$Ties", name := "uncutWraps", desc := "()I" } : Jvm.MethodName) prog_12_method_8_code (3 : Nat) (Option.some Jvm.ClassFile.FieldType.int)) ∈ BG := bg_5 (List.mem_of_getElem? (i := 177) (by decide +kernel)) (by decide +kernel)
theorem wd_1138 : (Jvm.Cond.methodLink "LifeKeys" (404 : Nat) ({ cls := "LifeKeys", name := "countFurthe\x72", desc := "(I)I" } : Jvm.MethodName)) ∈ BG := bg_5 (List.mem_of_getElem? (i := 178) (by decide +kernel)) (by decide +kernel)
theorem wd_1140 : (Jvm.Cond.instanceMethod ({ cls := "LifeKeys", name := "countFurthe\x72", desc := "(I)I" } : Jvm.MethodName)) ∈ BG := bg_5 (List.mem_of_getElem? (i := 180) (by decide +kernel)) (by decide +kernel)
theorem wd_1141 : (Jvm.Cond.code ({ cls := "LifeKeys", name := "countFurthe\x72", desc := "(I)I" } : Jvm.MethodName) prog_1_method_52_code (2 : Nat) (Option.some Jvm.ClassFile.FieldType.int)) ∈ BG := bg_5 (List.mem_of_getElem? (i := 181) (by decide +kernel)) (by decide +kernel)
theorem wd_1142 : (Jvm.Cond.methodLink "LifeKeys" (409 : Nat) ({ cls := "LifeKeys$Loans", name := "notBack", desc := "()I" } : Jvm.MethodName)) ∈ BG := bg_5 (List.mem_of_getElem? (i := 182) (by decide +kernel)) (by decide +kernel)
theorem wd_1143 : (Jvm.Cond.instanceMethod ({ cls := "LifeKeys$Loans", name := "notBack", desc := "()I" } : Jvm.MethodName)) ∈ BG := bg_5 (List.mem_of_getElem? (i := 183) (by decide +kernel)) (by decide +kernel)
theorem wd_1144 : (Jvm.Cond.selects "LifeKeys$Loans" ({ cls := "LifeKeys$Loans", name := "notBack", desc := "()I" } : Jvm.MethodName) ({ cls := "LifeKeys$Loans", name := "notBack", desc := "()I" } : Jvm.MethodName)) ∈ BG := bg_5 (List.mem_of_getElem? (i := 184) (by decide +kernel)) (by decide +kernel)
theorem wd_1145 : (Jvm.Cond.code ({ cls := "LifeKeys$Loans", name := "notBack", desc := "()I" } : Jvm.MethodName) prog_4_method_5_code (3 : Nat) (Option.some Jvm.ClassFile.FieldType.int)) ∈ BG := bg_5 (List.mem_of_getElem? (i := 185) (by decide +kernel)) (by decide +kernel)
theorem wd_1146 : (Jvm.Cond.methodLink "LifeKeys" (412 : Nat) ({ cls := "LifeKeys$Things", name := "openedOnes", desc := "()I" } : Jvm.MethodName)) ∈ BG := bg_5 (List.mem_of_getElem? (i := 186) (by decide +kernel)) (by decide +kernel)
theorem wd_1147 : (Jvm.Cond.instanceMethod ({ cls := "LifeKeys$Things", name := "openedOnes", desc := "()I" } : Jvm.MethodName)) ∈ BG := bg_5 (List.mem_of_getElem? (i := 187) (by decide +kernel)) (by decide +kernel)
theorem wd_1148 : (Jvm.Cond.selects "LifeKeys$Things" ({ cls := "LifeKeys$Things", name := "openedOnes", desc := "()I" } : Jvm.MethodName) ({ cls := "LifeKeys$Things", name := "openedOnes", desc := "()I" } : Jvm.MethodName)) ∈ BG := bg_5 (List.mem_of_getElem? (i := 188) (by decide +kernel)) (by decide +kernel)
theorem wd_1149 : (Jvm.Cond.code ({ cls := "LifeKeys$Things", name := "openedOnes", desc := "()I" } : Jvm.MethodName) prog_11_method_5_code (3 : Nat) (Option.some Jvm.ClassFile.FieldType.int)) ∈ BG := bg_5 (List.mem_of_getElem? (i := 189) (by decide +kernel)) (by decide +kernel)
theorem wd_1150 : (Jvm.Cond.methodLink "LifeKeysLaw" (47 : Nat) ({ cls := "LifeKeysLaw", name := "open", desc := "(LLifeKeys;I[J)I" } : Jvm.MethodName)) ∈ BG := bg_5 (List.mem_of_getElem? (i := 190) (by decide +kernel)) (by decide +kernel)
theorem wd_1151 : (Jvm.Cond.static ({ cls := "LifeKeysLaw", name := "open", desc := "(LLifeKeys;I[J)I" } : Jvm.MethodName)) ∈ BG := bg_5 (List.mem_of_getElem? (i := 191) (by decide +kernel)) (by decide +kernel)
theorem wd_1152 : (Jvm.Cond.codeWith ({ cls := "LifeKeysLaw", name := "open", desc := "(LLifeKeys;I[J)I" } : Jvm.MethodName) method_3_code (4 : Nat) (Option.some Jvm.ClassFile.FieldType.int) [((0 : Nat), (9 : Nat), (12 : Nat), (13 : Nat))]) ∈ tables_1 := bm_5 (List.mem_of_getElem? (i := 192) (by decide +kernel))
theorem wd_1153 : (Jvm.Cond.classLink "LifeKeysLaw" (13 : Nat) "java/util/NoSuchElementException") ∈ BG := bg_5 (List.mem_of_getElem? (i := 193) (by decide +kernel)) (by decide +kernel)
theorem wd_1154 : (Jvm.Cond.methodLink "LifeKeysLaw" (7 : Nat) ({ cls := "LifeKeys", name := "open", desc := "(I)I" } : Jvm.MethodName)) ∈ BG := bg_5 (List.mem_of_getElem? (i := 194) (by decide +kernel)) (by decide +kernel)
theorem wd_1155 : (Jvm.Cond.instanceMethod ({ cls := "LifeKeys", name := "open", desc := "(I)I" } : Jvm.MethodName)) ∈ BG := bg_5 (List.mem_of_getElem? (i := 195) (by decide +kernel)) (by decide +kernel)
theorem wd_1156 : (Jvm.Cond.selects "LifeKeys" ({ cls := "LifeKeys", name := "open", desc := "(I)I" } : Jvm.MethodName) ({ cls := "LifeKeys", name := "open", desc := "(I)I" } : Jvm.MethodName)) ∈ BG := bg_5 (List.mem_of_getElem? (i := 196) (by decide +kernel)) (by decide +kernel)
theorem wd_1157 : (Jvm.Cond.code ({ cls := "LifeKeys", name := "open", desc := "(I)I" } : Jvm.MethodName) prog_1_method_8_code (2 : Nat) (Option.some Jvm.ClassFile.FieldType.int)) ∈ BG := bg_5 (List.mem_of_getElem? (i := 197) (by decide +kernel)) (by decide +kernel)
theorem wd_1158 : (Jvm.Cond.classLink "LifeKeys" (135 : Nat) "java/util/NoSuchElementException") ∈ BG := bg_5 (List.mem_of_getElem? (i := 198) (by decide +kernel)) (by decide +kernel)
theorem wd_1159 : (Jvm.Cond.instantiable "java/util/NoSuchElementException" (6 : Nat)) ∈ BG := bg_5 (List.mem_of_getElem? (i := 199) (by decide +kernel)) (by decide +kernel)
theorem wd_1167 : (Jvm.Cond.selects "java/util/NoSuchElementException" ({ cls := "java/lang/Throwable", name := "fillInStackTrace", desc := "(I)Ljava/lang/Throwable;" } : Jvm.MethodName) ({ cls := "java/lang/Throwable", name := "fillInStackTrace", desc := "(I)Ljava/lang/Throwable;" } : Jvm.MethodName)) ∈ BG := bg_5 (List.mem_of_getElem? (i := 207) (by decide +kernel)) (by decide +kernel)
theorem wd_1168 : (Jvm.Cond.selects "java/util/NoSuchElementException" ({ cls := "java/lang/Throwable", name := "fillInStackTrace", desc := "()Ljava/lang/Throwable;" } : Jvm.MethodName) ({ cls := "java/lang/Throwable", name := "fillInStackTrace", desc := "()Ljava/lang/Throwable;" } : Jvm.MethodName)) ∈ BG := bg_5 (List.mem_of_getElem? (i := 208) (by decide +kernel)) (by decide +kernel)
theorem wd_1169 : (Jvm.Cond.lays "java/util/NoSuchElementException" "java/lang/Throwable" "cause" "Ljava/lang/Throwable;") ∈ BG := bg_5 (List.mem_of_getElem? (i := 209) (by decide +kernel)) (by decide +kernel)
theorem wd_1170 : (Jvm.Cond.lays "java/lang/Throwable" "java/lang/Throwable" "cause" "Ljava/lang/Throwable;") ∈ BG := bg_5 (List.mem_of_getElem? (i := 210) (by decide +kernel)) (by decide +kernel)
theorem wd_1171 : (Jvm.Cond.lays "java/util/NoSuchElementException" "java/lang/Throwable" "stackTrace" "[Ljava/lang/StackTraceElement;") ∈ BG := bg_5 (List.mem_of_getElem? (i := 211) (by decide +kernel)) (by decide +kernel)
theorem wd_1172 : (Jvm.Cond.lays "java/lang/Throwable" "java/lang/Throwable" "stackTrace" "[Ljava/lang/StackTraceElement;") ∈ BG := bg_5 (List.mem_of_getElem? (i := 212) (by decide +kernel)) (by decide +kernel)
theorem wd_1173 : (Jvm.Cond.lays "java/util/NoSuchElementException" "java/lang/Throwable" "suppressedExceptions" "Ljava/util/List;") ∈ BG := bg_5 (List.mem_of_getElem? (i := 213) (by decide +kernel)) (by decide +kernel)
theorem wd_1174 : (Jvm.Cond.lays "java/lang/Throwable" "java/lang/Throwable" "suppressedExceptions" "Ljava/util/List;") ∈ BG := bg_5 (List.mem_of_getElem? (i := 214) (by decide +kernel)) (by decide +kernel)
theorem wd_1175 : (Jvm.Cond.lays "java/util/NoSuchElementException" "java/lang/Throwable" "detailMessage" "Ljava/lang/String;") ∈ BG := bg_5 (List.mem_of_getElem? (i := 215) (by decide +kernel)) (by decide +kernel)
theorem wd_1176 : (Jvm.Cond.lays "java/lang/Throwable" "java/lang/Throwable" "detailMessage" "Ljava/lang/String;") ∈ BG := bg_5 (List.mem_of_getElem? (i := 216) (by decide +kernel)) (by decide +kernel)
theorem wd_1177 : (Jvm.Cond.lays "java/util/NoSuchElementException" "java/lang/Throwable" "backtrace" "Ljava/lang/Object;") ∈ BG := bg_5 (List.mem_of_getElem? (i := 217) (by decide +kernel)) (by decide +kernel)
theorem wd_1178 : (Jvm.Cond.lays "java/lang/Throwable" "java/lang/Throwable" "backtrace" "Ljava/lang/Object;") ∈ BG := bg_5 (List.mem_of_getElem? (i := 218) (by decide +kernel)) (by decide +kernel)
theorem wd_1179 : (Jvm.Cond.fieldLink "java/lang/Throwable" (198 : Nat) "java/lang/Throwable" "backtrace" "Ljava/lang/Object;") ∈ BG := bg_5 (List.mem_of_getElem? (i := 219) (by decide +kernel)) (by decide +kernel)
theorem wd_1181 : (Jvm.Cond.instanceMethod ({ cls := "java/lang/Throwable", name := "<init>", desc := "()V" } : Jvm.MethodName)) ∈ BG := bg_5 (List.mem_of_getElem? (i := 221) (by decide +kernel)) (by decide +kernel)
theorem wd_1182 : (Jvm.Cond.code ({ cls := "java/lang/Throwable", name := "<init>", desc := "()V" } : Jvm.MethodName) prog_22_method_1_code (1 : Nat) (Option.none : Option Jvm.ClassFile.FieldType)) ∈ BG := bg_5 (List.mem_of_getElem? (i := 222) (by decide +kernel)) (by decide +kernel)
theorem wd_1183 : (Jvm.Cond.methodLink "java/lang/Throwable" (1 : Nat) ({ cls := "java/lang/Object", name := "<init>", desc := "()V" } : Jvm.MethodName)) ∈ BG := bg_5 (List.mem_of_getElem? (i := 223) (by decide +kernel)) (by decide +kernel)
theorem wd_1184 : (Jvm.Cond.fieldLink "java/lang/Throwable" (13 : Nat) "java/lang/Throwable" "UNASSIGNED_STACK" "[Ljava/lang/StackTraceElement;") ∈ BG := bg_5 (List.mem_of_getElem? (i := 224) (by decide +kernel)) (by decide +kernel)
theorem wd_1186 : (Jvm.Cond.fieldLink "java/lang/Throwable" (20 : Nat) "java/lang/Throwable" "SUPPRESSED_SENTINEL" "Ljava/util/List;") ∈ BG := bg_5 (List.mem_of_getElem? (i := 226) (by decide +kernel)) (by decide +kernel)
theorem wd_1188 : (Jvm.Cond.methodLink "java/lang/Throwable" (27 : Nat) ({ cls := "java/lang/Throwable", name := "fillInStackTrace", desc := "()Ljava/lang/Throwable;" } : Jvm.MethodName)) ∈ BG := bg_5 (List.mem_of_getElem? (i := 228) (by decide +kernel)) (by decide +kernel)
theorem wd_1189 : (Jvm.Cond.instanceMethod ({ cls := "java/lang/Throwable", name := "fillInStackTrace", desc := "()Ljava/lang/Throwable;" } : Jvm.MethodName)) ∈ BG := bg_5 (List.mem_of_getElem? (i := 229) (by decide +kernel)) (by decide +kernel)
theorem wd_1192 : (Jvm.Cond.methodLink "java/lang/Throwable" (202 : Nat) ({ cls := "java/lang/Throwable", name := "fillInStackTrace", desc := "(I)Ljava/lang/Throwable;" } : Jvm.MethodName)) ∈ BG := bg_5 (List.mem_of_getElem? (i := 232) (by decide +kernel)) (by decide +kernel)
theorem wd_1194 : (Jvm.Cond.instanceMethod ({ cls := "java/lang/Throwable", name := "fillInStackTrace", desc := "(I)Ljava/lang/Throwable;" } : Jvm.MethodName)) ∈ BG := bg_5 (List.mem_of_getElem? (i := 234) (by decide +kernel)) (by decide +kernel)
theorem wd_1195 : (Jvm.Cond.instantiable "java/lang/Throwable" (6 : Nat)) ∈ BG := bg_5 (List.mem_of_getElem? (i := 235) (by decide +kernel)) (by decide +kernel)
theorem wd_1196 : (Jvm.Cond.native ({ cls := "java/lang/Throwable", name := "fillInStackTrace", desc := "(I)Ljava/lang/Throwable;" } : Jvm.MethodName)) ∈ tables_1 := bm_5 (List.mem_of_getElem? (i := 236) (by decide +kernel))
theorem wd_1197 : (Jvm.Cond.stringRef "LifeKeys" (137 : Nat) "no such key") ∈ tables_1 := bm_5 (List.mem_of_getElem? (i := 237) (by decide +kernel))
theorem wd_1198 : (Jvm.Cond.methodLink "LifeKeys" (139 : Nat) ({ cls := "java/util/NoSuchElementException", name := "<init>", desc := "(Ljava/lang/String;)V" } : Jvm.MethodName)) ∈ BG := bg_5 (List.mem_of_getElem? (i := 238) (by decide +kernel)) (by decide +kernel)
theorem wd_1199 : (Jvm.Cond.instanceMethod ({ cls := "java/util/NoSuchElementException", name := "<init>", desc := "(Ljava/lang/String;)V" } : Jvm.MethodName)) ∈ BG := bg_5 (List.mem_of_getElem? (i := 239) (by decide +kernel)) (by decide +kernel)
theorem wd_1200 : (Jvm.Cond.code ({ cls := "java/util/NoSuchElementException", name := "<init>", desc := "(Ljava/lang/String;)V" } : Jvm.MethodName) prog_23_method_4_code (2 : Nat) (Option.none : Option Jvm.ClassFile.FieldType)) ∈ BG := bg_6 (List.mem_of_getElem? (i := 0) (by decide +kernel)) (by decide +kernel)
theorem wd_1201 : (Jvm.Cond.methodLink "java/util/NoSuchElementException" (13 : Nat) ({ cls := "java/lang/RuntimeException", name := "<init>", desc := "(Ljava/lang/String;)V" } : Jvm.MethodName)) ∈ BG := bg_6 (List.mem_of_getElem? (i := 1) (by decide +kernel)) (by decide +kernel)
theorem wd_1202 : (Jvm.Cond.instanceMethod ({ cls := "java/lang/RuntimeException", name := "<init>", desc := "(Ljava/lang/String;)V" } : Jvm.MethodName)) ∈ BG := bg_6 (List.mem_of_getElem? (i := 2) (by decide +kernel)) (by decide +kernel)
theorem wd_1203 : (Jvm.Cond.code ({ cls := "java/lang/RuntimeException", name := "<init>", desc := "(Ljava/lang/String;)V" } : Jvm.MethodName) prog_19_method_2_code (2 : Nat) (Option.none : Option Jvm.ClassFile.FieldType)) ∈ BG := bg_6 (List.mem_of_getElem? (i := 3) (by decide +kernel)) (by decide +kernel)
theorem wd_1204 : (Jvm.Cond.methodLink "java/lang/RuntimeException" (7 : Nat) ({ cls := "java/lang/Exception", name := "<init>", desc := "(Ljava/lang/String;)V" } : Jvm.MethodName)) ∈ BG := bg_6 (List.mem_of_getElem? (i := 4) (by decide +kernel)) (by decide +kernel)
theorem wd_1205 : (Jvm.Cond.instanceMethod ({ cls := "java/lang/Exception", name := "<init>", desc := "(Ljava/lang/String;)V" } : Jvm.MethodName)) ∈ BG := bg_6 (List.mem_of_getElem? (i := 5) (by decide +kernel)) (by decide +kernel)
theorem wd_1206 : (Jvm.Cond.code ({ cls := "java/lang/Exception", name := "<init>", desc := "(Ljava/lang/String;)V" } : Jvm.MethodName) prog_16_method_2_code (2 : Nat) (Option.none : Option Jvm.ClassFile.FieldType)) ∈ BG := bg_6 (List.mem_of_getElem? (i := 6) (by decide +kernel)) (by decide +kernel)
theorem wd_1207 : (Jvm.Cond.methodLink "java/lang/Exception" (7 : Nat) ({ cls := "java/lang/Throwable", name := "<init>", desc := "(Ljava/lang/String;)V" } : Jvm.MethodName)) ∈ BG := bg_6 (List.mem_of_getElem? (i := 7) (by decide +kernel)) (by decide +kernel)
theorem wd_1208 : (Jvm.Cond.instanceMethod ({ cls := "java/lang/Throwable", name := "<init>", desc := "(Ljava/lang/String;)V" } : Jvm.MethodName)) ∈ BG := bg_6 (List.mem_of_getElem? (i := 8) (by decide +kernel)) (by decide +kernel)
theorem wd_1209 : (Jvm.Cond.code ({ cls := "java/lang/Throwable", name := "<init>", desc := "(Ljava/lang/String;)V" } : Jvm.MethodName) prog_22_method_2_code (2 : Nat) (Option.none : Option Jvm.ClassFile.FieldType)) ∈ BG := bg_6 (List.mem_of_getElem? (i := 9) (by decide +kernel)) (by decide +kernel)
theorem wd_1210 : (Jvm.Cond.fieldLink "java/lang/Throwable" (198 : Nat) "java/lang/Throwable" "backtrace" "Ljava/lang/Object;") ∈ BG := bg_6 (List.mem_of_getElem? (i := 10) (by decide +kernel)) (by decide +kernel)
theorem wd_1211 : (Jvm.Cond.fieldLink "java/lang/Throwable" (31 : Nat) "java/lang/Throwable" "detailMessage" "Ljava/lang/String;") ∈ BG := bg_6 (List.mem_of_getElem? (i := 11) (by decide +kernel)) (by decide +kernel)
theorem wd_1212 : (Jvm.Cond.fieldLink "java/lang/Throwable" (7 : Nat) "java/lang/Throwable" "cause" "Ljava/lang/Throwable;") ∈ BG := bg_6 (List.mem_of_getElem? (i := 12) (by decide +kernel)) (by decide +kernel)
theorem wd_1213 : (Jvm.Cond.fieldLink "java/lang/Throwable" (17 : Nat) "java/lang/Throwable" "stackTrace" "[Ljava/lang/StackTraceElement;") ∈ BG := bg_6 (List.mem_of_getElem? (i := 13) (by decide +kernel)) (by decide +kernel)
theorem wd_1214 : (Jvm.Cond.fieldLink "java/lang/Throwable" (24 : Nat) "java/lang/Throwable" "suppressedExceptions" "Ljava/util/List;") ∈ BG := bg_6 (List.mem_of_getElem? (i := 14) (by decide +kernel)) (by decide +kernel)
theorem wd_1219 : (Jvm.Cond.lays "java/util/NoSuchElementException" "java/lang/Throwable" "depth" "I") ∈ BG := bg_6 (List.mem_of_getElem? (i := 19) (by decide +kernel)) (by decide +kernel)
theorem wd_1223 : (Jvm.Cond.arrayClass Jvm.ClassFile.FieldType.byte) ∈ BG := bg_6 (List.mem_of_getElem? (i := 23) (by decide +kernel)) (by decide +kernel)
theorem wd_1224 : (Jvm.Cond.classLink "LifeKeysLaw" (16 : Nat) "LifeKeysModel") ∈ BG := bg_6 (List.mem_of_getElem? (i := 24) (by decide +kernel)) (by decide +kernel)
theorem wd_1225 : (Jvm.Cond.instantiable "LifeKeysModel" (85 : Nat)) ∈ BG := bg_6 (List.mem_of_getElem? (i := 25) (by decide +kernel)) (by decide +kernel)
theorem wd_1226 : (Jvm.Cond.methodLink "LifeKeysLaw" (18 : Nat) ({ cls := "LifeKeysModel", name := "<init>", desc := "()V" } : Jvm.MethodName)) ∈ BG := bg_6 (List.mem_of_getElem? (i := 26) (by decide +kernel)) (by decide +kernel)
theorem wd_1227 : (Jvm.Cond.instanceMethod ({ cls := "LifeKeysModel", name := "<init>", desc := "()V" } : Jvm.MethodName)) ∈ BG := bg_6 (List.mem_of_getElem? (i := 27) (by decide +kernel)) (by decide +kernel)
theorem wd_1228 : (Jvm.Cond.code ({ cls := "LifeKeysModel", name := "<init>", desc := "()V" } : Jvm.MethodName) prog_14_method_1_code (1 : Nat) (Option.none : Option Jvm.ClassFile.FieldType)) ∈ BG := bg_6 (List.mem_of_getElem? (i := 28) (by decide +kernel)) (by decide +kernel)
theorem wd_1229 : (Jvm.Cond.methodLink "LifeKeysModel" (1 : Nat) ({ cls := "java/lang/Object", name := "<init>", desc := "()V" } : Jvm.MethodName)) ∈ BG := bg_6 (List.mem_of_getElem? (i := 29) (by decide +kernel)) (by decide +kernel)
theorem wd_1230 : (Jvm.Cond.fieldLink "LifeKeysModel" (181 : Nat) "LifeKeysModel" "thrown" "I") ∈ BG := bg_6 (List.mem_of_getElem? (i := 30) (by decide +kernel)) (by decide +kernel)
theorem wd_1231 : (Jvm.Cond.fieldLink "LifeKeysModel" (185 : Nat) "LifeKeysModel" "now" "I") ∈ BG := bg_6 (List.mem_of_getElem? (i := 31) (by decide +kernel)) (by decide +kernel)
theorem wd_1232 : (Jvm.Cond.fieldLink "LifeKeysModel" (9 : Nat) "LifeKeysModel" "sort" "[I") ∈ BG := bg_6 (List.mem_of_getElem? (i := 32) (by decide +kernel)) (by decide +kernel)
theorem wd_1233 : (Jvm.Cond.fieldLink "LifeKeysModel" (13 : Nat) "LifeKeysModel" "secret" "[I") ∈ BG := bg_6 (List.mem_of_getElem? (i := 33) (by decide +kernel)) (by decide +kernel)
theorem wd_1234 : (Jvm.Cond.fieldLink "LifeKeysModel" (16 : Nat) "LifeKeysModel" "rootOf" "[I") ∈ BG := bg_6 (List.mem_of_getElem? (i := 34) (by decide +kernel)) (by decide +kernel)
theorem wd_1235 : (Jvm.Cond.fieldLink "LifeKeysModel" (19 : Nat) "LifeKeysModel" "keyDay" "[I") ∈ BG := bg_6 (List.mem_of_getElem? (i := 35) (by decide +kernel)) (by decide +kernel)
theorem wd_1236 : (Jvm.Cond.fieldLink "LifeKeysModel" (22 : Nat) "LifeKeysModel" "oldFrom" "[I") ∈ BG := bg_6 (List.mem_of_getElem? (i := 36) (by decide +kernel)) (by decide +kernel)
theorem wd_1237 : (Jvm.Cond.fieldLink "LifeKeysModel" (25 : Nat) "LifeKeysModel" "giveHolde\x72" "[I") ∈ BG := bg_6 (List.mem_of_getElem? (i := 37) (by decide +kernel)) (by decide +kernel)
theorem wd_1238 : (Jvm.Cond.fieldLink "LifeKeysModel" (28 : Nat) "LifeKeysModel" "giveKey" "[I") ∈ BG := bg_6 (List.mem_of_getElem? (i := 38) (by decide +kernel)) (by decide +kernel)
theorem wd_1239 : (Jvm.Cond.fieldLink "LifeKeysModel" (31 : Nat) "LifeKeysModel" "giveDay" "[I") ∈ BG := bg_6 (List.mem_of_getElem? (i := 39) (by decide +kernel)) (by decide +kernel)
theorem wd_1240 : (Jvm.Cond.fieldLink "LifeKeysModel" (34 : Nat) "LifeKeysModel" "isGiving" "[Z") ∈ BG := bg_6 (List.mem_of_getElem? (i := 40) (by decide +kernel)) (by decide +kernel)
theorem wd_1241 : (Jvm.Cond.fieldLink "LifeKeysModel" (38 : Nat) "LifeKeysModel" "isFalse" "[Z") ∈ BG := bg_6 (List.mem_of_getElem? (i := 41) (by decide +kernel)) (by decide +kernel)
theorem wd_1242 : (Jvm.Cond.fieldLink "LifeKeysModel" (196 : Nat) "LifeKeysModel" "holders" "I") ∈ BG := bg_6 (List.mem_of_getElem? (i := 42) (by decide +kernel)) (by decide +kernel)
theorem wd_1243 : (Jvm.Cond.fieldLink "LifeKeysModel" (199 : Nat) "LifeKeysModel" "keys" "I") ∈ BG := bg_6 (List.mem_of_getElem? (i := 43) (by decide +kernel)) (by decide +kernel)
theorem wd_1244 : (Jvm.Cond.fieldLink "LifeKeysModel" (223 : Nat) "LifeKeysModel" "gives" "I") ∈ BG := bg_6 (List.mem_of_getElem? (i := 44) (by decide +kernel)) (by decide +kernel)
theorem wd_1245 : (Jvm.Cond.fieldLink "LifeKeysModel" (41 : Nat) "LifeKeysModel" "tape" "[B") ∈ BG := bg_6 (List.mem_of_getElem? (i := 45) (by decide +kernel)) (by decide +kernel)
theorem wd_1246 : (Jvm.Cond.fieldLink "LifeKeysModel" (205 : Nat) "LifeKeysModel" "length" "I") ∈ BG := bg_6 (List.mem_of_getElem? (i := 46) (by decide +kernel)) (by decide +kernel)
theorem wd_1247 : (Jvm.Cond.fieldLink "LifeKeysModel" (45 : Nat) "LifeKeysModel" "inne\x72" "[I") ∈ BG := bg_6 (List.mem_of_getElem? (i := 47) (by decide +kernel)) (by decide +kernel)
theorem wd_1248 : (Jvm.Cond.fieldLink "LifeKeysModel" (48 : Nat) "LifeKeysModel" "oute\x72" "[I") ∈ BG := bg_6 (List.mem_of_getElem? (i := 48) (by decide +kernel)) (by decide +kernel)
theorem wd_1249 : (Jvm.Cond.fieldLink "LifeKeysModel" (51 : Nat) "LifeKeysModel" "wrapDay" "[I") ∈ BG := bg_6 (List.mem_of_getElem? (i := 49) (by decide +kernel)) (by decide +kernel)
theorem wd_1250 : (Jvm.Cond.fieldLink "LifeKeysModel" (54 : Nat) "LifeKeysModel" "wrapEnd" "[I") ∈ BG := bg_6 (List.mem_of_getElem? (i := 50) (by decide +kernel)) (by decide +kernel)
theorem wd_1251 : (Jvm.Cond.fieldLink "LifeKeysModel" (57 : Nat) "LifeKeysModel" "partKey" "[I") ∈ BG := bg_6 (List.mem_of_getElem? (i := 51) (by decide +kernel)) (by decide +kernel)
theorem wd_1252 : (Jvm.Cond.fieldLink "LifeKeysModel" (60 : Nat) "LifeKeysModel" "partHolders" "[I") ∈ BG := bg_6 (List.mem_of_getElem? (i := 52) (by decide +kernel)) (by decide +kernel)
theorem wd_1253 : (Jvm.Cond.fieldLink "LifeKeysModel" (63 : Nat) "LifeKeysModel" "partNeed" "[I") ∈ BG := bg_6 (List.mem_of_getElem? (i := 53) (by decide +kernel)) (by decide +kernel)
theorem wd_1254 : (Jvm.Cond.fieldLink "LifeKeysModel" (66 : Nat) "LifeKeysModel" "partDay" "[I") ∈ BG := bg_6 (List.mem_of_getElem? (i := 54) (by decide +kernel)) (by decide +kernel)
theorem wd_1255 : (Jvm.Cond.fieldLink "LifeKeysModel" (69 : Nat) "LifeKeysModel" "partEnd" "[I") ∈ BG := bg_6 (List.mem_of_getElem? (i := 55) (by decide +kernel)) (by decide +kernel)
theorem wd_1256 : (Jvm.Cond.fieldLink "LifeKeysModel" (72 : Nat) "LifeKeysModel" "curve" "[I") ∈ BG := bg_6 (List.mem_of_getElem? (i := 56) (by decide +kernel)) (by decide +kernel)
theorem wd_1257 : (Jvm.Cond.fieldLink "LifeKeysModel" (75 : Nat) "LifeKeysModel" "benchHolde\x72" "[I") ∈ BG := bg_6 (List.mem_of_getElem? (i := 57) (by decide +kernel)) (by decide +kernel)
theorem wd_1258 : (Jvm.Cond.fieldLink "LifeKeysModel" (78 : Nat) "LifeKeysModel" "benchNumbe\x72" "[I") ∈ BG := bg_6 (List.mem_of_getElem? (i := 58) (by decide +kernel)) (by decide +kernel)
theorem wd_1259 : (Jvm.Cond.fieldLink "LifeKeysModel" (236 : Nat) "LifeKeysModel" "wraps" "I") ∈ BG := bg_6 (List.mem_of_getElem? (i := 59) (by decide +kernel)) (by decide +kernel)
theorem wd_1260 : (Jvm.Cond.fieldLink "LifeKeysModel" (243 : Nat) "LifeKeysModel" "partings" "I") ∈ BG := bg_6 (List.mem_of_getElem? (i := 60) (by decide +kernel)) (by decide +kernel)
theorem wd_1261 : (Jvm.Cond.fieldLink "LifeKeysModel" (277 : Nat) "LifeKeysModel" "bench" "I") ∈ BG := bg_6 (List.mem_of_getElem? (i := 61) (by decide +kernel)) (by decide +kernel)
theorem wd_1262 : (Jvm.Cond.fieldLink "LifeKeysModel" (81 : Nat) "LifeKeysModel" "hasBits" "[J") ∈ BG := bg_6 (List.mem_of_getElem? (i := 62) (by decide +kernel)) (by decide +kernel)
theorem wd_1263 : (Jvm.Cond.fieldLink "LifeKeysModel" (85 : Nat) "LifeKeysModel" "ruleText" "[B") ∈ BG := bg_6 (List.mem_of_getElem? (i := 63) (by decide +kernel)) (by decide +kernel)
theorem wd_1264 : (Jvm.Cond.fieldLink "LifeKeysModel" (88 : Nat) "LifeKeysModel" "ruleLong" "[I") ∈ BG := bg_6 (List.mem_of_getElem? (i := 64) (by decide +kernel)) (by decide +kernel)
theorem wd_1265 : (Jvm.Cond.fieldLink "LifeKeysModel" (91 : Nat) "LifeKeysModel" "deathHolde\x72" "[I") ∈ BG := bg_6 (List.mem_of_getElem? (i := 65) (by decide +kernel)) (by decide +kernel)
theorem wd_1266 : (Jvm.Cond.fieldLink "LifeKeysModel" (94 : Nat) "LifeKeysModel" "deathRule" "[I") ∈ BG := bg_6 (List.mem_of_getElem? (i := 66) (by decide +kernel)) (by decide +kernel)
theorem wd_1267 : (Jvm.Cond.fieldLink "LifeKeysModel" (97 : Nat) "LifeKeysModel" "deathTold" "[I") ∈ BG := bg_6 (List.mem_of_getElem? (i := 67) (by decide +kernel)) (by decide +kernel)
theorem wd_1268 : (Jvm.Cond.fieldLink "LifeKeysModel" (100 : Nat) "LifeKeysModel" "digest" "[I") ∈ BG := bg_6 (List.mem_of_getElem? (i := 68) (by decide +kernel)) (by decide +kernel)
theorem wd_1269 : (Jvm.Cond.fieldLink "LifeKeysModel" (103 : Nat) "LifeKeysModel" "sealedTo" "[I") ∈ BG := bg_6 (List.mem_of_getElem? (i := 69) (by decide +kernel)) (by decide +kernel)
theorem wd_1270 : (Jvm.Cond.fieldLink "LifeKeysModel" (106 : Nat) "LifeKeysModel" "askedOn" "[I") ∈ BG := bg_6 (List.mem_of_getElem? (i := 70) (by decide +kernel)) (by decide +kernel)
theorem wd_1271 : (Jvm.Cond.fieldLink "LifeKeysModel" (109 : Nat) "LifeKeysModel" "sayHolde\x72" "[I") ∈ BG := bg_6 (List.mem_of_getElem? (i := 71) (by decide +kernel)) (by decide +kernel)
theorem wd_1272 : (Jvm.Cond.fieldLink "LifeKeysModel" (112 : Nat) "LifeKeysModel" "sayOf" "[I") ∈ BG := bg_6 (List.mem_of_getElem? (i := 72) (by decide +kernel)) (by decide +kernel)
theorem wd_1273 : (Jvm.Cond.fieldLink "LifeKeysModel" (115 : Nat) "LifeKeysModel" "sayDay" "[I") ∈ BG := bg_6 (List.mem_of_getElem? (i := 73) (by decide +kernel)) (by decide +kernel)
theorem wd_1274 : (Jvm.Cond.fieldLink "LifeKeysModel" (118 : Nat) "LifeKeysModel" "isByRule" "[Z") ∈ BG := bg_6 (List.mem_of_getElem? (i := 74) (by decide +kernel)) (by decide +kernel)
theorem wd_1275 : (Jvm.Cond.fieldLink "LifeKeysModel" (121 : Nat) "LifeKeysModel" "isOpened" "[Z") ∈ BG := bg_6 (List.mem_of_getElem? (i := 75) (by decide +kernel)) (by decide +kernel)
theorem wd_1276 : (Jvm.Cond.fieldLink "LifeKeysModel" (124 : Nat) "LifeKeysModel" "isYes" "[Z") ∈ BG := bg_6 (List.mem_of_getElem? (i := 76) (by decide +kernel)) (by decide +kernel)
theorem wd_1277 : (Jvm.Cond.fieldLink "LifeKeysModel" (127 : Nat) "LifeKeysModel" "isOfDeath" "[Z") ∈ BG := bg_6 (List.mem_of_getElem? (i := 77) (by decide +kernel)) (by decide +kernel)
theorem wd_1278 : (Jvm.Cond.fieldLink "LifeKeysModel" (400 : Nat) "LifeKeysModel" "rules" "I") ∈ BG := bg_6 (List.mem_of_getElem? (i := 78) (by decide +kernel)) (by decide +kernel)
theorem wd_1279 : (Jvm.Cond.fieldLink "LifeKeysModel" (388 : Nat) "LifeKeysModel" "deaths" "I") ∈ BG := bg_6 (List.mem_of_getElem? (i := 79) (by decide +kernel)) (by decide +kernel)
theorem wd_1280 : (Jvm.Cond.fieldLink "LifeKeysModel" (406 : Nat) "LifeKeysModel" "things" "I") ∈ BG := bg_6 (List.mem_of_getElem? (i := 80) (by decide +kernel)) (by decide +kernel)
theorem wd_1281 : (Jvm.Cond.fieldLink "LifeKeysModel" (375 : Nat) "LifeKeysModel" "sayings" "I") ∈ BG := bg_6 (List.mem_of_getElem? (i := 81) (by decide +kernel)) (by decide +kernel)
theorem wd_1282 : (Jvm.Cond.fieldLink "LifeKeysModel" (130 : Nat) "LifeKeysModel" "text" "[B") ∈ BG := bg_6 (List.mem_of_getElem? (i := 82) (by decide +kernel)) (by decide +kernel)
theorem wd_1283 : (Jvm.Cond.fieldLink "LifeKeysModel" (322 : Nat) "LifeKeysModel" "begins" "I") ∈ BG := bg_6 (List.mem_of_getElem? (i := 83) (by decide +kernel)) (by decide +kernel)
theorem wd_1284 : (Jvm.Cond.fieldLink "LifeKeysModel" (319 : Nat) "LifeKeysModel" "ends" "I") ∈ BG := bg_6 (List.mem_of_getElem? (i := 84) (by decide +kernel)) (by decide +kernel)
theorem wd_1285 : (Jvm.Cond.fieldLink "LifeKeysModel" (316 : Nat) "LifeKeysModel" "at" "I") ∈ BG := bg_6 (List.mem_of_getElem? (i := 85) (by decide +kernel)) (by decide +kernel)
theorem wd_1286 : (Jvm.Cond.fieldLink "LifeKeysModel" (325 : Nat) "LifeKeysModel" "fault" "I") ∈ BG := bg_6 (List.mem_of_getElem? (i := 86) (by decide +kernel)) (by decide +kernel)
theorem wd_1287 : (Jvm.Cond.fieldLink "LifeKeysModel" (328 : Nat) "LifeKeysModel" "deep" "I") ∈ BG := bg_6 (List.mem_of_getElem? (i := 87) (by decide +kernel)) (by decide +kernel)
theorem wd_1288 : (Jvm.Cond.fieldLink "LifeKeysModel" (378 : Nat) "LifeKeysModel" "of" "I") ∈ BG := bg_6 (List.mem_of_getElem? (i := 88) (by decide +kernel)) (by decide +kernel)
theorem wd_1289 : (Jvm.Cond.fieldLink "LifeKeysModel" (372 : Nat) "LifeKeysModel" "day" "I") ∈ BG := bg_6 (List.mem_of_getElem? (i := 89) (by decide +kernel)) (by decide +kernel)
theorem wd_1290 : (Jvm.Cond.fieldLink "LifeKeysModel" (381 : Nat) "LifeKeysModel" "seen" "I") ∈ BG := bg_6 (List.mem_of_getElem? (i := 90) (by decide +kernel)) (by decide +kernel)
theorem wd_1291 : (Jvm.Cond.fieldLink "LifeKeysModel" (369 : Nat) "LifeKeysModel" "first" "I") ∈ BG := bg_6 (List.mem_of_getElem? (i := 91) (by decide +kernel)) (by decide +kernel)
theorem wd_1292 : (Jvm.Cond.fieldLink "LifeKeysModel" (360 : Nat) "LifeKeysModel" "ofDeath" "Z") ∈ BG := bg_6 (List.mem_of_getElem? (i := 92) (by decide +kernel)) (by decide +kernel)
theorem wd_1293 : (Jvm.Cond.fieldLink "LifeKeysModel" (133 : Nat) "LifeKeysModel" "isDead" "[Z") ∈ BG := bg_6 (List.mem_of_getElem? (i := 93) (by decide +kernel)) (by decide +kernel)
theorem wd_1294 : (Jvm.Cond.fieldLink "LifeKeysModel" (136 : Nat) "LifeKeysModel" "signR" "[I") ∈ BG := bg_6 (List.mem_of_getElem? (i := 94) (by decide +kernel)) (by decide +kernel)
theorem wd_1295 : (Jvm.Cond.fieldLink "LifeKeysModel" (139 : Nat) "LifeKeysModel" "signS" "[I") ∈ BG := bg_6 (List.mem_of_getElem? (i := 95) (by decide +kernel)) (by decide +kernel)
theorem wd_1296 : (Jvm.Cond.fieldLink "LifeKeysModel" (142 : Nat) "LifeKeysModel" "signKey" "[I") ∈ BG := bg_6 (List.mem_of_getElem? (i := 96) (by decide +kernel)) (by decide +kernel)
theorem wd_1297 : (Jvm.Cond.fieldLink "LifeKeysModel" (145 : Nat) "LifeKeysModel" "signThing" "[I") ∈ BG := bg_6 (List.mem_of_getElem? (i := 97) (by decide +kernel)) (by decide +kernel)
theorem wd_1298 : (Jvm.Cond.fieldLink "LifeKeysModel" (148 : Nat) "LifeKeysModel" "signDay" "[I") ∈ BG := bg_6 (List.mem_of_getElem? (i := 98) (by decide +kernel)) (by decide +kernel)
theorem wd_1299 : (Jvm.Cond.fieldLink "LifeKeysModel" (151 : Nat) "LifeKeysModel" "burnKey" "[I") ∈ BG := bg_6 (List.mem_of_getElem? (i := 99) (by decide +kernel)) (by decide +kernel)
theorem wd_1300 : (Jvm.Cond.fieldLink "LifeKeysModel" (154 : Nat) "LifeKeysModel" "burnDay" "[I") ∈ BG := bg_6 (List.mem_of_getElem? (i := 100) (by decide +kernel)) (by decide +kernel)
theorem wd_1301 : (Jvm.Cond.fieldLink "LifeKeysModel" (157 : Nat) "LifeKeysModel" "burnTold" "[I") ∈ BG := bg_6 (List.mem_of_getElem? (i := 101) (by decide +kernel)) (by decide +kernel)
theorem wd_1302 : (Jvm.Cond.fieldLink "LifeKeysModel" (160 : Nat) "LifeKeysModel" "lentKey" "[I") ∈ BG := bg_6 (List.mem_of_getElem? (i := 102) (by decide +kernel)) (by decide +kernel)
theorem wd_1303 : (Jvm.Cond.fieldLink "LifeKeysModel" (163 : Nat) "LifeKeysModel" "lentTo" "[I") ∈ BG := bg_6 (List.mem_of_getElem? (i := 103) (by decide +kernel)) (by decide +kernel)
theorem wd_1304 : (Jvm.Cond.fieldLink "LifeKeysModel" (166 : Nat) "LifeKeysModel" "lentUses" "[I") ∈ BG := bg_6 (List.mem_of_getElem? (i := 104) (by decide +kernel)) (by decide +kernel)
theorem wd_1305 : (Jvm.Cond.fieldLink "LifeKeysModel" (169 : Nat) "LifeKeysModel" "lentThing" "[I") ∈ BG := bg_6 (List.mem_of_getElem? (i := 105) (by decide +kernel)) (by decide +kernel)
theorem wd_1306 : (Jvm.Cond.fieldLink "LifeKeysModel" (172 : Nat) "LifeKeysModel" "isBack" "[Z") ∈ BG := bg_6 (List.mem_of_getElem? (i := 106) (by decide +kernel)) (by decide +kernel)
theorem wd_1307 : (Jvm.Cond.fieldLink "LifeKeysModel" (428 : Nat) "LifeKeysModel" "signatures" "I") ∈ BG := bg_6 (List.mem_of_getElem? (i := 107) (by decide +kernel)) (by decide +kernel)
theorem wd_1308 : (Jvm.Cond.fieldLink "LifeKeysModel" (422 : Nat) "LifeKeysModel" "burns" "I") ∈ BG := bg_6 (List.mem_of_getElem? (i := 108) (by decide +kernel)) (by decide +kernel)
theorem wd_1309 : (Jvm.Cond.fieldLink "LifeKeysModel" (444 : Nat) "LifeKeysModel" "lents" "I") ∈ BG := bg_6 (List.mem_of_getElem? (i := 109) (by decide +kernel)) (by decide +kernel)
theorem wd_1310 : (Jvm.Cond.fieldLink "LifeKeysModel" (175 : Nat) "LifeKeysModel" "fallSet" "[I") ∈ BG := bg_6 (List.mem_of_getElem? (i := 110) (by decide +kernel)) (by decide +kernel)
theorem wd_1311 : (Jvm.Cond.fieldLink "LifeKeysModel" (178 : Nat) "LifeKeysModel" "orde\x72" "[I") ∈ BG := bg_6 (List.mem_of_getElem? (i := 111) (by decide +kernel)) (by decide +kernel)
theorem wd_1312 : (Jvm.Cond.fieldLink "LifeKeysModel" (447 : Nat) "LifeKeysModel" "falls" "I") ∈ BG := bg_6 (List.mem_of_getElem? (i := 112) (by decide +kernel)) (by decide +kernel)
theorem wd_1313 : (Jvm.Cond.fieldLink "LifeKeysModel" (460 : Nat) "LifeKeysModel" "bestSet" "I") ∈ BG := bg_6 (List.mem_of_getElem? (i := 113) (by decide +kernel)) (by decide +kernel)
theorem wd_1314 : (Jvm.Cond.fieldLink "LifeKeysModel" (463 : Nat) "LifeKeysModel" "wayMany" "I") ∈ BG := bg_6 (List.mem_of_getElem? (i := 114) (by decide +kernel)) (by decide +kernel)
theorem wd_1315 : (Jvm.Cond.lays "LifeKeysModel" "LifeKeysModel" "thrown" "I") ∈ BG := bg_6 (List.mem_of_getElem? (i := 115) (by decide +kernel)) (by decide +kernel)
theorem wd_1317 : (Jvm.Cond.lays "LifeKeysModel" "LifeKeysModel" "now" "I") ∈ BG := bg_6 (List.mem_of_getElem? (i := 117) (by decide +kernel)) (by decide +kernel)
theorem wd_1319 : (Jvm.Cond.laysFinal "LifeKeysModel" "LifeKeysModel" "sort" "[I") ∈ BG := bg_6 (List.mem_of_getElem? (i := 119) (by decide +kernel)) (by decide +kernel)
theorem wd_1321 : (Jvm.Cond.laysFinal "LifeKeysModel" "LifeKeysModel" "secret" "[I") ∈ BG := bg_6 (List.mem_of_getElem? (i := 121) (by decide +kernel)) (by decide +kernel)
theorem wd_1323 : (Jvm.Cond.laysFinal "LifeKeysModel" "LifeKeysModel" "rootOf" "[I") ∈ BG := bg_6 (List.mem_of_getElem? (i := 123) (by decide +kernel)) (by decide +kernel)
theorem wd_1325 : (Jvm.Cond.laysFinal "LifeKeysModel" "LifeKeysModel" "keyDay" "[I") ∈ BG := bg_6 (List.mem_of_getElem? (i := 125) (by decide +kernel)) (by decide +kernel)
theorem wd_1327 : (Jvm.Cond.laysFinal "LifeKeysModel" "LifeKeysModel" "oldFrom" "[I") ∈ BG := bg_6 (List.mem_of_getElem? (i := 127) (by decide +kernel)) (by decide +kernel)
theorem wd_1329 : (Jvm.Cond.laysFinal "LifeKeysModel" "LifeKeysModel" "giveHolde\x72" "[I") ∈ BG := bg_6 (List.mem_of_getElem? (i := 129) (by decide +kernel)) (by decide +kernel)
theorem wd_1331 : (Jvm.Cond.laysFinal "LifeKeysModel" "LifeKeysModel" "giveKey" "[I") ∈ BG := bg_6 (List.mem_of_getElem? (i := 131) (by decide +kernel)) (by decide +kernel)
theorem wd_1333 : (Jvm.Cond.laysFinal "LifeKeysModel" "LifeKeysModel" "giveDay" "[I") ∈ BG := bg_6 (List.mem_of_getElem? (i := 133) (by decide +kernel)) (by decide +kernel)
theorem wd_1335 : (Jvm.Cond.laysFinal "LifeKeysModel" "LifeKeysModel" "isGiving" "[Z") ∈ BG := bg_6 (List.mem_of_getElem? (i := 135) (by decide +kernel)) (by decide +kernel)
theorem wd_1337 : (Jvm.Cond.laysFinal "LifeKeysModel" "LifeKeysModel" "isFalse" "[Z") ∈ BG := bg_6 (List.mem_of_getElem? (i := 137) (by decide +kernel)) (by decide +kernel)
theorem wd_1339 : (Jvm.Cond.lays "LifeKeysModel" "LifeKeysModel" "holders" "I") ∈ BG := bg_6 (List.mem_of_getElem? (i := 139) (by decide +kernel)) (by decide +kernel)
theorem wd_1341 : (Jvm.Cond.lays "LifeKeysModel" "LifeKeysModel" "keys" "I") ∈ BG := bg_6 (List.mem_of_getElem? (i := 141) (by decide +kernel)) (by decide +kernel)
theorem wd_1343 : (Jvm.Cond.lays "LifeKeysModel" "LifeKeysModel" "gives" "I") ∈ BG := bg_6 (List.mem_of_getElem? (i := 143) (by decide +kernel)) (by decide +kernel)
theorem wd_1345 : (Jvm.Cond.laysFinal "LifeKeysModel" "LifeKeysModel" "tape" "[B") ∈ BG := bg_6 (List.mem_of_getElem? (i := 145) (by decide +kernel)) (by decide +kernel)
theorem wd_1347 : (Jvm.Cond.lays "LifeKeysModel" "LifeKeysModel" "length" "I") ∈ BG := bg_6 (List.mem_of_getElem? (i := 147) (by decide +kernel)) (by decide +kernel)
theorem wd_1349 : (Jvm.Cond.laysFinal "LifeKeysModel" "LifeKeysModel" "inne\x72" "[I") ∈ BG := bg_6 (List.mem_of_getElem? (i := 149) (by decide +kernel)) (by decide +kernel)
theorem wd_1351 : (Jvm.Cond.laysFinal "LifeKeysModel" "LifeKeysModel" "oute\x72" "[I") ∈ BG := bg_6 (List.mem_of_getElem? (i := 151) (by decide +kernel)) (by decide +kernel)
theorem wd_1353 : (Jvm.Cond.laysFinal "LifeKeysModel" "LifeKeysModel" "wrapDay" "[I") ∈ BG := bg_6 (List.mem_of_getElem? (i := 153) (by decide +kernel)) (by decide +kernel)
theorem wd_1355 : (Jvm.Cond.laysFinal "LifeKeysModel" "LifeKeysModel" "wrapEnd" "[I") ∈ BG := bg_6 (List.mem_of_getElem? (i := 155) (by decide +kernel)) (by decide +kernel)
theorem wd_1357 : (Jvm.Cond.laysFinal "LifeKeysModel" "LifeKeysModel" "partKey" "[I") ∈ BG := bg_6 (List.mem_of_getElem? (i := 157) (by decide +kernel)) (by decide +kernel)
theorem wd_1359 : (Jvm.Cond.laysFinal "LifeKeysModel" "LifeKeysModel" "partHolders" "[I") ∈ BG := bg_6 (List.mem_of_getElem? (i := 159) (by decide +kernel)) (by decide +kernel)
theorem wd_1361 : (Jvm.Cond.laysFinal "LifeKeysModel" "LifeKeysModel" "partNeed" "[I") ∈ BG := bg_6 (List.mem_of_getElem? (i := 161) (by decide +kernel)) (by decide +kernel)
theorem wd_1363 : (Jvm.Cond.laysFinal "LifeKeysModel" "LifeKeysModel" "partDay" "[I") ∈ BG := bg_6 (List.mem_of_getElem? (i := 163) (by decide +kernel)) (by decide +kernel)
theorem wd_1365 : (Jvm.Cond.laysFinal "LifeKeysModel" "LifeKeysModel" "partEnd" "[I") ∈ BG := bg_6 (List.mem_of_getElem? (i := 165) (by decide +kernel)) (by decide +kernel)
theorem wd_1367 : (Jvm.Cond.laysFinal "LifeKeysModel" "LifeKeysModel" "curve" "[I") ∈ BG := bg_6 (List.mem_of_getElem? (i := 167) (by decide +kernel)) (by decide +kernel)
theorem wd_1369 : (Jvm.Cond.laysFinal "LifeKeysModel" "LifeKeysModel" "benchHolde\x72" "[I") ∈ BG := bg_6 (List.mem_of_getElem? (i := 169) (by decide +kernel)) (by decide +kernel)
theorem wd_1371 : (Jvm.Cond.laysFinal "LifeKeysModel" "LifeKeysModel" "benchNumbe\x72" "[I") ∈ BG := bg_6 (List.mem_of_getElem? (i := 171) (by decide +kernel)) (by decide +kernel)
theorem wd_1373 : (Jvm.Cond.lays "LifeKeysModel" "LifeKeysModel" "wraps" "I") ∈ BG := bg_6 (List.mem_of_getElem? (i := 173) (by decide +kernel)) (by decide +kernel)
theorem wd_1375 : (Jvm.Cond.lays "LifeKeysModel" "LifeKeysModel" "partings" "I") ∈ BG := bg_6 (List.mem_of_getElem? (i := 175) (by decide +kernel)) (by decide +kernel)
theorem wd_1377 : (Jvm.Cond.lays "LifeKeysModel" "LifeKeysModel" "bench" "I") ∈ BG := bg_6 (List.mem_of_getElem? (i := 177) (by decide +kernel)) (by decide +kernel)
theorem wd_1379 : (Jvm.Cond.laysFinal "LifeKeysModel" "LifeKeysModel" "hasBits" "[J") ∈ BG := bg_6 (List.mem_of_getElem? (i := 179) (by decide +kernel)) (by decide +kernel)
theorem wd_1381 : (Jvm.Cond.laysFinal "LifeKeysModel" "LifeKeysModel" "ruleText" "[B") ∈ BG := bg_6 (List.mem_of_getElem? (i := 181) (by decide +kernel)) (by decide +kernel)
theorem wd_1383 : (Jvm.Cond.laysFinal "LifeKeysModel" "LifeKeysModel" "ruleLong" "[I") ∈ BG := bg_6 (List.mem_of_getElem? (i := 183) (by decide +kernel)) (by decide +kernel)
theorem wd_1385 : (Jvm.Cond.laysFinal "LifeKeysModel" "LifeKeysModel" "deathHolde\x72" "[I") ∈ BG := bg_6 (List.mem_of_getElem? (i := 185) (by decide +kernel)) (by decide +kernel)
theorem wd_1387 : (Jvm.Cond.laysFinal "LifeKeysModel" "LifeKeysModel" "deathRule" "[I") ∈ BG := bg_6 (List.mem_of_getElem? (i := 187) (by decide +kernel)) (by decide +kernel)
theorem wd_1389 : (Jvm.Cond.laysFinal "LifeKeysModel" "LifeKeysModel" "deathTold" "[I") ∈ BG := bg_6 (List.mem_of_getElem? (i := 189) (by decide +kernel)) (by decide +kernel)
theorem wd_1391 : (Jvm.Cond.laysFinal "LifeKeysModel" "LifeKeysModel" "digest" "[I") ∈ BG := bg_6 (List.mem_of_getElem? (i := 191) (by decide +kernel)) (by decide +kernel)
theorem wd_1393 : (Jvm.Cond.laysFinal "LifeKeysModel" "LifeKeysModel" "sealedTo" "[I") ∈ BG := bg_6 (List.mem_of_getElem? (i := 193) (by decide +kernel)) (by decide +kernel)
theorem wd_1395 : (Jvm.Cond.laysFinal "LifeKeysModel" "LifeKeysModel" "askedOn" "[I") ∈ BG := bg_6 (List.mem_of_getElem? (i := 195) (by decide +kernel)) (by decide +kernel)
theorem wd_1397 : (Jvm.Cond.laysFinal "LifeKeysModel" "LifeKeysModel" "sayHolde\x72" "[I") ∈ BG := bg_6 (List.mem_of_getElem? (i := 197) (by decide +kernel)) (by decide +kernel)
theorem wd_1399 : (Jvm.Cond.laysFinal "LifeKeysModel" "LifeKeysModel" "sayOf" "[I") ∈ BG := bg_6 (List.mem_of_getElem? (i := 199) (by decide +kernel)) (by decide +kernel)
theorem wd_1401 : (Jvm.Cond.laysFinal "LifeKeysModel" "LifeKeysModel" "sayDay" "[I") ∈ BG := bg_6 (List.mem_of_getElem? (i := 201) (by decide +kernel)) (by decide +kernel)
theorem wd_1403 : (Jvm.Cond.laysFinal "LifeKeysModel" "LifeKeysModel" "isByRule" "[Z") ∈ BG := bg_6 (List.mem_of_getElem? (i := 203) (by decide +kernel)) (by decide +kernel)
theorem wd_1405 : (Jvm.Cond.laysFinal "LifeKeysModel" "LifeKeysModel" "isOpened" "[Z") ∈ BG := bg_6 (List.mem_of_getElem? (i := 205) (by decide +kernel)) (by decide +kernel)
theorem wd_1407 : (Jvm.Cond.laysFinal "LifeKeysModel" "LifeKeysModel" "isYes" "[Z") ∈ BG := bg_6 (List.mem_of_getElem? (i := 207) (by decide +kernel)) (by decide +kernel)
theorem wd_1409 : (Jvm.Cond.laysFinal "LifeKeysModel" "LifeKeysModel" "isOfDeath" "[Z") ∈ BG := bg_6 (List.mem_of_getElem? (i := 209) (by decide +kernel)) (by decide +kernel)
theorem wd_1411 : (Jvm.Cond.lays "LifeKeysModel" "LifeKeysModel" "rules" "I") ∈ BG := bg_6 (List.mem_of_getElem? (i := 211) (by decide +kernel)) (by decide +kernel)
theorem wd_1413 : (Jvm.Cond.lays "LifeKeysModel" "LifeKeysModel" "deaths" "I") ∈ BG := bg_6 (List.mem_of_getElem? (i := 213) (by decide +kernel)) (by decide +kernel)
theorem wd_1415 : (Jvm.Cond.lays "LifeKeysModel" "LifeKeysModel" "things" "I") ∈ BG := bg_6 (List.mem_of_getElem? (i := 215) (by decide +kernel)) (by decide +kernel)
theorem wd_1417 : (Jvm.Cond.lays "LifeKeysModel" "LifeKeysModel" "sayings" "I") ∈ BG := bg_6 (List.mem_of_getElem? (i := 217) (by decide +kernel)) (by decide +kernel)
theorem wd_1419 : (Jvm.Cond.lays "LifeKeysModel" "LifeKeysModel" "text" "[B") ∈ BG := bg_6 (List.mem_of_getElem? (i := 219) (by decide +kernel)) (by decide +kernel)
theorem wd_1421 : (Jvm.Cond.lays "LifeKeysModel" "LifeKeysModel" "begins" "I") ∈ BG := bg_6 (List.mem_of_getElem? (i := 221) (by decide +kernel)) (by decide +kernel)
theorem wd_1423 : (Jvm.Cond.lays "LifeKeysModel" "LifeKeysModel" "ends" "I") ∈ BG := bg_6 (List.mem_of_getElem? (i := 223) (by decide +kernel)) (by decide +kernel)
theorem wd_1425 : (Jvm.Cond.lays "LifeKeysModel" "LifeKeysModel" "at" "I") ∈ BG := bg_6 (List.mem_of_getElem? (i := 225) (by decide +kernel)) (by decide +kernel)
theorem wd_1427 : (Jvm.Cond.lays "LifeKeysModel" "LifeKeysModel" "fault" "I") ∈ BG := bg_6 (List.mem_of_getElem? (i := 227) (by decide +kernel)) (by decide +kernel)
theorem wd_1429 : (Jvm.Cond.lays "LifeKeysModel" "LifeKeysModel" "deep" "I") ∈ BG := bg_6 (List.mem_of_getElem? (i := 229) (by decide +kernel)) (by decide +kernel)
theorem wd_1431 : (Jvm.Cond.lays "LifeKeysModel" "LifeKeysModel" "of" "I") ∈ BG := bg_6 (List.mem_of_getElem? (i := 231) (by decide +kernel)) (by decide +kernel)
theorem wd_1433 : (Jvm.Cond.lays "LifeKeysModel" "LifeKeysModel" "day" "I") ∈ BG := bg_6 (List.mem_of_getElem? (i := 233) (by decide +kernel)) (by decide +kernel)
theorem wd_1435 : (Jvm.Cond.lays "LifeKeysModel" "LifeKeysModel" "seen" "I") ∈ BG := bg_6 (List.mem_of_getElem? (i := 235) (by decide +kernel)) (by decide +kernel)
theorem wd_1437 : (Jvm.Cond.lays "LifeKeysModel" "LifeKeysModel" "first" "I") ∈ BG := bg_6 (List.mem_of_getElem? (i := 237) (by decide +kernel)) (by decide +kernel)
theorem wd_1439 : (Jvm.Cond.lays "LifeKeysModel" "LifeKeysModel" "ofDeath" "Z") ∈ BG := bg_6 (List.mem_of_getElem? (i := 239) (by decide +kernel)) (by decide +kernel)
theorem wd_1441 : (Jvm.Cond.laysFinal "LifeKeysModel" "LifeKeysModel" "isDead" "[Z") ∈ BG := bg_7 (List.mem_of_getElem? (i := 1) (by decide +kernel)) (by decide +kernel)
theorem wd_1443 : (Jvm.Cond.laysFinal "LifeKeysModel" "LifeKeysModel" "signR" "[I") ∈ BG := bg_7 (List.mem_of_getElem? (i := 3) (by decide +kernel)) (by decide +kernel)
theorem wd_1445 : (Jvm.Cond.laysFinal "LifeKeysModel" "LifeKeysModel" "signS" "[I") ∈ BG := bg_7 (List.mem_of_getElem? (i := 5) (by decide +kernel)) (by decide +kernel)
theorem wd_1447 : (Jvm.Cond.laysFinal "LifeKeysModel" "LifeKeysModel" "signKey" "[I") ∈ BG := bg_7 (List.mem_of_getElem? (i := 7) (by decide +kernel)) (by decide +kernel)
theorem wd_1449 : (Jvm.Cond.laysFinal "LifeKeysModel" "LifeKeysModel" "signThing" "[I") ∈ BG := bg_7 (List.mem_of_getElem? (i := 9) (by decide +kernel)) (by decide +kernel)
theorem wd_1451 : (Jvm.Cond.laysFinal "LifeKeysModel" "LifeKeysModel" "signDay" "[I") ∈ BG := bg_7 (List.mem_of_getElem? (i := 11) (by decide +kernel)) (by decide +kernel)
theorem wd_1453 : (Jvm.Cond.laysFinal "LifeKeysModel" "LifeKeysModel" "burnKey" "[I") ∈ BG := bg_7 (List.mem_of_getElem? (i := 13) (by decide +kernel)) (by decide +kernel)
theorem wd_1455 : (Jvm.Cond.laysFinal "LifeKeysModel" "LifeKeysModel" "burnDay" "[I") ∈ BG := bg_7 (List.mem_of_getElem? (i := 15) (by decide +kernel)) (by decide +kernel)
theorem wd_1457 : (Jvm.Cond.laysFinal "LifeKeysModel" "LifeKeysModel" "burnTold" "[I") ∈ BG := bg_7 (List.mem_of_getElem? (i := 17) (by decide +kernel)) (by decide +kernel)
theorem wd_1459 : (Jvm.Cond.laysFinal "LifeKeysModel" "LifeKeysModel" "lentKey" "[I") ∈ BG := bg_7 (List.mem_of_getElem? (i := 19) (by decide +kernel)) (by decide +kernel)
theorem wd_1461 : (Jvm.Cond.laysFinal "LifeKeysModel" "LifeKeysModel" "lentTo" "[I") ∈ BG := bg_7 (List.mem_of_getElem? (i := 21) (by decide +kernel)) (by decide +kernel)
theorem wd_1463 : (Jvm.Cond.laysFinal "LifeKeysModel" "LifeKeysModel" "lentUses" "[I") ∈ BG := bg_7 (List.mem_of_getElem? (i := 23) (by decide +kernel)) (by decide +kernel)
theorem wd_1465 : (Jvm.Cond.laysFinal "LifeKeysModel" "LifeKeysModel" "lentThing" "[I") ∈ BG := bg_7 (List.mem_of_getElem? (i := 25) (by decide +kernel)) (by decide +kernel)
theorem wd_1467 : (Jvm.Cond.laysFinal "LifeKeysModel" "LifeKeysModel" "isBack" "[Z") ∈ BG := bg_7 (List.mem_of_getElem? (i := 27) (by decide +kernel)) (by decide +kernel)
theorem wd_1469 : (Jvm.Cond.lays "LifeKeysModel" "LifeKeysModel" "signatures" "I") ∈ BG := bg_7 (List.mem_of_getElem? (i := 29) (by decide +kernel)) (by decide +kernel)
theorem wd_1471 : (Jvm.Cond.lays "LifeKeysModel" "LifeKeysModel" "burns" "I") ∈ BG := bg_7 (List.mem_of_getElem? (i := 31) (by decide +kernel)) (by decide +kernel)
theorem wd_1473 : (Jvm.Cond.lays "LifeKeysModel" "LifeKeysModel" "lents" "I") ∈ BG := bg_7 (List.mem_of_getElem? (i := 33) (by decide +kernel)) (by decide +kernel)
theorem wd_1475 : (Jvm.Cond.laysFinal "LifeKeysModel" "LifeKeysModel" "fallSet" "[I") ∈ BG := bg_7 (List.mem_of_getElem? (i := 35) (by decide +kernel)) (by decide +kernel)
theorem wd_1477 : (Jvm.Cond.laysFinal "LifeKeysModel" "LifeKeysModel" "orde\x72" "[I") ∈ BG := bg_7 (List.mem_of_getElem? (i := 37) (by decide +kernel)) (by decide +kernel)
theorem wd_1479 : (Jvm.Cond.lays "LifeKeysModel" "LifeKeysModel" "falls" "I") ∈ BG := bg_7 (List.mem_of_getElem? (i := 39) (by decide +kernel)) (by decide +kernel)
theorem wd_1481 : (Jvm.Cond.lays "LifeKeysModel" "LifeKeysModel" "bestSet" "I") ∈ BG := bg_7 (List.mem_of_getElem? (i := 41) (by decide +kernel)) (by decide +kernel)
theorem wd_1483 : (Jvm.Cond.lays "LifeKeysModel" "LifeKeysModel" "wayMany" "I") ∈ BG := bg_7 (List.mem_of_getElem? (i := 43) (by decide +kernel)) (by decide +kernel)
theorem wd_1486 : (Jvm.Cond.methodLink "LifeKeysLaw" (53 : Nat) ({ cls := "LifeKeysModel", name := "thrown", desc := "()I" } : Jvm.MethodName)) ∈ BG := bg_7 (List.mem_of_getElem? (i := 46) (by decide +kernel)) (by decide +kernel)
theorem wd_1487 : (Jvm.Cond.instanceMethod ({ cls := "LifeKeysModel", name := "thrown", desc := "()I" } : Jvm.MethodName)) ∈ BG := bg_7 (List.mem_of_getElem? (i := 47) (by decide +kernel)) (by decide +kernel)
theorem wd_1488 : (Jvm.Cond.selects "LifeKeysModel" ({ cls := "LifeKeysModel", name := "thrown", desc := "()I" } : Jvm.MethodName) ({ cls := "LifeKeysModel", name := "thrown", desc := "()I" } : Jvm.MethodName)) ∈ BG := bg_7 (List.mem_of_getElem? (i := 48) (by decide +kernel)) (by decide +kernel)
theorem wd_1489 : (Jvm.Cond.code ({ cls := "LifeKeysModel", name := "thrown", desc := "()I" } : Jvm.MethodName) prog_14_method_2_code (1 : Nat) (Option.some Jvm.ClassFile.FieldType.int)) ∈ BG := bg_7 (List.mem_of_getElem? (i := 49) (by decide +kernel)) (by decide +kernel)
theorem wd_1490 : (Jvm.Cond.methodLink "LifeKeysLaw" (22 : Nat) ({ cls := "LifeKeysModel", name := "days", desc := "(I)I" } : Jvm.MethodName)) ∈ BG := bg_7 (List.mem_of_getElem? (i := 50) (by decide +kernel)) (by decide +kernel)
theorem wd_1491 : (Jvm.Cond.instanceMethod ({ cls := "LifeKeysModel", name := "days", desc := "(I)I" } : Jvm.MethodName)) ∈ BG := bg_7 (List.mem_of_getElem? (i := 51) (by decide +kernel)) (by decide +kernel)
theorem wd_1492 : (Jvm.Cond.selects "LifeKeysModel" ({ cls := "LifeKeysModel", name := "days", desc := "(I)I" } : Jvm.MethodName) ({ cls := "LifeKeysModel", name := "days", desc := "(I)I" } : Jvm.MethodName)) ∈ BG := bg_7 (List.mem_of_getElem? (i := 52) (by decide +kernel)) (by decide +kernel)
theorem wd_1493 : (Jvm.Cond.code ({ cls := "LifeKeysModel", name := "days", desc := "(I)I" } : Jvm.MethodName) prog_14_method_6_code (2 : Nat) (Option.some Jvm.ClassFile.FieldType.int)) ∈ BG := bg_7 (List.mem_of_getElem? (i := 53) (by decide +kernel)) (by decide +kernel)
theorem wd_1494 : (Jvm.Cond.methodLink "LifeKeysModel" (188 : Nat) ({ cls := "LifeKeysModel", name := "isIn", desc := "(III)Z" } : Jvm.MethodName)) ∈ BG := bg_7 (List.mem_of_getElem? (i := 54) (by decide +kernel)) (by decide +kernel)
theorem wd_1495 : (Jvm.Cond.static ({ cls := "LifeKeysModel", name := "isIn", desc := "(III)Z" } : Jvm.MethodName)) ∈ BG := bg_7 (List.mem_of_getElem? (i := 55) (by decide +kernel)) (by decide +kernel)
theorem wd_1496 : (Jvm.Cond.code ({ cls := "LifeKeysModel", name := "isIn", desc := "(III)Z" } : Jvm.MethodName) prog_14_method_3_code (3 : Nat) (Option.some Jvm.ClassFile.FieldType.boolean)) ∈ BG := bg_7 (List.mem_of_getElem? (i := 56) (by decide +kernel)) (by decide +kernel)
theorem wd_1497 : (Jvm.Cond.methodLink "LifeKeysLaw" (27 : Nat) ({ cls := "LifeKeysModel", name := "holde\x72", desc := "()I" } : Jvm.MethodName)) ∈ BG := bg_7 (List.mem_of_getElem? (i := 57) (by decide +kernel)) (by decide +kernel)
theorem wd_1498 : (Jvm.Cond.instanceMethod ({ cls := "LifeKeysModel", name := "holde\x72", desc := "()I" } : Jvm.MethodName)) ∈ BG := bg_7 (List.mem_of_getElem? (i := 58) (by decide +kernel)) (by decide +kernel)
theorem wd_1499 : (Jvm.Cond.selects "LifeKeysModel" ({ cls := "LifeKeysModel", name := "holde\x72", desc := "()I" } : Jvm.MethodName) ({ cls := "LifeKeysModel", name := "holde\x72", desc := "()I" } : Jvm.MethodName)) ∈ BG := bg_7 (List.mem_of_getElem? (i := 59) (by decide +kernel)) (by decide +kernel)
theorem wd_1500 : (Jvm.Cond.code ({ cls := "LifeKeysModel", name := "holde\x72", desc := "()I" } : Jvm.MethodName) prog_14_method_13_code (1 : Nat) (Option.some Jvm.ClassFile.FieldType.int)) ∈ BG := bg_7 (List.mem_of_getElem? (i := 60) (by decide +kernel)) (by decide +kernel)
theorem wd_1501 : (Jvm.Cond.methodLink "LifeKeysLaw" (32 : Nat) ({ cls := "LifeKeysModel", name := "key", desc := "(IZ)I" } : Jvm.MethodName)) ∈ BG := bg_7 (List.mem_of_getElem? (i := 61) (by decide +kernel)) (by decide +kernel)
theorem wd_1502 : (Jvm.Cond.instanceMethod ({ cls := "LifeKeysModel", name := "key", desc := "(IZ)I" } : Jvm.MethodName)) ∈ BG := bg_7 (List.mem_of_getElem? (i := 62) (by decide +kernel)) (by decide +kernel)
theorem wd_1503 : (Jvm.Cond.selects "LifeKeysModel" ({ cls := "LifeKeysModel", name := "key", desc := "(IZ)I" } : Jvm.MethodName) ({ cls := "LifeKeysModel", name := "key", desc := "(IZ)I" } : Jvm.MethodName)) ∈ BG := bg_7 (List.mem_of_getElem? (i := 63) (by decide +kernel)) (by decide +kernel)
theorem wd_1504 : (Jvm.Cond.code ({ cls := "LifeKeysModel", name := "key", desc := "(IZ)I" } : Jvm.MethodName) prog_14_method_15_code (3 : Nat) (Option.some Jvm.ClassFile.FieldType.int)) ∈ BG := bg_7 (List.mem_of_getElem? (i := 64) (by decide +kernel)) (by decide +kernel)
theorem wd_1505 : (Jvm.Cond.methodLink "LifeKeysModel" (202 : Nat) ({ cls := "LifeKeysModel", name := "add", desc := "(III)I" } : Jvm.MethodName)) ∈ BG := bg_7 (List.mem_of_getElem? (i := 65) (by decide +kernel)) (by decide +kernel)
theorem wd_1507 : (Jvm.Cond.instanceMethod ({ cls := "LifeKeysModel", name := "add", desc := "(III)I" } : Jvm.MethodName)) ∈ BG := bg_7 (List.mem_of_getElem? (i := 67) (by decide +kernel)) (by decide +kernel)
theorem wd_1508 : (Jvm.Cond.code ({ cls := "LifeKeysModel", name := "add", desc := "(III)I" } : Jvm.MethodName) prog_14_method_14_code (4 : Nat) (Option.some Jvm.ClassFile.FieldType.int)) ∈ BG := bg_7 (List.mem_of_getElem? (i := 68) (by decide +kernel)) (by decide +kernel)
theorem wd_1509 : (Jvm.Cond.methodLink "LifeKeysLaw" (37 : Nat) ({ cls := "LifeKeysModel", name := "feed", desc := "(IIIII)I" } : Jvm.MethodName)) ∈ BG := bg_7 (List.mem_of_getElem? (i := 69) (by decide +kernel)) (by decide +kernel)
theorem wd_1510 : (Jvm.Cond.instanceMethod ({ cls := "LifeKeysModel", name := "feed", desc := "(IIIII)I" } : Jvm.MethodName)) ∈ BG := bg_7 (List.mem_of_getElem? (i := 70) (by decide +kernel)) (by decide +kernel)
theorem wd_1511 : (Jvm.Cond.selects "LifeKeysModel" ({ cls := "LifeKeysModel", name := "feed", desc := "(IIIII)I" } : Jvm.MethodName) ({ cls := "LifeKeysModel", name := "feed", desc := "(IIIII)I" } : Jvm.MethodName)) ∈ BG := bg_7 (List.mem_of_getElem? (i := 71) (by decide +kernel)) (by decide +kernel)
theorem wd_1512 : (Jvm.Cond.code ({ cls := "LifeKeysModel", name := "feed", desc := "(IIIII)I" } : Jvm.MethodName) prog_14_method_18_code (6 : Nat) (Option.some Jvm.ClassFile.FieldType.int)) ∈ BG := bg_7 (List.mem_of_getElem? (i := 72) (by decide +kernel)) (by decide +kernel)
theorem wd_1513 : (Jvm.Cond.methodLink "LifeKeysModel" (208 : Nat) ({ cls := "LifeKeysModel", name := "bytesIn", desc := "(I)I" } : Jvm.MethodName)) ∈ BG := bg_7 (List.mem_of_getElem? (i := 73) (by decide +kernel)) (by decide +kernel)
theorem wd_1514 : (Jvm.Cond.static ({ cls := "LifeKeysModel", name := "bytesIn", desc := "(I)I" } : Jvm.MethodName)) ∈ BG := bg_7 (List.mem_of_getElem? (i := 74) (by decide +kernel)) (by decide +kernel)
theorem wd_1515 : (Jvm.Cond.code ({ cls := "LifeKeysModel", name := "bytesIn", desc := "(I)I" } : Jvm.MethodName) prog_14_method_16_code (3 : Nat) (Option.some Jvm.ClassFile.FieldType.int)) ∈ BG := bg_7 (List.mem_of_getElem? (i := 75) (by decide +kernel)) (by decide +kernel)
theorem wd_1516 : (Jvm.Cond.methodLink "LifeKeysModel" (212 : Nat) ({ cls := "LifeKeysModel", name := "put", desc := "(I)V" } : Jvm.MethodName)) ∈ BG := bg_7 (List.mem_of_getElem? (i := 76) (by decide +kernel)) (by decide +kernel)
theorem wd_1518 : (Jvm.Cond.instanceMethod ({ cls := "LifeKeysModel", name := "put", desc := "(I)V" } : Jvm.MethodName)) ∈ BG := bg_7 (List.mem_of_getElem? (i := 78) (by decide +kernel)) (by decide +kernel)
theorem wd_1519 : (Jvm.Cond.code ({ cls := "LifeKeysModel", name := "put", desc := "(I)V" } : Jvm.MethodName) prog_14_method_17_code (3 : Nat) (Option.none : Option Jvm.ClassFile.FieldType)) ∈ BG := bg_7 (List.mem_of_getElem? (i := 79) (by decide +kernel)) (by decide +kernel)
theorem wd_1520 : (Jvm.Cond.methodLink "LifeKeysLaw" (42 : Nat) ({ cls := "LifeKeysModel", name := "end", desc := "(I)Z" } : Jvm.MethodName)) ∈ BG := bg_7 (List.mem_of_getElem? (i := 80) (by decide +kernel)) (by decide +kernel)
theorem wd_1521 : (Jvm.Cond.instanceMethod ({ cls := "LifeKeysModel", name := "end", desc := "(I)Z" } : Jvm.MethodName)) ∈ BG := bg_7 (List.mem_of_getElem? (i := 81) (by decide +kernel)) (by decide +kernel)
theorem wd_1522 : (Jvm.Cond.selects "LifeKeysModel" ({ cls := "LifeKeysModel", name := "end", desc := "(I)Z" } : Jvm.MethodName) ({ cls := "LifeKeysModel", name := "end", desc := "(I)Z" } : Jvm.MethodName)) ∈ BG := bg_7 (List.mem_of_getElem? (i := 82) (by decide +kernel)) (by decide +kernel)
theorem wd_1523 : (Jvm.Cond.code ({ cls := "LifeKeysModel", name := "end", desc := "(I)Z" } : Jvm.MethodName) prog_14_method_19_code (2 : Nat) (Option.some Jvm.ClassFile.FieldType.boolean)) ∈ BG := bg_7 (List.mem_of_getElem? (i := 83) (by decide +kernel)) (by decide +kernel)
theorem wd_1524 : (Jvm.Cond.methodLink "LifeKeysLaw" (46 : Nat) ({ cls := "LifeKeysModel", name := "make", desc := "(I)I" } : Jvm.MethodName)) ∈ BG := bg_7 (List.mem_of_getElem? (i := 84) (by decide +kernel)) (by decide +kernel)
theorem wd_1525 : (Jvm.Cond.instanceMethod ({ cls := "LifeKeysModel", name := "make", desc := "(I)I" } : Jvm.MethodName)) ∈ BG := bg_7 (List.mem_of_getElem? (i := 85) (by decide +kernel)) (by decide +kernel)
theorem wd_1526 : (Jvm.Cond.selects "LifeKeysModel" ({ cls := "LifeKeysModel", name := "make", desc := "(I)I" } : Jvm.MethodName) ({ cls := "LifeKeysModel", name := "make", desc := "(I)I" } : Jvm.MethodName)) ∈ BG := bg_7 (List.mem_of_getElem? (i := 86) (by decide +kernel)) (by decide +kernel)
theorem wd_1527 : (Jvm.Cond.code ({ cls := "LifeKeysModel", name := "make", desc := "(I)I" } : Jvm.MethodName) prog_14_method_20_code (4 : Nat) (Option.some Jvm.ClassFile.FieldType.int)) ∈ BG := bg_7 (List.mem_of_getElem? (i := 87) (by decide +kernel)) (by decide +kernel)
theorem wd_1528 : (Jvm.Cond.methodLink "LifeKeysModel" (216 : Nat) ({ cls := "LifeKeysModel", name := "isKey", desc := "(I)Z" } : Jvm.MethodName)) ∈ BG := bg_7 (List.mem_of_getElem? (i := 88) (by decide +kernel)) (by decide +kernel)
theorem wd_1530 : (Jvm.Cond.instanceMethod ({ cls := "LifeKeysModel", name := "isKey", desc := "(I)Z" } : Jvm.MethodName)) ∈ BG := bg_7 (List.mem_of_getElem? (i := 90) (by decide +kernel)) (by decide +kernel)
theorem wd_1531 : (Jvm.Cond.code ({ cls := "LifeKeysModel", name := "isKey", desc := "(I)Z" } : Jvm.MethodName) prog_14_method_11_code (2 : Nat) (Option.some Jvm.ClassFile.FieldType.boolean)) ∈ BG := bg_7 (List.mem_of_getElem? (i := 91) (by decide +kernel)) (by decide +kernel)
theorem wd_1532 : (Jvm.Cond.methodLink "LifeKeysLaw" (52 : Nat) ({ cls := "LifeKeysModel", name := "open", desc := "(I)I" } : Jvm.MethodName)) ∈ BG := bg_7 (List.mem_of_getElem? (i := 92) (by decide +kernel)) (by decide +kernel)
theorem wd_1533 : (Jvm.Cond.instanceMethod ({ cls := "LifeKeysModel", name := "open", desc := "(I)I" } : Jvm.MethodName)) ∈ BG := bg_7 (List.mem_of_getElem? (i := 93) (by decide +kernel)) (by decide +kernel)
theorem wd_1534 : (Jvm.Cond.selects "LifeKeysModel" ({ cls := "LifeKeysModel", name := "open", desc := "(I)I" } : Jvm.MethodName) ({ cls := "LifeKeysModel", name := "open", desc := "(I)I" } : Jvm.MethodName)) ∈ BG := bg_7 (List.mem_of_getElem? (i := 94) (by decide +kernel)) (by decide +kernel)
theorem wd_1535 : (Jvm.Cond.code ({ cls := "LifeKeysModel", name := "open", desc := "(I)I" } : Jvm.MethodName) prog_14_method_21_code (2 : Nat) (Option.some Jvm.ClassFile.FieldType.int)) ∈ BG := bg_7 (List.mem_of_getElem? (i := 95) (by decide +kernel)) (by decide +kernel)
theorem wd_1536 : (Jvm.Cond.methodLink "LifeKeysModel" (220 : Nat) ({ cls := "LifeKeysModel", name := "fou\x72", desc := "(I)I" } : Jvm.MethodName)) ∈ BG := bg_7 (List.mem_of_getElem? (i := 96) (by decide +kernel)) (by decide +kernel)
theorem wd_1537 : (Jvm.Cond.static ({ cls := "LifeKeysModel", name := "fou\x72", desc := "(I)I" } : Jvm.MethodName)) ∈ BG := bg_7 (List.mem_of_getElem? (i := 97) (by decide +kernel)) (by decide +kernel)
theorem wd_1538 : (Jvm.Cond.code ({ cls := "LifeKeysModel", name := "fou\x72", desc := "(I)I" } : Jvm.MethodName) prog_14_method_8_code (1 : Nat) (Option.some Jvm.ClassFile.FieldType.int)) ∈ BG := bg_7 (List.mem_of_getElem? (i := 98) (by decide +kernel)) (by decide +kernel)
theorem wd_1539 : (Jvm.Cond.methodLink "LifeKeysModel" (192 : Nat) ({ cls := "LifeKeysModel", name := "powe\x72", desc := "(III)I" } : Jvm.MethodName)) ∈ BG := bg_7 (List.mem_of_getElem? (i := 99) (by decide +kernel)) (by decide +kernel)
theorem wd_1540 : (Jvm.Cond.static ({ cls := "LifeKeysModel", name := "powe\x72", desc := "(III)I" } : Jvm.MethodName)) ∈ BG := bg_7 (List.mem_of_getElem? (i := 100) (by decide +kernel)) (by decide +kernel)
theorem wd_1541 : (Jvm.Cond.code ({ cls := "LifeKeysModel", name := "powe\x72", desc := "(III)I" } : Jvm.MethodName) prog_14_method_7_code (5 : Nat) (Option.some Jvm.ClassFile.FieldType.int)) ∈ BG := bg_7 (List.mem_of_getElem? (i := 101) (by decide +kernel)) (by decide +kernel)
theorem wd_1542 : (Jvm.Cond.methodLink "LifeKeysLaw" (65 : Nat) ({ cls := "LifeKeysModel", name := "give", desc := "(II)Z" } : Jvm.MethodName)) ∈ BG := bg_7 (List.mem_of_getElem? (i := 102) (by decide +kernel)) (by decide +kernel)
theorem wd_1543 : (Jvm.Cond.instanceMethod ({ cls := "LifeKeysModel", name := "give", desc := "(II)Z" } : Jvm.MethodName)) ∈ BG := bg_7 (List.mem_of_getElem? (i := 103) (by decide +kernel)) (by decide +kernel)
theorem wd_1544 : (Jvm.Cond.selects "LifeKeysModel" ({ cls := "LifeKeysModel", name := "give", desc := "(II)Z" } : Jvm.MethodName) ({ cls := "LifeKeysModel", name := "give", desc := "(II)Z" } : Jvm.MethodName)) ∈ BG := bg_7 (List.mem_of_getElem? (i := 104) (by decide +kernel)) (by decide +kernel)
theorem wd_1545 : (Jvm.Cond.code ({ cls := "LifeKeysModel", name := "give", desc := "(II)Z" } : Jvm.MethodName) prog_14_method_24_code (3 : Nat) (Option.some Jvm.ClassFile.FieldType.boolean)) ∈ BG := bg_7 (List.mem_of_getElem? (i := 105) (by decide +kernel)) (by decide +kernel)
theorem wd_1546 : (Jvm.Cond.methodLink "LifeKeysModel" (232 : Nat) ({ cls := "LifeKeysModel", name := "hands", desc := "(IIZ)Z" } : Jvm.MethodName)) ∈ BG := bg_7 (List.mem_of_getElem? (i := 106) (by decide +kernel)) (by decide +kernel)
theorem wd_1548 : (Jvm.Cond.instanceMethod ({ cls := "LifeKeysModel", name := "hands", desc := "(IIZ)Z" } : Jvm.MethodName)) ∈ BG := bg_7 (List.mem_of_getElem? (i := 108) (by decide +kernel)) (by decide +kernel)
theorem wd_1549 : (Jvm.Cond.code ({ cls := "LifeKeysModel", name := "hands", desc := "(IIZ)Z" } : Jvm.MethodName) prog_14_method_23_code (4 : Nat) (Option.some Jvm.ClassFile.FieldType.boolean)) ∈ BG := bg_7 (List.mem_of_getElem? (i := 109) (by decide +kernel)) (by decide +kernel)
theorem wd_1550 : (Jvm.Cond.methodLink "LifeKeysModel" (226 : Nat) ({ cls := "LifeKeysModel", name := "isHolde\x72", desc := "(I)Z" } : Jvm.MethodName)) ∈ BG := bg_7 (List.mem_of_getElem? (i := 110) (by decide +kernel)) (by decide +kernel)
theorem wd_1552 : (Jvm.Cond.instanceMethod ({ cls := "LifeKeysModel", name := "isHolde\x72", desc := "(I)Z" } : Jvm.MethodName)) ∈ BG := bg_7 (List.mem_of_getElem? (i := 112) (by decide +kernel)) (by decide +kernel)
theorem wd_1553 : (Jvm.Cond.code ({ cls := "LifeKeysModel", name := "isHolde\x72", desc := "(I)Z" } : Jvm.MethodName) prog_14_method_10_code (2 : Nat) (Option.some Jvm.ClassFile.FieldType.boolean)) ∈ BG := bg_7 (List.mem_of_getElem? (i := 113) (by decide +kernel)) (by decide +kernel)
theorem wd_1554 : (Jvm.Cond.methodLink "LifeKeysModel" (229 : Nat) ({ cls := "LifeKeysModel", name := "has", desc := "(III)Z" } : Jvm.MethodName)) ∈ BG := bg_7 (List.mem_of_getElem? (i := 114) (by decide +kernel)) (by decide +kernel)
theorem wd_1556 : (Jvm.Cond.instanceMethod ({ cls := "LifeKeysModel", name := "has", desc := "(III)Z" } : Jvm.MethodName)) ∈ BG := bg_7 (List.mem_of_getElem? (i := 116) (by decide +kernel)) (by decide +kernel)
theorem wd_1557 : (Jvm.Cond.code ({ cls := "LifeKeysModel", name := "has", desc := "(III)Z" } : Jvm.MethodName) prog_14_method_22_code (6 : Nat) (Option.some Jvm.ClassFile.FieldType.boolean)) ∈ BG := bg_7 (List.mem_of_getElem? (i := 117) (by decide +kernel)) (by decide +kernel)
theorem wd_1558 : (Jvm.Cond.methodLink "LifeKeysLaw" (69 : Nat) ({ cls := "LifeKeysModel", name := "take", desc := "(II)Z" } : Jvm.MethodName)) ∈ BG := bg_7 (List.mem_of_getElem? (i := 118) (by decide +kernel)) (by decide +kernel)
theorem wd_1559 : (Jvm.Cond.instanceMethod ({ cls := "LifeKeysModel", name := "take", desc := "(II)Z" } : Jvm.MethodName)) ∈ BG := bg_7 (List.mem_of_getElem? (i := 119) (by decide +kernel)) (by decide +kernel)
theorem wd_1560 : (Jvm.Cond.selects "LifeKeysModel" ({ cls := "LifeKeysModel", name := "take", desc := "(II)Z" } : Jvm.MethodName) ({ cls := "LifeKeysModel", name := "take", desc := "(II)Z" } : Jvm.MethodName)) ∈ BG := bg_7 (List.mem_of_getElem? (i := 120) (by decide +kernel)) (by decide +kernel)
theorem wd_1561 : (Jvm.Cond.code ({ cls := "LifeKeysModel", name := "take", desc := "(II)Z" } : Jvm.MethodName) prog_14_method_25_code (3 : Nat) (Option.some Jvm.ClassFile.FieldType.boolean)) ∈ BG := bg_7 (List.mem_of_getElem? (i := 121) (by decide +kernel)) (by decide +kernel)
theorem wd_1562 : (Jvm.Cond.methodLink "LifeKeysLaw" (73 : Nat) ({ cls := "LifeKeysModel", name := "wrap", desc := "(II)I" } : Jvm.MethodName)) ∈ BG := bg_7 (List.mem_of_getElem? (i := 122) (by decide +kernel)) (by decide +kernel)
theorem wd_1563 : (Jvm.Cond.instanceMethod ({ cls := "LifeKeysModel", name := "wrap", desc := "(II)I" } : Jvm.MethodName)) ∈ BG := bg_7 (List.mem_of_getElem? (i := 123) (by decide +kernel)) (by decide +kernel)
theorem wd_1564 : (Jvm.Cond.selects "LifeKeysModel" ({ cls := "LifeKeysModel", name := "wrap", desc := "(II)I" } : Jvm.MethodName) ({ cls := "LifeKeysModel", name := "wrap", desc := "(II)I" } : Jvm.MethodName)) ∈ BG := bg_7 (List.mem_of_getElem? (i := 124) (by decide +kernel)) (by decide +kernel)
theorem wd_1565 : (Jvm.Cond.code ({ cls := "LifeKeysModel", name := "wrap", desc := "(II)I" } : Jvm.MethodName) prog_14_method_26_code (3 : Nat) (Option.some Jvm.ClassFile.FieldType.int)) ∈ BG := bg_7 (List.mem_of_getElem? (i := 125) (by decide +kernel)) (by decide +kernel)
theorem wd_1566 : (Jvm.Cond.methodLink "LifeKeysLaw" (77 : Nat) ({ cls := "LifeKeysModel", name := "cut", desc := "(I)Z" } : Jvm.MethodName)) ∈ BG := bg_7 (List.mem_of_getElem? (i := 126) (by decide +kernel)) (by decide +kernel)
theorem wd_1567 : (Jvm.Cond.instanceMethod ({ cls := "LifeKeysModel", name := "cut", desc := "(I)Z" } : Jvm.MethodName)) ∈ BG := bg_7 (List.mem_of_getElem? (i := 127) (by decide +kernel)) (by decide +kernel)
theorem wd_1568 : (Jvm.Cond.selects "LifeKeysModel" ({ cls := "LifeKeysModel", name := "cut", desc := "(I)Z" } : Jvm.MethodName) ({ cls := "LifeKeysModel", name := "cut", desc := "(I)Z" } : Jvm.MethodName)) ∈ BG := bg_7 (List.mem_of_getElem? (i := 128) (by decide +kernel)) (by decide +kernel)
theorem wd_1569 : (Jvm.Cond.code ({ cls := "LifeKeysModel", name := "cut", desc := "(I)Z" } : Jvm.MethodName) prog_14_method_27_code (2 : Nat) (Option.some Jvm.ClassFile.FieldType.boolean)) ∈ BG := bg_7 (List.mem_of_getElem? (i := 129) (by decide +kernel)) (by decide +kernel)
theorem wd_1570 : (Jvm.Cond.methodLink "LifeKeysLaw" (84 : Nat) ({ cls := "LifeKeysModel", name := "part", desc := "(IIIJ)I" } : Jvm.MethodName)) ∈ BG := bg_7 (List.mem_of_getElem? (i := 130) (by decide +kernel)) (by decide +kernel)
theorem wd_1571 : (Jvm.Cond.instanceMethod ({ cls := "LifeKeysModel", name := "part", desc := "(IIIJ)I" } : Jvm.MethodName)) ∈ BG := bg_7 (List.mem_of_getElem? (i := 131) (by decide +kernel)) (by decide +kernel)
theorem wd_1572 : (Jvm.Cond.selects "LifeKeysModel" ({ cls := "LifeKeysModel", name := "part", desc := "(IIIJ)I" } : Jvm.MethodName) ({ cls := "LifeKeysModel", name := "part", desc := "(IIIJ)I" } : Jvm.MethodName)) ∈ BG := bg_7 (List.mem_of_getElem? (i := 132) (by decide +kernel)) (by decide +kernel)
theorem wd_1573 : (Jvm.Cond.code ({ cls := "LifeKeysModel", name := "part", desc := "(IIIJ)I" } : Jvm.MethodName) prog_14_method_31_code (6 : Nat) (Option.some Jvm.ClassFile.FieldType.int)) ∈ BG := bg_7 (List.mem_of_getElem? (i := 133) (by decide +kernel)) (by decide +kernel)
theorem wd_1574 : (Jvm.Cond.methodLink "LifeKeysModel" (254 : Nat) ({ cls := "LifeKeysModel", name := "areHolders", desc := "(II)Z" } : Jvm.MethodName)) ∈ BG := bg_7 (List.mem_of_getElem? (i := 134) (by decide +kernel)) (by decide +kernel)
theorem wd_1576 : (Jvm.Cond.instanceMethod ({ cls := "LifeKeysModel", name := "areHolders", desc := "(II)Z" } : Jvm.MethodName)) ∈ BG := bg_7 (List.mem_of_getElem? (i := 136) (by decide +kernel)) (by decide +kernel)
theorem wd_1577 : (Jvm.Cond.code ({ cls := "LifeKeysModel", name := "areHolders", desc := "(II)Z" } : Jvm.MethodName) prog_14_method_12_code (3 : Nat) (Option.some Jvm.ClassFile.FieldType.boolean)) ∈ BG := bg_7 (List.mem_of_getElem? (i := 137) (by decide +kernel)) (by decide +kernel)
theorem wd_1578 : (Jvm.Cond.methodLink "LifeKeysModel" (258 : Nat) ({ cls := "java/lang/Intege\x72", name := "bitCount", desc := "(I)I" } : Jvm.MethodName)) ∈ BG := bg_7 (List.mem_of_getElem? (i := 138) (by decide +kernel)) (by decide +kernel)
theorem wd_1579 : (Jvm.Cond.methodLink "LifeKeysModel" (263 : Nat) ({ cls := "LifeKeysModel", name := "parted", desc := "(IIIJ)I" } : Jvm.MethodName)) ∈ BG := bg_7 (List.mem_of_getElem? (i := 139) (by decide +kernel)) (by decide +kernel)
theorem wd_1581 : (Jvm.Cond.instanceMethod ({ cls := "LifeKeysModel", name := "parted", desc := "(IIIJ)I" } : Jvm.MethodName)) ∈ BG := bg_7 (List.mem_of_getElem? (i := 141) (by decide +kernel)) (by decide +kernel)
theorem wd_1582 : (Jvm.Cond.code ({ cls := "LifeKeysModel", name := "parted", desc := "(IIIJ)I" } : Jvm.MethodName) prog_14_method_30_code (10 : Nat) (Option.some Jvm.ClassFile.FieldType.int)) ∈ BG := bg_7 (List.mem_of_getElem? (i := 142) (by decide +kernel)) (by decide +kernel)
theorem wd_1583 : (Jvm.Cond.methodLink "LifeKeysModel" (246 : Nat) ({ cls := "LifeKeysModel", name := "next", desc := "(J)J" } : Jvm.MethodName)) ∈ BG := bg_7 (List.mem_of_getElem? (i := 143) (by decide +kernel)) (by decide +kernel)
theorem wd_1584 : (Jvm.Cond.static ({ cls := "LifeKeysModel", name := "next", desc := "(J)J" } : Jvm.MethodName)) ∈ BG := bg_7 (List.mem_of_getElem? (i := 144) (by decide +kernel)) (by decide +kernel)
theorem wd_1585 : (Jvm.Cond.code ({ cls := "LifeKeysModel", name := "next", desc := "(J)J" } : Jvm.MethodName) prog_14_method_28_code (2 : Nat) (Option.some Jvm.ClassFile.FieldType.long)) ∈ BG := bg_7 (List.mem_of_getElem? (i := 145) (by decide +kernel)) (by decide +kernel)
theorem wd_1586 : (Jvm.Cond.constantLong "LifeKeysModel" (239 : Nat) (6364136223846793005 : Int64)) ∈ BG := bg_7 (List.mem_of_getElem? (i := 146) (by decide +kernel)) (by decide +kernel)
theorem wd_1587 : (Jvm.Cond.constantLong "LifeKeysModel" (241 : Nat) (1442695040888963407 : Int64)) ∈ BG := bg_7 (List.mem_of_getElem? (i := 147) (by decide +kernel)) (by decide +kernel)
theorem wd_1588 : (Jvm.Cond.methodLink "LifeKeysModel" (250 : Nat) ({ cls := "LifeKeysModel", name := "drawn", desc := "(JI)I" } : Jvm.MethodName)) ∈ BG := bg_7 (List.mem_of_getElem? (i := 148) (by decide +kernel)) (by decide +kernel)
theorem wd_1589 : (Jvm.Cond.static ({ cls := "LifeKeysModel", name := "drawn", desc := "(JI)I" } : Jvm.MethodName)) ∈ BG := bg_7 (List.mem_of_getElem? (i := 149) (by decide +kernel)) (by decide +kernel)
theorem wd_1590 : (Jvm.Cond.code ({ cls := "LifeKeysModel", name := "drawn", desc := "(JI)I" } : Jvm.MethodName) prog_14_method_29_code (3 : Nat) (Option.some Jvm.ClassFile.FieldType.int)) ∈ BG := bg_7 (List.mem_of_getElem? (i := 150) (by decide +kernel)) (by decide +kernel)
theorem wd_1591 : (Jvm.Cond.methodLink "LifeKeysLaw" (89 : Nat) ({ cls := "LifeKeysModel", name := "again", desc := "(IJ)I" } : Jvm.MethodName)) ∈ BG := bg_7 (List.mem_of_getElem? (i := 151) (by decide +kernel)) (by decide +kernel)
theorem wd_1592 : (Jvm.Cond.instanceMethod ({ cls := "LifeKeysModel", name := "again", desc := "(IJ)I" } : Jvm.MethodName)) ∈ BG := bg_7 (List.mem_of_getElem? (i := 152) (by decide +kernel)) (by decide +kernel)
theorem wd_1593 : (Jvm.Cond.selects "LifeKeysModel" ({ cls := "LifeKeysModel", name := "again", desc := "(IJ)I" } : Jvm.MethodName) ({ cls := "LifeKeysModel", name := "again", desc := "(IJ)I" } : Jvm.MethodName)) ∈ BG := bg_7 (List.mem_of_getElem? (i := 153) (by decide +kernel)) (by decide +kernel)
theorem wd_1594 : (Jvm.Cond.code ({ cls := "LifeKeysModel", name := "again", desc := "(IJ)I" } : Jvm.MethodName) prog_14_method_33_code (4 : Nat) (Option.some Jvm.ClassFile.FieldType.int)) ∈ BG := bg_7 (List.mem_of_getElem? (i := 154) (by decide +kernel)) (by decide +kernel)
theorem wd_1595 : (Jvm.Cond.methodLink "LifeKeysModel" (267 : Nat) ({ cls := "LifeKeysModel", name := "isParting", desc := "(I)Z" } : Jvm.MethodName)) ∈ BG := bg_7 (List.mem_of_getElem? (i := 155) (by decide +kernel)) (by decide +kernel)
theorem wd_1597 : (Jvm.Cond.instanceMethod ({ cls := "LifeKeysModel", name := "isParting", desc := "(I)Z" } : Jvm.MethodName)) ∈ BG := bg_7 (List.mem_of_getElem? (i := 157) (by decide +kernel)) (by decide +kernel)
theorem wd_1598 : (Jvm.Cond.code ({ cls := "LifeKeysModel", name := "isParting", desc := "(I)Z" } : Jvm.MethodName) prog_14_method_32_code (2 : Nat) (Option.some Jvm.ClassFile.FieldType.boolean)) ∈ BG := bg_7 (List.mem_of_getElem? (i := 158) (by decide +kernel)) (by decide +kernel)
theorem wd_1599 : (Jvm.Cond.methodLink "LifeKeysLaw" (93 : Nat) ({ cls := "LifeKeysModel", name := "piece", desc := "(II)I" } : Jvm.MethodName)) ∈ BG := bg_7 (List.mem_of_getElem? (i := 159) (by decide +kernel)) (by decide +kernel)
theorem wd_1600 : (Jvm.Cond.instanceMethod ({ cls := "LifeKeysModel", name := "piece", desc := "(II)I" } : Jvm.MethodName)) ∈ BG := bg_7 (List.mem_of_getElem? (i := 160) (by decide +kernel)) (by decide +kernel)
theorem wd_1601 : (Jvm.Cond.selects "LifeKeysModel" ({ cls := "LifeKeysModel", name := "piece", desc := "(II)I" } : Jvm.MethodName) ({ cls := "LifeKeysModel", name := "piece", desc := "(II)I" } : Jvm.MethodName)) ∈ BG := bg_7 (List.mem_of_getElem? (i := 161) (by decide +kernel)) (by decide +kernel)
theorem wd_1602 : (Jvm.Cond.code ({ cls := "LifeKeysModel", name := "piece", desc := "(II)I" } : Jvm.MethodName) prog_14_method_36_code (3 : Nat) (Option.some Jvm.ClassFile.FieldType.int)) ∈ BG := bg_7 (List.mem_of_getElem? (i := 162) (by decide +kernel)) (by decide +kernel)
theorem wd_1603 : (Jvm.Cond.methodLink "LifeKeysModel" (270 : Nat) ({ cls := "LifeKeysModel", name := "isAmong", desc := "(II)Z" } : Jvm.MethodName)) ∈ BG := bg_7 (List.mem_of_getElem? (i := 163) (by decide +kernel)) (by decide +kernel)
theorem wd_1605 : (Jvm.Cond.instanceMethod ({ cls := "LifeKeysModel", name := "isAmong", desc := "(II)Z" } : Jvm.MethodName)) ∈ BG := bg_7 (List.mem_of_getElem? (i := 165) (by decide +kernel)) (by decide +kernel)
theorem wd_1606 : (Jvm.Cond.code ({ cls := "LifeKeysModel", name := "isAmong", desc := "(II)Z" } : Jvm.MethodName) prog_14_method_34_code (3 : Nat) (Option.some Jvm.ClassFile.FieldType.boolean)) ∈ BG := bg_7 (List.mem_of_getElem? (i := 166) (by decide +kernel)) (by decide +kernel)
theorem wd_1607 : (Jvm.Cond.methodLink "LifeKeysModel" (273 : Nat) ({ cls := "LifeKeysModel", name := "pieceOf", desc := "(II)I" } : Jvm.MethodName)) ∈ BG := bg_7 (List.mem_of_getElem? (i := 167) (by decide +kernel)) (by decide +kernel)
theorem wd_1609 : (Jvm.Cond.instanceMethod ({ cls := "LifeKeysModel", name := "pieceOf", desc := "(II)I" } : Jvm.MethodName)) ∈ BG := bg_7 (List.mem_of_getElem? (i := 169) (by decide +kernel)) (by decide +kernel)
theorem wd_1610 : (Jvm.Cond.code ({ cls := "LifeKeysModel", name := "pieceOf", desc := "(II)I" } : Jvm.MethodName) prog_14_method_35_code (5 : Nat) (Option.some Jvm.ClassFile.FieldType.int)) ∈ BG := bg_7 (List.mem_of_getElem? (i := 170) (by decide +kernel)) (by decide +kernel)
theorem wd_1611 : (Jvm.Cond.methodLink "LifeKeysLaw" (97 : Nat) ({ cls := "LifeKeysModel", name := "checks", desc := "(II)I" } : Jvm.MethodName)) ∈ BG := bg_7 (List.mem_of_getElem? (i := 171) (by decide +kernel)) (by decide +kernel)
theorem wd_1612 : (Jvm.Cond.instanceMethod ({ cls := "LifeKeysModel", name := "checks", desc := "(II)I" } : Jvm.MethodName)) ∈ BG := bg_7 (List.mem_of_getElem? (i := 172) (by decide +kernel)) (by decide +kernel)
theorem wd_1613 : (Jvm.Cond.selects "LifeKeysModel" ({ cls := "LifeKeysModel", name := "checks", desc := "(II)I" } : Jvm.MethodName) ({ cls := "LifeKeysModel", name := "checks", desc := "(II)I" } : Jvm.MethodName)) ∈ BG := bg_7 (List.mem_of_getElem? (i := 173) (by decide +kernel)) (by decide +kernel)
theorem wd_1614 : (Jvm.Cond.code ({ cls := "LifeKeysModel", name := "checks", desc := "(II)I" } : Jvm.MethodName) prog_14_method_37_code (3 : Nat) (Option.some Jvm.ClassFile.FieldType.int)) ∈ BG := bg_7 (List.mem_of_getElem? (i := 174) (by decide +kernel)) (by decide +kernel)
theorem wd_1615 : (Jvm.Cond.methodLink "LifeKeysLaw" (102 : Nat) ({ cls := "LifeKeysModel", name := "fits", desc := "(III)I" } : Jvm.MethodName)) ∈ BG := bg_7 (List.mem_of_getElem? (i := 175) (by decide +kernel)) (by decide +kernel)
theorem wd_1616 : (Jvm.Cond.instanceMethod ({ cls := "LifeKeysModel", name := "fits", desc := "(III)I" } : Jvm.MethodName)) ∈ BG := bg_7 (List.mem_of_getElem? (i := 176) (by decide +kernel)) (by decide +kernel)
theorem wd_1617 : (Jvm.Cond.selects "LifeKeysModel" ({ cls := "LifeKeysModel", name := "fits", desc := "(III)I" } : Jvm.MethodName) ({ cls := "LifeKeysModel", name := "fits", desc := "(III)I" } : Jvm.MethodName)) ∈ BG := bg_7 (List.mem_of_getElem? (i := 177) (by decide +kernel)) (by decide +kernel)
theorem wd_1618 : (Jvm.Cond.code ({ cls := "LifeKeysModel", name := "fits", desc := "(III)I" } : Jvm.MethodName) prog_14_method_38_code (6 : Nat) (Option.some Jvm.ClassFile.FieldType.int)) ∈ BG := bg_7 (List.mem_of_getElem? (i := 178) (by decide +kernel)) (by decide +kernel)
theorem wd_1619 : (Jvm.Cond.methodLink "LifeKeysLaw" (106 : Nat) ({ cls := "LifeKeysModel", name := "lay", desc := "(II)I" } : Jvm.MethodName)) ∈ BG := bg_7 (List.mem_of_getElem? (i := 179) (by decide +kernel)) (by decide +kernel)
theorem wd_1620 : (Jvm.Cond.instanceMethod ({ cls := "LifeKeysModel", name := "lay", desc := "(II)I" } : Jvm.MethodName)) ∈ BG := bg_7 (List.mem_of_getElem? (i := 180) (by decide +kernel)) (by decide +kernel)
theorem wd_1621 : (Jvm.Cond.selects "LifeKeysModel" ({ cls := "LifeKeysModel", name := "lay", desc := "(II)I" } : Jvm.MethodName) ({ cls := "LifeKeysModel", name := "lay", desc := "(II)I" } : Jvm.MethodName)) ∈ BG := bg_7 (List.mem_of_getElem? (i := 181) (by decide +kernel)) (by decide +kernel)
theorem wd_1622 : (Jvm.Cond.code ({ cls := "LifeKeysModel", name := "lay", desc := "(II)I" } : Jvm.MethodName) prog_14_method_39_code (4 : Nat) (Option.some Jvm.ClassFile.FieldType.int)) ∈ BG := bg_7 (List.mem_of_getElem? (i := 182) (by decide +kernel)) (by decide +kernel)
theorem wd_1623 : (Jvm.Cond.methodLink "LifeKeysLaw" (110 : Nat) ({ cls := "LifeKeysModel", name := "join", desc := "()I" } : Jvm.MethodName)) ∈ BG := bg_7 (List.mem_of_getElem? (i := 183) (by decide +kernel)) (by decide +kernel)
theorem wd_1624 : (Jvm.Cond.instanceMethod ({ cls := "LifeKeysModel", name := "join", desc := "()I" } : Jvm.MethodName)) ∈ BG := bg_7 (List.mem_of_getElem? (i := 184) (by decide +kernel)) (by decide +kernel)
theorem wd_1625 : (Jvm.Cond.selects "LifeKeysModel" ({ cls := "LifeKeysModel", name := "join", desc := "()I" } : Jvm.MethodName) ({ cls := "LifeKeysModel", name := "join", desc := "()I" } : Jvm.MethodName)) ∈ BG := bg_7 (List.mem_of_getElem? (i := 185) (by decide +kernel)) (by decide +kernel)
theorem wd_1626 : (Jvm.Cond.code ({ cls := "LifeKeysModel", name := "join", desc := "()I" } : Jvm.MethodName) prog_14_method_41_code (4 : Nat) (Option.some Jvm.ClassFile.FieldType.int)) ∈ BG := bg_7 (List.mem_of_getElem? (i := 186) (by decide +kernel)) (by decide +kernel)
theorem wd_1627 : (Jvm.Cond.methodLink "LifeKeysModel" (288 : Nat) ({ cls := "LifeKeysModel", name := "weight", desc := "(II)I" } : Jvm.MethodName)) ∈ BG := bg_7 (List.mem_of_getElem? (i := 187) (by decide +kernel)) (by decide +kernel)
theorem wd_1628 : (Jvm.Cond.static ({ cls := "LifeKeysModel", name := "weight", desc := "(II)I" } : Jvm.MethodName)) ∈ BG := bg_7 (List.mem_of_getElem? (i := 188) (by decide +kernel)) (by decide +kernel)
theorem wd_1629 : (Jvm.Cond.code ({ cls := "LifeKeysModel", name := "weight", desc := "(II)I" } : Jvm.MethodName) prog_14_method_40_code (4 : Nat) (Option.some Jvm.ClassFile.FieldType.int)) ∈ BG := bg_7 (List.mem_of_getElem? (i := 189) (by decide +kernel)) (by decide +kernel)
theorem wd_1630 : (Jvm.Cond.methodLink "LifeKeysModel" (280 : Nat) ({ cls := "java/lang/Math", name := "floorMod", desc := "(II)I" } : Jvm.MethodName)) ∈ BG := bg_7 (List.mem_of_getElem? (i := 190) (by decide +kernel)) (by decide +kernel)
theorem wd_1631 : (Jvm.Cond.methodLink "LifeKeysModel" (285 : Nat) ({ cls := "LifeKeysModel", name := "inverse", desc := "(I)I" } : Jvm.MethodName)) ∈ BG := bg_7 (List.mem_of_getElem? (i := 191) (by decide +kernel)) (by decide +kernel)
theorem wd_1632 : (Jvm.Cond.static ({ cls := "LifeKeysModel", name := "inverse", desc := "(I)I" } : Jvm.MethodName)) ∈ BG := bg_7 (List.mem_of_getElem? (i := 192) (by decide +kernel)) (by decide +kernel)
theorem wd_1633 : (Jvm.Cond.code ({ cls := "LifeKeysModel", name := "inverse", desc := "(I)I" } : Jvm.MethodName) prog_14_method_9_code (1 : Nat) (Option.some Jvm.ClassFile.FieldType.int)) ∈ BG := bg_7 (List.mem_of_getElem? (i := 193) (by decide +kernel)) (by decide +kernel)
theorem wd_1634 : (Jvm.Cond.methodLink "LifeKeysLaw" (114 : Nat) ({ cls := "LifeKeysModel", name := "left", desc := "(II)I" } : Jvm.MethodName)) ∈ BG := bg_7 (List.mem_of_getElem? (i := 194) (by decide +kernel)) (by decide +kernel)
theorem wd_1635 : (Jvm.Cond.instanceMethod ({ cls := "LifeKeysModel", name := "left", desc := "(II)I" } : Jvm.MethodName)) ∈ BG := bg_7 (List.mem_of_getElem? (i := 195) (by decide +kernel)) (by decide +kernel)
theorem wd_1636 : (Jvm.Cond.selects "LifeKeysModel" ({ cls := "LifeKeysModel", name := "left", desc := "(II)I" } : Jvm.MethodName) ({ cls := "LifeKeysModel", name := "left", desc := "(II)I" } : Jvm.MethodName)) ∈ BG := bg_7 (List.mem_of_getElem? (i := 196) (by decide +kernel)) (by decide +kernel)
theorem wd_1637 : (Jvm.Cond.code ({ cls := "LifeKeysModel", name := "left", desc := "(II)I" } : Jvm.MethodName) prog_14_method_42_code (3 : Nat) (Option.some Jvm.ClassFile.FieldType.int)) ∈ BG := bg_7 (List.mem_of_getElem? (i := 197) (by decide +kernel)) (by decide +kernel)
theorem wd_1638 : (Jvm.Cond.methodLink "LifeKeysModel" (291 : Nat) ({ cls := "java/lang/Math", name := "max", desc := "(II)I" } : Jvm.MethodName)) ∈ BG := bg_7 (List.mem_of_getElem? (i := 198) (by decide +kernel)) (by decide +kernel)
theorem wd_1639 : (Jvm.Cond.methodLink "LifeKeysLaw" (119 : Nat) ({ cls := "LifeKeysModel", name := "got", desc := "(II)J" } : Jvm.MethodName)) ∈ BG := bg_7 (List.mem_of_getElem? (i := 199) (by decide +kernel)) (by decide +kernel)
theorem wd_1640 : (Jvm.Cond.instanceMethod ({ cls := "LifeKeysModel", name := "got", desc := "(II)J" } : Jvm.MethodName)) ∈ BG := bg_7 (List.mem_of_getElem? (i := 200) (by decide +kernel)) (by decide +kernel)
theorem wd_1641 : (Jvm.Cond.selects "LifeKeysModel" ({ cls := "LifeKeysModel", name := "got", desc := "(II)J" } : Jvm.MethodName) ({ cls := "LifeKeysModel", name := "got", desc := "(II)J" } : Jvm.MethodName)) ∈ BG := bg_7 (List.mem_of_getElem? (i := 201) (by decide +kernel)) (by decide +kernel)
theorem wd_1642 : (Jvm.Cond.code ({ cls := "LifeKeysModel", name := "got", desc := "(II)J" } : Jvm.MethodName) prog_14_method_48_code (3 : Nat) (Option.some Jvm.ClassFile.FieldType.long)) ∈ BG := bg_7 (List.mem_of_getElem? (i := 202) (by decide +kernel)) (by decide +kernel)
theorem wd_1643 : (Jvm.Cond.methodLink "LifeKeysModel" (307 : Nat) ({ cls := "LifeKeysModel", name := "isKnown", desc := "(I)Z" } : Jvm.MethodName)) ∈ BG := bg_7 (List.mem_of_getElem? (i := 203) (by decide +kernel)) (by decide +kernel)
theorem wd_1645 : (Jvm.Cond.instanceMethod ({ cls := "LifeKeysModel", name := "isKnown", desc := "(I)Z" } : Jvm.MethodName)) ∈ BG := bg_7 (List.mem_of_getElem? (i := 205) (by decide +kernel)) (by decide +kernel)
theorem wd_1646 : (Jvm.Cond.code ({ cls := "LifeKeysModel", name := "isKnown", desc := "(I)Z" } : Jvm.MethodName) prog_14_method_4_code (2 : Nat) (Option.some Jvm.ClassFile.FieldType.boolean)) ∈ BG := bg_7 (List.mem_of_getElem? (i := 206) (by decide +kernel)) (by decide +kernel)
theorem wd_1647 : (Jvm.Cond.methodLink "LifeKeysModel" (310 : Nat) ({ cls := "LifeKeysModel", name := "gets", desc := "(II)J" } : Jvm.MethodName)) ∈ BG := bg_7 (List.mem_of_getElem? (i := 207) (by decide +kernel)) (by decide +kernel)
theorem wd_1649 : (Jvm.Cond.instanceMethod ({ cls := "LifeKeysModel", name := "gets", desc := "(II)J" } : Jvm.MethodName)) ∈ BG := bg_7 (List.mem_of_getElem? (i := 209) (by decide +kernel)) (by decide +kernel)
theorem wd_1650 : (Jvm.Cond.code ({ cls := "LifeKeysModel", name := "gets", desc := "(II)J" } : Jvm.MethodName) prog_14_method_47_code (3 : Nat) (Option.some Jvm.ClassFile.FieldType.long)) ∈ BG := bg_7 (List.mem_of_getElem? (i := 210) (by decide +kernel)) (by decide +kernel)
theorem wd_1651 : (Jvm.Cond.methodLink "LifeKeysModel" (300 : Nat) ({ cls := "LifeKeysModel", name := "layHas", desc := "(I)V" } : Jvm.MethodName)) ∈ BG := bg_7 (List.mem_of_getElem? (i := 211) (by decide +kernel)) (by decide +kernel)
theorem wd_1653 : (Jvm.Cond.instanceMethod ({ cls := "LifeKeysModel", name := "layHas", desc := "(I)V" } : Jvm.MethodName)) ∈ BG := bg_7 (List.mem_of_getElem? (i := 213) (by decide +kernel)) (by decide +kernel)
theorem wd_1654 : (Jvm.Cond.code ({ cls := "LifeKeysModel", name := "layHas", desc := "(I)V" } : Jvm.MethodName) prog_14_method_45_code (4 : Nat) (Option.none : Option Jvm.ClassFile.FieldType)) ∈ BG := bg_7 (List.mem_of_getElem? (i := 214) (by decide +kernel)) (by decide +kernel)
theorem wd_1655 : (Jvm.Cond.methodLink "LifeKeysModel" (303 : Nat) ({ cls := "LifeKeysModel", name := "closes", desc := "(IIII)J" } : Jvm.MethodName)) ∈ BG := bg_7 (List.mem_of_getElem? (i := 215) (by decide +kernel)) (by decide +kernel)
theorem wd_1657 : (Jvm.Cond.instanceMethod ({ cls := "LifeKeysModel", name := "closes", desc := "(IIII)J" } : Jvm.MethodName)) ∈ BG := bg_7 (List.mem_of_getElem? (i := 217) (by decide +kernel)) (by decide +kernel)
theorem wd_1658 : (Jvm.Cond.code ({ cls := "LifeKeysModel", name := "closes", desc := "(IIII)J" } : Jvm.MethodName) prog_14_method_46_code (11 : Nat) (Option.some Jvm.ClassFile.FieldType.long)) ∈ BG := bg_7 (List.mem_of_getElem? (i := 218) (by decide +kernel)) (by decide +kernel)
theorem wd_1659 : (Jvm.Cond.methodLink "LifeKeysModel" (294 : Nat) ({ cls := "LifeKeysModel", name := "isForce", desc := "(II)Z" } : Jvm.MethodName)) ∈ BG := bg_7 (List.mem_of_getElem? (i := 219) (by decide +kernel)) (by decide +kernel)
theorem wd_1661 : (Jvm.Cond.instanceMethod ({ cls := "LifeKeysModel", name := "isForce", desc := "(II)Z" } : Jvm.MethodName)) ∈ BG := bg_7 (List.mem_of_getElem? (i := 221) (by decide +kernel)) (by decide +kernel)
theorem wd_1662 : (Jvm.Cond.code ({ cls := "LifeKeysModel", name := "isForce", desc := "(II)Z" } : Jvm.MethodName) prog_14_method_43_code (3 : Nat) (Option.some Jvm.ClassFile.FieldType.boolean)) ∈ BG := bg_7 (List.mem_of_getElem? (i := 222) (by decide +kernel)) (by decide +kernel)
theorem wd_1663 : (Jvm.Cond.methodLink "LifeKeysModel" (297 : Nat) ({ cls := "LifeKeysModel", name := "isWrapped", desc := "(II)Z" } : Jvm.MethodName)) ∈ BG := bg_7 (List.mem_of_getElem? (i := 223) (by decide +kernel)) (by decide +kernel)
theorem wd_1665 : (Jvm.Cond.instanceMethod ({ cls := "LifeKeysModel", name := "isWrapped", desc := "(II)Z" } : Jvm.MethodName)) ∈ BG := bg_7 (List.mem_of_getElem? (i := 225) (by decide +kernel)) (by decide +kernel)
theorem wd_1666 : (Jvm.Cond.code ({ cls := "LifeKeysModel", name := "isWrapped", desc := "(II)Z" } : Jvm.MethodName) prog_14_method_44_code (3 : Nat) (Option.some Jvm.ClassFile.FieldType.boolean)) ∈ BG := bg_7 (List.mem_of_getElem? (i := 226) (by decide +kernel)) (by decide +kernel)
theorem wd_1667 : (Jvm.Cond.constantLong "LifeKeysModel" (314 : Nat) (-1 : Int64)) ∈ BG := bg_7 (List.mem_of_getElem? (i := 227) (by decide +kernel)) (by decide +kernel)
theorem wd_1668 : (Jvm.Cond.methodLink "LifeKeysLaw" (123 : Nat) ({ cls := "LifeKeysModel", name := "fault", desc := "()I" } : Jvm.MethodName)) ∈ BG := bg_7 (List.mem_of_getElem? (i := 228) (by decide +kernel)) (by decide +kernel)
theorem wd_1669 : (Jvm.Cond.instanceMethod ({ cls := "LifeKeysModel", name := "fault", desc := "()I" } : Jvm.MethodName)) ∈ BG := bg_7 (List.mem_of_getElem? (i := 229) (by decide +kernel)) (by decide +kernel)
theorem wd_1670 : (Jvm.Cond.selects "LifeKeysModel" ({ cls := "LifeKeysModel", name := "fault", desc := "()I" } : Jvm.MethodName) ({ cls := "LifeKeysModel", name := "fault", desc := "()I" } : Jvm.MethodName)) ∈ BG := bg_7 (List.mem_of_getElem? (i := 230) (by decide +kernel)) (by decide +kernel)
theorem wd_1671 : (Jvm.Cond.code ({ cls := "LifeKeysModel", name := "fault", desc := "()I" } : Jvm.MethodName) prog_14_method_64_code (2 : Nat) (Option.some Jvm.ClassFile.FieldType.int)) ∈ BG := bg_7 (List.mem_of_getElem? (i := 231) (by decide +kernel)) (by decide +kernel)
theorem wd_1672 : (Jvm.Cond.methodLink "LifeKeysModel" (384 : Nat) ({ cls := "LifeKeysModel", name := "goThrough", desc := "([BII)Z" } : Jvm.MethodName)) ∈ BG := bg_7 (List.mem_of_getElem? (i := 232) (by decide +kernel)) (by decide +kernel)
theorem wd_1674 : (Jvm.Cond.instanceMethod ({ cls := "LifeKeysModel", name := "goThrough", desc := "([BII)Z" } : Jvm.MethodName)) ∈ BG := bg_7 (List.mem_of_getElem? (i := 234) (by decide +kernel)) (by decide +kernel)
theorem wd_1675 : (Jvm.Cond.code ({ cls := "LifeKeysModel", name := "goThrough", desc := "([BII)Z" } : Jvm.MethodName) prog_14_method_60_code (5 : Nat) (Option.some Jvm.ClassFile.FieldType.boolean)) ∈ BG := bg_7 (List.mem_of_getElem? (i := 235) (by decide +kernel)) (by decide +kernel)
theorem wd_1676 : (Jvm.Cond.methodLink "LifeKeysModel" (351 : Nat) ({ cls := "LifeKeysModel", name := "any", desc := "()Z" } : Jvm.MethodName)) ∈ BG := bg_7 (List.mem_of_getElem? (i := 236) (by decide +kernel)) (by decide +kernel)
theorem wd_1678 : (Jvm.Cond.instanceMethod ({ cls := "LifeKeysModel", name := "any", desc := "()Z" } : Jvm.MethodName)) ∈ BG := bg_7 (List.mem_of_getElem? (i := 238) (by decide +kernel)) (by decide +kernel)
theorem wd_1679 : (Jvm.Cond.code ({ cls := "LifeKeysModel", name := "any", desc := "()Z" } : Jvm.MethodName) prog_14_method_55_code (3 : Nat) (Option.some Jvm.ClassFile.FieldType.boolean)) ∈ BG := bg_7 (List.mem_of_getElem? (i := 239) (by decide +kernel)) (by decide +kernel)
theorem wd_1680 : (Jvm.Cond.methodLink "LifeKeysModel" (342 : Nat) ({ cls := "LifeKeysModel", name := "all", desc := "()Z" } : Jvm.MethodName)) ∈ BG := bg_8 (List.mem_of_getElem? (i := 0) (by decide +kernel)) (by decide +kernel)
theorem wd_1682 : (Jvm.Cond.instanceMethod ({ cls := "LifeKeysModel", name := "all", desc := "()Z" } : Jvm.MethodName)) ∈ BG := bg_8 (List.mem_of_getElem? (i := 2) (by decide +kernel)) (by decide +kernel)
theorem wd_1683 : (Jvm.Cond.code ({ cls := "LifeKeysModel", name := "all", desc := "()Z" } : Jvm.MethodName) prog_14_method_56_code (3 : Nat) (Option.some Jvm.ClassFile.FieldType.boolean)) ∈ BG := bg_8 (List.mem_of_getElem? (i := 3) (by decide +kernel)) (by decide +kernel)
theorem wd_1684 : (Jvm.Cond.methodLink "LifeKeysModel" (345 : Nat) ({ cls := "LifeKeysModel", name := "unit", desc := "()Z" } : Jvm.MethodName)) ∈ BG := bg_8 (List.mem_of_getElem? (i := 4) (by decide +kernel)) (by decide +kernel)
theorem wd_1686 : (Jvm.Cond.instanceMethod ({ cls := "LifeKeysModel", name := "unit", desc := "()Z" } : Jvm.MethodName)) ∈ BG := bg_8 (List.mem_of_getElem? (i := 6) (by decide +kernel)) (by decide +kernel)
theorem wd_1687 : (Jvm.Cond.code ({ cls := "LifeKeysModel", name := "unit", desc := "()Z" } : Jvm.MethodName) prog_14_method_57_code (4 : Nat) (Option.some Jvm.ClassFile.FieldType.boolean)) ∈ BG := bg_8 (List.mem_of_getElem? (i := 7) (by decide +kernel)) (by decide +kernel)
theorem wd_1688 : (Jvm.Cond.methodLink "LifeKeysModel" (335 : Nat) ({ cls := "LifeKeysModel", name := "look", desc := "()I" } : Jvm.MethodName)) ∈ BG := bg_8 (List.mem_of_getElem? (i := 8) (by decide +kernel)) (by decide +kernel)
theorem wd_1690 : (Jvm.Cond.instanceMethod ({ cls := "LifeKeysModel", name := "look", desc := "()I" } : Jvm.MethodName)) ∈ BG := bg_8 (List.mem_of_getElem? (i := 10) (by decide +kernel)) (by decide +kernel)
theorem wd_1691 : (Jvm.Cond.code ({ cls := "LifeKeysModel", name := "look", desc := "()I" } : Jvm.MethodName) prog_14_method_49_code (1 : Nat) (Option.some Jvm.ClassFile.FieldType.int)) ∈ BG := bg_8 (List.mem_of_getElem? (i := 11) (by decide +kernel)) (by decide +kernel)
theorem wd_1692 : (Jvm.Cond.methodLink "LifeKeysModel" (348 : Nat) ({ cls := "LifeKeysModel", name := "goesIn", desc := "()Z" } : Jvm.MethodName)) ∈ BG := bg_8 (List.mem_of_getElem? (i := 12) (by decide +kernel)) (by decide +kernel)
theorem wd_1694 : (Jvm.Cond.instanceMethod ({ cls := "LifeKeysModel", name := "goesIn", desc := "()Z" } : Jvm.MethodName)) ∈ BG := bg_8 (List.mem_of_getElem? (i := 14) (by decide +kernel)) (by decide +kernel)
theorem wd_1695 : (Jvm.Cond.code ({ cls := "LifeKeysModel", name := "goesIn", desc := "()Z" } : Jvm.MethodName) prog_14_method_51_code (1 : Nat) (Option.some Jvm.ClassFile.FieldType.boolean)) ∈ BG := bg_8 (List.mem_of_getElem? (i := 15) (by decide +kernel)) (by decide +kernel)
theorem wd_1696 : (Jvm.Cond.methodLink "LifeKeysModel" (331 : Nat) ({ cls := "LifeKeysModel", name := "stop", desc := "()Z" } : Jvm.MethodName)) ∈ BG := bg_8 (List.mem_of_getElem? (i := 16) (by decide +kernel)) (by decide +kernel)
theorem wd_1698 : (Jvm.Cond.instanceMethod ({ cls := "LifeKeysModel", name := "stop", desc := "()Z" } : Jvm.MethodName)) ∈ BG := bg_8 (List.mem_of_getElem? (i := 18) (by decide +kernel)) (by decide +kernel)
theorem wd_1699 : (Jvm.Cond.code ({ cls := "LifeKeysModel", name := "stop", desc := "()Z" } : Jvm.MethodName) prog_14_method_50_code (1 : Nat) (Option.some Jvm.ClassFile.FieldType.boolean)) ∈ BG := bg_8 (List.mem_of_getElem? (i := 19) (by decide +kernel)) (by decide +kernel)
theorem wd_1700 : (Jvm.Cond.methodLink "LifeKeysModel" (354 : Nat) ({ cls := "LifeKeysModel", name := "takes", desc := "(I)Z" } : Jvm.MethodName)) ∈ BG := bg_8 (List.mem_of_getElem? (i := 20) (by decide +kernel)) (by decide +kernel)
theorem wd_1702 : (Jvm.Cond.instanceMethod ({ cls := "LifeKeysModel", name := "takes", desc := "(I)Z" } : Jvm.MethodName)) ∈ BG := bg_8 (List.mem_of_getElem? (i := 22) (by decide +kernel)) (by decide +kernel)
theorem wd_1703 : (Jvm.Cond.code ({ cls := "LifeKeysModel", name := "takes", desc := "(I)Z" } : Jvm.MethodName) prog_14_method_52_code (2 : Nat) (Option.some Jvm.ClassFile.FieldType.boolean)) ∈ BG := bg_8 (List.mem_of_getElem? (i := 23) (by decide +kernel)) (by decide +kernel)
theorem wd_1704 : (Jvm.Cond.methodLink "LifeKeysModel" (357 : Nat) ({ cls := "LifeKeysModel", name := "numbe\x72", desc := "(I)I" } : Jvm.MethodName)) ∈ BG := bg_8 (List.mem_of_getElem? (i := 24) (by decide +kernel)) (by decide +kernel)
theorem wd_1706 : (Jvm.Cond.instanceMethod ({ cls := "LifeKeysModel", name := "numbe\x72", desc := "(I)I" } : Jvm.MethodName)) ∈ BG := bg_8 (List.mem_of_getElem? (i := 26) (by decide +kernel)) (by decide +kernel)
theorem wd_1707 : (Jvm.Cond.code ({ cls := "LifeKeysModel", name := "numbe\x72", desc := "(I)I" } : Jvm.MethodName) prog_14_method_54_code (5 : Nat) (Option.some Jvm.ClassFile.FieldType.int)) ∈ BG := bg_8 (List.mem_of_getElem? (i := 27) (by decide +kernel)) (by decide +kernel)
theorem wd_1708 : (Jvm.Cond.methodLink "LifeKeysModel" (339 : Nat) ({ cls := "LifeKeysModel", name := "isDigit", desc := "()Z" } : Jvm.MethodName)) ∈ BG := bg_8 (List.mem_of_getElem? (i := 28) (by decide +kernel)) (by decide +kernel)
theorem wd_1710 : (Jvm.Cond.instanceMethod ({ cls := "LifeKeysModel", name := "isDigit", desc := "()Z" } : Jvm.MethodName)) ∈ BG := bg_8 (List.mem_of_getElem? (i := 30) (by decide +kernel)) (by decide +kernel)
theorem wd_1711 : (Jvm.Cond.code ({ cls := "LifeKeysModel", name := "isDigit", desc := "()Z" } : Jvm.MethodName) prog_14_method_53_code (1 : Nat) (Option.some Jvm.ClassFile.FieldType.boolean)) ∈ BG := bg_8 (List.mem_of_getElem? (i := 31) (by decide +kernel)) (by decide +kernel)
theorem wd_1712 : (Jvm.Cond.methodLink "LifeKeysModel" (364 : Nat) ({ cls := "LifeKeysModel", name := "isDead", desc := "(I)Z" } : Jvm.MethodName)) ∈ BG := bg_8 (List.mem_of_getElem? (i := 32) (by decide +kernel)) (by decide +kernel)
theorem wd_1714 : (Jvm.Cond.instanceMethod ({ cls := "LifeKeysModel", name := "isDead", desc := "(I)Z" } : Jvm.MethodName)) ∈ BG := bg_8 (List.mem_of_getElem? (i := 34) (by decide +kernel)) (by decide +kernel)
theorem wd_1715 : (Jvm.Cond.code ({ cls := "LifeKeysModel", name := "isDead", desc := "(I)Z" } : Jvm.MethodName) prog_14_method_59_code (2 : Nat) (Option.some Jvm.ClassFile.FieldType.boolean)) ∈ BG := bg_8 (List.mem_of_getElem? (i := 35) (by decide +kernel)) (by decide +kernel)
theorem wd_1716 : (Jvm.Cond.methodLink "LifeKeysModel" (366 : Nat) ({ cls := "LifeKeysModel", name := "saysLast", desc := "(I)I" } : Jvm.MethodName)) ∈ BG := bg_8 (List.mem_of_getElem? (i := 36) (by decide +kernel)) (by decide +kernel)
theorem wd_1718 : (Jvm.Cond.instanceMethod ({ cls := "LifeKeysModel", name := "saysLast", desc := "(I)I" } : Jvm.MethodName)) ∈ BG := bg_8 (List.mem_of_getElem? (i := 38) (by decide +kernel)) (by decide +kernel)
theorem wd_1719 : (Jvm.Cond.code ({ cls := "LifeKeysModel", name := "saysLast", desc := "(I)I" } : Jvm.MethodName) prog_14_method_58_code (4 : Nat) (Option.some Jvm.ClassFile.FieldType.int)) ∈ BG := bg_8 (List.mem_of_getElem? (i := 39) (by decide +kernel)) (by decide +kernel)
theorem wd_1720 : (Jvm.Cond.methodLink "LifeKeysLaw" (127 : Nat) ({ cls := "LifeKeysModel", name := "rule", desc := "()I" } : Jvm.MethodName)) ∈ BG := bg_8 (List.mem_of_getElem? (i := 40) (by decide +kernel)) (by decide +kernel)
theorem wd_1721 : (Jvm.Cond.instanceMethod ({ cls := "LifeKeysModel", name := "rule", desc := "()I" } : Jvm.MethodName)) ∈ BG := bg_8 (List.mem_of_getElem? (i := 41) (by decide +kernel)) (by decide +kernel)
theorem wd_1722 : (Jvm.Cond.selects "LifeKeysModel" ({ cls := "LifeKeysModel", name := "rule", desc := "()I" } : Jvm.MethodName) ({ cls := "LifeKeysModel", name := "rule", desc := "()I" } : Jvm.MethodName)) ∈ BG := bg_8 (List.mem_of_getElem? (i := 42) (by decide +kernel)) (by decide +kernel)
theorem wd_1723 : (Jvm.Cond.code ({ cls := "LifeKeysModel", name := "rule", desc := "()I" } : Jvm.MethodName) prog_14_method_65_code (2 : Nat) (Option.some Jvm.ClassFile.FieldType.int)) ∈ BG := bg_8 (List.mem_of_getElem? (i := 43) (by decide +kernel)) (by decide +kernel)
theorem wd_1724 : (Jvm.Cond.methodLink "LifeKeysModel" (398 : Nat) ({ cls := "LifeKeysModel", name := "fault", desc := "()I" } : Jvm.MethodName)) ∈ BG := bg_8 (List.mem_of_getElem? (i := 44) (by decide +kernel)) (by decide +kernel)
theorem wd_1725 : (Jvm.Cond.methodLink "LifeKeysLaw" (131 : Nat) ({ cls := "LifeKeysModel", name := "death", desc := "(II)Z" } : Jvm.MethodName)) ∈ BG := bg_8 (List.mem_of_getElem? (i := 45) (by decide +kernel)) (by decide +kernel)
theorem wd_1726 : (Jvm.Cond.instanceMethod ({ cls := "LifeKeysModel", name := "death", desc := "(II)Z" } : Jvm.MethodName)) ∈ BG := bg_8 (List.mem_of_getElem? (i := 46) (by decide +kernel)) (by decide +kernel)
theorem wd_1727 : (Jvm.Cond.selects "LifeKeysModel" ({ cls := "LifeKeysModel", name := "death", desc := "(II)Z" } : Jvm.MethodName) ({ cls := "LifeKeysModel", name := "death", desc := "(II)Z" } : Jvm.MethodName)) ∈ BG := bg_8 (List.mem_of_getElem? (i := 47) (by decide +kernel)) (by decide +kernel)
theorem wd_1728 : (Jvm.Cond.code ({ cls := "LifeKeysModel", name := "death", desc := "(II)Z" } : Jvm.MethodName) prog_14_method_67_code (3 : Nat) (Option.some Jvm.ClassFile.FieldType.boolean)) ∈ BG := bg_8 (List.mem_of_getElem? (i := 48) (by decide +kernel)) (by decide +kernel)
theorem wd_1729 : (Jvm.Cond.methodLink "LifeKeysModel" (403 : Nat) ({ cls := "LifeKeysModel", name := "isRule", desc := "(I)Z" } : Jvm.MethodName)) ∈ BG := bg_8 (List.mem_of_getElem? (i := 49) (by decide +kernel)) (by decide +kernel)
theorem wd_1731 : (Jvm.Cond.instanceMethod ({ cls := "LifeKeysModel", name := "isRule", desc := "(I)Z" } : Jvm.MethodName)) ∈ BG := bg_8 (List.mem_of_getElem? (i := 51) (by decide +kernel)) (by decide +kernel)
theorem wd_1732 : (Jvm.Cond.code ({ cls := "LifeKeysModel", name := "isRule", desc := "(I)Z" } : Jvm.MethodName) prog_14_method_66_code (2 : Nat) (Option.some Jvm.ClassFile.FieldType.boolean)) ∈ BG := bg_8 (List.mem_of_getElem? (i := 52) (by decide +kernel)) (by decide +kernel)
theorem wd_1733 : (Jvm.Cond.methodLink "LifeKeysLaw" (136 : Nat) ({ cls := "LifeKeysModel", name := "seal", desc := "(IIZ)I" } : Jvm.MethodName)) ∈ BG := bg_8 (List.mem_of_getElem? (i := 53) (by decide +kernel)) (by decide +kernel)
theorem wd_1734 : (Jvm.Cond.instanceMethod ({ cls := "LifeKeysModel", name := "seal", desc := "(IIZ)I" } : Jvm.MethodName)) ∈ BG := bg_8 (List.mem_of_getElem? (i := 54) (by decide +kernel)) (by decide +kernel)
theorem wd_1735 : (Jvm.Cond.selects "LifeKeysModel" ({ cls := "LifeKeysModel", name := "seal", desc := "(IIZ)I" } : Jvm.MethodName) ({ cls := "LifeKeysModel", name := "seal", desc := "(IIZ)I" } : Jvm.MethodName)) ∈ BG := bg_8 (List.mem_of_getElem? (i := 55) (by decide +kernel)) (by decide +kernel)
theorem wd_1736 : (Jvm.Cond.code ({ cls := "LifeKeysModel", name := "seal", desc := "(IIZ)I" } : Jvm.MethodName) prog_14_method_69_code (4 : Nat) (Option.some Jvm.ClassFile.FieldType.int)) ∈ BG := bg_8 (List.mem_of_getElem? (i := 56) (by decide +kernel)) (by decide +kernel)
theorem wd_1737 : (Jvm.Cond.methodLink "LifeKeysLaw" (141 : Nat) ({ cls := "LifeKeysModel", name := "say", desc := "(IIZ)Z" } : Jvm.MethodName)) ∈ BG := bg_8 (List.mem_of_getElem? (i := 57) (by decide +kernel)) (by decide +kernel)
theorem wd_1738 : (Jvm.Cond.instanceMethod ({ cls := "LifeKeysModel", name := "say", desc := "(IIZ)Z" } : Jvm.MethodName)) ∈ BG := bg_8 (List.mem_of_getElem? (i := 58) (by decide +kernel)) (by decide +kernel)
theorem wd_1739 : (Jvm.Cond.selects "LifeKeysModel" ({ cls := "LifeKeysModel", name := "say", desc := "(IIZ)Z" } : Jvm.MethodName) ({ cls := "LifeKeysModel", name := "say", desc := "(IIZ)Z" } : Jvm.MethodName)) ∈ BG := bg_8 (List.mem_of_getElem? (i := 59) (by decide +kernel)) (by decide +kernel)
theorem wd_1740 : (Jvm.Cond.code ({ cls := "LifeKeysModel", name := "say", desc := "(IIZ)Z" } : Jvm.MethodName) prog_14_method_71_code (4 : Nat) (Option.some Jvm.ClassFile.FieldType.boolean)) ∈ BG := bg_8 (List.mem_of_getElem? (i := 60) (by decide +kernel)) (by decide +kernel)
theorem wd_1741 : (Jvm.Cond.methodLink "LifeKeysModel" (409 : Nat) ({ cls := "LifeKeysModel", name := "isThing", desc := "(I)Z" } : Jvm.MethodName)) ∈ BG := bg_8 (List.mem_of_getElem? (i := 61) (by decide +kernel)) (by decide +kernel)
theorem wd_1743 : (Jvm.Cond.instanceMethod ({ cls := "LifeKeysModel", name := "isThing", desc := "(I)Z" } : Jvm.MethodName)) ∈ BG := bg_8 (List.mem_of_getElem? (i := 63) (by decide +kernel)) (by decide +kernel)
theorem wd_1744 : (Jvm.Cond.code ({ cls := "LifeKeysModel", name := "isThing", desc := "(I)Z" } : Jvm.MethodName) prog_14_method_68_code (2 : Nat) (Option.some Jvm.ClassFile.FieldType.boolean)) ∈ BG := bg_8 (List.mem_of_getElem? (i := 64) (by decide +kernel)) (by decide +kernel)
theorem wd_1745 : (Jvm.Cond.methodLink "LifeKeysModel" (412 : Nat) ({ cls := "LifeKeysModel", name := "says", desc := "(IIZZ)Z" } : Jvm.MethodName)) ∈ BG := bg_8 (List.mem_of_getElem? (i := 65) (by decide +kernel)) (by decide +kernel)
theorem wd_1747 : (Jvm.Cond.instanceMethod ({ cls := "LifeKeysModel", name := "says", desc := "(IIZZ)Z" } : Jvm.MethodName)) ∈ BG := bg_8 (List.mem_of_getElem? (i := 67) (by decide +kernel)) (by decide +kernel)
theorem wd_1748 : (Jvm.Cond.code ({ cls := "LifeKeysModel", name := "says", desc := "(IIZZ)Z" } : Jvm.MethodName) prog_14_method_70_code (5 : Nat) (Option.some Jvm.ClassFile.FieldType.boolean)) ∈ BG := bg_8 (List.mem_of_getElem? (i := 68) (by decide +kernel)) (by decide +kernel)
theorem wd_1749 : (Jvm.Cond.methodLink "LifeKeysLaw" (145 : Nat) ({ cls := "LifeKeysModel", name := "mourn", desc := "(IIZ)Z" } : Jvm.MethodName)) ∈ BG := bg_8 (List.mem_of_getElem? (i := 69) (by decide +kernel)) (by decide +kernel)
theorem wd_1750 : (Jvm.Cond.instanceMethod ({ cls := "LifeKeysModel", name := "mourn", desc := "(IIZ)Z" } : Jvm.MethodName)) ∈ BG := bg_8 (List.mem_of_getElem? (i := 70) (by decide +kernel)) (by decide +kernel)
theorem wd_1751 : (Jvm.Cond.selects "LifeKeysModel" ({ cls := "LifeKeysModel", name := "mourn", desc := "(IIZ)Z" } : Jvm.MethodName) ({ cls := "LifeKeysModel", name := "mourn", desc := "(IIZ)Z" } : Jvm.MethodName)) ∈ BG := bg_8 (List.mem_of_getElem? (i := 71) (by decide +kernel)) (by decide +kernel)
theorem wd_1752 : (Jvm.Cond.code ({ cls := "LifeKeysModel", name := "mourn", desc := "(IIZ)Z" } : Jvm.MethodName) prog_14_method_72_code (4 : Nat) (Option.some Jvm.ClassFile.FieldType.boolean)) ∈ BG := bg_8 (List.mem_of_getElem? (i := 72) (by decide +kernel)) (by decide +kernel)
theorem wd_1753 : (Jvm.Cond.methodLink "LifeKeysLaw" (149 : Nat) ({ cls := "LifeKeysModel", name := "ask", desc := "(I)Z" } : Jvm.MethodName)) ∈ BG := bg_8 (List.mem_of_getElem? (i := 73) (by decide +kernel)) (by decide +kernel)
theorem wd_1754 : (Jvm.Cond.instanceMethod ({ cls := "LifeKeysModel", name := "ask", desc := "(I)Z" } : Jvm.MethodName)) ∈ BG := bg_8 (List.mem_of_getElem? (i := 74) (by decide +kernel)) (by decide +kernel)
theorem wd_1755 : (Jvm.Cond.selects "LifeKeysModel" ({ cls := "LifeKeysModel", name := "ask", desc := "(I)Z" } : Jvm.MethodName) ({ cls := "LifeKeysModel", name := "ask", desc := "(I)Z" } : Jvm.MethodName)) ∈ BG := bg_8 (List.mem_of_getElem? (i := 75) (by decide +kernel)) (by decide +kernel)
theorem wd_1756 : (Jvm.Cond.code ({ cls := "LifeKeysModel", name := "ask", desc := "(I)Z" } : Jvm.MethodName) prog_14_method_73_code (2 : Nat) (Option.some Jvm.ClassFile.FieldType.boolean)) ∈ BG := bg_8 (List.mem_of_getElem? (i := 76) (by decide +kernel)) (by decide +kernel)
theorem wd_1757 : (Jvm.Cond.methodLink "LifeKeysLaw" (153 : Nat) ({ cls := "LifeKeysModel", name := "may", desc := "(III)I" } : Jvm.MethodName)) ∈ BG := bg_8 (List.mem_of_getElem? (i := 77) (by decide +kernel)) (by decide +kernel)
theorem wd_1758 : (Jvm.Cond.instanceMethod ({ cls := "LifeKeysModel", name := "may", desc := "(III)I" } : Jvm.MethodName)) ∈ BG := bg_8 (List.mem_of_getElem? (i := 78) (by decide +kernel)) (by decide +kernel)
theorem wd_1759 : (Jvm.Cond.selects "LifeKeysModel" ({ cls := "LifeKeysModel", name := "may", desc := "(III)I" } : Jvm.MethodName) ({ cls := "LifeKeysModel", name := "may", desc := "(III)I" } : Jvm.MethodName)) ∈ BG := bg_8 (List.mem_of_getElem? (i := 79) (by decide +kernel)) (by decide +kernel)
theorem wd_1760 : (Jvm.Cond.code ({ cls := "LifeKeysModel", name := "may", desc := "(III)I" } : Jvm.MethodName) prog_14_method_74_code (4 : Nat) (Option.some Jvm.ClassFile.FieldType.int)) ∈ BG := bg_8 (List.mem_of_getElem? (i := 80) (by decide +kernel)) (by decide +kernel)
theorem wd_1761 : (Jvm.Cond.methodLink "LifeKeysModel" (416 : Nat) ({ cls := "LifeKeysModel", name := "isDay", desc := "(I)Z" } : Jvm.MethodName)) ∈ BG := bg_8 (List.mem_of_getElem? (i := 81) (by decide +kernel)) (by decide +kernel)
theorem wd_1762 : (Jvm.Cond.static ({ cls := "LifeKeysModel", name := "isDay", desc := "(I)Z" } : Jvm.MethodName)) ∈ BG := bg_8 (List.mem_of_getElem? (i := 82) (by decide +kernel)) (by decide +kernel)
theorem wd_1763 : (Jvm.Cond.code ({ cls := "LifeKeysModel", name := "isDay", desc := "(I)Z" } : Jvm.MethodName) prog_14_method_5_code (1 : Nat) (Option.some Jvm.ClassFile.FieldType.boolean)) ∈ BG := bg_8 (List.mem_of_getElem? (i := 83) (by decide +kernel)) (by decide +kernel)
theorem wd_1764 : (Jvm.Cond.methodLink "LifeKeysModel" (419 : Nat) ({ cls := "LifeKeysModel", name := "holdsFo\x72", desc := "(III)Z" } : Jvm.MethodName)) ∈ BG := bg_8 (List.mem_of_getElem? (i := 84) (by decide +kernel)) (by decide +kernel)
theorem wd_1766 : (Jvm.Cond.instanceMethod ({ cls := "LifeKeysModel", name := "holdsFo\x72", desc := "(III)Z" } : Jvm.MethodName)) ∈ BG := bg_8 (List.mem_of_getElem? (i := 86) (by decide +kernel)) (by decide +kernel)
theorem wd_1767 : (Jvm.Cond.code ({ cls := "LifeKeysModel", name := "holdsFo\x72", desc := "(III)Z" } : Jvm.MethodName) prog_14_method_63_code (4 : Nat) (Option.some Jvm.ClassFile.FieldType.boolean)) ∈ BG := bg_8 (List.mem_of_getElem? (i := 87) (by decide +kernel)) (by decide +kernel)
theorem wd_1768 : (Jvm.Cond.methodLink "LifeKeysModel" (394 : Nat) ({ cls := "LifeKeysModel", name := "findDead", desc := "(II)V" } : Jvm.MethodName)) ∈ BG := bg_8 (List.mem_of_getElem? (i := 88) (by decide +kernel)) (by decide +kernel)
theorem wd_1770 : (Jvm.Cond.instanceMethod ({ cls := "LifeKeysModel", name := "findDead", desc := "(II)V" } : Jvm.MethodName)) ∈ BG := bg_8 (List.mem_of_getElem? (i := 90) (by decide +kernel)) (by decide +kernel)
theorem wd_1771 : (Jvm.Cond.code ({ cls := "LifeKeysModel", name := "findDead", desc := "(II)V" } : Jvm.MethodName) prog_14_method_62_code (6 : Nat) (Option.none : Option Jvm.ClassFile.FieldType)) ∈ BG := bg_8 (List.mem_of_getElem? (i := 91) (by decide +kernel)) (by decide +kernel)
theorem wd_1772 : (Jvm.Cond.methodLink "LifeKeysModel" (391 : Nat) ({ cls := "LifeKeysModel", name := "holds", desc := "(I)Z" } : Jvm.MethodName)) ∈ BG := bg_8 (List.mem_of_getElem? (i := 92) (by decide +kernel)) (by decide +kernel)
theorem wd_1774 : (Jvm.Cond.instanceMethod ({ cls := "LifeKeysModel", name := "holds", desc := "(I)Z" } : Jvm.MethodName)) ∈ BG := bg_8 (List.mem_of_getElem? (i := 94) (by decide +kernel)) (by decide +kernel)
theorem wd_1775 : (Jvm.Cond.code ({ cls := "LifeKeysModel", name := "holds", desc := "(I)Z" } : Jvm.MethodName) prog_14_method_61_code (2 : Nat) (Option.some Jvm.ClassFile.FieldType.boolean)) ∈ BG := bg_8 (List.mem_of_getElem? (i := 95) (by decide +kernel)) (by decide +kernel)
theorem wd_1776 : (Jvm.Cond.methodLink "LifeKeysLaw" (157 : Nat) ({ cls := "LifeKeysModel", name := "dead", desc := "(III)I" } : Jvm.MethodName)) ∈ BG := bg_8 (List.mem_of_getElem? (i := 96) (by decide +kernel)) (by decide +kernel)
theorem wd_1777 : (Jvm.Cond.instanceMethod ({ cls := "LifeKeysModel", name := "dead", desc := "(III)I" } : Jvm.MethodName)) ∈ BG := bg_8 (List.mem_of_getElem? (i := 97) (by decide +kernel)) (by decide +kernel)
theorem wd_1778 : (Jvm.Cond.selects "LifeKeysModel" ({ cls := "LifeKeysModel", name := "dead", desc := "(III)I" } : Jvm.MethodName) ({ cls := "LifeKeysModel", name := "dead", desc := "(III)I" } : Jvm.MethodName)) ∈ BG := bg_8 (List.mem_of_getElem? (i := 98) (by decide +kernel)) (by decide +kernel)
theorem wd_1779 : (Jvm.Cond.code ({ cls := "LifeKeysModel", name := "dead", desc := "(III)I" } : Jvm.MethodName) prog_14_method_75_code (4 : Nat) (Option.some Jvm.ClassFile.FieldType.int)) ∈ BG := bg_8 (List.mem_of_getElem? (i := 99) (by decide +kernel)) (by decide +kernel)
theorem wd_1780 : (Jvm.Cond.methodLink "LifeKeysLaw" (161 : Nat) ({ cls := "LifeKeysModel", name := "unseal", desc := "(I)I" } : Jvm.MethodName)) ∈ BG := bg_8 (List.mem_of_getElem? (i := 100) (by decide +kernel)) (by decide +kernel)
theorem wd_1781 : (Jvm.Cond.instanceMethod ({ cls := "LifeKeysModel", name := "unseal", desc := "(I)I" } : Jvm.MethodName)) ∈ BG := bg_8 (List.mem_of_getElem? (i := 101) (by decide +kernel)) (by decide +kernel)
theorem wd_1782 : (Jvm.Cond.selects "LifeKeysModel" ({ cls := "LifeKeysModel", name := "unseal", desc := "(I)I" } : Jvm.MethodName) ({ cls := "LifeKeysModel", name := "unseal", desc := "(I)I" } : Jvm.MethodName)) ∈ BG := bg_8 (List.mem_of_getElem? (i := 102) (by decide +kernel)) (by decide +kernel)
theorem wd_1783 : (Jvm.Cond.code ({ cls := "LifeKeysModel", name := "unseal", desc := "(I)I" } : Jvm.MethodName) prog_14_method_76_code (2 : Nat) (Option.some Jvm.ClassFile.FieldType.int)) ∈ BG := bg_8 (List.mem_of_getElem? (i := 103) (by decide +kernel)) (by decide +kernel)
theorem wd_1784 : (Jvm.Cond.methodLink "LifeKeysLaw" (166 : Nat) ({ cls := "LifeKeysModel", name := "sign", desc := "(IIII)I" } : Jvm.MethodName)) ∈ BG := bg_8 (List.mem_of_getElem? (i := 104) (by decide +kernel)) (by decide +kernel)
theorem wd_1785 : (Jvm.Cond.instanceMethod ({ cls := "LifeKeysModel", name := "sign", desc := "(IIII)I" } : Jvm.MethodName)) ∈ BG := bg_8 (List.mem_of_getElem? (i := 105) (by decide +kernel)) (by decide +kernel)
theorem wd_1786 : (Jvm.Cond.selects "LifeKeysModel" ({ cls := "LifeKeysModel", name := "sign", desc := "(IIII)I" } : Jvm.MethodName) ({ cls := "LifeKeysModel", name := "sign", desc := "(IIII)I" } : Jvm.MethodName)) ∈ BG := bg_8 (List.mem_of_getElem? (i := 106) (by decide +kernel)) (by decide +kernel)
theorem wd_1787 : (Jvm.Cond.code ({ cls := "LifeKeysModel", name := "sign", desc := "(IIII)I" } : Jvm.MethodName) prog_14_method_82_code (5 : Nat) (Option.some Jvm.ClassFile.FieldType.int)) ∈ BG := bg_8 (List.mem_of_getElem? (i := 107) (by decide +kernel)) (by decide +kernel)
theorem wd_1788 : (Jvm.Cond.methodLink "LifeKeysModel" (438 : Nat) ({ cls := "LifeKeysModel", name := "maySign", desc := "(I)Z" } : Jvm.MethodName)) ∈ BG := bg_8 (List.mem_of_getElem? (i := 108) (by decide +kernel)) (by decide +kernel)
theorem wd_1790 : (Jvm.Cond.instanceMethod ({ cls := "LifeKeysModel", name := "maySign", desc := "(I)Z" } : Jvm.MethodName)) ∈ BG := bg_8 (List.mem_of_getElem? (i := 110) (by decide +kernel)) (by decide +kernel)
theorem wd_1791 : (Jvm.Cond.code ({ cls := "LifeKeysModel", name := "maySign", desc := "(I)Z" } : Jvm.MethodName) prog_14_method_78_code (3 : Nat) (Option.some Jvm.ClassFile.FieldType.boolean)) ∈ BG := bg_8 (List.mem_of_getElem? (i := 111) (by decide +kernel)) (by decide +kernel)
theorem wd_1792 : (Jvm.Cond.methodLink "LifeKeysModel" (425 : Nat) ({ cls := "LifeKeysModel", name := "burntFrom", desc := "(II)I" } : Jvm.MethodName)) ∈ BG := bg_8 (List.mem_of_getElem? (i := 112) (by decide +kernel)) (by decide +kernel)
theorem wd_1794 : (Jvm.Cond.instanceMethod ({ cls := "LifeKeysModel", name := "burntFrom", desc := "(II)I" } : Jvm.MethodName)) ∈ BG := bg_8 (List.mem_of_getElem? (i := 114) (by decide +kernel)) (by decide +kernel)
theorem wd_1795 : (Jvm.Cond.code ({ cls := "LifeKeysModel", name := "burntFrom", desc := "(II)I" } : Jvm.MethodName) prog_14_method_77_code (5 : Nat) (Option.some Jvm.ClassFile.FieldType.int)) ∈ BG := bg_8 (List.mem_of_getElem? (i := 115) (by decide +kernel)) (by decide +kernel)
theorem wd_1796 : (Jvm.Cond.methodLink "LifeKeysModel" (441 : Nat) ({ cls := "LifeKeysModel", name := "signs", desc := "(III)I" } : Jvm.MethodName)) ∈ BG := bg_8 (List.mem_of_getElem? (i := 116) (by decide +kernel)) (by decide +kernel)
theorem wd_1798 : (Jvm.Cond.instanceMethod ({ cls := "LifeKeysModel", name := "signs", desc := "(III)I" } : Jvm.MethodName)) ∈ BG := bg_8 (List.mem_of_getElem? (i := 118) (by decide +kernel)) (by decide +kernel)
theorem wd_1799 : (Jvm.Cond.code ({ cls := "LifeKeysModel", name := "signs", desc := "(III)I" } : Jvm.MethodName) prog_14_method_81_code (5 : Nat) (Option.some Jvm.ClassFile.FieldType.int)) ∈ BG := bg_8 (List.mem_of_getElem? (i := 119) (by decide +kernel)) (by decide +kernel)
theorem wd_1800 : (Jvm.Cond.methodLink "LifeKeysModel" (431 : Nat) ({ cls := "LifeKeysModel", name := "challenge", desc := "(II)I" } : Jvm.MethodName)) ∈ BG := bg_8 (List.mem_of_getElem? (i := 120) (by decide +kernel)) (by decide +kernel)
theorem wd_1801 : (Jvm.Cond.static ({ cls := "LifeKeysModel", name := "challenge", desc := "(II)I" } : Jvm.MethodName)) ∈ BG := bg_8 (List.mem_of_getElem? (i := 121) (by decide +kernel)) (by decide +kernel)
theorem wd_1802 : (Jvm.Cond.code ({ cls := "LifeKeysModel", name := "challenge", desc := "(II)I" } : Jvm.MethodName) prog_14_method_79_code (2 : Nat) (Option.some Jvm.ClassFile.FieldType.int)) ∈ BG := bg_8 (List.mem_of_getElem? (i := 122) (by decide +kernel)) (by decide +kernel)
theorem wd_1803 : (Jvm.Cond.methodLink "LifeKeysModel" (434 : Nat) ({ cls := "LifeKeysModel", name := "keeps", desc := "(IIII)I" } : Jvm.MethodName)) ∈ BG := bg_8 (List.mem_of_getElem? (i := 123) (by decide +kernel)) (by decide +kernel)
theorem wd_1805 : (Jvm.Cond.instanceMethod ({ cls := "LifeKeysModel", name := "keeps", desc := "(IIII)I" } : Jvm.MethodName)) ∈ BG := bg_8 (List.mem_of_getElem? (i := 125) (by decide +kernel)) (by decide +kernel)
theorem wd_1806 : (Jvm.Cond.code ({ cls := "LifeKeysModel", name := "keeps", desc := "(IIII)I" } : Jvm.MethodName) prog_14_method_80_code (5 : Nat) (Option.some Jvm.ClassFile.FieldType.int)) ∈ BG := bg_8 (List.mem_of_getElem? (i := 126) (by decide +kernel)) (by decide +kernel)
theorem wd_1807 : (Jvm.Cond.methodLink "LifeKeysLaw" (171 : Nat) ({ cls := "LifeKeysModel", name := "falsely", desc := "(IZ)Z" } : Jvm.MethodName)) ∈ BG := bg_8 (List.mem_of_getElem? (i := 127) (by decide +kernel)) (by decide +kernel)
theorem wd_1808 : (Jvm.Cond.instanceMethod ({ cls := "LifeKeysModel", name := "falsely", desc := "(IZ)Z" } : Jvm.MethodName)) ∈ BG := bg_8 (List.mem_of_getElem? (i := 128) (by decide +kernel)) (by decide +kernel)
theorem wd_1809 : (Jvm.Cond.selects "LifeKeysModel" ({ cls := "LifeKeysModel", name := "falsely", desc := "(IZ)Z" } : Jvm.MethodName) ({ cls := "LifeKeysModel", name := "falsely", desc := "(IZ)Z" } : Jvm.MethodName)) ∈ BG := bg_8 (List.mem_of_getElem? (i := 129) (by decide +kernel)) (by decide +kernel)
theorem wd_1810 : (Jvm.Cond.code ({ cls := "LifeKeysModel", name := "falsely", desc := "(IZ)Z" } : Jvm.MethodName) prog_14_method_83_code (3 : Nat) (Option.some Jvm.ClassFile.FieldType.boolean)) ∈ BG := bg_8 (List.mem_of_getElem? (i := 130) (by decide +kernel)) (by decide +kernel)
theorem wd_1811 : (Jvm.Cond.methodLink "LifeKeysLaw" (175 : Nat) ({ cls := "LifeKeysModel", name := "several", desc := "(IIIJ)I" } : Jvm.MethodName)) ∈ BG := bg_8 (List.mem_of_getElem? (i := 131) (by decide +kernel)) (by decide +kernel)
theorem wd_1812 : (Jvm.Cond.instanceMethod ({ cls := "LifeKeysModel", name := "several", desc := "(IIIJ)I" } : Jvm.MethodName)) ∈ BG := bg_8 (List.mem_of_getElem? (i := 132) (by decide +kernel)) (by decide +kernel)
theorem wd_1813 : (Jvm.Cond.selects "LifeKeysModel" ({ cls := "LifeKeysModel", name := "several", desc := "(IIIJ)I" } : Jvm.MethodName) ({ cls := "LifeKeysModel", name := "several", desc := "(IIIJ)I" } : Jvm.MethodName)) ∈ BG := bg_8 (List.mem_of_getElem? (i := 133) (by decide +kernel)) (by decide +kernel)
theorem wd_1814 : (Jvm.Cond.code ({ cls := "LifeKeysModel", name := "several", desc := "(IIIJ)I" } : Jvm.MethodName) prog_14_method_84_code (12 : Nat) (Option.some Jvm.ClassFile.FieldType.int)) ∈ BG := bg_8 (List.mem_of_getElem? (i := 134) (by decide +kernel)) (by decide +kernel)
theorem wd_1815 : (Jvm.Cond.methodLink "LifeKeysLaw" (179 : Nat) ({ cls := "LifeKeysModel", name := "signed", desc := "(II)I" } : Jvm.MethodName)) ∈ BG := bg_8 (List.mem_of_getElem? (i := 135) (by decide +kernel)) (by decide +kernel)
theorem wd_1816 : (Jvm.Cond.instanceMethod ({ cls := "LifeKeysModel", name := "signed", desc := "(II)I" } : Jvm.MethodName)) ∈ BG := bg_8 (List.mem_of_getElem? (i := 136) (by decide +kernel)) (by decide +kernel)
theorem wd_1817 : (Jvm.Cond.selects "LifeKeysModel" ({ cls := "LifeKeysModel", name := "signed", desc := "(II)I" } : Jvm.MethodName) ({ cls := "LifeKeysModel", name := "signed", desc := "(II)I" } : Jvm.MethodName)) ∈ BG := bg_8 (List.mem_of_getElem? (i := 137) (by decide +kernel)) (by decide +kernel)
theorem wd_1818 : (Jvm.Cond.code ({ cls := "LifeKeysModel", name := "signed", desc := "(II)I" } : Jvm.MethodName) prog_14_method_85_code (3 : Nat) (Option.some Jvm.ClassFile.FieldType.int)) ∈ BG := bg_8 (List.mem_of_getElem? (i := 138) (by decide +kernel)) (by decide +kernel)
theorem wd_1819 : (Jvm.Cond.methodLink "LifeKeysLaw" (183 : Nat) ({ cls := "LifeKeysModel", name := "taken", desc := "(IIII)I" } : Jvm.MethodName)) ∈ BG := bg_8 (List.mem_of_getElem? (i := 139) (by decide +kernel)) (by decide +kernel)
theorem wd_1820 : (Jvm.Cond.instanceMethod ({ cls := "LifeKeysModel", name := "taken", desc := "(IIII)I" } : Jvm.MethodName)) ∈ BG := bg_8 (List.mem_of_getElem? (i := 140) (by decide +kernel)) (by decide +kernel)
theorem wd_1821 : (Jvm.Cond.selects "LifeKeysModel" ({ cls := "LifeKeysModel", name := "taken", desc := "(IIII)I" } : Jvm.MethodName) ({ cls := "LifeKeysModel", name := "taken", desc := "(IIII)I" } : Jvm.MethodName)) ∈ BG := bg_8 (List.mem_of_getElem? (i := 141) (by decide +kernel)) (by decide +kernel)
theorem wd_1822 : (Jvm.Cond.code ({ cls := "LifeKeysModel", name := "taken", desc := "(IIII)I" } : Jvm.MethodName) prog_14_method_86_code (5 : Nat) (Option.some Jvm.ClassFile.FieldType.int)) ∈ BG := bg_8 (List.mem_of_getElem? (i := 142) (by decide +kernel)) (by decide +kernel)
theorem wd_1823 : (Jvm.Cond.methodLink "LifeKeysLaw" (187 : Nat) ({ cls := "LifeKeysModel", name := "burn", desc := "(II)Z" } : Jvm.MethodName)) ∈ BG := bg_8 (List.mem_of_getElem? (i := 143) (by decide +kernel)) (by decide +kernel)
theorem wd_1824 : (Jvm.Cond.instanceMethod ({ cls := "LifeKeysModel", name := "burn", desc := "(II)Z" } : Jvm.MethodName)) ∈ BG := bg_8 (List.mem_of_getElem? (i := 144) (by decide +kernel)) (by decide +kernel)
theorem wd_1825 : (Jvm.Cond.selects "LifeKeysModel" ({ cls := "LifeKeysModel", name := "burn", desc := "(II)Z" } : Jvm.MethodName) ({ cls := "LifeKeysModel", name := "burn", desc := "(II)Z" } : Jvm.MethodName)) ∈ BG := bg_8 (List.mem_of_getElem? (i := 145) (by decide +kernel)) (by decide +kernel)
theorem wd_1826 : (Jvm.Cond.code ({ cls := "LifeKeysModel", name := "burn", desc := "(II)Z" } : Jvm.MethodName) prog_14_method_87_code (3 : Nat) (Option.some Jvm.ClassFile.FieldType.boolean)) ∈ BG := bg_8 (List.mem_of_getElem? (i := 146) (by decide +kernel)) (by decide +kernel)
theorem wd_1827 : (Jvm.Cond.methodLink "LifeKeysLaw" (191 : Nat) ({ cls := "LifeKeysModel", name := "old", desc := "(I)Z" } : Jvm.MethodName)) ∈ BG := bg_8 (List.mem_of_getElem? (i := 147) (by decide +kernel)) (by decide +kernel)
theorem wd_1828 : (Jvm.Cond.instanceMethod ({ cls := "LifeKeysModel", name := "old", desc := "(I)Z" } : Jvm.MethodName)) ∈ BG := bg_8 (List.mem_of_getElem? (i := 148) (by decide +kernel)) (by decide +kernel)
theorem wd_1829 : (Jvm.Cond.selects "LifeKeysModel" ({ cls := "LifeKeysModel", name := "old", desc := "(I)Z" } : Jvm.MethodName) ({ cls := "LifeKeysModel", name := "old", desc := "(I)Z" } : Jvm.MethodName)) ∈ BG := bg_8 (List.mem_of_getElem? (i := 149) (by decide +kernel)) (by decide +kernel)
theorem wd_1830 : (Jvm.Cond.code ({ cls := "LifeKeysModel", name := "old", desc := "(I)Z" } : Jvm.MethodName) prog_14_method_88_code (2 : Nat) (Option.some Jvm.ClassFile.FieldType.boolean)) ∈ BG := bg_8 (List.mem_of_getElem? (i := 150) (by decide +kernel)) (by decide +kernel)
theorem wd_1831 : (Jvm.Cond.methodLink "LifeKeysLaw" (195 : Nat) ({ cls := "LifeKeysModel", name := "stands", desc := "(II)I" } : Jvm.MethodName)) ∈ BG := bg_8 (List.mem_of_getElem? (i := 151) (by decide +kernel)) (by decide +kernel)
theorem wd_1832 : (Jvm.Cond.instanceMethod ({ cls := "LifeKeysModel", name := "stands", desc := "(II)I" } : Jvm.MethodName)) ∈ BG := bg_8 (List.mem_of_getElem? (i := 152) (by decide +kernel)) (by decide +kernel)
theorem wd_1833 : (Jvm.Cond.selects "LifeKeysModel" ({ cls := "LifeKeysModel", name := "stands", desc := "(II)I" } : Jvm.MethodName) ({ cls := "LifeKeysModel", name := "stands", desc := "(II)I" } : Jvm.MethodName)) ∈ BG := bg_8 (List.mem_of_getElem? (i := 153) (by decide +kernel)) (by decide +kernel)
theorem wd_1834 : (Jvm.Cond.code ({ cls := "LifeKeysModel", name := "stands", desc := "(II)I" } : Jvm.MethodName) prog_14_method_89_code (6 : Nat) (Option.some Jvm.ClassFile.FieldType.int)) ∈ BG := bg_8 (List.mem_of_getElem? (i := 154) (by decide +kernel)) (by decide +kernel)
theorem wd_1835 : (Jvm.Cond.methodLink "LifeKeysLaw" (199 : Nat) ({ cls := "LifeKeysModel", name := "lend", desc := "(IIIII)I" } : Jvm.MethodName)) ∈ BG := bg_8 (List.mem_of_getElem? (i := 155) (by decide +kernel)) (by decide +kernel)
theorem wd_1836 : (Jvm.Cond.instanceMethod ({ cls := "LifeKeysModel", name := "lend", desc := "(IIIII)I" } : Jvm.MethodName)) ∈ BG := bg_8 (List.mem_of_getElem? (i := 156) (by decide +kernel)) (by decide +kernel)
theorem wd_1837 : (Jvm.Cond.selects "LifeKeysModel" ({ cls := "LifeKeysModel", name := "lend", desc := "(IIIII)I" } : Jvm.MethodName) ({ cls := "LifeKeysModel", name := "lend", desc := "(IIIII)I" } : Jvm.MethodName)) ∈ BG := bg_8 (List.mem_of_getElem? (i := 157) (by decide +kernel)) (by decide +kernel)
theorem wd_1838 : (Jvm.Cond.code ({ cls := "LifeKeysModel", name := "lend", desc := "(IIIII)I" } : Jvm.MethodName) prog_14_method_90_code (6 : Nat) (Option.some Jvm.ClassFile.FieldType.int)) ∈ BG := bg_8 (List.mem_of_getElem? (i := 158) (by decide +kernel)) (by decide +kernel)
theorem wd_1839 : (Jvm.Cond.methodLink "LifeKeysLaw" (203 : Nat) ({ cls := "LifeKeysModel", name := "use", desc := "(III)I" } : Jvm.MethodName)) ∈ BG := bg_8 (List.mem_of_getElem? (i := 159) (by decide +kernel)) (by decide +kernel)
theorem wd_1840 : (Jvm.Cond.instanceMethod ({ cls := "LifeKeysModel", name := "use", desc := "(III)I" } : Jvm.MethodName)) ∈ BG := bg_8 (List.mem_of_getElem? (i := 160) (by decide +kernel)) (by decide +kernel)
theorem wd_1841 : (Jvm.Cond.selects "LifeKeysModel" ({ cls := "LifeKeysModel", name := "use", desc := "(III)I" } : Jvm.MethodName) ({ cls := "LifeKeysModel", name := "use", desc := "(III)I" } : Jvm.MethodName)) ∈ BG := bg_8 (List.mem_of_getElem? (i := 161) (by decide +kernel)) (by decide +kernel)
theorem wd_1842 : (Jvm.Cond.code ({ cls := "LifeKeysModel", name := "use", desc := "(III)I" } : Jvm.MethodName) prog_14_method_91_code (4 : Nat) (Option.some Jvm.ClassFile.FieldType.int)) ∈ BG := bg_8 (List.mem_of_getElem? (i := 162) (by decide +kernel)) (by decide +kernel)
theorem wd_1843 : (Jvm.Cond.methodLink "LifeKeysLaw" (207 : Nat) ({ cls := "LifeKeysModel", name := "back", desc := "(I)Z" } : Jvm.MethodName)) ∈ BG := bg_8 (List.mem_of_getElem? (i := 163) (by decide +kernel)) (by decide +kernel)
theorem wd_1844 : (Jvm.Cond.instanceMethod ({ cls := "LifeKeysModel", name := "back", desc := "(I)Z" } : Jvm.MethodName)) ∈ BG := bg_8 (List.mem_of_getElem? (i := 164) (by decide +kernel)) (by decide +kernel)
theorem wd_1845 : (Jvm.Cond.selects "LifeKeysModel" ({ cls := "LifeKeysModel", name := "back", desc := "(I)Z" } : Jvm.MethodName) ({ cls := "LifeKeysModel", name := "back", desc := "(I)Z" } : Jvm.MethodName)) ∈ BG := bg_8 (List.mem_of_getElem? (i := 165) (by decide +kernel)) (by decide +kernel)
theorem wd_1846 : (Jvm.Cond.code ({ cls := "LifeKeysModel", name := "back", desc := "(I)Z" } : Jvm.MethodName) prog_14_method_92_code (2 : Nat) (Option.some Jvm.ClassFile.FieldType.boolean)) ∈ BG := bg_8 (List.mem_of_getElem? (i := 166) (by decide +kernel)) (by decide +kernel)
theorem wd_1847 : (Jvm.Cond.methodLink "LifeKeysLaw" (60 : Nat) ({ cls := "LifeKeysModel", name := "told", desc := "(II)I" } : Jvm.MethodName)) ∈ BG := bg_8 (List.mem_of_getElem? (i := 167) (by decide +kernel)) (by decide +kernel)
theorem wd_1848 : (Jvm.Cond.instanceMethod ({ cls := "LifeKeysModel", name := "told", desc := "(II)I" } : Jvm.MethodName)) ∈ BG := bg_8 (List.mem_of_getElem? (i := 168) (by decide +kernel)) (by decide +kernel)
theorem wd_1849 : (Jvm.Cond.selects "LifeKeysModel" ({ cls := "LifeKeysModel", name := "told", desc := "(II)I" } : Jvm.MethodName) ({ cls := "LifeKeysModel", name := "told", desc := "(II)I" } : Jvm.MethodName)) ∈ BG := bg_8 (List.mem_of_getElem? (i := 169) (by decide +kernel)) (by decide +kernel)
theorem wd_1850 : (Jvm.Cond.code ({ cls := "LifeKeysModel", name := "told", desc := "(II)I" } : Jvm.MethodName) prog_14_method_93_code (5 : Nat) (Option.some Jvm.ClassFile.FieldType.int)) ∈ BG := bg_8 (List.mem_of_getElem? (i := 170) (by decide +kernel)) (by decide +kernel)
theorem wd_1851 : (Jvm.Cond.methodLink "LifeKeysLaw" (211 : Nat) ({ cls := "LifeKeysModel", name := "fall", desc := "(I)I" } : Jvm.MethodName)) ∈ BG := bg_8 (List.mem_of_getElem? (i := 171) (by decide +kernel)) (by decide +kernel)
theorem wd_1852 : (Jvm.Cond.instanceMethod ({ cls := "LifeKeysModel", name := "fall", desc := "(I)I" } : Jvm.MethodName)) ∈ BG := bg_8 (List.mem_of_getElem? (i := 172) (by decide +kernel)) (by decide +kernel)
theorem wd_1853 : (Jvm.Cond.selects "LifeKeysModel" ({ cls := "LifeKeysModel", name := "fall", desc := "(I)I" } : Jvm.MethodName) ({ cls := "LifeKeysModel", name := "fall", desc := "(I)I" } : Jvm.MethodName)) ∈ BG := bg_8 (List.mem_of_getElem? (i := 173) (by decide +kernel)) (by decide +kernel)
theorem wd_1854 : (Jvm.Cond.code ({ cls := "LifeKeysModel", name := "fall", desc := "(I)I" } : Jvm.MethodName) prog_14_method_95_code (2 : Nat) (Option.some Jvm.ClassFile.FieldType.int)) ∈ BG := bg_8 (List.mem_of_getElem? (i := 174) (by decide +kernel)) (by decide +kernel)
theorem wd_1855 : (Jvm.Cond.methodLink "LifeKeysLaw" (215 : Nat) ({ cls := "LifeKeysModel", name := "fallen", desc := "(II)J" } : Jvm.MethodName)) ∈ BG := bg_8 (List.mem_of_getElem? (i := 175) (by decide +kernel)) (by decide +kernel)
theorem wd_1856 : (Jvm.Cond.instanceMethod ({ cls := "LifeKeysModel", name := "fallen", desc := "(II)J" } : Jvm.MethodName)) ∈ BG := bg_8 (List.mem_of_getElem? (i := 176) (by decide +kernel)) (by decide +kernel)
theorem wd_1857 : (Jvm.Cond.selects "LifeKeysModel" ({ cls := "LifeKeysModel", name := "fallen", desc := "(II)J" } : Jvm.MethodName) ({ cls := "LifeKeysModel", name := "fallen", desc := "(II)J" } : Jvm.MethodName)) ∈ BG := bg_8 (List.mem_of_getElem? (i := 177) (by decide +kernel)) (by decide +kernel)
theorem wd_1858 : (Jvm.Cond.code ({ cls := "LifeKeysModel", name := "fallen", desc := "(II)J" } : Jvm.MethodName) prog_14_method_98_code (3 : Nat) (Option.some Jvm.ClassFile.FieldType.long)) ∈ BG := bg_8 (List.mem_of_getElem? (i := 178) (by decide +kernel)) (by decide +kernel)
theorem wd_1859 : (Jvm.Cond.methodLink "LifeKeysModel" (450 : Nat) ({ cls := "LifeKeysModel", name := "isFall", desc := "(I)Z" } : Jvm.MethodName)) ∈ BG := bg_8 (List.mem_of_getElem? (i := 179) (by decide +kernel)) (by decide +kernel)
theorem wd_1861 : (Jvm.Cond.instanceMethod ({ cls := "LifeKeysModel", name := "isFall", desc := "(I)Z" } : Jvm.MethodName)) ∈ BG := bg_8 (List.mem_of_getElem? (i := 181) (by decide +kernel)) (by decide +kernel)
theorem wd_1862 : (Jvm.Cond.code ({ cls := "LifeKeysModel", name := "isFall", desc := "(I)Z" } : Jvm.MethodName) prog_14_method_94_code (2 : Nat) (Option.some Jvm.ClassFile.FieldType.boolean)) ∈ BG := bg_8 (List.mem_of_getElem? (i := 182) (by decide +kernel)) (by decide +kernel)
theorem wd_1863 : (Jvm.Cond.methodLink "LifeKeysModel" (453 : Nat) ({ cls := "LifeKeysModel", name := "allKeys", desc := "()J" } : Jvm.MethodName)) ∈ BG := bg_8 (List.mem_of_getElem? (i := 183) (by decide +kernel)) (by decide +kernel)
theorem wd_1865 : (Jvm.Cond.instanceMethod ({ cls := "LifeKeysModel", name := "allKeys", desc := "()J" } : Jvm.MethodName)) ∈ BG := bg_8 (List.mem_of_getElem? (i := 185) (by decide +kernel)) (by decide +kernel)
theorem wd_1866 : (Jvm.Cond.code ({ cls := "LifeKeysModel", name := "allKeys", desc := "()J" } : Jvm.MethodName) prog_14_method_97_code (1 : Nat) (Option.some Jvm.ClassFile.FieldType.long)) ∈ BG := bg_8 (List.mem_of_getElem? (i := 186) (by decide +kernel)) (by decide +kernel)
theorem wd_1867 : (Jvm.Cond.methodLink "LifeKeysModel" (457 : Nat) ({ cls := "LifeKeysModel", name := "others", desc := "(I)I" } : Jvm.MethodName)) ∈ BG := bg_8 (List.mem_of_getElem? (i := 187) (by decide +kernel)) (by decide +kernel)
theorem wd_1869 : (Jvm.Cond.instanceMethod ({ cls := "LifeKeysModel", name := "others", desc := "(I)I" } : Jvm.MethodName)) ∈ BG := bg_8 (List.mem_of_getElem? (i := 189) (by decide +kernel)) (by decide +kernel)
theorem wd_1870 : (Jvm.Cond.code ({ cls := "LifeKeysModel", name := "others", desc := "(I)I" } : Jvm.MethodName) prog_14_method_96_code (2 : Nat) (Option.some Jvm.ClassFile.FieldType.int)) ∈ BG := bg_8 (List.mem_of_getElem? (i := 190) (by decide +kernel)) (by decide +kernel)
theorem wd_1871 : (Jvm.Cond.methodLink "LifeKeysLaw" (219 : Nat) ({ cls := "LifeKeysModel", name := "least", desc := "(II)I" } : Jvm.MethodName)) ∈ BG := bg_8 (List.mem_of_getElem? (i := 191) (by decide +kernel)) (by decide +kernel)
theorem wd_1872 : (Jvm.Cond.instanceMethod ({ cls := "LifeKeysModel", name := "least", desc := "(II)I" } : Jvm.MethodName)) ∈ BG := bg_8 (List.mem_of_getElem? (i := 192) (by decide +kernel)) (by decide +kernel)
theorem wd_1873 : (Jvm.Cond.selects "LifeKeysModel" ({ cls := "LifeKeysModel", name := "least", desc := "(II)I" } : Jvm.MethodName) ({ cls := "LifeKeysModel", name := "least", desc := "(II)I" } : Jvm.MethodName)) ∈ BG := bg_8 (List.mem_of_getElem? (i := 193) (by decide +kernel)) (by decide +kernel)
theorem wd_1874 : (Jvm.Cond.code ({ cls := "LifeKeysModel", name := "least", desc := "(II)I" } : Jvm.MethodName) prog_14_method_101_code (3 : Nat) (Option.some Jvm.ClassFile.FieldType.int)) ∈ BG := bg_8 (List.mem_of_getElem? (i := 194) (by decide +kernel)) (by decide +kernel)
theorem wd_1875 : (Jvm.Cond.methodLink "LifeKeysModel" (469 : Nat) ({ cls := "LifeKeysModel", name := "finds", desc := "(II)Z" } : Jvm.MethodName)) ∈ BG := bg_8 (List.mem_of_getElem? (i := 195) (by decide +kernel)) (by decide +kernel)
theorem wd_1877 : (Jvm.Cond.instanceMethod ({ cls := "LifeKeysModel", name := "finds", desc := "(II)Z" } : Jvm.MethodName)) ∈ BG := bg_8 (List.mem_of_getElem? (i := 197) (by decide +kernel)) (by decide +kernel)
theorem wd_1878 : (Jvm.Cond.code ({ cls := "LifeKeysModel", name := "finds", desc := "(II)Z" } : Jvm.MethodName) prog_14_method_100_code (6 : Nat) (Option.some Jvm.ClassFile.FieldType.boolean)) ∈ BG := bg_8 (List.mem_of_getElem? (i := 198) (by decide +kernel)) (by decide +kernel)
theorem wd_1879 : (Jvm.Cond.methodLink "LifeKeysModel" (466 : Nat) ({ cls := "LifeKeysModel", name := "harms", desc := "(III)Z" } : Jvm.MethodName)) ∈ BG := bg_8 (List.mem_of_getElem? (i := 199) (by decide +kernel)) (by decide +kernel)
theorem wd_1881 : (Jvm.Cond.instanceMethod ({ cls := "LifeKeysModel", name := "harms", desc := "(III)Z" } : Jvm.MethodName)) ∈ BG := bg_8 (List.mem_of_getElem? (i := 201) (by decide +kernel)) (by decide +kernel)
theorem wd_1882 : (Jvm.Cond.code ({ cls := "LifeKeysModel", name := "harms", desc := "(III)Z" } : Jvm.MethodName) prog_14_method_99_code (4 : Nat) (Option.some Jvm.ClassFile.FieldType.boolean)) ∈ BG := bg_8 (List.mem_of_getElem? (i := 202) (by decide +kernel)) (by decide +kernel)
theorem wd_1883 : (Jvm.Cond.methodLink "LifeKeysLaw" (223 : Nat) ({ cls := "LifeKeysModel", name := "ways", desc := "(II)I" } : Jvm.MethodName)) ∈ BG := bg_8 (List.mem_of_getElem? (i := 203) (by decide +kernel)) (by decide +kernel)
theorem wd_1884 : (Jvm.Cond.instanceMethod ({ cls := "LifeKeysModel", name := "ways", desc := "(II)I" } : Jvm.MethodName)) ∈ BG := bg_8 (List.mem_of_getElem? (i := 204) (by decide +kernel)) (by decide +kernel)
theorem wd_1885 : (Jvm.Cond.selects "LifeKeysModel" ({ cls := "LifeKeysModel", name := "ways", desc := "(II)I" } : Jvm.MethodName) ({ cls := "LifeKeysModel", name := "ways", desc := "(II)I" } : Jvm.MethodName)) ∈ BG := bg_8 (List.mem_of_getElem? (i := 205) (by decide +kernel)) (by decide +kernel)
theorem wd_1886 : (Jvm.Cond.code ({ cls := "LifeKeysModel", name := "ways", desc := "(II)I" } : Jvm.MethodName) prog_14_method_102_code (3 : Nat) (Option.some Jvm.ClassFile.FieldType.int)) ∈ BG := bg_8 (List.mem_of_getElem? (i := 206) (by decide +kernel)) (by decide +kernel)
theorem wd_1887 : (Jvm.Cond.methodLink "LifeKeysLaw" (227 : Nat) ({ cls := "LifeKeysModel", name := "first", desc := "(II)I" } : Jvm.MethodName)) ∈ BG := bg_8 (List.mem_of_getElem? (i := 207) (by decide +kernel)) (by decide +kernel)
theorem wd_1888 : (Jvm.Cond.instanceMethod ({ cls := "LifeKeysModel", name := "first", desc := "(II)I" } : Jvm.MethodName)) ∈ BG := bg_8 (List.mem_of_getElem? (i := 208) (by decide +kernel)) (by decide +kernel)
theorem wd_1889 : (Jvm.Cond.selects "LifeKeysModel" ({ cls := "LifeKeysModel", name := "first", desc := "(II)I" } : Jvm.MethodName) ({ cls := "LifeKeysModel", name := "first", desc := "(II)I" } : Jvm.MethodName)) ∈ BG := bg_8 (List.mem_of_getElem? (i := 209) (by decide +kernel)) (by decide +kernel)
theorem wd_1890 : (Jvm.Cond.code ({ cls := "LifeKeysModel", name := "first", desc := "(II)I" } : Jvm.MethodName) prog_14_method_103_code (3 : Nat) (Option.some Jvm.ClassFile.FieldType.int)) ∈ BG := bg_8 (List.mem_of_getElem? (i := 210) (by decide +kernel)) (by decide +kernel)
theorem wd_1891 : (Jvm.Cond.methodLink "LifeKeysLaw" (231 : Nat) ({ cls := "LifeKeysModel", name := "bette\x72", desc := "(I)I" } : Jvm.MethodName)) ∈ BG := bg_8 (List.mem_of_getElem? (i := 211) (by decide +kernel)) (by decide +kernel)
theorem wd_1892 : (Jvm.Cond.instanceMethod ({ cls := "LifeKeysModel", name := "bette\x72", desc := "(I)I" } : Jvm.MethodName)) ∈ BG := bg_8 (List.mem_of_getElem? (i := 212) (by decide +kernel)) (by decide +kernel)
theorem wd_1893 : (Jvm.Cond.selects "LifeKeysModel" ({ cls := "LifeKeysModel", name := "bette\x72", desc := "(I)I" } : Jvm.MethodName) ({ cls := "LifeKeysModel", name := "bette\x72", desc := "(I)I" } : Jvm.MethodName)) ∈ BG := bg_8 (List.mem_of_getElem? (i := 213) (by decide +kernel)) (by decide +kernel)
theorem wd_1894 : (Jvm.Cond.code ({ cls := "LifeKeysModel", name := "bette\x72", desc := "(I)I" } : Jvm.MethodName) prog_14_method_105_code (5 : Nat) (Option.some Jvm.ClassFile.FieldType.int)) ∈ BG := bg_8 (List.mem_of_getElem? (i := 214) (by decide +kernel)) (by decide +kernel)
theorem wd_1895 : (Jvm.Cond.methodLink "LifeKeysModel" (472 : Nat) ({ cls := "LifeKeysModel", name := "isWell", desc := "(II)Z" } : Jvm.MethodName)) ∈ BG := bg_8 (List.mem_of_getElem? (i := 215) (by decide +kernel)) (by decide +kernel)
theorem wd_1897 : (Jvm.Cond.instanceMethod ({ cls := "LifeKeysModel", name := "isWell", desc := "(II)Z" } : Jvm.MethodName)) ∈ BG := bg_8 (List.mem_of_getElem? (i := 217) (by decide +kernel)) (by decide +kernel)
theorem wd_1898 : (Jvm.Cond.code ({ cls := "LifeKeysModel", name := "isWell", desc := "(II)Z" } : Jvm.MethodName) prog_14_method_104_code (5 : Nat) (Option.some Jvm.ClassFile.FieldType.boolean)) ∈ BG := bg_8 (List.mem_of_getElem? (i := 218) (by decide +kernel)) (by decide +kernel)
theorem wd_1899 : (Jvm.Cond.methodLink "LifeKeysModel" (475 : Nat) ({ cls := "java/lang/Math", name := "abs", desc := "(I)I" } : Jvm.MethodName)) ∈ BG := bg_8 (List.mem_of_getElem? (i := 219) (by decide +kernel)) (by decide +kernel)
theorem wd_1900 : (Jvm.Cond.static ({ cls := "java/lang/Math", name := "abs", desc := "(I)I" } : Jvm.MethodName)) ∈ BG := bg_8 (List.mem_of_getElem? (i := 220) (by decide +kernel)) (by decide +kernel)
theorem wd_1901 : (Jvm.Cond.code ({ cls := "java/lang/Math", name := "abs", desc := "(I)I" } : Jvm.MethodName) prog_18_method_59_code (1 : Nat) (Option.some Jvm.ClassFile.FieldType.int)) ∈ BG := bg_8 (List.mem_of_getElem? (i := 221) (by decide +kernel)) (by decide +kernel)
theorem wd_1902 : (Jvm.Cond.methodLink "LifeKeysLaw" (235 : Nat) ({ cls := "LifeKeysModel", name := "orde\x72", desc := "(II)I" } : Jvm.MethodName)) ∈ BG := bg_8 (List.mem_of_getElem? (i := 222) (by decide +kernel)) (by decide +kernel)
theorem wd_1903 : (Jvm.Cond.instanceMethod ({ cls := "LifeKeysModel", name := "orde\x72", desc := "(II)I" } : Jvm.MethodName)) ∈ BG := bg_8 (List.mem_of_getElem? (i := 223) (by decide +kernel)) (by decide +kernel)
theorem wd_1904 : (Jvm.Cond.selects "LifeKeysModel" ({ cls := "LifeKeysModel", name := "orde\x72", desc := "(II)I" } : Jvm.MethodName) ({ cls := "LifeKeysModel", name := "orde\x72", desc := "(II)I" } : Jvm.MethodName)) ∈ BG := bg_8 (List.mem_of_getElem? (i := 224) (by decide +kernel)) (by decide +kernel)
theorem wd_1905 : (Jvm.Cond.code ({ cls := "LifeKeysModel", name := "orde\x72", desc := "(II)I" } : Jvm.MethodName) prog_14_method_107_code (10 : Nat) (Option.some Jvm.ClassFile.FieldType.int)) ∈ BG := bg_8 (List.mem_of_getElem? (i := 225) (by decide +kernel)) (by decide +kernel)
theorem wd_1906 : (Jvm.Cond.methodLink "LifeKeysModel" (478 : Nat) ({ cls := "LifeKeysModel", name := "isBarred", desc := "(IJJ)Z" } : Jvm.MethodName)) ∈ BG := bg_8 (List.mem_of_getElem? (i := 226) (by decide +kernel)) (by decide +kernel)
theorem wd_1908 : (Jvm.Cond.instanceMethod ({ cls := "LifeKeysModel", name := "isBarred", desc := "(IJJ)Z" } : Jvm.MethodName)) ∈ BG := bg_8 (List.mem_of_getElem? (i := 228) (by decide +kernel)) (by decide +kernel)
theorem wd_1909 : (Jvm.Cond.code ({ cls := "LifeKeysModel", name := "isBarred", desc := "(IJJ)Z" } : Jvm.MethodName) prog_14_method_106_code (9 : Nat) (Option.some Jvm.ClassFile.FieldType.boolean)) ∈ BG := bg_8 (List.mem_of_getElem? (i := 229) (by decide +kernel)) (by decide +kernel)
theorem wd_1910 : (Jvm.Cond.methodLink "LifeKeysLaw" (239 : Nat) ({ cls := "LifeKeysModel", name := "count", desc := "(I)I" } : Jvm.MethodName)) ∈ BG := bg_8 (List.mem_of_getElem? (i := 230) (by decide +kernel)) (by decide +kernel)
theorem wd_1911 : (Jvm.Cond.instanceMethod ({ cls := "LifeKeysModel", name := "count", desc := "(I)I" } : Jvm.MethodName)) ∈ BG := bg_8 (List.mem_of_getElem? (i := 231) (by decide +kernel)) (by decide +kernel)
theorem wd_1912 : (Jvm.Cond.selects "LifeKeysModel" ({ cls := "LifeKeysModel", name := "count", desc := "(I)I" } : Jvm.MethodName) ({ cls := "LifeKeysModel", name := "count", desc := "(I)I" } : Jvm.MethodName)) ∈ BG := bg_8 (List.mem_of_getElem? (i := 232) (by decide +kernel)) (by decide +kernel)
theorem wd_1913 : (Jvm.Cond.code ({ cls := "LifeKeysModel", name := "count", desc := "(I)I" } : Jvm.MethodName) prog_14_method_108_code (4 : Nat) (Option.some Jvm.ClassFile.FieldType.int)) ∈ BG := bg_8 (List.mem_of_getElem? (i := 233) (by decide +kernel)) (by decide +kernel)
theorem wd_1914 : (Jvm.Cond.constantLong "LifeKeysLaw" (78 : Nat) (4294967295 : Int64)) ∈ BG := bg_8 (List.mem_of_getElem? (i := 234) (by decide +kernel)) (by decide +kernel)
