/-! ===== BEGIN printed: names, fields, word lists, decode rows ===== -/
def RX0 : String := "ThreeSittings$Car"
def TX0 : u_T := fun k => match k with
  | _ => ("ThreeSittings$Car", "stands", "[Z", true)
def tyX0 : Nat → FieldType := fun k => match k with
  | _ => .array .boolean
abbrev wsX00 : List Cond := u_ws RX0 TX0 1
theorem nmX0 : ∀ a, a < 1 → ∀ b, b < 1 → a ≠ b → (TX0 a).2.1 ≠ (TX0 b).2.1 := by decide +kernel
theorem tyX0_ok : ∀ k, k < 1 → parseFieldDescriptor (TX0 k).2.2.1 = some (tyX0 k) := by decide +kernel
abbrev cX0_init : ByteArray := prog_2_method_1_code
def yX0_init : MethodName := ⟨RX0, "<init>", "()V"⟩
abbrev cX0_goThrough : ByteArray := prog_2_method_2_code
def yX0_goThrough : MethodName := ⟨RX0, "goThrough", "(LThreeSittings$Plan;LThreeSittings$State;LThreeSittings$Ways;)V"⟩
abbrev cX0_serve : ByteArray := prog_2_method_3_code
def yX0_serve : MethodName := ⟨RX0, "serve", "(LThreeSittings$Plan;LThreeSittings$State;LThreeSittings$Ways;II)I"⟩
abbrev cX0_standing : ByteArray := prog_2_method_4_code
def yX0_standing : MethodName := ⟨RX0, "standing", "(LThreeSittings$Plan;)I"⟩
abbrev cX0_laying : ByteArray := prog_2_method_5_code
def yX0_laying : MethodName := ⟨RX0, "laying", "(LThreeSittings$Plan;LThreeSittings$Ways;)I"⟩
abbrev cX0_comes : ByteArray := prog_2_method_6_code
def yX0_comes : MethodName := ⟨RX0, "comes", "(LThreeSittings$Plan;LThreeSittings$State;LThreeSittings$Ways;II)Z"⟩
abbrev cX0_sitDown : ByteArray := prog_2_method_7_code
def yX0_sitDown : MethodName := ⟨RX0, "sitDown", "(LThreeSittings$Plan;LThreeSittings$State;LThreeSittings$Ways;II)Z"⟩
abbrev cX0_manner : ByteArray := prog_2_method_8_code
def yX0_manner : MethodName := ⟨RX0, "manner", "(ILThreeSittings$Plan;LThreeSittings$State;LThreeSittings$Ways;III)I"⟩
abbrev cX0_look : ByteArray := prog_2_method_9_code
def yX0_look : MethodName := ⟨RX0, "look", "(LThreeSittings$Plan;LThreeSittings$State;LThreeSittings$Ways;III)V"⟩
def RX1 : String := "ThreeSittings$Giving"
def TX1 : u_T := fun k => match k with
  | 0 => ("ThreeSittings$Giving", "worth", "[[I", true)
  | 1 => ("ThreeSittings$Giving", "left", "[I", true)
  | 2 => ("ThreeSittings$Giving", "picked", "[I", true)
  | 3 => ("ThreeSittings$Giving", "best", "[I", true)
  | 4 => ("ThreeSittings$Giving", "hope", "[I", true)
  | 5 => ("ThreeSittings$Giving", "bestSum", "I", false)
  | _ => ("ThreeSittings$Giving", "known", "Z", false)
def tyX1 : Nat → FieldType := fun k => match k with
  | 0 => .array (.array .int)
  | 1 => .array .int
  | 2 => .array .int
  | 3 => .array .int
  | 4 => .array .int
  | 5 => .int
  | _ => .boolean
abbrev wsX10 : List Cond := u_ws RX1 TX1 7
theorem nmX1 : ∀ a, a < 7 → ∀ b, b < 7 → a ≠ b → (TX1 a).2.1 ≠ (TX1 b).2.1 := by decide +kernel
theorem tyX1_ok : ∀ k, k < 7 → parseFieldDescriptor (TX1 k).2.2.1 = some (tyX1 k) := by decide +kernel
abbrev cX1_init : ByteArray := prog_3_method_1_code
def yX1_init : MethodName := ⟨RX1, "<init>", "()V"⟩
abbrev cX1_tell : ByteArray := prog_3_method_2_code
def yX1_tell : MethodName := ⟨RX1, "tell", "(III)V"⟩
abbrev cX1_find : ByteArray := prog_3_method_3_code
def yX1_find : MethodName := ⟨RX1, "find", "(LThreeSittings$Plan;)V"⟩
abbrev cX1_search : ByteArray := prog_3_method_4_code
def yX1_search : MethodName := ⟨RX1, "search", "(LThreeSittings$Plan;II)V"⟩
def RX2 : String := "ThreeSittings$History"
def TX2 : u_T := fun k => match k with
  | 0 => ("ThreeSittings$History", "kind", "[I", true)
  | 1 => ("ThreeSittings$History", "whose", "[I", true)
  | 2 => ("ThreeSittings$History", "former", "[I", true)
  | _ => ("ThreeSittings$History", "count", "I", false)
def tyX2 : Nat → FieldType := fun k => match k with
  | 0 => .array .int
  | 1 => .array .int
  | 2 => .array .int
  | _ => .int
abbrev wsX20 : List Cond := u_ws RX2 TX2 4
theorem nmX2 : ∀ a, a < 4 → ∀ b, b < 4 → a ≠ b → (TX2 a).2.1 ≠ (TX2 b).2.1 := by decide +kernel
theorem tyX2_ok : ∀ k, k < 4 → parseFieldDescriptor (TX2 k).2.2.1 = some (tyX2 k) := by decide +kernel
abbrev cX2_init : ByteArray := prog_4_method_1_code
def yX2_init : MethodName := ⟨RX2, "<init>", "()V"⟩
abbrev cX2_add : ByteArray := prog_4_method_2_code
def yX2_add : MethodName := ⟨RX2, "add", "(III)V"⟩
abbrev cX2_takeBack : ByteArray := prog_4_method_3_code
def yX2_takeBack : MethodName := ⟨RX2, "takeBack", "(LThreeSittings$State;)V"⟩
def RX3 : String := "ThreeSittings$Laws"
def TX3 : u_T := fun k => match k with
  | 0 => ("ThreeSittings$Laws", "knot", "[I", true)
  | 1 => ("ThreeSittings$Laws", "number", "[I", true)
  | 2 => ("ThreeSittings$Laws", "length", "I", false)
  | 3 => ("ThreeSittings$Laws", "knots", "I", false)
  | 4 => ("ThreeSittings$Laws", "from", "[I", true)
  | 5 => ("ThreeSittings$Laws", "to", "[I", true)
  | 6 => ("ThreeSittings$Laws", "names", "[I", true)
  | _ => ("ThreeSittings$Laws", "stack", "[J", true)
def tyX3 : Nat → FieldType := fun k => match k with
  | 0 => .array .int
  | 1 => .array .int
  | 2 => .int
  | 3 => .int
  | 4 => .array .int
  | 5 => .array .int
  | 6 => .array .int
  | _ => .array .long
abbrev wsX30 : List Cond := u_ws RX3 TX3 8
theorem nmX3 : ∀ a, a < 8 → ∀ b, b < 8 → a ≠ b → (TX3 a).2.1 ≠ (TX3 b).2.1 := by decide +kernel
theorem tyX3_ok : ∀ k, k < 8 → parseFieldDescriptor (TX3 k).2.2.1 = some (tyX3 k) := by decide +kernel
abbrev cX3_init : ByteArray := prog_5_method_1_code
def yX3_init : MethodName := ⟨RX3, "<init>", "()V"⟩
abbrev cX3_clear : ByteArray := prog_5_method_2_code
def yX3_clear : MethodName := ⟨RX3, "clear", "()V"⟩
abbrev cX3_isTold : ByteArray := prog_5_method_3_code
def yX3_isTold : MethodName := ⟨RX3, "isTold", "(I)Z"⟩
abbrev cX3_tell : ByteArray := prog_5_method_4_code
def yX3_tell : MethodName := ⟨RX3, "tell", "(II)V"⟩
abbrev cX3_put : ByteArray := prog_5_method_5_code
def yX3_put : MethodName := ⟨RX3, "put", "(II)V"⟩
abbrev cX3_work : ByteArray := prog_5_method_6_code
def yX3_work : MethodName := ⟨RX3, "work", "(I)J"⟩
abbrev cX3_isLeaf : ByteArray := prog_5_method_7_code
def yX3_isLeaf : MethodName := ⟨RX3, "isLeaf", "(I)Z"⟩
abbrev cX3_leaf : ByteArray := prog_5_method_8_code
def yX3_leaf : MethodName := ⟨RX3, "leaf", "(II)J"⟩
abbrev cX3_join : ByteArray := prog_5_method_9_code
def yX3_join : MethodName := ⟨RX3, "join", "(IJJ)J"⟩
def RX4 : String := "ThreeSittings$Levelling"
def TX4 : u_T := fun k => match k with
  | 0 => ("ThreeSittings$Levelling", "prices", "[I", true)
  | 1 => ("ThreeSittings$Levelling", "persons", "[I", true)
  | 2 => ("ThreeSittings$Levelling", "found", "Z", false)
  | _ => ("ThreeSittings$Levelling", "known", "Z", false)
def tyX4 : Nat → FieldType := fun k => match k with
  | 0 => .array .int
  | 1 => .array .int
  | 2 => .boolean
  | _ => .boolean
abbrev wsX40 : List Cond := u_ws RX4 TX4 4
theorem nmX4 : ∀ a, a < 4 → ∀ b, b < 4 → a ≠ b → (TX4 a).2.1 ≠ (TX4 b).2.1 := by decide +kernel
theorem tyX4_ok : ∀ k, k < 4 → parseFieldDescriptor (TX4 k).2.2.1 = some (tyX4 k) := by decide +kernel
abbrev cX4_init : ByteArray := prog_6_method_1_code
def yX4_init : MethodName := ⟨RX4, "<init>", "()V"⟩
abbrev cX4_priceOf : ByteArray := prog_6_method_2_code
def yX4_priceOf : MethodName := ⟨RX4, "priceOf", "(ILThreeSittings$Plan;)I"⟩
abbrev cX4_find : ByteArray := prog_6_method_3_code
def yX4_find : MethodName := ⟨RX4, "find", "(LThreeSittings$Plan;)V"⟩
abbrev cX4_tooFull : ByteArray := prog_6_method_4_code
def yX4_tooFull : MethodName := ⟨RX4, "tooFull", "(LThreeSittings$Plan;)I"⟩
def RX5 : String := "ThreeSittings$Notes"
def TX5 : u_T := fun k => match k with
  | 0 => ("ThreeSittings$Notes", "kind", "[I", true)
  | 1 => ("ThreeSittings$Notes", "about", "[I", true)
  | 2 => ("ThreeSittings$Notes", "minutes", "[I", true)
  | 3 => ("ThreeSittings$Notes", "struck", "[Z", true)
  | 4 => ("ThreeSittings$Notes", "count", "I", false)
  | _ => ("ThreeSittings$Notes", "knownBy", "I", false)
def tyX5 : Nat → FieldType := fun k => match k with
  | 0 => .array .int
  | 1 => .array .int
  | 2 => .array .int
  | 3 => .array .boolean
  | 4 => .int
  | _ => .int
abbrev wsX50 : List Cond := u_ws RX5 TX5 6
theorem nmX5 : ∀ a, a < 6 → ∀ b, b < 6 → a ≠ b → (TX5 a).2.1 ≠ (TX5 b).2.1 := by decide +kernel
theorem tyX5_ok : ∀ k, k < 6 → parseFieldDescriptor (TX5 k).2.2.1 = some (tyX5 k) := by decide +kernel
abbrev cX5_init : ByteArray := prog_7_method_1_code
def yX5_init : MethodName := ⟨RX5, "<init>", "()V"⟩
abbrev cX5_clear : ByteArray := prog_7_method_2_code
def yX5_clear : MethodName := ⟨RX5, "clear", "()V"⟩
abbrev cX5_has : ByteArray := prog_7_method_3_code
def yX5_has : MethodName := ⟨RX5, "has", "(I)Z"⟩
abbrev cX5_add : ByteArray := prog_7_method_4_code
def yX5_add : MethodName := ⟨RX5, "add", "(III)I"⟩
abbrev cX5_knownCount : ByteArray := prog_7_method_5_code
def yX5_knownCount : MethodName := ⟨RX5, "knownCount", "()I"⟩
abbrev cX5_strike : ByteArray := prog_7_method_6_code
def yX5_strike : MethodName := ⟨RX5, "strike", "()V"⟩
abbrev cX5_holdFor : ByteArray := prog_7_method_7_code
def yX5_holdFor : MethodName := ⟨RX5, "holdFor", "([I)Z"⟩
def RX6 : String := "ThreeSittings$Plan"
def TX6 : u_T := fun k => match k with
  | 0 => ("ThreeSittings$Plan", "parties", "I", false)
  | 1 => ("ThreeSittings$Plan", "letters", "[I", true)
  | 2 => ("ThreeSittings$Plan", "traits", "[[I", true)
  | 3 => ("ThreeSittings$Plan", "sittings", "I", false)
  | 4 => ("ThreeSittings$Plan", "minute", "[I", true)
  | 5 => ("ThreeSittings$Plan", "toldPrice", "[I", true)
  | 6 => ("ThreeSittings$Plan", "setting", "[I", true)
  | 7 => ("ThreeSittings$Plan", "isTold", "[Z", true)
  | _ => ("ThreeSittings$Plan", "laws", "LThreeSittings$Laws;", true)
def tyX6 : Nat → FieldType := fun k => match k with
  | 0 => .int
  | 1 => .array .int
  | 2 => .array (.array .int)
  | 3 => .int
  | 4 => .array .int
  | 5 => .array .int
  | 6 => .array .int
  | 7 => .array .boolean
  | _ => .object "ThreeSittings$Laws"
abbrev wsX60 : List Cond := u_ws RX6 TX6 9
theorem nmX6 : ∀ a, a < 9 → ∀ b, b < 9 → a ≠ b → (TX6 a).2.1 ≠ (TX6 b).2.1 := by decide +kernel
theorem tyX6_ok : ∀ k, k < 9 → parseFieldDescriptor (TX6 k).2.2.1 = some (tyX6 k) := by decide +kernel
abbrev cX6_init : ByteArray := prog_8_method_1_code
def yX6_init : MethodName := ⟨RX6, "<init>", "()V"⟩
abbrev cX6_clear : ByteArray := prog_8_method_2_code
def yX6_clear : MethodName := ⟨RX6, "clear", "()V"⟩
abbrev cX6_hasParty : ByteArray := prog_8_method_3_code
def yX6_hasParty : MethodName := ⟨RX6, "hasParty", "(I)Z"⟩
abbrev cX6_hasSitting : ByteArray := prog_8_method_4_code
def yX6_hasSitting : MethodName := ⟨RX6, "hasSitting", "(I)Z"⟩
abbrev cX6_numberOf : ByteArray := prog_8_method_5_code
def yX6_numberOf : MethodName := ⟨RX6, "numberOf", "(I)I"⟩
abbrev cX6_trait : ByteArray := prog_8_method_6_code
def yX6_trait : MethodName := ⟨RX6, "trait", "(II)I"⟩
abbrev cX6_mostTickets : ByteArray := prog_8_method_7_code
def yX6_mostTickets : MethodName := ⟨RX6, "mostTickets", "()I"⟩
abbrev cX6_persons : ByteArray := prog_8_method_8_code
def yX6_persons : MethodName := ⟨RX6, "persons", "()I"⟩
abbrev cX6_chosen : ByteArray := prog_8_method_9_code
def yX6_chosen : MethodName := ⟨RX6, "chosen", "(I[I)I"⟩
def RX7 : String := "ThreeSittings$Reader"
def TX7 : u_T := fun k => match k with
  | 0 => ("ThreeSittings$Reader", "tokens", "LThreeSittings$Tokens;", true)
  | 1 => ("ThreeSittings$Reader", "plan", "LThreeSittings$Plan;", false)
  | 2 => ("ThreeSittings$Reader", "at", "I", false)
  | 3 => ("ThreeSittings$Reader", "taken", "I", false)
  | 4 => ("ThreeSittings$Reader", "lines", "I", false)
  | 5 => ("ThreeSittings$Reader", "fault", "I", false)
  | _ => ("ThreeSittings$Reader", "faultPlace", "I", false)
def tyX7 : Nat → FieldType := fun k => match k with
  | 0 => .object "ThreeSittings$Tokens"
  | 1 => .object "ThreeSittings$Plan"
  | 2 => .int
  | 3 => .int
  | 4 => .int
  | 5 => .int
  | _ => .int
abbrev wsX70 : List Cond := u_ws RX7 TX7 7
theorem nmX7 : ∀ a, a < 7 → ∀ b, b < 7 → a ≠ b → (TX7 a).2.1 ≠ (TX7 b).2.1 := by decide +kernel
theorem tyX7_ok : ∀ k, k < 7 → parseFieldDescriptor (TX7 k).2.2.1 = some (tyX7 k) := by decide +kernel
abbrev cX7_init : ByteArray := prog_9_method_1_code
def yX7_init : MethodName := ⟨RX7, "<init>", "()V"⟩
abbrev cX7_read : ByteArray := prog_9_method_2_code
def yX7_read : MethodName := ⟨RX7, "read", "([BI)Z"⟩
abbrev cX7_kind : ByteArray := prog_9_method_3_code
def yX7_kind : MethodName := ⟨RX7, "kind", "()I"⟩
abbrev cX7_value : ByteArray := prog_9_method_4_code
def yX7_value : MethodName := ⟨RX7, "value", "()I"⟩
abbrev cX7_refuse : ByteArray := prog_9_method_5_code
def yX7_refuse : MethodName := ⟨RX7, "refuse", "(I)Z"⟩
abbrev cX7_expect : ByteArray := prog_9_method_6_code
def yX7_expect : MethodName := ⟨RX7, "expect", "(I)Z"⟩
abbrev cX7_readNumber : ByteArray := prog_9_method_7_code
def yX7_readNumber : MethodName := ⟨RX7, "readNumber", "(II)Z"⟩
abbrev cX7_readLine : ByteArray := prog_9_method_8_code
def yX7_readLine : MethodName := ⟨RX7, "readLine", "()Z"⟩
abbrev cX7_readParty : ByteArray := prog_9_method_9_code
def yX7_readParty : MethodName := ⟨RX7, "readParty", "()Z"⟩
abbrev cX7_readSitting : ByteArray := prog_9_method_10_code
def yX7_readSitting : MethodName := ⟨RX7, "readSitting", "()Z"⟩
abbrev cX7_readSetting : ByteArray := prog_9_method_11_code
def yX7_readSetting : MethodName := ⟨RX7, "readSetting", "(I)Z"⟩
abbrev cX7_readLaw : ByteArray := prog_9_method_12_code
def yX7_readLaw : MethodName := ⟨RX7, "readLaw", "()Z"⟩
abbrev cX7_readRank : ByteArray := prog_9_method_13_code
def yX7_readRank : MethodName := ⟨RX7, "readRank", "(II)Z"⟩
abbrev cX7_readPart : ByteArray := prog_9_method_14_code
def yX7_readPart : MethodName := ⟨RX7, "readPart", "(I)Z"⟩
abbrev cX7_takeKnot : ByteArray := prog_9_method_15_code
def yX7_takeKnot : MethodName := ⟨RX7, "takeKnot", "()Z"⟩
abbrev cX7_rankOf : ByteArray := prog_9_method_16_code
def yX7_rankOf : MethodName := ⟨RX7, "rankOf", "(I)I"⟩
def RX8 : String := "ThreeSittings$State"
def TX8 : u_T := fun k => match k with
  | 0 => ("ThreeSittings$State", "date", "I", false)
  | 1 => ("ThreeSittings$State", "number", "I", false)
  | 2 => ("ThreeSittings$State", "ticket", "[I", true)
  | 3 => ("ThreeSittings$State", "sign", "[I", true)
  | 4 => ("ThreeSittings$State", "price", "[I", true)
  | 5 => ("ThreeSittings$State", "meals", "[I", true)
  | 6 => ("ThreeSittings$State", "cross", "[I", true)
  | 7 => ("ThreeSittings$State", "away", "[I", true)
  | 8 => ("ThreeSittings$State", "hungry", "[I", true)
  | 9 => ("ThreeSittings$State", "glad", "I", false)
  | 10 => ("ThreeSittings$State", "hungryPersons", "I", false)
  | 11 => ("ThreeSittings$State", "paid", "I", false)
  | 12 => ("ThreeSittings$State", "seen", "Z", false)
  | 13 => ("ThreeSittings$State", "began", "[I", true)
  | 14 => ("ThreeSittings$State", "lateBy", "[I", true)
  | 15 => ("ThreeSittings$State", "sat", "[I", true)
  | 16 => ("ThreeSittings$State", "stood", "[I", true)
  | _ => ("ThreeSittings$State", "ended", "[I", true)
def tyX8 : Nat → FieldType := fun k => match k with
  | 0 => .int
  | 1 => .int
  | 2 => .array .int
  | 3 => .array .int
  | 4 => .array .int
  | 5 => .array .int
  | 6 => .array .int
  | 7 => .array .int
  | 8 => .array .int
  | 9 => .int
  | 10 => .int
  | 11 => .int
  | 12 => .boolean
  | 13 => .array .int
  | 14 => .array .int
  | 15 => .array .int
  | 16 => .array .int
  | _ => .array .int
abbrev wsX80 : List Cond := u_ws RX8 TX8 18
theorem nmX8 : ∀ a, a < 18 → ∀ b, b < 18 → a ≠ b → (TX8 a).2.1 ≠ (TX8 b).2.1 := by decide +kernel
theorem tyX8_ok : ∀ k, k < 18 → parseFieldDescriptor (TX8 k).2.2.1 = some (tyX8 k) := by decide +kernel
abbrev cX8_init : ByteArray := prog_10_method_1_code
def yX8_init : MethodName := ⟨RX8, "<init>", "()V"⟩
abbrev cX8_begin : ByteArray := prog_10_method_2_code
def yX8_begin : MethodName := ⟨RX8, "begin", "(LThreeSittings$Plan;)V"⟩
abbrev cX8_forgetSitting : ByteArray := prog_10_method_3_code
def yX8_forgetSitting : MethodName := ⟨RX8, "forgetSitting", "(I)V"⟩
abbrev cX8_copy : ByteArray := prog_10_method_4_code
def yX8_copy : MethodName := ⟨RX8, "copy", "(LThreeSittings$State;)V"⟩
abbrev cX8_personsFor : ByteArray := prog_10_method_5_code
def yX8_personsFor : MethodName := ⟨RX8, "personsFor", "(ILThreeSittings$Plan;)I"⟩
abbrev cX8_isAnyLate : ByteArray := prog_10_method_6_code
def yX8_isAnyLate : MethodName := ⟨RX8, "isAnyLate", "(I)Z"⟩
abbrev cX8_crossInAll : ByteArray := prog_10_method_7_code
def yX8_crossInAll : MethodName := ⟨RX8, "crossInAll", "()I"⟩
abbrev cX8_draw : ByteArray := prog_10_method_8_code
def yX8_draw : MethodName := ⟨RX8, "draw", "()I"⟩
def RX9 : String := "ThreeSittings$Tokens"
def TX9 : u_T := fun k => match k with
  | 0 => ("ThreeSittings$Tokens", "kind", "[I", true)
  | 1 => ("ThreeSittings$Tokens", "place", "[I", true)
  | 2 => ("ThreeSittings$Tokens", "value", "[I", true)
  | _ => ("ThreeSittings$Tokens", "count", "I", false)
def tyX9 : Nat → FieldType := fun k => match k with
  | 0 => .array .int
  | 1 => .array .int
  | 2 => .array .int
  | _ => .int
abbrev wsX90 : List Cond := u_ws RX9 TX9 4
theorem nmX9 : ∀ a, a < 4 → ∀ b, b < 4 → a ≠ b → (TX9 a).2.1 ≠ (TX9 b).2.1 := by decide +kernel
theorem tyX9_ok : ∀ k, k < 4 → parseFieldDescriptor (TX9 k).2.2.1 = some (tyX9 k) := by decide +kernel
abbrev cX9_init : ByteArray := prog_11_method_1_code
def yX9_init : MethodName := ⟨RX9, "<init>", "()V"⟩
abbrev cX9_split : ByteArray := prog_11_method_2_code
def yX9_split : MethodName := ⟨RX9, "split", "([BI)V"⟩
abbrev cX9_put : ByteArray := prog_11_method_3_code
def yX9_put : MethodName := ⟨RX9, "put", "(III)V"⟩
abbrev cX9_isDigit : ByteArray := prog_11_method_4_code
def yX9_isDigit : MethodName := ⟨RX9, "isDigit", "(I)Z"⟩
abbrev cX9_isLetter : ByteArray := prog_11_method_5_code
def yX9_isLetter : MethodName := ⟨RX9, "isLetter", "(I)Z"⟩
abbrev cX9_takeNumber : ByteArray := prog_11_method_6_code
def yX9_takeNumber : MethodName := ⟨RX9, "takeNumber", "([BII)I"⟩
abbrev cX9_takeWord : ByteArray := prog_11_method_7_code
def yX9_takeWord : MethodName := ⟨RX9, "takeWord", "([BII)I"⟩
abbrev cX9_wordOf : ByteArray := prog_11_method_8_code
def yX9_wordOf : MethodName := ⟨RX9, "wordOf", "([BII)I"⟩
abbrev cX9_isWordAt : ByteArray := prog_11_method_9_code
def yX9_isWordAt : MethodName := ⟨RX9, "isWordAt", "(I[BII)Z"⟩
abbrev cX9_packed : ByteArray := prog_11_method_10_code
def yX9_packed : MethodName := ⟨RX9, "packed", "([BII)I"⟩
abbrev cX9_takeSign : ByteArray := prog_11_method_11_code
def yX9_takeSign : MethodName := ⟨RX9, "takeSign", "(III)I"⟩
abbrev cX9_singleSign : ByteArray := prog_11_method_12_code
def yX9_singleSign : MethodName := ⟨RX9, "singleSign", "(I)I"⟩
abbrev cX9_pairSign : ByteArray := prog_11_method_13_code
def yX9_pairSign : MethodName := ⟨RX9, "pairSign", "(II)I"⟩
def RX10 : String := "ThreeSittings$Ways"
def TX10 : u_T := fun k => match k with
  | 0 => ("ThreeSittings$Ways", "drawn", "Z", false)
  | 1 => ("ThreeSittings$Ways", "allCome", "Z", false)
  | 2 => ("ThreeSittings$Ways", "noneStay", "Z", false)
  | 3 => ("ThreeSittings$Ways", "absentee", "I", false)
  | 4 => ("ThreeSittings$Ways", "lingerer", "I", false)
  | 5 => ("ThreeSittings$Ways", "moreSeats", "I", false)
  | 6 => ("ThreeSittings$Ways", "hands", "I", false)
  | _ => ("ThreeSittings$Ways", "shift", "[I", true)
def tyX10 : Nat → FieldType := fun k => match k with
  | 0 => .boolean
  | 1 => .boolean
  | 2 => .boolean
  | 3 => .int
  | 4 => .int
  | 5 => .int
  | 6 => .int
  | _ => .array .int
abbrev wsX100 : List Cond := u_ws RX10 TX10 8
theorem nmX10 : ∀ a, a < 8 → ∀ b, b < 8 → a ≠ b → (TX10 a).2.1 ≠ (TX10 b).2.1 := by decide +kernel
theorem tyX10_ok : ∀ k, k < 8 → parseFieldDescriptor (TX10 k).2.2.1 = some (tyX10 k) := by decide +kernel
abbrev cX10_init : ByteArray := prog_12_method_1_code
def yX10_init : MethodName := ⟨RX10, "<init>", "()V"⟩
abbrev cX10_reset : ByteArray := prog_12_method_2_code
def yX10_reset : MethodName := ⟨RX10, "reset", "()V"⟩
abbrev cX10_change : ByteArray := prog_12_method_3_code
def yX10_change : MethodName := ⟨RX10, "change", "(II)V"⟩
def RX11 : String := "ThreeSittings"
def TX11 : u_T := fun k => match k with
  | 0 => ("ThreeSittings", "tape", "[B", true)
  | 1 => ("ThreeSittings", "tapeLength", "I", false)
  | 2 => ("ThreeSittings", "reader", "LThreeSittings$Reader;", true)
  | 3 => ("ThreeSittings", "plan", "LThreeSittings$Plan;", false)
  | 4 => ("ThreeSittings", "now", "LThreeSittings$State;", true)
  | 5 => ("ThreeSittings", "image", "LThreeSittings$State;", true)
  | 6 => ("ThreeSittings", "hasImage", "Z", false)
  | 7 => ("ThreeSittings", "trial", "LThreeSittings$State;", true)
  | 8 => ("ThreeSittings", "car", "LThreeSittings$Car;", true)
  | 9 => ("ThreeSittings", "asItGoes", "LThreeSittings$Ways;", true)
  | 10 => ("ThreeSittings", "byChance", "LThreeSittings$Ways;", true)
  | 11 => ("ThreeSittings", "otherwise", "LThreeSittings$Ways;", true)
  | 12 => ("ThreeSittings", "history", "LThreeSittings$History;", true)
  | 13 => ("ThreeSittings", "notes", "LThreeSittings$Notes;", true)
  | 14 => ("ThreeSittings", "giving", "LThreeSittings$Giving;", true)
  | 15 => ("ThreeSittings", "levelling", "LThreeSittings$Levelling;", true)
  | _ => ("ThreeSittings", "parts", "[J", true)
def tyX11 : Nat → FieldType := fun k => match k with
  | 0 => .array .byte
  | 1 => .int
  | 2 => .object "ThreeSittings$Reader"
  | 3 => .object "ThreeSittings$Plan"
  | 4 => .object "ThreeSittings$State"
  | 5 => .object "ThreeSittings$State"
  | 6 => .boolean
  | 7 => .object "ThreeSittings$State"
  | 8 => .object "ThreeSittings$Car"
  | 9 => .object "ThreeSittings$Ways"
  | 10 => .object "ThreeSittings$Ways"
  | 11 => .object "ThreeSittings$Ways"
  | 12 => .object "ThreeSittings$History"
  | 13 => .object "ThreeSittings$Notes"
  | 14 => .object "ThreeSittings$Giving"
  | 15 => .object "ThreeSittings$Levelling"
  | _ => .array .long
abbrev wsX110 : List Cond := u_ws RX11 TX11 17
theorem nmX11 : ∀ a, a < 17 → ∀ b, b < 17 → a ≠ b → (TX11 a).2.1 ≠ (TX11 b).2.1 := by decide +kernel
theorem tyX11_ok : ∀ k, k < 17 → parseFieldDescriptor (TX11 k).2.2.1 = some (tyX11 k) := by decide +kernel
abbrev cX11_init : ByteArray := prog_1_method_1_code
def yX11_init : MethodName := ⟨RX11, "<init>", "()V"⟩
abbrev cX11_feed : ByteArray := prog_1_method_2_code
def yX11_feed : MethodName := ⟨RX11, "feed", "(IIIII)I"⟩
abbrev cX11_append : ByteArray := prog_1_method_3_code
def yX11_append : MethodName := ⟨RX11, "append", "(I)V"⟩
abbrev cX11_text : ByteArray := prog_1_method_4_code
def yX11_text : MethodName := ⟨RX11, "text", "(I)I"⟩
abbrev cX11_fault : ByteArray := prog_1_method_5_code
def yX11_fault : MethodName := ⟨RX11, "fault", "(I)I"⟩
abbrev cX11_named : ByteArray := prog_1_method_6_code
def yX11_named : MethodName := ⟨RX11, "named", "(I)I"⟩
abbrev cX11_party : ByteArray := prog_1_method_7_code
def yX11_party : MethodName := ⟨RX11, "party", "(II)I"⟩
abbrev cX11_wish : ByteArray := prog_1_method_8_code
def yX11_wish : MethodName := ⟨RX11, "wish", "(II)I"⟩
abbrev cX11_sitting : ByteArray := prog_1_method_9_code
def yX11_sitting : MethodName := ⟨RX11, "sitting", "(II)I"⟩
abbrev cX11_ofLatestDay : ByteArray := prog_1_method_10_code
def yX11_ofLatestDay : MethodName := ⟨RX11, "ofLatestDay", "(II)I"⟩
abbrev cX11_law : ByteArray := prog_1_method_11_code
def yX11_law : MethodName := ⟨RX11, "law", "(IIII)J"⟩
abbrev cX11_areSuch : ByteArray := prog_1_method_12_code
def yX11_areSuch : MethodName := ⟨RX11, "areSuch", "(II)Z"⟩
abbrev cX11_give : ByteArray := prog_1_method_13_code
def yX11_give : MethodName := ⟨RX11, "give", "(II)Z"⟩
abbrev cX11_sign : ByteArray := prog_1_method_14_code
def yX11_sign : MethodName := ⟨RX11, "sign", "(II)Z"⟩
abbrev cX11_price : ByteArray := prog_1_method_15_code
def yX11_price : MethodName := ⟨RX11, "price", "(II)Z"⟩
abbrev cX11_days : ByteArray := prog_1_method_16_code
def yX11_days : MethodName := ⟨RX11, "days", "(I)I"⟩
abbrev cX11_best : ByteArray := prog_1_method_17_code
def yX11_best : MethodName := ⟨RX11, "best", "(I)I"⟩
abbrev cX11_bestSum : ByteArray := prog_1_method_18_code
def yX11_bestSum : MethodName := ⟨RX11, "bestSum", "()I"⟩
abbrev cX11_findBest : ByteArray := prog_1_method_19_code
def yX11_findBest : MethodName := ⟨RX11, "findBest", "()V"⟩
abbrev cX11_likeNow : ByteArray := prog_1_method_20_code
def yX11_likeNow : MethodName := ⟨RX11, "likeNow", "(II)I"⟩
abbrev cX11_choice : ByteArray := prog_1_method_21_code
def yX11_choice : MethodName := ⟨RX11, "choice", "(I)I"⟩
abbrev cX11_level : ByteArray := prog_1_method_22_code
def yX11_level : MethodName := ⟨RX11, "level", "(I)I"⟩
abbrev cX11_crowd : ByteArray := prog_1_method_23_code
def yX11_crowd : MethodName := ⟨RX11, "crowd", "(II)J"⟩
abbrev cX11_mayCome : ByteArray := prog_1_method_24_code
def yX11_mayCome : MethodName := ⟨RX11, "mayCome", "(II)V"⟩
abbrev cX11_commonDivisor : ByteArray := prog_1_method_25_code
def yX11_commonDivisor : MethodName := ⟨RX11, "commonDivisor", "(JJ)J"⟩
abbrev cX11_late : ByteArray := prog_1_method_26_code
def yX11_late : MethodName := ⟨RX11, "late", "(I)I"⟩
abbrev cX11_tryToday : ByteArray := prog_1_method_27_code
def yX11_tryToday : MethodName := ⟨RX11, "tryToday", "(LThreeSittings$Ways;)V"⟩
abbrev cX11_catchUp : ByteArray := prog_1_method_28_code
def yX11_catchUp : MethodName := ⟨RX11, "catchUp", "(I)I"⟩
abbrev cX11_hands : ByteArray := prog_1_method_29_code
def yX11_hands : MethodName := ⟨RX11, "hands", "()I"⟩
abbrev cX11_empties : ByteArray := prog_1_method_30_code
def yX11_empties : MethodName := ⟨RX11, "empties", "(I)I"⟩
abbrev cX11_likes : ByteArray := prog_1_method_31_code
def yX11_likes : MethodName := ⟨RX11, "likes", "(II)I"⟩
abbrev cX11_stays : ByteArray := prog_1_method_32_code
def yX11_stays : MethodName := ⟨RX11, "stays", "(II)I"⟩
abbrev cX11_misses : ByteArray := prog_1_method_33_code
def yX11_misses : MethodName := ⟨RX11, "misses", "(II)I"⟩
abbrev cX11_mostCross : ByteArray := prog_1_method_34_code
def yX11_mostCross : MethodName := ⟨RX11, "mostCross", "(I)I"⟩
abbrev cX11_without : ByteArray := prog_1_method_35_code
def yX11_without : MethodName := ⟨RX11, "without", "()I"⟩
abbrev cX11_swap : ByteArray := prog_1_method_36_code
def yX11_swap : MethodName := ⟨RX11, "swap", "(I)I"⟩
abbrev cX11_wouldSwap : ByteArray := prog_1_method_37_code
def yX11_wouldSwap : MethodName := ⟨RX11, "wouldSwap", "(II)Z"⟩
abbrev cX11_later : ByteArray := prog_1_method_38_code
def yX11_later : MethodName := ⟨RX11, "later", "(I)I"⟩
abbrev cX11_rests : ByteArray := prog_1_method_39_code
def yX11_rests : MethodName := ⟨RX11, "rests", "(II)I"⟩
abbrev cX11_rest : ByteArray := prog_1_method_40_code
def yX11_rest : MethodName := ⟨RX11, "rest", "(III)I"⟩
abbrev cX11_areTwo : ByteArray := prog_1_method_41_code
def yX11_areTwo : MethodName := ⟨RX11, "areTwo", "(II)Z"⟩
abbrev cX11_isRest : ByteArray := prog_1_method_42_code
def yX11_isRest : MethodName := ⟨RX11, "isRest", "(IIII)Z"⟩
abbrev cX11_gain : ByteArray := prog_1_method_43_code
def yX11_gain : MethodName := ⟨RX11, "gain", "(IIII)I"⟩
abbrev cX11_note : ByteArray := prog_1_method_44_code
def yX11_note : MethodName := ⟨RX11, "note", "(IIZ)I"⟩
abbrev cX11_out : ByteArray := prog_1_method_45_code
def yX11_out : MethodName := ⟨RX11, "out", "(I)I"⟩
abbrev cX11_known : ByteArray := prog_1_method_46_code
def yX11_known : MethodName := ⟨RX11, "known", "(I)Z"⟩
abbrev cX11_lingered : ByteArray := prog_1_method_47_code
def yX11_lingered : MethodName := ⟨RX11, "lingered", "()I"⟩
abbrev cX11_chance : ByteArray := prog_1_method_48_code
def yX11_chance : MethodName := ⟨RX11, "chance", "(III)I"⟩
abbrev cX11_tried : ByteArray := prog_1_method_49_code
def yX11_tried : MethodName := ⟨RX11, "tried", "(III)I"⟩
abbrev cX11_undo : ByteArray := prog_1_method_50_code
def yX11_undo : MethodName := ⟨RX11, "undo", "()I"⟩
abbrev cX11_keep : ByteArray := prog_1_method_51_code
def yX11_keep : MethodName := ⟨RX11, "keep", "()I"⟩
abbrev cX11_back : ByteArray := prog_1_method_52_code
def yX11_back : MethodName := ⟨RX11, "back", "()I"⟩
abbrev cX11_count : ByteArray := prog_1_method_53_code
def yX11_count : MethodName := ⟨RX11, "count", "(I)I"⟩
def RX12 : String := "ThreeSittingsModel"
def TX12 : u_T := fun k => match k with
  | 0 => ("ThreeSittingsModel", "thrown", "I", false)
  | 1 => ("ThreeSittingsModel", "tape", "[I", true)
  | 2 => ("ThreeSittingsModel", "taped", "I", false)
  | 3 => ("ThreeSittingsModel", "number", "[I", true)
  | 4 => ("ThreeSittingsModel", "partyName", "[I", true)
  | 5 => ("ThreeSittingsModel", "sizeOf", "[I", true)
  | 6 => ("ThreeSittingsModel", "wishOf", "[I", true)
  | 7 => ("ThreeSittingsModel", "offAt", "[I", true)
  | 8 => ("ThreeSittingsModel", "coffeeOf", "[I", true)
  | 9 => ("ThreeSittingsModel", "absentOf", "[I", true)
  | 10 => ("ThreeSittingsModel", "minuteOf", "[I", true)
  | 11 => ("ThreeSittingsModel", "priceAs", "[I", true)
  | 12 => ("ThreeSittingsModel", "sumFrom", "[I", true)
  | 13 => ("ThreeSittingsModel", "sumTo", "[I", true)
  | 14 => ("ThreeSittingsModel", "knotSort", "[I", true)
  | 15 => ("ThreeSittingsModel", "knotValue", "[I", true)
  | 16 => ("ThreeSittingsModel", "told", "I", false)
  | 17 => ("ThreeSittingsModel", "lines", "I", false)
  | 18 => ("ThreeSittingsModel", "size", "I", false)
  | 19 => ("ThreeSittingsModel", "at", "I", false)
  | 20 => ("ThreeSittingsModel", "place", "I", false)
  | 21 => ("ThreeSittingsModel", "sort", "I", false)
  | 22 => ("ThreeSittingsModel", "value", "I", false)
  | 23 => ("ThreeSittingsModel", "fault", "I", false)
  | 24 => ("ThreeSittingsModel", "faultPlace", "I", false)
  | 25 => ("ThreeSittingsModel", "lastFault", "I", false)
  | 26 => ("ThreeSittingsModel", "lastPlace", "I", false)
  | 27 => ("ThreeSittingsModel", "open", "I", false)
  | 28 => ("ThreeSittingsModel", "counted", "I", false)
  | 29 => ("ThreeSittingsModel", "names", "[J", true)
  | 30 => ("ThreeSittingsModel", "worked", "[J", true)
  | 31 => ("ThreeSittingsModel", "workedMany", "I", false)
  | 32 => ("ThreeSittingsModel", "date", "[I", true)
  | 33 => ("ThreeSittingsModel", "glad", "[I", true)
  | 34 => ("ThreeSittingsModel", "hungry", "[I", true)
  | 35 => ("ThreeSittingsModel", "paid", "[I", true)
  | 36 => ("ThreeSittingsModel", "drawn", "[I", true)
  | 37 => ("ThreeSittingsModel", "ticket", "[I", true)
  | 38 => ("ThreeSittingsModel", "meals", "[I", true)
  | 39 => ("ThreeSittingsModel", "cross", "[I", true)
  | 40 => ("ThreeSittingsModel", "away", "[I", true)
  | 41 => ("ThreeSittingsModel", "unfed", "[I", true)
  | 42 => ("ThreeSittingsModel", "sign", "[I", true)
  | 43 => ("ThreeSittingsModel", "price", "[I", true)
  | 44 => ("ThreeSittingsModel", "began", "[I", true)
  | 45 => ("ThreeSittingsModel", "satAt", "[I", true)
  | 46 => ("ThreeSittingsModel", "stoodAt", "[I", true)
  | 47 => ("ThreeSittingsModel", "endedAt", "[I", true)
  | 48 => ("ThreeSittingsModel", "hasImage", "Z", false)
  | 49 => ("ThreeSittingsModel", "undoMany", "I", false)
  | 50 => ("ThreeSittingsModel", "tryWhat", "I", false)
  | 51 => ("ThreeSittingsModel", "tryParty", "I", false)
  | 52 => ("ThreeSittingsModel", "tryHands", "I", false)
  | 53 => ("ThreeSittingsModel", "lingerer", "I", false)
  | 54 => ("ThreeSittingsModel", "moved", "[I", true)
  | 55 => ("ThreeSittingsModel", "standing", "I", false)
  | 56 => ("ThreeSittingsModel", "left", "I", false)
  | 57 => ("ThreeSittingsModel", "ends", "I", false)
  | 58 => ("ThreeSittingsModel", "room", "[I", true)
  | 59 => ("ThreeSittingsModel", "row", "[I", true)
  | 60 => ("ThreeSittingsModel", "bestRow", "[I", true)
  | 61 => ("ThreeSittingsModel", "bestLike", "I", false)
  | 62 => ("ThreeSittingsModel", "asked", "[I", true)
  | 63 => ("ThreeSittingsModel", "holders", "[I", true)
  | 64 => ("ThreeSittingsModel", "notes", "I", false)
  | 65 => ("ThreeSittingsModel", "knownBy", "I", false)
  | 66 => ("ThreeSittingsModel", "noteSitting", "[I", true)
  | 67 => ("ThreeSittingsModel", "noteLate", "[I", true)
  | 68 => ("ThreeSittingsModel", "noteAtLeast", "[Z", true)
  | 69 => ("ThreeSittingsModel", "outs", "[I", true)
  | _ => ("ThreeSittingsModel", "isOut", "[Z", true)
def tyX12 : Nat → FieldType := fun k => match k with
  | 0 => .int
  | 1 => .array .int
  | 2 => .int
  | 3 => .array .int
  | 4 => .array .int
  | 5 => .array .int
  | 6 => .array .int
  | 7 => .array .int
  | 8 => .array .int
  | 9 => .array .int
  | 10 => .array .int
  | 11 => .array .int
  | 12 => .array .int
  | 13 => .array .int
  | 14 => .array .int
  | 15 => .array .int
  | 16 => .int
  | 17 => .int
  | 18 => .int
  | 19 => .int
  | 20 => .int
  | 21 => .int
  | 22 => .int
  | 23 => .int
  | 24 => .int
  | 25 => .int
  | 26 => .int
  | 27 => .int
  | 28 => .int
  | 29 => .array .long
  | 30 => .array .long
  | 31 => .int
  | 32 => .array .int
  | 33 => .array .int
  | 34 => .array .int
  | 35 => .array .int
  | 36 => .array .int
  | 37 => .array .int
  | 38 => .array .int
  | 39 => .array .int
  | 40 => .array .int
  | 41 => .array .int
  | 42 => .array .int
  | 43 => .array .int
  | 44 => .array .int
  | 45 => .array .int
  | 46 => .array .int
  | 47 => .array .int
  | 48 => .boolean
  | 49 => .int
  | 50 => .int
  | 51 => .int
  | 52 => .int
  | 53 => .int
  | 54 => .array .int
  | 55 => .int
  | 56 => .int
  | 57 => .int
  | 58 => .array .int
  | 59 => .array .int
  | 60 => .array .int
  | 61 => .int
  | 62 => .array .int
  | 63 => .array .int
  | 64 => .int
  | 65 => .int
  | 66 => .array .int
  | 67 => .array .int
  | 68 => .array .boolean
  | 69 => .array .int
  | _ => .array .boolean
abbrev wsX120 : List Cond := u_ws RX12 TX12 71
theorem nmX12 : ∀ a, a < 71 → ∀ b, b < 71 → a ≠ b → (TX12 a).2.1 ≠ (TX12 b).2.1 := by decide +kernel
theorem tyX12_ok : ∀ k, k < 71 → parseFieldDescriptor (TX12 k).2.2.1 = some (tyX12 k) := by decide +kernel
abbrev cX12_init : ByteArray := prog_14_method_1_code
def yX12_init : MethodName := ⟨RX12, "<init>", "()V"⟩
abbrev cX12_thrown : ByteArray := prog_14_method_2_code
def yX12_thrown : MethodName := ⟨RX12, "thrown", "()I"⟩
abbrev cX12_feed : ByteArray := prog_14_method_3_code
def yX12_feed : MethodName := ⟨RX12, "feed", "(IIIII)I"⟩
abbrev cX12_here : ByteArray := prog_14_method_4_code
def yX12_here : MethodName := ⟨RX12, "here", "()I"⟩
abbrev cX12_isSmall : ByteArray := prog_14_method_5_code
def yX12_isSmall : MethodName := ⟨RX12, "isSmall", "(I)Z"⟩
abbrev cX12_isDigit : ByteArray := prog_14_method_6_code
def yX12_isDigit : MethodName := ⟨RX12, "isDigit", "(I)Z"⟩
abbrev cX12_token : ByteArray := prog_14_method_7_code
def yX12_token : MethodName := ⟨RX12, "token", "()V"⟩
abbrev cX12_sign : ByteArray := prog_14_method_8_code
def yX12_sign : MethodName := ⟨RX12, "sign", "(I)V"⟩
abbrev cX12_word : ByteArray := prog_14_method_9_code
def yX12_word : MethodName := ⟨RX12, "word", "()I"⟩
abbrev cX12_name : ByteArray := prog_14_method_10_code
def yX12_name : MethodName := ⟨RX12, "name", "()V"⟩
abbrev cX12_wrong : ByteArray := prog_14_method_11_code
def yX12_wrong : MethodName := ⟨RX12, "wrong", "(I)V"⟩
abbrev cX12_isWord : ByteArray := prog_14_method_12_code
def yX12_isWord : MethodName := ⟨RX12, "isWord", "(I)Z"⟩
abbrev cX12_isSign : ByteArray := prog_14_method_13_code
def yX12_isSign : MethodName := ⟨RX12, "isSign", "(I)Z"⟩
abbrev cX12_goOn : ByteArray := prog_14_method_14_code
def yX12_goOn : MethodName := ⟨RX12, "goOn", "()V"⟩
abbrev cX12_numeral : ByteArray := prog_14_method_15_code
def yX12_numeral : MethodName := ⟨RX12, "numeral", "(II)I"⟩
abbrev cX12_found : ByteArray := prog_14_method_16_code
def yX12_found : MethodName := ⟨RX12, "found", "([IIII)I"⟩
abbrev cX12_fresh : ByteArray := prog_14_method_17_code
def yX12_fresh : MethodName := ⟨RX12, "fresh", "([III)I"⟩
abbrev cX12_fresher : ByteArray := prog_14_method_18_code
def yX12_fresher : MethodName := ⟨RX12, "fresher", "(I)I"⟩
abbrev cX12_reads : ByteArray := prog_14_method_19_code
def yX12_reads : MethodName := ⟨RX12, "reads", "(II)V"⟩
abbrev cX12_line : ByteArray := prog_14_method_20_code
def yX12_line : MethodName := ⟨RX12, "line", "()V"⟩
abbrev cX12_partyLine : ByteArray := prog_14_method_21_code
def yX12_partyLine : MethodName := ⟨RX12, "partyLine", "(I)V"⟩
abbrev cX12_lawLine : ByteArray := prog_14_method_22_code
def yX12_lawLine : MethodName := ⟨RX12, "lawLine", "()V"⟩
abbrev cX12_puts : ByteArray := prog_14_method_23_code
def yX12_puts : MethodName := ⟨RX12, "puts", "(II)V"⟩
abbrev cX12_knot : ByteArray := prog_14_method_24_code
def yX12_knot : MethodName := ⟨RX12, "knot", "()V"⟩
abbrev cX12_expression : ByteArray := prog_14_method_25_code
def yX12_expression : MethodName := ⟨RX12, "expression", "()V"⟩
abbrev cX12_conjunction : ByteArray := prog_14_method_26_code
def yX12_conjunction : MethodName := ⟨RX12, "conjunction", "()V"⟩
abbrev cX12_negation : ByteArray := prog_14_method_27_code
def yX12_negation : MethodName := ⟨RX12, "negation", "()V"⟩
abbrev cX12_sum : ByteArray := prog_14_method_28_code
def yX12_sum : MethodName := ⟨RX12, "sum", "()V"⟩
abbrev cX12_product : ByteArray := prog_14_method_29_code
def yX12_product : MethodName := ⟨RX12, "product", "()V"⟩
abbrev cX12_primary : ByteArray := prog_14_method_30_code
def yX12_primary : MethodName := ⟨RX12, "primary", "()V"⟩
abbrev cX12_half : ByteArray := prog_14_method_31_code
def yX12_half : MethodName := ⟨RX12, "half", "([I)V"⟩
abbrev cX12_text : ByteArray := prog_14_method_32_code
def yX12_text : MethodName := ⟨RX12, "text", "(I)I"⟩
abbrev cX12_fault : ByteArray := prog_14_method_33_code
def yX12_fault : MethodName := ⟨RX12, "fault", "(I)I"⟩
abbrev cX12_named : ByteArray := prog_14_method_34_code
def yX12_named : MethodName := ⟨RX12, "named", "(I)I"⟩
abbrev cX12_is : ByteArray := prog_14_method_35_code
def yX12_is : MethodName := ⟨RX12, "is", "(Z)J"⟩
abbrev cX12_works : ByteArray := prog_14_method_36_code
def yX12_works : MethodName := ⟨RX12, "works", "(I)Z"⟩
abbrev cX12_goes : ByteArray := prog_14_method_37_code
def yX12_goes : MethodName := ⟨RX12, "goes", "(I)Z"⟩
abbrev cX12_hasLaw : ByteArray := prog_14_method_38_code
def yX12_hasLaw : MethodName := ⟨RX12, "hasLaw", "(I)Z"⟩
abbrev cX12_begins : ByteArray := prog_14_method_39_code
def yX12_begins : MethodName := ⟨RX12, "begins", "()V"⟩
abbrev cX12_copies : ByteArray := prog_14_method_40_code
def yX12_copies : MethodName := ⟨RX12, "copies", "(II)V"⟩
abbrev cX12_isParty : ByteArray := prog_14_method_41_code
def yX12_isParty : MethodName := ⟨RX12, "isParty", "(I)Z"⟩
abbrev cX12_isSitting : ByteArray := prog_14_method_42_code
def yX12_isSitting : MethodName := ⟨RX12, "isSitting", "(I)Z"⟩
abbrev cX12_coffeeIn : ByteArray := prog_14_method_43_code
def yX12_coffeeIn : MethodName := ⟨RX12, "coffeeIn", "(I)I"⟩
abbrev cX12_calls : ByteArray := prog_14_method_44_code
def yX12_calls : MethodName := ⟨RX12, "calls", "(IIII)V"⟩
abbrev cX12_within : ByteArray := prog_14_method_45_code
def yX12_within : MethodName := ⟨RX12, "within", "(III)I"⟩
abbrev cX12_likeOf : ByteArray := prog_14_method_46_code
def yX12_likeOf : MethodName := ⟨RX12, "likeOf", "(IIII)I"⟩
abbrev cX12_stayOf : ByteArray := prog_14_method_47_code
def yX12_stayOf : MethodName := ⟨RX12, "stayOf", "(IIII)I"⟩
abbrev cX12_missOf : ByteArray := prog_14_method_48_code
def yX12_missOf : MethodName := ⟨RX12, "missOf", "(IIII)I"⟩
abbrev cX12_seatsOf : ByteArray := prog_14_method_49_code
def yX12_seatsOf : MethodName := ⟨RX12, "seatsOf", "()I"⟩
abbrev cX12_handsOf : ByteArray := prog_14_method_50_code
def yX12_handsOf : MethodName := ⟨RX12, "handsOf", "()I"⟩
abbrev cX12_comes : ByteArray := prog_14_method_51_code
def yX12_comes : MethodName := ⟨RX12, "comes", "(IIZ)Z"⟩
abbrev cX12_takesSeat : ByteArray := prog_14_method_52_code
def yX12_takesSeat : MethodName := ⟨RX12, "takesSeat", "(IIII)V"⟩
abbrev cX12_sits : ByteArray := prog_14_method_53_code
def yX12_sits : MethodName := ⟨RX12, "sits", "(IIZI)V"⟩
abbrev cX12_passes : ByteArray := prog_14_method_54_code
def yX12_passes : MethodName := ⟨RX12, "passes", "(IZ)V"⟩
abbrev cX12_lateIn : ByteArray := prog_14_method_55_code
def yX12_lateIn : MethodName := ⟨RX12, "lateIn", "(II)I"⟩
abbrev cX12_today : ByteArray := prog_14_method_56_code
def yX12_today : MethodName := ⟨RX12, "today", "()V"⟩
abbrev cX12_withTicket : ByteArray := prog_14_method_57_code
def yX12_withTicket : MethodName := ⟨RX12, "withTicket", "(I)I"⟩
abbrev cX12_party : ByteArray := prog_14_method_58_code
def yX12_party : MethodName := ⟨RX12, "party", "(II)I"⟩
abbrev cX12_wish : ByteArray := prog_14_method_59_code
def yX12_wish : MethodName := ⟨RX12, "wish", "(II)I"⟩
abbrev cX12_sitting : ByteArray := prog_14_method_60_code
def yX12_sitting : MethodName := ⟨RX12, "sitting", "(II)I"⟩
abbrev cX12_law : ByteArray := prog_14_method_61_code
def yX12_law : MethodName := ⟨RX12, "law", "(IIII)J"⟩
abbrev cX12_keepNow : ByteArray := prog_14_method_62_code
def yX12_keepNow : MethodName := ⟨RX12, "keepNow", "()V"⟩
abbrev cX12_give : ByteArray := prog_14_method_63_code
def yX12_give : MethodName := ⟨RX12, "give", "(II)Z"⟩
abbrev cX12_sign_ : ByteArray := prog_14_method_64_code
def yX12_sign_ : MethodName := ⟨RX12, "sign", "(II)Z"⟩
abbrev cX12_price : ByteArray := prog_14_method_65_code
def yX12_price : MethodName := ⟨RX12, "price", "(II)Z"⟩
abbrev cX12_days : ByteArray := prog_14_method_66_code
def yX12_days : MethodName := ⟨RX12, "days", "(I)I"⟩
abbrev cX12_empties : ByteArray := prog_14_method_67_code
def yX12_empties : MethodName := ⟨RX12, "empties", "(I)I"⟩
abbrev cX12_likes : ByteArray := prog_14_method_68_code
def yX12_likes : MethodName := ⟨RX12, "likes", "(II)I"⟩
abbrev cX12_stays : ByteArray := prog_14_method_69_code
def yX12_stays : MethodName := ⟨RX12, "stays", "(II)I"⟩
abbrev cX12_misses : ByteArray := prog_14_method_70_code
def yX12_misses : MethodName := ⟨RX12, "misses", "(II)I"⟩
abbrev cX12_mostCross : ByteArray := prog_14_method_71_code
def yX12_mostCross : MethodName := ⟨RX12, "mostCross", "(I)I"⟩
abbrev cX12_without : ByteArray := prog_14_method_72_code
def yX12_without : MethodName := ⟨RX12, "without", "()I"⟩
abbrev cX12_mayHave : ByteArray := prog_14_method_73_code
def yX12_mayHave : MethodName := ⟨RX12, "mayHave", "(II)Z"⟩
abbrev cX12_rows : ByteArray := prog_14_method_74_code
def yX12_rows : MethodName := ⟨RX12, "rows", "(II)V"⟩
abbrev cX12_layBest : ByteArray := prog_14_method_75_code
def yX12_layBest : MethodName := ⟨RX12, "layBest", "()V"⟩
abbrev cX12_best : ByteArray := prog_14_method_76_code
def yX12_best : MethodName := ⟨RX12, "best", "(I)I"⟩
abbrev cX12_bestSum : ByteArray := prog_14_method_77_code
def yX12_bestSum : MethodName := ⟨RX12, "bestSum", "()I"⟩
abbrev cX12_choiceOf : ByteArray := prog_14_method_78_code
def yX12_choiceOf : MethodName := ⟨RX12, "choiceOf", "(I)I"⟩
abbrev cX12_choice : ByteArray := prog_14_method_79_code
def yX12_choice : MethodName := ⟨RX12, "choice", "(I)I"⟩
abbrev cX12_isLevel : ByteArray := prog_14_method_80_code
def yX12_isLevel : MethodName := ⟨RX12, "isLevel", "()Z"⟩
abbrev cX12_level : ByteArray := prog_14_method_81_code
def yX12_level : MethodName := ⟨RX12, "level", "(I)I"⟩
abbrev cX12_layCode : ByteArray := prog_14_method_82_code
def yX12_layCode : MethodName := ⟨RX12, "layCode", "(I)I"⟩
abbrev cX12_common : ByteArray := prog_14_method_83_code
def yX12_common : MethodName := ⟨RX12, "common", "(JJ)J"⟩
abbrev cX12_crowd : ByteArray := prog_14_method_84_code
def yX12_crowd : MethodName := ⟨RX12, "crowd", "(II)J"⟩
abbrev cX12_late : ByteArray := prog_14_method_85_code
def yX12_late : MethodName := ⟨RX12, "late", "(I)I"⟩
abbrev cX12_catchUp : ByteArray := prog_14_method_86_code
def yX12_catchUp : MethodName := ⟨RX12, "catchUp", "(I)I"⟩
abbrev cX12_isAnyLate : ByteArray := prog_14_method_87_code
def yX12_isAnyLate : MethodName := ⟨RX12, "isAnyLate", "()Z"⟩
abbrev cX12_hands : ByteArray := prog_14_method_88_code
def yX12_hands : MethodName := ⟨RX12, "hands", "()I"⟩
abbrev cX12_later : ByteArray := prog_14_method_89_code
def yX12_later : MethodName := ⟨RX12, "later", "(I)I"⟩
abbrev cX12_swap : ByteArray := prog_14_method_90_code
def yX12_swap : MethodName := ⟨RX12, "swap", "(I)I"⟩
abbrev cX12_gains : ByteArray := prog_14_method_91_code
def yX12_gains : MethodName := ⟨RX12, "gains", "(II)Z"⟩
abbrev cX12_fits : ByteArray := prog_14_method_92_code
def yX12_fits : MethodName := ⟨RX12, "fits", "(II)Z"⟩
abbrev cX12_has : ByteArray := prog_14_method_93_code
def yX12_has : MethodName := ⟨RX12, "has", "(IIII)I"⟩
abbrev cX12_isRest : ByteArray := prog_14_method_94_code
def yX12_isRest : MethodName := ⟨RX12, "isRest", "(IIII)Z"⟩
abbrev cX12_restOf : ByteArray := prog_14_method_95_code
def yX12_restOf : MethodName := ⟨RX12, "restOf", "(III)I"⟩
abbrev cX12_areTwo : ByteArray := prog_14_method_96_code
def yX12_areTwo : MethodName := ⟨RX12, "areTwo", "(II)Z"⟩
abbrev cX12_rests : ByteArray := prog_14_method_97_code
def yX12_rests : MethodName := ⟨RX12, "rests", "(II)I"⟩
abbrev cX12_rest : ByteArray := prog_14_method_98_code
def yX12_rest : MethodName := ⟨RX12, "rest", "(III)I"⟩
abbrev cX12_note : ByteArray := prog_14_method_99_code
def yX12_note : MethodName := ⟨RX12, "note", "(IIZ)I"⟩
abbrev cX12_out : ByteArray := prog_14_method_100_code
def yX12_out : MethodName := ⟨RX12, "out", "(I)I"⟩
abbrev cX12_known : ByteArray := prog_14_method_101_code
def yX12_known : MethodName := ⟨RX12, "known", "(I)Z"⟩
abbrev cX12_knownMany : ByteArray := prog_14_method_102_code
def yX12_knownMany : MethodName := ⟨RX12, "knownMany", "()I"⟩
abbrev cX12_isLinger : ByteArray := prog_14_method_103_code
def yX12_isLinger : MethodName := ⟨RX12, "isLinger", "(I)Z"⟩
abbrev cX12_lingered : ByteArray := prog_14_method_104_code
def yX12_lingered : MethodName := ⟨RX12, "lingered", "()I"⟩
abbrev cX12_chance : ByteArray := prog_14_method_105_code
def yX12_chance : MethodName := ⟨RX12, "chance", "(III)I"⟩
abbrev cX12_tried : ByteArray := prog_14_method_106_code
def yX12_tried : MethodName := ⟨RX12, "tried", "(III)I"⟩
abbrev cX12_undo : ByteArray := prog_14_method_107_code
def yX12_undo : MethodName := ⟨RX12, "undo", "()I"⟩
abbrev cX12_keep : ByteArray := prog_14_method_108_code
def yX12_keep : MethodName := ⟨RX12, "keep", "()I"⟩
abbrev cX12_back : ByteArray := prog_14_method_109_code
def yX12_back : MethodName := ⟨RX12, "back", "()I"⟩
abbrev cX12_count : ByteArray := prog_14_method_110_code
def yX12_count : MethodName := ⟨RX12, "count", "(I)I"⟩
def RJx145de : String := "java/io/Serializable"
def TJx145de : u_T := fun k => match k with
  | _ => ("", "", "", false)
def tyJx145de : Nat → FieldType := fun k => match k with
  | _ => .int
abbrev wsJx145de0 : List Cond := u_ws RJx145de TJx145de 0
theorem nmJx145de : ∀ a, a < 0 → ∀ b, b < 0 → a ≠ b → (TJx145de a).2.1 ≠ (TJx145de b).2.1 := by decide +kernel
theorem tyJx145de_ok : ∀ k, k < 0 → parseFieldDescriptor (TJx145de k).2.2.1 = some (tyJx145de k) := by decide +kernel
def RJx9f9b0 : String := "java/lang/CharSequence"
def TJx9f9b0 : u_T := fun k => match k with
  | _ => ("", "", "", false)
def tyJx9f9b0 : Nat → FieldType := fun k => match k with
  | _ => .int
abbrev wsJx9f9b00 : List Cond := u_ws RJx9f9b0 TJx9f9b0 0
theorem nmJx9f9b0 : ∀ a, a < 0 → ∀ b, b < 0 → a ≠ b → (TJx9f9b0 a).2.1 ≠ (TJx9f9b0 b).2.1 := by decide +kernel
theorem tyJx9f9b0_ok : ∀ k, k < 0 → parseFieldDescriptor (TJx9f9b0 k).2.2.1 = some (tyJx9f9b0 k) := by decide +kernel
def RJxb160c : String := "java/lang/Comparable"
def TJxb160c : u_T := fun k => match k with
  | _ => ("", "", "", false)
def tyJxb160c : Nat → FieldType := fun k => match k with
  | _ => .int
abbrev wsJxb160c0 : List Cond := u_ws RJxb160c TJxb160c 0
theorem nmJxb160c : ∀ a, a < 0 → ∀ b, b < 0 → a ≠ b → (TJxb160c a).2.1 ≠ (TJxb160c b).2.1 := by decide +kernel
theorem tyJxb160c_ok : ∀ k, k < 0 → parseFieldDescriptor (TJxb160c k).2.2.1 = some (tyJxb160c k) := by decide +kernel
def RJ9 : String := "java/lang/Math"
def TJ9 : u_T := fun k => match k with
  | _ => ("", "", "", false)
def tyJ9 : Nat → FieldType := fun k => match k with
  | _ => .int
abbrev wsJ90 : List Cond := u_ws RJ9 TJ9 0
theorem nmJ9 : ∀ a, a < 0 → ∀ b, b < 0 → a ≠ b → (TJ9 a).2.1 ≠ (TJ9 b).2.1 := by decide +kernel
theorem tyJ9_ok : ∀ k, k < 0 → parseFieldDescriptor (TJ9 k).2.2.1 = some (tyJ9 k) := by decide +kernel
abbrev cJ9_abs_067f4 : ByteArray := prog_20_method_61_code
def yJ9_abs_067f4 : MethodName := ⟨RJ9, "abs", "(J)J"⟩
abbrev cJ9_max_7cf53 : ByteArray := prog_20_method_65_code
def yJ9_max_7cf53 : MethodName := ⟨RJ9, "max", "(II)I"⟩
abbrev cJ9_max_f86c9 : ByteArray := prog_20_method_66_code
def yJ9_max_f86c9 : MethodName := ⟨RJ9, "max", "(JJ)J"⟩
abbrev cJ9_min_7cf53 : ByteArray := prog_20_method_69_code
def yJ9_min_7cf53 : MethodName := ⟨RJ9, "min", "(II)I"⟩
abbrev cJ9_min_f86c9 : ByteArray := prog_20_method_70_code
def yJ9_min_f86c9 : MethodName := ⟨RJ9, "min", "(JJ)J"⟩
def RJ0 : String := "java/lang/String"
def TJ0 : u_T := fun k => match k with
  | _ => ("", "", "", false)
def tyJ0 : Nat → FieldType := fun k => match k with
  | _ => .int
abbrev wsJ00 : List Cond := u_ws RJ0 TJ0 0
theorem nmJ0 : ∀ a, a < 0 → ∀ b, b < 0 → a ≠ b → (TJ0 a).2.1 ≠ (TJ0 b).2.1 := by decide +kernel
theorem tyJ0_ok : ∀ k, k < 0 → parseFieldDescriptor (TJ0 k).2.2.1 = some (tyJ0 k) := by decide +kernel
abbrev cJ0_length_8abf5 : ByteArray := prog_22_method_54_code
def yJ0_length_8abf5 : MethodName := ⟨RJ0, "length", "()I"⟩
abbrev cJ0_charAt_5068e : ByteArray := prog_22_method_56_code
def yJ0_charAt_5068e : MethodName := ⟨RJ0, "charAt", "(I)C"⟩
abbrev cJ0_coder_7d493 : ByteArray := prog_22_method_152_code
def yJ0_coder_7d493 : MethodName := ⟨RJ0, "coder", "()B"⟩
abbrev cJ0_isLatin1_aae02 : ByteArray := prog_22_method_154_code
def yJ0_isLatin1_aae02 : MethodName := ⟨RJ0, "isLatin1", "()Z"⟩
abbrev cJ0_checkIndex_df160 : ByteArray := prog_22_method_155_code
def yJ0_checkIndex_df160 : MethodName := ⟨RJ0, "checkIndex", "(II)V"⟩
def RJ1 : String := "java/lang/StringLatin1"
def TJ1 : u_T := fun k => match k with
  | _ => ("", "", "", false)
def tyJ1 : Nat → FieldType := fun k => match k with
  | _ => .int
abbrev wsJ10 : List Cond := u_ws RJ1 TJ1 0
theorem nmJ1 : ∀ a, a < 0 → ∀ b, b < 0 → a ≠ b → (TJ1 a).2.1 ≠ (TJ1 b).2.1 := by decide +kernel
theorem tyJ1_ok : ∀ k, k < 0 → parseFieldDescriptor (TJ1 k).2.2.1 = some (tyJ1 k) := by decide +kernel
abbrev cJ1_charAt_3b067 : ByteArray := prog_23_method_2_code
def yJ1_charAt_3b067 : MethodName := ⟨RJ1, "charAt", "([BI)C"⟩
def RJ2 : String := "java/lang/StringUTF16"
def TJ2 : u_T := fun k => match k with
  | _ => ("", "", "", false)
def tyJ2 : Nat → FieldType := fun k => match k with
  | _ => .int
abbrev wsJ20 : List Cond := u_ws RJ2 TJ2 0
theorem nmJ2 : ∀ a, a < 0 → ∀ b, b < 0 → a ≠ b → (TJ2 a).2.1 ≠ (TJ2 b).2.1 := by decide +kernel
theorem tyJ2_ok : ∀ k, k < 0 → parseFieldDescriptor (TJ2 k).2.2.1 = some (tyJ2 k) := by decide +kernel
abbrev cJ2_getChar_3b067 : ByteArray := prog_24_method_5_code
def yJ2_getChar_3b067 : MethodName := ⟨RJ2, "getChar", "([BI)C"⟩
abbrev cJ2_length_9d52b : ByteArray := prog_24_method_6_code
def yJ2_length_9d52b : MethodName := ⟨RJ2, "length", "([B)I"⟩
abbrev cJ2_charAt_3b067 : ByteArray := prog_24_method_83_code
def yJ2_charAt_3b067 : MethodName := ⟨RJ2, "charAt", "([BI)C"⟩
abbrev cJ2_checkIndex_2214a : ByteArray := prog_24_method_91_code
def yJ2_checkIndex_2214a : MethodName := ⟨RJ2, "checkIndex", "(I[B)V"⟩
def RJ10 : String := "java/lang/System"
def TJ10 : u_T := fun k => match k with
  | _ => ("", "", "", false)
def tyJ10 : Nat → FieldType := fun k => match k with
  | _ => .int
abbrev wsJ100 : List Cond := u_ws RJ10 TJ10 0
theorem nmJ10 : ∀ a, a < 0 → ∀ b, b < 0 → a ≠ b → (TJ10 a).2.1 ≠ (TJ10 b).2.1 := by decide +kernel
theorem tyJ10_ok : ∀ k, k < 0 → parseFieldDescriptor (TJ10 k).2.2.1 = some (tyJ10 k) := by decide +kernel
def RJxfd54e : String := "java/lang/constant/Constable"
def TJxfd54e : u_T := fun k => match k with
  | _ => ("", "", "", false)
def tyJxfd54e : Nat → FieldType := fun k => match k with
  | _ => .int
abbrev wsJxfd54e0 : List Cond := u_ws RJxfd54e TJxfd54e 0
theorem nmJxfd54e : ∀ a, a < 0 → ∀ b, b < 0 → a ≠ b → (TJxfd54e a).2.1 ≠ (TJxfd54e b).2.1 := by decide +kernel
theorem tyJxfd54e_ok : ∀ k, k < 0 → parseFieldDescriptor (TJxfd54e k).2.2.1 = some (tyJxfd54e k) := by decide +kernel
def RJx3cf43 : String := "java/lang/constant/ConstantDesc"
def TJx3cf43 : u_T := fun k => match k with
  | _ => ("", "", "", false)
def tyJx3cf43 : Nat → FieldType := fun k => match k with
  | _ => .int
abbrev wsJx3cf430 : List Cond := u_ws RJx3cf43 TJx3cf43 0
theorem nmJx3cf43 : ∀ a, a < 0 → ∀ b, b < 0 → a ≠ b → (TJx3cf43 a).2.1 ≠ (TJx3cf43 b).2.1 := by decide +kernel
theorem tyJx3cf43_ok : ∀ k, k < 0 → parseFieldDescriptor (TJx3cf43 k).2.2.1 = some (tyJx3cf43 k) := by decide +kernel
def RJ3 : String := "jdk/internal/util/Preconditions"
def TJ3 : u_T := fun k => match k with
  | _ => ("", "", "", false)
def tyJ3 : Nat → FieldType := fun k => match k with
  | _ => .int
abbrev wsJ30 : List Cond := u_ws RJ3 TJ3 0
theorem nmJ3 : ∀ a, a < 0 → ∀ b, b < 0 → a ≠ b → (TJ3 a).2.1 ≠ (TJ3 b).2.1 := by decide +kernel
theorem tyJ3_ok : ∀ k, k < 0 → parseFieldDescriptor (TJ3 k).2.2.1 = some (tyJ3 k) := by decide +kernel
abbrev cJ3_checkIndex_8e157 : ByteArray := prog_30_method_11_code
def yJ3_checkIndex_8e157 : MethodName := ⟨RJ3, "checkIndex", "(IILjava/util/function/BiFunction;)I"⟩
def RL : String := "ThreeSittingsLaw"
abbrev cL_party : ByteArray := method_3_code
def yL_party : MethodName := ⟨RL, "party", "(LThreeSittings;II[J)I"⟩
abbrev cL_law : ByteArray := code
def yL_law : MethodName := ⟨RL, "law", "([I)Z"⟩
def wsJ0_coder_7d493 : List Cond := .code yJ0_coder_7d493 cJ0_coder_7d493 1 (some .byte) :: ([.fieldLink RJ0 38 "java/lang/String" "COMPACT_STRINGS" "Z", .fieldLink RJ0 15 "java/lang/String" "coder" "B"])
def wsJ0_length_8abf5 : List Cond := .code yJ0_length_8abf5 cJ0_length_8abf5 1 (some .int) :: ([.fieldLink RJ0 9 "java/lang/String" "value" "[B", .methodLink RJ0 335 yJ0_coder_7d493, .instanceMethod yJ0_coder_7d493, .selects RJ0 yJ0_coder_7d493 yJ0_coder_7d493, .initialized RJ0, .code yJ0_coder_7d493 cJ0_coder_7d493 1 (some .byte), .fieldLink RJ0 38 "java/lang/String" "COMPACT_STRINGS" "Z", .fieldLink RJ0 15 "java/lang/String" "coder" "B"])
def wsJ0_isLatin1_aae02 : List Cond := .code yJ0_isLatin1_aae02 cJ0_isLatin1_aae02 1 (some .boolean) :: ([.fieldLink RJ0 38 "java/lang/String" "COMPACT_STRINGS" "Z", .fieldLink RJ0 15 "java/lang/String" "coder" "B"])
def wsJ3_checkIndex_8e157 : List Cond := .code yJ3_checkIndex_8e157 cJ3_checkIndex_8e157 3 (some .int) :: ([])
def wsJ0_checkIndex_df160 : List Cond := .code yJ0_checkIndex_df160 cJ0_checkIndex_df160 2 none :: ([.fieldLink RJ0 1053 "jdk/internal/util/Preconditions" "SIOOBE_FORMATTER" "Ljava/util/function/BiFunction;", .methodLink RJ0 1059 yJ3_checkIndex_8e157, .static yJ3_checkIndex_8e157, .initialized RJ3, .code yJ3_checkIndex_8e157 cJ3_checkIndex_8e157 3 (some .int)])
def wsJ1_charAt_3b067 : List Cond := .code yJ1_charAt_3b067 cJ1_charAt_3b067 2 (some .char) :: ([.methodLink RJ1 9 yJ0_checkIndex_df160, .static yJ0_checkIndex_df160, .initialized RJ0, .code yJ0_checkIndex_df160 cJ0_checkIndex_df160 2 none, .fieldLink RJ0 1053 "jdk/internal/util/Preconditions" "SIOOBE_FORMATTER" "Ljava/util/function/BiFunction;", .methodLink RJ0 1059 yJ3_checkIndex_8e157, .static yJ3_checkIndex_8e157, .initialized RJ3, .code yJ3_checkIndex_8e157 cJ3_checkIndex_8e157 3 (some .int)])
def wsJ2_length_9d52b : List Cond := .code yJ2_length_9d52b cJ2_length_9d52b 1 (some .int) :: ([])
def wsJ2_checkIndex_2214a : List Cond := .code yJ2_checkIndex_2214a cJ2_checkIndex_2214a 2 none :: ([.methodLink RJ2 48 yJ2_length_9d52b, .static yJ2_length_9d52b, .initialized RJ2, .code yJ2_length_9d52b cJ2_length_9d52b 1 (some .int), .methodLink RJ2 414 yJ0_checkIndex_df160, .static yJ0_checkIndex_df160, .initialized RJ0, .code yJ0_checkIndex_df160 cJ0_checkIndex_df160 2 none, .fieldLink RJ0 1053 "jdk/internal/util/Preconditions" "SIOOBE_FORMATTER" "Ljava/util/function/BiFunction;", .methodLink RJ0 1059 yJ3_checkIndex_8e157, .static yJ3_checkIndex_8e157, .initialized RJ3, .code yJ3_checkIndex_8e157 cJ3_checkIndex_8e157 3 (some .int)])
def wsJ2_getChar_3b067 : List Cond := .code yJ2_getChar_3b067 cJ2_getChar_3b067 2 (some .char) :: ([.fieldLink RJ2 44 "java/lang/StringUTF16" "$assertionsDisabled" "Z", .fieldLink RJ2 59 "java/lang/StringUTF16" "HI_BYTE_SHIFT" "I", .fieldLink RJ2 63 "java/lang/StringUTF16" "LO_BYTE_SHIFT" "I", .methodLink RJ2 48 yJ2_length_9d52b, .static yJ2_length_9d52b, .initialized RJ2, .code yJ2_length_9d52b cJ2_length_9d52b 1 (some .int)])
def wsJ2_charAt_3b067 : List Cond := .code yJ2_charAt_3b067 cJ2_charAt_3b067 2 (some .char) :: ([.methodLink RJ2 67 yJ2_checkIndex_2214a, .static yJ2_checkIndex_2214a, .initialized RJ2, .code yJ2_checkIndex_2214a cJ2_checkIndex_2214a 2 none, .methodLink RJ2 48 yJ2_length_9d52b, .static yJ2_length_9d52b, .code yJ2_length_9d52b cJ2_length_9d52b 1 (some .int), .methodLink RJ2 414 yJ0_checkIndex_df160, .static yJ0_checkIndex_df160, .initialized RJ0, .code yJ0_checkIndex_df160 cJ0_checkIndex_df160 2 none, .fieldLink RJ0 1053 "jdk/internal/util/Preconditions" "SIOOBE_FORMATTER" "Ljava/util/function/BiFunction;", .methodLink RJ0 1059 yJ3_checkIndex_8e157, .static yJ3_checkIndex_8e157, .initialized RJ3, .code yJ3_checkIndex_8e157 cJ3_checkIndex_8e157 3 (some .int), .methodLink RJ2 71 yJ2_getChar_3b067, .static yJ2_getChar_3b067, .code yJ2_getChar_3b067 cJ2_getChar_3b067 2 (some .char), .fieldLink RJ2 44 "java/lang/StringUTF16" "$assertionsDisabled" "Z", .fieldLink RJ2 59 "java/lang/StringUTF16" "HI_BYTE_SHIFT" "I", .fieldLink RJ2 63 "java/lang/StringUTF16" "LO_BYTE_SHIFT" "I"])
def wsJ0_charAt_5068e_r1 : List Cond := [Cond.fieldLink RJ0 9 "java/lang/String" "value" "[B", Cond.methodLink RJ0 492 yJ0_isLatin1_aae02, Cond.instanceMethod yJ0_isLatin1_aae02, Cond.selects RJ0 yJ0_isLatin1_aae02 yJ0_isLatin1_aae02, Cond.initialized RJ0, Cond.code yJ0_isLatin1_aae02 cJ0_isLatin1_aae02 1 (some .boolean), Cond.fieldLink RJ0 38 "java/lang/String" "COMPACT_STRINGS" "Z", Cond.fieldLink RJ0 15 "java/lang/String" "coder" "B", Cond.methodLink RJ0 495 yJ1_charAt_3b067, Cond.static yJ1_charAt_3b067, Cond.initialized RJ1, Cond.code yJ1_charAt_3b067 cJ1_charAt_3b067 2 (some .char), Cond.methodLink RJ1 9 yJ0_checkIndex_df160, Cond.static yJ0_checkIndex_df160, Cond.code yJ0_checkIndex_df160 cJ0_checkIndex_df160 2 none, Cond.fieldLink RJ0 1053 "jdk/internal/util/Preconditions" "SIOOBE_FORMATTER" "Ljava/util/function/BiFunction;", Cond.methodLink RJ0 1059 yJ3_checkIndex_8e157, Cond.static yJ3_checkIndex_8e157, Cond.initialized RJ3, Cond.code yJ3_checkIndex_8e157 cJ3_checkIndex_8e157 3 (some .int), Cond.methodLink RJ0 498 yJ2_charAt_3b067, Cond.static yJ2_charAt_3b067, Cond.initialized RJ2, Cond.code yJ2_charAt_3b067 cJ2_charAt_3b067 2 (some .char)]
def wsJ0_charAt_5068e_r2 : List Cond := [Cond.methodLink RJ2 67 yJ2_checkIndex_2214a, Cond.static yJ2_checkIndex_2214a, Cond.code yJ2_checkIndex_2214a cJ2_checkIndex_2214a 2 none, Cond.methodLink RJ2 48 yJ2_length_9d52b, Cond.static yJ2_length_9d52b, Cond.code yJ2_length_9d52b cJ2_length_9d52b 1 (some .int), Cond.methodLink RJ2 414 yJ0_checkIndex_df160, Cond.methodLink RJ2 71 yJ2_getChar_3b067, Cond.static yJ2_getChar_3b067, Cond.code yJ2_getChar_3b067 cJ2_getChar_3b067 2 (some .char), Cond.fieldLink RJ2 44 "java/lang/StringUTF16" "$assertionsDisabled" "Z", Cond.fieldLink RJ2 59 "java/lang/StringUTF16" "HI_BYTE_SHIFT" "I", Cond.fieldLink RJ2 63 "java/lang/StringUTF16" "LO_BYTE_SHIFT" "I"]
def wsJ0_charAt_5068e : List Cond := .code yJ0_charAt_5068e cJ0_charAt_5068e 2 (some .char) :: ((wsJ0_charAt_5068e_r1 ++ wsJ0_charAt_5068e_r2))
def wsJ9_abs_067f4 : List Cond := .code yJ9_abs_067f4 cJ9_abs_067f4 2 (some .long) :: ([])
def wsJ9_max_7cf53 : List Cond := .code yJ9_max_7cf53 cJ9_max_7cf53 2 (some .int) :: ([])
def wsJ9_max_f86c9 : List Cond := .code yJ9_max_f86c9 cJ9_max_f86c9 4 (some .long) :: ([])
def wsJ9_min_7cf53 : List Cond := .code yJ9_min_7cf53 cJ9_min_7cf53 2 (some .int) :: ([])
def wsJ9_min_f86c9 : List Cond := .code yJ9_min_f86c9 cJ9_min_f86c9 4 (some .long) :: ([])
def wsL_party : List Cond := .codeWith yL_party cL_party 5 (some .int) [(0, 10, 13, 13), (0, 10, 17, 15)] :: ([.classLink RL 13 "java/lang/IndexOutOfBoundsException", .classLink RL 15 "java/util/NoSuchElementException", .methodLink RL 7 yX11_party, .instanceMethod yX11_party, .selects RX11 yX11_party yX11_party, .initialized RX11, .code yX11_party cX11_party 3 (some .int), .classLink RX11 145 "java/lang/IndexOutOfBoundsException", .initialized "java/lang/IndexOutOfBoundsException", .classLink RX11 172 "java/util/NoSuchElementException", .initialized "java/util/NoSuchElementException", .fieldLink RX11 29 "ThreeSittings" "plan" "LThreeSittings$Plan;", .fieldLink RX11 36 "ThreeSittings" "now" "LThreeSittings$State;", .methodLink RX11 141 yX6_hasParty, .instanceMethod yX6_hasParty, .selects RX6 yX6_hasParty yX6_hasParty, .initialized RX6, .code yX6_hasParty cX6_hasParty 2 (some .boolean), .fieldLink RX6 9 "ThreeSittings$Plan" "parties" "I", .methodLink RX11 152 yX6_trait, .instanceMethod yX6_trait, .selects RX6 yX6_trait yX6_trait, .code yX6_trait cX6_trait 3 (some .int), .fieldLink RX6 21 "ThreeSittings$Plan" "traits" "[[I"] ++ wsX110 ++ wsX80 ++ wsX60 ++ (vx_atS RX11 149 "java/lang/IndexOutOfBoundsException" ["java/lang/RuntimeException", "java/lang/Exception"]).filter goodWord ++ (vx_atS RX11 176 "java/util/NoSuchElementException" ["java/lang/RuntimeException", "java/lang/Exception"]).filter goodWord)
def wsL_law0_r1 : List Cond := [Cond.classLink RL 8 RX11, Cond.instantiable RX11 17, Cond.initialized RX11, Cond.classLink RL 18 RX12, Cond.instantiable RX12 71, Cond.initialized RX12, Cond.arrayClass .long, Cond.methodLink RL 17 yX11_init, Cond.instanceMethod yX11_init, Cond.code yX11_init cX11_init 1 none, Cond.methodLink RX11 5 objectInit, Cond.instanceMethod objectInit, Cond.code objectInit ⟨#[0xb1]⟩ 1 none, Cond.arrayClass .byte, Cond.fieldLink RX11 11 "ThreeSittings" "tape" "[B", Cond.fieldLink RX11 15 "ThreeSittings" "tapeLength" "I", Cond.classLink RX11 19 RX7, Cond.instantiable RX7 7, Cond.initialized RX7, Cond.fieldLink RX11 22 "ThreeSittings" "reader" "LThreeSittings$Reader;", Cond.classLink RX11 26 RX6, Cond.instantiable RX6 9, Cond.initialized RX6, Cond.fieldLink RX11 29 "ThreeSittings" "plan" "LThreeSittings$Plan;"]
def wsL_law0_r2 : List Cond := [Cond.classLink RX11 33 RX8, Cond.instantiable RX8 18, Cond.initialized RX8, Cond.fieldLink RX11 36 "ThreeSittings" "now" "LThreeSittings$State;", Cond.fieldLink RX11 40 "ThreeSittings" "image" "LThreeSittings$State;", Cond.fieldLink RX11 43 "ThreeSittings" "hasImage" "Z", Cond.fieldLink RX11 47 "ThreeSittings" "trial" "LThreeSittings$State;", Cond.classLink RX11 50 RX0, Cond.instantiable RX0 1, Cond.initialized RX0, Cond.fieldLink RX11 53 "ThreeSittings" "car" "LThreeSittings$Car;", Cond.classLink RX11 57 RX10, Cond.instantiable RX10 8, Cond.initialized RX10, Cond.fieldLink RX11 60 "ThreeSittings" "asItGoes" "LThreeSittings$Ways;", Cond.fieldLink RX11 64 "ThreeSittings" "byChance" "LThreeSittings$Ways;", Cond.fieldLink RX11 67 "ThreeSittings" "otherwise" "LThreeSittings$Ways;", Cond.classLink RX11 70 RX2, Cond.instantiable RX2 4, Cond.initialized RX2, Cond.fieldLink RX11 73 "ThreeSittings" "history" "LThreeSittings$History;", Cond.classLink RX11 77 RX5, Cond.instantiable RX5 6, Cond.initialized RX5]
def wsL_law0_r3 : List Cond := [Cond.fieldLink RX11 80 "ThreeSittings" "notes" "LThreeSittings$Notes;", Cond.classLink RX11 84 RX1, Cond.instantiable RX1 7, Cond.initialized RX1, Cond.fieldLink RX11 87 "ThreeSittings" "giving" "LThreeSittings$Giving;", Cond.classLink RX11 91 RX4, Cond.instantiable RX4 4, Cond.initialized RX4, Cond.fieldLink RX11 94 "ThreeSittings" "levelling" "LThreeSittings$Levelling;", Cond.fieldLink RX11 98 "ThreeSittings" "parts" "[J", Cond.instanceMethod yX7_init, Cond.code yX7_init cX7_init 1 none, Cond.methodLink RX7 3 objectInit, Cond.classLink RX7 9 RX9, Cond.instantiable RX9 4, Cond.initialized RX9, Cond.fieldLink RX7 12 "ThreeSittings$Reader" "tokens" "LThreeSittings$Tokens;", Cond.classLink RX7 18 RX6, Cond.fieldLink RX7 21 "ThreeSittings$Reader" "plan" "LThreeSittings$Plan;", Cond.fieldLink RX7 25 "ThreeSittings$Reader" "at" "I", Cond.fieldLink RX7 29 "ThreeSittings$Reader" "taken" "I", Cond.fieldLink RX7 32 "ThreeSittings$Reader" "lines" "I", Cond.fieldLink RX7 35 "ThreeSittings$Reader" "fault" "I", Cond.fieldLink RX7 38 "ThreeSittings$Reader" "faultPlace" "I"]
def wsL_law0_r4 : List Cond := [Cond.instanceMethod yX9_init, Cond.code yX9_init cX9_init 1 none, Cond.methodLink RX9 3 objectInit, Cond.arrayClass .int, Cond.fieldLink RX9 9 "ThreeSittings$Tokens" "kind" "[I", Cond.fieldLink RX9 15 "ThreeSittings$Tokens" "place" "[I", Cond.fieldLink RX9 18 "ThreeSittings$Tokens" "value" "[I", Cond.fieldLink RX9 21 "ThreeSittings$Tokens" "count" "I", Cond.methodLink RX7 20 yX6_init, Cond.instanceMethod yX6_init, Cond.code yX6_init cX6_init 1 none, Cond.methodLink RX6 3 objectInit, Cond.fieldLink RX6 9 "ThreeSittings$Plan" "parties" "I", Cond.fieldLink RX6 15 "ThreeSittings$Plan" "letters" "[I", Cond.classLink RX6 19 "[[I", Cond.fieldLink RX6 21 "ThreeSittings$Plan" "traits" "[[I", Cond.fieldLink RX6 24 "ThreeSittings$Plan" "sittings" "I", Cond.fieldLink RX6 27 "ThreeSittings$Plan" "minute" "[I", Cond.fieldLink RX6 30 "ThreeSittings$Plan" "toldPrice" "[I", Cond.fieldLink RX6 33 "ThreeSittings$Plan" "setting" "[I", Cond.arrayClass .boolean, Cond.fieldLink RX6 36 "ThreeSittings$Plan" "isTold" "[Z", Cond.classLink RX6 40 RX3, Cond.instantiable RX3 8]
def wsL_law0_r5 : List Cond := [Cond.initialized RX3, Cond.fieldLink RX6 43 "ThreeSittings$Plan" "laws" "LThreeSittings$Laws;", Cond.methodLink RX6 50 arraycopyName, Cond.native arraycopyName, Cond.static arraycopyName, Cond.initialized "java/lang/System", Cond.instanceMethod yX3_init, Cond.code yX3_init cX3_init 1 none, Cond.methodLink RX3 3 objectInit, Cond.fieldLink RX3 9 "ThreeSittings$Laws" "knot" "[I", Cond.fieldLink RX3 15 "ThreeSittings$Laws" "number" "[I", Cond.fieldLink RX3 18 "ThreeSittings$Laws" "length" "I", Cond.fieldLink RX3 22 "ThreeSittings$Laws" "knots" "I", Cond.fieldLink RX3 25 "ThreeSittings$Laws" "from" "[I", Cond.fieldLink RX3 28 "ThreeSittings$Laws" "to" "[I", Cond.fieldLink RX3 31 "ThreeSittings$Laws" "names" "[I", Cond.fieldLink RX3 34 "ThreeSittings$Laws" "stack" "[J", Cond.methodLink RX11 28 yX6_init, Cond.instanceMethod yX8_init, Cond.code yX8_init cX8_init 1 none, Cond.methodLink RX8 3 objectInit, Cond.fieldLink RX8 9 "ThreeSittings$State" "date" "I", Cond.fieldLink RX8 15 "ThreeSittings$State" "number" "I", Cond.fieldLink RX8 18 "ThreeSittings$State" "ticket" "[I"]
def wsL_law0_r6 : List Cond := [Cond.fieldLink RX8 22 "ThreeSittings$State" "sign" "[I", Cond.fieldLink RX8 25 "ThreeSittings$State" "price" "[I", Cond.fieldLink RX8 28 "ThreeSittings$State" "meals" "[I", Cond.fieldLink RX8 31 "ThreeSittings$State" "cross" "[I", Cond.fieldLink RX8 34 "ThreeSittings$State" "away" "[I", Cond.fieldLink RX8 37 "ThreeSittings$State" "hungry" "[I", Cond.fieldLink RX8 40 "ThreeSittings$State" "glad" "I", Cond.fieldLink RX8 43 "ThreeSittings$State" "hungryPersons" "I", Cond.fieldLink RX8 46 "ThreeSittings$State" "paid" "I", Cond.fieldLink RX8 49 "ThreeSittings$State" "seen" "Z", Cond.fieldLink RX8 53 "ThreeSittings$State" "began" "[I", Cond.fieldLink RX8 56 "ThreeSittings$State" "lateBy" "[I", Cond.fieldLink RX8 59 "ThreeSittings$State" "sat" "[I", Cond.fieldLink RX8 62 "ThreeSittings$State" "stood" "[I", Cond.fieldLink RX8 65 "ThreeSittings$State" "ended" "[I", Cond.instanceMethod yX0_init, Cond.code yX0_init cX0_init 1 none, Cond.methodLink RX0 3 objectInit, Cond.fieldLink RX0 9 "ThreeSittings$Car" "stands" "[Z", Cond.instanceMethod yX10_init, Cond.code yX10_init cX10_init 1 none, Cond.methodLink RX10 3 objectInit, Cond.fieldLink RX10 9 "ThreeSittings$Ways" "drawn" "Z", Cond.fieldLink RX10 15 "ThreeSittings$Ways" "allCome" "Z"]
def wsL_law0_r7 : List Cond := [Cond.fieldLink RX10 18 "ThreeSittings$Ways" "noneStay" "Z", Cond.fieldLink RX10 21 "ThreeSittings$Ways" "absentee" "I", Cond.fieldLink RX10 25 "ThreeSittings$Ways" "lingerer" "I", Cond.fieldLink RX10 28 "ThreeSittings$Ways" "moreSeats" "I", Cond.fieldLink RX10 31 "ThreeSittings$Ways" "hands" "I", Cond.fieldLink RX10 34 "ThreeSittings$Ways" "shift" "[I", Cond.instanceMethod yX2_init, Cond.code yX2_init cX2_init 1 none, Cond.methodLink RX2 3 objectInit, Cond.fieldLink RX2 9 "ThreeSittings$History" "kind" "[I", Cond.fieldLink RX2 15 "ThreeSittings$History" "whose" "[I", Cond.fieldLink RX2 18 "ThreeSittings$History" "former" "[I", Cond.fieldLink RX2 21 "ThreeSittings$History" "count" "I", Cond.instanceMethod yX5_init, Cond.code yX5_init cX5_init 1 none, Cond.methodLink RX5 3 objectInit, Cond.fieldLink RX5 9 "ThreeSittings$Notes" "kind" "[I", Cond.fieldLink RX5 15 "ThreeSittings$Notes" "about" "[I", Cond.fieldLink RX5 18 "ThreeSittings$Notes" "minutes" "[I", Cond.fieldLink RX5 21 "ThreeSittings$Notes" "struck" "[Z", Cond.fieldLink RX5 25 "ThreeSittings$Notes" "count" "I", Cond.fieldLink RX5 29 "ThreeSittings$Notes" "knownBy" "I", Cond.instanceMethod yX1_init, Cond.code yX1_init cX1_init 1 none]
def wsL_law0_r8 : List Cond := [Cond.methodLink RX1 3 objectInit, Cond.classLink RX1 9 "[[I", Cond.fieldLink RX1 11 "ThreeSittings$Giving" "worth" "[[I", Cond.fieldLink RX1 16 "ThreeSittings$Giving" "left" "[I", Cond.fieldLink RX1 20 "ThreeSittings$Giving" "picked" "[I", Cond.fieldLink RX1 23 "ThreeSittings$Giving" "best" "[I", Cond.fieldLink RX1 26 "ThreeSittings$Giving" "hope" "[I", Cond.fieldLink RX1 29 "ThreeSittings$Giving" "bestSum" "I", Cond.fieldLink RX1 33 "ThreeSittings$Giving" "known" "Z", Cond.instanceMethod yX4_init, Cond.code yX4_init cX4_init 1 none, Cond.methodLink RX4 3 objectInit, Cond.fieldLink RX4 9 "ThreeSittings$Levelling" "prices" "[I", Cond.fieldLink RX4 15 "ThreeSittings$Levelling" "persons" "[I", Cond.fieldLink RX4 18 "ThreeSittings$Levelling" "found" "Z", Cond.fieldLink RX4 22 "ThreeSittings$Levelling" "known" "Z", Cond.methodLink RX11 105 yX8_begin, Cond.instanceMethod yX8_begin, Cond.selects RX8 yX8_begin yX8_begin, Cond.code yX8_begin cX8_begin 3 none, Cond.methodLink RX8 76 yX8_forgetSitting, Cond.instanceMethod yX8_forgetSitting, Cond.selects RX8 yX8_forgetSitting yX8_forgetSitting, Cond.code yX8_forgetSitting cX8_forgetSitting 2 none]
def wsL_law0_r9 : List Cond := [Cond.methodLink RL 20 yX12_init, Cond.instanceMethod yX12_init, Cond.code yX12_init cX12_init 1 none, Cond.methodLink RX12 1 objectInit, Cond.fieldLink RX12 7 "ThreeSittingsModel" "tape" "[I", Cond.fieldLink RX12 13 "ThreeSittingsModel" "number" "[I", Cond.fieldLink RX12 16 "ThreeSittingsModel" "partyName" "[I", Cond.fieldLink RX12 19 "ThreeSittingsModel" "sizeOf" "[I", Cond.fieldLink RX12 22 "ThreeSittingsModel" "wishOf" "[I", Cond.fieldLink RX12 25 "ThreeSittingsModel" "offAt" "[I", Cond.fieldLink RX12 28 "ThreeSittingsModel" "coffeeOf" "[I", Cond.fieldLink RX12 31 "ThreeSittingsModel" "absentOf" "[I", Cond.fieldLink RX12 34 "ThreeSittingsModel" "minuteOf" "[I", Cond.fieldLink RX12 37 "ThreeSittingsModel" "priceAs" "[I", Cond.fieldLink RX12 40 "ThreeSittingsModel" "sumFrom" "[I", Cond.fieldLink RX12 43 "ThreeSittingsModel" "sumTo" "[I", Cond.fieldLink RX12 46 "ThreeSittingsModel" "knotSort" "[I", Cond.fieldLink RX12 49 "ThreeSittingsModel" "knotValue" "[I", Cond.fieldLink RX12 52 "ThreeSittingsModel" "lastPlace" "I", Cond.fieldLink RX12 56 "ThreeSittingsModel" "names" "[J", Cond.fieldLink RX12 60 "ThreeSittingsModel" "worked" "[J", Cond.fieldLink RX12 63 "ThreeSittingsModel" "date" "[I", Cond.fieldLink RX12 66 "ThreeSittingsModel" "glad" "[I", Cond.fieldLink RX12 69 "ThreeSittingsModel" "hungry" "[I"]
def wsL_law0_r10 : List Cond := [Cond.fieldLink RX12 72 "ThreeSittingsModel" "paid" "[I", Cond.fieldLink RX12 75 "ThreeSittingsModel" "drawn" "[I", Cond.fieldLink RX12 78 "ThreeSittingsModel" "ticket" "[I", Cond.fieldLink RX12 81 "ThreeSittingsModel" "meals" "[I", Cond.fieldLink RX12 84 "ThreeSittingsModel" "cross" "[I", Cond.fieldLink RX12 87 "ThreeSittingsModel" "away" "[I", Cond.fieldLink RX12 90 "ThreeSittingsModel" "unfed" "[I", Cond.fieldLink RX12 93 "ThreeSittingsModel" "sign" "[I", Cond.fieldLink RX12 96 "ThreeSittingsModel" "price" "[I", Cond.fieldLink RX12 99 "ThreeSittingsModel" "began" "[I", Cond.fieldLink RX12 102 "ThreeSittingsModel" "satAt" "[I", Cond.fieldLink RX12 105 "ThreeSittingsModel" "stoodAt" "[I", Cond.fieldLink RX12 108 "ThreeSittingsModel" "endedAt" "[I", Cond.fieldLink RX12 111 "ThreeSittingsModel" "tryParty" "I", Cond.fieldLink RX12 114 "ThreeSittingsModel" "lingerer" "I", Cond.fieldLink RX12 117 "ThreeSittingsModel" "moved" "[I", Cond.fieldLink RX12 120 "ThreeSittingsModel" "room" "[I", Cond.fieldLink RX12 123 "ThreeSittingsModel" "row" "[I", Cond.fieldLink RX12 126 "ThreeSittingsModel" "bestRow" "[I", Cond.fieldLink RX12 129 "ThreeSittingsModel" "asked" "[I", Cond.fieldLink RX12 132 "ThreeSittingsModel" "holders" "[I", Cond.fieldLink RX12 135 "ThreeSittingsModel" "knownBy" "I", Cond.fieldLink RX12 138 "ThreeSittingsModel" "noteSitting" "[I", Cond.fieldLink RX12 141 "ThreeSittingsModel" "noteLate" "[I"]
def wsL_law0_r11 : List Cond := [Cond.fieldLink RX12 144 "ThreeSittingsModel" "noteAtLeast" "[Z", Cond.fieldLink RX12 148 "ThreeSittingsModel" "outs" "[I", Cond.fieldLink RX12 151 "ThreeSittingsModel" "isOut" "[Z", Cond.methodLink RX12 154 yX12_begins, Cond.instanceMethod yX12_begins, Cond.selects RX12 yX12_begins yX12_begins, Cond.code yX12_begins cX12_begins 2 none, Cond.methodLink RL 21 yX11_feed, Cond.instanceMethod yX11_feed, Cond.selects RX11 yX11_feed yX11_feed, Cond.code yX11_feed cX11_feed 6 (some .int), Cond.methodLink RX11 109 yX11_append, Cond.instanceMethod yX11_append, Cond.selects RX11 yX11_append yX11_append, Cond.code yX11_append cX11_append 3 none, Cond.methodLink RL 25 yX12_feed, Cond.instanceMethod yX12_feed, Cond.selects RX12 yX12_feed yX12_feed, Cond.code yX12_feed cX12_feed 8 (some .int), Cond.fieldLink RX12 157 "ThreeSittingsModel" "thrown" "I", Cond.fieldLink RX12 160 "ThreeSittingsModel" "taped" "I", Cond.methodLink RL 26 yX11_text, Cond.instanceMethod yX11_text, Cond.selects RX11 yX11_text yX11_text]
def wsL_law0_r12 : List Cond := [Cond.code yX11_text cX11_text 3 (some .int), Cond.methodLink RX11 113 yX7_read, Cond.instanceMethod yX7_read, Cond.selects RX7 yX7_read yX7_read, Cond.code yX7_read cX7_read 4 (some .boolean), Cond.methodLink RX7 41 yX9_split, Cond.instanceMethod yX9_split, Cond.selects RX9 yX9_split yX9_split, Cond.code yX9_split cX9_split 7 none, Cond.methodLink RX9 25 Lib.Math.min.name, Cond.static Lib.Math.min.name, Cond.initialized "java/lang/Math", Cond.code Lib.Math.min.name Lib.Math.min.code 2 (some .int), Cond.methodLink RX9 49 Lib.Math.max.name, Cond.static Lib.Math.max.name, Cond.code Lib.Math.max.name Lib.Math.max.code 2 (some .int), Cond.methodLink RX9 31 yX9_isDigit, Cond.static yX9_isDigit, Cond.code yX9_isDigit cX9_isDigit 1 (some .boolean), Cond.methodLink RX9 35 yX9_takeNumber, Cond.instanceMethod yX9_takeNumber, Cond.selects RX9 yX9_takeNumber yX9_takeNumber, Cond.code yX9_takeNumber cX9_takeNumber 6 (some .int), Cond.constant RX9 56 (1000000)]
def wsL_law0_r13 : List Cond := [Cond.methodLink RX9 52 yX9_put, Cond.instanceMethod yX9_put, Cond.selects RX9 yX9_put yX9_put, Cond.code yX9_put cX9_put 4 none, Cond.methodLink RX9 39 yX9_isLetter, Cond.static yX9_isLetter, Cond.code yX9_isLetter cX9_isLetter 1 (some .boolean), Cond.methodLink RX9 42 yX9_takeWord, Cond.instanceMethod yX9_takeWord, Cond.selects RX9 yX9_takeWord yX9_takeWord, Cond.code yX9_takeWord cX9_takeWord 6 (some .int), Cond.methodLink RX9 57 yX9_wordOf, Cond.static yX9_wordOf, Cond.code yX9_wordOf cX9_wordOf 6 (some .int), Cond.methodLink RX9 65 yJ0_length_8abf5, Cond.instanceMethod yJ0_length_8abf5, Cond.selects RJ0 yJ0_length_8abf5 yJ0_length_8abf5, Cond.initialized RJ0, Cond.code yJ0_length_8abf5 cJ0_length_8abf5 1 (some .int), Cond.fieldLink RJ0 9 "java/lang/String" "value" "[B", Cond.methodLink RJ0 335 yJ0_coder_7d493, Cond.instanceMethod yJ0_coder_7d493, Cond.selects RJ0 yJ0_coder_7d493 yJ0_coder_7d493, Cond.code yJ0_coder_7d493 cJ0_coder_7d493 1 (some .byte)]
def wsL_law0_r14 : List Cond := [Cond.fieldLink RJ0 38 "java/lang/String" "COMPACT_STRINGS" "Z", Cond.fieldLink RJ0 15 "java/lang/String" "coder" "B", Cond.methodLink RX9 71 yJ0_charAt_5068e, Cond.instanceMethod yJ0_charAt_5068e, Cond.selects RJ0 yJ0_charAt_5068e yJ0_charAt_5068e, Cond.code yJ0_charAt_5068e cJ0_charAt_5068e 2 (some .char), Cond.methodLink RJ0 492 yJ0_isLatin1_aae02, Cond.instanceMethod yJ0_isLatin1_aae02, Cond.selects RJ0 yJ0_isLatin1_aae02 yJ0_isLatin1_aae02, Cond.code yJ0_isLatin1_aae02 cJ0_isLatin1_aae02 1 (some .boolean), Cond.methodLink RJ0 495 yJ1_charAt_3b067, Cond.static yJ1_charAt_3b067, Cond.initialized RJ1, Cond.code yJ1_charAt_3b067 cJ1_charAt_3b067 2 (some .char), Cond.methodLink RJ1 9 yJ0_checkIndex_df160, Cond.static yJ0_checkIndex_df160, Cond.code yJ0_checkIndex_df160 cJ0_checkIndex_df160 2 none, Cond.fieldLink RJ0 1053 "jdk/internal/util/Preconditions" "SIOOBE_FORMATTER" "Ljava/util/function/BiFunction;", Cond.methodLink RJ0 1059 yJ3_checkIndex_8e157, Cond.static yJ3_checkIndex_8e157, Cond.initialized RJ3, Cond.code yJ3_checkIndex_8e157 cJ3_checkIndex_8e157 3 (some .int), Cond.methodLink RJ0 498 yJ2_charAt_3b067, Cond.static yJ2_charAt_3b067]
def wsL_law0_r15 : List Cond := [Cond.initialized RJ2, Cond.code yJ2_charAt_3b067 cJ2_charAt_3b067 2 (some .char), Cond.methodLink RJ2 67 yJ2_checkIndex_2214a, Cond.static yJ2_checkIndex_2214a, Cond.code yJ2_checkIndex_2214a cJ2_checkIndex_2214a 2 none, Cond.methodLink RJ2 48 yJ2_length_9d52b, Cond.static yJ2_length_9d52b, Cond.code yJ2_length_9d52b cJ2_length_9d52b 1 (some .int), Cond.methodLink RJ2 414 yJ0_checkIndex_df160, Cond.methodLink RJ2 71 yJ2_getChar_3b067, Cond.static yJ2_getChar_3b067, Cond.code yJ2_getChar_3b067 cJ2_getChar_3b067 2 (some .char), Cond.fieldLink RJ2 44 "java/lang/StringUTF16" "$assertionsDisabled" "Z", Cond.fieldLink RJ2 59 "java/lang/StringUTF16" "HI_BYTE_SHIFT" "I", Cond.fieldLink RJ2 63 "java/lang/StringUTF16" "LO_BYTE_SHIFT" "I", Cond.methodLink RX9 75 yX9_isWordAt, Cond.static yX9_isWordAt, Cond.code yX9_isWordAt cX9_isWordAt 6 (some .boolean), Cond.methodLink RX9 60 yX9_packed, Cond.static yX9_packed, Cond.code yX9_packed cX9_packed 6 (some .int), Cond.methodLink RX9 45 yX9_takeSign, Cond.instanceMethod yX9_takeSign, Cond.selects RX9 yX9_takeSign yX9_takeSign]
def wsL_law0_r16 : List Cond := [Cond.code yX9_takeSign cX9_takeSign 6 (some .int), Cond.methodLink RX9 79 yX9_singleSign, Cond.static yX9_singleSign, Cond.code yX9_singleSign cX9_singleSign 1 (some .int), Cond.methodLink RX9 83 yX9_pairSign, Cond.static yX9_pairSign, Cond.code yX9_pairSign cX9_pairSign 2 (some .int), Cond.methodLink RX7 45 yX6_clear, Cond.instanceMethod yX6_clear, Cond.selects RX6 yX6_clear yX6_clear, Cond.code yX6_clear cX6_clear 2 none, Cond.methodLink RX6 56 yX3_clear, Cond.instanceMethod yX3_clear, Cond.selects RX3 yX3_clear yX3_clear, Cond.code yX3_clear cX3_clear 2 none, Cond.methodLink RX7 51 yX7_kind, Cond.instanceMethod yX7_kind, Cond.selects RX7 yX7_kind yX7_kind, Cond.code yX7_kind cX7_kind 1 (some .int), Cond.methodLink RX7 55 yX7_readLine, Cond.instanceMethod yX7_readLine, Cond.selects RX7 yX7_readLine yX7_readLine, Cond.code yX7_readLine cX7_readLine 3 (some .boolean), Cond.methodLink RX7 74 yX7_readParty]
def wsL_law0_r17 : List Cond := [Cond.instanceMethod yX7_readParty, Cond.selects RX7 yX7_readParty yX7_readParty, Cond.code yX7_readParty cX7_readParty 4 (some .boolean), Cond.methodLink RX7 68 yX7_refuse, Cond.instanceMethod yX7_refuse, Cond.selects RX7 yX7_refuse yX7_refuse, Cond.code yX7_refuse cX7_refuse 2 (some .boolean), Cond.methodLink RX7 72 yX7_value, Cond.instanceMethod yX7_value, Cond.selects RX7 yX7_value yX7_value, Cond.code yX7_value cX7_value 1 (some .int), Cond.methodLink RX7 92 yX6_numberOf, Cond.instanceMethod yX6_numberOf, Cond.selects RX6 yX6_numberOf yX6_numberOf, Cond.code yX6_numberOf cX6_numberOf 3 (some .int), Cond.methodLink RX7 102 yX7_readNumber, Cond.instanceMethod yX7_readNumber, Cond.selects RX7 yX7_readNumber yX7_readNumber, Cond.code yX7_readNumber cX7_readNumber 3 (some .boolean), Cond.methodLink RX7 77 yX7_readSitting, Cond.instanceMethod yX7_readSitting, Cond.selects RX7 yX7_readSitting yX7_readSitting, Cond.code yX7_readSitting cX7_readSitting 3 (some .boolean), Cond.methodLink RX7 80 yX7_readLaw]
def wsL_law0_r18 : List Cond := [Cond.instanceMethod yX7_readLaw, Cond.selects RX7 yX7_readLaw yX7_readLaw, Cond.code yX7_readLaw cX7_readLaw 3 (some .boolean), Cond.methodLink RX7 139 yX3_isTold, Cond.instanceMethod yX3_isTold, Cond.selects RX3 yX3_isTold yX3_isTold, Cond.code yX3_isTold cX3_isTold 2 (some .boolean), Cond.methodLink RX7 146 yX7_readRank, Cond.instanceMethod yX7_readRank, Cond.selects RX7 yX7_readRank yX7_readRank, Cond.code yX7_readRank cX7_readRank 7 (some .boolean), Cond.methodLink RX7 153 yX7_readPart, Cond.instanceMethod yX7_readPart, Cond.selects RX7 yX7_readPart yX7_readPart, Cond.methodLink RX7 156 yX7_takeKnot, Cond.instanceMethod yX7_takeKnot, Cond.selects RX7 yX7_takeKnot yX7_takeKnot, Cond.code yX7_takeKnot cX7_takeKnot 1 (some .boolean), Cond.methodLink RX7 159 yX7_rankOf, Cond.static yX7_rankOf, Cond.code yX7_rankOf cX7_rankOf 1 (some .int), Cond.methodLink RX7 162 yX3_put, Cond.instanceMethod yX3_put, Cond.selects RX3 yX3_put yX3_put]
def wsL_law0_r19 : List Cond := [Cond.code yX3_put cX3_put 3 none, Cond.code yX7_readPart cX7_readPart 4 (some .boolean), Cond.methodLink RX7 86 yX7_expect, Cond.instanceMethod yX7_expect, Cond.selects RX7 yX7_expect yX7_expect, Cond.code yX7_expect cX7_expect 2 (some .boolean), Cond.methodLink RX7 149 yX3_tell, Cond.instanceMethod yX3_tell, Cond.selects RX3 yX3_tell yX3_tell, Cond.code yX3_tell cX3_tell 3 none, Cond.methodLink RX7 83 yX7_readSetting, Cond.instanceMethod yX7_readSetting, Cond.selects RX7 yX7_readSetting yX7_readSetting, Cond.code yX7_readSetting cX7_readSetting 2 (some .boolean), Cond.methodLink RX11 121 yX5_clear, Cond.instanceMethod yX5_clear, Cond.selects RX5 yX5_clear yX5_clear, Cond.code yX5_clear cX5_clear 1 none, Cond.methodLink RL 30 yX12_text, Cond.instanceMethod yX12_text, Cond.selects RX12 yX12_text yX12_text, Cond.code yX12_text cX12_text 3 (some .int), Cond.fieldLink RX12 166 "ThreeSittingsModel" "size" "I", Cond.fieldLink RX12 163 "ThreeSittingsModel" "at" "I"]
def wsL_law0_r20 : List Cond := [Cond.fieldLink RX12 210 "ThreeSittingsModel" "fault" "I", Cond.fieldLink RX12 213 "ThreeSittingsModel" "faultPlace" "I", Cond.fieldLink RX12 230 "ThreeSittingsModel" "told" "I", Cond.fieldLink RX12 250 "ThreeSittingsModel" "lines" "I", Cond.fieldLink RX12 290 "ThreeSittingsModel" "open" "I", Cond.fieldLink RX12 260 "ThreeSittingsModel" "counted" "I", Cond.fieldLink RX12 176 "ThreeSittingsModel" "sort" "I", Cond.fieldLink RX12 296 "ThreeSittingsModel" "lastFault" "I", Cond.fieldLink RX12 303 "ThreeSittingsModel" "notes" "I", Cond.fieldLink RX12 306 "ThreeSittingsModel" "hasImage" "Z", Cond.fieldLink RX12 310 "ThreeSittingsModel" "undoMany" "I", Cond.methodLink RX12 240 yX12_reads, Cond.instanceMethod yX12_reads, Cond.selects RX12 yX12_reads yX12_reads, Cond.code yX12_reads cX12_reads 3 none, Cond.methodLink RX12 216 yX12_token, Cond.instanceMethod yX12_token, Cond.selects RX12 yX12_token yX12_token, Cond.code yX12_token cX12_token 2 none, Cond.fieldLink RX12 173 "ThreeSittingsModel" "place" "I", Cond.fieldLink RX12 186 "ThreeSittingsModel" "value" "I", Cond.constant RX12 195 (99999), Cond.methodLink RX12 169 yX12_here, Cond.instanceMethod yX12_here]
def wsL_law0_r21 : List Cond := [Cond.selects RX12 yX12_here yX12_here, Cond.code yX12_here cX12_here 1 (some .int), Cond.methodLink RX12 179 yX12_isSmall, Cond.static yX12_isSmall, Cond.code yX12_isSmall cX12_isSmall 1 (some .boolean), Cond.methodLink RX12 183 yX12_word, Cond.instanceMethod yX12_word, Cond.selects RX12 yX12_word yX12_word, Cond.code yX12_word cX12_word 4 (some .int), Cond.methodLink RX12 201 yJ0_length_8abf5, Cond.methodLink RX12 206 yJ0_charAt_5068e, Cond.methodLink RX12 189 yX12_name, Cond.instanceMethod yX12_name, Cond.selects RX12 yX12_name yX12_name, Cond.code yX12_name cX12_name 2 none, Cond.methodLink RX12 192 yX12_isDigit, Cond.static yX12_isDigit, Cond.code yX12_isDigit cX12_isDigit 1 (some .boolean), Cond.methodLink RX12 196 yX12_sign, Cond.instanceMethod yX12_sign, Cond.selects RX12 yX12_sign yX12_sign, Cond.code yX12_sign cX12_sign 2 none, Cond.methodLink RX12 293 yX12_line, Cond.instanceMethod yX12_line]
def wsL_law0_r22 : List Cond := [Cond.selects RX12 yX12_line yX12_line, Cond.code yX12_line cX12_line 4 none, Cond.methodLink RX12 219 yX12_wrong, Cond.instanceMethod yX12_wrong, Cond.selects RX12 yX12_wrong yX12_wrong, Cond.code yX12_wrong cX12_wrong 2 none, Cond.methodLink RX12 226 yX12_fresher, Cond.instanceMethod yX12_fresher, Cond.selects RX12 yX12_fresher yX12_fresher, Cond.code yX12_fresher cX12_fresher 2 (some .int), Cond.methodLink RX12 233 yX12_partyLine, Cond.instanceMethod yX12_partyLine, Cond.selects RX12 yX12_partyLine yX12_partyLine, Cond.code yX12_partyLine cX12_partyLine 3 none, Cond.methodLink RX12 253 yX12_fresh, Cond.instanceMethod yX12_fresh, Cond.selects RX12 yX12_fresh yX12_fresh, Cond.code yX12_fresh cX12_fresh 5 (some .int), Cond.methodLink RX12 222 yX12_found, Cond.static yX12_found, Cond.code yX12_found cX12_found 5 (some .int), Cond.methodLink RX12 236 yX12_numeral, Cond.instanceMethod yX12_numeral, Cond.selects RX12 yX12_numeral yX12_numeral]
def wsL_law0_r23 : List Cond := [Cond.code yX12_numeral cX12_numeral 4 (some .int), Cond.methodLink RX12 244 yX12_lawLine, Cond.instanceMethod yX12_lawLine, Cond.selects RX12 yX12_lawLine yX12_lawLine, Cond.code yX12_lawLine cX12_lawLine 2 none, Cond.methodLink RX12 257 yX12_expression, Cond.instanceMethod yX12_expression, Cond.selects RX12 yX12_expression yX12_expression, Cond.code yX12_expression cX12_expression 1 none, Cond.methodLink RX12 263 yX12_conjunction, Cond.instanceMethod yX12_conjunction, Cond.selects RX12 yX12_conjunction yX12_conjunction, Cond.methodLink RX12 266 yX12_isWord, Cond.instanceMethod yX12_isWord, Cond.selects RX12 yX12_isWord yX12_isWord, Cond.code yX12_isWord cX12_isWord 2 (some .boolean), Cond.methodLink RX12 269 yX12_knot, Cond.instanceMethod yX12_knot, Cond.selects RX12 yX12_knot yX12_knot, Cond.code yX12_knot cX12_knot 1 none, Cond.methodLink RX12 272 yX12_goOn, Cond.instanceMethod yX12_goOn, Cond.selects RX12 yX12_goOn yX12_goOn, Cond.code yX12_goOn cX12_goOn 1 none]
def wsL_law0_r24 : List Cond := [Cond.methodLink RX12 275 yX12_puts, Cond.instanceMethod yX12_puts, Cond.selects RX12 yX12_puts yX12_puts, Cond.code yX12_puts cX12_puts 3 none, Cond.code yX12_conjunction cX12_conjunction 1 none, Cond.methodLink RX12 278 yX12_negation, Cond.instanceMethod yX12_negation, Cond.selects RX12 yX12_negation yX12_negation, Cond.code yX12_negation cX12_negation 2 none, Cond.methodLink RX12 281 yX12_sum, Cond.instanceMethod yX12_sum, Cond.selects RX12 yX12_sum yX12_sum, Cond.code yX12_primary cX12_primary 2 none, Cond.methodLink RX12 247 yX12_isSign, Cond.instanceMethod yX12_isSign, Cond.selects RX12 yX12_isSign yX12_isSign, Cond.code yX12_isSign cX12_isSign 2 (some .boolean), Cond.code yX12_product cX12_product 2 none, Cond.methodLink RX12 287 yX12_primary, Cond.instanceMethod yX12_primary, Cond.selects RX12 yX12_primary yX12_primary, Cond.code yX12_sum cX12_sum 2 none, Cond.methodLink RX12 284 yX12_product, Cond.instanceMethod yX12_product]
def wsL_law0_r25 : List Cond := [Cond.selects RX12 yX12_product yX12_product, Cond.methodLink RX12 299 yX12_half, Cond.static yX12_half, Cond.code yX12_half cX12_half 3 none, Cond.methodLink RL 31 yX11_fault, Cond.instanceMethod yX11_fault, Cond.selects RX11 yX11_fault yX11_fault, Cond.code yX11_fault cX11_fault 2 (some .int), Cond.methodLink RL 34 yX12_fault, Cond.instanceMethod yX12_fault, Cond.selects RX12 yX12_fault yX12_fault, Cond.code yX12_fault cX12_fault 2 (some .int), Cond.methodLink RL 35 yX11_named, Cond.instanceMethod yX11_named, Cond.selects RX11 yX11_named yX11_named, Cond.code yX11_named cX11_named 2 (some .int), Cond.methodLink RX11 137 yX6_numberOf, Cond.methodLink RL 38 yX12_named, Cond.instanceMethod yX12_named, Cond.selects RX12 yX12_named yX12_named, Cond.code yX12_named cX12_named 2 (some .int), Cond.methodLink RL 39 yL_party, Cond.static yL_party, Cond.initialized RL]
def wsL_law0_r26 : List Cond := [Cond.codeWith yL_party cL_party 5 (some .int) [(0, 10, 13, 13), (0, 10, 17, 15)], Cond.classLink RL 13 "java/lang/IndexOutOfBoundsException", Cond.classLink RL 15 "java/util/NoSuchElementException", Cond.methodLink RL 7 yX11_party, Cond.instanceMethod yX11_party, Cond.selects RX11 yX11_party yX11_party, Cond.code yX11_party cX11_party 3 (some .int), Cond.classLink RX11 145 "java/lang/IndexOutOfBoundsException", Cond.initialized "java/lang/IndexOutOfBoundsException", Cond.classLink RX11 172 "java/util/NoSuchElementException", Cond.initialized "java/util/NoSuchElementException", Cond.methodLink RX11 141 yX6_hasParty, Cond.instanceMethod yX6_hasParty, Cond.selects RX6 yX6_hasParty yX6_hasParty, Cond.code yX6_hasParty cX6_hasParty 2 (some .boolean), Cond.methodLink RX11 152 yX6_trait, Cond.instanceMethod yX6_trait, Cond.selects RX6 yX6_trait yX6_trait, Cond.code yX6_trait cX6_trait 3 (some .int), Cond.methodLink RL 44 yX12_party, Cond.instanceMethod yX12_party, Cond.selects RX12 yX12_party yX12_party, Cond.code yX12_party cX12_party 3 (some .int), Cond.methodLink RX12 414 yX12_isParty]
def wsL_law0_r27 : List Cond := [Cond.instanceMethod yX12_isParty, Cond.selects RX12 yX12_isParty yX12_isParty, Cond.code yX12_isParty cX12_isParty 2 (some .boolean), Cond.methodLink RL 45 yX12_thrown, Cond.instanceMethod yX12_thrown, Cond.selects RX12 yX12_thrown yX12_thrown, Cond.code yX12_thrown cX12_thrown 1 (some .int), Cond.methodLink RL 49 yX11_wish, Cond.instanceMethod yX11_wish, Cond.selects RX11 yX11_wish yX11_wish, Cond.code yX11_wish cX11_wish 3 (some .int), Cond.methodLink RL 52 yX12_wish, Cond.instanceMethod yX12_wish, Cond.selects RX12 yX12_wish yX12_wish, Cond.code yX12_wish cX12_wish 3 (some .int), Cond.methodLink RL 53 yX11_sitting, Cond.instanceMethod yX11_sitting, Cond.selects RX11 yX11_sitting yX11_sitting, Cond.code yX11_sitting cX11_sitting 3 (some .int), Cond.methodLink RX11 177 yX6_hasSitting, Cond.instanceMethod yX6_hasSitting, Cond.selects RX6 yX6_hasSitting yX6_hasSitting, Cond.code yX6_hasSitting cX6_hasSitting 2 (some .boolean), Cond.methodLink RX11 189 yX8_personsFor]
def wsL_law0_r28 : List Cond := [Cond.instanceMethod yX8_personsFor, Cond.selects RX8 yX8_personsFor yX8_personsFor, Cond.code yX8_personsFor cX8_personsFor 5 (some .int), Cond.methodLink RX8 89 yX6_trait, Cond.methodLink RX11 196 yX11_ofLatestDay, Cond.instanceMethod yX11_ofLatestDay, Cond.selects RX11 yX11_ofLatestDay yX11_ofLatestDay, Cond.code yX11_ofLatestDay cX11_ofLatestDay 3 (some .int), Cond.methodLink RL 56 yX12_sitting, Cond.instanceMethod yX12_sitting, Cond.selects RX12 yX12_sitting yX12_sitting, Cond.code yX12_sitting cX12_sitting 3 (some .int), Cond.methodLink RX12 417 yX12_isSitting, Cond.instanceMethod yX12_isSitting, Cond.selects RX12 yX12_isSitting yX12_isSitting, Cond.code yX12_isSitting cX12_isSitting 2 (some .boolean), Cond.methodLink RX12 420 yX12_withTicket, Cond.instanceMethod yX12_withTicket, Cond.selects RX12 yX12_withTicket yX12_withTicket, Cond.code yX12_withTicket cX12_withTicket 4 (some .int), Cond.methodLink RL 57 yX11_law, Cond.instanceMethod yX11_law, Cond.selects RX11 yX11_law yX11_law, Cond.code yX11_law cX11_law 5 (some .long)]
def wsL_law0_r29 : List Cond := [Cond.constantLong RX11 218 (-9223372036854775808), Cond.methodLink RX11 214 yX11_areSuch, Cond.instanceMethod yX11_areSuch, Cond.selects RX11 yX11_areSuch yX11_areSuch, Cond.code yX11_areSuch cX11_areSuch 3 (some .boolean), Cond.methodLink RX11 220 yX0_look, Cond.static yX0_look, Cond.code yX0_look cX0_look 8 none, Cond.methodLink RX0 185 Lib.Math.min.name, Cond.methodLink RX0 48 yX6_hasSitting, Cond.methodLink RX0 37 yX6_trait, Cond.methodLink RX11 228 yX3_work, Cond.instanceMethod yX3_work, Cond.selects RX3 yX3_work yX3_work, Cond.code yX3_work cX3_work 8 (some .long), Cond.constantLong RX3 42 (-9223372036854775808), Cond.methodLink RX3 44 Lib.Math.max.name, Cond.constantLong RX3 61 (1000000000000), Cond.constantLong RX3 63 (-1000000000000), Cond.methodLink RX3 38 yX3_isTold, Cond.methodLink RX3 50 yX3_isLeaf, Cond.static yX3_isLeaf, Cond.code yX3_isLeaf cX3_isLeaf 1 (some .boolean), Cond.methodLink RX3 53 yX3_join]
def wsL_law0_r30 : List Cond := [Cond.static yX3_join, Cond.code yX3_join cX3_join 9 (some .long), Cond.methodLink RX3 57 yX3_leaf, Cond.instanceMethod yX3_leaf, Cond.selects RX3 yX3_leaf yX3_leaf, Cond.code yX3_leaf cX3_leaf 4 (some .long), Cond.methodLink RL 61 yX12_law, Cond.instanceMethod yX12_law, Cond.selects RX12 yX12_law yX12_law, Cond.code yX12_law cX12_law 5 (some .long), Cond.constantLong RX12 425 (-9223372036854775808), Cond.methodLink RX12 339 yX12_hasLaw, Cond.instanceMethod yX12_hasLaw, Cond.selects RX12 yX12_hasLaw yX12_hasLaw, Cond.code yX12_hasLaw cX12_hasLaw 2 (some .boolean), Cond.methodLink RX12 351 yX12_calls, Cond.instanceMethod yX12_calls, Cond.selects RX12 yX12_calls yX12_calls, Cond.code yX12_calls cX12_calls 5 none, Cond.methodLink RX12 336 yX12_coffeeIn, Cond.instanceMethod yX12_coffeeIn, Cond.selects RX12 yX12_coffeeIn yX12_coffeeIn, Cond.code yX12_coffeeIn cX12_coffeeIn 2 (some .int), Cond.methodLink RX12 333 Lib.Math.min.name]
def wsL_law0_r31 : List Cond := [Cond.methodLink RX12 342 yX12_goes, Cond.instanceMethod yX12_goes, Cond.selects RX12 yX12_goes yX12_goes, Cond.code yX12_goes cX12_goes 3 (some .boolean), Cond.fieldLink RX12 313 "ThreeSittingsModel" "workedMany" "I", Cond.methodLink RX12 330 yX12_works, Cond.instanceMethod yX12_works, Cond.selects RX12 yX12_works yX12_works, Cond.code yX12_works cX12_works 8 (some .boolean), Cond.methodLink RX12 320 Lib.MathLoose.abs_long.x, Cond.static Lib.MathLoose.abs_long.x, Cond.code Lib.MathLoose.abs_long.x Lib.MathLoose.abs_long.code 2 (some .long), Cond.constantLong RX12 326 (1000000000000), Cond.constantLong RX12 328 (-1000000000000), Cond.methodLink RX12 316 yX12_is, Cond.static yX12_is, Cond.code yX12_is cX12_is 1 (some .long), Cond.methodLink RL 62 yX11_give, Cond.instanceMethod yX11_give, Cond.selects RX11 yX11_give yX11_give, Cond.code yX11_give cX11_give 4 (some .boolean), Cond.methodLink RX11 234 yX6_mostTickets, Cond.instanceMethod yX6_mostTickets, Cond.selects RX6 yX6_mostTickets yX6_mostTickets]
def wsL_law0_r32 : List Cond := [Cond.code yX6_mostTickets cX6_mostTickets 1 (some .int), Cond.methodLink RX11 238 yX2_add, Cond.instanceMethod yX2_add, Cond.selects RX2 yX2_add yX2_add, Cond.code yX2_add cX2_add 4 none, Cond.methodLink RX2 25 arraycopyName, Cond.methodLink RL 66 yX12_give, Cond.instanceMethod yX12_give, Cond.selects RX12 yX12_give yX12_give, Cond.code yX12_give cX12_give 3 (some .boolean), Cond.methodLink RX12 427 yX12_keepNow, Cond.instanceMethod yX12_keepNow, Cond.selects RX12 yX12_keepNow yX12_keepNow, Cond.code yX12_keepNow cX12_keepNow 2 none, Cond.methodLink RX12 407 yX12_copies, Cond.instanceMethod yX12_copies, Cond.selects RX12 yX12_copies yX12_copies, Cond.code yX12_copies cX12_copies 6 none, Cond.methodLink RL 67 yX11_sign, Cond.instanceMethod yX11_sign, Cond.selects RX11 yX11_sign yX11_sign, Cond.code yX11_sign cX11_sign 3 (some .boolean), Cond.methodLink RL 70 yX12_sign_, Cond.instanceMethod yX12_sign_]
def wsL_law0_r33 : List Cond := [Cond.selects RX12 yX12_sign_ yX12_sign_, Cond.code yX12_sign_ cX12_sign_ 3 (some .boolean), Cond.methodLink RL 71 yX11_price, Cond.instanceMethod yX11_price, Cond.selects RX11 yX11_price yX11_price, Cond.code yX11_price cX11_price 3 (some .boolean), Cond.methodLink RL 74 yX12_price, Cond.instanceMethod yX12_price, Cond.selects RX12 yX12_price yX12_price, Cond.code yX12_price cX12_price 3 (some .boolean), Cond.methodLink RL 75 yX11_days, Cond.instanceMethod yX11_days, Cond.selects RX11 yX11_days yX11_days, Cond.code yX11_days cX11_days 3 (some .int), Cond.methodLink RX11 245 yX0_goThrough, Cond.instanceMethod yX0_goThrough, Cond.selects RX0 yX0_goThrough yX0_goThrough, Cond.code yX0_goThrough cX0_goThrough 6 none, Cond.methodLink RX0 21 yX0_serve, Cond.instanceMethod yX0_serve, Cond.selects RX0 yX0_serve yX0_serve, Cond.code yX0_serve cX0_serve 8 (some .int), Cond.methodLink RX0 63 Lib.Math.max.name, Cond.methodLink RX0 77 yX0_sitDown]
def wsL_law0_r34 : List Cond := [Cond.static yX0_sitDown, Cond.code yX0_sitDown cX0_sitDown 11 (some .boolean), Cond.methodLink RX0 124 yX6_hasParty, Cond.methodLink RX0 113 yX0_manner, Cond.static yX0_manner, Cond.code yX0_manner cX0_manner 10 (some .int), Cond.constantLong RX0 165 (-9223372036854775808), Cond.methodLink RX0 170 Lib.MathLoose.max_long.x, Cond.static Lib.MathLoose.max_long.x, Cond.code Lib.MathLoose.max_long.x Lib.MathLoose.max_long.code 4 (some .long), Cond.methodLink RX0 176 Lib.MathLoose.min_long.x, Cond.static Lib.MathLoose.min_long.x, Cond.code Lib.MathLoose.min_long.x Lib.MathLoose.min_long.code 4 (some .long), Cond.methodLink RX0 151 yX0_look, Cond.methodLink RX0 159 yX3_work, Cond.methodLink RX0 84 yX0_comes, Cond.static yX0_comes, Cond.code yX0_comes cX0_comes 6 (some .boolean), Cond.methodLink RX0 120 yX8_draw, Cond.instanceMethod yX8_draw, Cond.selects RX8 yX8_draw yX8_draw, Cond.code yX8_draw cX8_draw 1 (some .int), Cond.constant RX8 93 (1103515245), Cond.constant RX8 94 (2147483647)]
def wsL_law0_r35 : List Cond := [Cond.constant RX8 95 (65536), Cond.methodLink RX0 93 yX0_standing, Cond.instanceMethod yX0_standing, Cond.selects RX0 yX0_standing yX0_standing, Cond.code yX0_standing cX0_standing 4 (some .int), Cond.methodLink RX0 97 yX0_laying, Cond.static yX0_laying, Cond.code yX0_laying cX0_laying 3 (some .int), Cond.methodLink RL 78 yX12_days, Cond.instanceMethod yX12_days, Cond.selects RX12 yX12_days yX12_days, Cond.code yX12_days cX12_days 3 (some .int), Cond.methodLink RX12 410 yX12_passes, Cond.instanceMethod yX12_passes, Cond.selects RX12 yX12_passes yX12_passes, Cond.code yX12_passes cX12_passes 7 none, Cond.methodLink RX12 385 Lib.Math.max.name, Cond.fieldLink RX12 382 "ThreeSittingsModel" "ends" "I", Cond.fieldLink RX12 372 "ThreeSittingsModel" "standing" "I", Cond.methodLink RX12 400 yX12_sits, Cond.instanceMethod yX12_sits, Cond.selects RX12 yX12_sits yX12_sits, Cond.code yX12_sits cX12_sits 8 none, Cond.fieldLink RX12 369 "ThreeSittingsModel" "left" "I"]
def wsL_law0_r36 : List Cond := [Cond.fieldLink RX12 359 "ThreeSittingsModel" "tryWhat" "I", Cond.methodLink RX12 387 yX12_seatsOf, Cond.instanceMethod yX12_seatsOf, Cond.selects RX12 yX12_seatsOf yX12_seatsOf, Cond.code yX12_seatsOf cX12_seatsOf 1 (some .int), Cond.methodLink RX12 390 yX12_takesSeat, Cond.instanceMethod yX12_takesSeat, Cond.selects RX12 yX12_takesSeat yX12_takesSeat, Cond.code yX12_takesSeat cX12_takesSeat 10 none, Cond.methodLink RX12 375 yX12_likeOf, Cond.instanceMethod yX12_likeOf, Cond.selects RX12 yX12_likeOf yX12_likeOf, Cond.code yX12_likeOf cX12_likeOf 5 (some .int), Cond.methodLink RX12 355 yX12_within, Cond.instanceMethod yX12_within, Cond.selects RX12 yX12_within yX12_within, Cond.code yX12_within cX12_within 4 (some .int), Cond.methodLink RX12 345 Lib.MathLoose.min_long.x, Cond.methodLink RX12 348 Lib.MathLoose.max_long.x, Cond.methodLink RX12 379 yX12_stayOf, Cond.instanceMethod yX12_stayOf, Cond.selects RX12 yX12_stayOf yX12_stayOf, Cond.code yX12_stayOf cX12_stayOf 5 (some .int), Cond.methodLink RX12 393 yX12_missOf]
def wsL_law0_r37 : List Cond := [Cond.instanceMethod yX12_missOf, Cond.selects RX12 yX12_missOf yX12_missOf, Cond.code yX12_missOf cX12_missOf 5 (some .int), Cond.methodLink RX12 396 yX12_comes, Cond.instanceMethod yX12_comes, Cond.selects RX12 yX12_comes yX12_comes, Cond.code yX12_comes cX12_comes 4 (some .boolean), Cond.constant RX12 365 (1103515245), Cond.constant RX12 368 (2147483647), Cond.methodLink RX12 404 yX12_handsOf, Cond.instanceMethod yX12_handsOf, Cond.selects RX12 yX12_handsOf yX12_handsOf, Cond.code yX12_handsOf cX12_handsOf 1 (some .int), Cond.fieldLink RX12 362 "ThreeSittingsModel" "tryHands" "I", Cond.methodLink RL 79 yX11_best, Cond.instanceMethod yX11_best, Cond.selects RX11 yX11_best yX11_best, Cond.code yX11_best cX11_best 3 (some .int), Cond.methodLink RX11 249 yX11_findBest, Cond.instanceMethod yX11_findBest, Cond.selects RX11 yX11_findBest yX11_findBest, Cond.code yX11_findBest cX11_findBest 5 none, Cond.methodLink RX11 267 yX11_likeNow, Cond.instanceMethod yX11_likeNow]
def wsL_law0_r38 : List Cond := [Cond.selects RX11 yX11_likeNow yX11_likeNow, Cond.code yX11_likeNow cX11_likeNow 3 (some .int), Cond.methodLink RX11 276 yX0_manner, Cond.methodLink RX11 270 yX1_tell, Cond.instanceMethod yX1_tell, Cond.selects RX1 yX1_tell yX1_tell, Cond.code yX1_tell cX1_tell 4 none, Cond.methodLink RX11 273 yX1_find, Cond.instanceMethod yX1_find, Cond.selects RX1 yX1_find yX1_find, Cond.code yX1_find cX1_find 5 none, Cond.methodLink RX1 45 Lib.Math.max.name, Cond.methodLink RX1 51 yX6_mostTickets, Cond.methodLink RX1 55 yX1_search, Cond.instanceMethod yX1_search, Cond.selects RX1 yX1_search yX1_search, Cond.code yX1_search cX1_search 6 none, Cond.methodLink RX1 59 arraycopyName, Cond.methodLink RX1 65 yX6_trait, Cond.methodLink RL 82 yX12_best, Cond.instanceMethod yX12_best, Cond.selects RX12 yX12_best yX12_best, Cond.code yX12_best cX12_best 2 (some .int), Cond.methodLink RX12 443 yX12_layBest]
def wsL_law0_r39 : List Cond := [Cond.instanceMethod yX12_layBest, Cond.selects RX12 yX12_layBest yX12_layBest, Cond.code yX12_layBest cX12_layBest 2 none, Cond.fieldLink RX12 433 "ThreeSittingsModel" "bestLike" "I", Cond.methodLink RX12 436 yX12_rows, Cond.instanceMethod yX12_rows, Cond.selects RX12 yX12_rows yX12_rows, Cond.code yX12_rows cX12_rows 4 none, Cond.methodLink RX12 439 yX12_mayHave, Cond.instanceMethod yX12_mayHave, Cond.selects RX12 yX12_mayHave yX12_mayHave, Cond.code yX12_mayHave cX12_mayHave 3 (some .boolean), Cond.methodLink RL 83 yX11_bestSum, Cond.instanceMethod yX11_bestSum, Cond.selects RX11 yX11_bestSum yX11_bestSum, Cond.code yX11_bestSum cX11_bestSum 1 (some .int), Cond.methodLink RL 86 yX12_bestSum, Cond.instanceMethod yX12_bestSum, Cond.selects RX12 yX12_bestSum yX12_bestSum, Cond.code yX12_bestSum cX12_bestSum 1 (some .int), Cond.methodLink RL 87 yX11_choice, Cond.instanceMethod yX11_choice, Cond.selects RX11 yX11_choice yX11_choice, Cond.code yX11_choice cX11_choice 3 (some .int)]
def wsL_law0_r40 : List Cond := [Cond.methodLink RX11 280 yX6_chosen, Cond.instanceMethod yX6_chosen, Cond.selects RX6 yX6_chosen yX6_chosen, Cond.code yX6_chosen cX6_chosen 7 (some .int), Cond.methodLink RX6 59 yX6_trait, Cond.methodLink RL 90 yX12_choice, Cond.instanceMethod yX12_choice, Cond.selects RX12 yX12_choice yX12_choice, Cond.code yX12_choice cX12_choice 3 (some .int), Cond.methodLink RX12 446 yX12_choiceOf, Cond.instanceMethod yX12_choiceOf, Cond.selects RX12 yX12_choiceOf yX12_choiceOf, Cond.code yX12_choiceOf cX12_choiceOf 6 (some .int), Cond.methodLink RL 91 yX11_level, Cond.instanceMethod yX11_level, Cond.selects RX11 yX11_level yX11_level, Cond.code yX11_level cX11_level 2 (some .int), Cond.methodLink RX11 284 yX4_priceOf, Cond.instanceMethod yX4_priceOf, Cond.selects RX4 yX4_priceOf yX4_priceOf, Cond.code yX4_priceOf cX4_priceOf 3 (some .int), Cond.methodLink RX4 25 yX4_find, Cond.instanceMethod yX4_find, Cond.selects RX4 yX4_find yX4_find]
def wsL_law0_r41 : List Cond := [Cond.code yX4_find cX4_find 4 none, Cond.methodLink RX4 29 yX4_tooFull, Cond.instanceMethod yX4_tooFull, Cond.selects RX4 yX4_tooFull yX4_tooFull, Cond.code yX4_tooFull cX4_tooFull 4 (some .int), Cond.methodLink RX4 39 yX6_chosen, Cond.methodLink RX4 43 yX6_trait, Cond.methodLink RL 94 yX12_level, Cond.instanceMethod yX12_level, Cond.selects RX12 yX12_level yX12_level, Cond.code yX12_level cX12_level 7 (some .int), Cond.methodLink RX12 449 yX12_layCode, Cond.instanceMethod yX12_layCode, Cond.selects RX12 yX12_layCode yX12_layCode, Cond.code yX12_layCode cX12_layCode 5 (some .int), Cond.methodLink RX12 452 yX12_isLevel, Cond.instanceMethod yX12_isLevel, Cond.selects RX12 yX12_isLevel yX12_isLevel, Cond.code yX12_isLevel cX12_isLevel 4 (some .boolean), Cond.methodLink RL 95 yX11_crowd, Cond.instanceMethod yX11_crowd, Cond.selects RX11 yX11_crowd yX11_crowd, Cond.code yX11_crowd cX11_crowd 11 (some .long), Cond.constantLong RX11 287 (-1)]
def wsL_law0_r42 : List Cond := [Cond.constantLong RX11 293 (100), Cond.methodLink RX11 295 Lib.Math.max.name, Cond.methodLink RX11 289 yX11_mayCome, Cond.instanceMethod yX11_mayCome, Cond.selects RX11 yX11_mayCome yX11_mayCome, Cond.code yX11_mayCome cX11_mayCome 6 none, Cond.methodLink RX11 300 yX11_commonDivisor, Cond.static yX11_commonDivisor, Cond.code yX11_commonDivisor cX11_commonDivisor 11 (some .long), Cond.methodLink RL 99 yX12_crowd, Cond.instanceMethod yX12_crowd, Cond.selects RX12 yX12_crowd yX12_crowd, Cond.code yX12_crowd cX12_crowd 15 (some .long), Cond.constantLong RX12 456 (-1), Cond.constantLong RX12 458 (100), Cond.methodLink RX12 460 yX12_common, Cond.static yX12_common, Cond.code yX12_common cX12_common 10 (some .long), Cond.methodLink RL 100 yX11_late, Cond.instanceMethod yX11_late, Cond.selects RX11 yX11_late yX11_late, Cond.code yX11_late cX11_late 2 (some .int), Cond.methodLink RX11 304 yX11_tryToday, Cond.instanceMethod yX11_tryToday]
def wsL_law0_r43 : List Cond := [Cond.selects RX11 yX11_tryToday yX11_tryToday, Cond.code yX11_tryToday cX11_tryToday 2 none, Cond.methodLink RX11 308 yX8_copy, Cond.instanceMethod yX8_copy, Cond.selects RX8 yX8_copy yX8_copy, Cond.code yX8_copy cX8_copy 2 none, Cond.methodLink RX8 80 arraycopyName, Cond.methodLink RL 103 yX12_late, Cond.instanceMethod yX12_late, Cond.selects RX12 yX12_late yX12_late, Cond.code yX12_late cX12_late 2 (some .int), Cond.methodLink RX12 430 yX12_today, Cond.instanceMethod yX12_today, Cond.selects RX12 yX12_today yX12_today, Cond.code yX12_today cX12_today 1 none, Cond.methodLink RX12 463 yX12_lateIn, Cond.instanceMethod yX12_lateIn, Cond.selects RX12 yX12_lateIn yX12_lateIn, Cond.code yX12_lateIn cX12_lateIn 3 (some .int), Cond.methodLink RL 104 yX11_catchUp, Cond.instanceMethod yX11_catchUp, Cond.selects RX11 yX11_catchUp yX11_catchUp, Cond.code yX11_catchUp cX11_catchUp 3 (some .int), Cond.methodLink RL 107 yX12_catchUp]
def wsL_law0_r44 : List Cond := [Cond.instanceMethod yX12_catchUp, Cond.selects RX12 yX12_catchUp yX12_catchUp, Cond.code yX12_catchUp cX12_catchUp 3 (some .int), Cond.methodLink RL 108 yX11_hands, Cond.instanceMethod yX11_hands, Cond.selects RX11 yX11_hands yX11_hands, Cond.code yX11_hands cX11_hands 2 (some .int), Cond.methodLink RX11 312 yX10_reset, Cond.instanceMethod yX10_reset, Cond.selects RX10 yX10_reset yX10_reset, Cond.code yX10_reset cX10_reset 2 none, Cond.methodLink RX11 318 yX8_isAnyLate, Cond.instanceMethod yX8_isAnyLate, Cond.selects RX8 yX8_isAnyLate yX8_isAnyLate, Cond.code yX8_isAnyLate cX8_isAnyLate 3 (some .boolean), Cond.methodLink RL 111 yX12_hands, Cond.instanceMethod yX12_hands, Cond.selects RX12 yX12_hands yX12_hands, Cond.code yX12_hands cX12_hands 3 (some .int), Cond.methodLink RX12 466 yX12_isAnyLate, Cond.instanceMethod yX12_isAnyLate, Cond.selects RX12 yX12_isAnyLate yX12_isAnyLate, Cond.code yX12_isAnyLate cX12_isAnyLate 2 (some .boolean), Cond.methodLink RL 112 yX11_empties]
def wsL_law0_r45 : List Cond := [Cond.instanceMethod yX11_empties, Cond.selects RX11 yX11_empties yX11_empties, Cond.code yX11_empties cX11_empties 2 (some .int), Cond.methodLink RL 115 yX12_empties, Cond.instanceMethod yX12_empties, Cond.selects RX12 yX12_empties yX12_empties, Cond.code yX12_empties cX12_empties 2 (some .int), Cond.methodLink RL 116 yX11_likes, Cond.instanceMethod yX11_likes, Cond.selects RX11 yX11_likes yX11_likes, Cond.code yX11_likes cX11_likes 3 (some .int), Cond.methodLink RL 119 yX12_likes, Cond.instanceMethod yX12_likes, Cond.selects RX12 yX12_likes yX12_likes, Cond.code yX12_likes cX12_likes 3 (some .int), Cond.methodLink RL 120 yX11_stays, Cond.instanceMethod yX11_stays, Cond.selects RX11 yX11_stays yX11_stays, Cond.code yX11_stays cX11_stays 3 (some .int), Cond.methodLink RL 123 yX12_stays, Cond.instanceMethod yX12_stays, Cond.selects RX12 yX12_stays yX12_stays, Cond.code yX12_stays cX12_stays 3 (some .int), Cond.methodLink RL 124 yX11_misses]
def wsL_law0_r46 : List Cond := [Cond.instanceMethod yX11_misses, Cond.selects RX11 yX11_misses yX11_misses, Cond.code yX11_misses cX11_misses 3 (some .int), Cond.methodLink RL 127 yX12_misses, Cond.instanceMethod yX12_misses, Cond.selects RX12 yX12_misses yX12_misses, Cond.code yX12_misses cX12_misses 3 (some .int), Cond.methodLink RL 128 yX11_mostCross, Cond.instanceMethod yX11_mostCross, Cond.selects RX11 yX11_mostCross yX11_mostCross, Cond.code yX11_mostCross cX11_mostCross 4 (some .int), Cond.methodLink RL 131 yX12_mostCross, Cond.instanceMethod yX12_mostCross, Cond.selects RX12 yX12_mostCross yX12_mostCross, Cond.code yX12_mostCross cX12_mostCross 4 (some .int), Cond.methodLink RL 132 yX11_without, Cond.instanceMethod yX11_without, Cond.selects RX11 yX11_without yX11_without, Cond.code yX11_without cX11_without 1 (some .int), Cond.methodLink RL 135 yX12_without, Cond.instanceMethod yX12_without, Cond.selects RX12 yX12_without yX12_without, Cond.code yX12_without cX12_without 1 (some .int), Cond.methodLink RL 136 yX11_swap]
def wsL_law0_r47 : List Cond := [Cond.instanceMethod yX11_swap, Cond.selects RX11 yX11_swap yX11_swap, Cond.code yX11_swap cX11_swap 4 (some .int), Cond.methodLink RX11 321 yX11_wouldSwap, Cond.instanceMethod yX11_wouldSwap, Cond.selects RX11 yX11_wouldSwap yX11_wouldSwap, Cond.code yX11_wouldSwap cX11_wouldSwap 6 (some .boolean), Cond.methodLink RL 139 yX12_swap, Cond.instanceMethod yX12_swap, Cond.selects RX12 yX12_swap yX12_swap, Cond.code yX12_swap cX12_swap 4 (some .int), Cond.methodLink RX12 469 yX12_gains, Cond.instanceMethod yX12_gains, Cond.selects RX12 yX12_gains yX12_gains, Cond.code yX12_gains cX12_gains 4 (some .boolean), Cond.methodLink RX12 472 yX12_fits, Cond.instanceMethod yX12_fits, Cond.selects RX12 yX12_fits yX12_fits, Cond.code yX12_fits cX12_fits 4 (some .boolean), Cond.methodLink RL 140 yX11_later, Cond.instanceMethod yX11_later, Cond.selects RX11 yX11_later yX11_later, Cond.code yX11_later cX11_later 3 (some .int), Cond.methodLink RL 143 yX12_later]
def wsL_law0_r48 : List Cond := [Cond.instanceMethod yX12_later, Cond.selects RX12 yX12_later yX12_later, Cond.code yX12_later cX12_later 4 (some .int), Cond.methodLink RL 144 yX11_rests, Cond.instanceMethod yX11_rests, Cond.selects RX11 yX11_rests yX11_rests, Cond.code yX11_rests cX11_rests 5 (some .int), Cond.methodLink RX11 327 yX11_areTwo, Cond.instanceMethod yX11_areTwo, Cond.selects RX11 yX11_areTwo yX11_areTwo, Cond.code yX11_areTwo cX11_areTwo 3 (some .boolean), Cond.methodLink RX11 330 yX11_isRest, Cond.static yX11_isRest, Cond.code yX11_isRest cX11_isRest 4 (some .boolean), Cond.methodLink RX11 334 yX11_gain, Cond.static yX11_gain, Cond.code yX11_gain cX11_gain 4 (some .int), Cond.methodLink RL 147 yX12_rests, Cond.instanceMethod yX12_rests, Cond.selects RX12 yX12_rests yX12_rests, Cond.code yX12_rests cX12_rests 3 (some .int), Cond.methodLink RX12 482 yX12_areTwo, Cond.instanceMethod yX12_areTwo, Cond.selects RX12 yX12_areTwo yX12_areTwo]
def wsL_law0_r49 : List Cond := [Cond.code yX12_areTwo cX12_areTwo 3 (some .boolean), Cond.methodLink RX12 485 yX12_restOf, Cond.instanceMethod yX12_restOf, Cond.selects RX12 yX12_restOf yX12_restOf, Cond.code yX12_restOf cX12_restOf 6 (some .int), Cond.methodLink RX12 478 yX12_isRest, Cond.instanceMethod yX12_isRest, Cond.selects RX12 yX12_isRest yX12_isRest, Cond.code yX12_isRest cX12_isRest 7 (some .boolean), Cond.methodLink RX12 475 yX12_has, Cond.instanceMethod yX12_has, Cond.selects RX12 yX12_has yX12_has, Cond.code yX12_has cX12_has 5 (some .int), Cond.methodLink RL 148 yX11_rest, Cond.instanceMethod yX11_rest, Cond.selects RX11 yX11_rest yX11_rest, Cond.code yX11_rest cX11_rest 6 (some .int), Cond.methodLink RL 152 yX12_rest, Cond.instanceMethod yX12_rest, Cond.selects RX12 yX12_rest yX12_rest, Cond.code yX12_rest cX12_rest 4 (some .int), Cond.methodLink RL 153 yX11_note, Cond.instanceMethod yX11_note, Cond.selects RX11 yX11_note yX11_note]
def wsL_law0_r50 : List Cond := [Cond.code yX11_note cX11_note 4 (some .int), Cond.methodLink RX11 338 yX5_add, Cond.instanceMethod yX5_add, Cond.selects RX5 yX5_add yX5_add, Cond.code yX5_add cX5_add 4 (some .int), Cond.methodLink RL 157 yX12_note, Cond.instanceMethod yX12_note, Cond.selects RX12 yX12_note yX12_note, Cond.code yX12_note cX12_note 4 (some .int), Cond.methodLink RL 158 yX11_out, Cond.instanceMethod yX11_out, Cond.selects RX11 yX11_out yX11_out, Cond.code yX11_out cX11_out 2 (some .int), Cond.methodLink RX11 341 yX5_has, Cond.instanceMethod yX5_has, Cond.selects RX5 yX5_has yX5_has, Cond.code yX5_has cX5_has 2 (some .boolean), Cond.methodLink RL 161 yX12_out, Cond.instanceMethod yX12_out, Cond.selects RX12 yX12_out yX12_out, Cond.code yX12_out cX12_out 2 (some .int), Cond.methodLink RL 162 yX11_known, Cond.instanceMethod yX11_known, Cond.selects RX11 yX11_known yX11_known]
def wsL_law0_r51 : List Cond := [Cond.code yX11_known cX11_known 2 (some .boolean), Cond.methodLink RL 166 yX12_known, Cond.instanceMethod yX12_known, Cond.selects RX12 yX12_known yX12_known, Cond.code yX12_known cX12_known 2 (some .boolean), Cond.methodLink RL 167 yX11_lingered, Cond.instanceMethod yX11_lingered, Cond.selects RX11 yX11_lingered yX11_lingered, Cond.code yX11_lingered cX11_lingered 3 (some .int), Cond.methodLink RX11 348 yX5_strike, Cond.instanceMethod yX5_strike, Cond.selects RX5 yX5_strike yX5_strike, Cond.code yX5_strike cX5_strike 2 none, Cond.methodLink RX5 38 yX5_knownCount, Cond.instanceMethod yX5_knownCount, Cond.selects RX5 yX5_knownCount yX5_knownCount, Cond.code yX5_knownCount cX5_knownCount 1 (some .int), Cond.methodLink RX5 32 Lib.Math.min.name, Cond.methodLink RX5 42 yX5_has, Cond.methodLink RX11 354 yX5_holdFor, Cond.instanceMethod yX5_holdFor, Cond.selects RX5 yX5_holdFor yX5_holdFor, Cond.code yX5_holdFor cX5_holdFor 3 (some .boolean), Cond.methodLink RL 170 yX12_lingered]
def wsL_law0_r52 : List Cond := [Cond.instanceMethod yX12_lingered, Cond.selects RX12 yX12_lingered yX12_lingered, Cond.code yX12_lingered cX12_lingered 3 (some .int), Cond.methodLink RX12 488 yX12_knownMany, Cond.instanceMethod yX12_knownMany, Cond.selects RX12 yX12_knownMany yX12_knownMany, Cond.code yX12_knownMany cX12_knownMany 1 (some .int), Cond.methodLink RX12 491 yX12_isLinger, Cond.instanceMethod yX12_isLinger, Cond.selects RX12 yX12_isLinger yX12_isLinger, Cond.code yX12_isLinger cX12_isLinger 3 (some .boolean), Cond.methodLink RL 171 yX11_chance, Cond.instanceMethod yX11_chance, Cond.selects RX11 yX11_chance yX11_chance, Cond.code yX11_chance cX11_chance 8 (some .int), Cond.methodLink RL 174 yX12_chance, Cond.instanceMethod yX12_chance, Cond.selects RX12 yX12_chance yX12_chance, Cond.code yX12_chance cX12_chance 8 (some .int), Cond.methodLink RL 175 yX11_tried, Cond.instanceMethod yX11_tried, Cond.selects RX11 yX11_tried yX11_tried, Cond.code yX11_tried cX11_tried 6 (some .int), Cond.methodLink RX11 364 yX10_change]
def wsL_law0_r53 : List Cond := [Cond.instanceMethod yX10_change, Cond.selects RX10 yX10_change yX10_change, Cond.code yX10_change cX10_change 3 none, Cond.methodLink RL 178 yX12_tried, Cond.instanceMethod yX12_tried, Cond.selects RX12 yX12_tried yX12_tried, Cond.code yX12_tried cX12_tried 6 (some .int), Cond.methodLink RL 179 yX11_undo, Cond.instanceMethod yX11_undo, Cond.selects RX11 yX11_undo yX11_undo, Cond.code yX11_undo cX11_undo 1 (some .int), Cond.methodLink RX11 370 yX2_takeBack, Cond.instanceMethod yX2_takeBack, Cond.selects RX2 yX2_takeBack yX2_takeBack, Cond.code yX2_takeBack cX2_takeBack 3 none, Cond.methodLink RL 182 yX12_undo, Cond.instanceMethod yX12_undo, Cond.selects RX12 yX12_undo yX12_undo, Cond.code yX12_undo cX12_undo 1 (some .int), Cond.methodLink RL 183 yX11_keep, Cond.instanceMethod yX11_keep, Cond.selects RX11 yX11_keep yX11_keep, Cond.code yX11_keep cX11_keep 1 (some .int), Cond.methodLink RL 186 yX12_keep]
def wsL_law0_r54 : List Cond := [Cond.instanceMethod yX12_keep, Cond.selects RX12 yX12_keep yX12_keep, Cond.code yX12_keep cX12_keep 1 (some .int), Cond.methodLink RL 187 yX11_back, Cond.instanceMethod yX11_back, Cond.selects RX11 yX11_back yX11_back, Cond.code yX11_back cX11_back 1 (some .int), Cond.methodLink RL 190 yX12_back, Cond.instanceMethod yX12_back, Cond.selects RX12 yX12_back yX12_back, Cond.code yX12_back cX12_back 1 (some .int), Cond.methodLink RL 191 yX11_count, Cond.instanceMethod yX11_count, Cond.selects RX11 yX11_count yX11_count, Cond.code yX11_count cX11_count 2 (some .int), Cond.methodLink RX11 373 yX6_persons, Cond.instanceMethod yX6_persons, Cond.selects RX6 yX6_persons yX6_persons, Cond.code yX6_persons cX6_persons 3 (some .int), Cond.methodLink RX11 379 yX8_crossInAll, Cond.instanceMethod yX8_crossInAll, Cond.selects RX8 yX8_crossInAll yX8_crossInAll, Cond.code yX8_crossInAll cX8_crossInAll 3 (some .int), Cond.methodLink RX11 385 yX5_knownCount]
def wsL_law0_r55 : List Cond := [Cond.methodLink RL 194 yX12_count, Cond.instanceMethod yX12_count, Cond.selects RX12 yX12_count yX12_count, Cond.code yX12_count cX12_count 4 (some .int)]
def wsL_law0 : List Cond := (wsL_law0_r1 ++ (wsL_law0_r2 ++ (wsL_law0_r3 ++ (wsL_law0_r4 ++ (wsL_law0_r5 ++ (wsL_law0_r6 ++ (wsL_law0_r7 ++ (wsL_law0_r8 ++ (wsL_law0_r9 ++ (wsL_law0_r10 ++ (wsL_law0_r11 ++ (wsL_law0_r12 ++ (wsL_law0_r13 ++ (wsL_law0_r14 ++ (wsL_law0_r15 ++ (wsL_law0_r16 ++ (wsL_law0_r17 ++ (wsL_law0_r18 ++ (wsL_law0_r19 ++ (wsL_law0_r20 ++ (wsL_law0_r21 ++ (wsL_law0_r22 ++ (wsL_law0_r23 ++ (wsL_law0_r24 ++ (wsL_law0_r25 ++ (wsL_law0_r26 ++ (wsL_law0_r27 ++ (wsL_law0_r28 ++ (wsL_law0_r29 ++ (wsL_law0_r30 ++ (wsL_law0_r31 ++ (wsL_law0_r32 ++ (wsL_law0_r33 ++ (wsL_law0_r34 ++ (wsL_law0_r35 ++ (wsL_law0_r36 ++ (wsL_law0_r37 ++ (wsL_law0_r38 ++ (wsL_law0_r39 ++ (wsL_law0_r40 ++ (wsL_law0_r41 ++ (wsL_law0_r42 ++ (wsL_law0_r43 ++ (wsL_law0_r44 ++ (wsL_law0_r45 ++ (wsL_law0_r46 ++ (wsL_law0_r47 ++ (wsL_law0_r48 ++ (wsL_law0_r49 ++ (wsL_law0_r50 ++ (wsL_law0_r51 ++ (wsL_law0_r52 ++ (wsL_law0_r53 ++ (wsL_law0_r54 ++ wsL_law0_r55)))))))))))))))))))))))))))))))))))))))))))))))))))))) ++ wsX110 ++ wsX120 ++ wsX70 ++ wsX60 ++ wsX80 ++ wsX00 ++ wsX100 ++ wsX20 ++ wsX50 ++ wsX10 ++ wsX40 ++ wsX90 ++ wsX30 ++ ([] : List Cond)
def wsL_law : List Cond := wsL_law0 ++ (vx_atS RX11 149 "java/lang/IndexOutOfBoundsException" ["java/lang/RuntimeException", "java/lang/Exception"]).filter goodWord ++ (vx_atS RX11 176 "java/util/NoSuchElementException" ["java/lang/RuntimeException", "java/lang/Exception"]).filter goodWord
abbrev vwCl : List vw_C := [(RX0, TX0, 1), (RX1, TX1, 7), (RX2, TX2, 4), (RX3, TX3, 8), (RX4, TX4, 4), (RX5, TX5, 6), (RX6, TX6, 9), (RX7, TX7, 7), (RX8, TX8, 18), (RX9, TX9, 4), (RX10, TX10, 8), (RX11, TX11, 17), (RX12, TX12, 71)]
abbrev WL : List Cond := wsL_law0
theorem wl_0 : ∀ w ∈ wsL_law0, w ∈ WL := fun _ h => h
theorem wl_r1 : ∀ w ∈ wsL_law0_r1, w ∈ WL := fun w h => wl_0 w (List.mem_append_left _ (List.mem_append_left _ (List.mem_append_left _ (List.mem_append_left _ (List.mem_append_left _ (List.mem_append_left _ (List.mem_append_left _ (List.mem_append_left _ (List.mem_append_left _ (List.mem_append_left _ (List.mem_append_left _ (List.mem_append_left _ (List.mem_append_left _ (List.mem_append_left _ ((List.mem_append_left _ h))))))))))))))))
theorem wm_1_0 : Cond.classLink RL 8 RX11 ∈ WL := wl_r1 _ (List.mem_of_getElem? (i := 0) rfl)
theorem wm_1_1 : Cond.instantiable RX11 17 ∈ WL := wl_r1 _ (List.mem_of_getElem? (i := 1) rfl)
theorem wm_1_2 : Cond.initialized RX11 ∈ WL := wl_r1 _ (List.mem_of_getElem? (i := 2) rfl)
theorem wm_1_3 : Cond.classLink RL 18 RX12 ∈ WL := wl_r1 _ (List.mem_of_getElem? (i := 3) rfl)
theorem wm_1_4 : Cond.instantiable RX12 71 ∈ WL := wl_r1 _ (List.mem_of_getElem? (i := 4) rfl)
theorem wm_1_5 : Cond.initialized RX12 ∈ WL := wl_r1 _ (List.mem_of_getElem? (i := 5) rfl)
theorem wm_1_6 : Cond.arrayClass .long ∈ WL := wl_r1 _ (List.mem_of_getElem? (i := 6) rfl)
theorem wm_1_7 : Cond.methodLink RL 17 yX11_init ∈ WL := wl_r1 _ (List.mem_of_getElem? (i := 7) rfl)
theorem wm_1_8 : Cond.instanceMethod yX11_init ∈ WL := wl_r1 _ (List.mem_of_getElem? (i := 8) rfl)
theorem wm_1_9 : Cond.code yX11_init cX11_init 1 none ∈ WL := wl_r1 _ (List.mem_of_getElem? (i := 9) rfl)
theorem wm_1_10 : Cond.methodLink RX11 5 objectInit ∈ WL := wl_r1 _ (List.mem_of_getElem? (i := 10) rfl)
theorem wm_1_11 : Cond.instanceMethod objectInit ∈ WL := wl_r1 _ (List.mem_of_getElem? (i := 11) rfl)
theorem wm_1_12 : Cond.code objectInit ⟨#[0xb1]⟩ 1 none ∈ WL := wl_r1 _ (List.mem_of_getElem? (i := 12) rfl)
theorem wm_1_13 : Cond.arrayClass .byte ∈ WL := wl_r1 _ (List.mem_of_getElem? (i := 13) rfl)
theorem wm_1_14 : Cond.fieldLink RX11 11 "ThreeSittings" "tape" "[B" ∈ WL := wl_r1 _ (List.mem_of_getElem? (i := 14) rfl)
theorem wm_1_15 : Cond.fieldLink RX11 15 "ThreeSittings" "tapeLength" "I" ∈ WL := wl_r1 _ (List.mem_of_getElem? (i := 15) rfl)
theorem wm_1_16 : Cond.classLink RX11 19 RX7 ∈ WL := wl_r1 _ (List.mem_of_getElem? (i := 16) rfl)
theorem wm_1_17 : Cond.instantiable RX7 7 ∈ WL := wl_r1 _ (List.mem_of_getElem? (i := 17) rfl)
theorem wm_1_18 : Cond.initialized RX7 ∈ WL := wl_r1 _ (List.mem_of_getElem? (i := 18) rfl)
theorem wm_1_19 : Cond.fieldLink RX11 22 "ThreeSittings" "reader" "LThreeSittings$Reader;" ∈ WL := wl_r1 _ (List.mem_of_getElem? (i := 19) rfl)
theorem wm_1_20 : Cond.classLink RX11 26 RX6 ∈ WL := wl_r1 _ (List.mem_of_getElem? (i := 20) rfl)
theorem wm_1_21 : Cond.instantiable RX6 9 ∈ WL := wl_r1 _ (List.mem_of_getElem? (i := 21) rfl)
theorem wm_1_22 : Cond.initialized RX6 ∈ WL := wl_r1 _ (List.mem_of_getElem? (i := 22) rfl)
theorem wm_1_23 : Cond.fieldLink RX11 29 "ThreeSittings" "plan" "LThreeSittings$Plan;" ∈ WL := wl_r1 _ (List.mem_of_getElem? (i := 23) rfl)
theorem wl_r2 : ∀ w ∈ wsL_law0_r2, w ∈ WL := fun w h => wl_0 w (List.mem_append_left _ (List.mem_append_left _ (List.mem_append_left _ (List.mem_append_left _ (List.mem_append_left _ (List.mem_append_left _ (List.mem_append_left _ (List.mem_append_left _ (List.mem_append_left _ (List.mem_append_left _ (List.mem_append_left _ (List.mem_append_left _ (List.mem_append_left _ (List.mem_append_left _ ((List.mem_append_right _ (List.mem_append_left _ h)))))))))))))))))
theorem wm_2_0 : Cond.classLink RX11 33 RX8 ∈ WL := wl_r2 _ (List.mem_of_getElem? (i := 0) rfl)
theorem wm_2_1 : Cond.instantiable RX8 18 ∈ WL := wl_r2 _ (List.mem_of_getElem? (i := 1) rfl)
theorem wm_2_2 : Cond.initialized RX8 ∈ WL := wl_r2 _ (List.mem_of_getElem? (i := 2) rfl)
theorem wm_2_3 : Cond.fieldLink RX11 36 "ThreeSittings" "now" "LThreeSittings$State;" ∈ WL := wl_r2 _ (List.mem_of_getElem? (i := 3) rfl)
theorem wm_2_4 : Cond.fieldLink RX11 40 "ThreeSittings" "image" "LThreeSittings$State;" ∈ WL := wl_r2 _ (List.mem_of_getElem? (i := 4) rfl)
theorem wm_2_5 : Cond.fieldLink RX11 43 "ThreeSittings" "hasImage" "Z" ∈ WL := wl_r2 _ (List.mem_of_getElem? (i := 5) rfl)
theorem wm_2_6 : Cond.fieldLink RX11 47 "ThreeSittings" "trial" "LThreeSittings$State;" ∈ WL := wl_r2 _ (List.mem_of_getElem? (i := 6) rfl)
theorem wm_2_7 : Cond.classLink RX11 50 RX0 ∈ WL := wl_r2 _ (List.mem_of_getElem? (i := 7) rfl)
theorem wm_2_8 : Cond.instantiable RX0 1 ∈ WL := wl_r2 _ (List.mem_of_getElem? (i := 8) rfl)
theorem wm_2_9 : Cond.initialized RX0 ∈ WL := wl_r2 _ (List.mem_of_getElem? (i := 9) rfl)
theorem wm_2_10 : Cond.fieldLink RX11 53 "ThreeSittings" "car" "LThreeSittings$Car;" ∈ WL := wl_r2 _ (List.mem_of_getElem? (i := 10) rfl)
theorem wm_2_11 : Cond.classLink RX11 57 RX10 ∈ WL := wl_r2 _ (List.mem_of_getElem? (i := 11) rfl)
theorem wm_2_12 : Cond.instantiable RX10 8 ∈ WL := wl_r2 _ (List.mem_of_getElem? (i := 12) rfl)
theorem wm_2_13 : Cond.initialized RX10 ∈ WL := wl_r2 _ (List.mem_of_getElem? (i := 13) rfl)
theorem wm_2_14 : Cond.fieldLink RX11 60 "ThreeSittings" "asItGoes" "LThreeSittings$Ways;" ∈ WL := wl_r2 _ (List.mem_of_getElem? (i := 14) rfl)
theorem wm_2_15 : Cond.fieldLink RX11 64 "ThreeSittings" "byChance" "LThreeSittings$Ways;" ∈ WL := wl_r2 _ (List.mem_of_getElem? (i := 15) rfl)
theorem wm_2_16 : Cond.fieldLink RX11 67 "ThreeSittings" "otherwise" "LThreeSittings$Ways;" ∈ WL := wl_r2 _ (List.mem_of_getElem? (i := 16) rfl)
theorem wm_2_17 : Cond.classLink RX11 70 RX2 ∈ WL := wl_r2 _ (List.mem_of_getElem? (i := 17) rfl)
theorem wm_2_18 : Cond.instantiable RX2 4 ∈ WL := wl_r2 _ (List.mem_of_getElem? (i := 18) rfl)
theorem wm_2_19 : Cond.initialized RX2 ∈ WL := wl_r2 _ (List.mem_of_getElem? (i := 19) rfl)
theorem wm_2_20 : Cond.fieldLink RX11 73 "ThreeSittings" "history" "LThreeSittings$History;" ∈ WL := wl_r2 _ (List.mem_of_getElem? (i := 20) rfl)
theorem wm_2_21 : Cond.classLink RX11 77 RX5 ∈ WL := wl_r2 _ (List.mem_of_getElem? (i := 21) rfl)
theorem wm_2_22 : Cond.instantiable RX5 6 ∈ WL := wl_r2 _ (List.mem_of_getElem? (i := 22) rfl)
theorem wm_2_23 : Cond.initialized RX5 ∈ WL := wl_r2 _ (List.mem_of_getElem? (i := 23) rfl)
theorem wl_r3 : ∀ w ∈ wsL_law0_r3, w ∈ WL := fun w h => wl_0 w (List.mem_append_left _ (List.mem_append_left _ (List.mem_append_left _ (List.mem_append_left _ (List.mem_append_left _ (List.mem_append_left _ (List.mem_append_left _ (List.mem_append_left _ (List.mem_append_left _ (List.mem_append_left _ (List.mem_append_left _ (List.mem_append_left _ (List.mem_append_left _ (List.mem_append_left _ ((List.mem_append_right _ (List.mem_append_right _ (List.mem_append_left _ h))))))))))))))))))
theorem wm_3_0 : Cond.fieldLink RX11 80 "ThreeSittings" "notes" "LThreeSittings$Notes;" ∈ WL := wl_r3 _ (List.mem_of_getElem? (i := 0) rfl)
theorem wm_3_1 : Cond.classLink RX11 84 RX1 ∈ WL := wl_r3 _ (List.mem_of_getElem? (i := 1) rfl)
theorem wm_3_2 : Cond.instantiable RX1 7 ∈ WL := wl_r3 _ (List.mem_of_getElem? (i := 2) rfl)
theorem wm_3_3 : Cond.initialized RX1 ∈ WL := wl_r3 _ (List.mem_of_getElem? (i := 3) rfl)
theorem wm_3_4 : Cond.fieldLink RX11 87 "ThreeSittings" "giving" "LThreeSittings$Giving;" ∈ WL := wl_r3 _ (List.mem_of_getElem? (i := 4) rfl)
theorem wm_3_5 : Cond.classLink RX11 91 RX4 ∈ WL := wl_r3 _ (List.mem_of_getElem? (i := 5) rfl)
theorem wm_3_6 : Cond.instantiable RX4 4 ∈ WL := wl_r3 _ (List.mem_of_getElem? (i := 6) rfl)
theorem wm_3_7 : Cond.initialized RX4 ∈ WL := wl_r3 _ (List.mem_of_getElem? (i := 7) rfl)
theorem wm_3_8 : Cond.fieldLink RX11 94 "ThreeSittings" "levelling" "LThreeSittings$Levelling;" ∈ WL := wl_r3 _ (List.mem_of_getElem? (i := 8) rfl)
theorem wm_3_9 : Cond.fieldLink RX11 98 "ThreeSittings" "parts" "[J" ∈ WL := wl_r3 _ (List.mem_of_getElem? (i := 9) rfl)
theorem wm_3_10 : Cond.instanceMethod yX7_init ∈ WL := wl_r3 _ (List.mem_of_getElem? (i := 10) rfl)
theorem wm_3_11 : Cond.code yX7_init cX7_init 1 none ∈ WL := wl_r3 _ (List.mem_of_getElem? (i := 11) rfl)
theorem wm_3_12 : Cond.methodLink RX7 3 objectInit ∈ WL := wl_r3 _ (List.mem_of_getElem? (i := 12) rfl)
theorem wm_3_13 : Cond.classLink RX7 9 RX9 ∈ WL := wl_r3 _ (List.mem_of_getElem? (i := 13) rfl)
theorem wm_3_14 : Cond.instantiable RX9 4 ∈ WL := wl_r3 _ (List.mem_of_getElem? (i := 14) rfl)
theorem wm_3_15 : Cond.initialized RX9 ∈ WL := wl_r3 _ (List.mem_of_getElem? (i := 15) rfl)
theorem wm_3_16 : Cond.fieldLink RX7 12 "ThreeSittings$Reader" "tokens" "LThreeSittings$Tokens;" ∈ WL := wl_r3 _ (List.mem_of_getElem? (i := 16) rfl)
theorem wm_3_17 : Cond.classLink RX7 18 RX6 ∈ WL := wl_r3 _ (List.mem_of_getElem? (i := 17) rfl)
theorem wm_3_18 : Cond.fieldLink RX7 21 "ThreeSittings$Reader" "plan" "LThreeSittings$Plan;" ∈ WL := wl_r3 _ (List.mem_of_getElem? (i := 18) rfl)
theorem wm_3_19 : Cond.fieldLink RX7 25 "ThreeSittings$Reader" "at" "I" ∈ WL := wl_r3 _ (List.mem_of_getElem? (i := 19) rfl)
theorem wm_3_20 : Cond.fieldLink RX7 29 "ThreeSittings$Reader" "taken" "I" ∈ WL := wl_r3 _ (List.mem_of_getElem? (i := 20) rfl)
theorem wm_3_21 : Cond.fieldLink RX7 32 "ThreeSittings$Reader" "lines" "I" ∈ WL := wl_r3 _ (List.mem_of_getElem? (i := 21) rfl)
theorem wm_3_22 : Cond.fieldLink RX7 35 "ThreeSittings$Reader" "fault" "I" ∈ WL := wl_r3 _ (List.mem_of_getElem? (i := 22) rfl)
theorem wm_3_23 : Cond.fieldLink RX7 38 "ThreeSittings$Reader" "faultPlace" "I" ∈ WL := wl_r3 _ (List.mem_of_getElem? (i := 23) rfl)
theorem wl_r4 : ∀ w ∈ wsL_law0_r4, w ∈ WL := fun w h => wl_0 w (List.mem_append_left _ (List.mem_append_left _ (List.mem_append_left _ (List.mem_append_left _ (List.mem_append_left _ (List.mem_append_left _ (List.mem_append_left _ (List.mem_append_left _ (List.mem_append_left _ (List.mem_append_left _ (List.mem_append_left _ (List.mem_append_left _ (List.mem_append_left _ (List.mem_append_left _ ((List.mem_append_right _ (List.mem_append_right _ (List.mem_append_right _ (List.mem_append_left _ h)))))))))))))))))))
theorem wm_4_0 : Cond.instanceMethod yX9_init ∈ WL := wl_r4 _ (List.mem_of_getElem? (i := 0) rfl)
theorem wm_4_1 : Cond.code yX9_init cX9_init 1 none ∈ WL := wl_r4 _ (List.mem_of_getElem? (i := 1) rfl)
theorem wm_4_2 : Cond.methodLink RX9 3 objectInit ∈ WL := wl_r4 _ (List.mem_of_getElem? (i := 2) rfl)
theorem wm_4_3 : Cond.arrayClass .int ∈ WL := wl_r4 _ (List.mem_of_getElem? (i := 3) rfl)
theorem wm_4_4 : Cond.fieldLink RX9 9 "ThreeSittings$Tokens" "kind" "[I" ∈ WL := wl_r4 _ (List.mem_of_getElem? (i := 4) rfl)
theorem wm_4_5 : Cond.fieldLink RX9 15 "ThreeSittings$Tokens" "place" "[I" ∈ WL := wl_r4 _ (List.mem_of_getElem? (i := 5) rfl)
theorem wm_4_6 : Cond.fieldLink RX9 18 "ThreeSittings$Tokens" "value" "[I" ∈ WL := wl_r4 _ (List.mem_of_getElem? (i := 6) rfl)
theorem wm_4_7 : Cond.fieldLink RX9 21 "ThreeSittings$Tokens" "count" "I" ∈ WL := wl_r4 _ (List.mem_of_getElem? (i := 7) rfl)
theorem wm_4_8 : Cond.methodLink RX7 20 yX6_init ∈ WL := wl_r4 _ (List.mem_of_getElem? (i := 8) rfl)
theorem wm_4_9 : Cond.instanceMethod yX6_init ∈ WL := wl_r4 _ (List.mem_of_getElem? (i := 9) rfl)
theorem wm_4_10 : Cond.code yX6_init cX6_init 1 none ∈ WL := wl_r4 _ (List.mem_of_getElem? (i := 10) rfl)
theorem wm_4_11 : Cond.methodLink RX6 3 objectInit ∈ WL := wl_r4 _ (List.mem_of_getElem? (i := 11) rfl)
theorem wm_4_12 : Cond.fieldLink RX6 9 "ThreeSittings$Plan" "parties" "I" ∈ WL := wl_r4 _ (List.mem_of_getElem? (i := 12) rfl)
theorem wm_4_13 : Cond.fieldLink RX6 15 "ThreeSittings$Plan" "letters" "[I" ∈ WL := wl_r4 _ (List.mem_of_getElem? (i := 13) rfl)
theorem wm_4_14 : Cond.classLink RX6 19 "[[I" ∈ WL := wl_r4 _ (List.mem_of_getElem? (i := 14) rfl)
theorem wm_4_15 : Cond.fieldLink RX6 21 "ThreeSittings$Plan" "traits" "[[I" ∈ WL := wl_r4 _ (List.mem_of_getElem? (i := 15) rfl)
theorem wm_4_16 : Cond.fieldLink RX6 24 "ThreeSittings$Plan" "sittings" "I" ∈ WL := wl_r4 _ (List.mem_of_getElem? (i := 16) rfl)
theorem wm_4_17 : Cond.fieldLink RX6 27 "ThreeSittings$Plan" "minute" "[I" ∈ WL := wl_r4 _ (List.mem_of_getElem? (i := 17) rfl)
theorem wm_4_18 : Cond.fieldLink RX6 30 "ThreeSittings$Plan" "toldPrice" "[I" ∈ WL := wl_r4 _ (List.mem_of_getElem? (i := 18) rfl)
theorem wm_4_19 : Cond.fieldLink RX6 33 "ThreeSittings$Plan" "setting" "[I" ∈ WL := wl_r4 _ (List.mem_of_getElem? (i := 19) rfl)
theorem wm_4_20 : Cond.arrayClass .boolean ∈ WL := wl_r4 _ (List.mem_of_getElem? (i := 20) rfl)
theorem wm_4_21 : Cond.fieldLink RX6 36 "ThreeSittings$Plan" "isTold" "[Z" ∈ WL := wl_r4 _ (List.mem_of_getElem? (i := 21) rfl)
theorem wm_4_22 : Cond.classLink RX6 40 RX3 ∈ WL := wl_r4 _ (List.mem_of_getElem? (i := 22) rfl)
theorem wm_4_23 : Cond.instantiable RX3 8 ∈ WL := wl_r4 _ (List.mem_of_getElem? (i := 23) rfl)
theorem wl_r5 : ∀ w ∈ wsL_law0_r5, w ∈ WL := fun w h => wl_0 w (List.mem_append_left _ (List.mem_append_left _ (List.mem_append_left _ (List.mem_append_left _ (List.mem_append_left _ (List.mem_append_left _ (List.mem_append_left _ (List.mem_append_left _ (List.mem_append_left _ (List.mem_append_left _ (List.mem_append_left _ (List.mem_append_left _ (List.mem_append_left _ (List.mem_append_left _ ((List.mem_append_right _ (List.mem_append_right _ (List.mem_append_right _ (List.mem_append_right _ (List.mem_append_left _ h))))))))))))))))))))
theorem wm_5_0 : Cond.initialized RX3 ∈ WL := wl_r5 _ (List.mem_of_getElem? (i := 0) rfl)
theorem wm_5_1 : Cond.fieldLink RX6 43 "ThreeSittings$Plan" "laws" "LThreeSittings$Laws;" ∈ WL := wl_r5 _ (List.mem_of_getElem? (i := 1) rfl)
theorem wm_5_2 : Cond.methodLink RX6 50 arraycopyName ∈ WL := wl_r5 _ (List.mem_of_getElem? (i := 2) rfl)
theorem wm_5_3 : Cond.native arraycopyName ∈ WL := wl_r5 _ (List.mem_of_getElem? (i := 3) rfl)
theorem wm_5_4 : Cond.static arraycopyName ∈ WL := wl_r5 _ (List.mem_of_getElem? (i := 4) rfl)
theorem wm_5_5 : Cond.initialized "java/lang/System" ∈ WL := wl_r5 _ (List.mem_of_getElem? (i := 5) rfl)
theorem wm_5_6 : Cond.instanceMethod yX3_init ∈ WL := wl_r5 _ (List.mem_of_getElem? (i := 6) rfl)
theorem wm_5_7 : Cond.code yX3_init cX3_init 1 none ∈ WL := wl_r5 _ (List.mem_of_getElem? (i := 7) rfl)
theorem wm_5_8 : Cond.methodLink RX3 3 objectInit ∈ WL := wl_r5 _ (List.mem_of_getElem? (i := 8) rfl)
theorem wm_5_9 : Cond.fieldLink RX3 9 "ThreeSittings$Laws" "knot" "[I" ∈ WL := wl_r5 _ (List.mem_of_getElem? (i := 9) rfl)
theorem wm_5_10 : Cond.fieldLink RX3 15 "ThreeSittings$Laws" "number" "[I" ∈ WL := wl_r5 _ (List.mem_of_getElem? (i := 10) rfl)
theorem wm_5_11 : Cond.fieldLink RX3 18 "ThreeSittings$Laws" "length" "I" ∈ WL := wl_r5 _ (List.mem_of_getElem? (i := 11) rfl)
theorem wm_5_12 : Cond.fieldLink RX3 22 "ThreeSittings$Laws" "knots" "I" ∈ WL := wl_r5 _ (List.mem_of_getElem? (i := 12) rfl)
theorem wm_5_13 : Cond.fieldLink RX3 25 "ThreeSittings$Laws" "from" "[I" ∈ WL := wl_r5 _ (List.mem_of_getElem? (i := 13) rfl)
theorem wm_5_14 : Cond.fieldLink RX3 28 "ThreeSittings$Laws" "to" "[I" ∈ WL := wl_r5 _ (List.mem_of_getElem? (i := 14) rfl)
theorem wm_5_15 : Cond.fieldLink RX3 31 "ThreeSittings$Laws" "names" "[I" ∈ WL := wl_r5 _ (List.mem_of_getElem? (i := 15) rfl)
theorem wm_5_16 : Cond.fieldLink RX3 34 "ThreeSittings$Laws" "stack" "[J" ∈ WL := wl_r5 _ (List.mem_of_getElem? (i := 16) rfl)
theorem wm_5_17 : Cond.methodLink RX11 28 yX6_init ∈ WL := wl_r5 _ (List.mem_of_getElem? (i := 17) rfl)
theorem wm_5_18 : Cond.instanceMethod yX8_init ∈ WL := wl_r5 _ (List.mem_of_getElem? (i := 18) rfl)
theorem wm_5_19 : Cond.code yX8_init cX8_init 1 none ∈ WL := wl_r5 _ (List.mem_of_getElem? (i := 19) rfl)
theorem wm_5_20 : Cond.methodLink RX8 3 objectInit ∈ WL := wl_r5 _ (List.mem_of_getElem? (i := 20) rfl)
theorem wm_5_21 : Cond.fieldLink RX8 9 "ThreeSittings$State" "date" "I" ∈ WL := wl_r5 _ (List.mem_of_getElem? (i := 21) rfl)
theorem wm_5_22 : Cond.fieldLink RX8 15 "ThreeSittings$State" "number" "I" ∈ WL := wl_r5 _ (List.mem_of_getElem? (i := 22) rfl)
theorem wm_5_23 : Cond.fieldLink RX8 18 "ThreeSittings$State" "ticket" "[I" ∈ WL := wl_r5 _ (List.mem_of_getElem? (i := 23) rfl)
theorem wl_r6 : ∀ w ∈ wsL_law0_r6, w ∈ WL := fun w h => wl_0 w (List.mem_append_left _ (List.mem_append_left _ (List.mem_append_left _ (List.mem_append_left _ (List.mem_append_left _ (List.mem_append_left _ (List.mem_append_left _ (List.mem_append_left _ (List.mem_append_left _ (List.mem_append_left _ (List.mem_append_left _ (List.mem_append_left _ (List.mem_append_left _ (List.mem_append_left _ ((List.mem_append_right _ (List.mem_append_right _ (List.mem_append_right _ (List.mem_append_right _ (List.mem_append_right _ (List.mem_append_left _ h)))))))))))))))))))))
theorem wm_6_0 : Cond.fieldLink RX8 22 "ThreeSittings$State" "sign" "[I" ∈ WL := wl_r6 _ (List.mem_of_getElem? (i := 0) rfl)
theorem wm_6_1 : Cond.fieldLink RX8 25 "ThreeSittings$State" "price" "[I" ∈ WL := wl_r6 _ (List.mem_of_getElem? (i := 1) rfl)
theorem wm_6_2 : Cond.fieldLink RX8 28 "ThreeSittings$State" "meals" "[I" ∈ WL := wl_r6 _ (List.mem_of_getElem? (i := 2) rfl)
theorem wm_6_3 : Cond.fieldLink RX8 31 "ThreeSittings$State" "cross" "[I" ∈ WL := wl_r6 _ (List.mem_of_getElem? (i := 3) rfl)
theorem wm_6_4 : Cond.fieldLink RX8 34 "ThreeSittings$State" "away" "[I" ∈ WL := wl_r6 _ (List.mem_of_getElem? (i := 4) rfl)
theorem wm_6_5 : Cond.fieldLink RX8 37 "ThreeSittings$State" "hungry" "[I" ∈ WL := wl_r6 _ (List.mem_of_getElem? (i := 5) rfl)
theorem wm_6_6 : Cond.fieldLink RX8 40 "ThreeSittings$State" "glad" "I" ∈ WL := wl_r6 _ (List.mem_of_getElem? (i := 6) rfl)
theorem wm_6_7 : Cond.fieldLink RX8 43 "ThreeSittings$State" "hungryPersons" "I" ∈ WL := wl_r6 _ (List.mem_of_getElem? (i := 7) rfl)
theorem wm_6_8 : Cond.fieldLink RX8 46 "ThreeSittings$State" "paid" "I" ∈ WL := wl_r6 _ (List.mem_of_getElem? (i := 8) rfl)
theorem wm_6_9 : Cond.fieldLink RX8 49 "ThreeSittings$State" "seen" "Z" ∈ WL := wl_r6 _ (List.mem_of_getElem? (i := 9) rfl)
theorem wm_6_10 : Cond.fieldLink RX8 53 "ThreeSittings$State" "began" "[I" ∈ WL := wl_r6 _ (List.mem_of_getElem? (i := 10) rfl)
theorem wm_6_11 : Cond.fieldLink RX8 56 "ThreeSittings$State" "lateBy" "[I" ∈ WL := wl_r6 _ (List.mem_of_getElem? (i := 11) rfl)
theorem wm_6_12 : Cond.fieldLink RX8 59 "ThreeSittings$State" "sat" "[I" ∈ WL := wl_r6 _ (List.mem_of_getElem? (i := 12) rfl)
theorem wm_6_13 : Cond.fieldLink RX8 62 "ThreeSittings$State" "stood" "[I" ∈ WL := wl_r6 _ (List.mem_of_getElem? (i := 13) rfl)
theorem wm_6_14 : Cond.fieldLink RX8 65 "ThreeSittings$State" "ended" "[I" ∈ WL := wl_r6 _ (List.mem_of_getElem? (i := 14) rfl)
theorem wm_6_15 : Cond.instanceMethod yX0_init ∈ WL := wl_r6 _ (List.mem_of_getElem? (i := 15) rfl)
theorem wm_6_16 : Cond.code yX0_init cX0_init 1 none ∈ WL := wl_r6 _ (List.mem_of_getElem? (i := 16) rfl)
theorem wm_6_17 : Cond.methodLink RX0 3 objectInit ∈ WL := wl_r6 _ (List.mem_of_getElem? (i := 17) rfl)
theorem wm_6_18 : Cond.fieldLink RX0 9 "ThreeSittings$Car" "stands" "[Z" ∈ WL := wl_r6 _ (List.mem_of_getElem? (i := 18) rfl)
theorem wm_6_19 : Cond.instanceMethod yX10_init ∈ WL := wl_r6 _ (List.mem_of_getElem? (i := 19) rfl)
theorem wm_6_20 : Cond.code yX10_init cX10_init 1 none ∈ WL := wl_r6 _ (List.mem_of_getElem? (i := 20) rfl)
theorem wm_6_21 : Cond.methodLink RX10 3 objectInit ∈ WL := wl_r6 _ (List.mem_of_getElem? (i := 21) rfl)
theorem wm_6_22 : Cond.fieldLink RX10 9 "ThreeSittings$Ways" "drawn" "Z" ∈ WL := wl_r6 _ (List.mem_of_getElem? (i := 22) rfl)
theorem wm_6_23 : Cond.fieldLink RX10 15 "ThreeSittings$Ways" "allCome" "Z" ∈ WL := wl_r6 _ (List.mem_of_getElem? (i := 23) rfl)
theorem wl_r7 : ∀ w ∈ wsL_law0_r7, w ∈ WL := fun w h => wl_0 w (List.mem_append_left _ (List.mem_append_left _ (List.mem_append_left _ (List.mem_append_left _ (List.mem_append_left _ (List.mem_append_left _ (List.mem_append_left _ (List.mem_append_left _ (List.mem_append_left _ (List.mem_append_left _ (List.mem_append_left _ (List.mem_append_left _ (List.mem_append_left _ (List.mem_append_left _ ((List.mem_append_right _ (List.mem_append_right _ (List.mem_append_right _ (List.mem_append_right _ (List.mem_append_right _ (List.mem_append_right _ (List.mem_append_left _ h))))))))))))))))))))))
theorem wm_7_0 : Cond.fieldLink RX10 18 "ThreeSittings$Ways" "noneStay" "Z" ∈ WL := wl_r7 _ (List.mem_of_getElem? (i := 0) rfl)
theorem wm_7_1 : Cond.fieldLink RX10 21 "ThreeSittings$Ways" "absentee" "I" ∈ WL := wl_r7 _ (List.mem_of_getElem? (i := 1) rfl)
theorem wm_7_2 : Cond.fieldLink RX10 25 "ThreeSittings$Ways" "lingerer" "I" ∈ WL := wl_r7 _ (List.mem_of_getElem? (i := 2) rfl)
theorem wm_7_3 : Cond.fieldLink RX10 28 "ThreeSittings$Ways" "moreSeats" "I" ∈ WL := wl_r7 _ (List.mem_of_getElem? (i := 3) rfl)
theorem wm_7_4 : Cond.fieldLink RX10 31 "ThreeSittings$Ways" "hands" "I" ∈ WL := wl_r7 _ (List.mem_of_getElem? (i := 4) rfl)
theorem wm_7_5 : Cond.fieldLink RX10 34 "ThreeSittings$Ways" "shift" "[I" ∈ WL := wl_r7 _ (List.mem_of_getElem? (i := 5) rfl)
theorem wm_7_6 : Cond.instanceMethod yX2_init ∈ WL := wl_r7 _ (List.mem_of_getElem? (i := 6) rfl)
theorem wm_7_7 : Cond.code yX2_init cX2_init 1 none ∈ WL := wl_r7 _ (List.mem_of_getElem? (i := 7) rfl)
theorem wm_7_8 : Cond.methodLink RX2 3 objectInit ∈ WL := wl_r7 _ (List.mem_of_getElem? (i := 8) rfl)
theorem wm_7_9 : Cond.fieldLink RX2 9 "ThreeSittings$History" "kind" "[I" ∈ WL := wl_r7 _ (List.mem_of_getElem? (i := 9) rfl)
theorem wm_7_10 : Cond.fieldLink RX2 15 "ThreeSittings$History" "whose" "[I" ∈ WL := wl_r7 _ (List.mem_of_getElem? (i := 10) rfl)
theorem wm_7_11 : Cond.fieldLink RX2 18 "ThreeSittings$History" "former" "[I" ∈ WL := wl_r7 _ (List.mem_of_getElem? (i := 11) rfl)
theorem wm_7_12 : Cond.fieldLink RX2 21 "ThreeSittings$History" "count" "I" ∈ WL := wl_r7 _ (List.mem_of_getElem? (i := 12) rfl)
theorem wm_7_13 : Cond.instanceMethod yX5_init ∈ WL := wl_r7 _ (List.mem_of_getElem? (i := 13) rfl)
theorem wm_7_14 : Cond.code yX5_init cX5_init 1 none ∈ WL := wl_r7 _ (List.mem_of_getElem? (i := 14) rfl)
theorem wm_7_15 : Cond.methodLink RX5 3 objectInit ∈ WL := wl_r7 _ (List.mem_of_getElem? (i := 15) rfl)
theorem wm_7_16 : Cond.fieldLink RX5 9 "ThreeSittings$Notes" "kind" "[I" ∈ WL := wl_r7 _ (List.mem_of_getElem? (i := 16) rfl)
theorem wm_7_17 : Cond.fieldLink RX5 15 "ThreeSittings$Notes" "about" "[I" ∈ WL := wl_r7 _ (List.mem_of_getElem? (i := 17) rfl)
theorem wm_7_18 : Cond.fieldLink RX5 18 "ThreeSittings$Notes" "minutes" "[I" ∈ WL := wl_r7 _ (List.mem_of_getElem? (i := 18) rfl)
theorem wm_7_19 : Cond.fieldLink RX5 21 "ThreeSittings$Notes" "struck" "[Z" ∈ WL := wl_r7 _ (List.mem_of_getElem? (i := 19) rfl)
theorem wm_7_20 : Cond.fieldLink RX5 25 "ThreeSittings$Notes" "count" "I" ∈ WL := wl_r7 _ (List.mem_of_getElem? (i := 20) rfl)
theorem wm_7_21 : Cond.fieldLink RX5 29 "ThreeSittings$Notes" "knownBy" "I" ∈ WL := wl_r7 _ (List.mem_of_getElem? (i := 21) rfl)
theorem wm_7_22 : Cond.instanceMethod yX1_init ∈ WL := wl_r7 _ (List.mem_of_getElem? (i := 22) rfl)
theorem wm_7_23 : Cond.code yX1_init cX1_init 1 none ∈ WL := wl_r7 _ (List.mem_of_getElem? (i := 23) rfl)
theorem wl_r8 : ∀ w ∈ wsL_law0_r8, w ∈ WL := fun w h => wl_0 w (List.mem_append_left _ (List.mem_append_left _ (List.mem_append_left _ (List.mem_append_left _ (List.mem_append_left _ (List.mem_append_left _ (List.mem_append_left _ (List.mem_append_left _ (List.mem_append_left _ (List.mem_append_left _ (List.mem_append_left _ (List.mem_append_left _ (List.mem_append_left _ (List.mem_append_left _ ((List.mem_append_right _ (List.mem_append_right _ (List.mem_append_right _ (List.mem_append_right _ (List.mem_append_right _ (List.mem_append_right _ (List.mem_append_right _ (List.mem_append_left _ h)))))))))))))))))))))))
theorem wm_8_0 : Cond.methodLink RX1 3 objectInit ∈ WL := wl_r8 _ (List.mem_of_getElem? (i := 0) rfl)
theorem wm_8_1 : Cond.classLink RX1 9 "[[I" ∈ WL := wl_r8 _ (List.mem_of_getElem? (i := 1) rfl)
theorem wm_8_2 : Cond.fieldLink RX1 11 "ThreeSittings$Giving" "worth" "[[I" ∈ WL := wl_r8 _ (List.mem_of_getElem? (i := 2) rfl)
theorem wm_8_3 : Cond.fieldLink RX1 16 "ThreeSittings$Giving" "left" "[I" ∈ WL := wl_r8 _ (List.mem_of_getElem? (i := 3) rfl)
theorem wm_8_4 : Cond.fieldLink RX1 20 "ThreeSittings$Giving" "picked" "[I" ∈ WL := wl_r8 _ (List.mem_of_getElem? (i := 4) rfl)
theorem wm_8_5 : Cond.fieldLink RX1 23 "ThreeSittings$Giving" "best" "[I" ∈ WL := wl_r8 _ (List.mem_of_getElem? (i := 5) rfl)
theorem wm_8_6 : Cond.fieldLink RX1 26 "ThreeSittings$Giving" "hope" "[I" ∈ WL := wl_r8 _ (List.mem_of_getElem? (i := 6) rfl)
theorem wm_8_7 : Cond.fieldLink RX1 29 "ThreeSittings$Giving" "bestSum" "I" ∈ WL := wl_r8 _ (List.mem_of_getElem? (i := 7) rfl)
theorem wm_8_8 : Cond.fieldLink RX1 33 "ThreeSittings$Giving" "known" "Z" ∈ WL := wl_r8 _ (List.mem_of_getElem? (i := 8) rfl)
theorem wm_8_9 : Cond.instanceMethod yX4_init ∈ WL := wl_r8 _ (List.mem_of_getElem? (i := 9) rfl)
theorem wm_8_10 : Cond.code yX4_init cX4_init 1 none ∈ WL := wl_r8 _ (List.mem_of_getElem? (i := 10) rfl)
theorem wm_8_11 : Cond.methodLink RX4 3 objectInit ∈ WL := wl_r8 _ (List.mem_of_getElem? (i := 11) rfl)
theorem wm_8_12 : Cond.fieldLink RX4 9 "ThreeSittings$Levelling" "prices" "[I" ∈ WL := wl_r8 _ (List.mem_of_getElem? (i := 12) rfl)
theorem wm_8_13 : Cond.fieldLink RX4 15 "ThreeSittings$Levelling" "persons" "[I" ∈ WL := wl_r8 _ (List.mem_of_getElem? (i := 13) rfl)
theorem wm_8_14 : Cond.fieldLink RX4 18 "ThreeSittings$Levelling" "found" "Z" ∈ WL := wl_r8 _ (List.mem_of_getElem? (i := 14) rfl)
theorem wm_8_15 : Cond.fieldLink RX4 22 "ThreeSittings$Levelling" "known" "Z" ∈ WL := wl_r8 _ (List.mem_of_getElem? (i := 15) rfl)
theorem wm_8_16 : Cond.methodLink RX11 105 yX8_begin ∈ WL := wl_r8 _ (List.mem_of_getElem? (i := 16) rfl)
theorem wm_8_17 : Cond.instanceMethod yX8_begin ∈ WL := wl_r8 _ (List.mem_of_getElem? (i := 17) rfl)
theorem wm_8_18 : Cond.selects RX8 yX8_begin yX8_begin ∈ WL := wl_r8 _ (List.mem_of_getElem? (i := 18) rfl)
theorem wm_8_19 : Cond.code yX8_begin cX8_begin 3 none ∈ WL := wl_r8 _ (List.mem_of_getElem? (i := 19) rfl)
theorem wm_8_20 : Cond.methodLink RX8 76 yX8_forgetSitting ∈ WL := wl_r8 _ (List.mem_of_getElem? (i := 20) rfl)
theorem wm_8_21 : Cond.instanceMethod yX8_forgetSitting ∈ WL := wl_r8 _ (List.mem_of_getElem? (i := 21) rfl)
theorem wm_8_22 : Cond.selects RX8 yX8_forgetSitting yX8_forgetSitting ∈ WL := wl_r8 _ (List.mem_of_getElem? (i := 22) rfl)
theorem wm_8_23 : Cond.code yX8_forgetSitting cX8_forgetSitting 2 none ∈ WL := wl_r8 _ (List.mem_of_getElem? (i := 23) rfl)
theorem wl_r9 : ∀ w ∈ wsL_law0_r9, w ∈ WL := fun w h => wl_0 w (List.mem_append_left _ (List.mem_append_left _ (List.mem_append_left _ (List.mem_append_left _ (List.mem_append_left _ (List.mem_append_left _ (List.mem_append_left _ (List.mem_append_left _ (List.mem_append_left _ (List.mem_append_left _ (List.mem_append_left _ (List.mem_append_left _ (List.mem_append_left _ (List.mem_append_left _ ((List.mem_append_right _ (List.mem_append_right _ (List.mem_append_right _ (List.mem_append_right _ (List.mem_append_right _ (List.mem_append_right _ (List.mem_append_right _ (List.mem_append_right _ (List.mem_append_left _ h))))))))))))))))))))))))
theorem wm_9_0 : Cond.methodLink RL 20 yX12_init ∈ WL := wl_r9 _ (List.mem_of_getElem? (i := 0) rfl)
theorem wm_9_1 : Cond.instanceMethod yX12_init ∈ WL := wl_r9 _ (List.mem_of_getElem? (i := 1) rfl)
theorem wm_9_2 : Cond.code yX12_init cX12_init 1 none ∈ WL := wl_r9 _ (List.mem_of_getElem? (i := 2) rfl)
theorem wm_9_3 : Cond.methodLink RX12 1 objectInit ∈ WL := wl_r9 _ (List.mem_of_getElem? (i := 3) rfl)
theorem wm_9_4 : Cond.fieldLink RX12 7 "ThreeSittingsModel" "tape" "[I" ∈ WL := wl_r9 _ (List.mem_of_getElem? (i := 4) rfl)
theorem wm_9_5 : Cond.fieldLink RX12 13 "ThreeSittingsModel" "number" "[I" ∈ WL := wl_r9 _ (List.mem_of_getElem? (i := 5) rfl)
theorem wm_9_6 : Cond.fieldLink RX12 16 "ThreeSittingsModel" "partyName" "[I" ∈ WL := wl_r9 _ (List.mem_of_getElem? (i := 6) rfl)
theorem wm_9_7 : Cond.fieldLink RX12 19 "ThreeSittingsModel" "sizeOf" "[I" ∈ WL := wl_r9 _ (List.mem_of_getElem? (i := 7) rfl)
theorem wm_9_8 : Cond.fieldLink RX12 22 "ThreeSittingsModel" "wishOf" "[I" ∈ WL := wl_r9 _ (List.mem_of_getElem? (i := 8) rfl)
theorem wm_9_9 : Cond.fieldLink RX12 25 "ThreeSittingsModel" "offAt" "[I" ∈ WL := wl_r9 _ (List.mem_of_getElem? (i := 9) rfl)
theorem wm_9_10 : Cond.fieldLink RX12 28 "ThreeSittingsModel" "coffeeOf" "[I" ∈ WL := wl_r9 _ (List.mem_of_getElem? (i := 10) rfl)
theorem wm_9_11 : Cond.fieldLink RX12 31 "ThreeSittingsModel" "absentOf" "[I" ∈ WL := wl_r9 _ (List.mem_of_getElem? (i := 11) rfl)
theorem wm_9_12 : Cond.fieldLink RX12 34 "ThreeSittingsModel" "minuteOf" "[I" ∈ WL := wl_r9 _ (List.mem_of_getElem? (i := 12) rfl)
theorem wm_9_13 : Cond.fieldLink RX12 37 "ThreeSittingsModel" "priceAs" "[I" ∈ WL := wl_r9 _ (List.mem_of_getElem? (i := 13) rfl)
theorem wm_9_14 : Cond.fieldLink RX12 40 "ThreeSittingsModel" "sumFrom" "[I" ∈ WL := wl_r9 _ (List.mem_of_getElem? (i := 14) rfl)
theorem wm_9_15 : Cond.fieldLink RX12 43 "ThreeSittingsModel" "sumTo" "[I" ∈ WL := wl_r9 _ (List.mem_of_getElem? (i := 15) rfl)
theorem wm_9_16 : Cond.fieldLink RX12 46 "ThreeSittingsModel" "knotSort" "[I" ∈ WL := wl_r9 _ (List.mem_of_getElem? (i := 16) rfl)
theorem wm_9_17 : Cond.fieldLink RX12 49 "ThreeSittingsModel" "knotValue" "[I" ∈ WL := wl_r9 _ (List.mem_of_getElem? (i := 17) rfl)
theorem wm_9_18 : Cond.fieldLink RX12 52 "ThreeSittingsModel" "lastPlace" "I" ∈ WL := wl_r9 _ (List.mem_of_getElem? (i := 18) rfl)
theorem wm_9_19 : Cond.fieldLink RX12 56 "ThreeSittingsModel" "names" "[J" ∈ WL := wl_r9 _ (List.mem_of_getElem? (i := 19) rfl)
theorem wm_9_20 : Cond.fieldLink RX12 60 "ThreeSittingsModel" "worked" "[J" ∈ WL := wl_r9 _ (List.mem_of_getElem? (i := 20) rfl)
theorem wm_9_21 : Cond.fieldLink RX12 63 "ThreeSittingsModel" "date" "[I" ∈ WL := wl_r9 _ (List.mem_of_getElem? (i := 21) rfl)
theorem wm_9_22 : Cond.fieldLink RX12 66 "ThreeSittingsModel" "glad" "[I" ∈ WL := wl_r9 _ (List.mem_of_getElem? (i := 22) rfl)
theorem wm_9_23 : Cond.fieldLink RX12 69 "ThreeSittingsModel" "hungry" "[I" ∈ WL := wl_r9 _ (List.mem_of_getElem? (i := 23) rfl)
theorem wl_r10 : ∀ w ∈ wsL_law0_r10, w ∈ WL := fun w h => wl_0 w (List.mem_append_left _ (List.mem_append_left _ (List.mem_append_left _ (List.mem_append_left _ (List.mem_append_left _ (List.mem_append_left _ (List.mem_append_left _ (List.mem_append_left _ (List.mem_append_left _ (List.mem_append_left _ (List.mem_append_left _ (List.mem_append_left _ (List.mem_append_left _ (List.mem_append_left _ ((List.mem_append_right _ (List.mem_append_right _ (List.mem_append_right _ (List.mem_append_right _ (List.mem_append_right _ (List.mem_append_right _ (List.mem_append_right _ (List.mem_append_right _ (List.mem_append_right _ (List.mem_append_left _ h)))))))))))))))))))))))))
theorem wm_10_0 : Cond.fieldLink RX12 72 "ThreeSittingsModel" "paid" "[I" ∈ WL := wl_r10 _ (List.mem_of_getElem? (i := 0) rfl)
theorem wm_10_1 : Cond.fieldLink RX12 75 "ThreeSittingsModel" "drawn" "[I" ∈ WL := wl_r10 _ (List.mem_of_getElem? (i := 1) rfl)
theorem wm_10_2 : Cond.fieldLink RX12 78 "ThreeSittingsModel" "ticket" "[I" ∈ WL := wl_r10 _ (List.mem_of_getElem? (i := 2) rfl)
theorem wm_10_3 : Cond.fieldLink RX12 81 "ThreeSittingsModel" "meals" "[I" ∈ WL := wl_r10 _ (List.mem_of_getElem? (i := 3) rfl)
theorem wm_10_4 : Cond.fieldLink RX12 84 "ThreeSittingsModel" "cross" "[I" ∈ WL := wl_r10 _ (List.mem_of_getElem? (i := 4) rfl)
theorem wm_10_5 : Cond.fieldLink RX12 87 "ThreeSittingsModel" "away" "[I" ∈ WL := wl_r10 _ (List.mem_of_getElem? (i := 5) rfl)
theorem wm_10_6 : Cond.fieldLink RX12 90 "ThreeSittingsModel" "unfed" "[I" ∈ WL := wl_r10 _ (List.mem_of_getElem? (i := 6) rfl)
theorem wm_10_7 : Cond.fieldLink RX12 93 "ThreeSittingsModel" "sign" "[I" ∈ WL := wl_r10 _ (List.mem_of_getElem? (i := 7) rfl)
theorem wm_10_8 : Cond.fieldLink RX12 96 "ThreeSittingsModel" "price" "[I" ∈ WL := wl_r10 _ (List.mem_of_getElem? (i := 8) rfl)
theorem wm_10_9 : Cond.fieldLink RX12 99 "ThreeSittingsModel" "began" "[I" ∈ WL := wl_r10 _ (List.mem_of_getElem? (i := 9) rfl)
theorem wm_10_10 : Cond.fieldLink RX12 102 "ThreeSittingsModel" "satAt" "[I" ∈ WL := wl_r10 _ (List.mem_of_getElem? (i := 10) rfl)
theorem wm_10_11 : Cond.fieldLink RX12 105 "ThreeSittingsModel" "stoodAt" "[I" ∈ WL := wl_r10 _ (List.mem_of_getElem? (i := 11) rfl)
theorem wm_10_12 : Cond.fieldLink RX12 108 "ThreeSittingsModel" "endedAt" "[I" ∈ WL := wl_r10 _ (List.mem_of_getElem? (i := 12) rfl)
theorem wm_10_13 : Cond.fieldLink RX12 111 "ThreeSittingsModel" "tryParty" "I" ∈ WL := wl_r10 _ (List.mem_of_getElem? (i := 13) rfl)
theorem wm_10_14 : Cond.fieldLink RX12 114 "ThreeSittingsModel" "lingerer" "I" ∈ WL := wl_r10 _ (List.mem_of_getElem? (i := 14) rfl)
theorem wm_10_15 : Cond.fieldLink RX12 117 "ThreeSittingsModel" "moved" "[I" ∈ WL := wl_r10 _ (List.mem_of_getElem? (i := 15) rfl)
theorem wm_10_16 : Cond.fieldLink RX12 120 "ThreeSittingsModel" "room" "[I" ∈ WL := wl_r10 _ (List.mem_of_getElem? (i := 16) rfl)
theorem wm_10_17 : Cond.fieldLink RX12 123 "ThreeSittingsModel" "row" "[I" ∈ WL := wl_r10 _ (List.mem_of_getElem? (i := 17) rfl)
theorem wm_10_18 : Cond.fieldLink RX12 126 "ThreeSittingsModel" "bestRow" "[I" ∈ WL := wl_r10 _ (List.mem_of_getElem? (i := 18) rfl)
theorem wm_10_19 : Cond.fieldLink RX12 129 "ThreeSittingsModel" "asked" "[I" ∈ WL := wl_r10 _ (List.mem_of_getElem? (i := 19) rfl)
theorem wm_10_20 : Cond.fieldLink RX12 132 "ThreeSittingsModel" "holders" "[I" ∈ WL := wl_r10 _ (List.mem_of_getElem? (i := 20) rfl)
theorem wm_10_21 : Cond.fieldLink RX12 135 "ThreeSittingsModel" "knownBy" "I" ∈ WL := wl_r10 _ (List.mem_of_getElem? (i := 21) rfl)
theorem wm_10_22 : Cond.fieldLink RX12 138 "ThreeSittingsModel" "noteSitting" "[I" ∈ WL := wl_r10 _ (List.mem_of_getElem? (i := 22) rfl)
theorem wm_10_23 : Cond.fieldLink RX12 141 "ThreeSittingsModel" "noteLate" "[I" ∈ WL := wl_r10 _ (List.mem_of_getElem? (i := 23) rfl)
theorem wl_r11 : ∀ w ∈ wsL_law0_r11, w ∈ WL := fun w h => wl_0 w (List.mem_append_left _ (List.mem_append_left _ (List.mem_append_left _ (List.mem_append_left _ (List.mem_append_left _ (List.mem_append_left _ (List.mem_append_left _ (List.mem_append_left _ (List.mem_append_left _ (List.mem_append_left _ (List.mem_append_left _ (List.mem_append_left _ (List.mem_append_left _ (List.mem_append_left _ ((List.mem_append_right _ (List.mem_append_right _ (List.mem_append_right _ (List.mem_append_right _ (List.mem_append_right _ (List.mem_append_right _ (List.mem_append_right _ (List.mem_append_right _ (List.mem_append_right _ (List.mem_append_right _ (List.mem_append_left _ h))))))))))))))))))))))))))
theorem wm_11_0 : Cond.fieldLink RX12 144 "ThreeSittingsModel" "noteAtLeast" "[Z" ∈ WL := wl_r11 _ (List.mem_of_getElem? (i := 0) rfl)
theorem wm_11_1 : Cond.fieldLink RX12 148 "ThreeSittingsModel" "outs" "[I" ∈ WL := wl_r11 _ (List.mem_of_getElem? (i := 1) rfl)
theorem wm_11_2 : Cond.fieldLink RX12 151 "ThreeSittingsModel" "isOut" "[Z" ∈ WL := wl_r11 _ (List.mem_of_getElem? (i := 2) rfl)
theorem wm_11_3 : Cond.methodLink RX12 154 yX12_begins ∈ WL := wl_r11 _ (List.mem_of_getElem? (i := 3) rfl)
theorem wm_11_4 : Cond.instanceMethod yX12_begins ∈ WL := wl_r11 _ (List.mem_of_getElem? (i := 4) rfl)
theorem wm_11_5 : Cond.selects RX12 yX12_begins yX12_begins ∈ WL := wl_r11 _ (List.mem_of_getElem? (i := 5) rfl)
theorem wm_11_6 : Cond.code yX12_begins cX12_begins 2 none ∈ WL := wl_r11 _ (List.mem_of_getElem? (i := 6) rfl)
theorem wm_11_7 : Cond.methodLink RL 21 yX11_feed ∈ WL := wl_r11 _ (List.mem_of_getElem? (i := 7) rfl)
theorem wm_11_8 : Cond.instanceMethod yX11_feed ∈ WL := wl_r11 _ (List.mem_of_getElem? (i := 8) rfl)
theorem wm_11_9 : Cond.selects RX11 yX11_feed yX11_feed ∈ WL := wl_r11 _ (List.mem_of_getElem? (i := 9) rfl)
theorem wm_11_10 : Cond.code yX11_feed cX11_feed 6 (some .int) ∈ WL := wl_r11 _ (List.mem_of_getElem? (i := 10) rfl)
theorem wm_11_11 : Cond.methodLink RX11 109 yX11_append ∈ WL := wl_r11 _ (List.mem_of_getElem? (i := 11) rfl)
theorem wm_11_12 : Cond.instanceMethod yX11_append ∈ WL := wl_r11 _ (List.mem_of_getElem? (i := 12) rfl)
theorem wm_11_13 : Cond.selects RX11 yX11_append yX11_append ∈ WL := wl_r11 _ (List.mem_of_getElem? (i := 13) rfl)
theorem wm_11_14 : Cond.code yX11_append cX11_append 3 none ∈ WL := wl_r11 _ (List.mem_of_getElem? (i := 14) rfl)
theorem wm_11_15 : Cond.methodLink RL 25 yX12_feed ∈ WL := wl_r11 _ (List.mem_of_getElem? (i := 15) rfl)
theorem wm_11_16 : Cond.instanceMethod yX12_feed ∈ WL := wl_r11 _ (List.mem_of_getElem? (i := 16) rfl)
theorem wm_11_17 : Cond.selects RX12 yX12_feed yX12_feed ∈ WL := wl_r11 _ (List.mem_of_getElem? (i := 17) rfl)
theorem wm_11_18 : Cond.code yX12_feed cX12_feed 8 (some .int) ∈ WL := wl_r11 _ (List.mem_of_getElem? (i := 18) rfl)
theorem wm_11_19 : Cond.fieldLink RX12 157 "ThreeSittingsModel" "thrown" "I" ∈ WL := wl_r11 _ (List.mem_of_getElem? (i := 19) rfl)
theorem wm_11_20 : Cond.fieldLink RX12 160 "ThreeSittingsModel" "taped" "I" ∈ WL := wl_r11 _ (List.mem_of_getElem? (i := 20) rfl)
theorem wm_11_21 : Cond.methodLink RL 26 yX11_text ∈ WL := wl_r11 _ (List.mem_of_getElem? (i := 21) rfl)
theorem wm_11_22 : Cond.instanceMethod yX11_text ∈ WL := wl_r11 _ (List.mem_of_getElem? (i := 22) rfl)
theorem wm_11_23 : Cond.selects RX11 yX11_text yX11_text ∈ WL := wl_r11 _ (List.mem_of_getElem? (i := 23) rfl)
theorem wl_r12 : ∀ w ∈ wsL_law0_r12, w ∈ WL := fun w h => wl_0 w (List.mem_append_left _ (List.mem_append_left _ (List.mem_append_left _ (List.mem_append_left _ (List.mem_append_left _ (List.mem_append_left _ (List.mem_append_left _ (List.mem_append_left _ (List.mem_append_left _ (List.mem_append_left _ (List.mem_append_left _ (List.mem_append_left _ (List.mem_append_left _ (List.mem_append_left _ ((List.mem_append_right _ (List.mem_append_right _ (List.mem_append_right _ (List.mem_append_right _ (List.mem_append_right _ (List.mem_append_right _ (List.mem_append_right _ (List.mem_append_right _ (List.mem_append_right _ (List.mem_append_right _ (List.mem_append_right _ (List.mem_append_left _ h)))))))))))))))))))))))))))
theorem wm_12_0 : Cond.code yX11_text cX11_text 3 (some .int) ∈ WL := wl_r12 _ (List.mem_of_getElem? (i := 0) rfl)
theorem wm_12_1 : Cond.methodLink RX11 113 yX7_read ∈ WL := wl_r12 _ (List.mem_of_getElem? (i := 1) rfl)
theorem wm_12_2 : Cond.instanceMethod yX7_read ∈ WL := wl_r12 _ (List.mem_of_getElem? (i := 2) rfl)
theorem wm_12_3 : Cond.selects RX7 yX7_read yX7_read ∈ WL := wl_r12 _ (List.mem_of_getElem? (i := 3) rfl)
theorem wm_12_4 : Cond.code yX7_read cX7_read 4 (some .boolean) ∈ WL := wl_r12 _ (List.mem_of_getElem? (i := 4) rfl)
theorem wm_12_5 : Cond.methodLink RX7 41 yX9_split ∈ WL := wl_r12 _ (List.mem_of_getElem? (i := 5) rfl)
theorem wm_12_6 : Cond.instanceMethod yX9_split ∈ WL := wl_r12 _ (List.mem_of_getElem? (i := 6) rfl)
theorem wm_12_7 : Cond.selects RX9 yX9_split yX9_split ∈ WL := wl_r12 _ (List.mem_of_getElem? (i := 7) rfl)
theorem wm_12_8 : Cond.code yX9_split cX9_split 7 none ∈ WL := wl_r12 _ (List.mem_of_getElem? (i := 8) rfl)
theorem wm_12_9 : Cond.methodLink RX9 25 Lib.Math.min.name ∈ WL := wl_r12 _ (List.mem_of_getElem? (i := 9) rfl)
theorem wm_12_10 : Cond.static Lib.Math.min.name ∈ WL := wl_r12 _ (List.mem_of_getElem? (i := 10) rfl)
theorem wm_12_11 : Cond.initialized "java/lang/Math" ∈ WL := wl_r12 _ (List.mem_of_getElem? (i := 11) rfl)
theorem wm_12_12 : Cond.code Lib.Math.min.name Lib.Math.min.code 2 (some .int) ∈ WL := wl_r12 _ (List.mem_of_getElem? (i := 12) rfl)
theorem wm_12_13 : Cond.methodLink RX9 49 Lib.Math.max.name ∈ WL := wl_r12 _ (List.mem_of_getElem? (i := 13) rfl)
theorem wm_12_14 : Cond.static Lib.Math.max.name ∈ WL := wl_r12 _ (List.mem_of_getElem? (i := 14) rfl)
theorem wm_12_15 : Cond.code Lib.Math.max.name Lib.Math.max.code 2 (some .int) ∈ WL := wl_r12 _ (List.mem_of_getElem? (i := 15) rfl)
theorem wm_12_16 : Cond.methodLink RX9 31 yX9_isDigit ∈ WL := wl_r12 _ (List.mem_of_getElem? (i := 16) rfl)
theorem wm_12_17 : Cond.static yX9_isDigit ∈ WL := wl_r12 _ (List.mem_of_getElem? (i := 17) rfl)
theorem wm_12_18 : Cond.code yX9_isDigit cX9_isDigit 1 (some .boolean) ∈ WL := wl_r12 _ (List.mem_of_getElem? (i := 18) rfl)
theorem wm_12_19 : Cond.methodLink RX9 35 yX9_takeNumber ∈ WL := wl_r12 _ (List.mem_of_getElem? (i := 19) rfl)
theorem wm_12_20 : Cond.instanceMethod yX9_takeNumber ∈ WL := wl_r12 _ (List.mem_of_getElem? (i := 20) rfl)
theorem wm_12_21 : Cond.selects RX9 yX9_takeNumber yX9_takeNumber ∈ WL := wl_r12 _ (List.mem_of_getElem? (i := 21) rfl)
theorem wm_12_22 : Cond.code yX9_takeNumber cX9_takeNumber 6 (some .int) ∈ WL := wl_r12 _ (List.mem_of_getElem? (i := 22) rfl)
theorem wm_12_23 : Cond.constant RX9 56 (1000000) ∈ WL := wl_r12 _ (List.mem_of_getElem? (i := 23) rfl)
theorem wl_r13 : ∀ w ∈ wsL_law0_r13, w ∈ WL := fun w h => wl_0 w (List.mem_append_left _ (List.mem_append_left _ (List.mem_append_left _ (List.mem_append_left _ (List.mem_append_left _ (List.mem_append_left _ (List.mem_append_left _ (List.mem_append_left _ (List.mem_append_left _ (List.mem_append_left _ (List.mem_append_left _ (List.mem_append_left _ (List.mem_append_left _ (List.mem_append_left _ ((List.mem_append_right _ (List.mem_append_right _ (List.mem_append_right _ (List.mem_append_right _ (List.mem_append_right _ (List.mem_append_right _ (List.mem_append_right _ (List.mem_append_right _ (List.mem_append_right _ (List.mem_append_right _ (List.mem_append_right _ (List.mem_append_right _ (List.mem_append_left _ h))))))))))))))))))))))))))))
theorem wm_13_0 : Cond.methodLink RX9 52 yX9_put ∈ WL := wl_r13 _ (List.mem_of_getElem? (i := 0) rfl)
theorem wm_13_1 : Cond.instanceMethod yX9_put ∈ WL := wl_r13 _ (List.mem_of_getElem? (i := 1) rfl)
theorem wm_13_2 : Cond.selects RX9 yX9_put yX9_put ∈ WL := wl_r13 _ (List.mem_of_getElem? (i := 2) rfl)
theorem wm_13_3 : Cond.code yX9_put cX9_put 4 none ∈ WL := wl_r13 _ (List.mem_of_getElem? (i := 3) rfl)
theorem wm_13_4 : Cond.methodLink RX9 39 yX9_isLetter ∈ WL := wl_r13 _ (List.mem_of_getElem? (i := 4) rfl)
theorem wm_13_5 : Cond.static yX9_isLetter ∈ WL := wl_r13 _ (List.mem_of_getElem? (i := 5) rfl)
theorem wm_13_6 : Cond.code yX9_isLetter cX9_isLetter 1 (some .boolean) ∈ WL := wl_r13 _ (List.mem_of_getElem? (i := 6) rfl)
theorem wm_13_7 : Cond.methodLink RX9 42 yX9_takeWord ∈ WL := wl_r13 _ (List.mem_of_getElem? (i := 7) rfl)
theorem wm_13_8 : Cond.instanceMethod yX9_takeWord ∈ WL := wl_r13 _ (List.mem_of_getElem? (i := 8) rfl)
theorem wm_13_9 : Cond.selects RX9 yX9_takeWord yX9_takeWord ∈ WL := wl_r13 _ (List.mem_of_getElem? (i := 9) rfl)
theorem wm_13_10 : Cond.code yX9_takeWord cX9_takeWord 6 (some .int) ∈ WL := wl_r13 _ (List.mem_of_getElem? (i := 10) rfl)
theorem wm_13_11 : Cond.methodLink RX9 57 yX9_wordOf ∈ WL := wl_r13 _ (List.mem_of_getElem? (i := 11) rfl)
theorem wm_13_12 : Cond.static yX9_wordOf ∈ WL := wl_r13 _ (List.mem_of_getElem? (i := 12) rfl)
theorem wm_13_13 : Cond.code yX9_wordOf cX9_wordOf 6 (some .int) ∈ WL := wl_r13 _ (List.mem_of_getElem? (i := 13) rfl)
theorem wm_13_14 : Cond.methodLink RX9 65 yJ0_length_8abf5 ∈ WL := wl_r13 _ (List.mem_of_getElem? (i := 14) rfl)
theorem wm_13_15 : Cond.instanceMethod yJ0_length_8abf5 ∈ WL := wl_r13 _ (List.mem_of_getElem? (i := 15) rfl)
theorem wm_13_16 : Cond.selects RJ0 yJ0_length_8abf5 yJ0_length_8abf5 ∈ WL := wl_r13 _ (List.mem_of_getElem? (i := 16) rfl)
theorem wm_13_17 : Cond.initialized RJ0 ∈ WL := wl_r13 _ (List.mem_of_getElem? (i := 17) rfl)
theorem wm_13_18 : Cond.code yJ0_length_8abf5 cJ0_length_8abf5 1 (some .int) ∈ WL := wl_r13 _ (List.mem_of_getElem? (i := 18) rfl)
theorem wm_13_19 : Cond.fieldLink RJ0 9 "java/lang/String" "value" "[B" ∈ WL := wl_r13 _ (List.mem_of_getElem? (i := 19) rfl)
theorem wm_13_20 : Cond.methodLink RJ0 335 yJ0_coder_7d493 ∈ WL := wl_r13 _ (List.mem_of_getElem? (i := 20) rfl)
theorem wm_13_21 : Cond.instanceMethod yJ0_coder_7d493 ∈ WL := wl_r13 _ (List.mem_of_getElem? (i := 21) rfl)
theorem wm_13_22 : Cond.selects RJ0 yJ0_coder_7d493 yJ0_coder_7d493 ∈ WL := wl_r13 _ (List.mem_of_getElem? (i := 22) rfl)
theorem wm_13_23 : Cond.code yJ0_coder_7d493 cJ0_coder_7d493 1 (some .byte) ∈ WL := wl_r13 _ (List.mem_of_getElem? (i := 23) rfl)
theorem wl_r14 : ∀ w ∈ wsL_law0_r14, w ∈ WL := fun w h => wl_0 w (List.mem_append_left _ (List.mem_append_left _ (List.mem_append_left _ (List.mem_append_left _ (List.mem_append_left _ (List.mem_append_left _ (List.mem_append_left _ (List.mem_append_left _ (List.mem_append_left _ (List.mem_append_left _ (List.mem_append_left _ (List.mem_append_left _ (List.mem_append_left _ (List.mem_append_left _ ((List.mem_append_right _ (List.mem_append_right _ (List.mem_append_right _ (List.mem_append_right _ (List.mem_append_right _ (List.mem_append_right _ (List.mem_append_right _ (List.mem_append_right _ (List.mem_append_right _ (List.mem_append_right _ (List.mem_append_right _ (List.mem_append_right _ (List.mem_append_right _ (List.mem_append_left _ h)))))))))))))))))))))))))))))
theorem wm_14_0 : Cond.fieldLink RJ0 38 "java/lang/String" "COMPACT_STRINGS" "Z" ∈ WL := wl_r14 _ (List.mem_of_getElem? (i := 0) rfl)
theorem wm_14_1 : Cond.fieldLink RJ0 15 "java/lang/String" "coder" "B" ∈ WL := wl_r14 _ (List.mem_of_getElem? (i := 1) rfl)
theorem wm_14_2 : Cond.methodLink RX9 71 yJ0_charAt_5068e ∈ WL := wl_r14 _ (List.mem_of_getElem? (i := 2) rfl)
theorem wm_14_3 : Cond.instanceMethod yJ0_charAt_5068e ∈ WL := wl_r14 _ (List.mem_of_getElem? (i := 3) rfl)
theorem wm_14_4 : Cond.selects RJ0 yJ0_charAt_5068e yJ0_charAt_5068e ∈ WL := wl_r14 _ (List.mem_of_getElem? (i := 4) rfl)
theorem wm_14_5 : Cond.code yJ0_charAt_5068e cJ0_charAt_5068e 2 (some .char) ∈ WL := wl_r14 _ (List.mem_of_getElem? (i := 5) rfl)
theorem wm_14_6 : Cond.methodLink RJ0 492 yJ0_isLatin1_aae02 ∈ WL := wl_r14 _ (List.mem_of_getElem? (i := 6) rfl)
theorem wm_14_7 : Cond.instanceMethod yJ0_isLatin1_aae02 ∈ WL := wl_r14 _ (List.mem_of_getElem? (i := 7) rfl)
theorem wm_14_8 : Cond.selects RJ0 yJ0_isLatin1_aae02 yJ0_isLatin1_aae02 ∈ WL := wl_r14 _ (List.mem_of_getElem? (i := 8) rfl)
theorem wm_14_9 : Cond.code yJ0_isLatin1_aae02 cJ0_isLatin1_aae02 1 (some .boolean) ∈ WL := wl_r14 _ (List.mem_of_getElem? (i := 9) rfl)
theorem wm_14_10 : Cond.methodLink RJ0 495 yJ1_charAt_3b067 ∈ WL := wl_r14 _ (List.mem_of_getElem? (i := 10) rfl)
theorem wm_14_11 : Cond.static yJ1_charAt_3b067 ∈ WL := wl_r14 _ (List.mem_of_getElem? (i := 11) rfl)
theorem wm_14_12 : Cond.initialized RJ1 ∈ WL := wl_r14 _ (List.mem_of_getElem? (i := 12) rfl)
theorem wm_14_13 : Cond.code yJ1_charAt_3b067 cJ1_charAt_3b067 2 (some .char) ∈ WL := wl_r14 _ (List.mem_of_getElem? (i := 13) rfl)
theorem wm_14_14 : Cond.methodLink RJ1 9 yJ0_checkIndex_df160 ∈ WL := wl_r14 _ (List.mem_of_getElem? (i := 14) rfl)
theorem wm_14_15 : Cond.static yJ0_checkIndex_df160 ∈ WL := wl_r14 _ (List.mem_of_getElem? (i := 15) rfl)
theorem wm_14_16 : Cond.code yJ0_checkIndex_df160 cJ0_checkIndex_df160 2 none ∈ WL := wl_r14 _ (List.mem_of_getElem? (i := 16) rfl)
theorem wm_14_17 : Cond.fieldLink RJ0 1053 "jdk/internal/util/Preconditions" "SIOOBE_FORMATTER" "Ljava/util/function/BiFunction;" ∈ WL := wl_r14 _ (List.mem_of_getElem? (i := 17) rfl)
theorem wm_14_18 : Cond.methodLink RJ0 1059 yJ3_checkIndex_8e157 ∈ WL := wl_r14 _ (List.mem_of_getElem? (i := 18) rfl)
theorem wm_14_19 : Cond.static yJ3_checkIndex_8e157 ∈ WL := wl_r14 _ (List.mem_of_getElem? (i := 19) rfl)
theorem wm_14_20 : Cond.initialized RJ3 ∈ WL := wl_r14 _ (List.mem_of_getElem? (i := 20) rfl)
theorem wm_14_21 : Cond.code yJ3_checkIndex_8e157 cJ3_checkIndex_8e157 3 (some .int) ∈ WL := wl_r14 _ (List.mem_of_getElem? (i := 21) rfl)
theorem wm_14_22 : Cond.methodLink RJ0 498 yJ2_charAt_3b067 ∈ WL := wl_r14 _ (List.mem_of_getElem? (i := 22) rfl)
theorem wm_14_23 : Cond.static yJ2_charAt_3b067 ∈ WL := wl_r14 _ (List.mem_of_getElem? (i := 23) rfl)
theorem wl_r15 : ∀ w ∈ wsL_law0_r15, w ∈ WL := fun w h => wl_0 w (List.mem_append_left _ (List.mem_append_left _ (List.mem_append_left _ (List.mem_append_left _ (List.mem_append_left _ (List.mem_append_left _ (List.mem_append_left _ (List.mem_append_left _ (List.mem_append_left _ (List.mem_append_left _ (List.mem_append_left _ (List.mem_append_left _ (List.mem_append_left _ (List.mem_append_left _ ((List.mem_append_right _ (List.mem_append_right _ (List.mem_append_right _ (List.mem_append_right _ (List.mem_append_right _ (List.mem_append_right _ (List.mem_append_right _ (List.mem_append_right _ (List.mem_append_right _ (List.mem_append_right _ (List.mem_append_right _ (List.mem_append_right _ (List.mem_append_right _ (List.mem_append_right _ (List.mem_append_left _ h))))))))))))))))))))))))))))))
theorem wm_15_0 : Cond.initialized RJ2 ∈ WL := wl_r15 _ (List.mem_of_getElem? (i := 0) rfl)
theorem wm_15_1 : Cond.code yJ2_charAt_3b067 cJ2_charAt_3b067 2 (some .char) ∈ WL := wl_r15 _ (List.mem_of_getElem? (i := 1) rfl)
theorem wm_15_2 : Cond.methodLink RJ2 67 yJ2_checkIndex_2214a ∈ WL := wl_r15 _ (List.mem_of_getElem? (i := 2) rfl)
theorem wm_15_3 : Cond.static yJ2_checkIndex_2214a ∈ WL := wl_r15 _ (List.mem_of_getElem? (i := 3) rfl)
theorem wm_15_4 : Cond.code yJ2_checkIndex_2214a cJ2_checkIndex_2214a 2 none ∈ WL := wl_r15 _ (List.mem_of_getElem? (i := 4) rfl)
theorem wm_15_5 : Cond.methodLink RJ2 48 yJ2_length_9d52b ∈ WL := wl_r15 _ (List.mem_of_getElem? (i := 5) rfl)
theorem wm_15_6 : Cond.static yJ2_length_9d52b ∈ WL := wl_r15 _ (List.mem_of_getElem? (i := 6) rfl)
theorem wm_15_7 : Cond.code yJ2_length_9d52b cJ2_length_9d52b 1 (some .int) ∈ WL := wl_r15 _ (List.mem_of_getElem? (i := 7) rfl)
theorem wm_15_8 : Cond.methodLink RJ2 414 yJ0_checkIndex_df160 ∈ WL := wl_r15 _ (List.mem_of_getElem? (i := 8) rfl)
theorem wm_15_9 : Cond.methodLink RJ2 71 yJ2_getChar_3b067 ∈ WL := wl_r15 _ (List.mem_of_getElem? (i := 9) rfl)
theorem wm_15_10 : Cond.static yJ2_getChar_3b067 ∈ WL := wl_r15 _ (List.mem_of_getElem? (i := 10) rfl)
theorem wm_15_11 : Cond.code yJ2_getChar_3b067 cJ2_getChar_3b067 2 (some .char) ∈ WL := wl_r15 _ (List.mem_of_getElem? (i := 11) rfl)
theorem wm_15_12 : Cond.fieldLink RJ2 44 "java/lang/StringUTF16" "$assertionsDisabled" "Z" ∈ WL := wl_r15 _ (List.mem_of_getElem? (i := 12) rfl)
theorem wm_15_13 : Cond.fieldLink RJ2 59 "java/lang/StringUTF16" "HI_BYTE_SHIFT" "I" ∈ WL := wl_r15 _ (List.mem_of_getElem? (i := 13) rfl)
theorem wm_15_14 : Cond.fieldLink RJ2 63 "java/lang/StringUTF16" "LO_BYTE_SHIFT" "I" ∈ WL := wl_r15 _ (List.mem_of_getElem? (i := 14) rfl)
theorem wm_15_15 : Cond.methodLink RX9 75 yX9_isWordAt ∈ WL := wl_r15 _ (List.mem_of_getElem? (i := 15) rfl)
theorem wm_15_16 : Cond.static yX9_isWordAt ∈ WL := wl_r15 _ (List.mem_of_getElem? (i := 16) rfl)
theorem wm_15_17 : Cond.code yX9_isWordAt cX9_isWordAt 6 (some .boolean) ∈ WL := wl_r15 _ (List.mem_of_getElem? (i := 17) rfl)
theorem wm_15_18 : Cond.methodLink RX9 60 yX9_packed ∈ WL := wl_r15 _ (List.mem_of_getElem? (i := 18) rfl)
theorem wm_15_19 : Cond.static yX9_packed ∈ WL := wl_r15 _ (List.mem_of_getElem? (i := 19) rfl)
theorem wm_15_20 : Cond.code yX9_packed cX9_packed 6 (some .int) ∈ WL := wl_r15 _ (List.mem_of_getElem? (i := 20) rfl)
theorem wm_15_21 : Cond.methodLink RX9 45 yX9_takeSign ∈ WL := wl_r15 _ (List.mem_of_getElem? (i := 21) rfl)
theorem wm_15_22 : Cond.instanceMethod yX9_takeSign ∈ WL := wl_r15 _ (List.mem_of_getElem? (i := 22) rfl)
theorem wm_15_23 : Cond.selects RX9 yX9_takeSign yX9_takeSign ∈ WL := wl_r15 _ (List.mem_of_getElem? (i := 23) rfl)
theorem wl_r16 : ∀ w ∈ wsL_law0_r16, w ∈ WL := fun w h => wl_0 w (List.mem_append_left _ (List.mem_append_left _ (List.mem_append_left _ (List.mem_append_left _ (List.mem_append_left _ (List.mem_append_left _ (List.mem_append_left _ (List.mem_append_left _ (List.mem_append_left _ (List.mem_append_left _ (List.mem_append_left _ (List.mem_append_left _ (List.mem_append_left _ (List.mem_append_left _ ((List.mem_append_right _ (List.mem_append_right _ (List.mem_append_right _ (List.mem_append_right _ (List.mem_append_right _ (List.mem_append_right _ (List.mem_append_right _ (List.mem_append_right _ (List.mem_append_right _ (List.mem_append_right _ (List.mem_append_right _ (List.mem_append_right _ (List.mem_append_right _ (List.mem_append_right _ (List.mem_append_right _ (List.mem_append_left _ h)))))))))))))))))))))))))))))))
theorem wm_16_0 : Cond.code yX9_takeSign cX9_takeSign 6 (some .int) ∈ WL := wl_r16 _ (List.mem_of_getElem? (i := 0) rfl)
theorem wm_16_1 : Cond.methodLink RX9 79 yX9_singleSign ∈ WL := wl_r16 _ (List.mem_of_getElem? (i := 1) rfl)
theorem wm_16_2 : Cond.static yX9_singleSign ∈ WL := wl_r16 _ (List.mem_of_getElem? (i := 2) rfl)
theorem wm_16_3 : Cond.code yX9_singleSign cX9_singleSign 1 (some .int) ∈ WL := wl_r16 _ (List.mem_of_getElem? (i := 3) rfl)
theorem wm_16_4 : Cond.methodLink RX9 83 yX9_pairSign ∈ WL := wl_r16 _ (List.mem_of_getElem? (i := 4) rfl)
theorem wm_16_5 : Cond.static yX9_pairSign ∈ WL := wl_r16 _ (List.mem_of_getElem? (i := 5) rfl)
theorem wm_16_6 : Cond.code yX9_pairSign cX9_pairSign 2 (some .int) ∈ WL := wl_r16 _ (List.mem_of_getElem? (i := 6) rfl)
theorem wm_16_7 : Cond.methodLink RX7 45 yX6_clear ∈ WL := wl_r16 _ (List.mem_of_getElem? (i := 7) rfl)
theorem wm_16_8 : Cond.instanceMethod yX6_clear ∈ WL := wl_r16 _ (List.mem_of_getElem? (i := 8) rfl)
theorem wm_16_9 : Cond.selects RX6 yX6_clear yX6_clear ∈ WL := wl_r16 _ (List.mem_of_getElem? (i := 9) rfl)
theorem wm_16_10 : Cond.code yX6_clear cX6_clear 2 none ∈ WL := wl_r16 _ (List.mem_of_getElem? (i := 10) rfl)
theorem wm_16_11 : Cond.methodLink RX6 56 yX3_clear ∈ WL := wl_r16 _ (List.mem_of_getElem? (i := 11) rfl)
theorem wm_16_12 : Cond.instanceMethod yX3_clear ∈ WL := wl_r16 _ (List.mem_of_getElem? (i := 12) rfl)
theorem wm_16_13 : Cond.selects RX3 yX3_clear yX3_clear ∈ WL := wl_r16 _ (List.mem_of_getElem? (i := 13) rfl)
theorem wm_16_14 : Cond.code yX3_clear cX3_clear 2 none ∈ WL := wl_r16 _ (List.mem_of_getElem? (i := 14) rfl)
theorem wm_16_15 : Cond.methodLink RX7 51 yX7_kind ∈ WL := wl_r16 _ (List.mem_of_getElem? (i := 15) rfl)
theorem wm_16_16 : Cond.instanceMethod yX7_kind ∈ WL := wl_r16 _ (List.mem_of_getElem? (i := 16) rfl)
theorem wm_16_17 : Cond.selects RX7 yX7_kind yX7_kind ∈ WL := wl_r16 _ (List.mem_of_getElem? (i := 17) rfl)
theorem wm_16_18 : Cond.code yX7_kind cX7_kind 1 (some .int) ∈ WL := wl_r16 _ (List.mem_of_getElem? (i := 18) rfl)
theorem wm_16_19 : Cond.methodLink RX7 55 yX7_readLine ∈ WL := wl_r16 _ (List.mem_of_getElem? (i := 19) rfl)
theorem wm_16_20 : Cond.instanceMethod yX7_readLine ∈ WL := wl_r16 _ (List.mem_of_getElem? (i := 20) rfl)
theorem wm_16_21 : Cond.selects RX7 yX7_readLine yX7_readLine ∈ WL := wl_r16 _ (List.mem_of_getElem? (i := 21) rfl)
theorem wm_16_22 : Cond.code yX7_readLine cX7_readLine 3 (some .boolean) ∈ WL := wl_r16 _ (List.mem_of_getElem? (i := 22) rfl)
theorem wm_16_23 : Cond.methodLink RX7 74 yX7_readParty ∈ WL := wl_r16 _ (List.mem_of_getElem? (i := 23) rfl)
theorem wl_r17 : ∀ w ∈ wsL_law0_r17, w ∈ WL := fun w h => wl_0 w (List.mem_append_left _ (List.mem_append_left _ (List.mem_append_left _ (List.mem_append_left _ (List.mem_append_left _ (List.mem_append_left _ (List.mem_append_left _ (List.mem_append_left _ (List.mem_append_left _ (List.mem_append_left _ (List.mem_append_left _ (List.mem_append_left _ (List.mem_append_left _ (List.mem_append_left _ ((List.mem_append_right _ (List.mem_append_right _ (List.mem_append_right _ (List.mem_append_right _ (List.mem_append_right _ (List.mem_append_right _ (List.mem_append_right _ (List.mem_append_right _ (List.mem_append_right _ (List.mem_append_right _ (List.mem_append_right _ (List.mem_append_right _ (List.mem_append_right _ (List.mem_append_right _ (List.mem_append_right _ (List.mem_append_right _ (List.mem_append_left _ h))))))))))))))))))))))))))))))))
theorem wm_17_0 : Cond.instanceMethod yX7_readParty ∈ WL := wl_r17 _ (List.mem_of_getElem? (i := 0) rfl)
theorem wm_17_1 : Cond.selects RX7 yX7_readParty yX7_readParty ∈ WL := wl_r17 _ (List.mem_of_getElem? (i := 1) rfl)
theorem wm_17_2 : Cond.code yX7_readParty cX7_readParty 4 (some .boolean) ∈ WL := wl_r17 _ (List.mem_of_getElem? (i := 2) rfl)
theorem wm_17_3 : Cond.methodLink RX7 68 yX7_refuse ∈ WL := wl_r17 _ (List.mem_of_getElem? (i := 3) rfl)
theorem wm_17_4 : Cond.instanceMethod yX7_refuse ∈ WL := wl_r17 _ (List.mem_of_getElem? (i := 4) rfl)
theorem wm_17_5 : Cond.selects RX7 yX7_refuse yX7_refuse ∈ WL := wl_r17 _ (List.mem_of_getElem? (i := 5) rfl)
theorem wm_17_6 : Cond.code yX7_refuse cX7_refuse 2 (some .boolean) ∈ WL := wl_r17 _ (List.mem_of_getElem? (i := 6) rfl)
theorem wm_17_7 : Cond.methodLink RX7 72 yX7_value ∈ WL := wl_r17 _ (List.mem_of_getElem? (i := 7) rfl)
theorem wm_17_8 : Cond.instanceMethod yX7_value ∈ WL := wl_r17 _ (List.mem_of_getElem? (i := 8) rfl)
theorem wm_17_9 : Cond.selects RX7 yX7_value yX7_value ∈ WL := wl_r17 _ (List.mem_of_getElem? (i := 9) rfl)
theorem wm_17_10 : Cond.code yX7_value cX7_value 1 (some .int) ∈ WL := wl_r17 _ (List.mem_of_getElem? (i := 10) rfl)
theorem wm_17_11 : Cond.methodLink RX7 92 yX6_numberOf ∈ WL := wl_r17 _ (List.mem_of_getElem? (i := 11) rfl)
theorem wm_17_12 : Cond.instanceMethod yX6_numberOf ∈ WL := wl_r17 _ (List.mem_of_getElem? (i := 12) rfl)
theorem wm_17_13 : Cond.selects RX6 yX6_numberOf yX6_numberOf ∈ WL := wl_r17 _ (List.mem_of_getElem? (i := 13) rfl)
theorem wm_17_14 : Cond.code yX6_numberOf cX6_numberOf 3 (some .int) ∈ WL := wl_r17 _ (List.mem_of_getElem? (i := 14) rfl)
theorem wm_17_15 : Cond.methodLink RX7 102 yX7_readNumber ∈ WL := wl_r17 _ (List.mem_of_getElem? (i := 15) rfl)
theorem wm_17_16 : Cond.instanceMethod yX7_readNumber ∈ WL := wl_r17 _ (List.mem_of_getElem? (i := 16) rfl)
theorem wm_17_17 : Cond.selects RX7 yX7_readNumber yX7_readNumber ∈ WL := wl_r17 _ (List.mem_of_getElem? (i := 17) rfl)
theorem wm_17_18 : Cond.code yX7_readNumber cX7_readNumber 3 (some .boolean) ∈ WL := wl_r17 _ (List.mem_of_getElem? (i := 18) rfl)
theorem wm_17_19 : Cond.methodLink RX7 77 yX7_readSitting ∈ WL := wl_r17 _ (List.mem_of_getElem? (i := 19) rfl)
theorem wm_17_20 : Cond.instanceMethod yX7_readSitting ∈ WL := wl_r17 _ (List.mem_of_getElem? (i := 20) rfl)
theorem wm_17_21 : Cond.selects RX7 yX7_readSitting yX7_readSitting ∈ WL := wl_r17 _ (List.mem_of_getElem? (i := 21) rfl)
theorem wm_17_22 : Cond.code yX7_readSitting cX7_readSitting 3 (some .boolean) ∈ WL := wl_r17 _ (List.mem_of_getElem? (i := 22) rfl)
theorem wm_17_23 : Cond.methodLink RX7 80 yX7_readLaw ∈ WL := wl_r17 _ (List.mem_of_getElem? (i := 23) rfl)
theorem wl_r18 : ∀ w ∈ wsL_law0_r18, w ∈ WL := fun w h => wl_0 w (List.mem_append_left _ (List.mem_append_left _ (List.mem_append_left _ (List.mem_append_left _ (List.mem_append_left _ (List.mem_append_left _ (List.mem_append_left _ (List.mem_append_left _ (List.mem_append_left _ (List.mem_append_left _ (List.mem_append_left _ (List.mem_append_left _ (List.mem_append_left _ (List.mem_append_left _ ((List.mem_append_right _ (List.mem_append_right _ (List.mem_append_right _ (List.mem_append_right _ (List.mem_append_right _ (List.mem_append_right _ (List.mem_append_right _ (List.mem_append_right _ (List.mem_append_right _ (List.mem_append_right _ (List.mem_append_right _ (List.mem_append_right _ (List.mem_append_right _ (List.mem_append_right _ (List.mem_append_right _ (List.mem_append_right _ (List.mem_append_right _ (List.mem_append_left _ h)))))))))))))))))))))))))))))))))
theorem wm_18_0 : Cond.instanceMethod yX7_readLaw ∈ WL := wl_r18 _ (List.mem_of_getElem? (i := 0) rfl)
theorem wm_18_1 : Cond.selects RX7 yX7_readLaw yX7_readLaw ∈ WL := wl_r18 _ (List.mem_of_getElem? (i := 1) rfl)
theorem wm_18_2 : Cond.code yX7_readLaw cX7_readLaw 3 (some .boolean) ∈ WL := wl_r18 _ (List.mem_of_getElem? (i := 2) rfl)
theorem wm_18_3 : Cond.methodLink RX7 139 yX3_isTold ∈ WL := wl_r18 _ (List.mem_of_getElem? (i := 3) rfl)
theorem wm_18_4 : Cond.instanceMethod yX3_isTold ∈ WL := wl_r18 _ (List.mem_of_getElem? (i := 4) rfl)
theorem wm_18_5 : Cond.selects RX3 yX3_isTold yX3_isTold ∈ WL := wl_r18 _ (List.mem_of_getElem? (i := 5) rfl)
theorem wm_18_6 : Cond.code yX3_isTold cX3_isTold 2 (some .boolean) ∈ WL := wl_r18 _ (List.mem_of_getElem? (i := 6) rfl)
theorem wm_18_7 : Cond.methodLink RX7 146 yX7_readRank ∈ WL := wl_r18 _ (List.mem_of_getElem? (i := 7) rfl)
theorem wm_18_8 : Cond.instanceMethod yX7_readRank ∈ WL := wl_r18 _ (List.mem_of_getElem? (i := 8) rfl)
theorem wm_18_9 : Cond.selects RX7 yX7_readRank yX7_readRank ∈ WL := wl_r18 _ (List.mem_of_getElem? (i := 9) rfl)
theorem wm_18_10 : Cond.code yX7_readRank cX7_readRank 7 (some .boolean) ∈ WL := wl_r18 _ (List.mem_of_getElem? (i := 10) rfl)
theorem wm_18_11 : Cond.methodLink RX7 153 yX7_readPart ∈ WL := wl_r18 _ (List.mem_of_getElem? (i := 11) rfl)
theorem wm_18_12 : Cond.instanceMethod yX7_readPart ∈ WL := wl_r18 _ (List.mem_of_getElem? (i := 12) rfl)
theorem wm_18_13 : Cond.selects RX7 yX7_readPart yX7_readPart ∈ WL := wl_r18 _ (List.mem_of_getElem? (i := 13) rfl)
theorem wm_18_14 : Cond.methodLink RX7 156 yX7_takeKnot ∈ WL := wl_r18 _ (List.mem_of_getElem? (i := 14) rfl)
theorem wm_18_15 : Cond.instanceMethod yX7_takeKnot ∈ WL := wl_r18 _ (List.mem_of_getElem? (i := 15) rfl)
theorem wm_18_16 : Cond.selects RX7 yX7_takeKnot yX7_takeKnot ∈ WL := wl_r18 _ (List.mem_of_getElem? (i := 16) rfl)
theorem wm_18_17 : Cond.code yX7_takeKnot cX7_takeKnot 1 (some .boolean) ∈ WL := wl_r18 _ (List.mem_of_getElem? (i := 17) rfl)
theorem wm_18_18 : Cond.methodLink RX7 159 yX7_rankOf ∈ WL := wl_r18 _ (List.mem_of_getElem? (i := 18) rfl)
theorem wm_18_19 : Cond.static yX7_rankOf ∈ WL := wl_r18 _ (List.mem_of_getElem? (i := 19) rfl)
theorem wm_18_20 : Cond.code yX7_rankOf cX7_rankOf 1 (some .int) ∈ WL := wl_r18 _ (List.mem_of_getElem? (i := 20) rfl)
theorem wm_18_21 : Cond.methodLink RX7 162 yX3_put ∈ WL := wl_r18 _ (List.mem_of_getElem? (i := 21) rfl)
theorem wm_18_22 : Cond.instanceMethod yX3_put ∈ WL := wl_r18 _ (List.mem_of_getElem? (i := 22) rfl)
theorem wm_18_23 : Cond.selects RX3 yX3_put yX3_put ∈ WL := wl_r18 _ (List.mem_of_getElem? (i := 23) rfl)
theorem wl_r19 : ∀ w ∈ wsL_law0_r19, w ∈ WL := fun w h => wl_0 w (List.mem_append_left _ (List.mem_append_left _ (List.mem_append_left _ (List.mem_append_left _ (List.mem_append_left _ (List.mem_append_left _ (List.mem_append_left _ (List.mem_append_left _ (List.mem_append_left _ (List.mem_append_left _ (List.mem_append_left _ (List.mem_append_left _ (List.mem_append_left _ (List.mem_append_left _ ((List.mem_append_right _ (List.mem_append_right _ (List.mem_append_right _ (List.mem_append_right _ (List.mem_append_right _ (List.mem_append_right _ (List.mem_append_right _ (List.mem_append_right _ (List.mem_append_right _ (List.mem_append_right _ (List.mem_append_right _ (List.mem_append_right _ (List.mem_append_right _ (List.mem_append_right _ (List.mem_append_right _ (List.mem_append_right _ (List.mem_append_right _ (List.mem_append_right _ (List.mem_append_left _ h))))))))))))))))))))))))))))))))))
theorem wm_19_0 : Cond.code yX3_put cX3_put 3 none ∈ WL := wl_r19 _ (List.mem_of_getElem? (i := 0) rfl)
theorem wm_19_1 : Cond.code yX7_readPart cX7_readPart 4 (some .boolean) ∈ WL := wl_r19 _ (List.mem_of_getElem? (i := 1) rfl)
theorem wm_19_2 : Cond.methodLink RX7 86 yX7_expect ∈ WL := wl_r19 _ (List.mem_of_getElem? (i := 2) rfl)
theorem wm_19_3 : Cond.instanceMethod yX7_expect ∈ WL := wl_r19 _ (List.mem_of_getElem? (i := 3) rfl)
theorem wm_19_4 : Cond.selects RX7 yX7_expect yX7_expect ∈ WL := wl_r19 _ (List.mem_of_getElem? (i := 4) rfl)
theorem wm_19_5 : Cond.code yX7_expect cX7_expect 2 (some .boolean) ∈ WL := wl_r19 _ (List.mem_of_getElem? (i := 5) rfl)
theorem wm_19_6 : Cond.methodLink RX7 149 yX3_tell ∈ WL := wl_r19 _ (List.mem_of_getElem? (i := 6) rfl)
theorem wm_19_7 : Cond.instanceMethod yX3_tell ∈ WL := wl_r19 _ (List.mem_of_getElem? (i := 7) rfl)
theorem wm_19_8 : Cond.selects RX3 yX3_tell yX3_tell ∈ WL := wl_r19 _ (List.mem_of_getElem? (i := 8) rfl)
theorem wm_19_9 : Cond.code yX3_tell cX3_tell 3 none ∈ WL := wl_r19 _ (List.mem_of_getElem? (i := 9) rfl)
theorem wm_19_10 : Cond.methodLink RX7 83 yX7_readSetting ∈ WL := wl_r19 _ (List.mem_of_getElem? (i := 10) rfl)
theorem wm_19_11 : Cond.instanceMethod yX7_readSetting ∈ WL := wl_r19 _ (List.mem_of_getElem? (i := 11) rfl)
theorem wm_19_12 : Cond.selects RX7 yX7_readSetting yX7_readSetting ∈ WL := wl_r19 _ (List.mem_of_getElem? (i := 12) rfl)
theorem wm_19_13 : Cond.code yX7_readSetting cX7_readSetting 2 (some .boolean) ∈ WL := wl_r19 _ (List.mem_of_getElem? (i := 13) rfl)
theorem wm_19_14 : Cond.methodLink RX11 121 yX5_clear ∈ WL := wl_r19 _ (List.mem_of_getElem? (i := 14) rfl)
theorem wm_19_15 : Cond.instanceMethod yX5_clear ∈ WL := wl_r19 _ (List.mem_of_getElem? (i := 15) rfl)
theorem wm_19_16 : Cond.selects RX5 yX5_clear yX5_clear ∈ WL := wl_r19 _ (List.mem_of_getElem? (i := 16) rfl)
theorem wm_19_17 : Cond.code yX5_clear cX5_clear 1 none ∈ WL := wl_r19 _ (List.mem_of_getElem? (i := 17) rfl)
theorem wm_19_18 : Cond.methodLink RL 30 yX12_text ∈ WL := wl_r19 _ (List.mem_of_getElem? (i := 18) rfl)
theorem wm_19_19 : Cond.instanceMethod yX12_text ∈ WL := wl_r19 _ (List.mem_of_getElem? (i := 19) rfl)
theorem wm_19_20 : Cond.selects RX12 yX12_text yX12_text ∈ WL := wl_r19 _ (List.mem_of_getElem? (i := 20) rfl)
theorem wm_19_21 : Cond.code yX12_text cX12_text 3 (some .int) ∈ WL := wl_r19 _ (List.mem_of_getElem? (i := 21) rfl)
theorem wm_19_22 : Cond.fieldLink RX12 166 "ThreeSittingsModel" "size" "I" ∈ WL := wl_r19 _ (List.mem_of_getElem? (i := 22) rfl)
theorem wm_19_23 : Cond.fieldLink RX12 163 "ThreeSittingsModel" "at" "I" ∈ WL := wl_r19 _ (List.mem_of_getElem? (i := 23) rfl)
theorem wl_r20 : ∀ w ∈ wsL_law0_r20, w ∈ WL := fun w h => wl_0 w (List.mem_append_left _ (List.mem_append_left _ (List.mem_append_left _ (List.mem_append_left _ (List.mem_append_left _ (List.mem_append_left _ (List.mem_append_left _ (List.mem_append_left _ (List.mem_append_left _ (List.mem_append_left _ (List.mem_append_left _ (List.mem_append_left _ (List.mem_append_left _ (List.mem_append_left _ ((List.mem_append_right _ (List.mem_append_right _ (List.mem_append_right _ (List.mem_append_right _ (List.mem_append_right _ (List.mem_append_right _ (List.mem_append_right _ (List.mem_append_right _ (List.mem_append_right _ (List.mem_append_right _ (List.mem_append_right _ (List.mem_append_right _ (List.mem_append_right _ (List.mem_append_right _ (List.mem_append_right _ (List.mem_append_right _ (List.mem_append_right _ (List.mem_append_right _ (List.mem_append_right _ (List.mem_append_left _ h)))))))))))))))))))))))))))))))))))
theorem wm_20_0 : Cond.fieldLink RX12 210 "ThreeSittingsModel" "fault" "I" ∈ WL := wl_r20 _ (List.mem_of_getElem? (i := 0) rfl)
theorem wm_20_1 : Cond.fieldLink RX12 213 "ThreeSittingsModel" "faultPlace" "I" ∈ WL := wl_r20 _ (List.mem_of_getElem? (i := 1) rfl)
theorem wm_20_2 : Cond.fieldLink RX12 230 "ThreeSittingsModel" "told" "I" ∈ WL := wl_r20 _ (List.mem_of_getElem? (i := 2) rfl)
theorem wm_20_3 : Cond.fieldLink RX12 250 "ThreeSittingsModel" "lines" "I" ∈ WL := wl_r20 _ (List.mem_of_getElem? (i := 3) rfl)
theorem wm_20_4 : Cond.fieldLink RX12 290 "ThreeSittingsModel" "open" "I" ∈ WL := wl_r20 _ (List.mem_of_getElem? (i := 4) rfl)
theorem wm_20_5 : Cond.fieldLink RX12 260 "ThreeSittingsModel" "counted" "I" ∈ WL := wl_r20 _ (List.mem_of_getElem? (i := 5) rfl)
theorem wm_20_6 : Cond.fieldLink RX12 176 "ThreeSittingsModel" "sort" "I" ∈ WL := wl_r20 _ (List.mem_of_getElem? (i := 6) rfl)
theorem wm_20_7 : Cond.fieldLink RX12 296 "ThreeSittingsModel" "lastFault" "I" ∈ WL := wl_r20 _ (List.mem_of_getElem? (i := 7) rfl)
theorem wm_20_8 : Cond.fieldLink RX12 303 "ThreeSittingsModel" "notes" "I" ∈ WL := wl_r20 _ (List.mem_of_getElem? (i := 8) rfl)
theorem wm_20_9 : Cond.fieldLink RX12 306 "ThreeSittingsModel" "hasImage" "Z" ∈ WL := wl_r20 _ (List.mem_of_getElem? (i := 9) rfl)
theorem wm_20_10 : Cond.fieldLink RX12 310 "ThreeSittingsModel" "undoMany" "I" ∈ WL := wl_r20 _ (List.mem_of_getElem? (i := 10) rfl)
theorem wm_20_11 : Cond.methodLink RX12 240 yX12_reads ∈ WL := wl_r20 _ (List.mem_of_getElem? (i := 11) rfl)
theorem wm_20_12 : Cond.instanceMethod yX12_reads ∈ WL := wl_r20 _ (List.mem_of_getElem? (i := 12) rfl)
theorem wm_20_13 : Cond.selects RX12 yX12_reads yX12_reads ∈ WL := wl_r20 _ (List.mem_of_getElem? (i := 13) rfl)
theorem wm_20_14 : Cond.code yX12_reads cX12_reads 3 none ∈ WL := wl_r20 _ (List.mem_of_getElem? (i := 14) rfl)
theorem wm_20_15 : Cond.methodLink RX12 216 yX12_token ∈ WL := wl_r20 _ (List.mem_of_getElem? (i := 15) rfl)
theorem wm_20_16 : Cond.instanceMethod yX12_token ∈ WL := wl_r20 _ (List.mem_of_getElem? (i := 16) rfl)
theorem wm_20_17 : Cond.selects RX12 yX12_token yX12_token ∈ WL := wl_r20 _ (List.mem_of_getElem? (i := 17) rfl)
theorem wm_20_18 : Cond.code yX12_token cX12_token 2 none ∈ WL := wl_r20 _ (List.mem_of_getElem? (i := 18) rfl)
theorem wm_20_19 : Cond.fieldLink RX12 173 "ThreeSittingsModel" "place" "I" ∈ WL := wl_r20 _ (List.mem_of_getElem? (i := 19) rfl)
theorem wm_20_20 : Cond.fieldLink RX12 186 "ThreeSittingsModel" "value" "I" ∈ WL := wl_r20 _ (List.mem_of_getElem? (i := 20) rfl)
theorem wm_20_21 : Cond.constant RX12 195 (99999) ∈ WL := wl_r20 _ (List.mem_of_getElem? (i := 21) rfl)
theorem wm_20_22 : Cond.methodLink RX12 169 yX12_here ∈ WL := wl_r20 _ (List.mem_of_getElem? (i := 22) rfl)
theorem wm_20_23 : Cond.instanceMethod yX12_here ∈ WL := wl_r20 _ (List.mem_of_getElem? (i := 23) rfl)
theorem wl_r21 : ∀ w ∈ wsL_law0_r21, w ∈ WL := fun w h => wl_0 w (List.mem_append_left _ (List.mem_append_left _ (List.mem_append_left _ (List.mem_append_left _ (List.mem_append_left _ (List.mem_append_left _ (List.mem_append_left _ (List.mem_append_left _ (List.mem_append_left _ (List.mem_append_left _ (List.mem_append_left _ (List.mem_append_left _ (List.mem_append_left _ (List.mem_append_left _ ((List.mem_append_right _ (List.mem_append_right _ (List.mem_append_right _ (List.mem_append_right _ (List.mem_append_right _ (List.mem_append_right _ (List.mem_append_right _ (List.mem_append_right _ (List.mem_append_right _ (List.mem_append_right _ (List.mem_append_right _ (List.mem_append_right _ (List.mem_append_right _ (List.mem_append_right _ (List.mem_append_right _ (List.mem_append_right _ (List.mem_append_right _ (List.mem_append_right _ (List.mem_append_right _ (List.mem_append_right _ (List.mem_append_left _ h))))))))))))))))))))))))))))))))))))
theorem wm_21_0 : Cond.selects RX12 yX12_here yX12_here ∈ WL := wl_r21 _ (List.mem_of_getElem? (i := 0) rfl)
theorem wm_21_1 : Cond.code yX12_here cX12_here 1 (some .int) ∈ WL := wl_r21 _ (List.mem_of_getElem? (i := 1) rfl)
theorem wm_21_2 : Cond.methodLink RX12 179 yX12_isSmall ∈ WL := wl_r21 _ (List.mem_of_getElem? (i := 2) rfl)
theorem wm_21_3 : Cond.static yX12_isSmall ∈ WL := wl_r21 _ (List.mem_of_getElem? (i := 3) rfl)
theorem wm_21_4 : Cond.code yX12_isSmall cX12_isSmall 1 (some .boolean) ∈ WL := wl_r21 _ (List.mem_of_getElem? (i := 4) rfl)
theorem wm_21_5 : Cond.methodLink RX12 183 yX12_word ∈ WL := wl_r21 _ (List.mem_of_getElem? (i := 5) rfl)
theorem wm_21_6 : Cond.instanceMethod yX12_word ∈ WL := wl_r21 _ (List.mem_of_getElem? (i := 6) rfl)
theorem wm_21_7 : Cond.selects RX12 yX12_word yX12_word ∈ WL := wl_r21 _ (List.mem_of_getElem? (i := 7) rfl)
theorem wm_21_8 : Cond.code yX12_word cX12_word 4 (some .int) ∈ WL := wl_r21 _ (List.mem_of_getElem? (i := 8) rfl)
theorem wm_21_9 : Cond.methodLink RX12 201 yJ0_length_8abf5 ∈ WL := wl_r21 _ (List.mem_of_getElem? (i := 9) rfl)
theorem wm_21_10 : Cond.methodLink RX12 206 yJ0_charAt_5068e ∈ WL := wl_r21 _ (List.mem_of_getElem? (i := 10) rfl)
theorem wm_21_11 : Cond.methodLink RX12 189 yX12_name ∈ WL := wl_r21 _ (List.mem_of_getElem? (i := 11) rfl)
theorem wm_21_12 : Cond.instanceMethod yX12_name ∈ WL := wl_r21 _ (List.mem_of_getElem? (i := 12) rfl)
theorem wm_21_13 : Cond.selects RX12 yX12_name yX12_name ∈ WL := wl_r21 _ (List.mem_of_getElem? (i := 13) rfl)
theorem wm_21_14 : Cond.code yX12_name cX12_name 2 none ∈ WL := wl_r21 _ (List.mem_of_getElem? (i := 14) rfl)
theorem wm_21_15 : Cond.methodLink RX12 192 yX12_isDigit ∈ WL := wl_r21 _ (List.mem_of_getElem? (i := 15) rfl)
theorem wm_21_16 : Cond.static yX12_isDigit ∈ WL := wl_r21 _ (List.mem_of_getElem? (i := 16) rfl)
theorem wm_21_17 : Cond.code yX12_isDigit cX12_isDigit 1 (some .boolean) ∈ WL := wl_r21 _ (List.mem_of_getElem? (i := 17) rfl)
theorem wm_21_18 : Cond.methodLink RX12 196 yX12_sign ∈ WL := wl_r21 _ (List.mem_of_getElem? (i := 18) rfl)
theorem wm_21_19 : Cond.instanceMethod yX12_sign ∈ WL := wl_r21 _ (List.mem_of_getElem? (i := 19) rfl)
theorem wm_21_20 : Cond.selects RX12 yX12_sign yX12_sign ∈ WL := wl_r21 _ (List.mem_of_getElem? (i := 20) rfl)
theorem wm_21_21 : Cond.code yX12_sign cX12_sign 2 none ∈ WL := wl_r21 _ (List.mem_of_getElem? (i := 21) rfl)
theorem wm_21_22 : Cond.methodLink RX12 293 yX12_line ∈ WL := wl_r21 _ (List.mem_of_getElem? (i := 22) rfl)
theorem wm_21_23 : Cond.instanceMethod yX12_line ∈ WL := wl_r21 _ (List.mem_of_getElem? (i := 23) rfl)
theorem wl_r22 : ∀ w ∈ wsL_law0_r22, w ∈ WL := fun w h => wl_0 w (List.mem_append_left _ (List.mem_append_left _ (List.mem_append_left _ (List.mem_append_left _ (List.mem_append_left _ (List.mem_append_left _ (List.mem_append_left _ (List.mem_append_left _ (List.mem_append_left _ (List.mem_append_left _ (List.mem_append_left _ (List.mem_append_left _ (List.mem_append_left _ (List.mem_append_left _ ((List.mem_append_right _ (List.mem_append_right _ (List.mem_append_right _ (List.mem_append_right _ (List.mem_append_right _ (List.mem_append_right _ (List.mem_append_right _ (List.mem_append_right _ (List.mem_append_right _ (List.mem_append_right _ (List.mem_append_right _ (List.mem_append_right _ (List.mem_append_right _ (List.mem_append_right _ (List.mem_append_right _ (List.mem_append_right _ (List.mem_append_right _ (List.mem_append_right _ (List.mem_append_right _ (List.mem_append_right _ (List.mem_append_right _ (List.mem_append_left _ h)))))))))))))))))))))))))))))))))))))
theorem wm_22_0 : Cond.selects RX12 yX12_line yX12_line ∈ WL := wl_r22 _ (List.mem_of_getElem? (i := 0) rfl)
theorem wm_22_1 : Cond.code yX12_line cX12_line 4 none ∈ WL := wl_r22 _ (List.mem_of_getElem? (i := 1) rfl)
theorem wm_22_2 : Cond.methodLink RX12 219 yX12_wrong ∈ WL := wl_r22 _ (List.mem_of_getElem? (i := 2) rfl)
theorem wm_22_3 : Cond.instanceMethod yX12_wrong ∈ WL := wl_r22 _ (List.mem_of_getElem? (i := 3) rfl)
theorem wm_22_4 : Cond.selects RX12 yX12_wrong yX12_wrong ∈ WL := wl_r22 _ (List.mem_of_getElem? (i := 4) rfl)
theorem wm_22_5 : Cond.code yX12_wrong cX12_wrong 2 none ∈ WL := wl_r22 _ (List.mem_of_getElem? (i := 5) rfl)
theorem wm_22_6 : Cond.methodLink RX12 226 yX12_fresher ∈ WL := wl_r22 _ (List.mem_of_getElem? (i := 6) rfl)
theorem wm_22_7 : Cond.instanceMethod yX12_fresher ∈ WL := wl_r22 _ (List.mem_of_getElem? (i := 7) rfl)
theorem wm_22_8 : Cond.selects RX12 yX12_fresher yX12_fresher ∈ WL := wl_r22 _ (List.mem_of_getElem? (i := 8) rfl)
theorem wm_22_9 : Cond.code yX12_fresher cX12_fresher 2 (some .int) ∈ WL := wl_r22 _ (List.mem_of_getElem? (i := 9) rfl)
theorem wm_22_10 : Cond.methodLink RX12 233 yX12_partyLine ∈ WL := wl_r22 _ (List.mem_of_getElem? (i := 10) rfl)
theorem wm_22_11 : Cond.instanceMethod yX12_partyLine ∈ WL := wl_r22 _ (List.mem_of_getElem? (i := 11) rfl)
theorem wm_22_12 : Cond.selects RX12 yX12_partyLine yX12_partyLine ∈ WL := wl_r22 _ (List.mem_of_getElem? (i := 12) rfl)
theorem wm_22_13 : Cond.code yX12_partyLine cX12_partyLine 3 none ∈ WL := wl_r22 _ (List.mem_of_getElem? (i := 13) rfl)
theorem wm_22_14 : Cond.methodLink RX12 253 yX12_fresh ∈ WL := wl_r22 _ (List.mem_of_getElem? (i := 14) rfl)
theorem wm_22_15 : Cond.instanceMethod yX12_fresh ∈ WL := wl_r22 _ (List.mem_of_getElem? (i := 15) rfl)
theorem wm_22_16 : Cond.selects RX12 yX12_fresh yX12_fresh ∈ WL := wl_r22 _ (List.mem_of_getElem? (i := 16) rfl)
theorem wm_22_17 : Cond.code yX12_fresh cX12_fresh 5 (some .int) ∈ WL := wl_r22 _ (List.mem_of_getElem? (i := 17) rfl)
theorem wm_22_18 : Cond.methodLink RX12 222 yX12_found ∈ WL := wl_r22 _ (List.mem_of_getElem? (i := 18) rfl)
theorem wm_22_19 : Cond.static yX12_found ∈ WL := wl_r22 _ (List.mem_of_getElem? (i := 19) rfl)
theorem wm_22_20 : Cond.code yX12_found cX12_found 5 (some .int) ∈ WL := wl_r22 _ (List.mem_of_getElem? (i := 20) rfl)
theorem wm_22_21 : Cond.methodLink RX12 236 yX12_numeral ∈ WL := wl_r22 _ (List.mem_of_getElem? (i := 21) rfl)
theorem wm_22_22 : Cond.instanceMethod yX12_numeral ∈ WL := wl_r22 _ (List.mem_of_getElem? (i := 22) rfl)
theorem wm_22_23 : Cond.selects RX12 yX12_numeral yX12_numeral ∈ WL := wl_r22 _ (List.mem_of_getElem? (i := 23) rfl)
theorem wl_r23 : ∀ w ∈ wsL_law0_r23, w ∈ WL := fun w h => wl_0 w (List.mem_append_left _ (List.mem_append_left _ (List.mem_append_left _ (List.mem_append_left _ (List.mem_append_left _ (List.mem_append_left _ (List.mem_append_left _ (List.mem_append_left _ (List.mem_append_left _ (List.mem_append_left _ (List.mem_append_left _ (List.mem_append_left _ (List.mem_append_left _ (List.mem_append_left _ ((List.mem_append_right _ (List.mem_append_right _ (List.mem_append_right _ (List.mem_append_right _ (List.mem_append_right _ (List.mem_append_right _ (List.mem_append_right _ (List.mem_append_right _ (List.mem_append_right _ (List.mem_append_right _ (List.mem_append_right _ (List.mem_append_right _ (List.mem_append_right _ (List.mem_append_right _ (List.mem_append_right _ (List.mem_append_right _ (List.mem_append_right _ (List.mem_append_right _ (List.mem_append_right _ (List.mem_append_right _ (List.mem_append_right _ (List.mem_append_right _ (List.mem_append_left _ h))))))))))))))))))))))))))))))))))))))
theorem wm_23_0 : Cond.code yX12_numeral cX12_numeral 4 (some .int) ∈ WL := wl_r23 _ (List.mem_of_getElem? (i := 0) rfl)
theorem wm_23_1 : Cond.methodLink RX12 244 yX12_lawLine ∈ WL := wl_r23 _ (List.mem_of_getElem? (i := 1) rfl)
theorem wm_23_2 : Cond.instanceMethod yX12_lawLine ∈ WL := wl_r23 _ (List.mem_of_getElem? (i := 2) rfl)
theorem wm_23_3 : Cond.selects RX12 yX12_lawLine yX12_lawLine ∈ WL := wl_r23 _ (List.mem_of_getElem? (i := 3) rfl)
theorem wm_23_4 : Cond.code yX12_lawLine cX12_lawLine 2 none ∈ WL := wl_r23 _ (List.mem_of_getElem? (i := 4) rfl)
theorem wm_23_5 : Cond.methodLink RX12 257 yX12_expression ∈ WL := wl_r23 _ (List.mem_of_getElem? (i := 5) rfl)
theorem wm_23_6 : Cond.instanceMethod yX12_expression ∈ WL := wl_r23 _ (List.mem_of_getElem? (i := 6) rfl)
theorem wm_23_7 : Cond.selects RX12 yX12_expression yX12_expression ∈ WL := wl_r23 _ (List.mem_of_getElem? (i := 7) rfl)
theorem wm_23_8 : Cond.code yX12_expression cX12_expression 1 none ∈ WL := wl_r23 _ (List.mem_of_getElem? (i := 8) rfl)
theorem wm_23_9 : Cond.methodLink RX12 263 yX12_conjunction ∈ WL := wl_r23 _ (List.mem_of_getElem? (i := 9) rfl)
theorem wm_23_10 : Cond.instanceMethod yX12_conjunction ∈ WL := wl_r23 _ (List.mem_of_getElem? (i := 10) rfl)
theorem wm_23_11 : Cond.selects RX12 yX12_conjunction yX12_conjunction ∈ WL := wl_r23 _ (List.mem_of_getElem? (i := 11) rfl)
theorem wm_23_12 : Cond.methodLink RX12 266 yX12_isWord ∈ WL := wl_r23 _ (List.mem_of_getElem? (i := 12) rfl)
theorem wm_23_13 : Cond.instanceMethod yX12_isWord ∈ WL := wl_r23 _ (List.mem_of_getElem? (i := 13) rfl)
theorem wm_23_14 : Cond.selects RX12 yX12_isWord yX12_isWord ∈ WL := wl_r23 _ (List.mem_of_getElem? (i := 14) rfl)
theorem wm_23_15 : Cond.code yX12_isWord cX12_isWord 2 (some .boolean) ∈ WL := wl_r23 _ (List.mem_of_getElem? (i := 15) rfl)
theorem wm_23_16 : Cond.methodLink RX12 269 yX12_knot ∈ WL := wl_r23 _ (List.mem_of_getElem? (i := 16) rfl)
theorem wm_23_17 : Cond.instanceMethod yX12_knot ∈ WL := wl_r23 _ (List.mem_of_getElem? (i := 17) rfl)
theorem wm_23_18 : Cond.selects RX12 yX12_knot yX12_knot ∈ WL := wl_r23 _ (List.mem_of_getElem? (i := 18) rfl)
theorem wm_23_19 : Cond.code yX12_knot cX12_knot 1 none ∈ WL := wl_r23 _ (List.mem_of_getElem? (i := 19) rfl)
theorem wm_23_20 : Cond.methodLink RX12 272 yX12_goOn ∈ WL := wl_r23 _ (List.mem_of_getElem? (i := 20) rfl)
theorem wm_23_21 : Cond.instanceMethod yX12_goOn ∈ WL := wl_r23 _ (List.mem_of_getElem? (i := 21) rfl)
theorem wm_23_22 : Cond.selects RX12 yX12_goOn yX12_goOn ∈ WL := wl_r23 _ (List.mem_of_getElem? (i := 22) rfl)
theorem wm_23_23 : Cond.code yX12_goOn cX12_goOn 1 none ∈ WL := wl_r23 _ (List.mem_of_getElem? (i := 23) rfl)
theorem wl_r24 : ∀ w ∈ wsL_law0_r24, w ∈ WL := fun w h => wl_0 w (List.mem_append_left _ (List.mem_append_left _ (List.mem_append_left _ (List.mem_append_left _ (List.mem_append_left _ (List.mem_append_left _ (List.mem_append_left _ (List.mem_append_left _ (List.mem_append_left _ (List.mem_append_left _ (List.mem_append_left _ (List.mem_append_left _ (List.mem_append_left _ (List.mem_append_left _ ((List.mem_append_right _ (List.mem_append_right _ (List.mem_append_right _ (List.mem_append_right _ (List.mem_append_right _ (List.mem_append_right _ (List.mem_append_right _ (List.mem_append_right _ (List.mem_append_right _ (List.mem_append_right _ (List.mem_append_right _ (List.mem_append_right _ (List.mem_append_right _ (List.mem_append_right _ (List.mem_append_right _ (List.mem_append_right _ (List.mem_append_right _ (List.mem_append_right _ (List.mem_append_right _ (List.mem_append_right _ (List.mem_append_right _ (List.mem_append_right _ (List.mem_append_right _ (List.mem_append_left _ h)))))))))))))))))))))))))))))))))))))))
theorem wm_24_0 : Cond.methodLink RX12 275 yX12_puts ∈ WL := wl_r24 _ (List.mem_of_getElem? (i := 0) rfl)
theorem wm_24_1 : Cond.instanceMethod yX12_puts ∈ WL := wl_r24 _ (List.mem_of_getElem? (i := 1) rfl)
theorem wm_24_2 : Cond.selects RX12 yX12_puts yX12_puts ∈ WL := wl_r24 _ (List.mem_of_getElem? (i := 2) rfl)
theorem wm_24_3 : Cond.code yX12_puts cX12_puts 3 none ∈ WL := wl_r24 _ (List.mem_of_getElem? (i := 3) rfl)
theorem wm_24_4 : Cond.code yX12_conjunction cX12_conjunction 1 none ∈ WL := wl_r24 _ (List.mem_of_getElem? (i := 4) rfl)
theorem wm_24_5 : Cond.methodLink RX12 278 yX12_negation ∈ WL := wl_r24 _ (List.mem_of_getElem? (i := 5) rfl)
theorem wm_24_6 : Cond.instanceMethod yX12_negation ∈ WL := wl_r24 _ (List.mem_of_getElem? (i := 6) rfl)
theorem wm_24_7 : Cond.selects RX12 yX12_negation yX12_negation ∈ WL := wl_r24 _ (List.mem_of_getElem? (i := 7) rfl)
theorem wm_24_8 : Cond.code yX12_negation cX12_negation 2 none ∈ WL := wl_r24 _ (List.mem_of_getElem? (i := 8) rfl)
theorem wm_24_9 : Cond.methodLink RX12 281 yX12_sum ∈ WL := wl_r24 _ (List.mem_of_getElem? (i := 9) rfl)
theorem wm_24_10 : Cond.instanceMethod yX12_sum ∈ WL := wl_r24 _ (List.mem_of_getElem? (i := 10) rfl)
theorem wm_24_11 : Cond.selects RX12 yX12_sum yX12_sum ∈ WL := wl_r24 _ (List.mem_of_getElem? (i := 11) rfl)
theorem wm_24_12 : Cond.code yX12_primary cX12_primary 2 none ∈ WL := wl_r24 _ (List.mem_of_getElem? (i := 12) rfl)
theorem wm_24_13 : Cond.methodLink RX12 247 yX12_isSign ∈ WL := wl_r24 _ (List.mem_of_getElem? (i := 13) rfl)
theorem wm_24_14 : Cond.instanceMethod yX12_isSign ∈ WL := wl_r24 _ (List.mem_of_getElem? (i := 14) rfl)
theorem wm_24_15 : Cond.selects RX12 yX12_isSign yX12_isSign ∈ WL := wl_r24 _ (List.mem_of_getElem? (i := 15) rfl)
theorem wm_24_16 : Cond.code yX12_isSign cX12_isSign 2 (some .boolean) ∈ WL := wl_r24 _ (List.mem_of_getElem? (i := 16) rfl)
theorem wm_24_17 : Cond.code yX12_product cX12_product 2 none ∈ WL := wl_r24 _ (List.mem_of_getElem? (i := 17) rfl)
theorem wm_24_18 : Cond.methodLink RX12 287 yX12_primary ∈ WL := wl_r24 _ (List.mem_of_getElem? (i := 18) rfl)
theorem wm_24_19 : Cond.instanceMethod yX12_primary ∈ WL := wl_r24 _ (List.mem_of_getElem? (i := 19) rfl)
theorem wm_24_20 : Cond.selects RX12 yX12_primary yX12_primary ∈ WL := wl_r24 _ (List.mem_of_getElem? (i := 20) rfl)
theorem wm_24_21 : Cond.code yX12_sum cX12_sum 2 none ∈ WL := wl_r24 _ (List.mem_of_getElem? (i := 21) rfl)
theorem wm_24_22 : Cond.methodLink RX12 284 yX12_product ∈ WL := wl_r24 _ (List.mem_of_getElem? (i := 22) rfl)
theorem wm_24_23 : Cond.instanceMethod yX12_product ∈ WL := wl_r24 _ (List.mem_of_getElem? (i := 23) rfl)
theorem wl_r25 : ∀ w ∈ wsL_law0_r25, w ∈ WL := fun w h => wl_0 w (List.mem_append_left _ (List.mem_append_left _ (List.mem_append_left _ (List.mem_append_left _ (List.mem_append_left _ (List.mem_append_left _ (List.mem_append_left _ (List.mem_append_left _ (List.mem_append_left _ (List.mem_append_left _ (List.mem_append_left _ (List.mem_append_left _ (List.mem_append_left _ (List.mem_append_left _ ((List.mem_append_right _ (List.mem_append_right _ (List.mem_append_right _ (List.mem_append_right _ (List.mem_append_right _ (List.mem_append_right _ (List.mem_append_right _ (List.mem_append_right _ (List.mem_append_right _ (List.mem_append_right _ (List.mem_append_right _ (List.mem_append_right _ (List.mem_append_right _ (List.mem_append_right _ (List.mem_append_right _ (List.mem_append_right _ (List.mem_append_right _ (List.mem_append_right _ (List.mem_append_right _ (List.mem_append_right _ (List.mem_append_right _ (List.mem_append_right _ (List.mem_append_right _ (List.mem_append_right _ (List.mem_append_left _ h))))))))))))))))))))))))))))))))))))))))
theorem wm_25_0 : Cond.selects RX12 yX12_product yX12_product ∈ WL := wl_r25 _ (List.mem_of_getElem? (i := 0) rfl)
theorem wm_25_1 : Cond.methodLink RX12 299 yX12_half ∈ WL := wl_r25 _ (List.mem_of_getElem? (i := 1) rfl)
theorem wm_25_2 : Cond.static yX12_half ∈ WL := wl_r25 _ (List.mem_of_getElem? (i := 2) rfl)
theorem wm_25_3 : Cond.code yX12_half cX12_half 3 none ∈ WL := wl_r25 _ (List.mem_of_getElem? (i := 3) rfl)
theorem wm_25_4 : Cond.methodLink RL 31 yX11_fault ∈ WL := wl_r25 _ (List.mem_of_getElem? (i := 4) rfl)
theorem wm_25_5 : Cond.instanceMethod yX11_fault ∈ WL := wl_r25 _ (List.mem_of_getElem? (i := 5) rfl)
theorem wm_25_6 : Cond.selects RX11 yX11_fault yX11_fault ∈ WL := wl_r25 _ (List.mem_of_getElem? (i := 6) rfl)
theorem wm_25_7 : Cond.code yX11_fault cX11_fault 2 (some .int) ∈ WL := wl_r25 _ (List.mem_of_getElem? (i := 7) rfl)
theorem wm_25_8 : Cond.methodLink RL 34 yX12_fault ∈ WL := wl_r25 _ (List.mem_of_getElem? (i := 8) rfl)
theorem wm_25_9 : Cond.instanceMethod yX12_fault ∈ WL := wl_r25 _ (List.mem_of_getElem? (i := 9) rfl)
theorem wm_25_10 : Cond.selects RX12 yX12_fault yX12_fault ∈ WL := wl_r25 _ (List.mem_of_getElem? (i := 10) rfl)
theorem wm_25_11 : Cond.code yX12_fault cX12_fault 2 (some .int) ∈ WL := wl_r25 _ (List.mem_of_getElem? (i := 11) rfl)
theorem wm_25_12 : Cond.methodLink RL 35 yX11_named ∈ WL := wl_r25 _ (List.mem_of_getElem? (i := 12) rfl)
theorem wm_25_13 : Cond.instanceMethod yX11_named ∈ WL := wl_r25 _ (List.mem_of_getElem? (i := 13) rfl)
theorem wm_25_14 : Cond.selects RX11 yX11_named yX11_named ∈ WL := wl_r25 _ (List.mem_of_getElem? (i := 14) rfl)
theorem wm_25_15 : Cond.code yX11_named cX11_named 2 (some .int) ∈ WL := wl_r25 _ (List.mem_of_getElem? (i := 15) rfl)
theorem wm_25_16 : Cond.methodLink RX11 137 yX6_numberOf ∈ WL := wl_r25 _ (List.mem_of_getElem? (i := 16) rfl)
theorem wm_25_17 : Cond.methodLink RL 38 yX12_named ∈ WL := wl_r25 _ (List.mem_of_getElem? (i := 17) rfl)
theorem wm_25_18 : Cond.instanceMethod yX12_named ∈ WL := wl_r25 _ (List.mem_of_getElem? (i := 18) rfl)
theorem wm_25_19 : Cond.selects RX12 yX12_named yX12_named ∈ WL := wl_r25 _ (List.mem_of_getElem? (i := 19) rfl)
theorem wm_25_20 : Cond.code yX12_named cX12_named 2 (some .int) ∈ WL := wl_r25 _ (List.mem_of_getElem? (i := 20) rfl)
theorem wm_25_21 : Cond.methodLink RL 39 yL_party ∈ WL := wl_r25 _ (List.mem_of_getElem? (i := 21) rfl)
theorem wm_25_22 : Cond.static yL_party ∈ WL := wl_r25 _ (List.mem_of_getElem? (i := 22) rfl)
theorem wm_25_23 : Cond.initialized RL ∈ WL := wl_r25 _ (List.mem_of_getElem? (i := 23) rfl)
theorem wl_r26 : ∀ w ∈ wsL_law0_r26, w ∈ WL := fun w h => wl_0 w (List.mem_append_left _ (List.mem_append_left _ (List.mem_append_left _ (List.mem_append_left _ (List.mem_append_left _ (List.mem_append_left _ (List.mem_append_left _ (List.mem_append_left _ (List.mem_append_left _ (List.mem_append_left _ (List.mem_append_left _ (List.mem_append_left _ (List.mem_append_left _ (List.mem_append_left _ ((List.mem_append_right _ (List.mem_append_right _ (List.mem_append_right _ (List.mem_append_right _ (List.mem_append_right _ (List.mem_append_right _ (List.mem_append_right _ (List.mem_append_right _ (List.mem_append_right _ (List.mem_append_right _ (List.mem_append_right _ (List.mem_append_right _ (List.mem_append_right _ (List.mem_append_right _ (List.mem_append_right _ (List.mem_append_right _ (List.mem_append_right _ (List.mem_append_right _ (List.mem_append_right _ (List.mem_append_right _ (List.mem_append_right _ (List.mem_append_right _ (List.mem_append_right _ (List.mem_append_right _ (List.mem_append_right _ (List.mem_append_left _ h)))))))))))))))))))))))))))))))))))))))))
theorem wm_26_0 : Cond.codeWith yL_party cL_party 5 (some .int) [(0, 10, 13, 13), (0, 10, 17, 15)] ∈ WL := wl_r26 _ (List.mem_of_getElem? (i := 0) rfl)
theorem wm_26_1 : Cond.classLink RL 13 "java/lang/IndexOutOfBoundsException" ∈ WL := wl_r26 _ (List.mem_of_getElem? (i := 1) rfl)
theorem wm_26_2 : Cond.classLink RL 15 "java/util/NoSuchElementException" ∈ WL := wl_r26 _ (List.mem_of_getElem? (i := 2) rfl)
theorem wm_26_3 : Cond.methodLink RL 7 yX11_party ∈ WL := wl_r26 _ (List.mem_of_getElem? (i := 3) rfl)
theorem wm_26_4 : Cond.instanceMethod yX11_party ∈ WL := wl_r26 _ (List.mem_of_getElem? (i := 4) rfl)
theorem wm_26_5 : Cond.selects RX11 yX11_party yX11_party ∈ WL := wl_r26 _ (List.mem_of_getElem? (i := 5) rfl)
theorem wm_26_6 : Cond.code yX11_party cX11_party 3 (some .int) ∈ WL := wl_r26 _ (List.mem_of_getElem? (i := 6) rfl)
theorem wm_26_7 : Cond.classLink RX11 145 "java/lang/IndexOutOfBoundsException" ∈ WL := wl_r26 _ (List.mem_of_getElem? (i := 7) rfl)
theorem wm_26_8 : Cond.initialized "java/lang/IndexOutOfBoundsException" ∈ WL := wl_r26 _ (List.mem_of_getElem? (i := 8) rfl)
theorem wm_26_9 : Cond.classLink RX11 172 "java/util/NoSuchElementException" ∈ WL := wl_r26 _ (List.mem_of_getElem? (i := 9) rfl)
theorem wm_26_10 : Cond.initialized "java/util/NoSuchElementException" ∈ WL := wl_r26 _ (List.mem_of_getElem? (i := 10) rfl)
theorem wm_26_11 : Cond.methodLink RX11 141 yX6_hasParty ∈ WL := wl_r26 _ (List.mem_of_getElem? (i := 11) rfl)
theorem wm_26_12 : Cond.instanceMethod yX6_hasParty ∈ WL := wl_r26 _ (List.mem_of_getElem? (i := 12) rfl)
theorem wm_26_13 : Cond.selects RX6 yX6_hasParty yX6_hasParty ∈ WL := wl_r26 _ (List.mem_of_getElem? (i := 13) rfl)
theorem wm_26_14 : Cond.code yX6_hasParty cX6_hasParty 2 (some .boolean) ∈ WL := wl_r26 _ (List.mem_of_getElem? (i := 14) rfl)
theorem wm_26_15 : Cond.methodLink RX11 152 yX6_trait ∈ WL := wl_r26 _ (List.mem_of_getElem? (i := 15) rfl)
theorem wm_26_16 : Cond.instanceMethod yX6_trait ∈ WL := wl_r26 _ (List.mem_of_getElem? (i := 16) rfl)
theorem wm_26_17 : Cond.selects RX6 yX6_trait yX6_trait ∈ WL := wl_r26 _ (List.mem_of_getElem? (i := 17) rfl)
theorem wm_26_18 : Cond.code yX6_trait cX6_trait 3 (some .int) ∈ WL := wl_r26 _ (List.mem_of_getElem? (i := 18) rfl)
theorem wm_26_19 : Cond.methodLink RL 44 yX12_party ∈ WL := wl_r26 _ (List.mem_of_getElem? (i := 19) rfl)
theorem wm_26_20 : Cond.instanceMethod yX12_party ∈ WL := wl_r26 _ (List.mem_of_getElem? (i := 20) rfl)
theorem wm_26_21 : Cond.selects RX12 yX12_party yX12_party ∈ WL := wl_r26 _ (List.mem_of_getElem? (i := 21) rfl)
theorem wm_26_22 : Cond.code yX12_party cX12_party 3 (some .int) ∈ WL := wl_r26 _ (List.mem_of_getElem? (i := 22) rfl)
theorem wm_26_23 : Cond.methodLink RX12 414 yX12_isParty ∈ WL := wl_r26 _ (List.mem_of_getElem? (i := 23) rfl)
theorem wl_r27 : ∀ w ∈ wsL_law0_r27, w ∈ WL := fun w h => wl_0 w (List.mem_append_left _ (List.mem_append_left _ (List.mem_append_left _ (List.mem_append_left _ (List.mem_append_left _ (List.mem_append_left _ (List.mem_append_left _ (List.mem_append_left _ (List.mem_append_left _ (List.mem_append_left _ (List.mem_append_left _ (List.mem_append_left _ (List.mem_append_left _ (List.mem_append_left _ ((List.mem_append_right _ (List.mem_append_right _ (List.mem_append_right _ (List.mem_append_right _ (List.mem_append_right _ (List.mem_append_right _ (List.mem_append_right _ (List.mem_append_right _ (List.mem_append_right _ (List.mem_append_right _ (List.mem_append_right _ (List.mem_append_right _ (List.mem_append_right _ (List.mem_append_right _ (List.mem_append_right _ (List.mem_append_right _ (List.mem_append_right _ (List.mem_append_right _ (List.mem_append_right _ (List.mem_append_right _ (List.mem_append_right _ (List.mem_append_right _ (List.mem_append_right _ (List.mem_append_right _ (List.mem_append_right _ (List.mem_append_right _ (List.mem_append_left _ h))))))))))))))))))))))))))))))))))))))))))
theorem wm_27_0 : Cond.instanceMethod yX12_isParty ∈ WL := wl_r27 _ (List.mem_of_getElem? (i := 0) rfl)
theorem wm_27_1 : Cond.selects RX12 yX12_isParty yX12_isParty ∈ WL := wl_r27 _ (List.mem_of_getElem? (i := 1) rfl)
theorem wm_27_2 : Cond.code yX12_isParty cX12_isParty 2 (some .boolean) ∈ WL := wl_r27 _ (List.mem_of_getElem? (i := 2) rfl)
theorem wm_27_3 : Cond.methodLink RL 45 yX12_thrown ∈ WL := wl_r27 _ (List.mem_of_getElem? (i := 3) rfl)
theorem wm_27_4 : Cond.instanceMethod yX12_thrown ∈ WL := wl_r27 _ (List.mem_of_getElem? (i := 4) rfl)
theorem wm_27_5 : Cond.selects RX12 yX12_thrown yX12_thrown ∈ WL := wl_r27 _ (List.mem_of_getElem? (i := 5) rfl)
theorem wm_27_6 : Cond.code yX12_thrown cX12_thrown 1 (some .int) ∈ WL := wl_r27 _ (List.mem_of_getElem? (i := 6) rfl)
theorem wm_27_7 : Cond.methodLink RL 49 yX11_wish ∈ WL := wl_r27 _ (List.mem_of_getElem? (i := 7) rfl)
theorem wm_27_8 : Cond.instanceMethod yX11_wish ∈ WL := wl_r27 _ (List.mem_of_getElem? (i := 8) rfl)
theorem wm_27_9 : Cond.selects RX11 yX11_wish yX11_wish ∈ WL := wl_r27 _ (List.mem_of_getElem? (i := 9) rfl)
theorem wm_27_10 : Cond.code yX11_wish cX11_wish 3 (some .int) ∈ WL := wl_r27 _ (List.mem_of_getElem? (i := 10) rfl)
theorem wm_27_11 : Cond.methodLink RL 52 yX12_wish ∈ WL := wl_r27 _ (List.mem_of_getElem? (i := 11) rfl)
theorem wm_27_12 : Cond.instanceMethod yX12_wish ∈ WL := wl_r27 _ (List.mem_of_getElem? (i := 12) rfl)
theorem wm_27_13 : Cond.selects RX12 yX12_wish yX12_wish ∈ WL := wl_r27 _ (List.mem_of_getElem? (i := 13) rfl)
theorem wm_27_14 : Cond.code yX12_wish cX12_wish 3 (some .int) ∈ WL := wl_r27 _ (List.mem_of_getElem? (i := 14) rfl)
theorem wm_27_15 : Cond.methodLink RL 53 yX11_sitting ∈ WL := wl_r27 _ (List.mem_of_getElem? (i := 15) rfl)
theorem wm_27_16 : Cond.instanceMethod yX11_sitting ∈ WL := wl_r27 _ (List.mem_of_getElem? (i := 16) rfl)
theorem wm_27_17 : Cond.selects RX11 yX11_sitting yX11_sitting ∈ WL := wl_r27 _ (List.mem_of_getElem? (i := 17) rfl)
theorem wm_27_18 : Cond.code yX11_sitting cX11_sitting 3 (some .int) ∈ WL := wl_r27 _ (List.mem_of_getElem? (i := 18) rfl)
theorem wm_27_19 : Cond.methodLink RX11 177 yX6_hasSitting ∈ WL := wl_r27 _ (List.mem_of_getElem? (i := 19) rfl)
theorem wm_27_20 : Cond.instanceMethod yX6_hasSitting ∈ WL := wl_r27 _ (List.mem_of_getElem? (i := 20) rfl)
theorem wm_27_21 : Cond.selects RX6 yX6_hasSitting yX6_hasSitting ∈ WL := wl_r27 _ (List.mem_of_getElem? (i := 21) rfl)
theorem wm_27_22 : Cond.code yX6_hasSitting cX6_hasSitting 2 (some .boolean) ∈ WL := wl_r27 _ (List.mem_of_getElem? (i := 22) rfl)
theorem wm_27_23 : Cond.methodLink RX11 189 yX8_personsFor ∈ WL := wl_r27 _ (List.mem_of_getElem? (i := 23) rfl)
theorem wl_r28 : ∀ w ∈ wsL_law0_r28, w ∈ WL := fun w h => wl_0 w (List.mem_append_left _ (List.mem_append_left _ (List.mem_append_left _ (List.mem_append_left _ (List.mem_append_left _ (List.mem_append_left _ (List.mem_append_left _ (List.mem_append_left _ (List.mem_append_left _ (List.mem_append_left _ (List.mem_append_left _ (List.mem_append_left _ (List.mem_append_left _ (List.mem_append_left _ ((List.mem_append_right _ (List.mem_append_right _ (List.mem_append_right _ (List.mem_append_right _ (List.mem_append_right _ (List.mem_append_right _ (List.mem_append_right _ (List.mem_append_right _ (List.mem_append_right _ (List.mem_append_right _ (List.mem_append_right _ (List.mem_append_right _ (List.mem_append_right _ (List.mem_append_right _ (List.mem_append_right _ (List.mem_append_right _ (List.mem_append_right _ (List.mem_append_right _ (List.mem_append_right _ (List.mem_append_right _ (List.mem_append_right _ (List.mem_append_right _ (List.mem_append_right _ (List.mem_append_right _ (List.mem_append_right _ (List.mem_append_right _ (List.mem_append_right _ (List.mem_append_left _ h)))))))))))))))))))))))))))))))))))))))))))
theorem wm_28_0 : Cond.instanceMethod yX8_personsFor ∈ WL := wl_r28 _ (List.mem_of_getElem? (i := 0) rfl)
theorem wm_28_1 : Cond.selects RX8 yX8_personsFor yX8_personsFor ∈ WL := wl_r28 _ (List.mem_of_getElem? (i := 1) rfl)
theorem wm_28_2 : Cond.code yX8_personsFor cX8_personsFor 5 (some .int) ∈ WL := wl_r28 _ (List.mem_of_getElem? (i := 2) rfl)
theorem wm_28_3 : Cond.methodLink RX8 89 yX6_trait ∈ WL := wl_r28 _ (List.mem_of_getElem? (i := 3) rfl)
theorem wm_28_4 : Cond.methodLink RX11 196 yX11_ofLatestDay ∈ WL := wl_r28 _ (List.mem_of_getElem? (i := 4) rfl)
theorem wm_28_5 : Cond.instanceMethod yX11_ofLatestDay ∈ WL := wl_r28 _ (List.mem_of_getElem? (i := 5) rfl)
theorem wm_28_6 : Cond.selects RX11 yX11_ofLatestDay yX11_ofLatestDay ∈ WL := wl_r28 _ (List.mem_of_getElem? (i := 6) rfl)
theorem wm_28_7 : Cond.code yX11_ofLatestDay cX11_ofLatestDay 3 (some .int) ∈ WL := wl_r28 _ (List.mem_of_getElem? (i := 7) rfl)
theorem wm_28_8 : Cond.methodLink RL 56 yX12_sitting ∈ WL := wl_r28 _ (List.mem_of_getElem? (i := 8) rfl)
theorem wm_28_9 : Cond.instanceMethod yX12_sitting ∈ WL := wl_r28 _ (List.mem_of_getElem? (i := 9) rfl)
theorem wm_28_10 : Cond.selects RX12 yX12_sitting yX12_sitting ∈ WL := wl_r28 _ (List.mem_of_getElem? (i := 10) rfl)
theorem wm_28_11 : Cond.code yX12_sitting cX12_sitting 3 (some .int) ∈ WL := wl_r28 _ (List.mem_of_getElem? (i := 11) rfl)
theorem wm_28_12 : Cond.methodLink RX12 417 yX12_isSitting ∈ WL := wl_r28 _ (List.mem_of_getElem? (i := 12) rfl)
theorem wm_28_13 : Cond.instanceMethod yX12_isSitting ∈ WL := wl_r28 _ (List.mem_of_getElem? (i := 13) rfl)
theorem wm_28_14 : Cond.selects RX12 yX12_isSitting yX12_isSitting ∈ WL := wl_r28 _ (List.mem_of_getElem? (i := 14) rfl)
theorem wm_28_15 : Cond.code yX12_isSitting cX12_isSitting 2 (some .boolean) ∈ WL := wl_r28 _ (List.mem_of_getElem? (i := 15) rfl)
theorem wm_28_16 : Cond.methodLink RX12 420 yX12_withTicket ∈ WL := wl_r28 _ (List.mem_of_getElem? (i := 16) rfl)
theorem wm_28_17 : Cond.instanceMethod yX12_withTicket ∈ WL := wl_r28 _ (List.mem_of_getElem? (i := 17) rfl)
theorem wm_28_18 : Cond.selects RX12 yX12_withTicket yX12_withTicket ∈ WL := wl_r28 _ (List.mem_of_getElem? (i := 18) rfl)
theorem wm_28_19 : Cond.code yX12_withTicket cX12_withTicket 4 (some .int) ∈ WL := wl_r28 _ (List.mem_of_getElem? (i := 19) rfl)
theorem wm_28_20 : Cond.methodLink RL 57 yX11_law ∈ WL := wl_r28 _ (List.mem_of_getElem? (i := 20) rfl)
theorem wm_28_21 : Cond.instanceMethod yX11_law ∈ WL := wl_r28 _ (List.mem_of_getElem? (i := 21) rfl)
theorem wm_28_22 : Cond.selects RX11 yX11_law yX11_law ∈ WL := wl_r28 _ (List.mem_of_getElem? (i := 22) rfl)
theorem wm_28_23 : Cond.code yX11_law cX11_law 5 (some .long) ∈ WL := wl_r28 _ (List.mem_of_getElem? (i := 23) rfl)
theorem wl_r29 : ∀ w ∈ wsL_law0_r29, w ∈ WL := fun w h => wl_0 w (List.mem_append_left _ (List.mem_append_left _ (List.mem_append_left _ (List.mem_append_left _ (List.mem_append_left _ (List.mem_append_left _ (List.mem_append_left _ (List.mem_append_left _ (List.mem_append_left _ (List.mem_append_left _ (List.mem_append_left _ (List.mem_append_left _ (List.mem_append_left _ (List.mem_append_left _ ((List.mem_append_right _ (List.mem_append_right _ (List.mem_append_right _ (List.mem_append_right _ (List.mem_append_right _ (List.mem_append_right _ (List.mem_append_right _ (List.mem_append_right _ (List.mem_append_right _ (List.mem_append_right _ (List.mem_append_right _ (List.mem_append_right _ (List.mem_append_right _ (List.mem_append_right _ (List.mem_append_right _ (List.mem_append_right _ (List.mem_append_right _ (List.mem_append_right _ (List.mem_append_right _ (List.mem_append_right _ (List.mem_append_right _ (List.mem_append_right _ (List.mem_append_right _ (List.mem_append_right _ (List.mem_append_right _ (List.mem_append_right _ (List.mem_append_right _ (List.mem_append_right _ (List.mem_append_left _ h))))))))))))))))))))))))))))))))))))))))))))
theorem wm_29_0 : Cond.constantLong RX11 218 (-9223372036854775808) ∈ WL := wl_r29 _ (List.mem_of_getElem? (i := 0) rfl)
theorem wm_29_1 : Cond.methodLink RX11 214 yX11_areSuch ∈ WL := wl_r29 _ (List.mem_of_getElem? (i := 1) rfl)
theorem wm_29_2 : Cond.instanceMethod yX11_areSuch ∈ WL := wl_r29 _ (List.mem_of_getElem? (i := 2) rfl)
theorem wm_29_3 : Cond.selects RX11 yX11_areSuch yX11_areSuch ∈ WL := wl_r29 _ (List.mem_of_getElem? (i := 3) rfl)
theorem wm_29_4 : Cond.code yX11_areSuch cX11_areSuch 3 (some .boolean) ∈ WL := wl_r29 _ (List.mem_of_getElem? (i := 4) rfl)
theorem wm_29_5 : Cond.methodLink RX11 220 yX0_look ∈ WL := wl_r29 _ (List.mem_of_getElem? (i := 5) rfl)
theorem wm_29_6 : Cond.static yX0_look ∈ WL := wl_r29 _ (List.mem_of_getElem? (i := 6) rfl)
theorem wm_29_7 : Cond.code yX0_look cX0_look 8 none ∈ WL := wl_r29 _ (List.mem_of_getElem? (i := 7) rfl)
theorem wm_29_8 : Cond.methodLink RX0 185 Lib.Math.min.name ∈ WL := wl_r29 _ (List.mem_of_getElem? (i := 8) rfl)
theorem wm_29_9 : Cond.methodLink RX0 48 yX6_hasSitting ∈ WL := wl_r29 _ (List.mem_of_getElem? (i := 9) rfl)
theorem wm_29_10 : Cond.methodLink RX0 37 yX6_trait ∈ WL := wl_r29 _ (List.mem_of_getElem? (i := 10) rfl)
theorem wm_29_11 : Cond.methodLink RX11 228 yX3_work ∈ WL := wl_r29 _ (List.mem_of_getElem? (i := 11) rfl)
theorem wm_29_12 : Cond.instanceMethod yX3_work ∈ WL := wl_r29 _ (List.mem_of_getElem? (i := 12) rfl)
theorem wm_29_13 : Cond.selects RX3 yX3_work yX3_work ∈ WL := wl_r29 _ (List.mem_of_getElem? (i := 13) rfl)
theorem wm_29_14 : Cond.code yX3_work cX3_work 8 (some .long) ∈ WL := wl_r29 _ (List.mem_of_getElem? (i := 14) rfl)
theorem wm_29_15 : Cond.constantLong RX3 42 (-9223372036854775808) ∈ WL := wl_r29 _ (List.mem_of_getElem? (i := 15) rfl)
theorem wm_29_16 : Cond.methodLink RX3 44 Lib.Math.max.name ∈ WL := wl_r29 _ (List.mem_of_getElem? (i := 16) rfl)
theorem wm_29_17 : Cond.constantLong RX3 61 (1000000000000) ∈ WL := wl_r29 _ (List.mem_of_getElem? (i := 17) rfl)
theorem wm_29_18 : Cond.constantLong RX3 63 (-1000000000000) ∈ WL := wl_r29 _ (List.mem_of_getElem? (i := 18) rfl)
theorem wm_29_19 : Cond.methodLink RX3 38 yX3_isTold ∈ WL := wl_r29 _ (List.mem_of_getElem? (i := 19) rfl)
theorem wm_29_20 : Cond.methodLink RX3 50 yX3_isLeaf ∈ WL := wl_r29 _ (List.mem_of_getElem? (i := 20) rfl)
theorem wm_29_21 : Cond.static yX3_isLeaf ∈ WL := wl_r29 _ (List.mem_of_getElem? (i := 21) rfl)
theorem wm_29_22 : Cond.code yX3_isLeaf cX3_isLeaf 1 (some .boolean) ∈ WL := wl_r29 _ (List.mem_of_getElem? (i := 22) rfl)
theorem wm_29_23 : Cond.methodLink RX3 53 yX3_join ∈ WL := wl_r29 _ (List.mem_of_getElem? (i := 23) rfl)
theorem wl_r30 : ∀ w ∈ wsL_law0_r30, w ∈ WL := fun w h => wl_0 w (List.mem_append_left _ (List.mem_append_left _ (List.mem_append_left _ (List.mem_append_left _ (List.mem_append_left _ (List.mem_append_left _ (List.mem_append_left _ (List.mem_append_left _ (List.mem_append_left _ (List.mem_append_left _ (List.mem_append_left _ (List.mem_append_left _ (List.mem_append_left _ (List.mem_append_left _ ((List.mem_append_right _ (List.mem_append_right _ (List.mem_append_right _ (List.mem_append_right _ (List.mem_append_right _ (List.mem_append_right _ (List.mem_append_right _ (List.mem_append_right _ (List.mem_append_right _ (List.mem_append_right _ (List.mem_append_right _ (List.mem_append_right _ (List.mem_append_right _ (List.mem_append_right _ (List.mem_append_right _ (List.mem_append_right _ (List.mem_append_right _ (List.mem_append_right _ (List.mem_append_right _ (List.mem_append_right _ (List.mem_append_right _ (List.mem_append_right _ (List.mem_append_right _ (List.mem_append_right _ (List.mem_append_right _ (List.mem_append_right _ (List.mem_append_right _ (List.mem_append_right _ (List.mem_append_right _ (List.mem_append_left _ h)))))))))))))))))))))))))))))))))))))))))))))
theorem wm_30_0 : Cond.static yX3_join ∈ WL := wl_r30 _ (List.mem_of_getElem? (i := 0) rfl)
theorem wm_30_1 : Cond.code yX3_join cX3_join 9 (some .long) ∈ WL := wl_r30 _ (List.mem_of_getElem? (i := 1) rfl)
theorem wm_30_2 : Cond.methodLink RX3 57 yX3_leaf ∈ WL := wl_r30 _ (List.mem_of_getElem? (i := 2) rfl)
theorem wm_30_3 : Cond.instanceMethod yX3_leaf ∈ WL := wl_r30 _ (List.mem_of_getElem? (i := 3) rfl)
theorem wm_30_4 : Cond.selects RX3 yX3_leaf yX3_leaf ∈ WL := wl_r30 _ (List.mem_of_getElem? (i := 4) rfl)
theorem wm_30_5 : Cond.code yX3_leaf cX3_leaf 4 (some .long) ∈ WL := wl_r30 _ (List.mem_of_getElem? (i := 5) rfl)
theorem wm_30_6 : Cond.methodLink RL 61 yX12_law ∈ WL := wl_r30 _ (List.mem_of_getElem? (i := 6) rfl)
theorem wm_30_7 : Cond.instanceMethod yX12_law ∈ WL := wl_r30 _ (List.mem_of_getElem? (i := 7) rfl)
theorem wm_30_8 : Cond.selects RX12 yX12_law yX12_law ∈ WL := wl_r30 _ (List.mem_of_getElem? (i := 8) rfl)
theorem wm_30_9 : Cond.code yX12_law cX12_law 5 (some .long) ∈ WL := wl_r30 _ (List.mem_of_getElem? (i := 9) rfl)
theorem wm_30_10 : Cond.constantLong RX12 425 (-9223372036854775808) ∈ WL := wl_r30 _ (List.mem_of_getElem? (i := 10) rfl)
theorem wm_30_11 : Cond.methodLink RX12 339 yX12_hasLaw ∈ WL := wl_r30 _ (List.mem_of_getElem? (i := 11) rfl)
theorem wm_30_12 : Cond.instanceMethod yX12_hasLaw ∈ WL := wl_r30 _ (List.mem_of_getElem? (i := 12) rfl)
theorem wm_30_13 : Cond.selects RX12 yX12_hasLaw yX12_hasLaw ∈ WL := wl_r30 _ (List.mem_of_getElem? (i := 13) rfl)
theorem wm_30_14 : Cond.code yX12_hasLaw cX12_hasLaw 2 (some .boolean) ∈ WL := wl_r30 _ (List.mem_of_getElem? (i := 14) rfl)
theorem wm_30_15 : Cond.methodLink RX12 351 yX12_calls ∈ WL := wl_r30 _ (List.mem_of_getElem? (i := 15) rfl)
theorem wm_30_16 : Cond.instanceMethod yX12_calls ∈ WL := wl_r30 _ (List.mem_of_getElem? (i := 16) rfl)
theorem wm_30_17 : Cond.selects RX12 yX12_calls yX12_calls ∈ WL := wl_r30 _ (List.mem_of_getElem? (i := 17) rfl)
theorem wm_30_18 : Cond.code yX12_calls cX12_calls 5 none ∈ WL := wl_r30 _ (List.mem_of_getElem? (i := 18) rfl)
theorem wm_30_19 : Cond.methodLink RX12 336 yX12_coffeeIn ∈ WL := wl_r30 _ (List.mem_of_getElem? (i := 19) rfl)
theorem wm_30_20 : Cond.instanceMethod yX12_coffeeIn ∈ WL := wl_r30 _ (List.mem_of_getElem? (i := 20) rfl)
theorem wm_30_21 : Cond.selects RX12 yX12_coffeeIn yX12_coffeeIn ∈ WL := wl_r30 _ (List.mem_of_getElem? (i := 21) rfl)
theorem wm_30_22 : Cond.code yX12_coffeeIn cX12_coffeeIn 2 (some .int) ∈ WL := wl_r30 _ (List.mem_of_getElem? (i := 22) rfl)
theorem wm_30_23 : Cond.methodLink RX12 333 Lib.Math.min.name ∈ WL := wl_r30 _ (List.mem_of_getElem? (i := 23) rfl)
theorem wl_r31 : ∀ w ∈ wsL_law0_r31, w ∈ WL := fun w h => wl_0 w (List.mem_append_left _ (List.mem_append_left _ (List.mem_append_left _ (List.mem_append_left _ (List.mem_append_left _ (List.mem_append_left _ (List.mem_append_left _ (List.mem_append_left _ (List.mem_append_left _ (List.mem_append_left _ (List.mem_append_left _ (List.mem_append_left _ (List.mem_append_left _ (List.mem_append_left _ ((List.mem_append_right _ (List.mem_append_right _ (List.mem_append_right _ (List.mem_append_right _ (List.mem_append_right _ (List.mem_append_right _ (List.mem_append_right _ (List.mem_append_right _ (List.mem_append_right _ (List.mem_append_right _ (List.mem_append_right _ (List.mem_append_right _ (List.mem_append_right _ (List.mem_append_right _ (List.mem_append_right _ (List.mem_append_right _ (List.mem_append_right _ (List.mem_append_right _ (List.mem_append_right _ (List.mem_append_right _ (List.mem_append_right _ (List.mem_append_right _ (List.mem_append_right _ (List.mem_append_right _ (List.mem_append_right _ (List.mem_append_right _ (List.mem_append_right _ (List.mem_append_right _ (List.mem_append_right _ (List.mem_append_right _ (List.mem_append_left _ h))))))))))))))))))))))))))))))))))))))))))))))
theorem wm_31_0 : Cond.methodLink RX12 342 yX12_goes ∈ WL := wl_r31 _ (List.mem_of_getElem? (i := 0) rfl)
theorem wm_31_1 : Cond.instanceMethod yX12_goes ∈ WL := wl_r31 _ (List.mem_of_getElem? (i := 1) rfl)
theorem wm_31_2 : Cond.selects RX12 yX12_goes yX12_goes ∈ WL := wl_r31 _ (List.mem_of_getElem? (i := 2) rfl)
theorem wm_31_3 : Cond.code yX12_goes cX12_goes 3 (some .boolean) ∈ WL := wl_r31 _ (List.mem_of_getElem? (i := 3) rfl)
theorem wm_31_4 : Cond.fieldLink RX12 313 "ThreeSittingsModel" "workedMany" "I" ∈ WL := wl_r31 _ (List.mem_of_getElem? (i := 4) rfl)
theorem wm_31_5 : Cond.methodLink RX12 330 yX12_works ∈ WL := wl_r31 _ (List.mem_of_getElem? (i := 5) rfl)
theorem wm_31_6 : Cond.instanceMethod yX12_works ∈ WL := wl_r31 _ (List.mem_of_getElem? (i := 6) rfl)
theorem wm_31_7 : Cond.selects RX12 yX12_works yX12_works ∈ WL := wl_r31 _ (List.mem_of_getElem? (i := 7) rfl)
theorem wm_31_8 : Cond.code yX12_works cX12_works 8 (some .boolean) ∈ WL := wl_r31 _ (List.mem_of_getElem? (i := 8) rfl)
theorem wm_31_9 : Cond.methodLink RX12 320 Lib.MathLoose.abs_long.x ∈ WL := wl_r31 _ (List.mem_of_getElem? (i := 9) rfl)
theorem wm_31_10 : Cond.static Lib.MathLoose.abs_long.x ∈ WL := wl_r31 _ (List.mem_of_getElem? (i := 10) rfl)
theorem wm_31_11 : Cond.code Lib.MathLoose.abs_long.x Lib.MathLoose.abs_long.code 2 (some .long) ∈ WL := wl_r31 _ (List.mem_of_getElem? (i := 11) rfl)
theorem wm_31_12 : Cond.constantLong RX12 326 (1000000000000) ∈ WL := wl_r31 _ (List.mem_of_getElem? (i := 12) rfl)
theorem wm_31_13 : Cond.constantLong RX12 328 (-1000000000000) ∈ WL := wl_r31 _ (List.mem_of_getElem? (i := 13) rfl)
theorem wm_31_14 : Cond.methodLink RX12 316 yX12_is ∈ WL := wl_r31 _ (List.mem_of_getElem? (i := 14) rfl)
theorem wm_31_15 : Cond.static yX12_is ∈ WL := wl_r31 _ (List.mem_of_getElem? (i := 15) rfl)
theorem wm_31_16 : Cond.code yX12_is cX12_is 1 (some .long) ∈ WL := wl_r31 _ (List.mem_of_getElem? (i := 16) rfl)
theorem wm_31_17 : Cond.methodLink RL 62 yX11_give ∈ WL := wl_r31 _ (List.mem_of_getElem? (i := 17) rfl)
theorem wm_31_18 : Cond.instanceMethod yX11_give ∈ WL := wl_r31 _ (List.mem_of_getElem? (i := 18) rfl)
theorem wm_31_19 : Cond.selects RX11 yX11_give yX11_give ∈ WL := wl_r31 _ (List.mem_of_getElem? (i := 19) rfl)
theorem wm_31_20 : Cond.code yX11_give cX11_give 4 (some .boolean) ∈ WL := wl_r31 _ (List.mem_of_getElem? (i := 20) rfl)
theorem wm_31_21 : Cond.methodLink RX11 234 yX6_mostTickets ∈ WL := wl_r31 _ (List.mem_of_getElem? (i := 21) rfl)
theorem wm_31_22 : Cond.instanceMethod yX6_mostTickets ∈ WL := wl_r31 _ (List.mem_of_getElem? (i := 22) rfl)
theorem wm_31_23 : Cond.selects RX6 yX6_mostTickets yX6_mostTickets ∈ WL := wl_r31 _ (List.mem_of_getElem? (i := 23) rfl)
theorem wl_r32 : ∀ w ∈ wsL_law0_r32, w ∈ WL := fun w h => wl_0 w (List.mem_append_left _ (List.mem_append_left _ (List.mem_append_left _ (List.mem_append_left _ (List.mem_append_left _ (List.mem_append_left _ (List.mem_append_left _ (List.mem_append_left _ (List.mem_append_left _ (List.mem_append_left _ (List.mem_append_left _ (List.mem_append_left _ (List.mem_append_left _ (List.mem_append_left _ ((List.mem_append_right _ (List.mem_append_right _ (List.mem_append_right _ (List.mem_append_right _ (List.mem_append_right _ (List.mem_append_right _ (List.mem_append_right _ (List.mem_append_right _ (List.mem_append_right _ (List.mem_append_right _ (List.mem_append_right _ (List.mem_append_right _ (List.mem_append_right _ (List.mem_append_right _ (List.mem_append_right _ (List.mem_append_right _ (List.mem_append_right _ (List.mem_append_right _ (List.mem_append_right _ (List.mem_append_right _ (List.mem_append_right _ (List.mem_append_right _ (List.mem_append_right _ (List.mem_append_right _ (List.mem_append_right _ (List.mem_append_right _ (List.mem_append_right _ (List.mem_append_right _ (List.mem_append_right _ (List.mem_append_right _ (List.mem_append_right _ (List.mem_append_left _ h)))))))))))))))))))))))))))))))))))))))))))))))
theorem wm_32_0 : Cond.code yX6_mostTickets cX6_mostTickets 1 (some .int) ∈ WL := wl_r32 _ (List.mem_of_getElem? (i := 0) rfl)
theorem wm_32_1 : Cond.methodLink RX11 238 yX2_add ∈ WL := wl_r32 _ (List.mem_of_getElem? (i := 1) rfl)
theorem wm_32_2 : Cond.instanceMethod yX2_add ∈ WL := wl_r32 _ (List.mem_of_getElem? (i := 2) rfl)
theorem wm_32_3 : Cond.selects RX2 yX2_add yX2_add ∈ WL := wl_r32 _ (List.mem_of_getElem? (i := 3) rfl)
theorem wm_32_4 : Cond.code yX2_add cX2_add 4 none ∈ WL := wl_r32 _ (List.mem_of_getElem? (i := 4) rfl)
theorem wm_32_5 : Cond.methodLink RX2 25 arraycopyName ∈ WL := wl_r32 _ (List.mem_of_getElem? (i := 5) rfl)
theorem wm_32_6 : Cond.methodLink RL 66 yX12_give ∈ WL := wl_r32 _ (List.mem_of_getElem? (i := 6) rfl)
theorem wm_32_7 : Cond.instanceMethod yX12_give ∈ WL := wl_r32 _ (List.mem_of_getElem? (i := 7) rfl)
theorem wm_32_8 : Cond.selects RX12 yX12_give yX12_give ∈ WL := wl_r32 _ (List.mem_of_getElem? (i := 8) rfl)
theorem wm_32_9 : Cond.code yX12_give cX12_give 3 (some .boolean) ∈ WL := wl_r32 _ (List.mem_of_getElem? (i := 9) rfl)
theorem wm_32_10 : Cond.methodLink RX12 427 yX12_keepNow ∈ WL := wl_r32 _ (List.mem_of_getElem? (i := 10) rfl)
theorem wm_32_11 : Cond.instanceMethod yX12_keepNow ∈ WL := wl_r32 _ (List.mem_of_getElem? (i := 11) rfl)
theorem wm_32_12 : Cond.selects RX12 yX12_keepNow yX12_keepNow ∈ WL := wl_r32 _ (List.mem_of_getElem? (i := 12) rfl)
theorem wm_32_13 : Cond.code yX12_keepNow cX12_keepNow 2 none ∈ WL := wl_r32 _ (List.mem_of_getElem? (i := 13) rfl)
theorem wm_32_14 : Cond.methodLink RX12 407 yX12_copies ∈ WL := wl_r32 _ (List.mem_of_getElem? (i := 14) rfl)
theorem wm_32_15 : Cond.instanceMethod yX12_copies ∈ WL := wl_r32 _ (List.mem_of_getElem? (i := 15) rfl)
theorem wm_32_16 : Cond.selects RX12 yX12_copies yX12_copies ∈ WL := wl_r32 _ (List.mem_of_getElem? (i := 16) rfl)
theorem wm_32_17 : Cond.code yX12_copies cX12_copies 6 none ∈ WL := wl_r32 _ (List.mem_of_getElem? (i := 17) rfl)
theorem wm_32_18 : Cond.methodLink RL 67 yX11_sign ∈ WL := wl_r32 _ (List.mem_of_getElem? (i := 18) rfl)
theorem wm_32_19 : Cond.instanceMethod yX11_sign ∈ WL := wl_r32 _ (List.mem_of_getElem? (i := 19) rfl)
theorem wm_32_20 : Cond.selects RX11 yX11_sign yX11_sign ∈ WL := wl_r32 _ (List.mem_of_getElem? (i := 20) rfl)
theorem wm_32_21 : Cond.code yX11_sign cX11_sign 3 (some .boolean) ∈ WL := wl_r32 _ (List.mem_of_getElem? (i := 21) rfl)
theorem wm_32_22 : Cond.methodLink RL 70 yX12_sign_ ∈ WL := wl_r32 _ (List.mem_of_getElem? (i := 22) rfl)
theorem wm_32_23 : Cond.instanceMethod yX12_sign_ ∈ WL := wl_r32 _ (List.mem_of_getElem? (i := 23) rfl)
theorem wl_r33 : ∀ w ∈ wsL_law0_r33, w ∈ WL := fun w h => wl_0 w (List.mem_append_left _ (List.mem_append_left _ (List.mem_append_left _ (List.mem_append_left _ (List.mem_append_left _ (List.mem_append_left _ (List.mem_append_left _ (List.mem_append_left _ (List.mem_append_left _ (List.mem_append_left _ (List.mem_append_left _ (List.mem_append_left _ (List.mem_append_left _ (List.mem_append_left _ ((List.mem_append_right _ (List.mem_append_right _ (List.mem_append_right _ (List.mem_append_right _ (List.mem_append_right _ (List.mem_append_right _ (List.mem_append_right _ (List.mem_append_right _ (List.mem_append_right _ (List.mem_append_right _ (List.mem_append_right _ (List.mem_append_right _ (List.mem_append_right _ (List.mem_append_right _ (List.mem_append_right _ (List.mem_append_right _ (List.mem_append_right _ (List.mem_append_right _ (List.mem_append_right _ (List.mem_append_right _ (List.mem_append_right _ (List.mem_append_right _ (List.mem_append_right _ (List.mem_append_right _ (List.mem_append_right _ (List.mem_append_right _ (List.mem_append_right _ (List.mem_append_right _ (List.mem_append_right _ (List.mem_append_right _ (List.mem_append_right _ (List.mem_append_right _ (List.mem_append_left _ h))))))))))))))))))))))))))))))))))))))))))))))))
theorem wm_33_0 : Cond.selects RX12 yX12_sign_ yX12_sign_ ∈ WL := wl_r33 _ (List.mem_of_getElem? (i := 0) rfl)
theorem wm_33_1 : Cond.code yX12_sign_ cX12_sign_ 3 (some .boolean) ∈ WL := wl_r33 _ (List.mem_of_getElem? (i := 1) rfl)
theorem wm_33_2 : Cond.methodLink RL 71 yX11_price ∈ WL := wl_r33 _ (List.mem_of_getElem? (i := 2) rfl)
theorem wm_33_3 : Cond.instanceMethod yX11_price ∈ WL := wl_r33 _ (List.mem_of_getElem? (i := 3) rfl)
theorem wm_33_4 : Cond.selects RX11 yX11_price yX11_price ∈ WL := wl_r33 _ (List.mem_of_getElem? (i := 4) rfl)
theorem wm_33_5 : Cond.code yX11_price cX11_price 3 (some .boolean) ∈ WL := wl_r33 _ (List.mem_of_getElem? (i := 5) rfl)
theorem wm_33_6 : Cond.methodLink RL 74 yX12_price ∈ WL := wl_r33 _ (List.mem_of_getElem? (i := 6) rfl)
theorem wm_33_7 : Cond.instanceMethod yX12_price ∈ WL := wl_r33 _ (List.mem_of_getElem? (i := 7) rfl)
theorem wm_33_8 : Cond.selects RX12 yX12_price yX12_price ∈ WL := wl_r33 _ (List.mem_of_getElem? (i := 8) rfl)
theorem wm_33_9 : Cond.code yX12_price cX12_price 3 (some .boolean) ∈ WL := wl_r33 _ (List.mem_of_getElem? (i := 9) rfl)
theorem wm_33_10 : Cond.methodLink RL 75 yX11_days ∈ WL := wl_r33 _ (List.mem_of_getElem? (i := 10) rfl)
theorem wm_33_11 : Cond.instanceMethod yX11_days ∈ WL := wl_r33 _ (List.mem_of_getElem? (i := 11) rfl)
theorem wm_33_12 : Cond.selects RX11 yX11_days yX11_days ∈ WL := wl_r33 _ (List.mem_of_getElem? (i := 12) rfl)
theorem wm_33_13 : Cond.code yX11_days cX11_days 3 (some .int) ∈ WL := wl_r33 _ (List.mem_of_getElem? (i := 13) rfl)
theorem wm_33_14 : Cond.methodLink RX11 245 yX0_goThrough ∈ WL := wl_r33 _ (List.mem_of_getElem? (i := 14) rfl)
theorem wm_33_15 : Cond.instanceMethod yX0_goThrough ∈ WL := wl_r33 _ (List.mem_of_getElem? (i := 15) rfl)
theorem wm_33_16 : Cond.selects RX0 yX0_goThrough yX0_goThrough ∈ WL := wl_r33 _ (List.mem_of_getElem? (i := 16) rfl)
theorem wm_33_17 : Cond.code yX0_goThrough cX0_goThrough 6 none ∈ WL := wl_r33 _ (List.mem_of_getElem? (i := 17) rfl)
theorem wm_33_18 : Cond.methodLink RX0 21 yX0_serve ∈ WL := wl_r33 _ (List.mem_of_getElem? (i := 18) rfl)
theorem wm_33_19 : Cond.instanceMethod yX0_serve ∈ WL := wl_r33 _ (List.mem_of_getElem? (i := 19) rfl)
theorem wm_33_20 : Cond.selects RX0 yX0_serve yX0_serve ∈ WL := wl_r33 _ (List.mem_of_getElem? (i := 20) rfl)
theorem wm_33_21 : Cond.code yX0_serve cX0_serve 8 (some .int) ∈ WL := wl_r33 _ (List.mem_of_getElem? (i := 21) rfl)
theorem wm_33_22 : Cond.methodLink RX0 63 Lib.Math.max.name ∈ WL := wl_r33 _ (List.mem_of_getElem? (i := 22) rfl)
theorem wm_33_23 : Cond.methodLink RX0 77 yX0_sitDown ∈ WL := wl_r33 _ (List.mem_of_getElem? (i := 23) rfl)
theorem wl_r34 : ∀ w ∈ wsL_law0_r34, w ∈ WL := fun w h => wl_0 w (List.mem_append_left _ (List.mem_append_left _ (List.mem_append_left _ (List.mem_append_left _ (List.mem_append_left _ (List.mem_append_left _ (List.mem_append_left _ (List.mem_append_left _ (List.mem_append_left _ (List.mem_append_left _ (List.mem_append_left _ (List.mem_append_left _ (List.mem_append_left _ (List.mem_append_left _ ((List.mem_append_right _ (List.mem_append_right _ (List.mem_append_right _ (List.mem_append_right _ (List.mem_append_right _ (List.mem_append_right _ (List.mem_append_right _ (List.mem_append_right _ (List.mem_append_right _ (List.mem_append_right _ (List.mem_append_right _ (List.mem_append_right _ (List.mem_append_right _ (List.mem_append_right _ (List.mem_append_right _ (List.mem_append_right _ (List.mem_append_right _ (List.mem_append_right _ (List.mem_append_right _ (List.mem_append_right _ (List.mem_append_right _ (List.mem_append_right _ (List.mem_append_right _ (List.mem_append_right _ (List.mem_append_right _ (List.mem_append_right _ (List.mem_append_right _ (List.mem_append_right _ (List.mem_append_right _ (List.mem_append_right _ (List.mem_append_right _ (List.mem_append_right _ (List.mem_append_right _ (List.mem_append_left _ h)))))))))))))))))))))))))))))))))))))))))))))))))
theorem wm_34_0 : Cond.static yX0_sitDown ∈ WL := wl_r34 _ (List.mem_of_getElem? (i := 0) rfl)
theorem wm_34_1 : Cond.code yX0_sitDown cX0_sitDown 11 (some .boolean) ∈ WL := wl_r34 _ (List.mem_of_getElem? (i := 1) rfl)
theorem wm_34_2 : Cond.methodLink RX0 124 yX6_hasParty ∈ WL := wl_r34 _ (List.mem_of_getElem? (i := 2) rfl)
theorem wm_34_3 : Cond.methodLink RX0 113 yX0_manner ∈ WL := wl_r34 _ (List.mem_of_getElem? (i := 3) rfl)
theorem wm_34_4 : Cond.static yX0_manner ∈ WL := wl_r34 _ (List.mem_of_getElem? (i := 4) rfl)
theorem wm_34_5 : Cond.code yX0_manner cX0_manner 10 (some .int) ∈ WL := wl_r34 _ (List.mem_of_getElem? (i := 5) rfl)
theorem wm_34_6 : Cond.constantLong RX0 165 (-9223372036854775808) ∈ WL := wl_r34 _ (List.mem_of_getElem? (i := 6) rfl)
theorem wm_34_7 : Cond.methodLink RX0 170 Lib.MathLoose.max_long.x ∈ WL := wl_r34 _ (List.mem_of_getElem? (i := 7) rfl)
theorem wm_34_8 : Cond.static Lib.MathLoose.max_long.x ∈ WL := wl_r34 _ (List.mem_of_getElem? (i := 8) rfl)
theorem wm_34_9 : Cond.code Lib.MathLoose.max_long.x Lib.MathLoose.max_long.code 4 (some .long) ∈ WL := wl_r34 _ (List.mem_of_getElem? (i := 9) rfl)
theorem wm_34_10 : Cond.methodLink RX0 176 Lib.MathLoose.min_long.x ∈ WL := wl_r34 _ (List.mem_of_getElem? (i := 10) rfl)
theorem wm_34_11 : Cond.static Lib.MathLoose.min_long.x ∈ WL := wl_r34 _ (List.mem_of_getElem? (i := 11) rfl)
theorem wm_34_12 : Cond.code Lib.MathLoose.min_long.x Lib.MathLoose.min_long.code 4 (some .long) ∈ WL := wl_r34 _ (List.mem_of_getElem? (i := 12) rfl)
theorem wm_34_13 : Cond.methodLink RX0 151 yX0_look ∈ WL := wl_r34 _ (List.mem_of_getElem? (i := 13) rfl)
theorem wm_34_14 : Cond.methodLink RX0 159 yX3_work ∈ WL := wl_r34 _ (List.mem_of_getElem? (i := 14) rfl)
theorem wm_34_15 : Cond.methodLink RX0 84 yX0_comes ∈ WL := wl_r34 _ (List.mem_of_getElem? (i := 15) rfl)
theorem wm_34_16 : Cond.static yX0_comes ∈ WL := wl_r34 _ (List.mem_of_getElem? (i := 16) rfl)
theorem wm_34_17 : Cond.code yX0_comes cX0_comes 6 (some .boolean) ∈ WL := wl_r34 _ (List.mem_of_getElem? (i := 17) rfl)
theorem wm_34_18 : Cond.methodLink RX0 120 yX8_draw ∈ WL := wl_r34 _ (List.mem_of_getElem? (i := 18) rfl)
theorem wm_34_19 : Cond.instanceMethod yX8_draw ∈ WL := wl_r34 _ (List.mem_of_getElem? (i := 19) rfl)
theorem wm_34_20 : Cond.selects RX8 yX8_draw yX8_draw ∈ WL := wl_r34 _ (List.mem_of_getElem? (i := 20) rfl)
theorem wm_34_21 : Cond.code yX8_draw cX8_draw 1 (some .int) ∈ WL := wl_r34 _ (List.mem_of_getElem? (i := 21) rfl)
theorem wm_34_22 : Cond.constant RX8 93 (1103515245) ∈ WL := wl_r34 _ (List.mem_of_getElem? (i := 22) rfl)
theorem wm_34_23 : Cond.constant RX8 94 (2147483647) ∈ WL := wl_r34 _ (List.mem_of_getElem? (i := 23) rfl)
theorem wl_r35 : ∀ w ∈ wsL_law0_r35, w ∈ WL := fun w h => wl_0 w (List.mem_append_left _ (List.mem_append_left _ (List.mem_append_left _ (List.mem_append_left _ (List.mem_append_left _ (List.mem_append_left _ (List.mem_append_left _ (List.mem_append_left _ (List.mem_append_left _ (List.mem_append_left _ (List.mem_append_left _ (List.mem_append_left _ (List.mem_append_left _ (List.mem_append_left _ ((List.mem_append_right _ (List.mem_append_right _ (List.mem_append_right _ (List.mem_append_right _ (List.mem_append_right _ (List.mem_append_right _ (List.mem_append_right _ (List.mem_append_right _ (List.mem_append_right _ (List.mem_append_right _ (List.mem_append_right _ (List.mem_append_right _ (List.mem_append_right _ (List.mem_append_right _ (List.mem_append_right _ (List.mem_append_right _ (List.mem_append_right _ (List.mem_append_right _ (List.mem_append_right _ (List.mem_append_right _ (List.mem_append_right _ (List.mem_append_right _ (List.mem_append_right _ (List.mem_append_right _ (List.mem_append_right _ (List.mem_append_right _ (List.mem_append_right _ (List.mem_append_right _ (List.mem_append_right _ (List.mem_append_right _ (List.mem_append_right _ (List.mem_append_right _ (List.mem_append_right _ (List.mem_append_right _ (List.mem_append_left _ h))))))))))))))))))))))))))))))))))))))))))))))))))
theorem wm_35_0 : Cond.constant RX8 95 (65536) ∈ WL := wl_r35 _ (List.mem_of_getElem? (i := 0) rfl)
theorem wm_35_1 : Cond.methodLink RX0 93 yX0_standing ∈ WL := wl_r35 _ (List.mem_of_getElem? (i := 1) rfl)
theorem wm_35_2 : Cond.instanceMethod yX0_standing ∈ WL := wl_r35 _ (List.mem_of_getElem? (i := 2) rfl)
theorem wm_35_3 : Cond.selects RX0 yX0_standing yX0_standing ∈ WL := wl_r35 _ (List.mem_of_getElem? (i := 3) rfl)
theorem wm_35_4 : Cond.code yX0_standing cX0_standing 4 (some .int) ∈ WL := wl_r35 _ (List.mem_of_getElem? (i := 4) rfl)
theorem wm_35_5 : Cond.methodLink RX0 97 yX0_laying ∈ WL := wl_r35 _ (List.mem_of_getElem? (i := 5) rfl)
theorem wm_35_6 : Cond.static yX0_laying ∈ WL := wl_r35 _ (List.mem_of_getElem? (i := 6) rfl)
theorem wm_35_7 : Cond.code yX0_laying cX0_laying 3 (some .int) ∈ WL := wl_r35 _ (List.mem_of_getElem? (i := 7) rfl)
theorem wm_35_8 : Cond.methodLink RL 78 yX12_days ∈ WL := wl_r35 _ (List.mem_of_getElem? (i := 8) rfl)
theorem wm_35_9 : Cond.instanceMethod yX12_days ∈ WL := wl_r35 _ (List.mem_of_getElem? (i := 9) rfl)
theorem wm_35_10 : Cond.selects RX12 yX12_days yX12_days ∈ WL := wl_r35 _ (List.mem_of_getElem? (i := 10) rfl)
theorem wm_35_11 : Cond.code yX12_days cX12_days 3 (some .int) ∈ WL := wl_r35 _ (List.mem_of_getElem? (i := 11) rfl)
theorem wm_35_12 : Cond.methodLink RX12 410 yX12_passes ∈ WL := wl_r35 _ (List.mem_of_getElem? (i := 12) rfl)
theorem wm_35_13 : Cond.instanceMethod yX12_passes ∈ WL := wl_r35 _ (List.mem_of_getElem? (i := 13) rfl)
theorem wm_35_14 : Cond.selects RX12 yX12_passes yX12_passes ∈ WL := wl_r35 _ (List.mem_of_getElem? (i := 14) rfl)
theorem wm_35_15 : Cond.code yX12_passes cX12_passes 7 none ∈ WL := wl_r35 _ (List.mem_of_getElem? (i := 15) rfl)
theorem wm_35_16 : Cond.methodLink RX12 385 Lib.Math.max.name ∈ WL := wl_r35 _ (List.mem_of_getElem? (i := 16) rfl)
theorem wm_35_17 : Cond.fieldLink RX12 382 "ThreeSittingsModel" "ends" "I" ∈ WL := wl_r35 _ (List.mem_of_getElem? (i := 17) rfl)
theorem wm_35_18 : Cond.fieldLink RX12 372 "ThreeSittingsModel" "standing" "I" ∈ WL := wl_r35 _ (List.mem_of_getElem? (i := 18) rfl)
theorem wm_35_19 : Cond.methodLink RX12 400 yX12_sits ∈ WL := wl_r35 _ (List.mem_of_getElem? (i := 19) rfl)
theorem wm_35_20 : Cond.instanceMethod yX12_sits ∈ WL := wl_r35 _ (List.mem_of_getElem? (i := 20) rfl)
theorem wm_35_21 : Cond.selects RX12 yX12_sits yX12_sits ∈ WL := wl_r35 _ (List.mem_of_getElem? (i := 21) rfl)
theorem wm_35_22 : Cond.code yX12_sits cX12_sits 8 none ∈ WL := wl_r35 _ (List.mem_of_getElem? (i := 22) rfl)
theorem wm_35_23 : Cond.fieldLink RX12 369 "ThreeSittingsModel" "left" "I" ∈ WL := wl_r35 _ (List.mem_of_getElem? (i := 23) rfl)
theorem wl_r36 : ∀ w ∈ wsL_law0_r36, w ∈ WL := fun w h => wl_0 w (List.mem_append_left _ (List.mem_append_left _ (List.mem_append_left _ (List.mem_append_left _ (List.mem_append_left _ (List.mem_append_left _ (List.mem_append_left _ (List.mem_append_left _ (List.mem_append_left _ (List.mem_append_left _ (List.mem_append_left _ (List.mem_append_left _ (List.mem_append_left _ (List.mem_append_left _ ((List.mem_append_right _ (List.mem_append_right _ (List.mem_append_right _ (List.mem_append_right _ (List.mem_append_right _ (List.mem_append_right _ (List.mem_append_right _ (List.mem_append_right _ (List.mem_append_right _ (List.mem_append_right _ (List.mem_append_right _ (List.mem_append_right _ (List.mem_append_right _ (List.mem_append_right _ (List.mem_append_right _ (List.mem_append_right _ (List.mem_append_right _ (List.mem_append_right _ (List.mem_append_right _ (List.mem_append_right _ (List.mem_append_right _ (List.mem_append_right _ (List.mem_append_right _ (List.mem_append_right _ (List.mem_append_right _ (List.mem_append_right _ (List.mem_append_right _ (List.mem_append_right _ (List.mem_append_right _ (List.mem_append_right _ (List.mem_append_right _ (List.mem_append_right _ (List.mem_append_right _ (List.mem_append_right _ (List.mem_append_right _ (List.mem_append_left _ h)))))))))))))))))))))))))))))))))))))))))))))))))))
theorem wm_36_0 : Cond.fieldLink RX12 359 "ThreeSittingsModel" "tryWhat" "I" ∈ WL := wl_r36 _ (List.mem_of_getElem? (i := 0) rfl)
theorem wm_36_1 : Cond.methodLink RX12 387 yX12_seatsOf ∈ WL := wl_r36 _ (List.mem_of_getElem? (i := 1) rfl)
theorem wm_36_2 : Cond.instanceMethod yX12_seatsOf ∈ WL := wl_r36 _ (List.mem_of_getElem? (i := 2) rfl)
theorem wm_36_3 : Cond.selects RX12 yX12_seatsOf yX12_seatsOf ∈ WL := wl_r36 _ (List.mem_of_getElem? (i := 3) rfl)
theorem wm_36_4 : Cond.code yX12_seatsOf cX12_seatsOf 1 (some .int) ∈ WL := wl_r36 _ (List.mem_of_getElem? (i := 4) rfl)
theorem wm_36_5 : Cond.methodLink RX12 390 yX12_takesSeat ∈ WL := wl_r36 _ (List.mem_of_getElem? (i := 5) rfl)
theorem wm_36_6 : Cond.instanceMethod yX12_takesSeat ∈ WL := wl_r36 _ (List.mem_of_getElem? (i := 6) rfl)
theorem wm_36_7 : Cond.selects RX12 yX12_takesSeat yX12_takesSeat ∈ WL := wl_r36 _ (List.mem_of_getElem? (i := 7) rfl)
theorem wm_36_8 : Cond.code yX12_takesSeat cX12_takesSeat 10 none ∈ WL := wl_r36 _ (List.mem_of_getElem? (i := 8) rfl)
theorem wm_36_9 : Cond.methodLink RX12 375 yX12_likeOf ∈ WL := wl_r36 _ (List.mem_of_getElem? (i := 9) rfl)
theorem wm_36_10 : Cond.instanceMethod yX12_likeOf ∈ WL := wl_r36 _ (List.mem_of_getElem? (i := 10) rfl)
theorem wm_36_11 : Cond.selects RX12 yX12_likeOf yX12_likeOf ∈ WL := wl_r36 _ (List.mem_of_getElem? (i := 11) rfl)
theorem wm_36_12 : Cond.code yX12_likeOf cX12_likeOf 5 (some .int) ∈ WL := wl_r36 _ (List.mem_of_getElem? (i := 12) rfl)
theorem wm_36_13 : Cond.methodLink RX12 355 yX12_within ∈ WL := wl_r36 _ (List.mem_of_getElem? (i := 13) rfl)
theorem wm_36_14 : Cond.instanceMethod yX12_within ∈ WL := wl_r36 _ (List.mem_of_getElem? (i := 14) rfl)
theorem wm_36_15 : Cond.selects RX12 yX12_within yX12_within ∈ WL := wl_r36 _ (List.mem_of_getElem? (i := 15) rfl)
theorem wm_36_16 : Cond.code yX12_within cX12_within 4 (some .int) ∈ WL := wl_r36 _ (List.mem_of_getElem? (i := 16) rfl)
theorem wm_36_17 : Cond.methodLink RX12 345 Lib.MathLoose.min_long.x ∈ WL := wl_r36 _ (List.mem_of_getElem? (i := 17) rfl)
theorem wm_36_18 : Cond.methodLink RX12 348 Lib.MathLoose.max_long.x ∈ WL := wl_r36 _ (List.mem_of_getElem? (i := 18) rfl)
theorem wm_36_19 : Cond.methodLink RX12 379 yX12_stayOf ∈ WL := wl_r36 _ (List.mem_of_getElem? (i := 19) rfl)
theorem wm_36_20 : Cond.instanceMethod yX12_stayOf ∈ WL := wl_r36 _ (List.mem_of_getElem? (i := 20) rfl)
theorem wm_36_21 : Cond.selects RX12 yX12_stayOf yX12_stayOf ∈ WL := wl_r36 _ (List.mem_of_getElem? (i := 21) rfl)
theorem wm_36_22 : Cond.code yX12_stayOf cX12_stayOf 5 (some .int) ∈ WL := wl_r36 _ (List.mem_of_getElem? (i := 22) rfl)
theorem wm_36_23 : Cond.methodLink RX12 393 yX12_missOf ∈ WL := wl_r36 _ (List.mem_of_getElem? (i := 23) rfl)
theorem wl_r37 : ∀ w ∈ wsL_law0_r37, w ∈ WL := fun w h => wl_0 w (List.mem_append_left _ (List.mem_append_left _ (List.mem_append_left _ (List.mem_append_left _ (List.mem_append_left _ (List.mem_append_left _ (List.mem_append_left _ (List.mem_append_left _ (List.mem_append_left _ (List.mem_append_left _ (List.mem_append_left _ (List.mem_append_left _ (List.mem_append_left _ (List.mem_append_left _ ((List.mem_append_right _ (List.mem_append_right _ (List.mem_append_right _ (List.mem_append_right _ (List.mem_append_right _ (List.mem_append_right _ (List.mem_append_right _ (List.mem_append_right _ (List.mem_append_right _ (List.mem_append_right _ (List.mem_append_right _ (List.mem_append_right _ (List.mem_append_right _ (List.mem_append_right _ (List.mem_append_right _ (List.mem_append_right _ (List.mem_append_right _ (List.mem_append_right _ (List.mem_append_right _ (List.mem_append_right _ (List.mem_append_right _ (List.mem_append_right _ (List.mem_append_right _ (List.mem_append_right _ (List.mem_append_right _ (List.mem_append_right _ (List.mem_append_right _ (List.mem_append_right _ (List.mem_append_right _ (List.mem_append_right _ (List.mem_append_right _ (List.mem_append_right _ (List.mem_append_right _ (List.mem_append_right _ (List.mem_append_right _ (List.mem_append_right _ (List.mem_append_left _ h))))))))))))))))))))))))))))))))))))))))))))))))))))
theorem wm_37_0 : Cond.instanceMethod yX12_missOf ∈ WL := wl_r37 _ (List.mem_of_getElem? (i := 0) rfl)
theorem wm_37_1 : Cond.selects RX12 yX12_missOf yX12_missOf ∈ WL := wl_r37 _ (List.mem_of_getElem? (i := 1) rfl)
theorem wm_37_2 : Cond.code yX12_missOf cX12_missOf 5 (some .int) ∈ WL := wl_r37 _ (List.mem_of_getElem? (i := 2) rfl)
theorem wm_37_3 : Cond.methodLink RX12 396 yX12_comes ∈ WL := wl_r37 _ (List.mem_of_getElem? (i := 3) rfl)
theorem wm_37_4 : Cond.instanceMethod yX12_comes ∈ WL := wl_r37 _ (List.mem_of_getElem? (i := 4) rfl)
theorem wm_37_5 : Cond.selects RX12 yX12_comes yX12_comes ∈ WL := wl_r37 _ (List.mem_of_getElem? (i := 5) rfl)
theorem wm_37_6 : Cond.code yX12_comes cX12_comes 4 (some .boolean) ∈ WL := wl_r37 _ (List.mem_of_getElem? (i := 6) rfl)
theorem wm_37_7 : Cond.constant RX12 365 (1103515245) ∈ WL := wl_r37 _ (List.mem_of_getElem? (i := 7) rfl)
theorem wm_37_8 : Cond.constant RX12 368 (2147483647) ∈ WL := wl_r37 _ (List.mem_of_getElem? (i := 8) rfl)
theorem wm_37_9 : Cond.methodLink RX12 404 yX12_handsOf ∈ WL := wl_r37 _ (List.mem_of_getElem? (i := 9) rfl)
theorem wm_37_10 : Cond.instanceMethod yX12_handsOf ∈ WL := wl_r37 _ (List.mem_of_getElem? (i := 10) rfl)
theorem wm_37_11 : Cond.selects RX12 yX12_handsOf yX12_handsOf ∈ WL := wl_r37 _ (List.mem_of_getElem? (i := 11) rfl)
theorem wm_37_12 : Cond.code yX12_handsOf cX12_handsOf 1 (some .int) ∈ WL := wl_r37 _ (List.mem_of_getElem? (i := 12) rfl)
theorem wm_37_13 : Cond.fieldLink RX12 362 "ThreeSittingsModel" "tryHands" "I" ∈ WL := wl_r37 _ (List.mem_of_getElem? (i := 13) rfl)
theorem wm_37_14 : Cond.methodLink RL 79 yX11_best ∈ WL := wl_r37 _ (List.mem_of_getElem? (i := 14) rfl)
theorem wm_37_15 : Cond.instanceMethod yX11_best ∈ WL := wl_r37 _ (List.mem_of_getElem? (i := 15) rfl)
theorem wm_37_16 : Cond.selects RX11 yX11_best yX11_best ∈ WL := wl_r37 _ (List.mem_of_getElem? (i := 16) rfl)
theorem wm_37_17 : Cond.code yX11_best cX11_best 3 (some .int) ∈ WL := wl_r37 _ (List.mem_of_getElem? (i := 17) rfl)
theorem wm_37_18 : Cond.methodLink RX11 249 yX11_findBest ∈ WL := wl_r37 _ (List.mem_of_getElem? (i := 18) rfl)
theorem wm_37_19 : Cond.instanceMethod yX11_findBest ∈ WL := wl_r37 _ (List.mem_of_getElem? (i := 19) rfl)
theorem wm_37_20 : Cond.selects RX11 yX11_findBest yX11_findBest ∈ WL := wl_r37 _ (List.mem_of_getElem? (i := 20) rfl)
theorem wm_37_21 : Cond.code yX11_findBest cX11_findBest 5 none ∈ WL := wl_r37 _ (List.mem_of_getElem? (i := 21) rfl)
theorem wm_37_22 : Cond.methodLink RX11 267 yX11_likeNow ∈ WL := wl_r37 _ (List.mem_of_getElem? (i := 22) rfl)
theorem wm_37_23 : Cond.instanceMethod yX11_likeNow ∈ WL := wl_r37 _ (List.mem_of_getElem? (i := 23) rfl)
theorem wl_r38 : ∀ w ∈ wsL_law0_r38, w ∈ WL := fun w h => wl_0 w (List.mem_append_left _ (List.mem_append_left _ (List.mem_append_left _ (List.mem_append_left _ (List.mem_append_left _ (List.mem_append_left _ (List.mem_append_left _ (List.mem_append_left _ (List.mem_append_left _ (List.mem_append_left _ (List.mem_append_left _ (List.mem_append_left _ (List.mem_append_left _ (List.mem_append_left _ ((List.mem_append_right _ (List.mem_append_right _ (List.mem_append_right _ (List.mem_append_right _ (List.mem_append_right _ (List.mem_append_right _ (List.mem_append_right _ (List.mem_append_right _ (List.mem_append_right _ (List.mem_append_right _ (List.mem_append_right _ (List.mem_append_right _ (List.mem_append_right _ (List.mem_append_right _ (List.mem_append_right _ (List.mem_append_right _ (List.mem_append_right _ (List.mem_append_right _ (List.mem_append_right _ (List.mem_append_right _ (List.mem_append_right _ (List.mem_append_right _ (List.mem_append_right _ (List.mem_append_right _ (List.mem_append_right _ (List.mem_append_right _ (List.mem_append_right _ (List.mem_append_right _ (List.mem_append_right _ (List.mem_append_right _ (List.mem_append_right _ (List.mem_append_right _ (List.mem_append_right _ (List.mem_append_right _ (List.mem_append_right _ (List.mem_append_right _ (List.mem_append_right _ (List.mem_append_left _ h)))))))))))))))))))))))))))))))))))))))))))))))))))))
theorem wm_38_0 : Cond.selects RX11 yX11_likeNow yX11_likeNow ∈ WL := wl_r38 _ (List.mem_of_getElem? (i := 0) rfl)
theorem wm_38_1 : Cond.code yX11_likeNow cX11_likeNow 3 (some .int) ∈ WL := wl_r38 _ (List.mem_of_getElem? (i := 1) rfl)
theorem wm_38_2 : Cond.methodLink RX11 276 yX0_manner ∈ WL := wl_r38 _ (List.mem_of_getElem? (i := 2) rfl)
theorem wm_38_3 : Cond.methodLink RX11 270 yX1_tell ∈ WL := wl_r38 _ (List.mem_of_getElem? (i := 3) rfl)
theorem wm_38_4 : Cond.instanceMethod yX1_tell ∈ WL := wl_r38 _ (List.mem_of_getElem? (i := 4) rfl)
theorem wm_38_5 : Cond.selects RX1 yX1_tell yX1_tell ∈ WL := wl_r38 _ (List.mem_of_getElem? (i := 5) rfl)
theorem wm_38_6 : Cond.code yX1_tell cX1_tell 4 none ∈ WL := wl_r38 _ (List.mem_of_getElem? (i := 6) rfl)
theorem wm_38_7 : Cond.methodLink RX11 273 yX1_find ∈ WL := wl_r38 _ (List.mem_of_getElem? (i := 7) rfl)
theorem wm_38_8 : Cond.instanceMethod yX1_find ∈ WL := wl_r38 _ (List.mem_of_getElem? (i := 8) rfl)
theorem wm_38_9 : Cond.selects RX1 yX1_find yX1_find ∈ WL := wl_r38 _ (List.mem_of_getElem? (i := 9) rfl)
theorem wm_38_10 : Cond.code yX1_find cX1_find 5 none ∈ WL := wl_r38 _ (List.mem_of_getElem? (i := 10) rfl)
theorem wm_38_11 : Cond.methodLink RX1 45 Lib.Math.max.name ∈ WL := wl_r38 _ (List.mem_of_getElem? (i := 11) rfl)
theorem wm_38_12 : Cond.methodLink RX1 51 yX6_mostTickets ∈ WL := wl_r38 _ (List.mem_of_getElem? (i := 12) rfl)
theorem wm_38_13 : Cond.methodLink RX1 55 yX1_search ∈ WL := wl_r38 _ (List.mem_of_getElem? (i := 13) rfl)
theorem wm_38_14 : Cond.instanceMethod yX1_search ∈ WL := wl_r38 _ (List.mem_of_getElem? (i := 14) rfl)
theorem wm_38_15 : Cond.selects RX1 yX1_search yX1_search ∈ WL := wl_r38 _ (List.mem_of_getElem? (i := 15) rfl)
theorem wm_38_16 : Cond.code yX1_search cX1_search 6 none ∈ WL := wl_r38 _ (List.mem_of_getElem? (i := 16) rfl)
theorem wm_38_17 : Cond.methodLink RX1 59 arraycopyName ∈ WL := wl_r38 _ (List.mem_of_getElem? (i := 17) rfl)
theorem wm_38_18 : Cond.methodLink RX1 65 yX6_trait ∈ WL := wl_r38 _ (List.mem_of_getElem? (i := 18) rfl)
theorem wm_38_19 : Cond.methodLink RL 82 yX12_best ∈ WL := wl_r38 _ (List.mem_of_getElem? (i := 19) rfl)
theorem wm_38_20 : Cond.instanceMethod yX12_best ∈ WL := wl_r38 _ (List.mem_of_getElem? (i := 20) rfl)
theorem wm_38_21 : Cond.selects RX12 yX12_best yX12_best ∈ WL := wl_r38 _ (List.mem_of_getElem? (i := 21) rfl)
theorem wm_38_22 : Cond.code yX12_best cX12_best 2 (some .int) ∈ WL := wl_r38 _ (List.mem_of_getElem? (i := 22) rfl)
theorem wm_38_23 : Cond.methodLink RX12 443 yX12_layBest ∈ WL := wl_r38 _ (List.mem_of_getElem? (i := 23) rfl)
theorem wl_r39 : ∀ w ∈ wsL_law0_r39, w ∈ WL := fun w h => wl_0 w (List.mem_append_left _ (List.mem_append_left _ (List.mem_append_left _ (List.mem_append_left _ (List.mem_append_left _ (List.mem_append_left _ (List.mem_append_left _ (List.mem_append_left _ (List.mem_append_left _ (List.mem_append_left _ (List.mem_append_left _ (List.mem_append_left _ (List.mem_append_left _ (List.mem_append_left _ ((List.mem_append_right _ (List.mem_append_right _ (List.mem_append_right _ (List.mem_append_right _ (List.mem_append_right _ (List.mem_append_right _ (List.mem_append_right _ (List.mem_append_right _ (List.mem_append_right _ (List.mem_append_right _ (List.mem_append_right _ (List.mem_append_right _ (List.mem_append_right _ (List.mem_append_right _ (List.mem_append_right _ (List.mem_append_right _ (List.mem_append_right _ (List.mem_append_right _ (List.mem_append_right _ (List.mem_append_right _ (List.mem_append_right _ (List.mem_append_right _ (List.mem_append_right _ (List.mem_append_right _ (List.mem_append_right _ (List.mem_append_right _ (List.mem_append_right _ (List.mem_append_right _ (List.mem_append_right _ (List.mem_append_right _ (List.mem_append_right _ (List.mem_append_right _ (List.mem_append_right _ (List.mem_append_right _ (List.mem_append_right _ (List.mem_append_right _ (List.mem_append_right _ (List.mem_append_right _ (List.mem_append_left _ h))))))))))))))))))))))))))))))))))))))))))))))))))))))
theorem wm_39_0 : Cond.instanceMethod yX12_layBest ∈ WL := wl_r39 _ (List.mem_of_getElem? (i := 0) rfl)
theorem wm_39_1 : Cond.selects RX12 yX12_layBest yX12_layBest ∈ WL := wl_r39 _ (List.mem_of_getElem? (i := 1) rfl)
theorem wm_39_2 : Cond.code yX12_layBest cX12_layBest 2 none ∈ WL := wl_r39 _ (List.mem_of_getElem? (i := 2) rfl)
theorem wm_39_3 : Cond.fieldLink RX12 433 "ThreeSittingsModel" "bestLike" "I" ∈ WL := wl_r39 _ (List.mem_of_getElem? (i := 3) rfl)
theorem wm_39_4 : Cond.methodLink RX12 436 yX12_rows ∈ WL := wl_r39 _ (List.mem_of_getElem? (i := 4) rfl)
theorem wm_39_5 : Cond.instanceMethod yX12_rows ∈ WL := wl_r39 _ (List.mem_of_getElem? (i := 5) rfl)
theorem wm_39_6 : Cond.selects RX12 yX12_rows yX12_rows ∈ WL := wl_r39 _ (List.mem_of_getElem? (i := 6) rfl)
theorem wm_39_7 : Cond.code yX12_rows cX12_rows 4 none ∈ WL := wl_r39 _ (List.mem_of_getElem? (i := 7) rfl)
theorem wm_39_8 : Cond.methodLink RX12 439 yX12_mayHave ∈ WL := wl_r39 _ (List.mem_of_getElem? (i := 8) rfl)
theorem wm_39_9 : Cond.instanceMethod yX12_mayHave ∈ WL := wl_r39 _ (List.mem_of_getElem? (i := 9) rfl)
theorem wm_39_10 : Cond.selects RX12 yX12_mayHave yX12_mayHave ∈ WL := wl_r39 _ (List.mem_of_getElem? (i := 10) rfl)
theorem wm_39_11 : Cond.code yX12_mayHave cX12_mayHave 3 (some .boolean) ∈ WL := wl_r39 _ (List.mem_of_getElem? (i := 11) rfl)
theorem wm_39_12 : Cond.methodLink RL 83 yX11_bestSum ∈ WL := wl_r39 _ (List.mem_of_getElem? (i := 12) rfl)
theorem wm_39_13 : Cond.instanceMethod yX11_bestSum ∈ WL := wl_r39 _ (List.mem_of_getElem? (i := 13) rfl)
theorem wm_39_14 : Cond.selects RX11 yX11_bestSum yX11_bestSum ∈ WL := wl_r39 _ (List.mem_of_getElem? (i := 14) rfl)
theorem wm_39_15 : Cond.code yX11_bestSum cX11_bestSum 1 (some .int) ∈ WL := wl_r39 _ (List.mem_of_getElem? (i := 15) rfl)
theorem wm_39_16 : Cond.methodLink RL 86 yX12_bestSum ∈ WL := wl_r39 _ (List.mem_of_getElem? (i := 16) rfl)
theorem wm_39_17 : Cond.instanceMethod yX12_bestSum ∈ WL := wl_r39 _ (List.mem_of_getElem? (i := 17) rfl)
theorem wm_39_18 : Cond.selects RX12 yX12_bestSum yX12_bestSum ∈ WL := wl_r39 _ (List.mem_of_getElem? (i := 18) rfl)
theorem wm_39_19 : Cond.code yX12_bestSum cX12_bestSum 1 (some .int) ∈ WL := wl_r39 _ (List.mem_of_getElem? (i := 19) rfl)
theorem wm_39_20 : Cond.methodLink RL 87 yX11_choice ∈ WL := wl_r39 _ (List.mem_of_getElem? (i := 20) rfl)
theorem wm_39_21 : Cond.instanceMethod yX11_choice ∈ WL := wl_r39 _ (List.mem_of_getElem? (i := 21) rfl)
theorem wm_39_22 : Cond.selects RX11 yX11_choice yX11_choice ∈ WL := wl_r39 _ (List.mem_of_getElem? (i := 22) rfl)
theorem wm_39_23 : Cond.code yX11_choice cX11_choice 3 (some .int) ∈ WL := wl_r39 _ (List.mem_of_getElem? (i := 23) rfl)
theorem wl_r40 : ∀ w ∈ wsL_law0_r40, w ∈ WL := fun w h => wl_0 w (List.mem_append_left _ (List.mem_append_left _ (List.mem_append_left _ (List.mem_append_left _ (List.mem_append_left _ (List.mem_append_left _ (List.mem_append_left _ (List.mem_append_left _ (List.mem_append_left _ (List.mem_append_left _ (List.mem_append_left _ (List.mem_append_left _ (List.mem_append_left _ (List.mem_append_left _ ((List.mem_append_right _ (List.mem_append_right _ (List.mem_append_right _ (List.mem_append_right _ (List.mem_append_right _ (List.mem_append_right _ (List.mem_append_right _ (List.mem_append_right _ (List.mem_append_right _ (List.mem_append_right _ (List.mem_append_right _ (List.mem_append_right _ (List.mem_append_right _ (List.mem_append_right _ (List.mem_append_right _ (List.mem_append_right _ (List.mem_append_right _ (List.mem_append_right _ (List.mem_append_right _ (List.mem_append_right _ (List.mem_append_right _ (List.mem_append_right _ (List.mem_append_right _ (List.mem_append_right _ (List.mem_append_right _ (List.mem_append_right _ (List.mem_append_right _ (List.mem_append_right _ (List.mem_append_right _ (List.mem_append_right _ (List.mem_append_right _ (List.mem_append_right _ (List.mem_append_right _ (List.mem_append_right _ (List.mem_append_right _ (List.mem_append_right _ (List.mem_append_right _ (List.mem_append_right _ (List.mem_append_right _ (List.mem_append_left _ h)))))))))))))))))))))))))))))))))))))))))))))))))))))))
theorem wm_40_0 : Cond.methodLink RX11 280 yX6_chosen ∈ WL := wl_r40 _ (List.mem_of_getElem? (i := 0) rfl)
theorem wm_40_1 : Cond.instanceMethod yX6_chosen ∈ WL := wl_r40 _ (List.mem_of_getElem? (i := 1) rfl)
theorem wm_40_2 : Cond.selects RX6 yX6_chosen yX6_chosen ∈ WL := wl_r40 _ (List.mem_of_getElem? (i := 2) rfl)
theorem wm_40_3 : Cond.code yX6_chosen cX6_chosen 7 (some .int) ∈ WL := wl_r40 _ (List.mem_of_getElem? (i := 3) rfl)
theorem wm_40_4 : Cond.methodLink RX6 59 yX6_trait ∈ WL := wl_r40 _ (List.mem_of_getElem? (i := 4) rfl)
theorem wm_40_5 : Cond.methodLink RL 90 yX12_choice ∈ WL := wl_r40 _ (List.mem_of_getElem? (i := 5) rfl)
theorem wm_40_6 : Cond.instanceMethod yX12_choice ∈ WL := wl_r40 _ (List.mem_of_getElem? (i := 6) rfl)
theorem wm_40_7 : Cond.selects RX12 yX12_choice yX12_choice ∈ WL := wl_r40 _ (List.mem_of_getElem? (i := 7) rfl)
theorem wm_40_8 : Cond.code yX12_choice cX12_choice 3 (some .int) ∈ WL := wl_r40 _ (List.mem_of_getElem? (i := 8) rfl)
theorem wm_40_9 : Cond.methodLink RX12 446 yX12_choiceOf ∈ WL := wl_r40 _ (List.mem_of_getElem? (i := 9) rfl)
theorem wm_40_10 : Cond.instanceMethod yX12_choiceOf ∈ WL := wl_r40 _ (List.mem_of_getElem? (i := 10) rfl)
theorem wm_40_11 : Cond.selects RX12 yX12_choiceOf yX12_choiceOf ∈ WL := wl_r40 _ (List.mem_of_getElem? (i := 11) rfl)
theorem wm_40_12 : Cond.code yX12_choiceOf cX12_choiceOf 6 (some .int) ∈ WL := wl_r40 _ (List.mem_of_getElem? (i := 12) rfl)
theorem wm_40_13 : Cond.methodLink RL 91 yX11_level ∈ WL := wl_r40 _ (List.mem_of_getElem? (i := 13) rfl)
theorem wm_40_14 : Cond.instanceMethod yX11_level ∈ WL := wl_r40 _ (List.mem_of_getElem? (i := 14) rfl)
theorem wm_40_15 : Cond.selects RX11 yX11_level yX11_level ∈ WL := wl_r40 _ (List.mem_of_getElem? (i := 15) rfl)
theorem wm_40_16 : Cond.code yX11_level cX11_level 2 (some .int) ∈ WL := wl_r40 _ (List.mem_of_getElem? (i := 16) rfl)
theorem wm_40_17 : Cond.methodLink RX11 284 yX4_priceOf ∈ WL := wl_r40 _ (List.mem_of_getElem? (i := 17) rfl)
theorem wm_40_18 : Cond.instanceMethod yX4_priceOf ∈ WL := wl_r40 _ (List.mem_of_getElem? (i := 18) rfl)
theorem wm_40_19 : Cond.selects RX4 yX4_priceOf yX4_priceOf ∈ WL := wl_r40 _ (List.mem_of_getElem? (i := 19) rfl)
theorem wm_40_20 : Cond.code yX4_priceOf cX4_priceOf 3 (some .int) ∈ WL := wl_r40 _ (List.mem_of_getElem? (i := 20) rfl)
theorem wm_40_21 : Cond.methodLink RX4 25 yX4_find ∈ WL := wl_r40 _ (List.mem_of_getElem? (i := 21) rfl)
theorem wm_40_22 : Cond.instanceMethod yX4_find ∈ WL := wl_r40 _ (List.mem_of_getElem? (i := 22) rfl)
theorem wm_40_23 : Cond.selects RX4 yX4_find yX4_find ∈ WL := wl_r40 _ (List.mem_of_getElem? (i := 23) rfl)
theorem wl_r41 : ∀ w ∈ wsL_law0_r41, w ∈ WL := fun w h => wl_0 w (List.mem_append_left _ (List.mem_append_left _ (List.mem_append_left _ (List.mem_append_left _ (List.mem_append_left _ (List.mem_append_left _ (List.mem_append_left _ (List.mem_append_left _ (List.mem_append_left _ (List.mem_append_left _ (List.mem_append_left _ (List.mem_append_left _ (List.mem_append_left _ (List.mem_append_left _ ((List.mem_append_right _ (List.mem_append_right _ (List.mem_append_right _ (List.mem_append_right _ (List.mem_append_right _ (List.mem_append_right _ (List.mem_append_right _ (List.mem_append_right _ (List.mem_append_right _ (List.mem_append_right _ (List.mem_append_right _ (List.mem_append_right _ (List.mem_append_right _ (List.mem_append_right _ (List.mem_append_right _ (List.mem_append_right _ (List.mem_append_right _ (List.mem_append_right _ (List.mem_append_right _ (List.mem_append_right _ (List.mem_append_right _ (List.mem_append_right _ (List.mem_append_right _ (List.mem_append_right _ (List.mem_append_right _ (List.mem_append_right _ (List.mem_append_right _ (List.mem_append_right _ (List.mem_append_right _ (List.mem_append_right _ (List.mem_append_right _ (List.mem_append_right _ (List.mem_append_right _ (List.mem_append_right _ (List.mem_append_right _ (List.mem_append_right _ (List.mem_append_right _ (List.mem_append_right _ (List.mem_append_right _ (List.mem_append_right _ (List.mem_append_left _ h))))))))))))))))))))))))))))))))))))))))))))))))))))))))
theorem wm_41_0 : Cond.code yX4_find cX4_find 4 none ∈ WL := wl_r41 _ (List.mem_of_getElem? (i := 0) rfl)
theorem wm_41_1 : Cond.methodLink RX4 29 yX4_tooFull ∈ WL := wl_r41 _ (List.mem_of_getElem? (i := 1) rfl)
theorem wm_41_2 : Cond.instanceMethod yX4_tooFull ∈ WL := wl_r41 _ (List.mem_of_getElem? (i := 2) rfl)
theorem wm_41_3 : Cond.selects RX4 yX4_tooFull yX4_tooFull ∈ WL := wl_r41 _ (List.mem_of_getElem? (i := 3) rfl)
theorem wm_41_4 : Cond.code yX4_tooFull cX4_tooFull 4 (some .int) ∈ WL := wl_r41 _ (List.mem_of_getElem? (i := 4) rfl)
theorem wm_41_5 : Cond.methodLink RX4 39 yX6_chosen ∈ WL := wl_r41 _ (List.mem_of_getElem? (i := 5) rfl)
theorem wm_41_6 : Cond.methodLink RX4 43 yX6_trait ∈ WL := wl_r41 _ (List.mem_of_getElem? (i := 6) rfl)
theorem wm_41_7 : Cond.methodLink RL 94 yX12_level ∈ WL := wl_r41 _ (List.mem_of_getElem? (i := 7) rfl)
theorem wm_41_8 : Cond.instanceMethod yX12_level ∈ WL := wl_r41 _ (List.mem_of_getElem? (i := 8) rfl)
theorem wm_41_9 : Cond.selects RX12 yX12_level yX12_level ∈ WL := wl_r41 _ (List.mem_of_getElem? (i := 9) rfl)
theorem wm_41_10 : Cond.code yX12_level cX12_level 7 (some .int) ∈ WL := wl_r41 _ (List.mem_of_getElem? (i := 10) rfl)
theorem wm_41_11 : Cond.methodLink RX12 449 yX12_layCode ∈ WL := wl_r41 _ (List.mem_of_getElem? (i := 11) rfl)
theorem wm_41_12 : Cond.instanceMethod yX12_layCode ∈ WL := wl_r41 _ (List.mem_of_getElem? (i := 12) rfl)
theorem wm_41_13 : Cond.selects RX12 yX12_layCode yX12_layCode ∈ WL := wl_r41 _ (List.mem_of_getElem? (i := 13) rfl)
theorem wm_41_14 : Cond.code yX12_layCode cX12_layCode 5 (some .int) ∈ WL := wl_r41 _ (List.mem_of_getElem? (i := 14) rfl)
theorem wm_41_15 : Cond.methodLink RX12 452 yX12_isLevel ∈ WL := wl_r41 _ (List.mem_of_getElem? (i := 15) rfl)
theorem wm_41_16 : Cond.instanceMethod yX12_isLevel ∈ WL := wl_r41 _ (List.mem_of_getElem? (i := 16) rfl)
theorem wm_41_17 : Cond.selects RX12 yX12_isLevel yX12_isLevel ∈ WL := wl_r41 _ (List.mem_of_getElem? (i := 17) rfl)
theorem wm_41_18 : Cond.code yX12_isLevel cX12_isLevel 4 (some .boolean) ∈ WL := wl_r41 _ (List.mem_of_getElem? (i := 18) rfl)
theorem wm_41_19 : Cond.methodLink RL 95 yX11_crowd ∈ WL := wl_r41 _ (List.mem_of_getElem? (i := 19) rfl)
theorem wm_41_20 : Cond.instanceMethod yX11_crowd ∈ WL := wl_r41 _ (List.mem_of_getElem? (i := 20) rfl)
theorem wm_41_21 : Cond.selects RX11 yX11_crowd yX11_crowd ∈ WL := wl_r41 _ (List.mem_of_getElem? (i := 21) rfl)
theorem wm_41_22 : Cond.code yX11_crowd cX11_crowd 11 (some .long) ∈ WL := wl_r41 _ (List.mem_of_getElem? (i := 22) rfl)
theorem wm_41_23 : Cond.constantLong RX11 287 (-1) ∈ WL := wl_r41 _ (List.mem_of_getElem? (i := 23) rfl)
theorem wl_r42 : ∀ w ∈ wsL_law0_r42, w ∈ WL := fun w h => wl_0 w (List.mem_append_left _ (List.mem_append_left _ (List.mem_append_left _ (List.mem_append_left _ (List.mem_append_left _ (List.mem_append_left _ (List.mem_append_left _ (List.mem_append_left _ (List.mem_append_left _ (List.mem_append_left _ (List.mem_append_left _ (List.mem_append_left _ (List.mem_append_left _ (List.mem_append_left _ ((List.mem_append_right _ (List.mem_append_right _ (List.mem_append_right _ (List.mem_append_right _ (List.mem_append_right _ (List.mem_append_right _ (List.mem_append_right _ (List.mem_append_right _ (List.mem_append_right _ (List.mem_append_right _ (List.mem_append_right _ (List.mem_append_right _ (List.mem_append_right _ (List.mem_append_right _ (List.mem_append_right _ (List.mem_append_right _ (List.mem_append_right _ (List.mem_append_right _ (List.mem_append_right _ (List.mem_append_right _ (List.mem_append_right _ (List.mem_append_right _ (List.mem_append_right _ (List.mem_append_right _ (List.mem_append_right _ (List.mem_append_right _ (List.mem_append_right _ (List.mem_append_right _ (List.mem_append_right _ (List.mem_append_right _ (List.mem_append_right _ (List.mem_append_right _ (List.mem_append_right _ (List.mem_append_right _ (List.mem_append_right _ (List.mem_append_right _ (List.mem_append_right _ (List.mem_append_right _ (List.mem_append_right _ (List.mem_append_right _ (List.mem_append_right _ (List.mem_append_left _ h)))))))))))))))))))))))))))))))))))))))))))))))))))))))))
theorem wm_42_0 : Cond.constantLong RX11 293 (100) ∈ WL := wl_r42 _ (List.mem_of_getElem? (i := 0) rfl)
theorem wm_42_1 : Cond.methodLink RX11 295 Lib.Math.max.name ∈ WL := wl_r42 _ (List.mem_of_getElem? (i := 1) rfl)
theorem wm_42_2 : Cond.methodLink RX11 289 yX11_mayCome ∈ WL := wl_r42 _ (List.mem_of_getElem? (i := 2) rfl)
theorem wm_42_3 : Cond.instanceMethod yX11_mayCome ∈ WL := wl_r42 _ (List.mem_of_getElem? (i := 3) rfl)
theorem wm_42_4 : Cond.selects RX11 yX11_mayCome yX11_mayCome ∈ WL := wl_r42 _ (List.mem_of_getElem? (i := 4) rfl)
theorem wm_42_5 : Cond.code yX11_mayCome cX11_mayCome 6 none ∈ WL := wl_r42 _ (List.mem_of_getElem? (i := 5) rfl)
theorem wm_42_6 : Cond.methodLink RX11 300 yX11_commonDivisor ∈ WL := wl_r42 _ (List.mem_of_getElem? (i := 6) rfl)
theorem wm_42_7 : Cond.static yX11_commonDivisor ∈ WL := wl_r42 _ (List.mem_of_getElem? (i := 7) rfl)
theorem wm_42_8 : Cond.code yX11_commonDivisor cX11_commonDivisor 11 (some .long) ∈ WL := wl_r42 _ (List.mem_of_getElem? (i := 8) rfl)
theorem wm_42_9 : Cond.methodLink RL 99 yX12_crowd ∈ WL := wl_r42 _ (List.mem_of_getElem? (i := 9) rfl)
theorem wm_42_10 : Cond.instanceMethod yX12_crowd ∈ WL := wl_r42 _ (List.mem_of_getElem? (i := 10) rfl)
theorem wm_42_11 : Cond.selects RX12 yX12_crowd yX12_crowd ∈ WL := wl_r42 _ (List.mem_of_getElem? (i := 11) rfl)
theorem wm_42_12 : Cond.code yX12_crowd cX12_crowd 15 (some .long) ∈ WL := wl_r42 _ (List.mem_of_getElem? (i := 12) rfl)
theorem wm_42_13 : Cond.constantLong RX12 456 (-1) ∈ WL := wl_r42 _ (List.mem_of_getElem? (i := 13) rfl)
theorem wm_42_14 : Cond.constantLong RX12 458 (100) ∈ WL := wl_r42 _ (List.mem_of_getElem? (i := 14) rfl)
theorem wm_42_15 : Cond.methodLink RX12 460 yX12_common ∈ WL := wl_r42 _ (List.mem_of_getElem? (i := 15) rfl)
theorem wm_42_16 : Cond.static yX12_common ∈ WL := wl_r42 _ (List.mem_of_getElem? (i := 16) rfl)
theorem wm_42_17 : Cond.code yX12_common cX12_common 10 (some .long) ∈ WL := wl_r42 _ (List.mem_of_getElem? (i := 17) rfl)
theorem wm_42_18 : Cond.methodLink RL 100 yX11_late ∈ WL := wl_r42 _ (List.mem_of_getElem? (i := 18) rfl)
theorem wm_42_19 : Cond.instanceMethod yX11_late ∈ WL := wl_r42 _ (List.mem_of_getElem? (i := 19) rfl)
theorem wm_42_20 : Cond.selects RX11 yX11_late yX11_late ∈ WL := wl_r42 _ (List.mem_of_getElem? (i := 20) rfl)
theorem wm_42_21 : Cond.code yX11_late cX11_late 2 (some .int) ∈ WL := wl_r42 _ (List.mem_of_getElem? (i := 21) rfl)
theorem wm_42_22 : Cond.methodLink RX11 304 yX11_tryToday ∈ WL := wl_r42 _ (List.mem_of_getElem? (i := 22) rfl)
theorem wm_42_23 : Cond.instanceMethod yX11_tryToday ∈ WL := wl_r42 _ (List.mem_of_getElem? (i := 23) rfl)
theorem wl_r43 : ∀ w ∈ wsL_law0_r43, w ∈ WL := fun w h => wl_0 w (List.mem_append_left _ (List.mem_append_left _ (List.mem_append_left _ (List.mem_append_left _ (List.mem_append_left _ (List.mem_append_left _ (List.mem_append_left _ (List.mem_append_left _ (List.mem_append_left _ (List.mem_append_left _ (List.mem_append_left _ (List.mem_append_left _ (List.mem_append_left _ (List.mem_append_left _ ((List.mem_append_right _ (List.mem_append_right _ (List.mem_append_right _ (List.mem_append_right _ (List.mem_append_right _ (List.mem_append_right _ (List.mem_append_right _ (List.mem_append_right _ (List.mem_append_right _ (List.mem_append_right _ (List.mem_append_right _ (List.mem_append_right _ (List.mem_append_right _ (List.mem_append_right _ (List.mem_append_right _ (List.mem_append_right _ (List.mem_append_right _ (List.mem_append_right _ (List.mem_append_right _ (List.mem_append_right _ (List.mem_append_right _ (List.mem_append_right _ (List.mem_append_right _ (List.mem_append_right _ (List.mem_append_right _ (List.mem_append_right _ (List.mem_append_right _ (List.mem_append_right _ (List.mem_append_right _ (List.mem_append_right _ (List.mem_append_right _ (List.mem_append_right _ (List.mem_append_right _ (List.mem_append_right _ (List.mem_append_right _ (List.mem_append_right _ (List.mem_append_right _ (List.mem_append_right _ (List.mem_append_right _ (List.mem_append_right _ (List.mem_append_right _ (List.mem_append_right _ (List.mem_append_left _ h))))))))))))))))))))))))))))))))))))))))))))))))))))))))))
theorem wm_43_0 : Cond.selects RX11 yX11_tryToday yX11_tryToday ∈ WL := wl_r43 _ (List.mem_of_getElem? (i := 0) rfl)
theorem wm_43_1 : Cond.code yX11_tryToday cX11_tryToday 2 none ∈ WL := wl_r43 _ (List.mem_of_getElem? (i := 1) rfl)
theorem wm_43_2 : Cond.methodLink RX11 308 yX8_copy ∈ WL := wl_r43 _ (List.mem_of_getElem? (i := 2) rfl)
theorem wm_43_3 : Cond.instanceMethod yX8_copy ∈ WL := wl_r43 _ (List.mem_of_getElem? (i := 3) rfl)
theorem wm_43_4 : Cond.selects RX8 yX8_copy yX8_copy ∈ WL := wl_r43 _ (List.mem_of_getElem? (i := 4) rfl)
theorem wm_43_5 : Cond.code yX8_copy cX8_copy 2 none ∈ WL := wl_r43 _ (List.mem_of_getElem? (i := 5) rfl)
theorem wm_43_6 : Cond.methodLink RX8 80 arraycopyName ∈ WL := wl_r43 _ (List.mem_of_getElem? (i := 6) rfl)
theorem wm_43_7 : Cond.methodLink RL 103 yX12_late ∈ WL := wl_r43 _ (List.mem_of_getElem? (i := 7) rfl)
theorem wm_43_8 : Cond.instanceMethod yX12_late ∈ WL := wl_r43 _ (List.mem_of_getElem? (i := 8) rfl)
theorem wm_43_9 : Cond.selects RX12 yX12_late yX12_late ∈ WL := wl_r43 _ (List.mem_of_getElem? (i := 9) rfl)
theorem wm_43_10 : Cond.code yX12_late cX12_late 2 (some .int) ∈ WL := wl_r43 _ (List.mem_of_getElem? (i := 10) rfl)
theorem wm_43_11 : Cond.methodLink RX12 430 yX12_today ∈ WL := wl_r43 _ (List.mem_of_getElem? (i := 11) rfl)
theorem wm_43_12 : Cond.instanceMethod yX12_today ∈ WL := wl_r43 _ (List.mem_of_getElem? (i := 12) rfl)
theorem wm_43_13 : Cond.selects RX12 yX12_today yX12_today ∈ WL := wl_r43 _ (List.mem_of_getElem? (i := 13) rfl)
theorem wm_43_14 : Cond.code yX12_today cX12_today 1 none ∈ WL := wl_r43 _ (List.mem_of_getElem? (i := 14) rfl)
theorem wm_43_15 : Cond.methodLink RX12 463 yX12_lateIn ∈ WL := wl_r43 _ (List.mem_of_getElem? (i := 15) rfl)
theorem wm_43_16 : Cond.instanceMethod yX12_lateIn ∈ WL := wl_r43 _ (List.mem_of_getElem? (i := 16) rfl)
theorem wm_43_17 : Cond.selects RX12 yX12_lateIn yX12_lateIn ∈ WL := wl_r43 _ (List.mem_of_getElem? (i := 17) rfl)
theorem wm_43_18 : Cond.code yX12_lateIn cX12_lateIn 3 (some .int) ∈ WL := wl_r43 _ (List.mem_of_getElem? (i := 18) rfl)
theorem wm_43_19 : Cond.methodLink RL 104 yX11_catchUp ∈ WL := wl_r43 _ (List.mem_of_getElem? (i := 19) rfl)
theorem wm_43_20 : Cond.instanceMethod yX11_catchUp ∈ WL := wl_r43 _ (List.mem_of_getElem? (i := 20) rfl)
theorem wm_43_21 : Cond.selects RX11 yX11_catchUp yX11_catchUp ∈ WL := wl_r43 _ (List.mem_of_getElem? (i := 21) rfl)
theorem wm_43_22 : Cond.code yX11_catchUp cX11_catchUp 3 (some .int) ∈ WL := wl_r43 _ (List.mem_of_getElem? (i := 22) rfl)
theorem wm_43_23 : Cond.methodLink RL 107 yX12_catchUp ∈ WL := wl_r43 _ (List.mem_of_getElem? (i := 23) rfl)
theorem wl_r44 : ∀ w ∈ wsL_law0_r44, w ∈ WL := fun w h => wl_0 w (List.mem_append_left _ (List.mem_append_left _ (List.mem_append_left _ (List.mem_append_left _ (List.mem_append_left _ (List.mem_append_left _ (List.mem_append_left _ (List.mem_append_left _ (List.mem_append_left _ (List.mem_append_left _ (List.mem_append_left _ (List.mem_append_left _ (List.mem_append_left _ (List.mem_append_left _ ((List.mem_append_right _ (List.mem_append_right _ (List.mem_append_right _ (List.mem_append_right _ (List.mem_append_right _ (List.mem_append_right _ (List.mem_append_right _ (List.mem_append_right _ (List.mem_append_right _ (List.mem_append_right _ (List.mem_append_right _ (List.mem_append_right _ (List.mem_append_right _ (List.mem_append_right _ (List.mem_append_right _ (List.mem_append_right _ (List.mem_append_right _ (List.mem_append_right _ (List.mem_append_right _ (List.mem_append_right _ (List.mem_append_right _ (List.mem_append_right _ (List.mem_append_right _ (List.mem_append_right _ (List.mem_append_right _ (List.mem_append_right _ (List.mem_append_right _ (List.mem_append_right _ (List.mem_append_right _ (List.mem_append_right _ (List.mem_append_right _ (List.mem_append_right _ (List.mem_append_right _ (List.mem_append_right _ (List.mem_append_right _ (List.mem_append_right _ (List.mem_append_right _ (List.mem_append_right _ (List.mem_append_right _ (List.mem_append_right _ (List.mem_append_right _ (List.mem_append_right _ (List.mem_append_right _ (List.mem_append_left _ h)))))))))))))))))))))))))))))))))))))))))))))))))))))))))))
theorem wm_44_0 : Cond.instanceMethod yX12_catchUp ∈ WL := wl_r44 _ (List.mem_of_getElem? (i := 0) rfl)
theorem wm_44_1 : Cond.selects RX12 yX12_catchUp yX12_catchUp ∈ WL := wl_r44 _ (List.mem_of_getElem? (i := 1) rfl)
theorem wm_44_2 : Cond.code yX12_catchUp cX12_catchUp 3 (some .int) ∈ WL := wl_r44 _ (List.mem_of_getElem? (i := 2) rfl)
theorem wm_44_3 : Cond.methodLink RL 108 yX11_hands ∈ WL := wl_r44 _ (List.mem_of_getElem? (i := 3) rfl)
theorem wm_44_4 : Cond.instanceMethod yX11_hands ∈ WL := wl_r44 _ (List.mem_of_getElem? (i := 4) rfl)
theorem wm_44_5 : Cond.selects RX11 yX11_hands yX11_hands ∈ WL := wl_r44 _ (List.mem_of_getElem? (i := 5) rfl)
theorem wm_44_6 : Cond.code yX11_hands cX11_hands 2 (some .int) ∈ WL := wl_r44 _ (List.mem_of_getElem? (i := 6) rfl)
theorem wm_44_7 : Cond.methodLink RX11 312 yX10_reset ∈ WL := wl_r44 _ (List.mem_of_getElem? (i := 7) rfl)
theorem wm_44_8 : Cond.instanceMethod yX10_reset ∈ WL := wl_r44 _ (List.mem_of_getElem? (i := 8) rfl)
theorem wm_44_9 : Cond.selects RX10 yX10_reset yX10_reset ∈ WL := wl_r44 _ (List.mem_of_getElem? (i := 9) rfl)
theorem wm_44_10 : Cond.code yX10_reset cX10_reset 2 none ∈ WL := wl_r44 _ (List.mem_of_getElem? (i := 10) rfl)
theorem wm_44_11 : Cond.methodLink RX11 318 yX8_isAnyLate ∈ WL := wl_r44 _ (List.mem_of_getElem? (i := 11) rfl)
theorem wm_44_12 : Cond.instanceMethod yX8_isAnyLate ∈ WL := wl_r44 _ (List.mem_of_getElem? (i := 12) rfl)
theorem wm_44_13 : Cond.selects RX8 yX8_isAnyLate yX8_isAnyLate ∈ WL := wl_r44 _ (List.mem_of_getElem? (i := 13) rfl)
theorem wm_44_14 : Cond.code yX8_isAnyLate cX8_isAnyLate 3 (some .boolean) ∈ WL := wl_r44 _ (List.mem_of_getElem? (i := 14) rfl)
theorem wm_44_15 : Cond.methodLink RL 111 yX12_hands ∈ WL := wl_r44 _ (List.mem_of_getElem? (i := 15) rfl)
theorem wm_44_16 : Cond.instanceMethod yX12_hands ∈ WL := wl_r44 _ (List.mem_of_getElem? (i := 16) rfl)
theorem wm_44_17 : Cond.selects RX12 yX12_hands yX12_hands ∈ WL := wl_r44 _ (List.mem_of_getElem? (i := 17) rfl)
theorem wm_44_18 : Cond.code yX12_hands cX12_hands 3 (some .int) ∈ WL := wl_r44 _ (List.mem_of_getElem? (i := 18) rfl)
theorem wm_44_19 : Cond.methodLink RX12 466 yX12_isAnyLate ∈ WL := wl_r44 _ (List.mem_of_getElem? (i := 19) rfl)
theorem wm_44_20 : Cond.instanceMethod yX12_isAnyLate ∈ WL := wl_r44 _ (List.mem_of_getElem? (i := 20) rfl)
theorem wm_44_21 : Cond.selects RX12 yX12_isAnyLate yX12_isAnyLate ∈ WL := wl_r44 _ (List.mem_of_getElem? (i := 21) rfl)
theorem wm_44_22 : Cond.code yX12_isAnyLate cX12_isAnyLate 2 (some .boolean) ∈ WL := wl_r44 _ (List.mem_of_getElem? (i := 22) rfl)
theorem wm_44_23 : Cond.methodLink RL 112 yX11_empties ∈ WL := wl_r44 _ (List.mem_of_getElem? (i := 23) rfl)
theorem wl_r45 : ∀ w ∈ wsL_law0_r45, w ∈ WL := fun w h => wl_0 w (List.mem_append_left _ (List.mem_append_left _ (List.mem_append_left _ (List.mem_append_left _ (List.mem_append_left _ (List.mem_append_left _ (List.mem_append_left _ (List.mem_append_left _ (List.mem_append_left _ (List.mem_append_left _ (List.mem_append_left _ (List.mem_append_left _ (List.mem_append_left _ (List.mem_append_left _ ((List.mem_append_right _ (List.mem_append_right _ (List.mem_append_right _ (List.mem_append_right _ (List.mem_append_right _ (List.mem_append_right _ (List.mem_append_right _ (List.mem_append_right _ (List.mem_append_right _ (List.mem_append_right _ (List.mem_append_right _ (List.mem_append_right _ (List.mem_append_right _ (List.mem_append_right _ (List.mem_append_right _ (List.mem_append_right _ (List.mem_append_right _ (List.mem_append_right _ (List.mem_append_right _ (List.mem_append_right _ (List.mem_append_right _ (List.mem_append_right _ (List.mem_append_right _ (List.mem_append_right _ (List.mem_append_right _ (List.mem_append_right _ (List.mem_append_right _ (List.mem_append_right _ (List.mem_append_right _ (List.mem_append_right _ (List.mem_append_right _ (List.mem_append_right _ (List.mem_append_right _ (List.mem_append_right _ (List.mem_append_right _ (List.mem_append_right _ (List.mem_append_right _ (List.mem_append_right _ (List.mem_append_right _ (List.mem_append_right _ (List.mem_append_right _ (List.mem_append_right _ (List.mem_append_right _ (List.mem_append_right _ (List.mem_append_left _ h))))))))))))))))))))))))))))))))))))))))))))))))))))))))))))
theorem wm_45_0 : Cond.instanceMethod yX11_empties ∈ WL := wl_r45 _ (List.mem_of_getElem? (i := 0) rfl)
theorem wm_45_1 : Cond.selects RX11 yX11_empties yX11_empties ∈ WL := wl_r45 _ (List.mem_of_getElem? (i := 1) rfl)
theorem wm_45_2 : Cond.code yX11_empties cX11_empties 2 (some .int) ∈ WL := wl_r45 _ (List.mem_of_getElem? (i := 2) rfl)
theorem wm_45_3 : Cond.methodLink RL 115 yX12_empties ∈ WL := wl_r45 _ (List.mem_of_getElem? (i := 3) rfl)
theorem wm_45_4 : Cond.instanceMethod yX12_empties ∈ WL := wl_r45 _ (List.mem_of_getElem? (i := 4) rfl)
theorem wm_45_5 : Cond.selects RX12 yX12_empties yX12_empties ∈ WL := wl_r45 _ (List.mem_of_getElem? (i := 5) rfl)
theorem wm_45_6 : Cond.code yX12_empties cX12_empties 2 (some .int) ∈ WL := wl_r45 _ (List.mem_of_getElem? (i := 6) rfl)
theorem wm_45_7 : Cond.methodLink RL 116 yX11_likes ∈ WL := wl_r45 _ (List.mem_of_getElem? (i := 7) rfl)
theorem wm_45_8 : Cond.instanceMethod yX11_likes ∈ WL := wl_r45 _ (List.mem_of_getElem? (i := 8) rfl)
theorem wm_45_9 : Cond.selects RX11 yX11_likes yX11_likes ∈ WL := wl_r45 _ (List.mem_of_getElem? (i := 9) rfl)
theorem wm_45_10 : Cond.code yX11_likes cX11_likes 3 (some .int) ∈ WL := wl_r45 _ (List.mem_of_getElem? (i := 10) rfl)
theorem wm_45_11 : Cond.methodLink RL 119 yX12_likes ∈ WL := wl_r45 _ (List.mem_of_getElem? (i := 11) rfl)
theorem wm_45_12 : Cond.instanceMethod yX12_likes ∈ WL := wl_r45 _ (List.mem_of_getElem? (i := 12) rfl)
theorem wm_45_13 : Cond.selects RX12 yX12_likes yX12_likes ∈ WL := wl_r45 _ (List.mem_of_getElem? (i := 13) rfl)
theorem wm_45_14 : Cond.code yX12_likes cX12_likes 3 (some .int) ∈ WL := wl_r45 _ (List.mem_of_getElem? (i := 14) rfl)
theorem wm_45_15 : Cond.methodLink RL 120 yX11_stays ∈ WL := wl_r45 _ (List.mem_of_getElem? (i := 15) rfl)
theorem wm_45_16 : Cond.instanceMethod yX11_stays ∈ WL := wl_r45 _ (List.mem_of_getElem? (i := 16) rfl)
theorem wm_45_17 : Cond.selects RX11 yX11_stays yX11_stays ∈ WL := wl_r45 _ (List.mem_of_getElem? (i := 17) rfl)
theorem wm_45_18 : Cond.code yX11_stays cX11_stays 3 (some .int) ∈ WL := wl_r45 _ (List.mem_of_getElem? (i := 18) rfl)
theorem wm_45_19 : Cond.methodLink RL 123 yX12_stays ∈ WL := wl_r45 _ (List.mem_of_getElem? (i := 19) rfl)
theorem wm_45_20 : Cond.instanceMethod yX12_stays ∈ WL := wl_r45 _ (List.mem_of_getElem? (i := 20) rfl)
theorem wm_45_21 : Cond.selects RX12 yX12_stays yX12_stays ∈ WL := wl_r45 _ (List.mem_of_getElem? (i := 21) rfl)
theorem wm_45_22 : Cond.code yX12_stays cX12_stays 3 (some .int) ∈ WL := wl_r45 _ (List.mem_of_getElem? (i := 22) rfl)
theorem wm_45_23 : Cond.methodLink RL 124 yX11_misses ∈ WL := wl_r45 _ (List.mem_of_getElem? (i := 23) rfl)
theorem wl_r46 : ∀ w ∈ wsL_law0_r46, w ∈ WL := fun w h => wl_0 w (List.mem_append_left _ (List.mem_append_left _ (List.mem_append_left _ (List.mem_append_left _ (List.mem_append_left _ (List.mem_append_left _ (List.mem_append_left _ (List.mem_append_left _ (List.mem_append_left _ (List.mem_append_left _ (List.mem_append_left _ (List.mem_append_left _ (List.mem_append_left _ (List.mem_append_left _ ((List.mem_append_right _ (List.mem_append_right _ (List.mem_append_right _ (List.mem_append_right _ (List.mem_append_right _ (List.mem_append_right _ (List.mem_append_right _ (List.mem_append_right _ (List.mem_append_right _ (List.mem_append_right _ (List.mem_append_right _ (List.mem_append_right _ (List.mem_append_right _ (List.mem_append_right _ (List.mem_append_right _ (List.mem_append_right _ (List.mem_append_right _ (List.mem_append_right _ (List.mem_append_right _ (List.mem_append_right _ (List.mem_append_right _ (List.mem_append_right _ (List.mem_append_right _ (List.mem_append_right _ (List.mem_append_right _ (List.mem_append_right _ (List.mem_append_right _ (List.mem_append_right _ (List.mem_append_right _ (List.mem_append_right _ (List.mem_append_right _ (List.mem_append_right _ (List.mem_append_right _ (List.mem_append_right _ (List.mem_append_right _ (List.mem_append_right _ (List.mem_append_right _ (List.mem_append_right _ (List.mem_append_right _ (List.mem_append_right _ (List.mem_append_right _ (List.mem_append_right _ (List.mem_append_right _ (List.mem_append_right _ (List.mem_append_right _ (List.mem_append_left _ h)))))))))))))))))))))))))))))))))))))))))))))))))))))))))))))
theorem wm_46_0 : Cond.instanceMethod yX11_misses ∈ WL := wl_r46 _ (List.mem_of_getElem? (i := 0) rfl)
theorem wm_46_1 : Cond.selects RX11 yX11_misses yX11_misses ∈ WL := wl_r46 _ (List.mem_of_getElem? (i := 1) rfl)
theorem wm_46_2 : Cond.code yX11_misses cX11_misses 3 (some .int) ∈ WL := wl_r46 _ (List.mem_of_getElem? (i := 2) rfl)
theorem wm_46_3 : Cond.methodLink RL 127 yX12_misses ∈ WL := wl_r46 _ (List.mem_of_getElem? (i := 3) rfl)
theorem wm_46_4 : Cond.instanceMethod yX12_misses ∈ WL := wl_r46 _ (List.mem_of_getElem? (i := 4) rfl)
theorem wm_46_5 : Cond.selects RX12 yX12_misses yX12_misses ∈ WL := wl_r46 _ (List.mem_of_getElem? (i := 5) rfl)
theorem wm_46_6 : Cond.code yX12_misses cX12_misses 3 (some .int) ∈ WL := wl_r46 _ (List.mem_of_getElem? (i := 6) rfl)
theorem wm_46_7 : Cond.methodLink RL 128 yX11_mostCross ∈ WL := wl_r46 _ (List.mem_of_getElem? (i := 7) rfl)
theorem wm_46_8 : Cond.instanceMethod yX11_mostCross ∈ WL := wl_r46 _ (List.mem_of_getElem? (i := 8) rfl)
theorem wm_46_9 : Cond.selects RX11 yX11_mostCross yX11_mostCross ∈ WL := wl_r46 _ (List.mem_of_getElem? (i := 9) rfl)
theorem wm_46_10 : Cond.code yX11_mostCross cX11_mostCross 4 (some .int) ∈ WL := wl_r46 _ (List.mem_of_getElem? (i := 10) rfl)
theorem wm_46_11 : Cond.methodLink RL 131 yX12_mostCross ∈ WL := wl_r46 _ (List.mem_of_getElem? (i := 11) rfl)
theorem wm_46_12 : Cond.instanceMethod yX12_mostCross ∈ WL := wl_r46 _ (List.mem_of_getElem? (i := 12) rfl)
theorem wm_46_13 : Cond.selects RX12 yX12_mostCross yX12_mostCross ∈ WL := wl_r46 _ (List.mem_of_getElem? (i := 13) rfl)
theorem wm_46_14 : Cond.code yX12_mostCross cX12_mostCross 4 (some .int) ∈ WL := wl_r46 _ (List.mem_of_getElem? (i := 14) rfl)
theorem wm_46_15 : Cond.methodLink RL 132 yX11_without ∈ WL := wl_r46 _ (List.mem_of_getElem? (i := 15) rfl)
theorem wm_46_16 : Cond.instanceMethod yX11_without ∈ WL := wl_r46 _ (List.mem_of_getElem? (i := 16) rfl)
theorem wm_46_17 : Cond.selects RX11 yX11_without yX11_without ∈ WL := wl_r46 _ (List.mem_of_getElem? (i := 17) rfl)
theorem wm_46_18 : Cond.code yX11_without cX11_without 1 (some .int) ∈ WL := wl_r46 _ (List.mem_of_getElem? (i := 18) rfl)
theorem wm_46_19 : Cond.methodLink RL 135 yX12_without ∈ WL := wl_r46 _ (List.mem_of_getElem? (i := 19) rfl)
theorem wm_46_20 : Cond.instanceMethod yX12_without ∈ WL := wl_r46 _ (List.mem_of_getElem? (i := 20) rfl)
theorem wm_46_21 : Cond.selects RX12 yX12_without yX12_without ∈ WL := wl_r46 _ (List.mem_of_getElem? (i := 21) rfl)
theorem wm_46_22 : Cond.code yX12_without cX12_without 1 (some .int) ∈ WL := wl_r46 _ (List.mem_of_getElem? (i := 22) rfl)
theorem wm_46_23 : Cond.methodLink RL 136 yX11_swap ∈ WL := wl_r46 _ (List.mem_of_getElem? (i := 23) rfl)
theorem wl_r47 : ∀ w ∈ wsL_law0_r47, w ∈ WL := fun w h => wl_0 w (List.mem_append_left _ (List.mem_append_left _ (List.mem_append_left _ (List.mem_append_left _ (List.mem_append_left _ (List.mem_append_left _ (List.mem_append_left _ (List.mem_append_left _ (List.mem_append_left _ (List.mem_append_left _ (List.mem_append_left _ (List.mem_append_left _ (List.mem_append_left _ (List.mem_append_left _ ((List.mem_append_right _ (List.mem_append_right _ (List.mem_append_right _ (List.mem_append_right _ (List.mem_append_right _ (List.mem_append_right _ (List.mem_append_right _ (List.mem_append_right _ (List.mem_append_right _ (List.mem_append_right _ (List.mem_append_right _ (List.mem_append_right _ (List.mem_append_right _ (List.mem_append_right _ (List.mem_append_right _ (List.mem_append_right _ (List.mem_append_right _ (List.mem_append_right _ (List.mem_append_right _ (List.mem_append_right _ (List.mem_append_right _ (List.mem_append_right _ (List.mem_append_right _ (List.mem_append_right _ (List.mem_append_right _ (List.mem_append_right _ (List.mem_append_right _ (List.mem_append_right _ (List.mem_append_right _ (List.mem_append_right _ (List.mem_append_right _ (List.mem_append_right _ (List.mem_append_right _ (List.mem_append_right _ (List.mem_append_right _ (List.mem_append_right _ (List.mem_append_right _ (List.mem_append_right _ (List.mem_append_right _ (List.mem_append_right _ (List.mem_append_right _ (List.mem_append_right _ (List.mem_append_right _ (List.mem_append_right _ (List.mem_append_right _ (List.mem_append_right _ (List.mem_append_left _ h))))))))))))))))))))))))))))))))))))))))))))))))))))))))))))))
theorem wm_47_0 : Cond.instanceMethod yX11_swap ∈ WL := wl_r47 _ (List.mem_of_getElem? (i := 0) rfl)
theorem wm_47_1 : Cond.selects RX11 yX11_swap yX11_swap ∈ WL := wl_r47 _ (List.mem_of_getElem? (i := 1) rfl)
theorem wm_47_2 : Cond.code yX11_swap cX11_swap 4 (some .int) ∈ WL := wl_r47 _ (List.mem_of_getElem? (i := 2) rfl)
theorem wm_47_3 : Cond.methodLink RX11 321 yX11_wouldSwap ∈ WL := wl_r47 _ (List.mem_of_getElem? (i := 3) rfl)
theorem wm_47_4 : Cond.instanceMethod yX11_wouldSwap ∈ WL := wl_r47 _ (List.mem_of_getElem? (i := 4) rfl)
theorem wm_47_5 : Cond.selects RX11 yX11_wouldSwap yX11_wouldSwap ∈ WL := wl_r47 _ (List.mem_of_getElem? (i := 5) rfl)
theorem wm_47_6 : Cond.code yX11_wouldSwap cX11_wouldSwap 6 (some .boolean) ∈ WL := wl_r47 _ (List.mem_of_getElem? (i := 6) rfl)
theorem wm_47_7 : Cond.methodLink RL 139 yX12_swap ∈ WL := wl_r47 _ (List.mem_of_getElem? (i := 7) rfl)
theorem wm_47_8 : Cond.instanceMethod yX12_swap ∈ WL := wl_r47 _ (List.mem_of_getElem? (i := 8) rfl)
theorem wm_47_9 : Cond.selects RX12 yX12_swap yX12_swap ∈ WL := wl_r47 _ (List.mem_of_getElem? (i := 9) rfl)
theorem wm_47_10 : Cond.code yX12_swap cX12_swap 4 (some .int) ∈ WL := wl_r47 _ (List.mem_of_getElem? (i := 10) rfl)
theorem wm_47_11 : Cond.methodLink RX12 469 yX12_gains ∈ WL := wl_r47 _ (List.mem_of_getElem? (i := 11) rfl)
theorem wm_47_12 : Cond.instanceMethod yX12_gains ∈ WL := wl_r47 _ (List.mem_of_getElem? (i := 12) rfl)
theorem wm_47_13 : Cond.selects RX12 yX12_gains yX12_gains ∈ WL := wl_r47 _ (List.mem_of_getElem? (i := 13) rfl)
theorem wm_47_14 : Cond.code yX12_gains cX12_gains 4 (some .boolean) ∈ WL := wl_r47 _ (List.mem_of_getElem? (i := 14) rfl)
theorem wm_47_15 : Cond.methodLink RX12 472 yX12_fits ∈ WL := wl_r47 _ (List.mem_of_getElem? (i := 15) rfl)
theorem wm_47_16 : Cond.instanceMethod yX12_fits ∈ WL := wl_r47 _ (List.mem_of_getElem? (i := 16) rfl)
theorem wm_47_17 : Cond.selects RX12 yX12_fits yX12_fits ∈ WL := wl_r47 _ (List.mem_of_getElem? (i := 17) rfl)
theorem wm_47_18 : Cond.code yX12_fits cX12_fits 4 (some .boolean) ∈ WL := wl_r47 _ (List.mem_of_getElem? (i := 18) rfl)
theorem wm_47_19 : Cond.methodLink RL 140 yX11_later ∈ WL := wl_r47 _ (List.mem_of_getElem? (i := 19) rfl)
theorem wm_47_20 : Cond.instanceMethod yX11_later ∈ WL := wl_r47 _ (List.mem_of_getElem? (i := 20) rfl)
theorem wm_47_21 : Cond.selects RX11 yX11_later yX11_later ∈ WL := wl_r47 _ (List.mem_of_getElem? (i := 21) rfl)
theorem wm_47_22 : Cond.code yX11_later cX11_later 3 (some .int) ∈ WL := wl_r47 _ (List.mem_of_getElem? (i := 22) rfl)
theorem wm_47_23 : Cond.methodLink RL 143 yX12_later ∈ WL := wl_r47 _ (List.mem_of_getElem? (i := 23) rfl)
theorem wl_r48 : ∀ w ∈ wsL_law0_r48, w ∈ WL := fun w h => wl_0 w (List.mem_append_left _ (List.mem_append_left _ (List.mem_append_left _ (List.mem_append_left _ (List.mem_append_left _ (List.mem_append_left _ (List.mem_append_left _ (List.mem_append_left _ (List.mem_append_left _ (List.mem_append_left _ (List.mem_append_left _ (List.mem_append_left _ (List.mem_append_left _ (List.mem_append_left _ ((List.mem_append_right _ (List.mem_append_right _ (List.mem_append_right _ (List.mem_append_right _ (List.mem_append_right _ (List.mem_append_right _ (List.mem_append_right _ (List.mem_append_right _ (List.mem_append_right _ (List.mem_append_right _ (List.mem_append_right _ (List.mem_append_right _ (List.mem_append_right _ (List.mem_append_right _ (List.mem_append_right _ (List.mem_append_right _ (List.mem_append_right _ (List.mem_append_right _ (List.mem_append_right _ (List.mem_append_right _ (List.mem_append_right _ (List.mem_append_right _ (List.mem_append_right _ (List.mem_append_right _ (List.mem_append_right _ (List.mem_append_right _ (List.mem_append_right _ (List.mem_append_right _ (List.mem_append_right _ (List.mem_append_right _ (List.mem_append_right _ (List.mem_append_right _ (List.mem_append_right _ (List.mem_append_right _ (List.mem_append_right _ (List.mem_append_right _ (List.mem_append_right _ (List.mem_append_right _ (List.mem_append_right _ (List.mem_append_right _ (List.mem_append_right _ (List.mem_append_right _ (List.mem_append_right _ (List.mem_append_right _ (List.mem_append_right _ (List.mem_append_right _ (List.mem_append_right _ (List.mem_append_left _ h)))))))))))))))))))))))))))))))))))))))))))))))))))))))))))))))
theorem wm_48_0 : Cond.instanceMethod yX12_later ∈ WL := wl_r48 _ (List.mem_of_getElem? (i := 0) rfl)
theorem wm_48_1 : Cond.selects RX12 yX12_later yX12_later ∈ WL := wl_r48 _ (List.mem_of_getElem? (i := 1) rfl)
theorem wm_48_2 : Cond.code yX12_later cX12_later 4 (some .int) ∈ WL := wl_r48 _ (List.mem_of_getElem? (i := 2) rfl)
theorem wm_48_3 : Cond.methodLink RL 144 yX11_rests ∈ WL := wl_r48 _ (List.mem_of_getElem? (i := 3) rfl)
theorem wm_48_4 : Cond.instanceMethod yX11_rests ∈ WL := wl_r48 _ (List.mem_of_getElem? (i := 4) rfl)
theorem wm_48_5 : Cond.selects RX11 yX11_rests yX11_rests ∈ WL := wl_r48 _ (List.mem_of_getElem? (i := 5) rfl)
theorem wm_48_6 : Cond.code yX11_rests cX11_rests 5 (some .int) ∈ WL := wl_r48 _ (List.mem_of_getElem? (i := 6) rfl)
theorem wm_48_7 : Cond.methodLink RX11 327 yX11_areTwo ∈ WL := wl_r48 _ (List.mem_of_getElem? (i := 7) rfl)
theorem wm_48_8 : Cond.instanceMethod yX11_areTwo ∈ WL := wl_r48 _ (List.mem_of_getElem? (i := 8) rfl)
theorem wm_48_9 : Cond.selects RX11 yX11_areTwo yX11_areTwo ∈ WL := wl_r48 _ (List.mem_of_getElem? (i := 9) rfl)
theorem wm_48_10 : Cond.code yX11_areTwo cX11_areTwo 3 (some .boolean) ∈ WL := wl_r48 _ (List.mem_of_getElem? (i := 10) rfl)
theorem wm_48_11 : Cond.methodLink RX11 330 yX11_isRest ∈ WL := wl_r48 _ (List.mem_of_getElem? (i := 11) rfl)
theorem wm_48_12 : Cond.static yX11_isRest ∈ WL := wl_r48 _ (List.mem_of_getElem? (i := 12) rfl)
theorem wm_48_13 : Cond.code yX11_isRest cX11_isRest 4 (some .boolean) ∈ WL := wl_r48 _ (List.mem_of_getElem? (i := 13) rfl)
theorem wm_48_14 : Cond.methodLink RX11 334 yX11_gain ∈ WL := wl_r48 _ (List.mem_of_getElem? (i := 14) rfl)
theorem wm_48_15 : Cond.static yX11_gain ∈ WL := wl_r48 _ (List.mem_of_getElem? (i := 15) rfl)
theorem wm_48_16 : Cond.code yX11_gain cX11_gain 4 (some .int) ∈ WL := wl_r48 _ (List.mem_of_getElem? (i := 16) rfl)
theorem wm_48_17 : Cond.methodLink RL 147 yX12_rests ∈ WL := wl_r48 _ (List.mem_of_getElem? (i := 17) rfl)
theorem wm_48_18 : Cond.instanceMethod yX12_rests ∈ WL := wl_r48 _ (List.mem_of_getElem? (i := 18) rfl)
theorem wm_48_19 : Cond.selects RX12 yX12_rests yX12_rests ∈ WL := wl_r48 _ (List.mem_of_getElem? (i := 19) rfl)
theorem wm_48_20 : Cond.code yX12_rests cX12_rests 3 (some .int) ∈ WL := wl_r48 _ (List.mem_of_getElem? (i := 20) rfl)
theorem wm_48_21 : Cond.methodLink RX12 482 yX12_areTwo ∈ WL := wl_r48 _ (List.mem_of_getElem? (i := 21) rfl)
theorem wm_48_22 : Cond.instanceMethod yX12_areTwo ∈ WL := wl_r48 _ (List.mem_of_getElem? (i := 22) rfl)
theorem wm_48_23 : Cond.selects RX12 yX12_areTwo yX12_areTwo ∈ WL := wl_r48 _ (List.mem_of_getElem? (i := 23) rfl)
theorem wl_r49 : ∀ w ∈ wsL_law0_r49, w ∈ WL := fun w h => wl_0 w (List.mem_append_left _ (List.mem_append_left _ (List.mem_append_left _ (List.mem_append_left _ (List.mem_append_left _ (List.mem_append_left _ (List.mem_append_left _ (List.mem_append_left _ (List.mem_append_left _ (List.mem_append_left _ (List.mem_append_left _ (List.mem_append_left _ (List.mem_append_left _ (List.mem_append_left _ ((List.mem_append_right _ (List.mem_append_right _ (List.mem_append_right _ (List.mem_append_right _ (List.mem_append_right _ (List.mem_append_right _ (List.mem_append_right _ (List.mem_append_right _ (List.mem_append_right _ (List.mem_append_right _ (List.mem_append_right _ (List.mem_append_right _ (List.mem_append_right _ (List.mem_append_right _ (List.mem_append_right _ (List.mem_append_right _ (List.mem_append_right _ (List.mem_append_right _ (List.mem_append_right _ (List.mem_append_right _ (List.mem_append_right _ (List.mem_append_right _ (List.mem_append_right _ (List.mem_append_right _ (List.mem_append_right _ (List.mem_append_right _ (List.mem_append_right _ (List.mem_append_right _ (List.mem_append_right _ (List.mem_append_right _ (List.mem_append_right _ (List.mem_append_right _ (List.mem_append_right _ (List.mem_append_right _ (List.mem_append_right _ (List.mem_append_right _ (List.mem_append_right _ (List.mem_append_right _ (List.mem_append_right _ (List.mem_append_right _ (List.mem_append_right _ (List.mem_append_right _ (List.mem_append_right _ (List.mem_append_right _ (List.mem_append_right _ (List.mem_append_right _ (List.mem_append_right _ (List.mem_append_right _ (List.mem_append_left _ h))))))))))))))))))))))))))))))))))))))))))))))))))))))))))))))))
theorem wm_49_0 : Cond.code yX12_areTwo cX12_areTwo 3 (some .boolean) ∈ WL := wl_r49 _ (List.mem_of_getElem? (i := 0) rfl)
theorem wm_49_1 : Cond.methodLink RX12 485 yX12_restOf ∈ WL := wl_r49 _ (List.mem_of_getElem? (i := 1) rfl)
theorem wm_49_2 : Cond.instanceMethod yX12_restOf ∈ WL := wl_r49 _ (List.mem_of_getElem? (i := 2) rfl)
theorem wm_49_3 : Cond.selects RX12 yX12_restOf yX12_restOf ∈ WL := wl_r49 _ (List.mem_of_getElem? (i := 3) rfl)
theorem wm_49_4 : Cond.code yX12_restOf cX12_restOf 6 (some .int) ∈ WL := wl_r49 _ (List.mem_of_getElem? (i := 4) rfl)
theorem wm_49_5 : Cond.methodLink RX12 478 yX12_isRest ∈ WL := wl_r49 _ (List.mem_of_getElem? (i := 5) rfl)
theorem wm_49_6 : Cond.instanceMethod yX12_isRest ∈ WL := wl_r49 _ (List.mem_of_getElem? (i := 6) rfl)
theorem wm_49_7 : Cond.selects RX12 yX12_isRest yX12_isRest ∈ WL := wl_r49 _ (List.mem_of_getElem? (i := 7) rfl)
theorem wm_49_8 : Cond.code yX12_isRest cX12_isRest 7 (some .boolean) ∈ WL := wl_r49 _ (List.mem_of_getElem? (i := 8) rfl)
theorem wm_49_9 : Cond.methodLink RX12 475 yX12_has ∈ WL := wl_r49 _ (List.mem_of_getElem? (i := 9) rfl)
theorem wm_49_10 : Cond.instanceMethod yX12_has ∈ WL := wl_r49 _ (List.mem_of_getElem? (i := 10) rfl)
theorem wm_49_11 : Cond.selects RX12 yX12_has yX12_has ∈ WL := wl_r49 _ (List.mem_of_getElem? (i := 11) rfl)
theorem wm_49_12 : Cond.code yX12_has cX12_has 5 (some .int) ∈ WL := wl_r49 _ (List.mem_of_getElem? (i := 12) rfl)
theorem wm_49_13 : Cond.methodLink RL 148 yX11_rest ∈ WL := wl_r49 _ (List.mem_of_getElem? (i := 13) rfl)
theorem wm_49_14 : Cond.instanceMethod yX11_rest ∈ WL := wl_r49 _ (List.mem_of_getElem? (i := 14) rfl)
theorem wm_49_15 : Cond.selects RX11 yX11_rest yX11_rest ∈ WL := wl_r49 _ (List.mem_of_getElem? (i := 15) rfl)
theorem wm_49_16 : Cond.code yX11_rest cX11_rest 6 (some .int) ∈ WL := wl_r49 _ (List.mem_of_getElem? (i := 16) rfl)
theorem wm_49_17 : Cond.methodLink RL 152 yX12_rest ∈ WL := wl_r49 _ (List.mem_of_getElem? (i := 17) rfl)
theorem wm_49_18 : Cond.instanceMethod yX12_rest ∈ WL := wl_r49 _ (List.mem_of_getElem? (i := 18) rfl)
theorem wm_49_19 : Cond.selects RX12 yX12_rest yX12_rest ∈ WL := wl_r49 _ (List.mem_of_getElem? (i := 19) rfl)
theorem wm_49_20 : Cond.code yX12_rest cX12_rest 4 (some .int) ∈ WL := wl_r49 _ (List.mem_of_getElem? (i := 20) rfl)
theorem wm_49_21 : Cond.methodLink RL 153 yX11_note ∈ WL := wl_r49 _ (List.mem_of_getElem? (i := 21) rfl)
theorem wm_49_22 : Cond.instanceMethod yX11_note ∈ WL := wl_r49 _ (List.mem_of_getElem? (i := 22) rfl)
theorem wm_49_23 : Cond.selects RX11 yX11_note yX11_note ∈ WL := wl_r49 _ (List.mem_of_getElem? (i := 23) rfl)
theorem wl_r50 : ∀ w ∈ wsL_law0_r50, w ∈ WL := fun w h => wl_0 w (List.mem_append_left _ (List.mem_append_left _ (List.mem_append_left _ (List.mem_append_left _ (List.mem_append_left _ (List.mem_append_left _ (List.mem_append_left _ (List.mem_append_left _ (List.mem_append_left _ (List.mem_append_left _ (List.mem_append_left _ (List.mem_append_left _ (List.mem_append_left _ (List.mem_append_left _ ((List.mem_append_right _ (List.mem_append_right _ (List.mem_append_right _ (List.mem_append_right _ (List.mem_append_right _ (List.mem_append_right _ (List.mem_append_right _ (List.mem_append_right _ (List.mem_append_right _ (List.mem_append_right _ (List.mem_append_right _ (List.mem_append_right _ (List.mem_append_right _ (List.mem_append_right _ (List.mem_append_right _ (List.mem_append_right _ (List.mem_append_right _ (List.mem_append_right _ (List.mem_append_right _ (List.mem_append_right _ (List.mem_append_right _ (List.mem_append_right _ (List.mem_append_right _ (List.mem_append_right _ (List.mem_append_right _ (List.mem_append_right _ (List.mem_append_right _ (List.mem_append_right _ (List.mem_append_right _ (List.mem_append_right _ (List.mem_append_right _ (List.mem_append_right _ (List.mem_append_right _ (List.mem_append_right _ (List.mem_append_right _ (List.mem_append_right _ (List.mem_append_right _ (List.mem_append_right _ (List.mem_append_right _ (List.mem_append_right _ (List.mem_append_right _ (List.mem_append_right _ (List.mem_append_right _ (List.mem_append_right _ (List.mem_append_right _ (List.mem_append_right _ (List.mem_append_right _ (List.mem_append_right _ (List.mem_append_right _ (List.mem_append_left _ h)))))))))))))))))))))))))))))))))))))))))))))))))))))))))))))))))
theorem wm_50_0 : Cond.code yX11_note cX11_note 4 (some .int) ∈ WL := wl_r50 _ (List.mem_of_getElem? (i := 0) rfl)
theorem wm_50_1 : Cond.methodLink RX11 338 yX5_add ∈ WL := wl_r50 _ (List.mem_of_getElem? (i := 1) rfl)
theorem wm_50_2 : Cond.instanceMethod yX5_add ∈ WL := wl_r50 _ (List.mem_of_getElem? (i := 2) rfl)
theorem wm_50_3 : Cond.selects RX5 yX5_add yX5_add ∈ WL := wl_r50 _ (List.mem_of_getElem? (i := 3) rfl)
theorem wm_50_4 : Cond.code yX5_add cX5_add 4 (some .int) ∈ WL := wl_r50 _ (List.mem_of_getElem? (i := 4) rfl)
theorem wm_50_5 : Cond.methodLink RL 157 yX12_note ∈ WL := wl_r50 _ (List.mem_of_getElem? (i := 5) rfl)
theorem wm_50_6 : Cond.instanceMethod yX12_note ∈ WL := wl_r50 _ (List.mem_of_getElem? (i := 6) rfl)
theorem wm_50_7 : Cond.selects RX12 yX12_note yX12_note ∈ WL := wl_r50 _ (List.mem_of_getElem? (i := 7) rfl)
theorem wm_50_8 : Cond.code yX12_note cX12_note 4 (some .int) ∈ WL := wl_r50 _ (List.mem_of_getElem? (i := 8) rfl)
theorem wm_50_9 : Cond.methodLink RL 158 yX11_out ∈ WL := wl_r50 _ (List.mem_of_getElem? (i := 9) rfl)
theorem wm_50_10 : Cond.instanceMethod yX11_out ∈ WL := wl_r50 _ (List.mem_of_getElem? (i := 10) rfl)
theorem wm_50_11 : Cond.selects RX11 yX11_out yX11_out ∈ WL := wl_r50 _ (List.mem_of_getElem? (i := 11) rfl)
theorem wm_50_12 : Cond.code yX11_out cX11_out 2 (some .int) ∈ WL := wl_r50 _ (List.mem_of_getElem? (i := 12) rfl)
theorem wm_50_13 : Cond.methodLink RX11 341 yX5_has ∈ WL := wl_r50 _ (List.mem_of_getElem? (i := 13) rfl)
theorem wm_50_14 : Cond.instanceMethod yX5_has ∈ WL := wl_r50 _ (List.mem_of_getElem? (i := 14) rfl)
theorem wm_50_15 : Cond.selects RX5 yX5_has yX5_has ∈ WL := wl_r50 _ (List.mem_of_getElem? (i := 15) rfl)
theorem wm_50_16 : Cond.code yX5_has cX5_has 2 (some .boolean) ∈ WL := wl_r50 _ (List.mem_of_getElem? (i := 16) rfl)
theorem wm_50_17 : Cond.methodLink RL 161 yX12_out ∈ WL := wl_r50 _ (List.mem_of_getElem? (i := 17) rfl)
theorem wm_50_18 : Cond.instanceMethod yX12_out ∈ WL := wl_r50 _ (List.mem_of_getElem? (i := 18) rfl)
theorem wm_50_19 : Cond.selects RX12 yX12_out yX12_out ∈ WL := wl_r50 _ (List.mem_of_getElem? (i := 19) rfl)
theorem wm_50_20 : Cond.code yX12_out cX12_out 2 (some .int) ∈ WL := wl_r50 _ (List.mem_of_getElem? (i := 20) rfl)
theorem wm_50_21 : Cond.methodLink RL 162 yX11_known ∈ WL := wl_r50 _ (List.mem_of_getElem? (i := 21) rfl)
theorem wm_50_22 : Cond.instanceMethod yX11_known ∈ WL := wl_r50 _ (List.mem_of_getElem? (i := 22) rfl)
theorem wm_50_23 : Cond.selects RX11 yX11_known yX11_known ∈ WL := wl_r50 _ (List.mem_of_getElem? (i := 23) rfl)
theorem wl_r51 : ∀ w ∈ wsL_law0_r51, w ∈ WL := fun w h => wl_0 w (List.mem_append_left _ (List.mem_append_left _ (List.mem_append_left _ (List.mem_append_left _ (List.mem_append_left _ (List.mem_append_left _ (List.mem_append_left _ (List.mem_append_left _ (List.mem_append_left _ (List.mem_append_left _ (List.mem_append_left _ (List.mem_append_left _ (List.mem_append_left _ (List.mem_append_left _ ((List.mem_append_right _ (List.mem_append_right _ (List.mem_append_right _ (List.mem_append_right _ (List.mem_append_right _ (List.mem_append_right _ (List.mem_append_right _ (List.mem_append_right _ (List.mem_append_right _ (List.mem_append_right _ (List.mem_append_right _ (List.mem_append_right _ (List.mem_append_right _ (List.mem_append_right _ (List.mem_append_right _ (List.mem_append_right _ (List.mem_append_right _ (List.mem_append_right _ (List.mem_append_right _ (List.mem_append_right _ (List.mem_append_right _ (List.mem_append_right _ (List.mem_append_right _ (List.mem_append_right _ (List.mem_append_right _ (List.mem_append_right _ (List.mem_append_right _ (List.mem_append_right _ (List.mem_append_right _ (List.mem_append_right _ (List.mem_append_right _ (List.mem_append_right _ (List.mem_append_right _ (List.mem_append_right _ (List.mem_append_right _ (List.mem_append_right _ (List.mem_append_right _ (List.mem_append_right _ (List.mem_append_right _ (List.mem_append_right _ (List.mem_append_right _ (List.mem_append_right _ (List.mem_append_right _ (List.mem_append_right _ (List.mem_append_right _ (List.mem_append_right _ (List.mem_append_right _ (List.mem_append_right _ (List.mem_append_right _ (List.mem_append_right _ (List.mem_append_left _ h))))))))))))))))))))))))))))))))))))))))))))))))))))))))))))))))))
theorem wm_51_0 : Cond.code yX11_known cX11_known 2 (some .boolean) ∈ WL := wl_r51 _ (List.mem_of_getElem? (i := 0) rfl)
theorem wm_51_1 : Cond.methodLink RL 166 yX12_known ∈ WL := wl_r51 _ (List.mem_of_getElem? (i := 1) rfl)
theorem wm_51_2 : Cond.instanceMethod yX12_known ∈ WL := wl_r51 _ (List.mem_of_getElem? (i := 2) rfl)
theorem wm_51_3 : Cond.selects RX12 yX12_known yX12_known ∈ WL := wl_r51 _ (List.mem_of_getElem? (i := 3) rfl)
theorem wm_51_4 : Cond.code yX12_known cX12_known 2 (some .boolean) ∈ WL := wl_r51 _ (List.mem_of_getElem? (i := 4) rfl)
theorem wm_51_5 : Cond.methodLink RL 167 yX11_lingered ∈ WL := wl_r51 _ (List.mem_of_getElem? (i := 5) rfl)
theorem wm_51_6 : Cond.instanceMethod yX11_lingered ∈ WL := wl_r51 _ (List.mem_of_getElem? (i := 6) rfl)
theorem wm_51_7 : Cond.selects RX11 yX11_lingered yX11_lingered ∈ WL := wl_r51 _ (List.mem_of_getElem? (i := 7) rfl)
theorem wm_51_8 : Cond.code yX11_lingered cX11_lingered 3 (some .int) ∈ WL := wl_r51 _ (List.mem_of_getElem? (i := 8) rfl)
theorem wm_51_9 : Cond.methodLink RX11 348 yX5_strike ∈ WL := wl_r51 _ (List.mem_of_getElem? (i := 9) rfl)
theorem wm_51_10 : Cond.instanceMethod yX5_strike ∈ WL := wl_r51 _ (List.mem_of_getElem? (i := 10) rfl)
theorem wm_51_11 : Cond.selects RX5 yX5_strike yX5_strike ∈ WL := wl_r51 _ (List.mem_of_getElem? (i := 11) rfl)
theorem wm_51_12 : Cond.code yX5_strike cX5_strike 2 none ∈ WL := wl_r51 _ (List.mem_of_getElem? (i := 12) rfl)
theorem wm_51_13 : Cond.methodLink RX5 38 yX5_knownCount ∈ WL := wl_r51 _ (List.mem_of_getElem? (i := 13) rfl)
theorem wm_51_14 : Cond.instanceMethod yX5_knownCount ∈ WL := wl_r51 _ (List.mem_of_getElem? (i := 14) rfl)
theorem wm_51_15 : Cond.selects RX5 yX5_knownCount yX5_knownCount ∈ WL := wl_r51 _ (List.mem_of_getElem? (i := 15) rfl)
theorem wm_51_16 : Cond.code yX5_knownCount cX5_knownCount 1 (some .int) ∈ WL := wl_r51 _ (List.mem_of_getElem? (i := 16) rfl)
theorem wm_51_17 : Cond.methodLink RX5 32 Lib.Math.min.name ∈ WL := wl_r51 _ (List.mem_of_getElem? (i := 17) rfl)
theorem wm_51_18 : Cond.methodLink RX5 42 yX5_has ∈ WL := wl_r51 _ (List.mem_of_getElem? (i := 18) rfl)
theorem wm_51_19 : Cond.methodLink RX11 354 yX5_holdFor ∈ WL := wl_r51 _ (List.mem_of_getElem? (i := 19) rfl)
theorem wm_51_20 : Cond.instanceMethod yX5_holdFor ∈ WL := wl_r51 _ (List.mem_of_getElem? (i := 20) rfl)
theorem wm_51_21 : Cond.selects RX5 yX5_holdFor yX5_holdFor ∈ WL := wl_r51 _ (List.mem_of_getElem? (i := 21) rfl)
theorem wm_51_22 : Cond.code yX5_holdFor cX5_holdFor 3 (some .boolean) ∈ WL := wl_r51 _ (List.mem_of_getElem? (i := 22) rfl)
theorem wm_51_23 : Cond.methodLink RL 170 yX12_lingered ∈ WL := wl_r51 _ (List.mem_of_getElem? (i := 23) rfl)
theorem wl_r52 : ∀ w ∈ wsL_law0_r52, w ∈ WL := fun w h => wl_0 w (List.mem_append_left _ (List.mem_append_left _ (List.mem_append_left _ (List.mem_append_left _ (List.mem_append_left _ (List.mem_append_left _ (List.mem_append_left _ (List.mem_append_left _ (List.mem_append_left _ (List.mem_append_left _ (List.mem_append_left _ (List.mem_append_left _ (List.mem_append_left _ (List.mem_append_left _ ((List.mem_append_right _ (List.mem_append_right _ (List.mem_append_right _ (List.mem_append_right _ (List.mem_append_right _ (List.mem_append_right _ (List.mem_append_right _ (List.mem_append_right _ (List.mem_append_right _ (List.mem_append_right _ (List.mem_append_right _ (List.mem_append_right _ (List.mem_append_right _ (List.mem_append_right _ (List.mem_append_right _ (List.mem_append_right _ (List.mem_append_right _ (List.mem_append_right _ (List.mem_append_right _ (List.mem_append_right _ (List.mem_append_right _ (List.mem_append_right _ (List.mem_append_right _ (List.mem_append_right _ (List.mem_append_right _ (List.mem_append_right _ (List.mem_append_right _ (List.mem_append_right _ (List.mem_append_right _ (List.mem_append_right _ (List.mem_append_right _ (List.mem_append_right _ (List.mem_append_right _ (List.mem_append_right _ (List.mem_append_right _ (List.mem_append_right _ (List.mem_append_right _ (List.mem_append_right _ (List.mem_append_right _ (List.mem_append_right _ (List.mem_append_right _ (List.mem_append_right _ (List.mem_append_right _ (List.mem_append_right _ (List.mem_append_right _ (List.mem_append_right _ (List.mem_append_right _ (List.mem_append_right _ (List.mem_append_right _ (List.mem_append_right _ (List.mem_append_right _ (List.mem_append_left _ h)))))))))))))))))))))))))))))))))))))))))))))))))))))))))))))))))))
theorem wm_52_0 : Cond.instanceMethod yX12_lingered ∈ WL := wl_r52 _ (List.mem_of_getElem? (i := 0) rfl)
theorem wm_52_1 : Cond.selects RX12 yX12_lingered yX12_lingered ∈ WL := wl_r52 _ (List.mem_of_getElem? (i := 1) rfl)
theorem wm_52_2 : Cond.code yX12_lingered cX12_lingered 3 (some .int) ∈ WL := wl_r52 _ (List.mem_of_getElem? (i := 2) rfl)
theorem wm_52_3 : Cond.methodLink RX12 488 yX12_knownMany ∈ WL := wl_r52 _ (List.mem_of_getElem? (i := 3) rfl)
theorem wm_52_4 : Cond.instanceMethod yX12_knownMany ∈ WL := wl_r52 _ (List.mem_of_getElem? (i := 4) rfl)
theorem wm_52_5 : Cond.selects RX12 yX12_knownMany yX12_knownMany ∈ WL := wl_r52 _ (List.mem_of_getElem? (i := 5) rfl)
theorem wm_52_6 : Cond.code yX12_knownMany cX12_knownMany 1 (some .int) ∈ WL := wl_r52 _ (List.mem_of_getElem? (i := 6) rfl)
theorem wm_52_7 : Cond.methodLink RX12 491 yX12_isLinger ∈ WL := wl_r52 _ (List.mem_of_getElem? (i := 7) rfl)
theorem wm_52_8 : Cond.instanceMethod yX12_isLinger ∈ WL := wl_r52 _ (List.mem_of_getElem? (i := 8) rfl)
theorem wm_52_9 : Cond.selects RX12 yX12_isLinger yX12_isLinger ∈ WL := wl_r52 _ (List.mem_of_getElem? (i := 9) rfl)
theorem wm_52_10 : Cond.code yX12_isLinger cX12_isLinger 3 (some .boolean) ∈ WL := wl_r52 _ (List.mem_of_getElem? (i := 10) rfl)
theorem wm_52_11 : Cond.methodLink RL 171 yX11_chance ∈ WL := wl_r52 _ (List.mem_of_getElem? (i := 11) rfl)
theorem wm_52_12 : Cond.instanceMethod yX11_chance ∈ WL := wl_r52 _ (List.mem_of_getElem? (i := 12) rfl)
theorem wm_52_13 : Cond.selects RX11 yX11_chance yX11_chance ∈ WL := wl_r52 _ (List.mem_of_getElem? (i := 13) rfl)
theorem wm_52_14 : Cond.code yX11_chance cX11_chance 8 (some .int) ∈ WL := wl_r52 _ (List.mem_of_getElem? (i := 14) rfl)
theorem wm_52_15 : Cond.methodLink RL 174 yX12_chance ∈ WL := wl_r52 _ (List.mem_of_getElem? (i := 15) rfl)
theorem wm_52_16 : Cond.instanceMethod yX12_chance ∈ WL := wl_r52 _ (List.mem_of_getElem? (i := 16) rfl)
theorem wm_52_17 : Cond.selects RX12 yX12_chance yX12_chance ∈ WL := wl_r52 _ (List.mem_of_getElem? (i := 17) rfl)
theorem wm_52_18 : Cond.code yX12_chance cX12_chance 8 (some .int) ∈ WL := wl_r52 _ (List.mem_of_getElem? (i := 18) rfl)
theorem wm_52_19 : Cond.methodLink RL 175 yX11_tried ∈ WL := wl_r52 _ (List.mem_of_getElem? (i := 19) rfl)
theorem wm_52_20 : Cond.instanceMethod yX11_tried ∈ WL := wl_r52 _ (List.mem_of_getElem? (i := 20) rfl)
theorem wm_52_21 : Cond.selects RX11 yX11_tried yX11_tried ∈ WL := wl_r52 _ (List.mem_of_getElem? (i := 21) rfl)
theorem wm_52_22 : Cond.code yX11_tried cX11_tried 6 (some .int) ∈ WL := wl_r52 _ (List.mem_of_getElem? (i := 22) rfl)
theorem wm_52_23 : Cond.methodLink RX11 364 yX10_change ∈ WL := wl_r52 _ (List.mem_of_getElem? (i := 23) rfl)
theorem wl_r53 : ∀ w ∈ wsL_law0_r53, w ∈ WL := fun w h => wl_0 w (List.mem_append_left _ (List.mem_append_left _ (List.mem_append_left _ (List.mem_append_left _ (List.mem_append_left _ (List.mem_append_left _ (List.mem_append_left _ (List.mem_append_left _ (List.mem_append_left _ (List.mem_append_left _ (List.mem_append_left _ (List.mem_append_left _ (List.mem_append_left _ (List.mem_append_left _ ((List.mem_append_right _ (List.mem_append_right _ (List.mem_append_right _ (List.mem_append_right _ (List.mem_append_right _ (List.mem_append_right _ (List.mem_append_right _ (List.mem_append_right _ (List.mem_append_right _ (List.mem_append_right _ (List.mem_append_right _ (List.mem_append_right _ (List.mem_append_right _ (List.mem_append_right _ (List.mem_append_right _ (List.mem_append_right _ (List.mem_append_right _ (List.mem_append_right _ (List.mem_append_right _ (List.mem_append_right _ (List.mem_append_right _ (List.mem_append_right _ (List.mem_append_right _ (List.mem_append_right _ (List.mem_append_right _ (List.mem_append_right _ (List.mem_append_right _ (List.mem_append_right _ (List.mem_append_right _ (List.mem_append_right _ (List.mem_append_right _ (List.mem_append_right _ (List.mem_append_right _ (List.mem_append_right _ (List.mem_append_right _ (List.mem_append_right _ (List.mem_append_right _ (List.mem_append_right _ (List.mem_append_right _ (List.mem_append_right _ (List.mem_append_right _ (List.mem_append_right _ (List.mem_append_right _ (List.mem_append_right _ (List.mem_append_right _ (List.mem_append_right _ (List.mem_append_right _ (List.mem_append_right _ (List.mem_append_right _ (List.mem_append_right _ (List.mem_append_right _ (List.mem_append_right _ (List.mem_append_left _ h))))))))))))))))))))))))))))))))))))))))))))))))))))))))))))))))))))
theorem wm_53_0 : Cond.instanceMethod yX10_change ∈ WL := wl_r53 _ (List.mem_of_getElem? (i := 0) rfl)
theorem wm_53_1 : Cond.selects RX10 yX10_change yX10_change ∈ WL := wl_r53 _ (List.mem_of_getElem? (i := 1) rfl)
theorem wm_53_2 : Cond.code yX10_change cX10_change 3 none ∈ WL := wl_r53 _ (List.mem_of_getElem? (i := 2) rfl)
theorem wm_53_3 : Cond.methodLink RL 178 yX12_tried ∈ WL := wl_r53 _ (List.mem_of_getElem? (i := 3) rfl)
theorem wm_53_4 : Cond.instanceMethod yX12_tried ∈ WL := wl_r53 _ (List.mem_of_getElem? (i := 4) rfl)
theorem wm_53_5 : Cond.selects RX12 yX12_tried yX12_tried ∈ WL := wl_r53 _ (List.mem_of_getElem? (i := 5) rfl)
theorem wm_53_6 : Cond.code yX12_tried cX12_tried 6 (some .int) ∈ WL := wl_r53 _ (List.mem_of_getElem? (i := 6) rfl)
theorem wm_53_7 : Cond.methodLink RL 179 yX11_undo ∈ WL := wl_r53 _ (List.mem_of_getElem? (i := 7) rfl)
theorem wm_53_8 : Cond.instanceMethod yX11_undo ∈ WL := wl_r53 _ (List.mem_of_getElem? (i := 8) rfl)
theorem wm_53_9 : Cond.selects RX11 yX11_undo yX11_undo ∈ WL := wl_r53 _ (List.mem_of_getElem? (i := 9) rfl)
theorem wm_53_10 : Cond.code yX11_undo cX11_undo 1 (some .int) ∈ WL := wl_r53 _ (List.mem_of_getElem? (i := 10) rfl)
theorem wm_53_11 : Cond.methodLink RX11 370 yX2_takeBack ∈ WL := wl_r53 _ (List.mem_of_getElem? (i := 11) rfl)
theorem wm_53_12 : Cond.instanceMethod yX2_takeBack ∈ WL := wl_r53 _ (List.mem_of_getElem? (i := 12) rfl)
theorem wm_53_13 : Cond.selects RX2 yX2_takeBack yX2_takeBack ∈ WL := wl_r53 _ (List.mem_of_getElem? (i := 13) rfl)
theorem wm_53_14 : Cond.code yX2_takeBack cX2_takeBack 3 none ∈ WL := wl_r53 _ (List.mem_of_getElem? (i := 14) rfl)
theorem wm_53_15 : Cond.methodLink RL 182 yX12_undo ∈ WL := wl_r53 _ (List.mem_of_getElem? (i := 15) rfl)
theorem wm_53_16 : Cond.instanceMethod yX12_undo ∈ WL := wl_r53 _ (List.mem_of_getElem? (i := 16) rfl)
theorem wm_53_17 : Cond.selects RX12 yX12_undo yX12_undo ∈ WL := wl_r53 _ (List.mem_of_getElem? (i := 17) rfl)
theorem wm_53_18 : Cond.code yX12_undo cX12_undo 1 (some .int) ∈ WL := wl_r53 _ (List.mem_of_getElem? (i := 18) rfl)
theorem wm_53_19 : Cond.methodLink RL 183 yX11_keep ∈ WL := wl_r53 _ (List.mem_of_getElem? (i := 19) rfl)
theorem wm_53_20 : Cond.instanceMethod yX11_keep ∈ WL := wl_r53 _ (List.mem_of_getElem? (i := 20) rfl)
theorem wm_53_21 : Cond.selects RX11 yX11_keep yX11_keep ∈ WL := wl_r53 _ (List.mem_of_getElem? (i := 21) rfl)
theorem wm_53_22 : Cond.code yX11_keep cX11_keep 1 (some .int) ∈ WL := wl_r53 _ (List.mem_of_getElem? (i := 22) rfl)
theorem wm_53_23 : Cond.methodLink RL 186 yX12_keep ∈ WL := wl_r53 _ (List.mem_of_getElem? (i := 23) rfl)
theorem wl_r54 : ∀ w ∈ wsL_law0_r54, w ∈ WL := fun w h => wl_0 w (List.mem_append_left _ (List.mem_append_left _ (List.mem_append_left _ (List.mem_append_left _ (List.mem_append_left _ (List.mem_append_left _ (List.mem_append_left _ (List.mem_append_left _ (List.mem_append_left _ (List.mem_append_left _ (List.mem_append_left _ (List.mem_append_left _ (List.mem_append_left _ (List.mem_append_left _ ((List.mem_append_right _ (List.mem_append_right _ (List.mem_append_right _ (List.mem_append_right _ (List.mem_append_right _ (List.mem_append_right _ (List.mem_append_right _ (List.mem_append_right _ (List.mem_append_right _ (List.mem_append_right _ (List.mem_append_right _ (List.mem_append_right _ (List.mem_append_right _ (List.mem_append_right _ (List.mem_append_right _ (List.mem_append_right _ (List.mem_append_right _ (List.mem_append_right _ (List.mem_append_right _ (List.mem_append_right _ (List.mem_append_right _ (List.mem_append_right _ (List.mem_append_right _ (List.mem_append_right _ (List.mem_append_right _ (List.mem_append_right _ (List.mem_append_right _ (List.mem_append_right _ (List.mem_append_right _ (List.mem_append_right _ (List.mem_append_right _ (List.mem_append_right _ (List.mem_append_right _ (List.mem_append_right _ (List.mem_append_right _ (List.mem_append_right _ (List.mem_append_right _ (List.mem_append_right _ (List.mem_append_right _ (List.mem_append_right _ (List.mem_append_right _ (List.mem_append_right _ (List.mem_append_right _ (List.mem_append_right _ (List.mem_append_right _ (List.mem_append_right _ (List.mem_append_right _ (List.mem_append_right _ (List.mem_append_right _ (List.mem_append_right _ (List.mem_append_right _ (List.mem_append_right _ (List.mem_append_right _ (List.mem_append_left _ h)))))))))))))))))))))))))))))))))))))))))))))))))))))))))))))))))))))
theorem wm_54_0 : Cond.instanceMethod yX12_keep ∈ WL := wl_r54 _ (List.mem_of_getElem? (i := 0) rfl)
theorem wm_54_1 : Cond.selects RX12 yX12_keep yX12_keep ∈ WL := wl_r54 _ (List.mem_of_getElem? (i := 1) rfl)
theorem wm_54_2 : Cond.code yX12_keep cX12_keep 1 (some .int) ∈ WL := wl_r54 _ (List.mem_of_getElem? (i := 2) rfl)
theorem wm_54_3 : Cond.methodLink RL 187 yX11_back ∈ WL := wl_r54 _ (List.mem_of_getElem? (i := 3) rfl)
theorem wm_54_4 : Cond.instanceMethod yX11_back ∈ WL := wl_r54 _ (List.mem_of_getElem? (i := 4) rfl)
theorem wm_54_5 : Cond.selects RX11 yX11_back yX11_back ∈ WL := wl_r54 _ (List.mem_of_getElem? (i := 5) rfl)
theorem wm_54_6 : Cond.code yX11_back cX11_back 1 (some .int) ∈ WL := wl_r54 _ (List.mem_of_getElem? (i := 6) rfl)
theorem wm_54_7 : Cond.methodLink RL 190 yX12_back ∈ WL := wl_r54 _ (List.mem_of_getElem? (i := 7) rfl)
theorem wm_54_8 : Cond.instanceMethod yX12_back ∈ WL := wl_r54 _ (List.mem_of_getElem? (i := 8) rfl)
theorem wm_54_9 : Cond.selects RX12 yX12_back yX12_back ∈ WL := wl_r54 _ (List.mem_of_getElem? (i := 9) rfl)
theorem wm_54_10 : Cond.code yX12_back cX12_back 1 (some .int) ∈ WL := wl_r54 _ (List.mem_of_getElem? (i := 10) rfl)
theorem wm_54_11 : Cond.methodLink RL 191 yX11_count ∈ WL := wl_r54 _ (List.mem_of_getElem? (i := 11) rfl)
theorem wm_54_12 : Cond.instanceMethod yX11_count ∈ WL := wl_r54 _ (List.mem_of_getElem? (i := 12) rfl)
theorem wm_54_13 : Cond.selects RX11 yX11_count yX11_count ∈ WL := wl_r54 _ (List.mem_of_getElem? (i := 13) rfl)
theorem wm_54_14 : Cond.code yX11_count cX11_count 2 (some .int) ∈ WL := wl_r54 _ (List.mem_of_getElem? (i := 14) rfl)
theorem wm_54_15 : Cond.methodLink RX11 373 yX6_persons ∈ WL := wl_r54 _ (List.mem_of_getElem? (i := 15) rfl)
theorem wm_54_16 : Cond.instanceMethod yX6_persons ∈ WL := wl_r54 _ (List.mem_of_getElem? (i := 16) rfl)
theorem wm_54_17 : Cond.selects RX6 yX6_persons yX6_persons ∈ WL := wl_r54 _ (List.mem_of_getElem? (i := 17) rfl)
theorem wm_54_18 : Cond.code yX6_persons cX6_persons 3 (some .int) ∈ WL := wl_r54 _ (List.mem_of_getElem? (i := 18) rfl)
theorem wm_54_19 : Cond.methodLink RX11 379 yX8_crossInAll ∈ WL := wl_r54 _ (List.mem_of_getElem? (i := 19) rfl)
theorem wm_54_20 : Cond.instanceMethod yX8_crossInAll ∈ WL := wl_r54 _ (List.mem_of_getElem? (i := 20) rfl)
theorem wm_54_21 : Cond.selects RX8 yX8_crossInAll yX8_crossInAll ∈ WL := wl_r54 _ (List.mem_of_getElem? (i := 21) rfl)
theorem wm_54_22 : Cond.code yX8_crossInAll cX8_crossInAll 3 (some .int) ∈ WL := wl_r54 _ (List.mem_of_getElem? (i := 22) rfl)
theorem wm_54_23 : Cond.methodLink RX11 385 yX5_knownCount ∈ WL := wl_r54 _ (List.mem_of_getElem? (i := 23) rfl)
theorem wl_r55 : ∀ w ∈ wsL_law0_r55, w ∈ WL := fun w h => wl_0 w (List.mem_append_left _ (List.mem_append_left _ (List.mem_append_left _ (List.mem_append_left _ (List.mem_append_left _ (List.mem_append_left _ (List.mem_append_left _ (List.mem_append_left _ (List.mem_append_left _ (List.mem_append_left _ (List.mem_append_left _ (List.mem_append_left _ (List.mem_append_left _ (List.mem_append_left _ ((List.mem_append_right _ (List.mem_append_right _ (List.mem_append_right _ (List.mem_append_right _ (List.mem_append_right _ (List.mem_append_right _ (List.mem_append_right _ (List.mem_append_right _ (List.mem_append_right _ (List.mem_append_right _ (List.mem_append_right _ (List.mem_append_right _ (List.mem_append_right _ (List.mem_append_right _ (List.mem_append_right _ (List.mem_append_right _ (List.mem_append_right _ (List.mem_append_right _ (List.mem_append_right _ (List.mem_append_right _ (List.mem_append_right _ (List.mem_append_right _ (List.mem_append_right _ (List.mem_append_right _ (List.mem_append_right _ (List.mem_append_right _ (List.mem_append_right _ (List.mem_append_right _ (List.mem_append_right _ (List.mem_append_right _ (List.mem_append_right _ (List.mem_append_right _ (List.mem_append_right _ (List.mem_append_right _ (List.mem_append_right _ (List.mem_append_right _ (List.mem_append_right _ (List.mem_append_right _ (List.mem_append_right _ (List.mem_append_right _ (List.mem_append_right _ (List.mem_append_right _ (List.mem_append_right _ (List.mem_append_right _ (List.mem_append_right _ (List.mem_append_right _ (List.mem_append_right _ (List.mem_append_right _ (List.mem_append_right _ (List.mem_append_right _ (List.mem_append_right _ (List.mem_append_right _ (List.mem_append_right _ (List.mem_append_right _ h)))))))))))))))))))))))))))))))))))))))))))))))))))))))))))))))))))))
theorem wm_55_0 : Cond.methodLink RL 194 yX12_count ∈ WL := wl_r55 _ (List.mem_of_getElem? (i := 0) rfl)
theorem wm_55_1 : Cond.instanceMethod yX12_count ∈ WL := wl_r55 _ (List.mem_of_getElem? (i := 1) rfl)
theorem wm_55_2 : Cond.selects RX12 yX12_count yX12_count ∈ WL := wl_r55 _ (List.mem_of_getElem? (i := 2) rfl)
theorem wm_55_3 : Cond.code yX12_count cX12_count 4 (some .int) ∈ WL := wl_r55 _ (List.mem_of_getElem? (i := 3) rfl)
theorem inW11 : ∀ w ∈ wsX110, w ∈ WL := fun _ h => List.mem_append_left _ (List.mem_append_left _ (List.mem_append_left _ (List.mem_append_left _ (List.mem_append_left _ (List.mem_append_left _ (List.mem_append_left _ (List.mem_append_left _ (List.mem_append_left _ (List.mem_append_left _ (List.mem_append_left _ (List.mem_append_left _ (List.mem_append_left _ (List.mem_append_right _ h)))))))))))))
theorem inW12 : ∀ w ∈ wsX120, w ∈ WL := fun _ h => List.mem_append_left _ (List.mem_append_left _ (List.mem_append_left _ (List.mem_append_left _ (List.mem_append_left _ (List.mem_append_left _ (List.mem_append_left _ (List.mem_append_left _ (List.mem_append_left _ (List.mem_append_left _ (List.mem_append_left _ (List.mem_append_left _ (List.mem_append_right _ h))))))))))))
theorem inW7 : ∀ w ∈ wsX70, w ∈ WL := fun _ h => List.mem_append_left _ (List.mem_append_left _ (List.mem_append_left _ (List.mem_append_left _ (List.mem_append_left _ (List.mem_append_left _ (List.mem_append_left _ (List.mem_append_left _ (List.mem_append_left _ (List.mem_append_left _ (List.mem_append_left _ (List.mem_append_right _ h)))))))))))
theorem inW6 : ∀ w ∈ wsX60, w ∈ WL := fun _ h => List.mem_append_left _ (List.mem_append_left _ (List.mem_append_left _ (List.mem_append_left _ (List.mem_append_left _ (List.mem_append_left _ (List.mem_append_left _ (List.mem_append_left _ (List.mem_append_left _ (List.mem_append_left _ (List.mem_append_right _ h))))))))))
theorem inW8 : ∀ w ∈ wsX80, w ∈ WL := fun _ h => List.mem_append_left _ (List.mem_append_left _ (List.mem_append_left _ (List.mem_append_left _ (List.mem_append_left _ (List.mem_append_left _ (List.mem_append_left _ (List.mem_append_left _ (List.mem_append_left _ (List.mem_append_right _ h)))))))))
theorem inW0 : ∀ w ∈ wsX00, w ∈ WL := fun _ h => List.mem_append_left _ (List.mem_append_left _ (List.mem_append_left _ (List.mem_append_left _ (List.mem_append_left _ (List.mem_append_left _ (List.mem_append_left _ (List.mem_append_left _ (List.mem_append_right _ h))))))))
theorem inW10 : ∀ w ∈ wsX100, w ∈ WL := fun _ h => List.mem_append_left _ (List.mem_append_left _ (List.mem_append_left _ (List.mem_append_left _ (List.mem_append_left _ (List.mem_append_left _ (List.mem_append_left _ (List.mem_append_right _ h)))))))
theorem inW2 : ∀ w ∈ wsX20, w ∈ WL := fun _ h => List.mem_append_left _ (List.mem_append_left _ (List.mem_append_left _ (List.mem_append_left _ (List.mem_append_left _ (List.mem_append_left _ (List.mem_append_right _ h))))))
theorem inW5 : ∀ w ∈ wsX50, w ∈ WL := fun _ h => List.mem_append_left _ (List.mem_append_left _ (List.mem_append_left _ (List.mem_append_left _ (List.mem_append_left _ (List.mem_append_right _ h)))))
theorem inW1 : ∀ w ∈ wsX10, w ∈ WL := fun _ h => List.mem_append_left _ (List.mem_append_left _ (List.mem_append_left _ (List.mem_append_left _ (List.mem_append_right _ h))))
theorem inW4 : ∀ w ∈ wsX40, w ∈ WL := fun _ h => List.mem_append_left _ (List.mem_append_left _ (List.mem_append_left _ (List.mem_append_right _ h)))
theorem inW9 : ∀ w ∈ wsX90, w ∈ WL := fun _ h => List.mem_append_left _ (List.mem_append_left _ (List.mem_append_right _ h))
theorem inW3 : ∀ w ∈ wsX30, w ∈ WL := fun _ h => List.mem_append_left _ (List.mem_append_right _ h)
