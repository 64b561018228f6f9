def RX0 : String := "SonsPurse$Deal"
def TX0 : u_T := fun k => match k with
  | 0 => ("SonsPurse$Deal", "maker", "I", false)
  | 1 => ("SonsPurse$Deal", "trade", "I", false)
  | 2 => ("SonsPurse$Deal", "sum", "I", false)
  | 3 => ("SonsPurse$Deal", "paid", "I", false)
  | 4 => ("SonsPurse$Deal", "came", "I", false)
  | 5 => ("SonsPurse$Deal", "gone", "I", false)
  | 6 => ("SonsPurse$Deal", "hiddenAhead", "I", false)
  | 7 => ("SonsPurse$Deal", "isOrdered", "Z", false)
  | 8 => ("SonsPurse$Deal", "isSetAhead", "Z", false)
  | _ => ("SonsPurse$Deal", "isKnownAhead", "Z", false)
def tyX0 : Nat → FieldType := fun k => match k with
  | 0 => .int
  | 1 => .int
  | 2 => .int
  | 3 => .int
  | 4 => .int
  | 5 => .int
  | 6 => .int
  | 7 => .boolean
  | 8 => .boolean
  | _ => .boolean
abbrev wsX00 : List Cond := u_ws RX0 TX0 10
theorem nmX0 : ∀ a, a < 10 → ∀ b, b < 10 → a ≠ b → (TX0 a).2.1 ≠ (TX0 b).2.1 := by decide +kernel
theorem tyX0_ok : ∀ k, k < 10 → parseFieldDescriptor (TX0 k).2.2.1 = some (tyX0 k) := by decide +kernel
abbrev cX0_init : ByteArray := prog_2_method_1_code
def yX0_init : MethodName := ⟨RX0, "<init>", "()V"⟩
abbrev cX0_start : ByteArray := prog_2_method_2_code
def yX0_start : MethodName := ⟨RX0, "start", "(IIILSonsPurse$Person;)V"⟩
abbrev cX0_left : ByteArray := prog_2_method_3_code
def yX0_left : MethodName := ⟨RX0, "left", "()I"⟩
abbrev cX0_there : ByteArray := prog_2_method_4_code
def yX0_there : MethodName := ⟨RX0, "there", "()I"⟩
def RX1 : String := "SonsPurse$House"
def TX1 : u_T := fun k => match k with
  | 0 => ("SonsPurse$House", "kept", "LSonsPurse$Kept;", true)
  | 1 => ("SonsPurse$House", "people", "[LSonsPurse$Person;", true)
  | 2 => ("SonsPurse$House", "dealt", "[LSonsPurse$Deal;", true)
  | 3 => ("SonsPurse$House", "given", "[J", true)
  | 4 => ("SonsPurse$House", "deals", "I", false)
  | _ => ("SonsPurse$House", "asOf", "I", false)
def tyX1 : Nat → FieldType := fun k => match k with
  | 0 => .object "SonsPurse$Kept"
  | 1 => .array (.object "SonsPurse$Person")
  | 2 => .array (.object "SonsPurse$Deal")
  | 3 => .array .long
  | 4 => .int
  | _ => .int
abbrev wsX10 : List Cond := u_ws RX1 TX1 6
theorem nmX1 : ∀ a, a < 6 → ∀ b, b < 6 → a ≠ b → (TX1 a).2.1 ≠ (TX1 b).2.1 := by decide +kernel
theorem tyX1_ok : ∀ k, k < 6 → parseFieldDescriptor (TX1 k).2.2.1 = some (tyX1 k) := by decide +kernel
abbrev cX1_init : ByteArray := prog_3_method_1_code
def yX1_init : MethodName := ⟨RX1, "<init>", "(LSonsPurse$Kept;)V"⟩
abbrev cX1_replay : ByteArray := prog_3_method_2_code
def yX1_replay : MethodName := ⟨RX1, "replay", "(II)V"⟩
abbrev cX1_reckon : ByteArray := prog_3_method_3_code
def yX1_reckon : MethodName := ⟨RX1, "reckon", "(II)V"⟩
abbrev cX1_apply : ByteArray := prog_3_method_4_code
def yX1_apply : MethodName := ⟨RX1, "apply", "(I)V"⟩
abbrev cX1_changeDeal : ByteArray := prog_3_method_5_code
def yX1_changeDeal : MethodName := ⟨RX1, "changeDeal", "(ILSonsPurse$Deal;I)V"⟩
abbrev cX1_changePerson : ByteArray := prog_3_method_6_code
def yX1_changePerson : MethodName := ⟨RX1, "changePerson", "(ILSonsPurse$Person;II)V"⟩
abbrev cX1_refuses : ByteArray := prog_3_method_7_code
def yX1_refuses : MethodName := ⟨RX1, "refuses", "(IIII)Z"⟩
abbrev cX1_refusesOfDeal : ByteArray := prog_3_method_8_code
def yX1_refusesOfDeal : MethodName := ⟨RX1, "refusesOfDeal", "(ILSonsPurse$Deal;I)Z"⟩
abbrev cX1_isInHand : ByteArray := prog_3_method_9_code
def yX1_isInHand : MethodName := ⟨RX1, "isInHand", "(II)Z"⟩
abbrev cX1_addSeconds : ByteArray := prog_3_method_10_code
def yX1_addSeconds : MethodName := ⟨RX1, "addSeconds", "()V"⟩
abbrev cX1_stepsUp : ByteArray := prog_3_method_11_code
def yX1_stepsUp : MethodName := ⟨RX1, "stepsUp", "(I)I"⟩
abbrev cX1_netOf : ByteArray := prog_3_method_12_code
def yX1_netOf : MethodName := ⟨RX1, "netOf", "(IIJJ)I"⟩
abbrev cX1_debtToHolder : ByteArray := prog_3_method_13_code
def yX1_debtToHolder : MethodName := ⟨RX1, "debtToHolder", "(I)I"⟩
abbrev cX1_debtToFellows : ByteArray := prog_3_method_14_code
def yX1_debtToFellows : MethodName := ⟨RX1, "debtToFellows", "(I)I"⟩
abbrev cX1_isThere : ByteArray := prog_3_method_15_code
def yX1_isThere : MethodName := ⟨RX1, "isThere", "(I)Z"⟩
abbrev cX1_answerer : ByteArray := prog_3_method_16_code
def yX1_answerer : MethodName := ⟨RX1, "answerer", "(I)I"⟩
abbrev cX1_isPurseOpen : ByteArray := prog_3_method_17_code
def yX1_isPurseOpen : MethodName := ⟨RX1, "isPurseOpen", "(I)Z"⟩
abbrev cX1_hiddenBehind : ByteArray := prog_3_method_18_code
def yX1_hiddenBehind : MethodName := ⟨RX1, "hiddenBehind", "(I)I"⟩
abbrev cX1_purseAsk : ByteArray := prog_3_method_19_code
def yX1_purseAsk : MethodName := ⟨RX1, "purseAsk", "(II)I"⟩
abbrev cX1_askAbove : ByteArray := prog_3_method_20_code
def yX1_askAbove : MethodName := ⟨RX1, "askAbove", "(II)J"⟩
abbrev cX1_askBelow : ByteArray := prog_3_method_21_code
def yX1_askBelow : MethodName := ⟨RX1, "askBelow", "(II)J"⟩
abbrev cX1_shareAbove : ByteArray := prog_3_method_22_code
def yX1_shareAbove : MethodName := ⟨RX1, "shareAbove", "(LSonsPurse$Deal;)J"⟩
abbrev cX1_allOwed : ByteArray := prog_3_method_23_code
def yX1_allOwed : MethodName := ⟨RX1, "allOwed", "(LSonsPurse$Deal;)J"⟩
def RX2 : String := "SonsPurse$Items"
def TX2 : u_T := fun k => match k with
  | 0 => ("SonsPurse$Items", "text", "[I", true)
  | 1 => ("SonsPurse$Items", "size", "I", false)
  | 2 => ("SonsPurse$Items", "at", "I", false)
  | 3 => ("SonsPurse$Items", "flaw", "I", false)
  | 4 => ("SonsPurse$Items", "day", "I", false)
  | 5 => ("SonsPurse$Items", "kind", "I", false)
  | 6 => ("SonsPurse$Items", "a", "I", false)
  | 7 => ("SonsPurse$Items", "b", "I", false)
  | _ => ("SonsPurse$Items", "v", "I", false)
def tyX2 : Nat → FieldType := fun k => match k with
  | 0 => .array .int
  | 1 => .int
  | 2 => .int
  | 3 => .int
  | 4 => .int
  | 5 => .int
  | 6 => .int
  | 7 => .int
  | _ => .int
abbrev wsX20 : List Cond := u_ws RX2 TX2 9
theorem nmX2 : ∀ a, a < 9 → ∀ b, b < 9 → a ≠ b → (TX2 a).2.1 ≠ (TX2 b).2.1 := by decide +kernel
theorem tyX2_ok : ∀ k, k < 9 → parseFieldDescriptor (TX2 k).2.2.1 = some (tyX2 k) := by decide +kernel
abbrev cX2_init : ByteArray := prog_4_method_1_code
def yX2_init : MethodName := ⟨RX2, "<init>", "()V"⟩
abbrev cX2_add : ByteArray := prog_4_method_2_code
def yX2_add : MethodName := ⟨RX2, "add", "(I)V"⟩
abbrev cX2_goToStart : ByteArray := prog_4_method_3_code
def yX2_goToStart : MethodName := ⟨RX2, "goToStart", "()V"⟩
abbrev cX2_flawOfAll : ByteArray := prog_4_method_4_code
def yX2_flawOfAll : MethodName := ⟨RX2, "flawOfAll", "()I"⟩
abbrev cX2_next : ByteArray := prog_4_method_5_code
def yX2_next : MethodName := ⟨RX2, "next", "()Z"⟩
abbrev cX2_skipBlanks : ByteArray := prog_4_method_6_code
def yX2_skipBlanks : MethodName := ⟨RX2, "skipBlanks", "()V"⟩
abbrev cX2_blame : ByteArray := prog_4_method_7_code
def yX2_blame : MethodName := ⟨RX2, "blame", "(I)V"⟩
abbrev cX2_second : ByteArray := prog_4_method_8_code
def yX2_second : MethodName := ⟨RX2, "second", "(C)I"⟩
abbrev cX2_sign : ByteArray := prog_4_method_9_code
def yX2_sign : MethodName := ⟨RX2, "sign", "(C)V"⟩
abbrev cX2_number : ByteArray := prog_4_method_10_code
def yX2_number : MethodName := ⟨RX2, "number", "()I"⟩
abbrev cX2_verb : ByteArray := prog_4_method_11_code
def yX2_verb : MethodName := ⟨RX2, "verb", "()I"⟩
abbrev cX2_kindOf : ByteArray := prog_4_method_12_code
def yX2_kindOf : MethodName := ⟨RX2, "kindOf", "(I)I"⟩
abbrev cX2_isVerb : ByteArray := prog_4_method_13_code
def yX2_isVerb : MethodName := ⟨RX2, "isVerb", "(III)Z"⟩
def RX3 : String := "SonsPurse$Kept"
def TX3 : u_T := fun k => match k with
  | 0 => ("SonsPurse$Kept", "persons", "I", false)
  | 1 => ("SonsPurse$Kept", "notes", "I", false)
  | 2 => ("SonsPurse$Kept", "deals", "I", false)
  | 3 => ("SonsPurse$Kept", "doubted", "I", false)
  | 4 => ("SonsPurse$Kept", "lined", "I", false)
  | 5 => ("SonsPurse$Kept", "rows", "[I", true)
  | 6 => ("SonsPurse$Kept", "line", "[I", true)
  | _ => ("SonsPurse$Kept", "laws", "[LSonsPurse$Law;", true)
def tyX3 : Nat → FieldType := fun k => match k with
  | 0 => .int
  | 1 => .int
  | 2 => .int
  | 3 => .int
  | 4 => .int
  | 5 => .array .int
  | 6 => .array .int
  | _ => .array (.object "SonsPurse$Law")
abbrev wsX30 : List Cond := u_ws RX3 TX3 8
theorem nmX3 : ∀ a, a < 8 → ∀ b, b < 8 → a ≠ b → (TX3 a).2.1 ≠ (TX3 b).2.1 := by decide +kernel
theorem tyX3_ok : ∀ k, k < 8 → parseFieldDescriptor (TX3 k).2.2.1 = some (tyX3 k) := by decide +kernel
abbrev cX3_init : ByteArray := prog_5_method_1_code
def yX3_init : MethodName := ⟨RX3, "<init>", "()V"⟩
abbrev cX3_takeAll : ByteArray := prog_5_method_2_code
def yX3_takeAll : MethodName := ⟨RX3, "takeAll", "(LSonsPurse$Kept;)V"⟩
abbrev cX3_howMany : ByteArray := prog_5_method_3_code
def yX3_howMany : MethodName := ⟨RX3, "howMany", "(I)I"⟩
abbrev cX3_isWellTold : ByteArray := prog_5_method_4_code
def yX3_isWellTold : MethodName := ⟨RX3, "isWellTold", "(IIIII)Z"⟩
abbrev cX3_lastDay : ByteArray := prog_5_method_5_code
def yX3_lastDay : MethodName := ⟨RX3, "lastDay", "()I"⟩
abbrev cX3_isWellToldB : ByteArray := prog_5_method_6_code
def yX3_isWellToldB : MethodName := ⟨RX3, "isWellToldB", "(CII)Z"⟩
abbrev cX3_add : ByteArray := prog_5_method_7_code
def yX3_add : MethodName := ⟨RX3, "add", "(IIIII)I"⟩
abbrev cX3_mayBeDoubted : ByteArray := prog_5_method_8_code
def yX3_mayBeDoubted : MethodName := ⟨RX3, "mayBeDoubted", "(I)Z"⟩
abbrev cX3_isDoubted : ByteArray := prog_5_method_9_code
def yX3_isDoubted : MethodName := ⟨RX3, "isDoubted", "(I)Z"⟩
abbrev cX3_markDoubt : ByteArray := prog_5_method_10_code
def yX3_markDoubt : MethodName := ⟨RX3, "markDoubt", "(IZ)V"⟩
def RX4 : String := "SonsPurse$Law"
def TX4 : u_T := fun k => match k with
  | 0 => ("SonsPurse$Law", "text", "[I", true)
  | 1 => ("SonsPurse$Law", "size", "I", false)
  | 2 => ("SonsPurse$Law", "steps", "[I", true)
  | 3 => ("SonsPurse$Law", "numbers", "[J", true)
  | 4 => ("SonsPurse$Law", "stack", "[J", true)
  | 5 => ("SonsPurse$Law", "stepped", "I", false)
  | 6 => ("SonsPurse$Law", "at", "I", false)
  | _ => ("SonsPurse$Law", "flaw", "I", false)
def tyX4 : Nat → FieldType := fun k => match k with
  | 0 => .array .int
  | 1 => .int
  | 2 => .array .int
  | 3 => .array .long
  | 4 => .array .long
  | 5 => .int
  | 6 => .int
  | _ => .int
abbrev wsX40 : List Cond := u_ws RX4 TX4 8
theorem nmX4 : ∀ a, a < 8 → ∀ b, b < 8 → a ≠ b → (TX4 a).2.1 ≠ (TX4 b).2.1 := by decide +kernel
theorem tyX4_ok : ∀ k, k < 8 → parseFieldDescriptor (TX4 k).2.2.1 = some (tyX4 k) := by decide +kernel
abbrev cX4_init : ByteArray := prog_6_method_1_code
def yX4_init : MethodName := ⟨RX4, "<init>", "()V"⟩
abbrev cX4_add : ByteArray := prog_6_method_2_code
def yX4_add : MethodName := ⟨RX4, "add", "(I)V"⟩
abbrev cX4_empty : ByteArray := prog_6_method_3_code
def yX4_empty : MethodName := ⟨RX4, "empty", "()I"⟩
abbrev cX4_takeAll : ByteArray := prog_6_method_4_code
def yX4_takeAll : MethodName := ⟨RX4, "takeAll", "(LSonsPurse$Law;)V"⟩
abbrev cX4_digestFrom : ByteArray := prog_6_method_5_code
def yX4_digestFrom : MethodName := ⟨RX4, "digestFrom", "(J)J"⟩
abbrev cX4_brought : ByteArray := prog_6_method_6_code
def yX4_brought : MethodName := ⟨RX4, "brought", "([J)I"⟩
abbrev cX4_parse : ByteArray := prog_6_method_7_code
def yX4_parse : MethodName := ⟨RX4, "parse", "()V"⟩
abbrev cX4_blame : ByteArray := prog_6_method_8_code
def yX4_blame : MethodName := ⟨RX4, "blame", "(II)V"⟩
abbrev cX4_peek : ByteArray := prog_6_method_9_code
def yX4_peek : MethodName := ⟨RX4, "peek", "()I"⟩
abbrev cX4_step : ByteArray := prog_6_method_10_code
def yX4_step : MethodName := ⟨RX4, "step", "(IJ)V"⟩
abbrev cX4_value : ByteArray := prog_6_method_11_code
def yX4_value : MethodName := ⟨RX4, "value", "(I)V"⟩
abbrev cX4_both : ByteArray := prog_6_method_12_code
def yX4_both : MethodName := ⟨RX4, "both", "(I)V"⟩
abbrev cX4_held : ByteArray := prog_6_method_13_code
def yX4_held : MethodName := ⟨RX4, "held", "(I)V"⟩
abbrev cX4_sum : ByteArray := prog_6_method_14_code
def yX4_sum : MethodName := ⟨RX4, "sum", "(I)V"⟩
abbrev cX4_term : ByteArray := prog_6_method_15_code
def yX4_term : MethodName := ⟨RX4, "term", "(I)V"⟩
abbrev cX4_unit : ByteArray := prog_6_method_16_code
def yX4_unit : MethodName := ⟨RX4, "unit", "(I)V"⟩
abbrev cX4_operand : ByteArray := prog_6_method_17_code
def yX4_operand : MethodName := ⟨RX4, "operand", "(I)V"⟩
abbrev cX4_opened : ByteArray := prog_6_method_18_code
def yX4_opened : MethodName := ⟨RX4, "opened", "(I)V"⟩
abbrev cX4_digits : ByteArray := prog_6_method_19_code
def yX4_digits : MethodName := ⟨RX4, "digits", "()V"⟩
abbrev cX4_isDigit : ByteArray := prog_6_method_20_code
def yX4_isDigit : MethodName := ⟨RX4, "isDigit", "(I)Z"⟩
abbrev cX4_work : ByteArray := prog_6_method_21_code
def yX4_work : MethodName := ⟨RX4, "work", "([J)J"⟩
abbrev cX4_join : ByteArray := prog_6_method_22_code
def yX4_join : MethodName := ⟨RX4, "join", "(IJJ)J"⟩
def RX5 : String := "SonsPurse$Person"
def TX5 : u_T := fun k => match k with
  | 0 => ("SonsPurse$Person", "hand", "I", false)
  | 1 => ("SonsPurse$Person", "lastHand", "I", false)
  | 2 => ("SonsPurse$Person", "endDay", "I", false)
  | 3 => ("SonsPurse$Person", "endWay", "I", false)
  | 4 => ("SonsPurse$Person", "hidden", "I", false)
  | 5 => ("SonsPurse$Person", "second", "I", false)
  | 6 => ("SonsPurse$Person", "steps", "I", false)
  | 7 => ("SonsPurse$Person", "parts", "[I", true)
  | 8 => ("SonsPurse$Person", "debts", "[I", true)
  | 9 => ("SonsPurse$Person", "isSet", "[Z", true)
  | _ => ("SonsPurse$Person", "isKnown", "[Z", true)
def tyX5 : Nat → FieldType := fun k => match k with
  | 0 => .int
  | 1 => .int
  | 2 => .int
  | 3 => .int
  | 4 => .int
  | 5 => .int
  | 6 => .int
  | 7 => .array .int
  | 8 => .array .int
  | 9 => .array .boolean
  | _ => .array .boolean
abbrev wsX50 : List Cond := u_ws RX5 TX5 11
theorem nmX5 : ∀ a, a < 11 → ∀ b, b < 11 → a ≠ b → (TX5 a).2.1 ≠ (TX5 b).2.1 := by decide +kernel
theorem tyX5_ok : ∀ k, k < 11 → parseFieldDescriptor (TX5 k).2.2.1 = some (tyX5 k) := by decide +kernel
abbrev cX5_init : ByteArray := prog_7_method_1_code
def yX5_init : MethodName := ⟨RX5, "<init>", "()V"⟩
abbrev cX5_restart : ByteArray := prog_7_method_2_code
def yX5_restart : MethodName := ⟨RX5, "restart", "()V"⟩
abbrev cX5_partOf : ByteArray := prog_7_method_3_code
def yX5_partOf : MethodName := ⟨RX5, "partOf", "(I)I"⟩
abbrev cX5_allParts : ByteArray := prog_7_method_4_code
def yX5_allParts : MethodName := ⟨RX5, "allParts", "()I"⟩
abbrev cX5_debtTo : ByteArray := prog_7_method_5_code
def yX5_debtTo : MethodName := ⟨RX5, "debtTo", "(I)I"⟩
abbrev cX5_end : ByteArray := prog_7_method_6_code
def yX5_end : MethodName := ⟨RX5, "end", "(II)V"⟩
abbrev cX5_goInto : ByteArray := prog_7_method_7_code
def yX5_goInto : MethodName := ⟨RX5, "goInto", "(I)V"⟩
def RX6 : String := "SonsPurse$Queue"
def TX6 : u_T := fun k => match k with
  | 0 => ("SonsPurse$Queue", "size", "I", false)
  | 1 => ("SonsPurse$Queue", "maker", "[I", true)
  | 2 => ("SonsPurse$Queue", "trade", "[I", true)
  | 3 => ("SonsPurse$Queue", "owed", "[I", true)
  | 4 => ("SonsPurse$Queue", "depth", "[I", true)
  | 5 => ("SonsPurse$Queue", "part", "[I", true)
  | 6 => ("SonsPurse$Queue", "holderDebt", "[I", true)
  | 7 => ("SonsPurse$Queue", "mayShare", "[Z", true)
  | 8 => ("SonsPurse$Queue", "isAnswered", "[Z", true)
  | 9 => ("SonsPurse$Queue", "least", "J", false)
  | _ => ("SonsPurse$Queue", "most", "J", false)
def tyX6 : Nat → FieldType := fun k => match k with
  | 0 => .int
  | 1 => .array .int
  | 2 => .array .int
  | 3 => .array .int
  | 4 => .array .int
  | 5 => .array .int
  | 6 => .array .int
  | 7 => .array .boolean
  | 8 => .array .boolean
  | 9 => .long
  | _ => .long
abbrev wsX60 : List Cond := u_ws RX6 TX6 11
theorem nmX6 : ∀ a, a < 11 → ∀ b, b < 11 → a ≠ b → (TX6 a).2.1 ≠ (TX6 b).2.1 := by decide +kernel
theorem tyX6_ok : ∀ k, k < 11 → parseFieldDescriptor (TX6 k).2.2.1 = some (tyX6 k) := by decide +kernel
abbrev cX6_init : ByteArray := prog_8_method_1_code
def yX6_init : MethodName := ⟨RX6, "<init>", "()V"⟩
abbrev cX6_lineUp : ByteArray := prog_8_method_2_code
def yX6_lineUp : MethodName := ⟨RX6, "lineUp", "(LSonsPurse$Kept;LSonsPurse$House;)V"⟩
abbrev cX6_leaveOut : ByteArray := prog_8_method_3_code
def yX6_leaveOut : MethodName := ⟨RX6, "leaveOut", "(I)V"⟩
abbrev cX6_stand : ByteArray := prog_8_method_4_code
def yX6_stand : MethodName := ⟨RX6, "stand", "(IILSonsPurse$House;)V"⟩
abbrev cX6_take : ByteArray := prog_8_method_5_code
def yX6_take : MethodName := ⟨RX6, "take", "(IJ)J"⟩
abbrev cX6_isIn : ByteArray := prog_8_method_6_code
def yX6_isIn : MethodName := ⟨RX6, "isIn", "(II)Z"⟩
abbrev cX6_fromPurse : ByteArray := prog_8_method_7_code
def yX6_fromPurse : MethodName := ⟨RX6, "fromPurse", "(II)J"⟩
abbrev cX6_sharedParts : ByteArray := prog_8_method_8_code
def yX6_sharedParts : MethodName := ⟨RX6, "sharedParts", "(II)J"⟩
abbrev cX6_tryOrders : ByteArray := prog_8_method_9_code
def yX6_tryOrders : MethodName := ⟨RX6, "tryOrders", "(I)V"⟩
abbrev cX6_tryAhead : ByteArray := prog_8_method_10_code
def yX6_tryAhead : MethodName := ⟨RX6, "tryAhead", "(IIJI)V"⟩
abbrev cX6_isRest : ByteArray := prog_8_method_11_code
def yX6_isRest : MethodName := ⟨RX6, "isRest", "(I)Z"⟩
abbrev cX6_isBetterOtherwise : ByteArray := prog_8_method_12_code
def yX6_isBetterOtherwise : MethodName := ⟨RX6, "isBetterOtherwise", "(II)Z"⟩
abbrev cX6_shareAbove : ByteArray := prog_8_method_13_code
def yX6_shareAbove : MethodName := ⟨RX6, "shareAbove", "(IJ)J"⟩
abbrev cX6_sharersOwed : ByteArray := prog_8_method_14_code
def yX6_sharersOwed : MethodName := ⟨RX6, "sharersOwed", "(II)J"⟩
def RX7 : String := "SonsPurse"
def TX7 : u_T := fun k => match k with
  | 0 => ("SonsPurse", "kept", "LSonsPurse$Kept;", true)
  | 1 => ("SonsPurse", "images", "[LSonsPurse$Kept;", true)
  | 2 => ("SonsPurse", "imaged", "[Z", true)
  | 3 => ("SonsPurse", "house", "LSonsPurse$House;", true)
  | 4 => ("SonsPurse", "queue", "LSonsPurse$Queue;", true)
  | 5 => ("SonsPurse", "items", "LSonsPurse$Items;", true)
  | 6 => ("SonsPurse", "wayAbove", "[J", true)
  | 7 => ("SonsPurse", "wayBelow", "[J", true)
  | 8 => ("SonsPurse", "above", "J", false)
  | _ => ("SonsPurse", "below", "J", false)
def tyX7 : Nat → FieldType := fun k => match k with
  | 0 => .object "SonsPurse$Kept"
  | 1 => .array (.object "SonsPurse$Kept")
  | 2 => .array .boolean
  | 3 => .object "SonsPurse$House"
  | 4 => .object "SonsPurse$Queue"
  | 5 => .object "SonsPurse$Items"
  | 6 => .array .long
  | 7 => .array .long
  | 8 => .long
  | _ => .long
abbrev wsX70 : List Cond := u_ws RX7 TX7 10
theorem nmX7 : ∀ a, a < 10 → ∀ b, b < 10 → a ≠ b → (TX7 a).2.1 ≠ (TX7 b).2.1 := by decide +kernel
theorem tyX7_ok : ∀ k, k < 10 → parseFieldDescriptor (TX7 k).2.2.1 = some (tyX7 k) := by decide +kernel
abbrev cX7_init : ByteArray := prog_1_method_1_code
def yX7_init : MethodName := ⟨RX7, "<init>", "()V"⟩
abbrev cX7_person : ByteArray := prog_1_method_2_code
def yX7_person : MethodName := ⟨RX7, "person", "()I"⟩
abbrev cX7_note : ByteArray := prog_1_method_3_code
def yX7_note : MethodName := ⟨RX7, "note", "(IIIII)I"⟩
abbrev cX7_doubt : ByteArray := prog_1_method_4_code
def yX7_doubt : MethodName := ⟨RX7, "doubt", "(IZ)I"⟩
abbrev cX7_type : ByteArray := prog_1_method_5_code
def yX7_type : MethodName := ⟨RX7, "type", "(JI)I"⟩
abbrev cX7_clear : ByteArray := prog_1_method_6_code
def yX7_clear : MethodName := ⟨RX7, "clear", "()I"⟩
abbrev cX7_read : ByteArray := prog_1_method_7_code
def yX7_read : MethodName := ⟨RX7, "read", "()I"⟩
abbrev cX7_write : ByteArray := prog_1_method_8_code
def yX7_write : MethodName := ⟨RX7, "write", "(II)I"⟩
abbrev cX7_erase : ByteArray := prog_1_method_9_code
def yX7_erase : MethodName := ⟨RX7, "erase", "(I)I"⟩
abbrev cX7_fault : ByteArray := prog_1_method_10_code
def yX7_fault : MethodName := ⟨RX7, "fault", "(I)I"⟩
abbrev cX7_holder : ByteArray := prog_1_method_11_code
def yX7_holder : MethodName := ⟨RX7, "holder", "(II)I"⟩
abbrev cX7_in : ByteArray := prog_1_method_12_code
def yX7_in : MethodName := ⟨RX7, "in", "(III)I"⟩
abbrev cX7_own : ByteArray := prog_1_method_13_code
def yX7_own : MethodName := ⟨RX7, "own", "(III)I"⟩
abbrev cX7_net : ByteArray := prog_1_method_14_code
def yX7_net : MethodName := ⟨RX7, "net", "(III)I"⟩
abbrev cX7_owed : ByteArray := prog_1_method_15_code
def yX7_owed : MethodName := ⟨RX7, "owed", "(II)I"⟩
abbrev cX7_answers : ByteArray := prog_1_method_16_code
def yX7_answers : MethodName := ⟨RX7, "answers", "(II)I"⟩
abbrev cX7_ask : ByteArray := prog_1_method_17_code
def yX7_ask : MethodName := ⟨RX7, "ask", "(III)I"⟩
abbrev cX7_best : ByteArray := prog_1_method_18_code
def yX7_best : MethodName := ⟨RX7, "best", "(II)I"⟩
abbrev cX7_line : ByteArray := prog_1_method_19_code
def yX7_line : MethodName := ⟨RX7, "line", "(I)I"⟩
abbrev cX7_unline : ByteArray := prog_1_method_20_code
def yX7_unline : MethodName := ⟨RX7, "unline", "()I"⟩
abbrev cX7_served : ByteArray := prog_1_method_21_code
def yX7_served : MethodName := ⟨RX7, "served", "(II)I"⟩
abbrev cX7_orders : ByteArray := prog_1_method_22_code
def yX7_orders : MethodName := ⟨RX7, "orders", "(III)I"⟩
abbrev cX7_rests : ByteArray := prog_1_method_23_code
def yX7_rests : MethodName := ⟨RX7, "rests", "(II)I"⟩
abbrev cX7_wise : ByteArray := prog_1_method_24_code
def yX7_wise : MethodName := ⟨RX7, "wise", "(III)I"⟩
abbrev cX7_sure : ByteArray := prog_1_method_25_code
def yX7_sure : MethodName := ⟨RX7, "sure", "(IIII)I"⟩
abbrev cX7_hangs : ByteArray := prog_1_method_26_code
def yX7_hangs : MethodName := ⟨RX7, "hangs", "(III)I"⟩
abbrev cX7_parted : ByteArray := prog_1_method_27_code
def yX7_parted : MethodName := ⟨RX7, "parted", "(I)I"⟩
abbrev cX7_part : ByteArray := prog_1_method_28_code
def yX7_part : MethodName := ⟨RX7, "part", "(I)J"⟩
abbrev cX7_told : ByteArray := prog_1_method_29_code
def yX7_told : MethodName := ⟨RX7, "told", "(II)I"⟩
abbrev cX7_image : ByteArray := prog_1_method_30_code
def yX7_image : MethodName := ⟨RX7, "image", "(I)I"⟩
abbrev cX7_from : ByteArray := prog_1_method_31_code
def yX7_from : MethodName := ⟨RX7, "from", "(I)I"⟩
abbrev cX7_count : ByteArray := prog_1_method_32_code
def yX7_count : MethodName := ⟨RX7, "count", "(I)I"⟩
abbrev cX7_digest : ByteArray := prog_1_method_33_code
def yX7_digest : MethodName := ⟨RX7, "digest", "()J"⟩
abbrev cX7_digestOfPersons : ByteArray := prog_1_method_34_code
def yX7_digestOfPersons : MethodName := ⟨RX7, "digestOfPersons", "(J)J"⟩
abbrev cX7_isPerson : ByteArray := prog_1_method_35_code
def yX7_isPerson : MethodName := ⟨RX7, "isPerson", "(I)Z"⟩
abbrev cX7_isNote : ByteArray := prog_1_method_36_code
def yX7_isNote : MethodName := ⟨RX7, "isNote", "(I)Z"⟩
abbrev cX7_isDeal : ByteArray := prog_1_method_37_code
def yX7_isDeal : MethodName := ⟨RX7, "isDeal", "(I)Z"⟩
abbrev cX7_isLined : ByteArray := prog_1_method_38_code
def yX7_isLined : MethodName := ⟨RX7, "isLined", "(I)Z"⟩
abbrev cX7_isDay : ByteArray := prog_1_method_39_code
def yX7_isDay : MethodName := ⟨RX7, "isDay", "(I)Z"⟩
abbrev cX7_isLaw : ByteArray := prog_1_method_40_code
def yX7_isLaw : MethodName := ⟨RX7, "isLaw", "(I)Z"⟩
abbrev cX7_isAsk : ByteArray := prog_1_method_41_code
def yX7_isAsk : MethodName := ⟨RX7, "isAsk", "(I)Z"⟩
abbrev cX7_bring : ByteArray := prog_1_method_42_code
def yX7_bring : MethodName := ⟨RX7, "bring", "(IIIII)I"⟩
abbrev cX7_lineUp : ByteArray := prog_1_method_43_code
def yX7_lineUp : MethodName := ⟨RX7, "lineUp", "(I)V"⟩
abbrev cX7_isTooEarly : ByteArray := prog_1_method_44_code
def yX7_isTooEarly : MethodName := ⟨RX7, "isTooEarly", "(II)Z"⟩
abbrev cX7_ways : ByteArray := prog_1_method_45_code
def yX7_ways : MethodName := ⟨RX7, "ways", "()I"⟩
abbrev cX7_askInAllWays : ByteArray := prog_1_method_46_code
def yX7_askInAllWays : MethodName := ⟨RX7, "askInAllWays", "(III)V"⟩
abbrev cX7_compareWays : ByteArray := prog_1_method_47_code
def yX7_compareWays : MethodName := ⟨RX7, "compareWays", "(II)I"⟩
abbrev cX7_compare : ByteArray := prog_1_method_48_code
def yX7_compare : MethodName := ⟨RX7, "compare", "(JJJJ)I"⟩
abbrev cX7_setFraction : ByteArray := prog_1_method_49_code
def yX7_setFraction : MethodName := ⟨RX7, "setFraction", "(JJ)V"⟩
abbrev cX7_commonMeasure : ByteArray := prog_1_method_50_code
def yX7_commonMeasure : MethodName := ⟨RX7, "commonMeasure", "(JJ)J"⟩
def RX8 : String := "SonsPurseModel"
def TX8 : u_T := fun k => match k with
  | 0 => ("SonsPurseModel", "now", "[I", true)
  | 1 => ("SonsPurseModel", "kept", "[I", true)
  | 2 => ("SonsPurseModel", "isKept", "[Z", true)
  | 3 => ("SonsPurseModel", "text", "[I", true)
  | 4 => ("SonsPurseModel", "textLong", "I", false)
  | 5 => ("SonsPurseModel", "above", "J", false)
  | 6 => ("SonsPurseModel", "below", "J", false)
  | 7 => ("SonsPurseModel", "holder", "[I", true)
  | 8 => ("SonsPurseModel", "endHolder", "[I", true)
  | 9 => ("SonsPurseModel", "endDay", "[I", true)
  | 10 => ("SonsPurseModel", "endHow", "[I", true)
  | 11 => ("SonsPurseModel", "parts", "[I", true)
  | 12 => ("SonsPurseModel", "posts", "[Z", true)
  | 13 => ("SonsPurseModel", "knows", "[Z", true)
  | 14 => ("SonsPurseModel", "debts", "[I", true)
  | 15 => ("SonsPurseModel", "dealNote", "[I", true)
  | 16 => ("SonsPurseModel", "dealPaid", "[I", true)
  | 17 => ("SonsPurseModel", "dealUsed", "[I", true)
  | 18 => ("SonsPurseModel", "dealLost", "[I", true)
  | 19 => ("SonsPurseModel", "dealOrdered", "[Z", true)
  | 20 => ("SonsPurseModel", "dealPosted", "[Z", true)
  | 21 => ("SonsPurseModel", "dealKnown", "[Z", true)
  | 22 => ("SonsPurseModel", "deals", "I", false)
  | 23 => ("SonsPurseModel", "laidDeals", "I", false)
  | 24 => ("SonsPurseModel", "so", "I", false)
  | 25 => ("SonsPurseModel", "doubts", "I", false)
  | 26 => ("SonsPurseModel", "dayNow", "I", false)
  | 27 => ("SonsPurseModel", "tokenAt", "I", false)
  | 28 => ("SonsPurseModel", "tokenLong", "I", false)
  | 29 => ("SonsPurseModel", "token", "I", false)
  | 30 => ("SonsPurseModel", "number", "I", false)
  | 31 => ("SonsPurseModel", "itemDay", "I", false)
  | 32 => ("SonsPurseModel", "itemKind", "I", false)
  | 33 => ("SonsPurseModel", "itemA", "I", false)
  | 34 => ("SonsPurseModel", "itemB", "I", false)
  | 35 => ("SonsPurseModel", "itemV", "I", false)
  | 36 => ("SonsPurseModel", "law", "I", false)
  | 37 => ("SonsPurseModel", "at", "I", false)
  | 38 => ("SonsPurseModel", "fault", "I", false)
  | 39 => ("SonsPurseModel", "values", "[J", true)
  | 40 => ("SonsPurseModel", "valueMany", "I", false)
  | 41 => ("SonsPurseModel", "signs", "[I", true)
  | 42 => ("SonsPurseModel", "signMany", "I", false)
  | 43 => ("SonsPurseModel", "names", "[J", true)
  | 44 => ("SonsPurseModel", "told", "J", false)
  | 45 => ("SonsPurseModel", "nets", "[I", true)
  | 46 => ("SonsPurseModel", "over", "J", false)
  | 47 => ("SonsPurseModel", "under", "J", false)
  | 48 => ("SonsPurseModel", "mayGet", "[I", true)
  | 49 => ("SonsPurseModel", "wants", "[I", true)
  | 50 => ("SonsPurseModel", "gets", "[I", true)
  | 51 => ("SonsPurseModel", "order", "[I", true)
  | 52 => ("SonsPurseModel", "overs", "[J", true)
  | _ => ("SonsPurseModel", "unders", "[J", true)
def tyX8 : Nat → FieldType := fun k => match k with
  | 0 => .array .int
  | 1 => .array .int
  | 2 => .array .boolean
  | 3 => .array .int
  | 4 => .int
  | 5 => .long
  | 6 => .long
  | 7 => .array .int
  | 8 => .array .int
  | 9 => .array .int
  | 10 => .array .int
  | 11 => .array .int
  | 12 => .array .boolean
  | 13 => .array .boolean
  | 14 => .array .int
  | 15 => .array .int
  | 16 => .array .int
  | 17 => .array .int
  | 18 => .array .int
  | 19 => .array .boolean
  | 20 => .array .boolean
  | 21 => .array .boolean
  | 22 => .int
  | 23 => .int
  | 24 => .int
  | 25 => .int
  | 26 => .int
  | 27 => .int
  | 28 => .int
  | 29 => .int
  | 30 => .int
  | 31 => .int
  | 32 => .int
  | 33 => .int
  | 34 => .int
  | 35 => .int
  | 36 => .int
  | 37 => .int
  | 38 => .int
  | 39 => .array .long
  | 40 => .int
  | 41 => .array .int
  | 42 => .int
  | 43 => .array .long
  | 44 => .long
  | 45 => .array .int
  | 46 => .long
  | 47 => .long
  | 48 => .array .int
  | 49 => .array .int
  | 50 => .array .int
  | 51 => .array .int
  | 52 => .array .long
  | _ => .array .long
abbrev wsX80 : List Cond := u_ws RX8 TX8 54
theorem nmX8 : ∀ a, a < 54 → ∀ b, b < 54 → a ≠ b → (TX8 a).2.1 ≠ (TX8 b).2.1 := by decide +kernel
theorem tyX8_ok : ∀ k, k < 54 → parseFieldDescriptor (TX8 k).2.2.1 = some (tyX8 k) := by decide +kernel
abbrev cX8_init : ByteArray := prog_10_method_1_code
def yX8_init : MethodName := ⟨RX8, "<init>", "()V"⟩
abbrev cX8_isIn : ByteArray := prog_10_method_3_code
def yX8_isIn : MethodName := ⟨RX8, "isIn", "(JJJ)Z"⟩
abbrev cX8_persons : ByteArray := prog_10_method_4_code
def yX8_persons : MethodName := ⟨RX8, "persons", "()I"⟩
abbrev cX8_notes : ByteArray := prog_10_method_5_code
def yX8_notes : MethodName := ⟨RX8, "notes", "()I"⟩
abbrev cX8_of : ByteArray := prog_10_method_6_code
def yX8_of : MethodName := ⟨RX8, "of", "(II)I"⟩
abbrev cX8_isPerson : ByteArray := prog_10_method_7_code
def yX8_isPerson : MethodName := ⟨RX8, "isPerson", "(I)Z"⟩
abbrev cX8_isTrade : ByteArray := prog_10_method_8_code
def yX8_isTrade : MethodName := ⟨RX8, "isTrade", "(I)Z"⟩
abbrev cX8_isSum : ByteArray := prog_10_method_9_code
def yX8_isSum : MethodName := ⟨RX8, "isSum", "(I)Z"⟩
abbrev cX8_isDay : ByteArray := prog_10_method_10_code
def yX8_isDay : MethodName := ⟨RX8, "isDay", "(I)Z"⟩
abbrev cX8_layDay : ByteArray := prog_10_method_11_code
def yX8_layDay : MethodName := ⟨RX8, "layDay", "(I)V"⟩
abbrev cX8_lay : ByteArray := prog_10_method_12_code
def yX8_lay : MethodName := ⟨RX8, "lay", "(IIIII)V"⟩
abbrev cX8_layDeal : ByteArray := prog_10_method_13_code
def yX8_layDeal : MethodName := ⟨RX8, "layDeal", "(II)V"⟩
abbrev cX8_manOf : ByteArray := prog_10_method_14_code
def yX8_manOf : MethodName := ⟨RX8, "manOf", "(I)I"⟩
abbrev cX8_tradeOf : ByteArray := prog_10_method_15_code
def yX8_tradeOf : MethodName := ⟨RX8, "tradeOf", "(I)I"⟩
abbrev cX8_owedOf : ByteArray := prog_10_method_16_code
def yX8_owedOf : MethodName := ⟨RX8, "owedOf", "(I)I"⟩
abbrev cX8_thereOf : ByteArray := prog_10_method_17_code
def yX8_thereOf : MethodName := ⟨RX8, "thereOf", "(I)I"⟩
abbrev cX8_person : ByteArray := prog_10_method_18_code
def yX8_person : MethodName := ⟨RX8, "person", "()I"⟩
abbrev cX8_isDeal : ByteArray := prog_10_method_19_code
def yX8_isDeal : MethodName := ⟨RX8, "isDeal", "(I)Z"⟩
abbrev cX8_fits : ByteArray := prog_10_method_20_code
def yX8_fits : MethodName := ⟨RX8, "fits", "(IIII)Z"⟩
abbrev cX8_isUnder : ByteArray := prog_10_method_21_code
def yX8_isUnder : MethodName := ⟨RX8, "isUnder", "(II)Z"⟩
abbrev cX8_may : ByteArray := prog_10_method_22_code
def yX8_may : MethodName := ⟨RX8, "may", "(IIII)Z"⟩
abbrev cX8_namesB : ByteArray := prog_10_method_23_code
def yX8_namesB : MethodName := ⟨RX8, "namesB", "(I)Z"⟩
abbrev cX8_namesV : ByteArray := prog_10_method_24_code
def yX8_namesV : MethodName := ⟨RX8, "namesV", "(I)Z"⟩
abbrev cX8_note : ByteArray := prog_10_method_25_code
def yX8_note : MethodName := ⟨RX8, "note", "(IIIII)I"⟩
abbrev cX8_doubtMany : ByteArray := prog_10_method_26_code
def yX8_doubtMany : MethodName := ⟨RX8, "doubtMany", "()I"⟩
abbrev cX8_doubt : ByteArray := prog_10_method_27_code
def yX8_doubt : MethodName := ⟨RX8, "doubt", "(IZ)I"⟩
abbrev cX8_type : ByteArray := prog_10_method_28_code
def yX8_type : MethodName := ⟨RX8, "type", "(JI)I"⟩
abbrev cX8_clear : ByteArray := prog_10_method_29_code
def yX8_clear : MethodName := ⟨RX8, "clear", "()I"⟩
abbrev cX8_isSmall : ByteArray := prog_10_method_30_code
def yX8_isSmall : MethodName := ⟨RX8, "isSmall", "(I)Z"⟩
abbrev cX8_isFigure : ByteArray := prog_10_method_31_code
def yX8_isFigure : MethodName := ⟨RX8, "isFigure", "(I)Z"⟩
abbrev cX8_look : ByteArray := prog_10_method_32_code
def yX8_look : MethodName := ⟨RX8, "look", "(I)V"⟩
abbrev cX8_next : ByteArray := prog_10_method_33_code
def yX8_next : MethodName := ⟨RX8, "next", "()V"⟩
abbrev cX8_wordCode : ByteArray := prog_10_method_34_code
def yX8_wordCode : MethodName := ⟨RX8, "wordCode", "()I"⟩
abbrev cX8_code : ByteArray := prog_10_method_35_code
def yX8_code : MethodName := ⟨RX8, "code", "(IIIIII)I"⟩
abbrev cX8_verb : ByteArray := prog_10_method_36_code
def yX8_verb : MethodName := ⟨RX8, "verb", "()I"⟩
abbrev cX8_verbCode : ByteArray := prog_10_method_37_code
def yX8_verbCode : MethodName := ⟨RX8, "verbCode", "(I)I"⟩
abbrev cX8_readItem : ByteArray := prog_10_method_38_code
def yX8_readItem : MethodName := ⟨RX8, "readItem", "()Z"⟩
abbrev cX8_read : ByteArray := prog_10_method_39_code
def yX8_read : MethodName := ⟨RX8, "read", "()I"⟩
abbrev cX8_isLaw : ByteArray := prog_10_method_40_code
def yX8_isLaw : MethodName := ⟨RX8, "isLaw", "(I)Z"⟩
abbrev cX8_write : ByteArray := prog_10_method_41_code
def yX8_write : MethodName := ⟨RX8, "write", "(II)I"⟩
abbrev cX8_erase : ByteArray := prog_10_method_42_code
def yX8_erase : MethodName := ⟨RX8, "erase", "(I)I"⟩
abbrev cX8_lawLong : ByteArray := prog_10_method_43_code
def yX8_lawLong : MethodName := ⟨RX8, "lawLong", "()I"⟩
abbrev cX8_charAt : ByteArray := prog_10_method_44_code
def yX8_charAt : MethodName := ⟨RX8, "charAt", "(I)I"⟩
abbrev cX8_ahead : ByteArray := prog_10_method_45_code
def yX8_ahead : MethodName := ⟨RX8, "ahead", "()I"⟩
abbrev cX8_rank : ByteArray := prog_10_method_46_code
def yX8_rank : MethodName := ⟨RX8, "rank", "(I)I"⟩
abbrev cX8_workOut : ByteArray := prog_10_method_47_code
def yX8_workOut : MethodName := ⟨RX8, "workOut", "()V"⟩
abbrev cX8_workDown : ByteArray := prog_10_method_48_code
def yX8_workDown : MethodName := ⟨RX8, "workDown", "(I)V"⟩
abbrev cX8_stands : ByteArray := prog_10_method_49_code
def yX8_stands : MethodName := ⟨RX8, "stands", "(J)V"⟩
abbrev cX8_nameOf : ByteArray := prog_10_method_50_code
def yX8_nameOf : MethodName := ⟨RX8, "nameOf", "(I)I"⟩
abbrev cX8_digits : ByteArray := prog_10_method_51_code
def yX8_digits : MethodName := ⟨RX8, "digits", "()J"⟩
abbrev cX8_reads : ByteArray := prog_10_method_52_code
def yX8_reads : MethodName := ⟨RX8, "reads", "()Z"⟩
abbrev cX8_fault : ByteArray := prog_10_method_53_code
def yX8_fault : MethodName := ⟨RX8, "fault", "(I)I"⟩
abbrev cX8_inAll : ByteArray := prog_10_method_54_code
def yX8_inAll : MethodName := ⟨RX8, "inAll", "(I)I"⟩
abbrev cX8_secondOf : ByteArray := prog_10_method_55_code
def yX8_secondOf : MethodName := ⟨RX8, "secondOf", "(I)I"⟩
abbrev cX8_ownOf : ByteArray := prog_10_method_56_code
def yX8_ownOf : MethodName := ⟨RX8, "ownOf", "(II)I"⟩
abbrev cX8_netOf : ByteArray := prog_10_method_57_code
def yX8_netOf : MethodName := ⟨RX8, "netOf", "(IIII)I"⟩
abbrev cX8_findNets : ByteArray := prog_10_method_58_code
def yX8_findNets : MethodName := ⟨RX8, "findNets", "()V"⟩
abbrev cX8_layAll : ByteArray := prog_10_method_59_code
def yX8_layAll : MethodName := ⟨RX8, "layAll", "(I)V"⟩
abbrev cX8_layToday : ByteArray := prog_10_method_60_code
def yX8_layToday : MethodName := ⟨RX8, "layToday", "(I)V"⟩
abbrev cX8_holder : ByteArray := prog_10_method_61_code
def yX8_holder : MethodName := ⟨RX8, "holder", "(II)I"⟩
abbrev cX8_in : ByteArray := prog_10_method_62_code
def yX8_in : MethodName := ⟨RX8, "in", "(III)I"⟩
abbrev cX8_own : ByteArray := prog_10_method_63_code
def yX8_own : MethodName := ⟨RX8, "own", "(III)I"⟩
abbrev cX8_net : ByteArray := prog_10_method_64_code
def yX8_net : MethodName := ⟨RX8, "net", "(III)I"⟩
abbrev cX8_isAsked : ByteArray := prog_10_method_65_code
def yX8_isAsked : MethodName := ⟨RX8, "isAsked", "(II)Z"⟩
abbrev cX8_isEarly : ByteArray := prog_10_method_66_code
def yX8_isEarly : MethodName := ⟨RX8, "isEarly", "(II)Z"⟩
abbrev cX8_owed : ByteArray := prog_10_method_67_code
def yX8_owed : MethodName := ⟨RX8, "owed", "(II)I"⟩
abbrev cX8_whoOf : ByteArray := prog_10_method_68_code
def yX8_whoOf : MethodName := ⟨RX8, "whoOf", "(I)I"⟩
abbrev cX8_answers : ByteArray := prog_10_method_69_code
def yX8_answers : MethodName := ⟨RX8, "answers", "(II)I"⟩
abbrev cX8_hiddenOf : ByteArray := prog_10_method_70_code
def yX8_hiddenOf : MethodName := ⟨RX8, "hiddenOf", "(I)I"⟩
abbrev cX8_isOpen : ByteArray := prog_10_method_71_code
def yX8_isOpen : MethodName := ⟨RX8, "isOpen", "(I)Z"⟩
abbrev cX8_askOf : ByteArray := prog_10_method_72_code
def yX8_askOf : MethodName := ⟨RX8, "askOf", "(III)V"⟩
abbrev cX8_shareOf : ByteArray := prog_10_method_73_code
def yX8_shareOf : MethodName := ⟨RX8, "shareOf", "(IJ)V"⟩
abbrev cX8_tell : ByteArray := prog_10_method_74_code
def yX8_tell : MethodName := ⟨RX8, "tell", "(JJ)V"⟩
abbrev cX8_isAsk : ByteArray := prog_10_method_75_code
def yX8_isAsk : MethodName := ⟨RX8, "isAsk", "(I)Z"⟩
abbrev cX8_ask : ByteArray := prog_10_method_76_code
def yX8_ask : MethodName := ⟨RX8, "ask", "(III)I"⟩
abbrev cX8_best : ByteArray := prog_10_method_77_code
def yX8_best : MethodName := ⟨RX8, "best", "(II)I"⟩
abbrev cX8_lined : ByteArray := prog_10_method_78_code
def yX8_lined : MethodName := ⟨RX8, "lined", "()I"⟩
abbrev cX8_line : ByteArray := prog_10_method_79_code
def yX8_line : MethodName := ⟨RX8, "line", "(I)I"⟩
abbrev cX8_unline : ByteArray := prog_10_method_80_code
def yX8_unline : MethodName := ⟨RX8, "unline", "()I"⟩
abbrev cX8_isLaid : ByteArray := prog_10_method_81_code
def yX8_isLaid : MethodName := ⟨RX8, "isLaid", "(I)Z"⟩
abbrev cX8_layLine : ByteArray := prog_10_method_82_code
def yX8_layLine : MethodName := ⟨RX8, "layLine", "(I)V"⟩
abbrev cX8_serve : ByteArray := prog_10_method_83_code
def yX8_serve : MethodName := ⟨RX8, "serve", "(I)V"⟩
abbrev cX8_sharedOf : ByteArray := prog_10_method_84_code
def yX8_sharedOf : MethodName := ⟨RX8, "sharedOf", "(II)I"⟩
abbrev cX8_isPlace : ByteArray := prog_10_method_85_code
def yX8_isPlace : MethodName := ⟨RX8, "isPlace", "(I)Z"⟩
abbrev cX8_served : ByteArray := prog_10_method_86_code
def yX8_served : MethodName := ⟨RX8, "served", "(II)I"⟩
abbrev cX8_nextOrder : ByteArray := prog_10_method_87_code
def yX8_nextOrder : MethodName := ⟨RX8, "nextOrder", "()Z"⟩
abbrev cX8_swap : ByteArray := prog_10_method_88_code
def yX8_swap : MethodName := ⟨RX8, "swap", "(II)V"⟩
abbrev cX8_orders : ByteArray := prog_10_method_89_code
def yX8_orders : MethodName := ⟨RX8, "orders", "(III)I"⟩
abbrev cX8_getsBy : ByteArray := prog_10_method_90_code
def yX8_getsBy : MethodName := ⟨RX8, "getsBy", "(II)V"⟩
abbrev cX8_mayShare : ByteArray := prog_10_method_91_code
def yX8_mayShare : MethodName := ⟨RX8, "mayShare", "(I)Z"⟩
abbrev cX8_isRest : ByteArray := prog_10_method_92_code
def yX8_isRest : MethodName := ⟨RX8, "isRest", "(I)Z"⟩
abbrev cX8_rests : ByteArray := prog_10_method_93_code
def yX8_rests : MethodName := ⟨RX8, "rests", "(II)I"⟩
abbrev cX8_wise : ByteArray := prog_10_method_94_code
def yX8_wise : MethodName := ⟨RX8, "wise", "(III)I"⟩
abbrev cX8_layWays : ByteArray := prog_10_method_95_code
def yX8_layWays : MethodName := ⟨RX8, "layWays", "(III)I"⟩
abbrev cX8_sure : ByteArray := prog_10_method_96_code
def yX8_sure : MethodName := ⟨RX8, "sure", "(IIII)I"⟩
abbrev cX8_hangs : ByteArray := prog_10_method_97_code
def yX8_hangs : MethodName := ⟨RX8, "hangs", "(III)I"⟩
abbrev cX8_parted : ByteArray := prog_10_method_98_code
def yX8_parted : MethodName := ⟨RX8, "parted", "(I)I"⟩
abbrev cX8_part : ByteArray := prog_10_method_99_code
def yX8_part : MethodName := ⟨RX8, "part", "(I)J"⟩
abbrev cX8_told : ByteArray := prog_10_method_100_code
def yX8_told : MethodName := ⟨RX8, "told", "(II)I"⟩
abbrev cX8_image : ByteArray := prog_10_method_101_code
def yX8_image : MethodName := ⟨RX8, "image", "(I)I"⟩
abbrev cX8_from : ByteArray := prog_10_method_102_code
def yX8_from : MethodName := ⟨RX8, "from", "(I)I"⟩
abbrev cX8_count : ByteArray := prog_10_method_103_code
def yX8_count : MethodName := ⟨RX8, "count", "(I)I"⟩
abbrev cX8_digest : ByteArray := prog_10_method_104_code
def yX8_digest : MethodName := ⟨RX8, "digest", "()J"⟩
def RJ11 : String := "java/lang/Character"
def TJ11 : u_T := fun k => match k with
  | _ => ("", "", "", false)
def tyJ11 : Nat → FieldType := fun k => match k with
  | _ => .int
abbrev wsJ110 : List Cond := u_ws RJ11 TJ11 0
theorem nmJ11 : ∀ a, a < 0 → ∀ b, b < 0 → a ≠ b → (TJ11 a).2.1 ≠ (TJ11 b).2.1 := by decide +kernel
theorem tyJ11_ok : ∀ k, k < 0 → parseFieldDescriptor (TJ11 k).2.2.1 = some (tyJ11 k) := by decide +kernel
abbrev cJ11_isValidCodePoint_9a6ad : ByteArray := prog_11_method_11_code
def yJ11_isValidCodePoint_9a6ad : MethodName := ⟨RJ11, "isValidCodePoint", "(I)Z"⟩
abbrev cJ11_highSurrogate_5068e : ByteArray := prog_11_method_28_code
def yJ11_highSurrogate_5068e : MethodName := ⟨RJ11, "highSurrogate", "(I)C"⟩
abbrev cJ11_lowSurrogate_5068e : ByteArray := prog_11_method_29_code
def yJ11_lowSurrogate_5068e : MethodName := ⟨RJ11, "lowSurrogate", "(I)C"⟩
def RJ13 : String := "java/lang/Long"
def TJ13 : u_T := fun k => match k with
  | _ => ("", "", "", false)
def tyJ13 : Nat → FieldType := fun k => match k with
  | _ => .int
abbrev wsJ130 : List Cond := u_ws RJ13 TJ13 0
theorem nmJ13 : ∀ a, a < 0 → ∀ b, b < 0 → a ≠ b → (TJ13 a).2.1 ≠ (TJ13 b).2.1 := by decide +kernel
theorem tyJ13_ok : ∀ k, k < 0 → parseFieldDescriptor (TJ13 k).2.2.1 = some (tyJ13 k) := by decide +kernel
abbrev cJ13_compare_74951 : ByteArray := prog_12_method_42_code
def yJ13_compare_74951 : MethodName := ⟨RJ13, "compare", "(JJ)I"⟩
def RJ9 : String := "java/lang/Math"
def TJ9 : u_T := fun k => match k with
  | _ => ("", "", "", false)
def tyJ9 : Nat → FieldType := fun k => match k with
  | _ => .int
abbrev wsJ90 : List Cond := u_ws RJ9 TJ9 0
theorem nmJ9 : ∀ a, a < 0 → ∀ b, b < 0 → a ≠ b → (TJ9 a).2.1 ≠ (TJ9 b).2.1 := by decide +kernel
theorem tyJ9_ok : ∀ k, k < 0 → parseFieldDescriptor (TJ9 k).2.2.1 = some (tyJ9 k) := by decide +kernel
abbrev cJ9_max_7cf53 : ByteArray := prog_13_method_65_code
def yJ9_max_7cf53 : MethodName := ⟨RJ9, "max", "(II)I"⟩
abbrev cJ9_max_f86c9 : ByteArray := prog_13_method_66_code
def yJ9_max_f86c9 : MethodName := ⟨RJ9, "max", "(JJ)J"⟩
abbrev cJ9_min_7cf53 : ByteArray := prog_13_method_69_code
def yJ9_min_7cf53 : MethodName := ⟨RJ9, "min", "(II)I"⟩
abbrev cJ9_min_f86c9 : ByteArray := prog_13_method_70_code
def yJ9_min_f86c9 : MethodName := ⟨RJ9, "min", "(JJ)J"⟩
def RJ0 : String := "java/lang/String"
def TJ0 : u_T := fun k => match k with
  | _ => ("", "", "", false)
def tyJ0 : Nat → FieldType := fun k => match k with
  | _ => .int
abbrev wsJ00 : List Cond := u_ws RJ0 TJ0 0
theorem nmJ0 : ∀ a, a < 0 → ∀ b, b < 0 → a ≠ b → (TJ0 a).2.1 ≠ (TJ0 b).2.1 := by decide +kernel
theorem tyJ0_ok : ∀ k, k < 0 → parseFieldDescriptor (TJ0 k).2.2.1 = some (tyJ0 k) := by decide +kernel
abbrev cJ0_length_8abf5 : ByteArray := prog_14_method_54_code
def yJ0_length_8abf5 : MethodName := ⟨RJ0, "length", "()I"⟩
abbrev cJ0_charAt_5068e : ByteArray := prog_14_method_56_code
def yJ0_charAt_5068e : MethodName := ⟨RJ0, "charAt", "(I)C"⟩
abbrev cJ0_indexOf_0f7a4 : ByteArray := prog_14_method_79_code
def yJ0_indexOf_0f7a4 : MethodName := ⟨RJ0, "indexOf", "(I)I"⟩
abbrev cJ0_indexOf_7cf53 : ByteArray := prog_14_method_80_code
def yJ0_indexOf_7cf53 : MethodName := ⟨RJ0, "indexOf", "(II)I"⟩
abbrev cJ0_coder_7d493 : ByteArray := prog_14_method_152_code
def yJ0_coder_7d493 : MethodName := ⟨RJ0, "coder", "()B"⟩
abbrev cJ0_isLatin1_aae02 : ByteArray := prog_14_method_154_code
def yJ0_isLatin1_aae02 : MethodName := ⟨RJ0, "isLatin1", "()Z"⟩
abbrev cJ0_checkIndex_df160 : ByteArray := prog_14_method_155_code
def yJ0_checkIndex_df160 : MethodName := ⟨RJ0, "checkIndex", "(II)V"⟩
abbrev cJ0_checkBoundsBeginEnd_23922 : ByteArray := prog_14_method_158_code
def yJ0_checkBoundsBeginEnd_23922 : MethodName := ⟨RJ0, "checkBoundsBeginEnd", "(III)V"⟩
def RJ1 : String := "java/lang/StringLatin1"
def TJ1 : u_T := fun k => match k with
  | _ => ("", "", "", false)
def tyJ1 : Nat → FieldType := fun k => match k with
  | _ => .int
abbrev wsJ10 : List Cond := u_ws RJ1 TJ1 0
theorem nmJ1 : ∀ a, a < 0 → ∀ b, b < 0 → a ≠ b → (TJ1 a).2.1 ≠ (TJ1 b).2.1 := by decide +kernel
theorem tyJ1_ok : ∀ k, k < 0 → parseFieldDescriptor (TJ1 k).2.2.1 = some (tyJ1 k) := by decide +kernel
abbrev cJ1_charAt_3b067 : ByteArray := prog_15_method_2_code
def yJ1_charAt_3b067 : MethodName := ⟨RJ1, "charAt", "([BI)C"⟩
abbrev cJ1_canEncode_9a6ad : ByteArray := prog_15_method_4_code
def yJ1_canEncode_9a6ad : MethodName := ⟨RJ1, "canEncode", "(I)Z"⟩
abbrev cJ1_indexOf_4cfef : ByteArray := prog_15_method_22_code
def yJ1_indexOf_4cfef : MethodName := ⟨RJ1, "indexOf", "([BIII)I"⟩
abbrev cJ1_indexOfChar_4cfef : ByteArray := prog_15_method_23_code
def yJ1_indexOfChar_4cfef : MethodName := ⟨RJ1, "indexOfChar", "([BIII)I"⟩
def RJ2 : String := "java/lang/StringUTF16"
def TJ2 : u_T := fun k => match k with
  | _ => ("", "", "", false)
def tyJ2 : Nat → FieldType := fun k => match k with
  | _ => .int
abbrev wsJ20 : List Cond := u_ws RJ2 TJ2 0
theorem nmJ2 : ∀ a, a < 0 → ∀ b, b < 0 → a ≠ b → (TJ2 a).2.1 ≠ (TJ2 b).2.1 := by decide +kernel
theorem tyJ2_ok : ∀ k, k < 0 → parseFieldDescriptor (TJ2 k).2.2.1 = some (tyJ2 k) := by decide +kernel
abbrev cJ2_getChar_3b067 : ByteArray := prog_16_method_5_code
def yJ2_getChar_3b067 : MethodName := ⟨RJ2, "getChar", "([BI)C"⟩
abbrev cJ2_length_9d52b : ByteArray := prog_16_method_6_code
def yJ2_length_9d52b : MethodName := ⟨RJ2, "length", "([B)I"⟩
abbrev cJ2_indexOf_4cfef : ByteArray := prog_16_method_40_code
def yJ2_indexOf_4cfef : MethodName := ⟨RJ2, "indexOf", "([BIII)I"⟩
abbrev cJ2_indexOfChar_4cfef : ByteArray := prog_16_method_47_code
def yJ2_indexOfChar_4cfef : MethodName := ⟨RJ2, "indexOfChar", "([BIII)I"⟩
abbrev cJ2_indexOfCharUnsafe_4cfef : ByteArray := prog_16_method_48_code
def yJ2_indexOfCharUnsafe_4cfef : MethodName := ⟨RJ2, "indexOfCharUnsafe", "([BIII)I"⟩
abbrev cJ2_indexOfSupplementary_4cfef : ByteArray := prog_16_method_49_code
def yJ2_indexOfSupplementary_4cfef : MethodName := ⟨RJ2, "indexOfSupplementary", "([BIII)I"⟩
abbrev cJ2_charAt_3b067 : ByteArray := prog_16_method_83_code
def yJ2_charAt_3b067 : MethodName := ⟨RJ2, "charAt", "([BI)C"⟩
abbrev cJ2_checkIndex_2214a : ByteArray := prog_16_method_91_code
def yJ2_checkIndex_2214a : MethodName := ⟨RJ2, "checkIndex", "(I[B)V"⟩
abbrev cJ2_checkBoundsBeginEnd_d044e : ByteArray := prog_16_method_93_code
def yJ2_checkBoundsBeginEnd_d044e : MethodName := ⟨RJ2, "checkBoundsBeginEnd", "(II[B)V"⟩
def RJ10 : String := "java/lang/System"
def TJ10 : u_T := fun k => match k with
  | _ => ("", "", "", false)
def tyJ10 : Nat → FieldType := fun k => match k with
  | _ => .int
abbrev wsJ100 : List Cond := u_ws RJ10 TJ10 0
theorem nmJ10 : ∀ a, a < 0 → ∀ b, b < 0 → a ≠ b → (TJ10 a).2.1 ≠ (TJ10 b).2.1 := by decide +kernel
theorem tyJ10_ok : ∀ k, k < 0 → parseFieldDescriptor (TJ10 k).2.2.1 = some (tyJ10 k) := by decide +kernel
def RJ3 : String := "jdk/internal/util/Preconditions"
def TJ3 : u_T := fun k => match k with
  | _ => ("", "", "", false)
def tyJ3 : Nat → FieldType := fun k => match k with
  | _ => .int
abbrev wsJ30 : List Cond := u_ws RJ3 TJ3 0
theorem nmJ3 : ∀ a, a < 0 → ∀ b, b < 0 → a ≠ b → (TJ3 a).2.1 ≠ (TJ3 b).2.1 := by decide +kernel
theorem tyJ3_ok : ∀ k, k < 0 → parseFieldDescriptor (TJ3 k).2.2.1 = some (tyJ3 k) := by decide +kernel
abbrev cJ3_checkIndex_8e157 : ByteArray := prog_18_method_11_code
def yJ3_checkIndex_8e157 : MethodName := ⟨RJ3, "checkIndex", "(IILjava/util/function/BiFunction;)I"⟩
abbrev cJ3_checkFromToIndex_8c36e : ByteArray := prog_18_method_12_code
def yJ3_checkFromToIndex_8c36e : MethodName := ⟨RJ3, "checkFromToIndex", "(IIILjava/util/function/BiFunction;)I"⟩
def RL : String := "SonsPurseLaw"
abbrev cL_law : ByteArray := code
def yL_law : MethodName := ⟨RL, "law", "([I)Z"⟩
abbrev vwCl : List vw_C := [(RX0, TX0, 10), (RX1, TX1, 6), (RX2, TX2, 9), (RX3, TX3, 8), (RX4, TX4, 8), (RX5, TX5, 11), (RX6, TX6, 11), (RX7, TX7, 10), (RX8, TX8, 54)]
/-! WORDS: of the tables, by their places -/
def m_ws : List Cond := lw_tbl.filter goodWord
theorem m_mem {w : Cond} (h : w ∈ lw_tbl) (g : goodWord w = true) : w ∈ m_ws := List.mem_filter.mpr ⟨h, g⟩
theorem m_ws_in : ∀ w ∈ m_ws, w ∈ lw_tbl := fun w h => (List.mem_filter.mp h).1
theorem m_t0 {i : Nat} {w : Cond} (h : (k2_sels lw_privs)[i]? = some w) : w ∈ lw_tbl := List.mem_append_left _ (List.mem_of_getElem? h)
theorem m_t1 {i : Nat} {w : Cond} (h : tables_1_1[i]? = some w) : w ∈ lw_tbl := List.mem_append_right _ (List.mem_append_left _ (List.mem_of_getElem? h))
theorem m_t2 {i : Nat} {w : Cond} (h : tables_1_2[i]? = some w) : w ∈ lw_tbl := List.mem_append_right _ (List.mem_append_right _ (List.mem_append_left _ (List.mem_of_getElem? h)))
theorem m_t3 {i : Nat} {w : Cond} (h : tables_1_3[i]? = some w) : w ∈ lw_tbl := List.mem_append_right _ (List.mem_append_right _ (List.mem_append_right _ (List.mem_append_left _ (List.mem_of_getElem? h))))
theorem m_t4 {i : Nat} {w : Cond} (h : tables_1_4[i]? = some w) : w ∈ lw_tbl := List.mem_append_right _ (List.mem_append_right _ (List.mem_append_right _ (List.mem_append_right _ (List.mem_append_left _ (List.mem_of_getElem? h)))))
theorem m_t5 {i : Nat} {w : Cond} (h : tables_1_5[i]? = some w) : w ∈ lw_tbl := List.mem_append_right _ (List.mem_append_right _ (List.mem_append_right _ (List.mem_append_right _ (List.mem_append_right _ (List.mem_append_left _ (List.mem_of_getElem? h))))))
theorem m_t6 {i : Nat} {w : Cond} (h : tables_1_6[i]? = some w) : w ∈ lw_tbl := List.mem_append_right _ (List.mem_append_right _ (List.mem_append_right _ (List.mem_append_right _ (List.mem_append_right _ (List.mem_append_right _ (List.mem_append_left _ (List.mem_of_getElem? h)))))))
theorem m_t7 {i : Nat} {w : Cond} (h : tables_1_7[i]? = some w) : w ∈ lw_tbl := List.mem_append_right _ (List.mem_append_right _ (List.mem_append_right _ (List.mem_append_right _ (List.mem_append_right _ (List.mem_append_right _ (List.mem_append_right _ (List.mem_of_getElem? h)))))))
theorem k_n_L : Cond.initialized RL ∈ m_ws := m_mem (m_t1 (i := 0) (by decide +kernel)) (by decide +kernel)
theorem k_n_X7 : Cond.initialized RX7 ∈ m_ws := m_mem (m_t1 (i := 1) (by decide +kernel)) (by decide +kernel)
theorem k_n_X3 : Cond.initialized RX3 ∈ m_ws := m_mem (m_t1 (i := 2) (by decide +kernel)) (by decide +kernel)
theorem k_n_X4 : Cond.initialized RX4 ∈ m_ws := m_mem (m_t1 (i := 3) (by decide +kernel)) (by decide +kernel)
theorem k_n_X1 : Cond.initialized RX1 ∈ m_ws := m_mem (m_t1 (i := 4) (by decide +kernel)) (by decide +kernel)
theorem k_n_X5 : Cond.initialized RX5 ∈ m_ws := m_mem (m_t1 (i := 5) (by decide +kernel)) (by decide +kernel)
theorem k_n_X0 : Cond.initialized RX0 ∈ m_ws := m_mem (m_t1 (i := 6) (by decide +kernel)) (by decide +kernel)
theorem k_n_X6 : Cond.initialized RX6 ∈ m_ws := m_mem (m_t1 (i := 7) (by decide +kernel)) (by decide +kernel)
theorem k_n_X2 : Cond.initialized RX2 ∈ m_ws := m_mem (m_t1 (i := 8) (by decide +kernel)) (by decide +kernel)
theorem k_n_X8 : Cond.initialized RX8 ∈ m_ws := m_mem (m_t1 (i := 9) (by decide +kernel)) (by decide +kernel)
theorem k_n_J0 : Cond.initialized RJ0 ∈ m_ws := m_mem (m_t1 (i := 10) (by decide +kernel)) (by decide +kernel)
theorem k_n_J1 : Cond.initialized RJ1 ∈ m_ws := m_mem (m_t1 (i := 11) (by decide +kernel)) (by decide +kernel)
theorem k_n_J3 : Cond.initialized RJ3 ∈ m_ws := m_mem (m_t1 (i := 12) (by decide +kernel)) (by decide +kernel)
theorem k_n_J2 : Cond.initialized RJ2 ∈ m_ws := m_mem (m_t1 (i := 13) (by decide +kernel)) (by decide +kernel)
theorem k_n_J9 : Cond.initialized RJ9 ∈ m_ws := m_mem (m_t1 (i := 14) (by decide +kernel)) (by decide +kernel)
theorem k_n_J11 : Cond.initialized RJ11 ∈ m_ws := m_mem (m_t1 (i := 15) (by decide +kernel)) (by decide +kernel)
theorem k_n_J13 : Cond.initialized RJ13 ∈ m_ws := m_mem (m_t1 (i := 16) (by decide +kernel)) (by decide +kernel)
theorem k_n_J10 : Cond.initialized RJ10 ∈ m_ws := m_mem (m_t1 (i := 17) (by decide +kernel)) (by decide +kernel)
theorem k_x_L_7 : Cond.classLink RL 7 RX7 ∈ m_ws := m_mem (m_t1 (i := 18) (by decide +kernel)) (by decide +kernel)
theorem k_w_X7 : Cond.instantiable RX7 10 ∈ m_ws := m_mem (m_t1 (i := 19) (by decide +kernel)) (by decide +kernel)
theorem k_m_L_9 : Cond.methodLink RL 9 yX7_init ∈ m_ws := m_mem (m_t1 (i := 20) (by decide +kernel)) (by decide +kernel)
theorem k_i_yX7_init : Cond.instanceMethod yX7_init ∈ m_ws := m_mem (m_t1 (i := 21) (by decide +kernel)) (by decide +kernel)
theorem k_c_yX7_init : Cond.code yX7_init cX7_init 1 none ∈ m_ws := m_mem (m_t1 (i := 22) (by decide +kernel)) (by decide +kernel)
theorem k_m_X7_1 : Cond.methodLink RX7 1 objectInit ∈ m_ws := m_mem (m_t1 (i := 23) (by decide +kernel)) (by decide +kernel)
theorem k_i_objectInit : Cond.instanceMethod objectInit ∈ m_ws := m_mem (m_t1 (i := 24) (by decide +kernel)) (by decide +kernel)
theorem k_c_objectInit : Cond.code objectInit object_method_1_code 1 none ∈ m_ws := m_mem (m_t1 (i := 25) (by decide +kernel)) (by decide +kernel)
theorem k_x_X7_7 : Cond.classLink RX7 7 RX3 ∈ m_ws := m_mem (m_t1 (i := 26) (by decide +kernel)) (by decide +kernel)
theorem k_w_X3 : Cond.instantiable RX3 8 ∈ m_ws := m_mem (m_t1 (i := 27) (by decide +kernel)) (by decide +kernel)
theorem k_i_yX3_init : Cond.instanceMethod yX3_init ∈ m_ws := m_mem (m_t1 (i := 29) (by decide +kernel)) (by decide +kernel)
theorem k_c_yX3_init : Cond.code yX3_init cX3_init 1 none ∈ m_ws := m_mem (m_t1 (i := 30) (by decide +kernel)) (by decide +kernel)
theorem k_m_X3_3 : Cond.methodLink RX3 3 objectInit ∈ m_ws := m_mem (m_t1 (i := 31) (by decide +kernel)) (by decide +kernel)
theorem k_x_X3_18 : Cond.classLink RX3 18 RX4 ∈ m_ws := m_mem (m_t1 (i := 32) (by decide +kernel)) (by decide +kernel)
theorem k_w_X4 : Cond.instantiable RX4 8 ∈ m_ws := m_mem (m_t1 (i := 34) (by decide +kernel)) (by decide +kernel)
theorem k_i_yX4_init : Cond.instanceMethod yX4_init ∈ m_ws := m_mem (m_t1 (i := 36) (by decide +kernel)) (by decide +kernel)
theorem k_c_yX4_init : Cond.code yX4_init cX4_init 1 none ∈ m_ws := m_mem (m_t1 (i := 37) (by decide +kernel)) (by decide +kernel)
theorem k_m_X4_3 : Cond.methodLink RX4 3 objectInit ∈ m_ws := m_mem (m_t1 (i := 38) (by decide +kernel)) (by decide +kernel)
theorem k_f_X4_9 : Cond.fieldLink RX4 9 "SonsPurse$Law" "text" "[I" ∈ m_ws := m_mem (m_t1 (i := 39) (by decide +kernel)) (by decide +kernel)
theorem k_f_X4_29 : Cond.fieldLink RX4 29 "SonsPurse$Law" "size" "I" ∈ m_ws := m_mem (m_t1 (i := 40) (by decide +kernel)) (by decide +kernel)
theorem k_f_X7_132 : Cond.fieldLink RX7 132 "SonsPurse$Law" "size" "I" ∈ m_ws := m_mem (m_t1 (i := 41) (by decide +kernel)) (by decide +kernel)
theorem k_f_X4_15 : Cond.fieldLink RX4 15 "SonsPurse$Law" "steps" "[I" ∈ m_ws := m_mem (m_t1 (i := 42) (by decide +kernel)) (by decide +kernel)
theorem k_f_X4_18 : Cond.fieldLink RX4 18 "SonsPurse$Law" "numbers" "[J" ∈ m_ws := m_mem (m_t1 (i := 43) (by decide +kernel)) (by decide +kernel)
theorem k_f_X4_22 : Cond.fieldLink RX4 22 "SonsPurse$Law" "stack" "[J" ∈ m_ws := m_mem (m_t1 (i := 44) (by decide +kernel)) (by decide +kernel)
theorem k_f_X4_61 : Cond.fieldLink RX4 61 "SonsPurse$Law" "stepped" "I" ∈ m_ws := m_mem (m_t1 (i := 45) (by decide +kernel)) (by decide +kernel)
theorem k_f_X4_58 : Cond.fieldLink RX4 58 "SonsPurse$Law" "at" "I" ∈ m_ws := m_mem (m_t1 (i := 46) (by decide +kernel)) (by decide +kernel)
theorem k_f_X4_25 : Cond.fieldLink RX4 25 "SonsPurse$Law" "flaw" "I" ∈ m_ws := m_mem (m_t1 (i := 47) (by decide +kernel)) (by decide +kernel)
theorem k_f_X7_139 : Cond.fieldLink RX7 139 "SonsPurse$Law" "flaw" "I" ∈ m_ws := m_mem (m_t1 (i := 48) (by decide +kernel)) (by decide +kernel)
theorem k_a_int : Cond.arrayClass .int ∈ m_ws := m_mem (m_t1 (i := 66) (by decide +kernel)) (by decide +kernel)
theorem k_a_long : Cond.arrayClass .long ∈ m_ws := m_mem (m_t1 (i := 67) (by decide +kernel)) (by decide +kernel)
theorem k_f_X3_25 : Cond.fieldLink RX3 25 "SonsPurse$Kept" "persons" "I" ∈ m_ws := m_mem (m_t1 (i := 68) (by decide +kernel)) (by decide +kernel)
theorem k_f_X7_61 : Cond.fieldLink RX7 61 "SonsPurse$Kept" "persons" "I" ∈ m_ws := m_mem (m_t1 (i := 69) (by decide +kernel)) (by decide +kernel)
theorem k_f_X1_150 : Cond.fieldLink RX1 150 "SonsPurse$Kept" "persons" "I" ∈ m_ws := m_mem (m_t1 (i := 70) (by decide +kernel)) (by decide +kernel)
theorem k_f_X3_29 : Cond.fieldLink RX3 29 "SonsPurse$Kept" "notes" "I" ∈ m_ws := m_mem (m_t1 (i := 71) (by decide +kernel)) (by decide +kernel)
theorem k_f_X1_43 : Cond.fieldLink RX1 43 "SonsPurse$Kept" "notes" "I" ∈ m_ws := m_mem (m_t1 (i := 72) (by decide +kernel)) (by decide +kernel)
theorem k_f_X7_97 : Cond.fieldLink RX7 97 "SonsPurse$Kept" "notes" "I" ∈ m_ws := m_mem (m_t1 (i := 73) (by decide +kernel)) (by decide +kernel)
theorem k_f_X3_32 : Cond.fieldLink RX3 32 "SonsPurse$Kept" "deals" "I" ∈ m_ws := m_mem (m_t1 (i := 74) (by decide +kernel)) (by decide +kernel)
theorem k_f_X7_100 : Cond.fieldLink RX7 100 "SonsPurse$Kept" "deals" "I" ∈ m_ws := m_mem (m_t1 (i := 75) (by decide +kernel)) (by decide +kernel)
theorem k_f_X3_35 : Cond.fieldLink RX3 35 "SonsPurse$Kept" "doubted" "I" ∈ m_ws := m_mem (m_t1 (i := 76) (by decide +kernel)) (by decide +kernel)
theorem k_f_X7_79 : Cond.fieldLink RX7 79 "SonsPurse$Kept" "doubted" "I" ∈ m_ws := m_mem (m_t1 (i := 77) (by decide +kernel)) (by decide +kernel)
theorem k_f_X6_37 : Cond.fieldLink RX6 37 "SonsPurse$Kept" "lined" "I" ∈ m_ws := m_mem (m_t1 (i := 78) (by decide +kernel)) (by decide +kernel)
theorem k_f_X3_38 : Cond.fieldLink RX3 38 "SonsPurse$Kept" "lined" "I" ∈ m_ws := m_mem (m_t1 (i := 79) (by decide +kernel)) (by decide +kernel)
theorem k_f_X7_220 : Cond.fieldLink RX7 220 "SonsPurse$Kept" "lined" "I" ∈ m_ws := m_mem (m_t1 (i := 80) (by decide +kernel)) (by decide +kernel)
theorem k_f_X3_9 : Cond.fieldLink RX3 9 "SonsPurse$Kept" "rows" "[I" ∈ m_ws := m_mem (m_t1 (i := 81) (by decide +kernel)) (by decide +kernel)
theorem k_f_X1_48 : Cond.fieldLink RX1 48 "SonsPurse$Kept" "rows" "[I" ∈ m_ws := m_mem (m_t1 (i := 82) (by decide +kernel)) (by decide +kernel)
theorem k_f_X7_270 : Cond.fieldLink RX7 270 "SonsPurse$Kept" "rows" "[I" ∈ m_ws := m_mem (m_t1 (i := 83) (by decide +kernel)) (by decide +kernel)
theorem k_f_X3_15 : Cond.fieldLink RX3 15 "SonsPurse$Kept" "line" "[I" ∈ m_ws := m_mem (m_t1 (i := 84) (by decide +kernel)) (by decide +kernel)
theorem k_f_X6_50 : Cond.fieldLink RX6 50 "SonsPurse$Kept" "line" "[I" ∈ m_ws := m_mem (m_t1 (i := 85) (by decide +kernel)) (by decide +kernel)
theorem k_f_X7_223 : Cond.fieldLink RX7 223 "SonsPurse$Kept" "line" "[I" ∈ m_ws := m_mem (m_t1 (i := 86) (by decide +kernel)) (by decide +kernel)
theorem k_f_X3_21 : Cond.fieldLink RX3 21 "SonsPurse$Kept" "laws" "[LSonsPurse$Law;" ∈ m_ws := m_mem (m_t1 (i := 87) (by decide +kernel)) (by decide +kernel)
theorem k_f_X7_128 : Cond.fieldLink RX7 128 "SonsPurse$Kept" "laws" "[LSonsPurse$Law;" ∈ m_ws := m_mem (m_t1 (i := 88) (by decide +kernel)) (by decide +kernel)
theorem k_f_X1_175 : Cond.fieldLink RX1 175 "SonsPurse$Kept" "laws" "[LSonsPurse$Law;" ∈ m_ws := m_mem (m_t1 (i := 89) (by decide +kernel)) (by decide +kernel)
theorem k_x_X7_24 : Cond.classLink RX7 24 RX1 ∈ m_ws := m_mem (m_t1 (i := 108) (by decide +kernel)) (by decide +kernel)
theorem k_w_X1 : Cond.instantiable RX1 6 ∈ m_ws := m_mem (m_t1 (i := 109) (by decide +kernel)) (by decide +kernel)
theorem k_m_X7_26 : Cond.methodLink RX7 26 yX1_init ∈ m_ws := m_mem (m_t1 (i := 110) (by decide +kernel)) (by decide +kernel)
theorem k_i_yX1_init : Cond.instanceMethod yX1_init ∈ m_ws := m_mem (m_t1 (i := 111) (by decide +kernel)) (by decide +kernel)
theorem k_c_yX1_init : Cond.code yX1_init cX1_init 3 none ∈ m_ws := m_mem (m_t1 (i := 112) (by decide +kernel)) (by decide +kernel)
theorem k_m_X1_3 : Cond.methodLink RX1 3 objectInit ∈ m_ws := m_mem (m_t1 (i := 113) (by decide +kernel)) (by decide +kernel)
theorem k_x_X1_9 : Cond.classLink RX1 9 RX5 ∈ m_ws := m_mem (m_t1 (i := 114) (by decide +kernel)) (by decide +kernel)
theorem k_x_X1_17 : Cond.classLink RX1 17 RX0 ∈ m_ws := m_mem (m_t1 (i := 116) (by decide +kernel)) (by decide +kernel)
theorem k_w_X5 : Cond.instantiable RX5 11 ∈ m_ws := m_mem (m_t1 (i := 118) (by decide +kernel)) (by decide +kernel)
theorem k_i_yX5_init : Cond.instanceMethod yX5_init ∈ m_ws := m_mem (m_t1 (i := 120) (by decide +kernel)) (by decide +kernel)
theorem k_c_yX5_init : Cond.code yX5_init cX5_init 1 none ∈ m_ws := m_mem (m_t1 (i := 121) (by decide +kernel)) (by decide +kernel)
theorem k_m_X5_3 : Cond.methodLink RX5 3 objectInit ∈ m_ws := m_mem (m_t1 (i := 122) (by decide +kernel)) (by decide +kernel)
theorem k_f_X5_25 : Cond.fieldLink RX5 25 "SonsPurse$Person" "hand" "I" ∈ m_ws := m_mem (m_t1 (i := 123) (by decide +kernel)) (by decide +kernel)
theorem k_f_X1_137 : Cond.fieldLink RX1 137 "SonsPurse$Person" "hand" "I" ∈ m_ws := m_mem (m_t1 (i := 124) (by decide +kernel)) (by decide +kernel)
theorem k_f_X7_156 : Cond.fieldLink RX7 156 "SonsPurse$Person" "hand" "I" ∈ m_ws := m_mem (m_t1 (i := 125) (by decide +kernel)) (by decide +kernel)
theorem k_f_X5_29 : Cond.fieldLink RX5 29 "SonsPurse$Person" "lastHand" "I" ∈ m_ws := m_mem (m_t1 (i := 126) (by decide +kernel)) (by decide +kernel)
theorem k_f_X1_188 : Cond.fieldLink RX1 188 "SonsPurse$Person" "lastHand" "I" ∈ m_ws := m_mem (m_t1 (i := 127) (by decide +kernel)) (by decide +kernel)
theorem k_f_X5_32 : Cond.fieldLink RX5 32 "SonsPurse$Person" "endDay" "I" ∈ m_ws := m_mem (m_t1 (i := 128) (by decide +kernel)) (by decide +kernel)
theorem k_f_X1_194 : Cond.fieldLink RX1 194 "SonsPurse$Person" "endDay" "I" ∈ m_ws := m_mem (m_t1 (i := 129) (by decide +kernel)) (by decide +kernel)
theorem k_f_X5_35 : Cond.fieldLink RX5 35 "SonsPurse$Person" "endWay" "I" ∈ m_ws := m_mem (m_t1 (i := 130) (by decide +kernel)) (by decide +kernel)
theorem k_f_X1_191 : Cond.fieldLink RX1 191 "SonsPurse$Person" "endWay" "I" ∈ m_ws := m_mem (m_t1 (i := 131) (by decide +kernel)) (by decide +kernel)
theorem k_f_X5_38 : Cond.fieldLink RX5 38 "SonsPurse$Person" "hidden" "I" ∈ m_ws := m_mem (m_t1 (i := 132) (by decide +kernel)) (by decide +kernel)
theorem k_f_X0_28 : Cond.fieldLink RX0 28 "SonsPurse$Person" "hidden" "I" ∈ m_ws := m_mem (m_t1 (i := 133) (by decide +kernel)) (by decide +kernel)
theorem k_f_X1_109 : Cond.fieldLink RX1 109 "SonsPurse$Person" "hidden" "I" ∈ m_ws := m_mem (m_t1 (i := 134) (by decide +kernel)) (by decide +kernel)
theorem k_f_X5_41 : Cond.fieldLink RX5 41 "SonsPurse$Person" "second" "I" ∈ m_ws := m_mem (m_t1 (i := 135) (by decide +kernel)) (by decide +kernel)
theorem k_f_X1_159 : Cond.fieldLink RX1 159 "SonsPurse$Person" "second" "I" ∈ m_ws := m_mem (m_t1 (i := 136) (by decide +kernel)) (by decide +kernel)
theorem k_f_X7_171 : Cond.fieldLink RX7 171 "SonsPurse$Person" "second" "I" ∈ m_ws := m_mem (m_t1 (i := 137) (by decide +kernel)) (by decide +kernel)
theorem k_f_X5_44 : Cond.fieldLink RX5 44 "SonsPurse$Person" "steps" "I" ∈ m_ws := m_mem (m_t1 (i := 138) (by decide +kernel)) (by decide +kernel)
theorem k_f_X1_156 : Cond.fieldLink RX1 156 "SonsPurse$Person" "steps" "I" ∈ m_ws := m_mem (m_t1 (i := 139) (by decide +kernel)) (by decide +kernel)
theorem k_f_X5_9 : Cond.fieldLink RX5 9 "SonsPurse$Person" "parts" "[I" ∈ m_ws := m_mem (m_t1 (i := 140) (by decide +kernel)) (by decide +kernel)
theorem k_f_X1_106 : Cond.fieldLink RX1 106 "SonsPurse$Person" "parts" "[I" ∈ m_ws := m_mem (m_t1 (i := 141) (by decide +kernel)) (by decide +kernel)
theorem k_f_X5_15 : Cond.fieldLink RX5 15 "SonsPurse$Person" "debts" "[I" ∈ m_ws := m_mem (m_t1 (i := 142) (by decide +kernel)) (by decide +kernel)
theorem k_f_X1_119 : Cond.fieldLink RX1 119 "SonsPurse$Person" "debts" "[I" ∈ m_ws := m_mem (m_t1 (i := 143) (by decide +kernel)) (by decide +kernel)
theorem k_f_X5_18 : Cond.fieldLink RX5 18 "SonsPurse$Person" "isSet" "[Z" ∈ m_ws := m_mem (m_t1 (i := 144) (by decide +kernel)) (by decide +kernel)
theorem k_f_X0_40 : Cond.fieldLink RX0 40 "SonsPurse$Person" "isSet" "[Z" ∈ m_ws := m_mem (m_t1 (i := 145) (by decide +kernel)) (by decide +kernel)
theorem k_f_X1_112 : Cond.fieldLink RX1 112 "SonsPurse$Person" "isSet" "[Z" ∈ m_ws := m_mem (m_t1 (i := 146) (by decide +kernel)) (by decide +kernel)
theorem k_f_X5_22 : Cond.fieldLink RX5 22 "SonsPurse$Person" "isKnown" "[Z" ∈ m_ws := m_mem (m_t1 (i := 147) (by decide +kernel)) (by decide +kernel)
theorem k_f_X0_47 : Cond.fieldLink RX0 47 "SonsPurse$Person" "isKnown" "[Z" ∈ m_ws := m_mem (m_t1 (i := 148) (by decide +kernel)) (by decide +kernel)
theorem k_f_X1_116 : Cond.fieldLink RX1 116 "SonsPurse$Person" "isKnown" "[Z" ∈ m_ws := m_mem (m_t1 (i := 149) (by decide +kernel)) (by decide +kernel)
theorem k_a_boolean : Cond.arrayClass .boolean ∈ m_ws := m_mem (m_t1 (i := 173) (by decide +kernel)) (by decide +kernel)
theorem k_w_X0 : Cond.instantiable RX0 10 ∈ m_ws := m_mem (m_t1 (i := 174) (by decide +kernel)) (by decide +kernel)
theorem k_i_yX0_init : Cond.instanceMethod yX0_init ∈ m_ws := m_mem (m_t1 (i := 176) (by decide +kernel)) (by decide +kernel)
theorem k_c_yX0_init : Cond.code yX0_init cX0_init 1 none ∈ m_ws := m_mem (m_t1 (i := 177) (by decide +kernel)) (by decide +kernel)
theorem k_m_X0_1 : Cond.methodLink RX0 1 objectInit ∈ m_ws := m_mem (m_t1 (i := 178) (by decide +kernel)) (by decide +kernel)
theorem k_f_X0_7 : Cond.fieldLink RX0 7 "SonsPurse$Deal" "maker" "I" ∈ m_ws := m_mem (m_t1 (i := 179) (by decide +kernel)) (by decide +kernel)
theorem k_f_X6_67 : Cond.fieldLink RX6 67 "SonsPurse$Deal" "maker" "I" ∈ m_ws := m_mem (m_t1 (i := 180) (by decide +kernel)) (by decide +kernel)
theorem k_f_X1_185 : Cond.fieldLink RX1 185 "SonsPurse$Deal" "maker" "I" ∈ m_ws := m_mem (m_t1 (i := 181) (by decide +kernel)) (by decide +kernel)
theorem k_f_X0_13 : Cond.fieldLink RX0 13 "SonsPurse$Deal" "trade" "I" ∈ m_ws := m_mem (m_t1 (i := 182) (by decide +kernel)) (by decide +kernel)
theorem k_f_X6_71 : Cond.fieldLink RX6 71 "SonsPurse$Deal" "trade" "I" ∈ m_ws := m_mem (m_t1 (i := 183) (by decide +kernel)) (by decide +kernel)
theorem k_f_X1_235 : Cond.fieldLink RX1 235 "SonsPurse$Deal" "trade" "I" ∈ m_ws := m_mem (m_t1 (i := 184) (by decide +kernel)) (by decide +kernel)
theorem k_f_X0_16 : Cond.fieldLink RX0 16 "SonsPurse$Deal" "sum" "I" ∈ m_ws := m_mem (m_t1 (i := 185) (by decide +kernel)) (by decide +kernel)
theorem k_f_X1_140 : Cond.fieldLink RX1 140 "SonsPurse$Deal" "sum" "I" ∈ m_ws := m_mem (m_t1 (i := 186) (by decide +kernel)) (by decide +kernel)
theorem k_f_X0_19 : Cond.fieldLink RX0 19 "SonsPurse$Deal" "paid" "I" ∈ m_ws := m_mem (m_t1 (i := 187) (by decide +kernel)) (by decide +kernel)
theorem k_f_X1_100 : Cond.fieldLink RX1 100 "SonsPurse$Deal" "paid" "I" ∈ m_ws := m_mem (m_t1 (i := 188) (by decide +kernel)) (by decide +kernel)
theorem k_f_X0_22 : Cond.fieldLink RX0 22 "SonsPurse$Deal" "came" "I" ∈ m_ws := m_mem (m_t1 (i := 189) (by decide +kernel)) (by decide +kernel)
theorem k_f_X1_94 : Cond.fieldLink RX1 94 "SonsPurse$Deal" "came" "I" ∈ m_ws := m_mem (m_t1 (i := 190) (by decide +kernel)) (by decide +kernel)
theorem k_f_X0_25 : Cond.fieldLink RX0 25 "SonsPurse$Deal" "gone" "I" ∈ m_ws := m_mem (m_t1 (i := 191) (by decide +kernel)) (by decide +kernel)
theorem k_f_X1_97 : Cond.fieldLink RX1 97 "SonsPurse$Deal" "gone" "I" ∈ m_ws := m_mem (m_t1 (i := 192) (by decide +kernel)) (by decide +kernel)
theorem k_f_X0_33 : Cond.fieldLink RX0 33 "SonsPurse$Deal" "hiddenAhead" "I" ∈ m_ws := m_mem (m_t1 (i := 193) (by decide +kernel)) (by decide +kernel)
theorem k_f_X1_197 : Cond.fieldLink RX1 197 "SonsPurse$Deal" "hiddenAhead" "I" ∈ m_ws := m_mem (m_t1 (i := 194) (by decide +kernel)) (by decide +kernel)
theorem k_f_X0_36 : Cond.fieldLink RX0 36 "SonsPurse$Deal" "isOrdered" "Z" ∈ m_ws := m_mem (m_t1 (i := 195) (by decide +kernel)) (by decide +kernel)
theorem k_f_X1_90 : Cond.fieldLink RX1 90 "SonsPurse$Deal" "isOrdered" "Z" ∈ m_ws := m_mem (m_t1 (i := 196) (by decide +kernel)) (by decide +kernel)
theorem k_f_X0_44 : Cond.fieldLink RX0 44 "SonsPurse$Deal" "isSetAhead" "Z" ∈ m_ws := m_mem (m_t1 (i := 197) (by decide +kernel)) (by decide +kernel)
theorem k_f_X1_215 : Cond.fieldLink RX1 215 "SonsPurse$Deal" "isSetAhead" "Z" ∈ m_ws := m_mem (m_t1 (i := 198) (by decide +kernel)) (by decide +kernel)
theorem k_f_X0_50 : Cond.fieldLink RX0 50 "SonsPurse$Deal" "isKnownAhead" "Z" ∈ m_ws := m_mem (m_t1 (i := 199) (by decide +kernel)) (by decide +kernel)
theorem k_f_X6_100 : Cond.fieldLink RX6 100 "SonsPurse$Deal" "isKnownAhead" "Z" ∈ m_ws := m_mem (m_t1 (i := 200) (by decide +kernel)) (by decide +kernel)
theorem k_f_X1_221 : Cond.fieldLink RX1 221 "SonsPurse$Deal" "isKnownAhead" "Z" ∈ m_ws := m_mem (m_t1 (i := 201) (by decide +kernel)) (by decide +kernel)
theorem k_f_X1_27 : Cond.fieldLink RX1 27 "SonsPurse$House" "kept" "LSonsPurse$Kept;" ∈ m_ws := m_mem (m_t1 (i := 223) (by decide +kernel)) (by decide +kernel)
theorem k_f_X1_11 : Cond.fieldLink RX1 11 "SonsPurse$House" "people" "[LSonsPurse$Person;" ∈ m_ws := m_mem (m_t1 (i := 224) (by decide +kernel)) (by decide +kernel)
theorem k_f_X6_88 : Cond.fieldLink RX6 88 "SonsPurse$House" "people" "[LSonsPurse$Person;" ∈ m_ws := m_mem (m_t1 (i := 225) (by decide +kernel)) (by decide +kernel)
theorem k_f_X7_152 : Cond.fieldLink RX7 152 "SonsPurse$House" "people" "[LSonsPurse$Person;" ∈ m_ws := m_mem (m_t1 (i := 226) (by decide +kernel)) (by decide +kernel)
theorem k_f_X1_19 : Cond.fieldLink RX1 19 "SonsPurse$House" "dealt" "[LSonsPurse$Deal;" ∈ m_ws := m_mem (m_t1 (i := 227) (by decide +kernel)) (by decide +kernel)
theorem k_f_X6_63 : Cond.fieldLink RX6 63 "SonsPurse$House" "dealt" "[LSonsPurse$Deal;" ∈ m_ws := m_mem (m_t1 (i := 228) (by decide +kernel)) (by decide +kernel)
theorem k_f_X7_190 : Cond.fieldLink RX7 190 "SonsPurse$House" "dealt" "[LSonsPurse$Deal;" ∈ m_ws := m_mem (m_t1 (i := 229) (by decide +kernel)) (by decide +kernel)
theorem k_f_X1_23 : Cond.fieldLink RX1 23 "SonsPurse$House" "given" "[J" ∈ m_ws := m_mem (m_t1 (i := 230) (by decide +kernel)) (by decide +kernel)
theorem k_f_X1_37 : Cond.fieldLink RX1 37 "SonsPurse$House" "deals" "I" ∈ m_ws := m_mem (m_t1 (i := 231) (by decide +kernel)) (by decide +kernel)
theorem k_f_X7_264 : Cond.fieldLink RX7 264 "SonsPurse$House" "deals" "I" ∈ m_ws := m_mem (m_t1 (i := 232) (by decide +kernel)) (by decide +kernel)
theorem k_f_X1_33 : Cond.fieldLink RX1 33 "SonsPurse$House" "asOf" "I" ∈ m_ws := m_mem (m_t1 (i := 233) (by decide +kernel)) (by decide +kernel)
theorem k_x_X7_33 : Cond.classLink RX7 33 RX6 ∈ m_ws := m_mem (m_t2 (i := 7) (by decide +kernel)) (by decide +kernel)
theorem k_w_X6 : Cond.instantiable RX6 11 ∈ m_ws := m_mem (m_t2 (i := 8) (by decide +kernel)) (by decide +kernel)
theorem k_i_yX6_init : Cond.instanceMethod yX6_init ∈ m_ws := m_mem (m_t2 (i := 10) (by decide +kernel)) (by decide +kernel)
theorem k_c_yX6_init : Cond.code yX6_init cX6_init 1 none ∈ m_ws := m_mem (m_t2 (i := 11) (by decide +kernel)) (by decide +kernel)
theorem k_m_X6_3 : Cond.methodLink RX6 3 objectInit ∈ m_ws := m_mem (m_t2 (i := 12) (by decide +kernel)) (by decide +kernel)
theorem k_f_X6_43 : Cond.fieldLink RX6 43 "SonsPurse$Queue" "size" "I" ∈ m_ws := m_mem (m_t2 (i := 13) (by decide +kernel)) (by decide +kernel)
theorem k_f_X6_9 : Cond.fieldLink RX6 9 "SonsPurse$Queue" "maker" "[I" ∈ m_ws := m_mem (m_t2 (i := 14) (by decide +kernel)) (by decide +kernel)
theorem k_f_X6_15 : Cond.fieldLink RX6 15 "SonsPurse$Queue" "trade" "[I" ∈ m_ws := m_mem (m_t2 (i := 15) (by decide +kernel)) (by decide +kernel)
theorem k_f_X6_18 : Cond.fieldLink RX6 18 "SonsPurse$Queue" "owed" "[I" ∈ m_ws := m_mem (m_t2 (i := 16) (by decide +kernel)) (by decide +kernel)
theorem k_f_X6_21 : Cond.fieldLink RX6 21 "SonsPurse$Queue" "depth" "[I" ∈ m_ws := m_mem (m_t2 (i := 17) (by decide +kernel)) (by decide +kernel)
theorem k_f_X6_24 : Cond.fieldLink RX6 24 "SonsPurse$Queue" "part" "[I" ∈ m_ws := m_mem (m_t2 (i := 18) (by decide +kernel)) (by decide +kernel)
theorem k_f_X6_27 : Cond.fieldLink RX6 27 "SonsPurse$Queue" "holderDebt" "[I" ∈ m_ws := m_mem (m_t2 (i := 19) (by decide +kernel)) (by decide +kernel)
theorem k_f_X6_30 : Cond.fieldLink RX6 30 "SonsPurse$Queue" "mayShare" "[Z" ∈ m_ws := m_mem (m_t2 (i := 20) (by decide +kernel)) (by decide +kernel)
theorem k_f_X6_34 : Cond.fieldLink RX6 34 "SonsPurse$Queue" "isAnswered" "[Z" ∈ m_ws := m_mem (m_t2 (i := 21) (by decide +kernel)) (by decide +kernel)
theorem k_f_X6_128 : Cond.fieldLink RX6 128 "SonsPurse$Queue" "least" "J" ∈ m_ws := m_mem (m_t2 (i := 22) (by decide +kernel)) (by decide +kernel)
theorem k_f_X7_239 : Cond.fieldLink RX7 239 "SonsPurse$Queue" "least" "J" ∈ m_ws := m_mem (m_t2 (i := 23) (by decide +kernel)) (by decide +kernel)
theorem k_f_X6_132 : Cond.fieldLink RX6 132 "SonsPurse$Queue" "most" "J" ∈ m_ws := m_mem (m_t2 (i := 24) (by decide +kernel)) (by decide +kernel)
theorem k_f_X7_242 : Cond.fieldLink RX7 242 "SonsPurse$Queue" "most" "J" ∈ m_ws := m_mem (m_t2 (i := 25) (by decide +kernel)) (by decide +kernel)
theorem k_x_X7_40 : Cond.classLink RX7 40 RX2 ∈ m_ws := m_mem (m_t2 (i := 49) (by decide +kernel)) (by decide +kernel)
theorem k_w_X2 : Cond.instantiable RX2 9 ∈ m_ws := m_mem (m_t2 (i := 50) (by decide +kernel)) (by decide +kernel)
theorem k_i_yX2_init : Cond.instanceMethod yX2_init ∈ m_ws := m_mem (m_t2 (i := 52) (by decide +kernel)) (by decide +kernel)
theorem k_c_yX2_init : Cond.code yX2_init cX2_init 1 none ∈ m_ws := m_mem (m_t2 (i := 53) (by decide +kernel)) (by decide +kernel)
theorem k_m_X2_3 : Cond.methodLink RX2 3 objectInit ∈ m_ws := m_mem (m_t2 (i := 54) (by decide +kernel)) (by decide +kernel)
theorem k_f_X2_9 : Cond.fieldLink RX2 9 "SonsPurse$Items" "text" "[I" ∈ m_ws := m_mem (m_t2 (i := 55) (by decide +kernel)) (by decide +kernel)
theorem k_f_X2_19 : Cond.fieldLink RX2 19 "SonsPurse$Items" "size" "I" ∈ m_ws := m_mem (m_t2 (i := 56) (by decide +kernel)) (by decide +kernel)
theorem k_f_X7_86 : Cond.fieldLink RX7 86 "SonsPurse$Items" "size" "I" ∈ m_ws := m_mem (m_t2 (i := 57) (by decide +kernel)) (by decide +kernel)
theorem k_f_X2_22 : Cond.fieldLink RX2 22 "SonsPurse$Items" "at" "I" ∈ m_ws := m_mem (m_t2 (i := 58) (by decide +kernel)) (by decide +kernel)
theorem k_f_X2_15 : Cond.fieldLink RX2 15 "SonsPurse$Items" "flaw" "I" ∈ m_ws := m_mem (m_t2 (i := 59) (by decide +kernel)) (by decide +kernel)
theorem k_f_X2_39 : Cond.fieldLink RX2 39 "SonsPurse$Items" "day" "I" ∈ m_ws := m_mem (m_t2 (i := 60) (by decide +kernel)) (by decide +kernel)
theorem k_f_X7_110 : Cond.fieldLink RX7 110 "SonsPurse$Items" "day" "I" ∈ m_ws := m_mem (m_t2 (i := 61) (by decide +kernel)) (by decide +kernel)
theorem k_f_X2_45 : Cond.fieldLink RX2 45 "SonsPurse$Items" "kind" "I" ∈ m_ws := m_mem (m_t2 (i := 62) (by decide +kernel)) (by decide +kernel)
theorem k_f_X7_113 : Cond.fieldLink RX7 113 "SonsPurse$Items" "kind" "I" ∈ m_ws := m_mem (m_t2 (i := 63) (by decide +kernel)) (by decide +kernel)
theorem k_f_X2_48 : Cond.fieldLink RX2 48 "SonsPurse$Items" "a" "I" ∈ m_ws := m_mem (m_t2 (i := 64) (by decide +kernel)) (by decide +kernel)
theorem k_f_X7_116 : Cond.fieldLink RX7 116 "SonsPurse$Items" "a" "I" ∈ m_ws := m_mem (m_t2 (i := 65) (by decide +kernel)) (by decide +kernel)
theorem k_f_X2_63 : Cond.fieldLink RX2 63 "SonsPurse$Items" "b" "I" ∈ m_ws := m_mem (m_t2 (i := 66) (by decide +kernel)) (by decide +kernel)
theorem k_f_X7_119 : Cond.fieldLink RX7 119 "SonsPurse$Items" "b" "I" ∈ m_ws := m_mem (m_t2 (i := 67) (by decide +kernel)) (by decide +kernel)
theorem k_f_X2_68 : Cond.fieldLink RX2 68 "SonsPurse$Items" "v" "I" ∈ m_ws := m_mem (m_t2 (i := 68) (by decide +kernel)) (by decide +kernel)
theorem k_f_X7_122 : Cond.fieldLink RX7 122 "SonsPurse$Items" "v" "I" ∈ m_ws := m_mem (m_t2 (i := 69) (by decide +kernel)) (by decide +kernel)
theorem k_f_X7_10 : Cond.fieldLink RX7 10 "SonsPurse" "kept" "LSonsPurse$Kept;" ∈ m_ws := m_mem (m_t2 (i := 89) (by decide +kernel)) (by decide +kernel)
theorem k_f_X7_16 : Cond.fieldLink RX7 16 "SonsPurse" "images" "[LSonsPurse$Kept;" ∈ m_ws := m_mem (m_t2 (i := 90) (by decide +kernel)) (by decide +kernel)
theorem k_f_X7_20 : Cond.fieldLink RX7 20 "SonsPurse" "imaged" "[Z" ∈ m_ws := m_mem (m_t2 (i := 91) (by decide +kernel)) (by decide +kernel)
theorem k_f_X7_29 : Cond.fieldLink RX7 29 "SonsPurse" "house" "LSonsPurse$House;" ∈ m_ws := m_mem (m_t2 (i := 92) (by decide +kernel)) (by decide +kernel)
theorem k_f_X7_36 : Cond.fieldLink RX7 36 "SonsPurse" "queue" "LSonsPurse$Queue;" ∈ m_ws := m_mem (m_t2 (i := 93) (by decide +kernel)) (by decide +kernel)
theorem k_f_X7_43 : Cond.fieldLink RX7 43 "SonsPurse" "items" "LSonsPurse$Items;" ∈ m_ws := m_mem (m_t2 (i := 94) (by decide +kernel)) (by decide +kernel)
theorem k_f_X7_47 : Cond.fieldLink RX7 47 "SonsPurse" "wayAbove" "[J" ∈ m_ws := m_mem (m_t2 (i := 95) (by decide +kernel)) (by decide +kernel)
theorem k_f_X7_51 : Cond.fieldLink RX7 51 "SonsPurse" "wayBelow" "[J" ∈ m_ws := m_mem (m_t2 (i := 96) (by decide +kernel)) (by decide +kernel)
theorem k_f_X7_54 : Cond.fieldLink RX7 54 "SonsPurse" "above" "J" ∈ m_ws := m_mem (m_t2 (i := 97) (by decide +kernel)) (by decide +kernel)
theorem k_f_X7_58 : Cond.fieldLink RX7 58 "SonsPurse" "below" "J" ∈ m_ws := m_mem (m_t2 (i := 98) (by decide +kernel)) (by decide +kernel)
theorem k_m_L_13 : Cond.methodLink RL 13 yX7_person ∈ m_ws := m_mem (m_t2 (i := 120) (by decide +kernel)) (by decide +kernel)
theorem k_i_yX7_person : Cond.instanceMethod yX7_person ∈ m_ws := m_mem (m_t2 (i := 121) (by decide +kernel)) (by decide +kernel)
theorem k_s_yX7_person : Cond.selects RX7 yX7_person yX7_person ∈ m_ws := m_mem (m_t2 (i := 122) (by decide +kernel)) (by decide +kernel)
theorem k_c_yX7_person : Cond.code yX7_person cX7_person 1 (some .int) ∈ m_ws := m_mem (m_t2 (i := 123) (by decide +kernel)) (by decide +kernel)
theorem k_m_L_18 : Cond.methodLink RL 18 yX7_note ∈ m_ws := m_mem (m_t2 (i := 124) (by decide +kernel)) (by decide +kernel)
theorem k_i_yX7_note : Cond.instanceMethod yX7_note ∈ m_ws := m_mem (m_t2 (i := 125) (by decide +kernel)) (by decide +kernel)
theorem k_s_yX7_note : Cond.selects RX7 yX7_note yX7_note ∈ m_ws := m_mem (m_t2 (i := 126) (by decide +kernel)) (by decide +kernel)
theorem k_c_yX7_note : Cond.code yX7_note cX7_note 6 (some .int) ∈ m_ws := m_mem (m_t2 (i := 127) (by decide +kernel)) (by decide +kernel)
theorem k_m_X7_65 : Cond.methodLink RX7 65 yX7_bring ∈ m_ws := m_mem (m_t2 (i := 128) (by decide +kernel)) (by decide +kernel)
theorem k_i_yX7_bring : Cond.instanceMethod yX7_bring ∈ m_ws := m_mem (m_t2 (i := 130) (by decide +kernel)) (by decide +kernel)
theorem k_c_yX7_bring : Cond.code yX7_bring cX7_bring 6 (some .int) ∈ m_ws := m_mem (m_t2 (i := 131) (by decide +kernel)) (by decide +kernel)
theorem k_m_X7_290 : Cond.methodLink RX7 290 yX3_isWellTold ∈ m_ws := m_mem (m_t2 (i := 132) (by decide +kernel)) (by decide +kernel)
theorem k_i_yX3_isWellTold : Cond.instanceMethod yX3_isWellTold ∈ m_ws := m_mem (m_t2 (i := 133) (by decide +kernel)) (by decide +kernel)
theorem k_s_yX3_isWellTold : Cond.selects RX3 yX3_isWellTold yX3_isWellTold ∈ m_ws := m_mem (m_t2 (i := 134) (by decide +kernel)) (by decide +kernel)
theorem k_c_yX3_isWellTold : Cond.code yX3_isWellTold cX3_isWellTold 6 (some .boolean) ∈ m_ws := m_mem (m_t2 (i := 135) (by decide +kernel)) (by decide +kernel)
theorem k_t_yX7_isDay : Cond.static yX7_isDay ∈ m_ws := m_mem (m_t2 (i := 137) (by decide +kernel)) (by decide +kernel)
theorem k_c_yX7_isDay : Cond.code yX7_isDay cX7_isDay 1 (some .boolean) ∈ m_ws := m_mem (m_t2 (i := 138) (by decide +kernel)) (by decide +kernel)
theorem k_m_X3_55 : Cond.methodLink RX3 55 yX3_lastDay ∈ m_ws := m_mem (m_t2 (i := 139) (by decide +kernel)) (by decide +kernel)
theorem k_i_yX3_lastDay : Cond.instanceMethod yX3_lastDay ∈ m_ws := m_mem (m_t2 (i := 141) (by decide +kernel)) (by decide +kernel)
theorem k_c_yX3_lastDay : Cond.code yX3_lastDay cX3_lastDay 1 (some .int) ∈ m_ws := m_mem (m_t2 (i := 142) (by decide +kernel)) (by decide +kernel)
theorem k_m_X3_61 : Cond.methodLink RX3 61 yJ0_charAt_5068e ∈ m_ws := m_mem (m_t2 (i := 144) (by decide +kernel)) (by decide +kernel)
theorem k_i_yJ0_charAt_5068e : Cond.instanceMethod yJ0_charAt_5068e ∈ m_ws := m_mem (m_t2 (i := 145) (by decide +kernel)) (by decide +kernel)
theorem k_s_yJ0_charAt_5068e : Cond.selects RJ0 yJ0_charAt_5068e yJ0_charAt_5068e ∈ m_ws := m_mem (m_t2 (i := 146) (by decide +kernel)) (by decide +kernel)
theorem k_c_yJ0_charAt_5068e : Cond.code yJ0_charAt_5068e cJ0_charAt_5068e 2 (some .char) ∈ m_ws := m_mem (m_t2 (i := 147) (by decide +kernel)) (by decide +kernel)
theorem k_m_J0_492 : Cond.methodLink RJ0 492 yJ0_isLatin1_aae02 ∈ m_ws := m_mem (m_t2 (i := 148) (by decide +kernel)) (by decide +kernel)
theorem k_i_yJ0_isLatin1_aae02 : Cond.instanceMethod yJ0_isLatin1_aae02 ∈ m_ws := m_mem (m_t2 (i := 149) (by decide +kernel)) (by decide +kernel)
theorem k_s_yJ0_isLatin1_aae02 : Cond.selects RJ0 yJ0_isLatin1_aae02 yJ0_isLatin1_aae02 ∈ m_ws := m_mem (m_t2 (i := 150) (by decide +kernel)) (by decide +kernel)
theorem k_c_yJ0_isLatin1_aae02 : Cond.code yJ0_isLatin1_aae02 cJ0_isLatin1_aae02 1 (some .boolean) ∈ m_ws := m_mem (m_t2 (i := 151) (by decide +kernel)) (by decide +kernel)
theorem k_f_J0_38 : Cond.fieldLink RJ0 38 "java/lang/String" "COMPACT_STRINGS" "Z" ∈ m_ws := m_mem (m_t2 (i := 152) (by decide +kernel)) (by decide +kernel)
theorem k_m_J0_495 : Cond.methodLink RJ0 495 yJ1_charAt_3b067 ∈ m_ws := m_mem (m_t2 (i := 154) (by decide +kernel)) (by decide +kernel)
theorem k_t_yJ1_charAt_3b067 : Cond.static yJ1_charAt_3b067 ∈ m_ws := m_mem (m_t2 (i := 155) (by decide +kernel)) (by decide +kernel)
theorem k_c_yJ1_charAt_3b067 : Cond.code yJ1_charAt_3b067 cJ1_charAt_3b067 2 (some .char) ∈ m_ws := m_mem (m_t2 (i := 156) (by decide +kernel)) (by decide +kernel)
theorem k_m_J1_9 : Cond.methodLink RJ1 9 yJ0_checkIndex_df160 ∈ m_ws := m_mem (m_t2 (i := 157) (by decide +kernel)) (by decide +kernel)
theorem k_t_yJ0_checkIndex_df160 : Cond.static yJ0_checkIndex_df160 ∈ m_ws := m_mem (m_t2 (i := 158) (by decide +kernel)) (by decide +kernel)
theorem k_c_yJ0_checkIndex_df160 : Cond.code yJ0_checkIndex_df160 cJ0_checkIndex_df160 2 none ∈ m_ws := m_mem (m_t2 (i := 159) (by decide +kernel)) (by decide +kernel)
theorem k_f_J0_1053 : Cond.fieldLink RJ0 1053 "jdk/internal/util/Preconditions" "SIOOBE_FORMATTER" "Ljava/util/function/BiFunction;" ∈ m_ws := m_mem (m_t2 (i := 160) (by decide +kernel)) (by decide +kernel)
theorem k_m_J0_1059 : Cond.methodLink RJ0 1059 yJ3_checkIndex_8e157 ∈ m_ws := m_mem (m_t2 (i := 162) (by decide +kernel)) (by decide +kernel)
theorem k_t_yJ3_checkIndex_8e157 : Cond.static yJ3_checkIndex_8e157 ∈ m_ws := m_mem (m_t2 (i := 163) (by decide +kernel)) (by decide +kernel)
theorem k_c_yJ3_checkIndex_8e157 : Cond.code yJ3_checkIndex_8e157 cJ3_checkIndex_8e157 3 (some .int) ∈ m_ws := m_mem (m_t2 (i := 164) (by decide +kernel)) (by decide +kernel)
theorem k_m_J0_498 : Cond.methodLink RJ0 498 yJ2_charAt_3b067 ∈ m_ws := m_mem (m_t2 (i := 165) (by decide +kernel)) (by decide +kernel)
theorem k_t_yJ2_charAt_3b067 : Cond.static yJ2_charAt_3b067 ∈ m_ws := m_mem (m_t2 (i := 166) (by decide +kernel)) (by decide +kernel)
theorem k_c_yJ2_charAt_3b067 : Cond.code yJ2_charAt_3b067 cJ2_charAt_3b067 2 (some .char) ∈ m_ws := m_mem (m_t2 (i := 167) (by decide +kernel)) (by decide +kernel)
theorem k_m_J2_67 : Cond.methodLink RJ2 67 yJ2_checkIndex_2214a ∈ m_ws := m_mem (m_t2 (i := 168) (by decide +kernel)) (by decide +kernel)
theorem k_t_yJ2_checkIndex_2214a : Cond.static yJ2_checkIndex_2214a ∈ m_ws := m_mem (m_t2 (i := 169) (by decide +kernel)) (by decide +kernel)
theorem k_c_yJ2_checkIndex_2214a : Cond.code yJ2_checkIndex_2214a cJ2_checkIndex_2214a 2 none ∈ m_ws := m_mem (m_t2 (i := 170) (by decide +kernel)) (by decide +kernel)
theorem k_m_J2_48 : Cond.methodLink RJ2 48 yJ2_length_9d52b ∈ m_ws := m_mem (m_t2 (i := 171) (by decide +kernel)) (by decide +kernel)
theorem k_t_yJ2_length_9d52b : Cond.static yJ2_length_9d52b ∈ m_ws := m_mem (m_t2 (i := 172) (by decide +kernel)) (by decide +kernel)
theorem k_c_yJ2_length_9d52b : Cond.code yJ2_length_9d52b cJ2_length_9d52b 1 (some .int) ∈ m_ws := m_mem (m_t2 (i := 173) (by decide +kernel)) (by decide +kernel)
theorem k_m_J2_414 : Cond.methodLink RJ2 414 yJ0_checkIndex_df160 ∈ m_ws := m_mem (m_t2 (i := 174) (by decide +kernel)) (by decide +kernel)
theorem k_m_J2_71 : Cond.methodLink RJ2 71 yJ2_getChar_3b067 ∈ m_ws := m_mem (m_t2 (i := 175) (by decide +kernel)) (by decide +kernel)
theorem k_t_yJ2_getChar_3b067 : Cond.static yJ2_getChar_3b067 ∈ m_ws := m_mem (m_t2 (i := 176) (by decide +kernel)) (by decide +kernel)
theorem k_c_yJ2_getChar_3b067 : Cond.code yJ2_getChar_3b067 cJ2_getChar_3b067 2 (some .char) ∈ m_ws := m_mem (m_t2 (i := 177) (by decide +kernel)) (by decide +kernel)
theorem k_f_J2_44 : Cond.fieldLink RJ2 44 "java/lang/StringUTF16" "$assertionsDisabled" "Z" ∈ m_ws := m_mem (m_t2 (i := 178) (by decide +kernel)) (by decide +kernel)
theorem k_f_J2_59 : Cond.fieldLink RJ2 59 "java/lang/StringUTF16" "HI_BYTE_SHIFT" "I" ∈ m_ws := m_mem (m_t2 (i := 180) (by decide +kernel)) (by decide +kernel)
theorem k_f_J2_63 : Cond.fieldLink RJ2 63 "java/lang/StringUTF16" "LO_BYTE_SHIFT" "I" ∈ m_ws := m_mem (m_t2 (i := 182) (by decide +kernel)) (by decide +kernel)
theorem k_m_X3_69 : Cond.methodLink RX3 69 yX3_isWellToldB ∈ m_ws := m_mem (m_t2 (i := 185) (by decide +kernel)) (by decide +kernel)
theorem k_i_yX3_isWellToldB : Cond.instanceMethod yX3_isWellToldB ∈ m_ws := m_mem (m_t2 (i := 187) (by decide +kernel)) (by decide +kernel)
theorem k_c_yX3_isWellToldB : Cond.code yX3_isWellToldB cX3_isWellToldB 4 (some .boolean) ∈ m_ws := m_mem (m_t2 (i := 188) (by decide +kernel)) (by decide +kernel)
theorem k_m_X7_148 : Cond.methodLink RX7 148 yX1_replay ∈ m_ws := m_mem (m_t2 (i := 190) (by decide +kernel)) (by decide +kernel)
theorem k_i_yX1_replay : Cond.instanceMethod yX1_replay ∈ m_ws := m_mem (m_t2 (i := 191) (by decide +kernel)) (by decide +kernel)
theorem k_s_yX1_replay : Cond.selects RX1 yX1_replay yX1_replay ∈ m_ws := m_mem (m_t2 (i := 192) (by decide +kernel)) (by decide +kernel)
theorem k_c_yX1_replay : Cond.code yX1_replay cX1_replay 6 none ∈ m_ws := m_mem (m_t2 (i := 193) (by decide +kernel)) (by decide +kernel)
theorem k_m_X1_40 : Cond.methodLink RX1 40 yX5_restart ∈ m_ws := m_mem (m_t2 (i := 194) (by decide +kernel)) (by decide +kernel)
theorem k_i_yX5_restart : Cond.instanceMethod yX5_restart ∈ m_ws := m_mem (m_t2 (i := 195) (by decide +kernel)) (by decide +kernel)
theorem k_s_yX5_restart : Cond.selects RX5 yX5_restart yX5_restart ∈ m_ws := m_mem (m_t2 (i := 196) (by decide +kernel)) (by decide +kernel)
theorem k_c_yX5_restart : Cond.code yX5_restart cX5_restart 2 none ∈ m_ws := m_mem (m_t2 (i := 197) (by decide +kernel)) (by decide +kernel)
theorem k_m_X1_52 : Cond.methodLink RX1 52 yX3_isDoubted ∈ m_ws := m_mem (m_t2 (i := 198) (by decide +kernel)) (by decide +kernel)
theorem k_i_yX3_isDoubted : Cond.instanceMethod yX3_isDoubted ∈ m_ws := m_mem (m_t2 (i := 199) (by decide +kernel)) (by decide +kernel)
theorem k_s_yX3_isDoubted : Cond.selects RX3 yX3_isDoubted yX3_isDoubted ∈ m_ws := m_mem (m_t2 (i := 200) (by decide +kernel)) (by decide +kernel)
theorem k_c_yX3_isDoubted : Cond.code yX3_isDoubted cX3_isDoubted 2 (some .boolean) ∈ m_ws := m_mem (m_t2 (i := 201) (by decide +kernel)) (by decide +kernel)
theorem k_m_X1_56 : Cond.methodLink RX1 56 yX1_apply ∈ m_ws := m_mem (m_t2 (i := 202) (by decide +kernel)) (by decide +kernel)
theorem k_i_yX1_apply : Cond.instanceMethod yX1_apply ∈ m_ws := m_mem (m_t2 (i := 204) (by decide +kernel)) (by decide +kernel)
theorem k_c_yX1_apply : Cond.code yX1_apply cX1_apply 6 none ∈ m_ws := m_mem (m_t2 (i := 205) (by decide +kernel)) (by decide +kernel)
theorem k_m_X1_69 : Cond.methodLink RX1 69 yJ0_charAt_5068e ∈ m_ws := m_mem (m_t2 (i := 207) (by decide +kernel)) (by decide +kernel)
theorem k_m_X1_75 : Cond.methodLink RX1 75 yX1_changeDeal ∈ m_ws := m_mem (m_t2 (i := 208) (by decide +kernel)) (by decide +kernel)
theorem k_t_yX1_changeDeal : Cond.static yX1_changeDeal ∈ m_ws := m_mem (m_t2 (i := 209) (by decide +kernel)) (by decide +kernel)
theorem k_c_yX1_changeDeal : Cond.code yX1_changeDeal cX1_changeDeal 3 none ∈ m_ws := m_mem (m_t2 (i := 210) (by decide +kernel)) (by decide +kernel)
theorem k_m_X1_79 : Cond.methodLink RX1 79 yX0_start ∈ m_ws := m_mem (m_t2 (i := 211) (by decide +kernel)) (by decide +kernel)
theorem k_i_yX0_start : Cond.instanceMethod yX0_start ∈ m_ws := m_mem (m_t2 (i := 212) (by decide +kernel)) (by decide +kernel)
theorem k_s_yX0_start : Cond.selects RX0 yX0_start yX0_start ∈ m_ws := m_mem (m_t2 (i := 213) (by decide +kernel)) (by decide +kernel)
theorem k_c_yX0_start : Cond.code yX0_start cX0_start 5 none ∈ m_ws := m_mem (m_t2 (i := 214) (by decide +kernel)) (by decide +kernel)
theorem k_m_X1_83 : Cond.methodLink RX1 83 yX5_end ∈ m_ws := m_mem (m_t2 (i := 215) (by decide +kernel)) (by decide +kernel)
theorem k_i_yX5_end : Cond.instanceMethod yX5_end ∈ m_ws := m_mem (m_t2 (i := 216) (by decide +kernel)) (by decide +kernel)
theorem k_s_yX5_end : Cond.selects RX5 yX5_end yX5_end ∈ m_ws := m_mem (m_t2 (i := 217) (by decide +kernel)) (by decide +kernel)
theorem k_c_yX5_end : Cond.code yX5_end cX5_end 3 none ∈ m_ws := m_mem (m_t2 (i := 218) (by decide +kernel)) (by decide +kernel)
theorem k_m_X1_86 : Cond.methodLink RX1 86 yX1_changePerson ∈ m_ws := m_mem (m_t2 (i := 219) (by decide +kernel)) (by decide +kernel)
theorem k_t_yX1_changePerson : Cond.static yX1_changePerson ∈ m_ws := m_mem (m_t2 (i := 220) (by decide +kernel)) (by decide +kernel)
theorem k_c_yX1_changePerson : Cond.code yX1_changePerson cX1_changePerson 4 none ∈ m_ws := m_mem (m_t2 (i := 221) (by decide +kernel)) (by decide +kernel)
theorem k_m_X1_103 : Cond.methodLink RX1 103 yX5_goInto ∈ m_ws := m_mem (m_t2 (i := 222) (by decide +kernel)) (by decide +kernel)
theorem k_i_yX5_goInto : Cond.instanceMethod yX5_goInto ∈ m_ws := m_mem (m_t2 (i := 223) (by decide +kernel)) (by decide +kernel)
theorem k_s_yX5_goInto : Cond.selects RX5 yX5_goInto yX5_goInto ∈ m_ws := m_mem (m_t2 (i := 224) (by decide +kernel)) (by decide +kernel)
theorem k_c_yX5_goInto : Cond.code yX5_goInto cX5_goInto 2 none ∈ m_ws := m_mem (m_t2 (i := 225) (by decide +kernel)) (by decide +kernel)
theorem k_m_X7_294 : Cond.methodLink RX7 294 yX1_refuses ∈ m_ws := m_mem (m_t2 (i := 226) (by decide +kernel)) (by decide +kernel)
theorem k_i_yX1_refuses : Cond.instanceMethod yX1_refuses ∈ m_ws := m_mem (m_t2 (i := 227) (by decide +kernel)) (by decide +kernel)
theorem k_s_yX1_refuses : Cond.selects RX1 yX1_refuses yX1_refuses ∈ m_ws := m_mem (m_t2 (i := 228) (by decide +kernel)) (by decide +kernel)
theorem k_c_yX1_refuses : Cond.code yX1_refuses cX1_refuses 5 (some .boolean) ∈ m_ws := m_mem (m_t2 (i := 229) (by decide +kernel)) (by decide +kernel)
theorem k_m_X1_122 : Cond.methodLink RX1 122 yX1_refusesOfDeal ∈ m_ws := m_mem (m_t2 (i := 230) (by decide +kernel)) (by decide +kernel)
theorem k_t_yX1_refusesOfDeal : Cond.static yX1_refusesOfDeal ∈ m_ws := m_mem (m_t2 (i := 231) (by decide +kernel)) (by decide +kernel)
theorem k_c_yX1_refusesOfDeal : Cond.code yX1_refusesOfDeal cX1_refusesOfDeal 3 (some .boolean) ∈ m_ws := m_mem (m_t2 (i := 232) (by decide +kernel)) (by decide +kernel)
theorem k_m_X1_143 : Cond.methodLink RX1 143 yX0_there ∈ m_ws := m_mem (m_t2 (i := 233) (by decide +kernel)) (by decide +kernel)
theorem k_i_yX0_there : Cond.instanceMethod yX0_there ∈ m_ws := m_mem (m_t2 (i := 234) (by decide +kernel)) (by decide +kernel)
theorem k_s_yX0_there : Cond.selects RX0 yX0_there yX0_there ∈ m_ws := m_mem (m_t2 (i := 235) (by decide +kernel)) (by decide +kernel)
theorem k_c_yX0_there : Cond.code yX0_there cX0_there 1 (some .int) ∈ m_ws := m_mem (m_t2 (i := 236) (by decide +kernel)) (by decide +kernel)
theorem k_m_X0_53 : Cond.methodLink RX0 53 yJ9_max_7cf53 ∈ m_ws := m_mem (m_t2 (i := 237) (by decide +kernel)) (by decide +kernel)
theorem k_t_yJ9_max_7cf53 : Cond.static yJ9_max_7cf53 ∈ m_ws := m_mem (m_t2 (i := 238) (by decide +kernel)) (by decide +kernel)
theorem k_c_yJ9_max_7cf53 : Cond.code yJ9_max_7cf53 cJ9_max_7cf53 2 (some .int) ∈ m_ws := m_mem (m_t2 (i := 239) (by decide +kernel)) (by decide +kernel)
theorem k_m_X1_147 : Cond.methodLink RX1 147 yX0_left ∈ m_ws := m_mem (m_t3 (i := 0) (by decide +kernel)) (by decide +kernel)
theorem k_i_yX0_left : Cond.instanceMethod yX0_left ∈ m_ws := m_mem (m_t3 (i := 1) (by decide +kernel)) (by decide +kernel)
theorem k_s_yX0_left : Cond.selects RX0 yX0_left yX0_left ∈ m_ws := m_mem (m_t3 (i := 2) (by decide +kernel)) (by decide +kernel)
theorem k_c_yX0_left : Cond.code yX0_left cX0_left 1 (some .int) ∈ m_ws := m_mem (m_t3 (i := 3) (by decide +kernel)) (by decide +kernel)
theorem k_m_X1_126 : Cond.methodLink RX1 126 yX1_isInHand ∈ m_ws := m_mem (m_t3 (i := 4) (by decide +kernel)) (by decide +kernel)
theorem k_i_yX1_isInHand : Cond.instanceMethod yX1_isInHand ∈ m_ws := m_mem (m_t3 (i := 6) (by decide +kernel)) (by decide +kernel)
theorem k_c_yX1_isInHand : Cond.code yX1_isInHand cX1_isInHand 5 (some .boolean) ∈ m_ws := m_mem (m_t3 (i := 7) (by decide +kernel)) (by decide +kernel)
theorem k_m_X1_130 : Cond.methodLink RX1 130 yX5_partOf ∈ m_ws := m_mem (m_t3 (i := 8) (by decide +kernel)) (by decide +kernel)
theorem k_i_yX5_partOf : Cond.instanceMethod yX5_partOf ∈ m_ws := m_mem (m_t3 (i := 9) (by decide +kernel)) (by decide +kernel)
theorem k_s_yX5_partOf : Cond.selects RX5 yX5_partOf yX5_partOf ∈ m_ws := m_mem (m_t3 (i := 10) (by decide +kernel)) (by decide +kernel)
theorem k_c_yX5_partOf : Cond.code yX5_partOf cX5_partOf 2 (some .int) ∈ m_ws := m_mem (m_t3 (i := 11) (by decide +kernel)) (by decide +kernel)
theorem k_m_X5_47 : Cond.methodLink RX5 47 yJ9_max_7cf53 ∈ m_ws := m_mem (m_t3 (i := 12) (by decide +kernel)) (by decide +kernel)
theorem k_m_X1_134 : Cond.methodLink RX1 134 yX5_debtTo ∈ m_ws := m_mem (m_t3 (i := 13) (by decide +kernel)) (by decide +kernel)
theorem k_i_yX5_debtTo : Cond.instanceMethod yX5_debtTo ∈ m_ws := m_mem (m_t3 (i := 14) (by decide +kernel)) (by decide +kernel)
theorem k_s_yX5_debtTo : Cond.selects RX5 yX5_debtTo yX5_debtTo ∈ m_ws := m_mem (m_t3 (i := 15) (by decide +kernel)) (by decide +kernel)
theorem k_c_yX5_debtTo : Cond.code yX5_debtTo cX5_debtTo 2 (some .int) ∈ m_ws := m_mem (m_t3 (i := 16) (by decide +kernel)) (by decide +kernel)
theorem k_m_X7_298 : Cond.methodLink RX7 298 yX3_add ∈ m_ws := m_mem (m_t3 (i := 17) (by decide +kernel)) (by decide +kernel)
theorem k_i_yX3_add : Cond.instanceMethod yX3_add ∈ m_ws := m_mem (m_t3 (i := 18) (by decide +kernel)) (by decide +kernel)
theorem k_s_yX3_add : Cond.selects RX3 yX3_add yX3_add ∈ m_ws := m_mem (m_t3 (i := 19) (by decide +kernel)) (by decide +kernel)
theorem k_c_yX3_add : Cond.code yX3_add cX3_add 7 (some .int) ∈ m_ws := m_mem (m_t3 (i := 20) (by decide +kernel)) (by decide +kernel)
theorem k_a_byte : Cond.arrayClass .byte ∈ m_ws := m_mem (m_t3 (i := 21) (by decide +kernel)) (by decide +kernel)
theorem k_m_L_23 : Cond.methodLink RL 23 yX7_doubt ∈ m_ws := m_mem (m_t3 (i := 22) (by decide +kernel)) (by decide +kernel)
theorem k_i_yX7_doubt : Cond.instanceMethod yX7_doubt ∈ m_ws := m_mem (m_t3 (i := 23) (by decide +kernel)) (by decide +kernel)
theorem k_s_yX7_doubt : Cond.selects RX7 yX7_doubt yX7_doubt ∈ m_ws := m_mem (m_t3 (i := 24) (by decide +kernel)) (by decide +kernel)
theorem k_c_yX7_doubt : Cond.code yX7_doubt cX7_doubt 3 (some .int) ∈ m_ws := m_mem (m_t3 (i := 25) (by decide +kernel)) (by decide +kernel)
theorem k_m_X7_69 : Cond.methodLink RX7 69 yX7_isNote ∈ m_ws := m_mem (m_t3 (i := 26) (by decide +kernel)) (by decide +kernel)
theorem k_i_yX7_isNote : Cond.instanceMethod yX7_isNote ∈ m_ws := m_mem (m_t3 (i := 28) (by decide +kernel)) (by decide +kernel)
theorem k_c_yX7_isNote : Cond.code yX7_isNote cX7_isNote 2 (some .boolean) ∈ m_ws := m_mem (m_t3 (i := 29) (by decide +kernel)) (by decide +kernel)
theorem k_m_X7_73 : Cond.methodLink RX7 73 yX3_mayBeDoubted ∈ m_ws := m_mem (m_t3 (i := 30) (by decide +kernel)) (by decide +kernel)
theorem k_i_yX3_mayBeDoubted : Cond.instanceMethod yX3_mayBeDoubted ∈ m_ws := m_mem (m_t3 (i := 31) (by decide +kernel)) (by decide +kernel)
theorem k_s_yX3_mayBeDoubted : Cond.selects RX3 yX3_mayBeDoubted yX3_mayBeDoubted ∈ m_ws := m_mem (m_t3 (i := 32) (by decide +kernel)) (by decide +kernel)
theorem k_c_yX3_mayBeDoubted : Cond.code yX3_mayBeDoubted cX3_mayBeDoubted 2 (some .boolean) ∈ m_ws := m_mem (m_t3 (i := 33) (by decide +kernel)) (by decide +kernel)
theorem k_m_X7_76 : Cond.methodLink RX7 76 yX3_isDoubted ∈ m_ws := m_mem (m_t3 (i := 35) (by decide +kernel)) (by decide +kernel)
theorem k_m_X7_82 : Cond.methodLink RX7 82 yX3_markDoubt ∈ m_ws := m_mem (m_t3 (i := 36) (by decide +kernel)) (by decide +kernel)
theorem k_i_yX3_markDoubt : Cond.instanceMethod yX3_markDoubt ∈ m_ws := m_mem (m_t3 (i := 37) (by decide +kernel)) (by decide +kernel)
theorem k_s_yX3_markDoubt : Cond.selects RX3 yX3_markDoubt yX3_markDoubt ∈ m_ws := m_mem (m_t3 (i := 38) (by decide +kernel)) (by decide +kernel)
theorem k_c_yX3_markDoubt : Cond.code yX3_markDoubt cX3_markDoubt 3 none ∈ m_ws := m_mem (m_t3 (i := 39) (by decide +kernel)) (by decide +kernel)
theorem k_m_L_30 : Cond.methodLink RL 30 yX7_type ∈ m_ws := m_mem (m_t3 (i := 40) (by decide +kernel)) (by decide +kernel)
theorem k_i_yX7_type : Cond.instanceMethod yX7_type ∈ m_ws := m_mem (m_t3 (i := 41) (by decide +kernel)) (by decide +kernel)
theorem k_s_yX7_type : Cond.selects RX7 yX7_type yX7_type ∈ m_ws := m_mem (m_t3 (i := 42) (by decide +kernel)) (by decide +kernel)
theorem k_c_yX7_type : Cond.code yX7_type cX7_type 5 (some .int) ∈ m_ws := m_mem (m_t3 (i := 43) (by decide +kernel)) (by decide +kernel)
theorem k_m_X7_89 : Cond.methodLink RX7 89 yX2_add ∈ m_ws := m_mem (m_t3 (i := 44) (by decide +kernel)) (by decide +kernel)
theorem k_i_yX2_add : Cond.instanceMethod yX2_add ∈ m_ws := m_mem (m_t3 (i := 45) (by decide +kernel)) (by decide +kernel)
theorem k_s_yX2_add : Cond.selects RX2 yX2_add yX2_add ∈ m_ws := m_mem (m_t3 (i := 46) (by decide +kernel)) (by decide +kernel)
theorem k_c_yX2_add : Cond.code yX2_add cX2_add 2 none ∈ m_ws := m_mem (m_t3 (i := 47) (by decide +kernel)) (by decide +kernel)
theorem k_m_L_35 : Cond.methodLink RL 35 yX7_clear ∈ m_ws := m_mem (m_t3 (i := 48) (by decide +kernel)) (by decide +kernel)
theorem k_i_yX7_clear : Cond.instanceMethod yX7_clear ∈ m_ws := m_mem (m_t3 (i := 49) (by decide +kernel)) (by decide +kernel)
theorem k_s_yX7_clear : Cond.selects RX7 yX7_clear yX7_clear ∈ m_ws := m_mem (m_t3 (i := 50) (by decide +kernel)) (by decide +kernel)
theorem k_c_yX7_clear : Cond.code yX7_clear cX7_clear 2 (some .int) ∈ m_ws := m_mem (m_t3 (i := 51) (by decide +kernel)) (by decide +kernel)
theorem k_m_L_39 : Cond.methodLink RL 39 yX7_read ∈ m_ws := m_mem (m_t3 (i := 52) (by decide +kernel)) (by decide +kernel)
theorem k_i_yX7_read : Cond.instanceMethod yX7_read ∈ m_ws := m_mem (m_t3 (i := 53) (by decide +kernel)) (by decide +kernel)
theorem k_s_yX7_read : Cond.selects RX7 yX7_read yX7_read ∈ m_ws := m_mem (m_t3 (i := 54) (by decide +kernel)) (by decide +kernel)
theorem k_c_yX7_read : Cond.code yX7_read cX7_read 5 (some .int) ∈ m_ws := m_mem (m_t3 (i := 55) (by decide +kernel)) (by decide +kernel)
theorem k_m_X7_93 : Cond.methodLink RX7 93 yX2_flawOfAll ∈ m_ws := m_mem (m_t3 (i := 56) (by decide +kernel)) (by decide +kernel)
theorem k_i_yX2_flawOfAll : Cond.instanceMethod yX2_flawOfAll ∈ m_ws := m_mem (m_t3 (i := 57) (by decide +kernel)) (by decide +kernel)
theorem k_s_yX2_flawOfAll : Cond.selects RX2 yX2_flawOfAll yX2_flawOfAll ∈ m_ws := m_mem (m_t3 (i := 58) (by decide +kernel)) (by decide +kernel)
theorem k_c_yX2_flawOfAll : Cond.code yX2_flawOfAll cX2_flawOfAll 2 (some .int) ∈ m_ws := m_mem (m_t3 (i := 59) (by decide +kernel)) (by decide +kernel)
theorem k_m_X2_25 : Cond.methodLink RX2 25 yX2_goToStart ∈ m_ws := m_mem (m_t3 (i := 60) (by decide +kernel)) (by decide +kernel)
theorem k_i_yX2_goToStart : Cond.instanceMethod yX2_goToStart ∈ m_ws := m_mem (m_t3 (i := 61) (by decide +kernel)) (by decide +kernel)
theorem k_s_yX2_goToStart : Cond.selects RX2 yX2_goToStart yX2_goToStart ∈ m_ws := m_mem (m_t3 (i := 62) (by decide +kernel)) (by decide +kernel)
theorem k_c_yX2_goToStart : Cond.code yX2_goToStart cX2_goToStart 1 none ∈ m_ws := m_mem (m_t3 (i := 63) (by decide +kernel)) (by decide +kernel)
theorem k_m_X2_28 : Cond.methodLink RX2 28 yX2_next ∈ m_ws := m_mem (m_t3 (i := 64) (by decide +kernel)) (by decide +kernel)
theorem k_i_yX2_next : Cond.instanceMethod yX2_next ∈ m_ws := m_mem (m_t3 (i := 65) (by decide +kernel)) (by decide +kernel)
theorem k_s_yX2_next : Cond.selects RX2 yX2_next yX2_next ∈ m_ws := m_mem (m_t3 (i := 66) (by decide +kernel)) (by decide +kernel)
theorem k_c_yX2_next : Cond.code yX2_next cX2_next 1 (some .boolean) ∈ m_ws := m_mem (m_t3 (i := 67) (by decide +kernel)) (by decide +kernel)
theorem k_m_X2_32 : Cond.methodLink RX2 32 yX2_skipBlanks ∈ m_ws := m_mem (m_t3 (i := 68) (by decide +kernel)) (by decide +kernel)
theorem k_i_yX2_skipBlanks : Cond.instanceMethod yX2_skipBlanks ∈ m_ws := m_mem (m_t3 (i := 70) (by decide +kernel)) (by decide +kernel)
theorem k_c_yX2_skipBlanks : Cond.code yX2_skipBlanks cX2_skipBlanks 1 none ∈ m_ws := m_mem (m_t3 (i := 71) (by decide +kernel)) (by decide +kernel)
theorem k_m_X2_35 : Cond.methodLink RX2 35 yX2_number ∈ m_ws := m_mem (m_t3 (i := 72) (by decide +kernel)) (by decide +kernel)
theorem k_i_yX2_number : Cond.instanceMethod yX2_number ∈ m_ws := m_mem (m_t3 (i := 74) (by decide +kernel)) (by decide +kernel)
theorem k_c_yX2_number : Cond.code yX2_number cX2_number 3 (some .int) ∈ m_ws := m_mem (m_t3 (i := 75) (by decide +kernel)) (by decide +kernel)
theorem k_m_X2_75 : Cond.methodLink RX2 75 yX2_blame ∈ m_ws := m_mem (m_t3 (i := 76) (by decide +kernel)) (by decide +kernel)
theorem k_i_yX2_blame : Cond.instanceMethod yX2_blame ∈ m_ws := m_mem (m_t3 (i := 78) (by decide +kernel)) (by decide +kernel)
theorem k_c_yX2_blame : Cond.code yX2_blame cX2_blame 2 none ∈ m_ws := m_mem (m_t3 (i := 79) (by decide +kernel)) (by decide +kernel)
theorem k_m_X2_42 : Cond.methodLink RX2 42 yX2_verb ∈ m_ws := m_mem (m_t3 (i := 80) (by decide +kernel)) (by decide +kernel)
theorem k_i_yX2_verb : Cond.instanceMethod yX2_verb ∈ m_ws := m_mem (m_t3 (i := 82) (by decide +kernel)) (by decide +kernel)
theorem k_c_yX2_verb : Cond.code yX2_verb cX2_verb 3 (some .int) ∈ m_ws := m_mem (m_t3 (i := 83) (by decide +kernel)) (by decide +kernel)
theorem k_m_X2_79 : Cond.methodLink RX2 79 yX2_kindOf ∈ m_ws := m_mem (m_t3 (i := 84) (by decide +kernel)) (by decide +kernel)
theorem k_i_yX2_kindOf : Cond.instanceMethod yX2_kindOf ∈ m_ws := m_mem (m_t3 (i := 86) (by decide +kernel)) (by decide +kernel)
theorem k_c_yX2_kindOf : Cond.code yX2_kindOf cX2_kindOf 5 (some .int) ∈ m_ws := m_mem (m_t3 (i := 87) (by decide +kernel)) (by decide +kernel)
theorem k_m_X2_85 : Cond.methodLink RX2 85 yJ0_length_8abf5 ∈ m_ws := m_mem (m_t3 (i := 89) (by decide +kernel)) (by decide +kernel)
theorem k_i_yJ0_length_8abf5 : Cond.instanceMethod yJ0_length_8abf5 ∈ m_ws := m_mem (m_t3 (i := 90) (by decide +kernel)) (by decide +kernel)
theorem k_s_yJ0_length_8abf5 : Cond.selects RJ0 yJ0_length_8abf5 yJ0_length_8abf5 ∈ m_ws := m_mem (m_t3 (i := 91) (by decide +kernel)) (by decide +kernel)
theorem k_c_yJ0_length_8abf5 : Cond.code yJ0_length_8abf5 cJ0_length_8abf5 1 (some .int) ∈ m_ws := m_mem (m_t3 (i := 92) (by decide +kernel)) (by decide +kernel)
theorem k_m_J0_335 : Cond.methodLink RJ0 335 yJ0_coder_7d493 ∈ m_ws := m_mem (m_t3 (i := 93) (by decide +kernel)) (by decide +kernel)
theorem k_i_yJ0_coder_7d493 : Cond.instanceMethod yJ0_coder_7d493 ∈ m_ws := m_mem (m_t3 (i := 94) (by decide +kernel)) (by decide +kernel)
theorem k_s_yJ0_coder_7d493 : Cond.selects RJ0 yJ0_coder_7d493 yJ0_coder_7d493 ∈ m_ws := m_mem (m_t3 (i := 95) (by decide +kernel)) (by decide +kernel)
theorem k_c_yJ0_coder_7d493 : Cond.code yJ0_coder_7d493 cJ0_coder_7d493 1 (some .byte) ∈ m_ws := m_mem (m_t3 (i := 96) (by decide +kernel)) (by decide +kernel)
theorem k_m_X2_53 : Cond.methodLink RX2 53 yJ0_charAt_5068e ∈ m_ws := m_mem (m_t3 (i := 97) (by decide +kernel)) (by decide +kernel)
theorem k_m_X2_88 : Cond.methodLink RX2 88 yX2_isVerb ∈ m_ws := m_mem (m_t3 (i := 98) (by decide +kernel)) (by decide +kernel)
theorem k_i_yX2_isVerb : Cond.instanceMethod yX2_isVerb ∈ m_ws := m_mem (m_t3 (i := 100) (by decide +kernel)) (by decide +kernel)
theorem k_c_yX2_isVerb : Cond.code yX2_isVerb cX2_isVerb 5 (some .boolean) ∈ m_ws := m_mem (m_t3 (i := 101) (by decide +kernel)) (by decide +kernel)
theorem k_m_X2_59 : Cond.methodLink RX2 59 yX2_second ∈ m_ws := m_mem (m_t3 (i := 103) (by decide +kernel)) (by decide +kernel)
theorem k_i_yX2_second : Cond.instanceMethod yX2_second ∈ m_ws := m_mem (m_t3 (i := 105) (by decide +kernel)) (by decide +kernel)
theorem k_c_yX2_second : Cond.code yX2_second cX2_second 2 (some .int) ∈ m_ws := m_mem (m_t3 (i := 106) (by decide +kernel)) (by decide +kernel)
theorem k_m_X2_71 : Cond.methodLink RX2 71 yX2_sign ∈ m_ws := m_mem (m_t3 (i := 107) (by decide +kernel)) (by decide +kernel)
theorem k_i_yX2_sign : Cond.instanceMethod yX2_sign ∈ m_ws := m_mem (m_t3 (i := 109) (by decide +kernel)) (by decide +kernel)
theorem k_c_yX2_sign : Cond.code yX2_sign cX2_sign 2 none ∈ m_ws := m_mem (m_t3 (i := 110) (by decide +kernel)) (by decide +kernel)
theorem k_m_X7_103 : Cond.methodLink RX7 103 yX2_goToStart ∈ m_ws := m_mem (m_t3 (i := 112) (by decide +kernel)) (by decide +kernel)
theorem k_m_X7_106 : Cond.methodLink RX7 106 yX2_next ∈ m_ws := m_mem (m_t3 (i := 113) (by decide +kernel)) (by decide +kernel)
theorem k_m_L_43 : Cond.methodLink RL 43 yX7_write ∈ m_ws := m_mem (m_t3 (i := 114) (by decide +kernel)) (by decide +kernel)
theorem k_i_yX7_write : Cond.instanceMethod yX7_write ∈ m_ws := m_mem (m_t3 (i := 115) (by decide +kernel)) (by decide +kernel)
theorem k_s_yX7_write : Cond.selects RX7 yX7_write yX7_write ∈ m_ws := m_mem (m_t3 (i := 116) (by decide +kernel)) (by decide +kernel)
theorem k_c_yX7_write : Cond.code yX7_write cX7_write 4 (some .int) ∈ m_ws := m_mem (m_t3 (i := 117) (by decide +kernel)) (by decide +kernel)
theorem k_m_X7_125 : Cond.methodLink RX7 125 yX7_isLaw ∈ m_ws := m_mem (m_t3 (i := 118) (by decide +kernel)) (by decide +kernel)
theorem k_t_yX7_isLaw : Cond.static yX7_isLaw ∈ m_ws := m_mem (m_t3 (i := 119) (by decide +kernel)) (by decide +kernel)
theorem k_c_yX7_isLaw : Cond.code yX7_isLaw cX7_isLaw 1 (some .boolean) ∈ m_ws := m_mem (m_t3 (i := 120) (by decide +kernel)) (by decide +kernel)
theorem k_m_X7_135 : Cond.methodLink RX7 135 yX4_add ∈ m_ws := m_mem (m_t3 (i := 121) (by decide +kernel)) (by decide +kernel)
theorem k_i_yX4_add : Cond.instanceMethod yX4_add ∈ m_ws := m_mem (m_t3 (i := 122) (by decide +kernel)) (by decide +kernel)
theorem k_s_yX4_add : Cond.selects RX4 yX4_add yX4_add ∈ m_ws := m_mem (m_t3 (i := 123) (by decide +kernel)) (by decide +kernel)
theorem k_c_yX4_add : Cond.code yX4_add cX4_add 2 none ∈ m_ws := m_mem (m_t3 (i := 124) (by decide +kernel)) (by decide +kernel)
theorem k_m_X4_32 : Cond.methodLink RX4 32 yX4_parse ∈ m_ws := m_mem (m_t3 (i := 125) (by decide +kernel)) (by decide +kernel)
theorem k_i_yX4_parse : Cond.instanceMethod yX4_parse ∈ m_ws := m_mem (m_t3 (i := 127) (by decide +kernel)) (by decide +kernel)
theorem k_c_yX4_parse : Cond.code yX4_parse cX4_parse 1 none ∈ m_ws := m_mem (m_t3 (i := 128) (by decide +kernel)) (by decide +kernel)
theorem k_m_X4_64 : Cond.methodLink RX4 64 yX4_value ∈ m_ws := m_mem (m_t3 (i := 129) (by decide +kernel)) (by decide +kernel)
theorem k_i_yX4_value : Cond.instanceMethod yX4_value ∈ m_ws := m_mem (m_t3 (i := 131) (by decide +kernel)) (by decide +kernel)
theorem k_c_yX4_value : Cond.code yX4_value cX4_value 3 none ∈ m_ws := m_mem (m_t3 (i := 132) (by decide +kernel)) (by decide +kernel)
theorem k_m_X4_76 : Cond.methodLink RX4 76 yX4_both ∈ m_ws := m_mem (m_t3 (i := 133) (by decide +kernel)) (by decide +kernel)
theorem k_i_yX4_both : Cond.instanceMethod yX4_both ∈ m_ws := m_mem (m_t3 (i := 135) (by decide +kernel)) (by decide +kernel)
theorem k_c_yX4_both : Cond.code yX4_both cX4_both 3 none ∈ m_ws := m_mem (m_t3 (i := 136) (by decide +kernel)) (by decide +kernel)
theorem k_m_X4_83 : Cond.methodLink RX4 83 yX4_held ∈ m_ws := m_mem (m_t3 (i := 137) (by decide +kernel)) (by decide +kernel)
theorem k_i_yX4_held : Cond.instanceMethod yX4_held ∈ m_ws := m_mem (m_t3 (i := 139) (by decide +kernel)) (by decide +kernel)
theorem k_c_yX4_held : Cond.code yX4_held cX4_held 3 none ∈ m_ws := m_mem (m_t3 (i := 140) (by decide +kernel)) (by decide +kernel)
theorem k_m_X4_86 : Cond.methodLink RX4 86 yX4_sum ∈ m_ws := m_mem (m_t3 (i := 141) (by decide +kernel)) (by decide +kernel)
theorem k_i_yX4_sum : Cond.instanceMethod yX4_sum ∈ m_ws := m_mem (m_t3 (i := 143) (by decide +kernel)) (by decide +kernel)
theorem k_c_yX4_sum : Cond.code yX4_sum cX4_sum 4 none ∈ m_ws := m_mem (m_t3 (i := 144) (by decide +kernel)) (by decide +kernel)
theorem k_m_X4_89 : Cond.methodLink RX4 89 yX4_term ∈ m_ws := m_mem (m_t3 (i := 145) (by decide +kernel)) (by decide +kernel)
theorem k_i_yX4_term : Cond.instanceMethod yX4_term ∈ m_ws := m_mem (m_t3 (i := 147) (by decide +kernel)) (by decide +kernel)
theorem k_c_yX4_term : Cond.code yX4_term cX4_term 4 none ∈ m_ws := m_mem (m_t3 (i := 148) (by decide +kernel)) (by decide +kernel)
theorem k_m_X4_92 : Cond.methodLink RX4 92 yX4_unit ∈ m_ws := m_mem (m_t3 (i := 149) (by decide +kernel)) (by decide +kernel)
theorem k_i_yX4_unit : Cond.instanceMethod yX4_unit ∈ m_ws := m_mem (m_t3 (i := 151) (by decide +kernel)) (by decide +kernel)
theorem k_c_yX4_unit : Cond.code yX4_unit cX4_unit 5 none ∈ m_ws := m_mem (m_t3 (i := 152) (by decide +kernel)) (by decide +kernel)
theorem k_m_X4_68 : Cond.methodLink RX4 68 yX4_peek ∈ m_ws := m_mem (m_t3 (i := 153) (by decide +kernel)) (by decide +kernel)
theorem k_i_yX4_peek : Cond.instanceMethod yX4_peek ∈ m_ws := m_mem (m_t3 (i := 155) (by decide +kernel)) (by decide +kernel)
theorem k_c_yX4_peek : Cond.code yX4_peek cX4_peek 1 (some .int) ∈ m_ws := m_mem (m_t3 (i := 156) (by decide +kernel)) (by decide +kernel)
theorem k_m_X4_95 : Cond.methodLink RX4 95 yX4_operand ∈ m_ws := m_mem (m_t3 (i := 157) (by decide +kernel)) (by decide +kernel)
theorem k_i_yX4_operand : Cond.instanceMethod yX4_operand ∈ m_ws := m_mem (m_t3 (i := 159) (by decide +kernel)) (by decide +kernel)
theorem k_c_yX4_operand : Cond.code yX4_operand cX4_operand 3 none ∈ m_ws := m_mem (m_t3 (i := 160) (by decide +kernel)) (by decide +kernel)
theorem k_m_X4_98 : Cond.methodLink RX4 98 yX4_isDigit ∈ m_ws := m_mem (m_t3 (i := 161) (by decide +kernel)) (by decide +kernel)
theorem k_t_yX4_isDigit : Cond.static yX4_isDigit ∈ m_ws := m_mem (m_t3 (i := 162) (by decide +kernel)) (by decide +kernel)
theorem k_c_yX4_isDigit : Cond.code yX4_isDigit cX4_isDigit 1 (some .boolean) ∈ m_ws := m_mem (m_t3 (i := 163) (by decide +kernel)) (by decide +kernel)
theorem k_m_X4_102 : Cond.methodLink RX4 102 yX4_digits ∈ m_ws := m_mem (m_t3 (i := 164) (by decide +kernel)) (by decide +kernel)
theorem k_i_yX4_digits : Cond.instanceMethod yX4_digits ∈ m_ws := m_mem (m_t3 (i := 166) (by decide +kernel)) (by decide +kernel)
theorem k_c_yX4_digits : Cond.code yX4_digits cX4_digits 4 none ∈ m_ws := m_mem (m_t3 (i := 167) (by decide +kernel)) (by decide +kernel)
theorem k_l_X4_116 : Cond.constantLong RX4 116 (10) ∈ m_ws := m_mem (m_t3 (i := 168) (by decide +kernel)) (by decide +kernel)
theorem k_m_X4_72 : Cond.methodLink RX4 72 yX4_blame ∈ m_ws := m_mem (m_t3 (i := 169) (by decide +kernel)) (by decide +kernel)
theorem k_i_yX4_blame : Cond.instanceMethod yX4_blame ∈ m_ws := m_mem (m_t3 (i := 171) (by decide +kernel)) (by decide +kernel)
theorem k_c_yX4_blame : Cond.code yX4_blame cX4_blame 3 none ∈ m_ws := m_mem (m_t3 (i := 172) (by decide +kernel)) (by decide +kernel)
theorem k_m_X4_79 : Cond.methodLink RX4 79 yX4_step ∈ m_ws := m_mem (m_t3 (i := 173) (by decide +kernel)) (by decide +kernel)
theorem k_i_yX4_step : Cond.instanceMethod yX4_step ∈ m_ws := m_mem (m_t3 (i := 175) (by decide +kernel)) (by decide +kernel)
theorem k_c_yX4_step : Cond.code yX4_step cX4_step 4 none ∈ m_ws := m_mem (m_t3 (i := 176) (by decide +kernel)) (by decide +kernel)
theorem k_m_X4_105 : Cond.methodLink RX4 105 yX4_opened ∈ m_ws := m_mem (m_t3 (i := 177) (by decide +kernel)) (by decide +kernel)
theorem k_i_yX4_opened : Cond.instanceMethod yX4_opened ∈ m_ws := m_mem (m_t3 (i := 179) (by decide +kernel)) (by decide +kernel)
theorem k_c_yX4_opened : Cond.code yX4_opened cX4_opened 2 none ∈ m_ws := m_mem (m_t3 (i := 180) (by decide +kernel)) (by decide +kernel)
theorem k_m_X4_110 : Cond.methodLink RX4 110 yJ0_indexOf_0f7a4 ∈ m_ws := m_mem (m_t3 (i := 182) (by decide +kernel)) (by decide +kernel)
theorem k_i_yJ0_indexOf_0f7a4 : Cond.instanceMethod yJ0_indexOf_0f7a4 ∈ m_ws := m_mem (m_t3 (i := 183) (by decide +kernel)) (by decide +kernel)
theorem k_s_yJ0_indexOf_0f7a4 : Cond.selects RJ0 yJ0_indexOf_0f7a4 yJ0_indexOf_0f7a4 ∈ m_ws := m_mem (m_t3 (i := 184) (by decide +kernel)) (by decide +kernel)
theorem k_c_yJ0_indexOf_0f7a4 : Cond.code yJ0_indexOf_0f7a4 cJ0_indexOf_0f7a4 2 (some .int) ∈ m_ws := m_mem (m_t3 (i := 185) (by decide +kernel)) (by decide +kernel)
theorem k_m_J0_633 : Cond.methodLink RJ0 633 yJ0_indexOf_7cf53 ∈ m_ws := m_mem (m_t3 (i := 186) (by decide +kernel)) (by decide +kernel)
theorem k_i_yJ0_indexOf_7cf53 : Cond.instanceMethod yJ0_indexOf_7cf53 ∈ m_ws := m_mem (m_t3 (i := 187) (by decide +kernel)) (by decide +kernel)
theorem k_s_yJ0_indexOf_7cf53 : Cond.selects RJ0 yJ0_indexOf_7cf53 yJ0_indexOf_7cf53 ∈ m_ws := m_mem (m_t3 (i := 188) (by decide +kernel)) (by decide +kernel)
theorem k_c_yJ0_indexOf_7cf53 : Cond.code yJ0_indexOf_7cf53 cJ0_indexOf_7cf53 3 (some .int) ∈ m_ws := m_mem (m_t3 (i := 189) (by decide +kernel)) (by decide +kernel)
theorem k_m_J0_505 : Cond.methodLink RJ0 505 yJ0_length_8abf5 ∈ m_ws := m_mem (m_t3 (i := 190) (by decide +kernel)) (by decide +kernel)
theorem k_m_J0_637 : Cond.methodLink RJ0 637 yJ1_indexOf_4cfef ∈ m_ws := m_mem (m_t3 (i := 191) (by decide +kernel)) (by decide +kernel)
theorem k_t_yJ1_indexOf_4cfef : Cond.static yJ1_indexOf_4cfef ∈ m_ws := m_mem (m_t3 (i := 192) (by decide +kernel)) (by decide +kernel)
theorem k_c_yJ1_indexOf_4cfef : Cond.code yJ1_indexOf_4cfef cJ1_indexOf_4cfef 4 (some .int) ∈ m_ws := m_mem (m_t3 (i := 193) (by decide +kernel)) (by decide +kernel)
theorem k_m_J1_88 : Cond.methodLink RJ1 88 yJ1_canEncode_9a6ad ∈ m_ws := m_mem (m_t3 (i := 194) (by decide +kernel)) (by decide +kernel)
theorem k_t_yJ1_canEncode_9a6ad : Cond.static yJ1_canEncode_9a6ad ∈ m_ws := m_mem (m_t3 (i := 195) (by decide +kernel)) (by decide +kernel)
theorem k_c_yJ1_canEncode_9a6ad : Cond.code yJ1_canEncode_9a6ad cJ1_canEncode_9a6ad 1 (some .boolean) ∈ m_ws := m_mem (m_t3 (i := 196) (by decide +kernel)) (by decide +kernel)
theorem k_m_J1_92 : Cond.methodLink RJ1 92 yJ9_max_7cf53 ∈ m_ws := m_mem (m_t3 (i := 197) (by decide +kernel)) (by decide +kernel)
theorem k_m_J1_38 : Cond.methodLink RJ1 38 yJ9_min_7cf53 ∈ m_ws := m_mem (m_t3 (i := 198) (by decide +kernel)) (by decide +kernel)
theorem k_t_yJ9_min_7cf53 : Cond.static yJ9_min_7cf53 ∈ m_ws := m_mem (m_t3 (i := 199) (by decide +kernel)) (by decide +kernel)
theorem k_c_yJ9_min_7cf53 : Cond.code yJ9_min_7cf53 cJ9_min_7cf53 2 (some .int) ∈ m_ws := m_mem (m_t3 (i := 200) (by decide +kernel)) (by decide +kernel)
theorem k_m_J1_95 : Cond.methodLink RJ1 95 yJ1_indexOfChar_4cfef ∈ m_ws := m_mem (m_t3 (i := 201) (by decide +kernel)) (by decide +kernel)
theorem k_t_yJ1_indexOfChar_4cfef : Cond.static yJ1_indexOfChar_4cfef ∈ m_ws := m_mem (m_t3 (i := 202) (by decide +kernel)) (by decide +kernel)
theorem k_c_yJ1_indexOfChar_4cfef : Cond.code yJ1_indexOfChar_4cfef cJ1_indexOfChar_4cfef 6 (some .int) ∈ m_ws := m_mem (m_t3 (i := 203) (by decide +kernel)) (by decide +kernel)
theorem k_m_J0_640 : Cond.methodLink RJ0 640 yJ2_indexOf_4cfef ∈ m_ws := m_mem (m_t3 (i := 204) (by decide +kernel)) (by decide +kernel)
theorem k_t_yJ2_indexOf_4cfef : Cond.static yJ2_indexOf_4cfef ∈ m_ws := m_mem (m_t3 (i := 205) (by decide +kernel)) (by decide +kernel)
theorem k_c_yJ2_indexOf_4cfef : Cond.code yJ2_indexOf_4cfef cJ2_indexOf_4cfef 4 (some .int) ∈ m_ws := m_mem (m_t3 (i := 206) (by decide +kernel)) (by decide +kernel)
theorem k_m_J2_224 : Cond.methodLink RJ2 224 yJ9_max_7cf53 ∈ m_ws := m_mem (m_t3 (i := 207) (by decide +kernel)) (by decide +kernel)
theorem k_m_J2_183 : Cond.methodLink RJ2 183 yJ9_min_7cf53 ∈ m_ws := m_mem (m_t3 (i := 208) (by decide +kernel)) (by decide +kernel)
theorem k_k_J2_227 : Cond.constant RJ2 227 (65536) ∈ m_ws := m_mem (m_t3 (i := 209) (by decide +kernel)) (by decide +kernel)
theorem k_m_J2_228 : Cond.methodLink RJ2 228 yJ2_indexOfChar_4cfef ∈ m_ws := m_mem (m_t3 (i := 210) (by decide +kernel)) (by decide +kernel)
theorem k_t_yJ2_indexOfChar_4cfef : Cond.static yJ2_indexOfChar_4cfef ∈ m_ws := m_mem (m_t3 (i := 211) (by decide +kernel)) (by decide +kernel)
theorem k_c_yJ2_indexOfChar_4cfef : Cond.code yJ2_indexOfChar_4cfef cJ2_indexOfChar_4cfef 4 (some .int) ∈ m_ws := m_mem (m_t3 (i := 212) (by decide +kernel)) (by decide +kernel)
theorem k_m_J2_96 : Cond.methodLink RJ2 96 yJ2_checkBoundsBeginEnd_d044e ∈ m_ws := m_mem (m_t3 (i := 213) (by decide +kernel)) (by decide +kernel)
theorem k_t_yJ2_checkBoundsBeginEnd_d044e : Cond.static yJ2_checkBoundsBeginEnd_d044e ∈ m_ws := m_mem (m_t3 (i := 214) (by decide +kernel)) (by decide +kernel)
theorem k_c_yJ2_checkBoundsBeginEnd_d044e : Cond.code yJ2_checkBoundsBeginEnd_d044e cJ2_checkBoundsBeginEnd_d044e 3 none ∈ m_ws := m_mem (m_t3 (i := 215) (by decide +kernel)) (by decide +kernel)
theorem k_m_J2_241 : Cond.methodLink RJ2 241 yJ0_checkBoundsBeginEnd_23922 ∈ m_ws := m_mem (m_t3 (i := 216) (by decide +kernel)) (by decide +kernel)
theorem k_t_yJ0_checkBoundsBeginEnd_23922 : Cond.static yJ0_checkBoundsBeginEnd_23922 ∈ m_ws := m_mem (m_t3 (i := 217) (by decide +kernel)) (by decide +kernel)
theorem k_c_yJ0_checkBoundsBeginEnd_23922 : Cond.code yJ0_checkBoundsBeginEnd_23922 cJ0_checkBoundsBeginEnd_23922 3 none ∈ m_ws := m_mem (m_t3 (i := 218) (by decide +kernel)) (by decide +kernel)
theorem k_m_J0_1062 : Cond.methodLink RJ0 1062 yJ3_checkFromToIndex_8c36e ∈ m_ws := m_mem (m_t3 (i := 219) (by decide +kernel)) (by decide +kernel)
theorem k_t_yJ3_checkFromToIndex_8c36e : Cond.static yJ3_checkFromToIndex_8c36e ∈ m_ws := m_mem (m_t3 (i := 220) (by decide +kernel)) (by decide +kernel)
theorem k_c_yJ3_checkFromToIndex_8c36e : Cond.code yJ3_checkFromToIndex_8c36e cJ3_checkFromToIndex_8c36e 4 (some .int) ∈ m_ws := m_mem (m_t3 (i := 221) (by decide +kernel)) (by decide +kernel)
theorem k_m_J2_244 : Cond.methodLink RJ2 244 yJ2_indexOfCharUnsafe_4cfef ∈ m_ws := m_mem (m_t3 (i := 222) (by decide +kernel)) (by decide +kernel)
theorem k_t_yJ2_indexOfCharUnsafe_4cfef : Cond.static yJ2_indexOfCharUnsafe_4cfef ∈ m_ws := m_mem (m_t3 (i := 223) (by decide +kernel)) (by decide +kernel)
theorem k_c_yJ2_indexOfCharUnsafe_4cfef : Cond.code yJ2_indexOfCharUnsafe_4cfef cJ2_indexOfCharUnsafe_4cfef 5 (some .int) ∈ m_ws := m_mem (m_t3 (i := 224) (by decide +kernel)) (by decide +kernel)
theorem k_m_J2_232 : Cond.methodLink RJ2 232 yJ2_indexOfSupplementary_4cfef ∈ m_ws := m_mem (m_t3 (i := 225) (by decide +kernel)) (by decide +kernel)
theorem k_t_yJ2_indexOfSupplementary_4cfef : Cond.static yJ2_indexOfSupplementary_4cfef ∈ m_ws := m_mem (m_t3 (i := 226) (by decide +kernel)) (by decide +kernel)
theorem k_c_yJ2_indexOfSupplementary_4cfef : Cond.code yJ2_indexOfSupplementary_4cfef cJ2_indexOfSupplementary_4cfef 7 (some .int) ∈ m_ws := m_mem (m_t3 (i := 227) (by decide +kernel)) (by decide +kernel)
theorem k_m_J2_164 : Cond.methodLink RJ2 164 yJ11_isValidCodePoint_9a6ad ∈ m_ws := m_mem (m_t3 (i := 228) (by decide +kernel)) (by decide +kernel)
theorem k_t_yJ11_isValidCodePoint_9a6ad : Cond.static yJ11_isValidCodePoint_9a6ad ∈ m_ws := m_mem (m_t3 (i := 229) (by decide +kernel)) (by decide +kernel)
theorem k_c_yJ11_isValidCodePoint_9a6ad : Cond.code yJ11_isValidCodePoint_9a6ad cJ11_isValidCodePoint_9a6ad 2 (some .boolean) ∈ m_ws := m_mem (m_t3 (i := 230) (by decide +kernel)) (by decide +kernel)
theorem k_m_J2_157 : Cond.methodLink RJ2 157 yJ11_highSurrogate_5068e ∈ m_ws := m_mem (m_t3 (i := 231) (by decide +kernel)) (by decide +kernel)
theorem k_t_yJ11_highSurrogate_5068e : Cond.static yJ11_highSurrogate_5068e ∈ m_ws := m_mem (m_t3 (i := 232) (by decide +kernel)) (by decide +kernel)
theorem k_c_yJ11_highSurrogate_5068e : Cond.code yJ11_highSurrogate_5068e cJ11_highSurrogate_5068e 1 (some .char) ∈ m_ws := m_mem (m_t3 (i := 233) (by decide +kernel)) (by decide +kernel)
theorem k_k_J11_110 : Cond.constant RJ11 110 (55232) ∈ m_ws := m_mem (m_t3 (i := 234) (by decide +kernel)) (by decide +kernel)
theorem k_m_J2_161 : Cond.methodLink RJ2 161 yJ11_lowSurrogate_5068e ∈ m_ws := m_mem (m_t3 (i := 235) (by decide +kernel)) (by decide +kernel)
theorem k_t_yJ11_lowSurrogate_5068e : Cond.static yJ11_lowSurrogate_5068e ∈ m_ws := m_mem (m_t3 (i := 236) (by decide +kernel)) (by decide +kernel)
theorem k_c_yJ11_lowSurrogate_5068e : Cond.code yJ11_lowSurrogate_5068e cJ11_lowSurrogate_5068e 1 (some .char) ∈ m_ws := m_mem (m_t3 (i := 237) (by decide +kernel)) (by decide +kernel)
theorem k_k_J11_76 : Cond.constant RJ11 76 (56320) ∈ m_ws := m_mem (m_t3 (i := 238) (by decide +kernel)) (by decide +kernel)
theorem k_m_L_48 : Cond.methodLink RL 48 yX7_erase ∈ m_ws := m_mem (m_t3 (i := 239) (by decide +kernel)) (by decide +kernel)
theorem k_i_yX7_erase : Cond.instanceMethod yX7_erase ∈ m_ws := m_mem (m_t4 (i := 0) (by decide +kernel)) (by decide +kernel)
theorem k_s_yX7_erase : Cond.selects RX7 yX7_erase yX7_erase ∈ m_ws := m_mem (m_t4 (i := 1) (by decide +kernel)) (by decide +kernel)
theorem k_c_yX7_erase : Cond.code yX7_erase cX7_erase 2 (some .int) ∈ m_ws := m_mem (m_t4 (i := 2) (by decide +kernel)) (by decide +kernel)
theorem k_m_X7_136 : Cond.methodLink RX7 136 yX4_empty ∈ m_ws := m_mem (m_t4 (i := 3) (by decide +kernel)) (by decide +kernel)
theorem k_i_yX4_empty : Cond.instanceMethod yX4_empty ∈ m_ws := m_mem (m_t4 (i := 4) (by decide +kernel)) (by decide +kernel)
theorem k_s_yX4_empty : Cond.selects RX4 yX4_empty yX4_empty ∈ m_ws := m_mem (m_t4 (i := 5) (by decide +kernel)) (by decide +kernel)
theorem k_c_yX4_empty : Cond.code yX4_empty cX4_empty 2 (some .int) ∈ m_ws := m_mem (m_t4 (i := 6) (by decide +kernel)) (by decide +kernel)
theorem k_m_L_53 : Cond.methodLink RL 53 yX7_fault ∈ m_ws := m_mem (m_t4 (i := 7) (by decide +kernel)) (by decide +kernel)
theorem k_i_yX7_fault : Cond.instanceMethod yX7_fault ∈ m_ws := m_mem (m_t4 (i := 8) (by decide +kernel)) (by decide +kernel)
theorem k_s_yX7_fault : Cond.selects RX7 yX7_fault yX7_fault ∈ m_ws := m_mem (m_t4 (i := 9) (by decide +kernel)) (by decide +kernel)
theorem k_c_yX7_fault : Cond.code yX7_fault cX7_fault 2 (some .int) ∈ m_ws := m_mem (m_t4 (i := 10) (by decide +kernel)) (by decide +kernel)
theorem k_m_L_57 : Cond.methodLink RL 57 yX7_holder ∈ m_ws := m_mem (m_t4 (i := 11) (by decide +kernel)) (by decide +kernel)
theorem k_i_yX7_holder : Cond.instanceMethod yX7_holder ∈ m_ws := m_mem (m_t4 (i := 12) (by decide +kernel)) (by decide +kernel)
theorem k_s_yX7_holder : Cond.selects RX7 yX7_holder yX7_holder ∈ m_ws := m_mem (m_t4 (i := 13) (by decide +kernel)) (by decide +kernel)
theorem k_c_yX7_holder : Cond.code yX7_holder cX7_holder 3 (some .int) ∈ m_ws := m_mem (m_t4 (i := 14) (by decide +kernel)) (by decide +kernel)
theorem k_m_X7_142 : Cond.methodLink RX7 142 yX7_isPerson ∈ m_ws := m_mem (m_t4 (i := 15) (by decide +kernel)) (by decide +kernel)
theorem k_i_yX7_isPerson : Cond.instanceMethod yX7_isPerson ∈ m_ws := m_mem (m_t4 (i := 17) (by decide +kernel)) (by decide +kernel)
theorem k_c_yX7_isPerson : Cond.code yX7_isPerson cX7_isPerson 2 (some .boolean) ∈ m_ws := m_mem (m_t4 (i := 18) (by decide +kernel)) (by decide +kernel)
theorem k_m_X7_145 : Cond.methodLink RX7 145 yX7_isDay ∈ m_ws := m_mem (m_t4 (i := 19) (by decide +kernel)) (by decide +kernel)
theorem k_m_L_61 : Cond.methodLink RL 61 yX7_in ∈ m_ws := m_mem (m_t4 (i := 20) (by decide +kernel)) (by decide +kernel)
theorem k_i_yX7_in : Cond.instanceMethod yX7_in ∈ m_ws := m_mem (m_t4 (i := 21) (by decide +kernel)) (by decide +kernel)
theorem k_s_yX7_in : Cond.selects RX7 yX7_in yX7_in ∈ m_ws := m_mem (m_t4 (i := 22) (by decide +kernel)) (by decide +kernel)
theorem k_c_yX7_in : Cond.code yX7_in cX7_in 5 (some .int) ∈ m_ws := m_mem (m_t4 (i := 23) (by decide +kernel)) (by decide +kernel)
theorem k_m_X7_161 : Cond.methodLink RX7 161 yX5_partOf ∈ m_ws := m_mem (m_t4 (i := 24) (by decide +kernel)) (by decide +kernel)
theorem k_m_X7_165 : Cond.methodLink RX7 165 yX5_allParts ∈ m_ws := m_mem (m_t4 (i := 25) (by decide +kernel)) (by decide +kernel)
theorem k_i_yX5_allParts : Cond.instanceMethod yX5_allParts ∈ m_ws := m_mem (m_t4 (i := 26) (by decide +kernel)) (by decide +kernel)
theorem k_s_yX5_allParts : Cond.selects RX5 yX5_allParts yX5_allParts ∈ m_ws := m_mem (m_t4 (i := 27) (by decide +kernel)) (by decide +kernel)
theorem k_c_yX5_allParts : Cond.code yX5_allParts cX5_allParts 3 (some .int) ∈ m_ws := m_mem (m_t4 (i := 28) (by decide +kernel)) (by decide +kernel)
theorem k_m_X5_53 : Cond.methodLink RX5 53 yX5_partOf ∈ m_ws := m_mem (m_t4 (i := 29) (by decide +kernel)) (by decide +kernel)
theorem k_m_L_66 : Cond.methodLink RL 66 yX7_own ∈ m_ws := m_mem (m_t4 (i := 30) (by decide +kernel)) (by decide +kernel)
theorem k_i_yX7_own : Cond.instanceMethod yX7_own ∈ m_ws := m_mem (m_t4 (i := 31) (by decide +kernel)) (by decide +kernel)
theorem k_s_yX7_own : Cond.selects RX7 yX7_own yX7_own ∈ m_ws := m_mem (m_t4 (i := 32) (by decide +kernel)) (by decide +kernel)
theorem k_c_yX7_own : Cond.code yX7_own cX7_own 4 (some .int) ∈ m_ws := m_mem (m_t4 (i := 33) (by decide +kernel)) (by decide +kernel)
theorem k_m_X7_168 : Cond.methodLink RX7 168 yX1_reckon ∈ m_ws := m_mem (m_t4 (i := 34) (by decide +kernel)) (by decide +kernel)
theorem k_i_yX1_reckon : Cond.instanceMethod yX1_reckon ∈ m_ws := m_mem (m_t4 (i := 35) (by decide +kernel)) (by decide +kernel)
theorem k_s_yX1_reckon : Cond.selects RX1 yX1_reckon yX1_reckon ∈ m_ws := m_mem (m_t4 (i := 36) (by decide +kernel)) (by decide +kernel)
theorem k_c_yX1_reckon : Cond.code yX1_reckon cX1_reckon 3 none ∈ m_ws := m_mem (m_t4 (i := 37) (by decide +kernel)) (by decide +kernel)
theorem k_m_X1_60 : Cond.methodLink RX1 60 yX1_replay ∈ m_ws := m_mem (m_t4 (i := 38) (by decide +kernel)) (by decide +kernel)
theorem k_m_X1_64 : Cond.methodLink RX1 64 yX1_addSeconds ∈ m_ws := m_mem (m_t4 (i := 39) (by decide +kernel)) (by decide +kernel)
theorem k_i_yX1_addSeconds : Cond.instanceMethod yX1_addSeconds ∈ m_ws := m_mem (m_t4 (i := 41) (by decide +kernel)) (by decide +kernel)
theorem k_c_yX1_addSeconds : Cond.code yX1_addSeconds cX1_addSeconds 3 none ∈ m_ws := m_mem (m_t4 (i := 42) (by decide +kernel)) (by decide +kernel)
theorem k_m_X1_153 : Cond.methodLink RX1 153 yX1_stepsUp ∈ m_ws := m_mem (m_t4 (i := 43) (by decide +kernel)) (by decide +kernel)
theorem k_i_yX1_stepsUp : Cond.instanceMethod yX1_stepsUp ∈ m_ws := m_mem (m_t4 (i := 45) (by decide +kernel)) (by decide +kernel)
theorem k_c_yX1_stepsUp : Cond.code yX1_stepsUp cX1_stepsUp 4 (some .int) ∈ m_ws := m_mem (m_t4 (i := 46) (by decide +kernel)) (by decide +kernel)
theorem k_m_X1_162 : Cond.methodLink RX1 162 yX1_netOf ∈ m_ws := m_mem (m_t4 (i := 47) (by decide +kernel)) (by decide +kernel)
theorem k_i_yX1_netOf : Cond.instanceMethod yX1_netOf ∈ m_ws := m_mem (m_t4 (i := 48) (by decide +kernel)) (by decide +kernel)
theorem k_s_yX1_netOf : Cond.selects RX1 yX1_netOf yX1_netOf ∈ m_ws := m_mem (m_t4 (i := 49) (by decide +kernel)) (by decide +kernel)
theorem k_c_yX1_netOf : Cond.code yX1_netOf cX1_netOf 7 (some .int) ∈ m_ws := m_mem (m_t4 (i := 50) (by decide +kernel)) (by decide +kernel)
theorem k_m_X1_166 : Cond.methodLink RX1 166 yX5_allParts ∈ m_ws := m_mem (m_t4 (i := 51) (by decide +kernel)) (by decide +kernel)
theorem k_m_X1_169 : Cond.methodLink RX1 169 yX1_debtToHolder ∈ m_ws := m_mem (m_t4 (i := 52) (by decide +kernel)) (by decide +kernel)
theorem k_i_yX1_debtToHolder : Cond.instanceMethod yX1_debtToHolder ∈ m_ws := m_mem (m_t4 (i := 53) (by decide +kernel)) (by decide +kernel)
theorem k_s_yX1_debtToHolder : Cond.selects RX1 yX1_debtToHolder yX1_debtToHolder ∈ m_ws := m_mem (m_t4 (i := 54) (by decide +kernel)) (by decide +kernel)
theorem k_c_yX1_debtToHolder : Cond.code yX1_debtToHolder cX1_debtToHolder 3 (some .int) ∈ m_ws := m_mem (m_t4 (i := 55) (by decide +kernel)) (by decide +kernel)
theorem k_m_X1_172 : Cond.methodLink RX1 172 yX1_debtToFellows ∈ m_ws := m_mem (m_t4 (i := 56) (by decide +kernel)) (by decide +kernel)
theorem k_i_yX1_debtToFellows : Cond.instanceMethod yX1_debtToFellows ∈ m_ws := m_mem (m_t4 (i := 57) (by decide +kernel)) (by decide +kernel)
theorem k_s_yX1_debtToFellows : Cond.selects RX1 yX1_debtToFellows yX1_debtToFellows ∈ m_ws := m_mem (m_t4 (i := 58) (by decide +kernel)) (by decide +kernel)
theorem k_c_yX1_debtToFellows : Cond.code yX1_debtToFellows cX1_debtToFellows 5 (some .int) ∈ m_ws := m_mem (m_t4 (i := 59) (by decide +kernel)) (by decide +kernel)
theorem k_m_X1_179 : Cond.methodLink RX1 179 yX4_brought ∈ m_ws := m_mem (m_t4 (i := 60) (by decide +kernel)) (by decide +kernel)
theorem k_i_yX4_brought : Cond.instanceMethod yX4_brought ∈ m_ws := m_mem (m_t4 (i := 61) (by decide +kernel)) (by decide +kernel)
theorem k_s_yX4_brought : Cond.selects RX4 yX4_brought yX4_brought ∈ m_ws := m_mem (m_t4 (i := 62) (by decide +kernel)) (by decide +kernel)
theorem k_c_yX4_brought : Cond.code yX4_brought cX4_brought 4 (some .int) ∈ m_ws := m_mem (m_t4 (i := 63) (by decide +kernel)) (by decide +kernel)
theorem k_m_X4_43 : Cond.methodLink RX4 43 yX4_work ∈ m_ws := m_mem (m_t4 (i := 64) (by decide +kernel)) (by decide +kernel)
theorem k_i_yX4_work : Cond.instanceMethod yX4_work ∈ m_ws := m_mem (m_t4 (i := 66) (by decide +kernel)) (by decide +kernel)
theorem k_c_yX4_work : Cond.code yX4_work cX4_work 5 (some .long) ∈ m_ws := m_mem (m_t4 (i := 67) (by decide +kernel)) (by decide +kernel)
theorem k_m_X4_118 : Cond.methodLink RX4 118 yX4_join ∈ m_ws := m_mem (m_t4 (i := 68) (by decide +kernel)) (by decide +kernel)
theorem k_t_yX4_join : Cond.static yX4_join ∈ m_ws := m_mem (m_t4 (i := 69) (by decide +kernel)) (by decide +kernel)
theorem k_c_yX4_join : Cond.code yX4_join cX4_join 5 (some .long) ∈ m_ws := m_mem (m_t4 (i := 70) (by decide +kernel)) (by decide +kernel)
theorem k_l_X4_47 : Cond.constantLong RX4 47 (1000000) ∈ m_ws := m_mem (m_t4 (i := 71) (by decide +kernel)) (by decide +kernel)
theorem k_m_X4_49 : Cond.methodLink RX4 49 yJ9_min_f86c9 ∈ m_ws := m_mem (m_t4 (i := 72) (by decide +kernel)) (by decide +kernel)
theorem k_t_yJ9_min_f86c9 : Cond.static yJ9_min_f86c9 ∈ m_ws := m_mem (m_t4 (i := 73) (by decide +kernel)) (by decide +kernel)
theorem k_c_yJ9_min_f86c9 : Cond.code yJ9_min_f86c9 cJ9_min_f86c9 4 (some .long) ∈ m_ws := m_mem (m_t4 (i := 74) (by decide +kernel)) (by decide +kernel)
theorem k_m_X4_55 : Cond.methodLink RX4 55 yJ9_max_f86c9 ∈ m_ws := m_mem (m_t4 (i := 75) (by decide +kernel)) (by decide +kernel)
theorem k_t_yJ9_max_f86c9 : Cond.static yJ9_max_f86c9 ∈ m_ws := m_mem (m_t4 (i := 76) (by decide +kernel)) (by decide +kernel)
theorem k_c_yJ9_max_f86c9 : Cond.code yJ9_max_f86c9 cJ9_max_f86c9 4 (some .long) ∈ m_ws := m_mem (m_t4 (i := 77) (by decide +kernel)) (by decide +kernel)
theorem k_m_X7_174 : Cond.methodLink RX7 174 yX1_debtToHolder ∈ m_ws := m_mem (m_t4 (i := 78) (by decide +kernel)) (by decide +kernel)
theorem k_m_X7_177 : Cond.methodLink RX7 177 yX1_debtToFellows ∈ m_ws := m_mem (m_t4 (i := 79) (by decide +kernel)) (by decide +kernel)
theorem k_m_L_70 : Cond.methodLink RL 70 yX7_net ∈ m_ws := m_mem (m_t4 (i := 80) (by decide +kernel)) (by decide +kernel)
theorem k_i_yX7_net : Cond.instanceMethod yX7_net ∈ m_ws := m_mem (m_t4 (i := 81) (by decide +kernel)) (by decide +kernel)
theorem k_s_yX7_net : Cond.selects RX7 yX7_net yX7_net ∈ m_ws := m_mem (m_t4 (i := 82) (by decide +kernel)) (by decide +kernel)
theorem k_c_yX7_net : Cond.code yX7_net cX7_net 4 (some .int) ∈ m_ws := m_mem (m_t4 (i := 83) (by decide +kernel)) (by decide +kernel)
theorem k_m_X7_180 : Cond.methodLink RX7 180 yX1_netOf ∈ m_ws := m_mem (m_t4 (i := 84) (by decide +kernel)) (by decide +kernel)
theorem k_m_L_74 : Cond.methodLink RL 74 yX7_owed ∈ m_ws := m_mem (m_t4 (i := 85) (by decide +kernel)) (by decide +kernel)
theorem k_i_yX7_owed : Cond.instanceMethod yX7_owed ∈ m_ws := m_mem (m_t4 (i := 86) (by decide +kernel)) (by decide +kernel)
theorem k_s_yX7_owed : Cond.selects RX7 yX7_owed yX7_owed ∈ m_ws := m_mem (m_t4 (i := 87) (by decide +kernel)) (by decide +kernel)
theorem k_c_yX7_owed : Cond.code yX7_owed cX7_owed 3 (some .int) ∈ m_ws := m_mem (m_t4 (i := 88) (by decide +kernel)) (by decide +kernel)
theorem k_m_X7_184 : Cond.methodLink RX7 184 yX7_isDeal ∈ m_ws := m_mem (m_t4 (i := 89) (by decide +kernel)) (by decide +kernel)
theorem k_i_yX7_isDeal : Cond.instanceMethod yX7_isDeal ∈ m_ws := m_mem (m_t4 (i := 91) (by decide +kernel)) (by decide +kernel)
theorem k_c_yX7_isDeal : Cond.code yX7_isDeal cX7_isDeal 2 (some .boolean) ∈ m_ws := m_mem (m_t4 (i := 92) (by decide +kernel)) (by decide +kernel)
theorem k_m_X7_187 : Cond.methodLink RX7 187 yX1_isThere ∈ m_ws := m_mem (m_t4 (i := 93) (by decide +kernel)) (by decide +kernel)
theorem k_i_yX1_isThere : Cond.instanceMethod yX1_isThere ∈ m_ws := m_mem (m_t4 (i := 94) (by decide +kernel)) (by decide +kernel)
theorem k_s_yX1_isThere : Cond.selects RX1 yX1_isThere yX1_isThere ∈ m_ws := m_mem (m_t4 (i := 95) (by decide +kernel)) (by decide +kernel)
theorem k_c_yX1_isThere : Cond.code yX1_isThere cX1_isThere 2 (some .boolean) ∈ m_ws := m_mem (m_t4 (i := 96) (by decide +kernel)) (by decide +kernel)
theorem k_m_X7_194 : Cond.methodLink RX7 194 yX0_left ∈ m_ws := m_mem (m_t4 (i := 97) (by decide +kernel)) (by decide +kernel)
theorem k_m_L_78 : Cond.methodLink RL 78 yX7_answers ∈ m_ws := m_mem (m_t4 (i := 98) (by decide +kernel)) (by decide +kernel)
theorem k_i_yX7_answers : Cond.instanceMethod yX7_answers ∈ m_ws := m_mem (m_t4 (i := 99) (by decide +kernel)) (by decide +kernel)
theorem k_s_yX7_answers : Cond.selects RX7 yX7_answers yX7_answers ∈ m_ws := m_mem (m_t4 (i := 100) (by decide +kernel)) (by decide +kernel)
theorem k_c_yX7_answers : Cond.code yX7_answers cX7_answers 3 (some .int) ∈ m_ws := m_mem (m_t4 (i := 101) (by decide +kernel)) (by decide +kernel)
theorem k_m_X7_199 : Cond.methodLink RX7 199 yX1_answerer ∈ m_ws := m_mem (m_t4 (i := 102) (by decide +kernel)) (by decide +kernel)
theorem k_i_yX1_answerer : Cond.instanceMethod yX1_answerer ∈ m_ws := m_mem (m_t4 (i := 103) (by decide +kernel)) (by decide +kernel)
theorem k_s_yX1_answerer : Cond.selects RX1 yX1_answerer yX1_answerer ∈ m_ws := m_mem (m_t4 (i := 104) (by decide +kernel)) (by decide +kernel)
theorem k_c_yX1_answerer : Cond.code yX1_answerer cX1_answerer 3 (some .int) ∈ m_ws := m_mem (m_t4 (i := 105) (by decide +kernel)) (by decide +kernel)
theorem k_m_L_82 : Cond.methodLink RL 82 yX7_ask ∈ m_ws := m_mem (m_t4 (i := 106) (by decide +kernel)) (by decide +kernel)
theorem k_i_yX7_ask : Cond.instanceMethod yX7_ask ∈ m_ws := m_mem (m_t4 (i := 107) (by decide +kernel)) (by decide +kernel)
theorem k_s_yX7_ask : Cond.selects RX7 yX7_ask yX7_ask ∈ m_ws := m_mem (m_t4 (i := 108) (by decide +kernel)) (by decide +kernel)
theorem k_c_yX7_ask : Cond.code yX7_ask cX7_ask 4 (some .int) ∈ m_ws := m_mem (m_t4 (i := 109) (by decide +kernel)) (by decide +kernel)
theorem k_m_X7_202 : Cond.methodLink RX7 202 yX7_isAsk ∈ m_ws := m_mem (m_t4 (i := 110) (by decide +kernel)) (by decide +kernel)
theorem k_t_yX7_isAsk : Cond.static yX7_isAsk ∈ m_ws := m_mem (m_t4 (i := 111) (by decide +kernel)) (by decide +kernel)
theorem k_c_yX7_isAsk : Cond.code yX7_isAsk cX7_isAsk 1 (some .boolean) ∈ m_ws := m_mem (m_t4 (i := 112) (by decide +kernel)) (by decide +kernel)
theorem k_m_X7_205 : Cond.methodLink RX7 205 yX1_askAbove ∈ m_ws := m_mem (m_t4 (i := 113) (by decide +kernel)) (by decide +kernel)
theorem k_i_yX1_askAbove : Cond.instanceMethod yX1_askAbove ∈ m_ws := m_mem (m_t4 (i := 114) (by decide +kernel)) (by decide +kernel)
theorem k_s_yX1_askAbove : Cond.selects RX1 yX1_askAbove yX1_askAbove ∈ m_ws := m_mem (m_t4 (i := 115) (by decide +kernel)) (by decide +kernel)
theorem k_c_yX1_askAbove : Cond.code yX1_askAbove cX1_askAbove 4 (some .long) ∈ m_ws := m_mem (m_t4 (i := 116) (by decide +kernel)) (by decide +kernel)
theorem k_m_X1_212 : Cond.methodLink RX1 212 yX1_answerer ∈ m_ws := m_mem (m_t4 (i := 117) (by decide +kernel)) (by decide +kernel)
theorem k_m_X1_206 : Cond.methodLink RX1 206 yJ9_min_7cf53 ∈ m_ws := m_mem (m_t4 (i := 118) (by decide +kernel)) (by decide +kernel)
theorem k_m_X1_218 : Cond.methodLink RX1 218 yX1_purseAsk ∈ m_ws := m_mem (m_t4 (i := 119) (by decide +kernel)) (by decide +kernel)
theorem k_i_yX1_purseAsk : Cond.instanceMethod yX1_purseAsk ∈ m_ws := m_mem (m_t4 (i := 120) (by decide +kernel)) (by decide +kernel)
theorem k_s_yX1_purseAsk : Cond.selects RX1 yX1_purseAsk yX1_purseAsk ∈ m_ws := m_mem (m_t4 (i := 121) (by decide +kernel)) (by decide +kernel)
theorem k_c_yX1_purseAsk : Cond.code yX1_purseAsk cX1_purseAsk 3 (some .int) ∈ m_ws := m_mem (m_t4 (i := 122) (by decide +kernel)) (by decide +kernel)
theorem k_m_X1_200 : Cond.methodLink RX1 200 yX1_isPurseOpen ∈ m_ws := m_mem (m_t4 (i := 123) (by decide +kernel)) (by decide +kernel)
theorem k_i_yX1_isPurseOpen : Cond.instanceMethod yX1_isPurseOpen ∈ m_ws := m_mem (m_t4 (i := 124) (by decide +kernel)) (by decide +kernel)
theorem k_s_yX1_isPurseOpen : Cond.selects RX1 yX1_isPurseOpen yX1_isPurseOpen ∈ m_ws := m_mem (m_t4 (i := 125) (by decide +kernel)) (by decide +kernel)
theorem k_c_yX1_isPurseOpen : Cond.code yX1_isPurseOpen cX1_isPurseOpen 3 (some .boolean) ∈ m_ws := m_mem (m_t4 (i := 126) (by decide +kernel)) (by decide +kernel)
theorem k_m_X1_203 : Cond.methodLink RX1 203 yX1_hiddenBehind ∈ m_ws := m_mem (m_t4 (i := 127) (by decide +kernel)) (by decide +kernel)
theorem k_i_yX1_hiddenBehind : Cond.instanceMethod yX1_hiddenBehind ∈ m_ws := m_mem (m_t4 (i := 128) (by decide +kernel)) (by decide +kernel)
theorem k_s_yX1_hiddenBehind : Cond.selects RX1 yX1_hiddenBehind yX1_hiddenBehind ∈ m_ws := m_mem (m_t4 (i := 129) (by decide +kernel)) (by decide +kernel)
theorem k_c_yX1_hiddenBehind : Cond.code yX1_hiddenBehind cX1_hiddenBehind 2 (some .int) ∈ m_ws := m_mem (m_t4 (i := 130) (by decide +kernel)) (by decide +kernel)
theorem k_m_X1_224 : Cond.methodLink RX1 224 yX1_shareAbove ∈ m_ws := m_mem (m_t4 (i := 131) (by decide +kernel)) (by decide +kernel)
theorem k_i_yX1_shareAbove : Cond.instanceMethod yX1_shareAbove ∈ m_ws := m_mem (m_t4 (i := 133) (by decide +kernel)) (by decide +kernel)
theorem k_c_yX1_shareAbove : Cond.code yX1_shareAbove cX1_shareAbove 4 (some .long) ∈ m_ws := m_mem (m_t4 (i := 134) (by decide +kernel)) (by decide +kernel)
theorem k_m_X1_228 : Cond.methodLink RX1 228 yX1_allOwed ∈ m_ws := m_mem (m_t4 (i := 135) (by decide +kernel)) (by decide +kernel)
theorem k_i_yX1_allOwed : Cond.instanceMethod yX1_allOwed ∈ m_ws := m_mem (m_t4 (i := 137) (by decide +kernel)) (by decide +kernel)
theorem k_c_yX1_allOwed : Cond.code yX1_allOwed cX1_allOwed 5 (some .long) ∈ m_ws := m_mem (m_t4 (i := 138) (by decide +kernel)) (by decide +kernel)
theorem k_m_X1_238 : Cond.methodLink RX1 238 yJ9_min_f86c9 ∈ m_ws := m_mem (m_t4 (i := 139) (by decide +kernel)) (by decide +kernel)
theorem k_m_X7_209 : Cond.methodLink RX7 209 yX1_askBelow ∈ m_ws := m_mem (m_t4 (i := 140) (by decide +kernel)) (by decide +kernel)
theorem k_i_yX1_askBelow : Cond.instanceMethod yX1_askBelow ∈ m_ws := m_mem (m_t4 (i := 141) (by decide +kernel)) (by decide +kernel)
theorem k_s_yX1_askBelow : Cond.selects RX1 yX1_askBelow yX1_askBelow ∈ m_ws := m_mem (m_t4 (i := 142) (by decide +kernel)) (by decide +kernel)
theorem k_c_yX1_askBelow : Cond.code yX1_askBelow cX1_askBelow 3 (some .long) ∈ m_ws := m_mem (m_t4 (i := 143) (by decide +kernel)) (by decide +kernel)
theorem k_m_X1_231 : Cond.methodLink RX1 231 yJ9_max_f86c9 ∈ m_ws := m_mem (m_t4 (i := 144) (by decide +kernel)) (by decide +kernel)
theorem k_m_X7_212 : Cond.methodLink RX7 212 yX7_setFraction ∈ m_ws := m_mem (m_t4 (i := 145) (by decide +kernel)) (by decide +kernel)
theorem k_i_yX7_setFraction : Cond.instanceMethod yX7_setFraction ∈ m_ws := m_mem (m_t4 (i := 147) (by decide +kernel)) (by decide +kernel)
theorem k_c_yX7_setFraction : Cond.code yX7_setFraction cX7_setFraction 7 none ∈ m_ws := m_mem (m_t4 (i := 148) (by decide +kernel)) (by decide +kernel)
theorem k_m_X7_308 : Cond.methodLink RX7 308 yX7_commonMeasure ∈ m_ws := m_mem (m_t4 (i := 149) (by decide +kernel)) (by decide +kernel)
theorem k_t_yX7_commonMeasure : Cond.static yX7_commonMeasure ∈ m_ws := m_mem (m_t4 (i := 150) (by decide +kernel)) (by decide +kernel)
theorem k_c_yX7_commonMeasure : Cond.code yX7_commonMeasure cX7_commonMeasure 11 (some .long) ∈ m_ws := m_mem (m_t4 (i := 151) (by decide +kernel)) (by decide +kernel)
theorem k_m_L_86 : Cond.methodLink RL 86 yX7_best ∈ m_ws := m_mem (m_t4 (i := 152) (by decide +kernel)) (by decide +kernel)
theorem k_i_yX7_best : Cond.instanceMethod yX7_best ∈ m_ws := m_mem (m_t4 (i := 153) (by decide +kernel)) (by decide +kernel)
theorem k_s_yX7_best : Cond.selects RX7 yX7_best yX7_best ∈ m_ws := m_mem (m_t4 (i := 154) (by decide +kernel)) (by decide +kernel)
theorem k_c_yX7_best : Cond.code yX7_best cX7_best 13 (some .int) ∈ m_ws := m_mem (m_t4 (i := 155) (by decide +kernel)) (by decide +kernel)
theorem k_m_X7_216 : Cond.methodLink RX7 216 yX7_compare ∈ m_ws := m_mem (m_t4 (i := 156) (by decide +kernel)) (by decide +kernel)
theorem k_t_yX7_compare : Cond.static yX7_compare ∈ m_ws := m_mem (m_t4 (i := 157) (by decide +kernel)) (by decide +kernel)
theorem k_c_yX7_compare : Cond.code yX7_compare cX7_compare 8 (some .int) ∈ m_ws := m_mem (m_t4 (i := 158) (by decide +kernel)) (by decide +kernel)
theorem k_m_X7_303 : Cond.methodLink RX7 303 yJ13_compare_74951 ∈ m_ws := m_mem (m_t4 (i := 159) (by decide +kernel)) (by decide +kernel)
theorem k_t_yJ13_compare_74951 : Cond.static yJ13_compare_74951 ∈ m_ws := m_mem (m_t4 (i := 160) (by decide +kernel)) (by decide +kernel)
theorem k_c_yJ13_compare_74951 : Cond.code yJ13_compare_74951 cJ13_compare_74951 4 (some .int) ∈ m_ws := m_mem (m_t4 (i := 161) (by decide +kernel)) (by decide +kernel)
theorem k_m_L_90 : Cond.methodLink RL 90 yX7_line ∈ m_ws := m_mem (m_t4 (i := 162) (by decide +kernel)) (by decide +kernel)
theorem k_i_yX7_line : Cond.instanceMethod yX7_line ∈ m_ws := m_mem (m_t4 (i := 163) (by decide +kernel)) (by decide +kernel)
theorem k_s_yX7_line : Cond.selects RX7 yX7_line yX7_line ∈ m_ws := m_mem (m_t4 (i := 164) (by decide +kernel)) (by decide +kernel)
theorem k_c_yX7_line : Cond.code yX7_line cX7_line 3 (some .int) ∈ m_ws := m_mem (m_t4 (i := 165) (by decide +kernel)) (by decide +kernel)
theorem k_m_L_94 : Cond.methodLink RL 94 yX7_unline ∈ m_ws := m_mem (m_t4 (i := 166) (by decide +kernel)) (by decide +kernel)
theorem k_i_yX7_unline : Cond.instanceMethod yX7_unline ∈ m_ws := m_mem (m_t4 (i := 167) (by decide +kernel)) (by decide +kernel)
theorem k_s_yX7_unline : Cond.selects RX7 yX7_unline yX7_unline ∈ m_ws := m_mem (m_t4 (i := 168) (by decide +kernel)) (by decide +kernel)
theorem k_c_yX7_unline : Cond.code yX7_unline cX7_unline 2 (some .int) ∈ m_ws := m_mem (m_t4 (i := 169) (by decide +kernel)) (by decide +kernel)
theorem k_m_L_98 : Cond.methodLink RL 98 yX7_served ∈ m_ws := m_mem (m_t4 (i := 170) (by decide +kernel)) (by decide +kernel)
theorem k_i_yX7_served : Cond.instanceMethod yX7_served ∈ m_ws := m_mem (m_t4 (i := 171) (by decide +kernel)) (by decide +kernel)
theorem k_s_yX7_served : Cond.selects RX7 yX7_served yX7_served ∈ m_ws := m_mem (m_t4 (i := 172) (by decide +kernel)) (by decide +kernel)
theorem k_c_yX7_served : Cond.code yX7_served cX7_served 3 (some .int) ∈ m_ws := m_mem (m_t4 (i := 173) (by decide +kernel)) (by decide +kernel)
theorem k_m_X7_227 : Cond.methodLink RX7 227 yX7_isLined ∈ m_ws := m_mem (m_t4 (i := 174) (by decide +kernel)) (by decide +kernel)
theorem k_i_yX7_isLined : Cond.instanceMethod yX7_isLined ∈ m_ws := m_mem (m_t4 (i := 176) (by decide +kernel)) (by decide +kernel)
theorem k_c_yX7_isLined : Cond.code yX7_isLined cX7_isLined 2 (some .boolean) ∈ m_ws := m_mem (m_t4 (i := 177) (by decide +kernel)) (by decide +kernel)
theorem k_m_X7_230 : Cond.methodLink RX7 230 yX7_lineUp ∈ m_ws := m_mem (m_t4 (i := 178) (by decide +kernel)) (by decide +kernel)
theorem k_i_yX7_lineUp : Cond.instanceMethod yX7_lineUp ∈ m_ws := m_mem (m_t4 (i := 180) (by decide +kernel)) (by decide +kernel)
theorem k_c_yX7_lineUp : Cond.code yX7_lineUp cX7_lineUp 2 none ∈ m_ws := m_mem (m_t4 (i := 181) (by decide +kernel)) (by decide +kernel)
theorem k_m_X7_300 : Cond.methodLink RX7 300 yX6_lineUp ∈ m_ws := m_mem (m_t4 (i := 182) (by decide +kernel)) (by decide +kernel)
theorem k_i_yX6_lineUp : Cond.instanceMethod yX6_lineUp ∈ m_ws := m_mem (m_t4 (i := 183) (by decide +kernel)) (by decide +kernel)
theorem k_s_yX6_lineUp : Cond.selects RX6 yX6_lineUp yX6_lineUp ∈ m_ws := m_mem (m_t4 (i := 184) (by decide +kernel)) (by decide +kernel)
theorem k_c_yX6_lineUp : Cond.code yX6_lineUp cX6_lineUp 4 none ∈ m_ws := m_mem (m_t4 (i := 185) (by decide +kernel)) (by decide +kernel)
theorem k_m_X6_46 : Cond.methodLink RX6 46 yX6_leaveOut ∈ m_ws := m_mem (m_t4 (i := 186) (by decide +kernel)) (by decide +kernel)
theorem k_i_yX6_leaveOut : Cond.instanceMethod yX6_leaveOut ∈ m_ws := m_mem (m_t4 (i := 188) (by decide +kernel)) (by decide +kernel)
theorem k_c_yX6_leaveOut : Cond.code yX6_leaveOut cX6_leaveOut 2 none ∈ m_ws := m_mem (m_t4 (i := 189) (by decide +kernel)) (by decide +kernel)
theorem k_m_X6_53 : Cond.methodLink RX6 53 yX1_isThere ∈ m_ws := m_mem (m_t4 (i := 190) (by decide +kernel)) (by decide +kernel)
theorem k_m_X6_59 : Cond.methodLink RX6 59 yX6_stand ∈ m_ws := m_mem (m_t4 (i := 191) (by decide +kernel)) (by decide +kernel)
theorem k_i_yX6_stand : Cond.instanceMethod yX6_stand ∈ m_ws := m_mem (m_t4 (i := 193) (by decide +kernel)) (by decide +kernel)
theorem k_c_yX6_stand : Cond.code yX6_stand cX6_stand 5 none ∈ m_ws := m_mem (m_t4 (i := 194) (by decide +kernel)) (by decide +kernel)
theorem k_m_X6_73 : Cond.methodLink RX6 73 yX0_left ∈ m_ws := m_mem (m_t4 (i := 195) (by decide +kernel)) (by decide +kernel)
theorem k_m_X6_77 : Cond.methodLink RX6 77 yX1_isPurseOpen ∈ m_ws := m_mem (m_t4 (i := 196) (by decide +kernel)) (by decide +kernel)
theorem k_m_X6_80 : Cond.methodLink RX6 80 yX1_hiddenBehind ∈ m_ws := m_mem (m_t4 (i := 197) (by decide +kernel)) (by decide +kernel)
theorem k_m_X6_84 : Cond.methodLink RX6 84 yX1_netOf ∈ m_ws := m_mem (m_t4 (i := 198) (by decide +kernel)) (by decide +kernel)
theorem k_m_X6_92 : Cond.methodLink RX6 92 yX5_partOf ∈ m_ws := m_mem (m_t4 (i := 199) (by decide +kernel)) (by decide +kernel)
theorem k_m_X6_97 : Cond.methodLink RX6 97 yX1_debtToHolder ∈ m_ws := m_mem (m_t4 (i := 200) (by decide +kernel)) (by decide +kernel)
theorem k_m_X6_104 : Cond.methodLink RX6 104 yX1_answerer ∈ m_ws := m_mem (m_t4 (i := 201) (by decide +kernel)) (by decide +kernel)
theorem k_m_X7_233 : Cond.methodLink RX7 233 yX6_fromPurse ∈ m_ws := m_mem (m_t4 (i := 202) (by decide +kernel)) (by decide +kernel)
theorem k_i_yX6_fromPurse : Cond.instanceMethod yX6_fromPurse ∈ m_ws := m_mem (m_t4 (i := 203) (by decide +kernel)) (by decide +kernel)
theorem k_s_yX6_fromPurse : Cond.selects RX6 yX6_fromPurse yX6_fromPurse ∈ m_ws := m_mem (m_t4 (i := 204) (by decide +kernel)) (by decide +kernel)
theorem k_c_yX6_fromPurse : Cond.code yX6_fromPurse cX6_fromPurse 6 (some .long) ∈ m_ws := m_mem (m_t4 (i := 205) (by decide +kernel)) (by decide +kernel)
theorem k_m_X6_116 : Cond.methodLink RX6 116 yX6_sharedParts ∈ m_ws := m_mem (m_t4 (i := 206) (by decide +kernel)) (by decide +kernel)
theorem k_i_yX6_sharedParts : Cond.instanceMethod yX6_sharedParts ∈ m_ws := m_mem (m_t4 (i := 208) (by decide +kernel)) (by decide +kernel)
theorem k_c_yX6_sharedParts : Cond.code yX6_sharedParts cX6_sharedParts 7 (some .long) ∈ m_ws := m_mem (m_t4 (i := 209) (by decide +kernel)) (by decide +kernel)
theorem k_m_X6_120 : Cond.methodLink RX6 120 yX6_isIn ∈ m_ws := m_mem (m_t4 (i := 210) (by decide +kernel)) (by decide +kernel)
theorem k_t_yX6_isIn : Cond.static yX6_isIn ∈ m_ws := m_mem (m_t4 (i := 211) (by decide +kernel)) (by decide +kernel)
theorem k_c_yX6_isIn : Cond.code yX6_isIn cX6_isIn 2 (some .boolean) ∈ m_ws := m_mem (m_t4 (i := 212) (by decide +kernel)) (by decide +kernel)
theorem k_m_X6_124 : Cond.methodLink RX6 124 yX6_take ∈ m_ws := m_mem (m_t4 (i := 213) (by decide +kernel)) (by decide +kernel)
theorem k_i_yX6_take : Cond.instanceMethod yX6_take ∈ m_ws := m_mem (m_t4 (i := 215) (by decide +kernel)) (by decide +kernel)
theorem k_c_yX6_take : Cond.code yX6_take cX6_take 4 (some .long) ∈ m_ws := m_mem (m_t4 (i := 216) (by decide +kernel)) (by decide +kernel)
theorem k_m_X6_107 : Cond.methodLink RX6 107 yJ9_min_f86c9 ∈ m_ws := m_mem (m_t4 (i := 217) (by decide +kernel)) (by decide +kernel)
theorem k_m_X6_113 : Cond.methodLink RX6 113 yJ9_max_f86c9 ∈ m_ws := m_mem (m_t4 (i := 218) (by decide +kernel)) (by decide +kernel)
theorem k_m_L_102 : Cond.methodLink RL 102 yX7_orders ∈ m_ws := m_mem (m_t4 (i := 219) (by decide +kernel)) (by decide +kernel)
theorem k_i_yX7_orders : Cond.instanceMethod yX7_orders ∈ m_ws := m_mem (m_t4 (i := 220) (by decide +kernel)) (by decide +kernel)
theorem k_s_yX7_orders : Cond.selects RX7 yX7_orders yX7_orders ∈ m_ws := m_mem (m_t4 (i := 221) (by decide +kernel)) (by decide +kernel)
theorem k_c_yX7_orders : Cond.code yX7_orders cX7_orders 4 (some .int) ∈ m_ws := m_mem (m_t4 (i := 222) (by decide +kernel)) (by decide +kernel)
theorem k_m_X7_236 : Cond.methodLink RX7 236 yX6_tryOrders ∈ m_ws := m_mem (m_t4 (i := 223) (by decide +kernel)) (by decide +kernel)
theorem k_i_yX6_tryOrders : Cond.instanceMethod yX6_tryOrders ∈ m_ws := m_mem (m_t4 (i := 224) (by decide +kernel)) (by decide +kernel)
theorem k_s_yX6_tryOrders : Cond.selects RX6 yX6_tryOrders yX6_tryOrders ∈ m_ws := m_mem (m_t4 (i := 225) (by decide +kernel)) (by decide +kernel)
theorem k_c_yX6_tryOrders : Cond.code yX6_tryOrders cX6_tryOrders 2 none ∈ m_ws := m_mem (m_t4 (i := 226) (by decide +kernel)) (by decide +kernel)
theorem k_m_X6_135 : Cond.methodLink RX6 135 yX6_tryAhead ∈ m_ws := m_mem (m_t4 (i := 227) (by decide +kernel)) (by decide +kernel)
theorem k_i_yX6_tryAhead : Cond.instanceMethod yX6_tryAhead ∈ m_ws := m_mem (m_t4 (i := 229) (by decide +kernel)) (by decide +kernel)
theorem k_c_yX6_tryAhead : Cond.code yX6_tryAhead cX6_tryAhead 9 none ∈ m_ws := m_mem (m_t4 (i := 230) (by decide +kernel)) (by decide +kernel)
theorem k_m_L_106 : Cond.methodLink RL 106 yX7_rests ∈ m_ws := m_mem (m_t4 (i := 231) (by decide +kernel)) (by decide +kernel)
theorem k_i_yX7_rests : Cond.instanceMethod yX7_rests ∈ m_ws := m_mem (m_t4 (i := 232) (by decide +kernel)) (by decide +kernel)
theorem k_s_yX7_rests : Cond.selects RX7 yX7_rests yX7_rests ∈ m_ws := m_mem (m_t4 (i := 233) (by decide +kernel)) (by decide +kernel)
theorem k_c_yX7_rests : Cond.code yX7_rests cX7_rests 5 (some .int) ∈ m_ws := m_mem (m_t4 (i := 234) (by decide +kernel)) (by decide +kernel)
theorem k_m_X7_245 : Cond.methodLink RX7 245 yX6_isRest ∈ m_ws := m_mem (m_t4 (i := 235) (by decide +kernel)) (by decide +kernel)
theorem k_i_yX6_isRest : Cond.instanceMethod yX6_isRest ∈ m_ws := m_mem (m_t4 (i := 236) (by decide +kernel)) (by decide +kernel)
theorem k_s_yX6_isRest : Cond.selects RX6 yX6_isRest yX6_isRest ∈ m_ws := m_mem (m_t4 (i := 237) (by decide +kernel)) (by decide +kernel)
theorem k_c_yX6_isRest : Cond.code yX6_isRest cX6_isRest 3 (some .boolean) ∈ m_ws := m_mem (m_t4 (i := 238) (by decide +kernel)) (by decide +kernel)
theorem k_m_X6_139 : Cond.methodLink RX6 139 yX6_isBetterOtherwise ∈ m_ws := m_mem (m_t4 (i := 239) (by decide +kernel)) (by decide +kernel)
theorem k_i_yX6_isBetterOtherwise : Cond.instanceMethod yX6_isBetterOtherwise ∈ m_ws := m_mem (m_t5 (i := 1) (by decide +kernel)) (by decide +kernel)
theorem k_c_yX6_isBetterOtherwise : Cond.code yX6_isBetterOtherwise cX6_isBetterOtherwise 9 (some .boolean) ∈ m_ws := m_mem (m_t5 (i := 2) (by decide +kernel)) (by decide +kernel)
theorem k_m_X6_142 : Cond.methodLink RX6 142 yX6_fromPurse ∈ m_ws := m_mem (m_t5 (i := 3) (by decide +kernel)) (by decide +kernel)
theorem k_m_X6_145 : Cond.methodLink RX6 145 yX6_sharersOwed ∈ m_ws := m_mem (m_t5 (i := 4) (by decide +kernel)) (by decide +kernel)
theorem k_i_yX6_sharersOwed : Cond.instanceMethod yX6_sharersOwed ∈ m_ws := m_mem (m_t5 (i := 6) (by decide +kernel)) (by decide +kernel)
theorem k_c_yX6_sharersOwed : Cond.code yX6_sharersOwed cX6_sharersOwed 6 (some .long) ∈ m_ws := m_mem (m_t5 (i := 7) (by decide +kernel)) (by decide +kernel)
theorem k_m_X6_148 : Cond.methodLink RX6 148 yX6_shareAbove ∈ m_ws := m_mem (m_t5 (i := 8) (by decide +kernel)) (by decide +kernel)
theorem k_i_yX6_shareAbove : Cond.instanceMethod yX6_shareAbove ∈ m_ws := m_mem (m_t5 (i := 10) (by decide +kernel)) (by decide +kernel)
theorem k_c_yX6_shareAbove : Cond.code yX6_shareAbove cX6_shareAbove 4 (some .long) ∈ m_ws := m_mem (m_t5 (i := 11) (by decide +kernel)) (by decide +kernel)
theorem k_m_X6_151 : Cond.methodLink RX6 151 yJ13_compare_74951 ∈ m_ws := m_mem (m_t5 (i := 12) (by decide +kernel)) (by decide +kernel)
theorem k_m_L_110 : Cond.methodLink RL 110 yX7_wise ∈ m_ws := m_mem (m_t5 (i := 13) (by decide +kernel)) (by decide +kernel)
theorem k_i_yX7_wise : Cond.instanceMethod yX7_wise ∈ m_ws := m_mem (m_t5 (i := 14) (by decide +kernel)) (by decide +kernel)
theorem k_s_yX7_wise : Cond.selects RX7 yX7_wise yX7_wise ∈ m_ws := m_mem (m_t5 (i := 15) (by decide +kernel)) (by decide +kernel)
theorem k_c_yX7_wise : Cond.code yX7_wise cX7_wise 5 (some .int) ∈ m_ws := m_mem (m_t5 (i := 16) (by decide +kernel)) (by decide +kernel)
theorem k_k_X7_248 : Cond.constant RX7 248 (1000000) ∈ m_ws := m_mem (m_t5 (i := 17) (by decide +kernel)) (by decide +kernel)
theorem k_m_L_114 : Cond.methodLink RL 114 yX7_sure ∈ m_ws := m_mem (m_t5 (i := 18) (by decide +kernel)) (by decide +kernel)
theorem k_i_yX7_sure : Cond.instanceMethod yX7_sure ∈ m_ws := m_mem (m_t5 (i := 19) (by decide +kernel)) (by decide +kernel)
theorem k_s_yX7_sure : Cond.selects RX7 yX7_sure yX7_sure ∈ m_ws := m_mem (m_t5 (i := 20) (by decide +kernel)) (by decide +kernel)
theorem k_c_yX7_sure : Cond.code yX7_sure cX7_sure 8 (some .int) ∈ m_ws := m_mem (m_t5 (i := 21) (by decide +kernel)) (by decide +kernel)
theorem k_m_X7_249 : Cond.methodLink RX7 249 yX7_isTooEarly ∈ m_ws := m_mem (m_t5 (i := 22) (by decide +kernel)) (by decide +kernel)
theorem k_i_yX7_isTooEarly : Cond.instanceMethod yX7_isTooEarly ∈ m_ws := m_mem (m_t5 (i := 24) (by decide +kernel)) (by decide +kernel)
theorem k_c_yX7_isTooEarly : Cond.code yX7_isTooEarly cX7_isTooEarly 3 (some .boolean) ∈ m_ws := m_mem (m_t5 (i := 25) (by decide +kernel)) (by decide +kernel)
theorem k_m_X7_253 : Cond.methodLink RX7 253 yX7_askInAllWays ∈ m_ws := m_mem (m_t5 (i := 26) (by decide +kernel)) (by decide +kernel)
theorem k_i_yX7_askInAllWays : Cond.instanceMethod yX7_askInAllWays ∈ m_ws := m_mem (m_t5 (i := 28) (by decide +kernel)) (by decide +kernel)
theorem k_c_yX7_askInAllWays : Cond.code yX7_askInAllWays cX7_askInAllWays 5 none ∈ m_ws := m_mem (m_t5 (i := 29) (by decide +kernel)) (by decide +kernel)
theorem k_m_X7_257 : Cond.methodLink RX7 257 yX7_ways ∈ m_ws := m_mem (m_t5 (i := 30) (by decide +kernel)) (by decide +kernel)
theorem k_i_yX7_ways : Cond.instanceMethod yX7_ways ∈ m_ws := m_mem (m_t5 (i := 32) (by decide +kernel)) (by decide +kernel)
theorem k_c_yX7_ways : Cond.code yX7_ways cX7_ways 1 (some .int) ∈ m_ws := m_mem (m_t5 (i := 33) (by decide +kernel)) (by decide +kernel)
theorem k_m_X7_260 : Cond.methodLink RX7 260 yX7_compareWays ∈ m_ws := m_mem (m_t5 (i := 34) (by decide +kernel)) (by decide +kernel)
theorem k_i_yX7_compareWays : Cond.instanceMethod yX7_compareWays ∈ m_ws := m_mem (m_t5 (i := 36) (by decide +kernel)) (by decide +kernel)
theorem k_c_yX7_compareWays : Cond.code yX7_compareWays cX7_compareWays 3 (some .int) ∈ m_ws := m_mem (m_t5 (i := 37) (by decide +kernel)) (by decide +kernel)
theorem k_m_L_119 : Cond.methodLink RL 119 yX7_hangs ∈ m_ws := m_mem (m_t5 (i := 38) (by decide +kernel)) (by decide +kernel)
theorem k_i_yX7_hangs : Cond.instanceMethod yX7_hangs ∈ m_ws := m_mem (m_t5 (i := 39) (by decide +kernel)) (by decide +kernel)
theorem k_s_yX7_hangs : Cond.selects RX7 yX7_hangs yX7_hangs ∈ m_ws := m_mem (m_t5 (i := 40) (by decide +kernel)) (by decide +kernel)
theorem k_c_yX7_hangs : Cond.code yX7_hangs cX7_hangs 8 (some .int) ∈ m_ws := m_mem (m_t5 (i := 41) (by decide +kernel)) (by decide +kernel)
theorem k_m_L_123 : Cond.methodLink RL 123 yX7_parted ∈ m_ws := m_mem (m_t5 (i := 42) (by decide +kernel)) (by decide +kernel)
theorem k_i_yX7_parted : Cond.instanceMethod yX7_parted ∈ m_ws := m_mem (m_t5 (i := 43) (by decide +kernel)) (by decide +kernel)
theorem k_s_yX7_parted : Cond.selects RX7 yX7_parted yX7_parted ∈ m_ws := m_mem (m_t5 (i := 44) (by decide +kernel)) (by decide +kernel)
theorem k_c_yX7_parted : Cond.code yX7_parted cX7_parted 3 (some .int) ∈ m_ws := m_mem (m_t5 (i := 45) (by decide +kernel)) (by decide +kernel)
theorem k_m_X7_265 : Cond.methodLink RX7 265 yX1_purseAsk ∈ m_ws := m_mem (m_t5 (i := 46) (by decide +kernel)) (by decide +kernel)
theorem k_m_L_127 : Cond.methodLink RL 127 yX7_part ∈ m_ws := m_mem (m_t5 (i := 47) (by decide +kernel)) (by decide +kernel)
theorem k_i_yX7_part : Cond.instanceMethod yX7_part ∈ m_ws := m_mem (m_t5 (i := 48) (by decide +kernel)) (by decide +kernel)
theorem k_s_yX7_part : Cond.selects RX7 yX7_part yX7_part ∈ m_ws := m_mem (m_t5 (i := 49) (by decide +kernel)) (by decide +kernel)
theorem k_c_yX7_part : Cond.code yX7_part cX7_part 2 (some .long) ∈ m_ws := m_mem (m_t5 (i := 50) (by decide +kernel)) (by decide +kernel)
theorem k_l_X7_268 : Cond.constantLong RX7 268 (-1) ∈ m_ws := m_mem (m_t5 (i := 51) (by decide +kernel)) (by decide +kernel)
theorem k_m_L_132 : Cond.methodLink RL 132 yX7_told ∈ m_ws := m_mem (m_t5 (i := 52) (by decide +kernel)) (by decide +kernel)
theorem k_i_yX7_told : Cond.instanceMethod yX7_told ∈ m_ws := m_mem (m_t5 (i := 53) (by decide +kernel)) (by decide +kernel)
theorem k_s_yX7_told : Cond.selects RX7 yX7_told yX7_told ∈ m_ws := m_mem (m_t5 (i := 54) (by decide +kernel)) (by decide +kernel)
theorem k_c_yX7_told : Cond.code yX7_told cX7_told 3 (some .int) ∈ m_ws := m_mem (m_t5 (i := 55) (by decide +kernel)) (by decide +kernel)
theorem k_m_L_136 : Cond.methodLink RL 136 yX7_image ∈ m_ws := m_mem (m_t5 (i := 56) (by decide +kernel)) (by decide +kernel)
theorem k_i_yX7_image : Cond.instanceMethod yX7_image ∈ m_ws := m_mem (m_t5 (i := 57) (by decide +kernel)) (by decide +kernel)
theorem k_s_yX7_image : Cond.selects RX7 yX7_image yX7_image ∈ m_ws := m_mem (m_t5 (i := 58) (by decide +kernel)) (by decide +kernel)
theorem k_c_yX7_image : Cond.code yX7_image cX7_image 2 (some .int) ∈ m_ws := m_mem (m_t5 (i := 59) (by decide +kernel)) (by decide +kernel)
theorem k_m_X7_273 : Cond.methodLink RX7 273 yX3_takeAll ∈ m_ws := m_mem (m_t5 (i := 60) (by decide +kernel)) (by decide +kernel)
theorem k_i_yX3_takeAll : Cond.instanceMethod yX3_takeAll ∈ m_ws := m_mem (m_t5 (i := 61) (by decide +kernel)) (by decide +kernel)
theorem k_s_yX3_takeAll : Cond.selects RX3 yX3_takeAll yX3_takeAll ∈ m_ws := m_mem (m_t5 (i := 62) (by decide +kernel)) (by decide +kernel)
theorem k_c_yX3_takeAll : Cond.code yX3_takeAll cX3_takeAll 3 none ∈ m_ws := m_mem (m_t5 (i := 63) (by decide +kernel)) (by decide +kernel)
theorem k_m_X3_41 : Cond.methodLink RX3 41 arraycopyName ∈ m_ws := m_mem (m_t5 (i := 64) (by decide +kernel)) (by decide +kernel)
theorem k_t_arraycopyName : Cond.static arraycopyName ∈ m_ws := m_mem (m_t5 (i := 65) (by decide +kernel)) (by decide +kernel)
theorem k_v_arraycopyName : Cond.native arraycopyName ∈ m_ws := m_mem (m_t5 (i := 66) (by decide +kernel)) (by decide +kernel)
theorem k_m_X3_47 : Cond.methodLink RX3 47 yX4_takeAll ∈ m_ws := m_mem (m_t5 (i := 67) (by decide +kernel)) (by decide +kernel)
theorem k_i_yX4_takeAll : Cond.instanceMethod yX4_takeAll ∈ m_ws := m_mem (m_t5 (i := 68) (by decide +kernel)) (by decide +kernel)
theorem k_s_yX4_takeAll : Cond.selects RX4 yX4_takeAll yX4_takeAll ∈ m_ws := m_mem (m_t5 (i := 69) (by decide +kernel)) (by decide +kernel)
theorem k_c_yX4_takeAll : Cond.code yX4_takeAll cX4_takeAll 2 none ∈ m_ws := m_mem (m_t5 (i := 70) (by decide +kernel)) (by decide +kernel)
theorem k_m_X4_35 : Cond.methodLink RX4 35 arraycopyName ∈ m_ws := m_mem (m_t5 (i := 71) (by decide +kernel)) (by decide +kernel)
theorem k_m_L_140 : Cond.methodLink RL 140 yX7_from ∈ m_ws := m_mem (m_t5 (i := 72) (by decide +kernel)) (by decide +kernel)
theorem k_i_yX7_from : Cond.instanceMethod yX7_from ∈ m_ws := m_mem (m_t5 (i := 73) (by decide +kernel)) (by decide +kernel)
theorem k_s_yX7_from : Cond.selects RX7 yX7_from yX7_from ∈ m_ws := m_mem (m_t5 (i := 74) (by decide +kernel)) (by decide +kernel)
theorem k_c_yX7_from : Cond.code yX7_from cX7_from 2 (some .int) ∈ m_ws := m_mem (m_t5 (i := 75) (by decide +kernel)) (by decide +kernel)
theorem k_m_L_144 : Cond.methodLink RL 144 yX7_count ∈ m_ws := m_mem (m_t5 (i := 76) (by decide +kernel)) (by decide +kernel)
theorem k_i_yX7_count : Cond.instanceMethod yX7_count ∈ m_ws := m_mem (m_t5 (i := 77) (by decide +kernel)) (by decide +kernel)
theorem k_s_yX7_count : Cond.selects RX7 yX7_count yX7_count ∈ m_ws := m_mem (m_t5 (i := 78) (by decide +kernel)) (by decide +kernel)
theorem k_c_yX7_count : Cond.code yX7_count cX7_count 2 (some .int) ∈ m_ws := m_mem (m_t5 (i := 79) (by decide +kernel)) (by decide +kernel)
theorem k_m_X7_276 : Cond.methodLink RX7 276 yX3_howMany ∈ m_ws := m_mem (m_t5 (i := 80) (by decide +kernel)) (by decide +kernel)
theorem k_i_yX3_howMany : Cond.instanceMethod yX3_howMany ∈ m_ws := m_mem (m_t5 (i := 81) (by decide +kernel)) (by decide +kernel)
theorem k_s_yX3_howMany : Cond.selects RX3 yX3_howMany yX3_howMany ∈ m_ws := m_mem (m_t5 (i := 82) (by decide +kernel)) (by decide +kernel)
theorem k_c_yX3_howMany : Cond.code yX3_howMany cX3_howMany 2 (some .int) ∈ m_ws := m_mem (m_t5 (i := 83) (by decide +kernel)) (by decide +kernel)
theorem k_m_L_148 : Cond.methodLink RL 148 yX7_digest ∈ m_ws := m_mem (m_t5 (i := 84) (by decide +kernel)) (by decide +kernel)
theorem k_i_yX7_digest : Cond.instanceMethod yX7_digest ∈ m_ws := m_mem (m_t5 (i := 85) (by decide +kernel)) (by decide +kernel)
theorem k_s_yX7_digest : Cond.selects RX7 yX7_digest yX7_digest ∈ m_ws := m_mem (m_t5 (i := 86) (by decide +kernel)) (by decide +kernel)
theorem k_c_yX7_digest : Cond.code yX7_digest cX7_digest 4 (some .long) ∈ m_ws := m_mem (m_t5 (i := 87) (by decide +kernel)) (by decide +kernel)
theorem k_l_X7_279 : Cond.constantLong RX7 279 (491) ∈ m_ws := m_mem (m_t5 (i := 88) (by decide +kernel)) (by decide +kernel)
theorem k_l_X7_281 : Cond.constantLong RX7 281 (31) ∈ m_ws := m_mem (m_t5 (i := 89) (by decide +kernel)) (by decide +kernel)
theorem k_m_X7_283 : Cond.methodLink RX7 283 yX4_digestFrom ∈ m_ws := m_mem (m_t5 (i := 90) (by decide +kernel)) (by decide +kernel)
theorem k_i_yX4_digestFrom : Cond.instanceMethod yX4_digestFrom ∈ m_ws := m_mem (m_t5 (i := 91) (by decide +kernel)) (by decide +kernel)
theorem k_s_yX4_digestFrom : Cond.selects RX4 yX4_digestFrom yX4_digestFrom ∈ m_ws := m_mem (m_t5 (i := 92) (by decide +kernel)) (by decide +kernel)
theorem k_c_yX4_digestFrom : Cond.code yX4_digestFrom cX4_digestFrom 6 (some .long) ∈ m_ws := m_mem (m_t5 (i := 93) (by decide +kernel)) (by decide +kernel)
theorem k_l_X4_41 : Cond.constantLong RX4 41 (31) ∈ m_ws := m_mem (m_t5 (i := 94) (by decide +kernel)) (by decide +kernel)
theorem k_m_X7_287 : Cond.methodLink RX7 287 yX7_digestOfPersons ∈ m_ws := m_mem (m_t5 (i := 95) (by decide +kernel)) (by decide +kernel)
theorem k_i_yX7_digestOfPersons : Cond.instanceMethod yX7_digestOfPersons ∈ m_ws := m_mem (m_t5 (i := 97) (by decide +kernel)) (by decide +kernel)
theorem k_c_yX7_digestOfPersons : Cond.code yX7_digestOfPersons cX7_digestOfPersons 6 (some .long) ∈ m_ws := m_mem (m_t5 (i := 98) (by decide +kernel)) (by decide +kernel)
theorem k_x_L_10 : Cond.classLink RL 10 RX8 ∈ m_ws := m_mem (m_t5 (i := 99) (by decide +kernel)) (by decide +kernel)
theorem k_w_X8 : Cond.instantiable RX8 54 ∈ m_ws := m_mem (m_t5 (i := 100) (by decide +kernel)) (by decide +kernel)
theorem k_m_L_12 : Cond.methodLink RL 12 yX8_init ∈ m_ws := m_mem (m_t5 (i := 101) (by decide +kernel)) (by decide +kernel)
theorem k_i_yX8_init : Cond.instanceMethod yX8_init ∈ m_ws := m_mem (m_t5 (i := 102) (by decide +kernel)) (by decide +kernel)
theorem k_c_yX8_init : Cond.code yX8_init cX8_init 1 none ∈ m_ws := m_mem (m_t5 (i := 103) (by decide +kernel)) (by decide +kernel)
theorem k_m_X8_1 : Cond.methodLink RX8 1 objectInit ∈ m_ws := m_mem (m_t5 (i := 104) (by decide +kernel)) (by decide +kernel)
theorem k_f_X8_7 : Cond.fieldLink RX8 7 "SonsPurseModel" "now" "[I" ∈ m_ws := m_mem (m_t5 (i := 105) (by decide +kernel)) (by decide +kernel)
theorem k_f_X8_13 : Cond.fieldLink RX8 13 "SonsPurseModel" "kept" "[I" ∈ m_ws := m_mem (m_t5 (i := 106) (by decide +kernel)) (by decide +kernel)
theorem k_f_X8_16 : Cond.fieldLink RX8 16 "SonsPurseModel" "isKept" "[Z" ∈ m_ws := m_mem (m_t5 (i := 107) (by decide +kernel)) (by decide +kernel)
theorem k_f_X8_20 : Cond.fieldLink RX8 20 "SonsPurseModel" "text" "[I" ∈ m_ws := m_mem (m_t5 (i := 108) (by decide +kernel)) (by decide +kernel)
theorem k_f_X8_196 : Cond.fieldLink RX8 196 "SonsPurseModel" "textLong" "I" ∈ m_ws := m_mem (m_t5 (i := 109) (by decide +kernel)) (by decide +kernel)
theorem k_f_X8_386 : Cond.fieldLink RX8 386 "SonsPurseModel" "above" "J" ∈ m_ws := m_mem (m_t5 (i := 110) (by decide +kernel)) (by decide +kernel)
theorem k_f_X8_23 : Cond.fieldLink RX8 23 "SonsPurseModel" "below" "J" ∈ m_ws := m_mem (m_t5 (i := 111) (by decide +kernel)) (by decide +kernel)
theorem k_f_X8_27 : Cond.fieldLink RX8 27 "SonsPurseModel" "holder" "[I" ∈ m_ws := m_mem (m_t5 (i := 112) (by decide +kernel)) (by decide +kernel)
theorem k_f_X8_30 : Cond.fieldLink RX8 30 "SonsPurseModel" "endHolder" "[I" ∈ m_ws := m_mem (m_t5 (i := 113) (by decide +kernel)) (by decide +kernel)
theorem k_f_X8_33 : Cond.fieldLink RX8 33 "SonsPurseModel" "endDay" "[I" ∈ m_ws := m_mem (m_t5 (i := 114) (by decide +kernel)) (by decide +kernel)
theorem k_f_X8_36 : Cond.fieldLink RX8 36 "SonsPurseModel" "endHow" "[I" ∈ m_ws := m_mem (m_t5 (i := 115) (by decide +kernel)) (by decide +kernel)
theorem k_f_X8_39 : Cond.fieldLink RX8 39 "SonsPurseModel" "parts" "[I" ∈ m_ws := m_mem (m_t5 (i := 116) (by decide +kernel)) (by decide +kernel)
theorem k_f_X8_42 : Cond.fieldLink RX8 42 "SonsPurseModel" "posts" "[Z" ∈ m_ws := m_mem (m_t5 (i := 117) (by decide +kernel)) (by decide +kernel)
theorem k_f_X8_45 : Cond.fieldLink RX8 45 "SonsPurseModel" "knows" "[Z" ∈ m_ws := m_mem (m_t5 (i := 118) (by decide +kernel)) (by decide +kernel)
theorem k_f_X8_48 : Cond.fieldLink RX8 48 "SonsPurseModel" "debts" "[I" ∈ m_ws := m_mem (m_t5 (i := 119) (by decide +kernel)) (by decide +kernel)
theorem k_f_X8_51 : Cond.fieldLink RX8 51 "SonsPurseModel" "dealNote" "[I" ∈ m_ws := m_mem (m_t5 (i := 120) (by decide +kernel)) (by decide +kernel)
theorem k_f_X8_54 : Cond.fieldLink RX8 54 "SonsPurseModel" "dealPaid" "[I" ∈ m_ws := m_mem (m_t5 (i := 121) (by decide +kernel)) (by decide +kernel)
theorem k_f_X8_57 : Cond.fieldLink RX8 57 "SonsPurseModel" "dealUsed" "[I" ∈ m_ws := m_mem (m_t5 (i := 122) (by decide +kernel)) (by decide +kernel)
theorem k_f_X8_60 : Cond.fieldLink RX8 60 "SonsPurseModel" "dealLost" "[I" ∈ m_ws := m_mem (m_t5 (i := 123) (by decide +kernel)) (by decide +kernel)
theorem k_f_X8_63 : Cond.fieldLink RX8 63 "SonsPurseModel" "dealOrdered" "[Z" ∈ m_ws := m_mem (m_t5 (i := 124) (by decide +kernel)) (by decide +kernel)
theorem k_f_X8_66 : Cond.fieldLink RX8 66 "SonsPurseModel" "dealPosted" "[Z" ∈ m_ws := m_mem (m_t5 (i := 125) (by decide +kernel)) (by decide +kernel)
theorem k_f_X8_69 : Cond.fieldLink RX8 69 "SonsPurseModel" "dealKnown" "[Z" ∈ m_ws := m_mem (m_t5 (i := 126) (by decide +kernel)) (by decide +kernel)
theorem k_f_X8_124 : Cond.fieldLink RX8 124 "SonsPurseModel" "deals" "I" ∈ m_ws := m_mem (m_t5 (i := 127) (by decide +kernel)) (by decide +kernel)
theorem k_f_X8_127 : Cond.fieldLink RX8 127 "SonsPurseModel" "laidDeals" "I" ∈ m_ws := m_mem (m_t5 (i := 128) (by decide +kernel)) (by decide +kernel)
theorem k_f_X8_72 : Cond.fieldLink RX8 72 "SonsPurseModel" "so" "I" ∈ m_ws := m_mem (m_t5 (i := 129) (by decide +kernel)) (by decide +kernel)
theorem k_f_X8_130 : Cond.fieldLink RX8 130 "SonsPurseModel" "doubts" "I" ∈ m_ws := m_mem (m_t5 (i := 130) (by decide +kernel)) (by decide +kernel)
theorem k_f_X8_121 : Cond.fieldLink RX8 121 "SonsPurseModel" "dayNow" "I" ∈ m_ws := m_mem (m_t5 (i := 131) (by decide +kernel)) (by decide +kernel)
theorem k_f_X8_209 : Cond.fieldLink RX8 209 "SonsPurseModel" "tokenAt" "I" ∈ m_ws := m_mem (m_t5 (i := 132) (by decide +kernel)) (by decide +kernel)
theorem k_f_X8_212 : Cond.fieldLink RX8 212 "SonsPurseModel" "tokenLong" "I" ∈ m_ws := m_mem (m_t5 (i := 133) (by decide +kernel)) (by decide +kernel)
theorem k_f_X8_218 : Cond.fieldLink RX8 218 "SonsPurseModel" "token" "I" ∈ m_ws := m_mem (m_t5 (i := 134) (by decide +kernel)) (by decide +kernel)
theorem k_f_X8_215 : Cond.fieldLink RX8 215 "SonsPurseModel" "number" "I" ∈ m_ws := m_mem (m_t5 (i := 135) (by decide +kernel)) (by decide +kernel)
theorem k_f_X8_240 : Cond.fieldLink RX8 240 "SonsPurseModel" "itemDay" "I" ∈ m_ws := m_mem (m_t5 (i := 136) (by decide +kernel)) (by decide +kernel)
theorem k_f_X8_249 : Cond.fieldLink RX8 249 "SonsPurseModel" "itemKind" "I" ∈ m_ws := m_mem (m_t5 (i := 137) (by decide +kernel)) (by decide +kernel)
theorem k_f_X8_252 : Cond.fieldLink RX8 252 "SonsPurseModel" "itemA" "I" ∈ m_ws := m_mem (m_t5 (i := 138) (by decide +kernel)) (by decide +kernel)
theorem k_f_X8_255 : Cond.fieldLink RX8 255 "SonsPurseModel" "itemB" "I" ∈ m_ws := m_mem (m_t5 (i := 139) (by decide +kernel)) (by decide +kernel)
theorem k_f_X8_258 : Cond.fieldLink RX8 258 "SonsPurseModel" "itemV" "I" ∈ m_ws := m_mem (m_t5 (i := 140) (by decide +kernel)) (by decide +kernel)
theorem k_f_X8_274 : Cond.fieldLink RX8 274 "SonsPurseModel" "law" "I" ∈ m_ws := m_mem (m_t5 (i := 141) (by decide +kernel)) (by decide +kernel)
theorem k_f_X8_277 : Cond.fieldLink RX8 277 "SonsPurseModel" "at" "I" ∈ m_ws := m_mem (m_t5 (i := 142) (by decide +kernel)) (by decide +kernel)
theorem k_f_X8_298 : Cond.fieldLink RX8 298 "SonsPurseModel" "fault" "I" ∈ m_ws := m_mem (m_t5 (i := 143) (by decide +kernel)) (by decide +kernel)
theorem k_f_X8_76 : Cond.fieldLink RX8 76 "SonsPurseModel" "values" "[J" ∈ m_ws := m_mem (m_t5 (i := 144) (by decide +kernel)) (by decide +kernel)
theorem k_f_X8_289 : Cond.fieldLink RX8 289 "SonsPurseModel" "valueMany" "I" ∈ m_ws := m_mem (m_t5 (i := 145) (by decide +kernel)) (by decide +kernel)
theorem k_f_X8_80 : Cond.fieldLink RX8 80 "SonsPurseModel" "signs" "[I" ∈ m_ws := m_mem (m_t5 (i := 146) (by decide +kernel)) (by decide +kernel)
theorem k_f_X8_286 : Cond.fieldLink RX8 286 "SonsPurseModel" "signMany" "I" ∈ m_ws := m_mem (m_t5 (i := 147) (by decide +kernel)) (by decide +kernel)
theorem k_f_X8_83 : Cond.fieldLink RX8 83 "SonsPurseModel" "names" "[J" ∈ m_ws := m_mem (m_t5 (i := 148) (by decide +kernel)) (by decide +kernel)
theorem k_f_X8_320 : Cond.fieldLink RX8 320 "SonsPurseModel" "told" "J" ∈ m_ws := m_mem (m_t5 (i := 149) (by decide +kernel)) (by decide +kernel)
theorem k_f_X8_86 : Cond.fieldLink RX8 86 "SonsPurseModel" "nets" "[I" ∈ m_ws := m_mem (m_t5 (i := 150) (by decide +kernel)) (by decide +kernel)
theorem k_f_X8_367 : Cond.fieldLink RX8 367 "SonsPurseModel" "over" "J" ∈ m_ws := m_mem (m_t5 (i := 151) (by decide +kernel)) (by decide +kernel)
theorem k_f_X8_370 : Cond.fieldLink RX8 370 "SonsPurseModel" "under" "J" ∈ m_ws := m_mem (m_t5 (i := 152) (by decide +kernel)) (by decide +kernel)
theorem k_f_X8_89 : Cond.fieldLink RX8 89 "SonsPurseModel" "mayGet" "[I" ∈ m_ws := m_mem (m_t5 (i := 153) (by decide +kernel)) (by decide +kernel)
theorem k_f_X8_92 : Cond.fieldLink RX8 92 "SonsPurseModel" "wants" "[I" ∈ m_ws := m_mem (m_t5 (i := 154) (by decide +kernel)) (by decide +kernel)
theorem k_f_X8_95 : Cond.fieldLink RX8 95 "SonsPurseModel" "gets" "[I" ∈ m_ws := m_mem (m_t5 (i := 155) (by decide +kernel)) (by decide +kernel)
theorem k_f_X8_98 : Cond.fieldLink RX8 98 "SonsPurseModel" "order" "[I" ∈ m_ws := m_mem (m_t5 (i := 156) (by decide +kernel)) (by decide +kernel)
theorem k_f_X8_101 : Cond.fieldLink RX8 101 "SonsPurseModel" "overs" "[J" ∈ m_ws := m_mem (m_t5 (i := 157) (by decide +kernel)) (by decide +kernel)
theorem k_f_X8_104 : Cond.fieldLink RX8 104 "SonsPurseModel" "unders" "[J" ∈ m_ws := m_mem (m_t5 (i := 158) (by decide +kernel)) (by decide +kernel)
theorem k_m_L_17 : Cond.methodLink RL 17 yX8_person ∈ m_ws := m_mem (m_t6 (i := 28) (by decide +kernel)) (by decide +kernel)
theorem k_i_yX8_person : Cond.instanceMethod yX8_person ∈ m_ws := m_mem (m_t6 (i := 29) (by decide +kernel)) (by decide +kernel)
theorem k_s_yX8_person : Cond.selects RX8 yX8_person yX8_person ∈ m_ws := m_mem (m_t6 (i := 30) (by decide +kernel)) (by decide +kernel)
theorem k_c_yX8_person : Cond.code yX8_person cX8_person 1 (some .int) ∈ m_ws := m_mem (m_t6 (i := 31) (by decide +kernel)) (by decide +kernel)
theorem k_m_X8_107 : Cond.methodLink RX8 107 yX8_persons ∈ m_ws := m_mem (m_t6 (i := 32) (by decide +kernel)) (by decide +kernel)
theorem k_i_yX8_persons : Cond.instanceMethod yX8_persons ∈ m_ws := m_mem (m_t6 (i := 34) (by decide +kernel)) (by decide +kernel)
theorem k_c_yX8_persons : Cond.code yX8_persons cX8_persons 1 (some .int) ∈ m_ws := m_mem (m_t6 (i := 35) (by decide +kernel)) (by decide +kernel)
theorem k_m_L_22 : Cond.methodLink RL 22 yX8_note ∈ m_ws := m_mem (m_t6 (i := 36) (by decide +kernel)) (by decide +kernel)
theorem k_i_yX8_note : Cond.instanceMethod yX8_note ∈ m_ws := m_mem (m_t6 (i := 37) (by decide +kernel)) (by decide +kernel)
theorem k_s_yX8_note : Cond.selects RX8 yX8_note yX8_note ∈ m_ws := m_mem (m_t6 (i := 38) (by decide +kernel)) (by decide +kernel)
theorem k_c_yX8_note : Cond.code yX8_note cX8_note 8 (some .int) ∈ m_ws := m_mem (m_t6 (i := 39) (by decide +kernel)) (by decide +kernel)
theorem k_m_X8_133 : Cond.methodLink RX8 133 yX8_notes ∈ m_ws := m_mem (m_t6 (i := 40) (by decide +kernel)) (by decide +kernel)
theorem k_i_yX8_notes : Cond.instanceMethod yX8_notes ∈ m_ws := m_mem (m_t6 (i := 42) (by decide +kernel)) (by decide +kernel)
theorem k_c_yX8_notes : Cond.code yX8_notes cX8_notes 1 (some .int) ∈ m_ws := m_mem (m_t6 (i := 43) (by decide +kernel)) (by decide +kernel)
theorem k_m_X8_136 : Cond.methodLink RX8 136 yX8_of ∈ m_ws := m_mem (m_t6 (i := 44) (by decide +kernel)) (by decide +kernel)
theorem k_i_yX8_of : Cond.instanceMethod yX8_of ∈ m_ws := m_mem (m_t6 (i := 46) (by decide +kernel)) (by decide +kernel)
theorem k_c_yX8_of : Cond.code yX8_of cX8_of 3 (some .int) ∈ m_ws := m_mem (m_t6 (i := 47) (by decide +kernel)) (by decide +kernel)
theorem k_m_X8_174 : Cond.methodLink RX8 174 yX8_layDay ∈ m_ws := m_mem (m_t6 (i := 48) (by decide +kernel)) (by decide +kernel)
theorem k_i_yX8_layDay : Cond.instanceMethod yX8_layDay ∈ m_ws := m_mem (m_t6 (i := 50) (by decide +kernel)) (by decide +kernel)
theorem k_c_yX8_layDay : Cond.code yX8_layDay cX8_layDay 5 none ∈ m_ws := m_mem (m_t6 (i := 51) (by decide +kernel)) (by decide +kernel)
theorem k_m_X8_140 : Cond.methodLink RX8 140 yX8_lay ∈ m_ws := m_mem (m_t6 (i := 52) (by decide +kernel)) (by decide +kernel)
theorem k_i_yX8_lay : Cond.instanceMethod yX8_lay ∈ m_ws := m_mem (m_t6 (i := 54) (by decide +kernel)) (by decide +kernel)
theorem k_c_yX8_lay : Cond.code yX8_lay cX8_lay 6 none ∈ m_ws := m_mem (m_t6 (i := 55) (by decide +kernel)) (by decide +kernel)
theorem k_m_X8_144 : Cond.methodLink RX8 144 yX8_layDeal ∈ m_ws := m_mem (m_t6 (i := 56) (by decide +kernel)) (by decide +kernel)
theorem k_i_yX8_layDeal : Cond.instanceMethod yX8_layDeal ∈ m_ws := m_mem (m_t6 (i := 58) (by decide +kernel)) (by decide +kernel)
theorem k_c_yX8_layDeal : Cond.code yX8_layDeal cX8_layDeal 4 none ∈ m_ws := m_mem (m_t6 (i := 59) (by decide +kernel)) (by decide +kernel)
theorem k_l_X8_119 : Cond.constantLong RX8 119 (999) ∈ m_ws := m_mem (m_t6 (i := 60) (by decide +kernel)) (by decide +kernel)
theorem k_m_X8_111 : Cond.methodLink RX8 111 yX8_isIn ∈ m_ws := m_mem (m_t6 (i := 61) (by decide +kernel)) (by decide +kernel)
theorem k_t_yX8_isIn : Cond.static yX8_isIn ∈ m_ws := m_mem (m_t6 (i := 62) (by decide +kernel)) (by decide +kernel)
theorem k_c_yX8_isIn : Cond.code yX8_isIn cX8_isIn 6 (some .boolean) ∈ m_ws := m_mem (m_t6 (i := 63) (by decide +kernel)) (by decide +kernel)
theorem k_m_X8_178 : Cond.methodLink RX8 178 yX8_fits ∈ m_ws := m_mem (m_t6 (i := 64) (by decide +kernel)) (by decide +kernel)
theorem k_i_yX8_fits : Cond.instanceMethod yX8_fits ∈ m_ws := m_mem (m_t6 (i := 66) (by decide +kernel)) (by decide +kernel)
theorem k_c_yX8_fits : Cond.code yX8_fits cX8_fits 5 (some .boolean) ∈ m_ws := m_mem (m_t6 (i := 67) (by decide +kernel)) (by decide +kernel)
theorem k_m_X8_148 : Cond.methodLink RX8 148 yX8_isPerson ∈ m_ws := m_mem (m_t6 (i := 68) (by decide +kernel)) (by decide +kernel)
theorem k_i_yX8_isPerson : Cond.instanceMethod yX8_isPerson ∈ m_ws := m_mem (m_t6 (i := 70) (by decide +kernel)) (by decide +kernel)
theorem k_c_yX8_isPerson : Cond.code yX8_isPerson cX8_isPerson 2 (some .boolean) ∈ m_ws := m_mem (m_t6 (i := 71) (by decide +kernel)) (by decide +kernel)
theorem k_m_X8_152 : Cond.methodLink RX8 152 yX8_isTrade ∈ m_ws := m_mem (m_t6 (i := 72) (by decide +kernel)) (by decide +kernel)
theorem k_t_yX8_isTrade : Cond.static yX8_isTrade ∈ m_ws := m_mem (m_t6 (i := 73) (by decide +kernel)) (by decide +kernel)
theorem k_c_yX8_isTrade : Cond.code yX8_isTrade cX8_isTrade 1 (some .boolean) ∈ m_ws := m_mem (m_t6 (i := 74) (by decide +kernel)) (by decide +kernel)
theorem k_l_X8_115 : Cond.constantLong RX8 115 (3) ∈ m_ws := m_mem (m_t6 (i := 75) (by decide +kernel)) (by decide +kernel)
theorem k_m_X8_155 : Cond.methodLink RX8 155 yX8_isSum ∈ m_ws := m_mem (m_t6 (i := 76) (by decide +kernel)) (by decide +kernel)
theorem k_t_yX8_isSum : Cond.static yX8_isSum ∈ m_ws := m_mem (m_t6 (i := 77) (by decide +kernel)) (by decide +kernel)
theorem k_c_yX8_isSum : Cond.code yX8_isSum cX8_isSum 1 (some .boolean) ∈ m_ws := m_mem (m_t6 (i := 78) (by decide +kernel)) (by decide +kernel)
theorem k_l_X8_117 : Cond.constantLong RX8 117 (1000) ∈ m_ws := m_mem (m_t6 (i := 79) (by decide +kernel)) (by decide +kernel)
theorem k_m_X8_158 : Cond.methodLink RX8 158 yX8_isDeal ∈ m_ws := m_mem (m_t6 (i := 80) (by decide +kernel)) (by decide +kernel)
theorem k_i_yX8_isDeal : Cond.instanceMethod yX8_isDeal ∈ m_ws := m_mem (m_t6 (i := 82) (by decide +kernel)) (by decide +kernel)
theorem k_c_yX8_isDeal : Cond.code yX8_isDeal cX8_isDeal 2 (some .boolean) ∈ m_ws := m_mem (m_t6 (i := 83) (by decide +kernel)) (by decide +kernel)
theorem k_l_X8_161 : Cond.constantLong RX8 161 (2) ∈ m_ws := m_mem (m_t6 (i := 84) (by decide +kernel)) (by decide +kernel)
theorem k_m_X8_182 : Cond.methodLink RX8 182 yX8_may ∈ m_ws := m_mem (m_t6 (i := 85) (by decide +kernel)) (by decide +kernel)
theorem k_i_yX8_may : Cond.instanceMethod yX8_may ∈ m_ws := m_mem (m_t6 (i := 87) (by decide +kernel)) (by decide +kernel)
theorem k_c_yX8_may : Cond.code yX8_may cX8_may 5 (some .boolean) ∈ m_ws := m_mem (m_t6 (i := 88) (by decide +kernel)) (by decide +kernel)
theorem k_m_X8_163 : Cond.methodLink RX8 163 yX8_isUnder ∈ m_ws := m_mem (m_t6 (i := 89) (by decide +kernel)) (by decide +kernel)
theorem k_i_yX8_isUnder : Cond.instanceMethod yX8_isUnder ∈ m_ws := m_mem (m_t6 (i := 91) (by decide +kernel)) (by decide +kernel)
theorem k_c_yX8_isUnder : Cond.code yX8_isUnder cX8_isUnder 4 (some .boolean) ∈ m_ws := m_mem (m_t6 (i := 92) (by decide +kernel)) (by decide +kernel)
theorem k_m_X8_167 : Cond.methodLink RX8 167 yX8_thereOf ∈ m_ws := m_mem (m_t6 (i := 93) (by decide +kernel)) (by decide +kernel)
theorem k_i_yX8_thereOf : Cond.instanceMethod yX8_thereOf ∈ m_ws := m_mem (m_t6 (i := 95) (by decide +kernel)) (by decide +kernel)
theorem k_c_yX8_thereOf : Cond.code yX8_thereOf cX8_thereOf 3 (some .int) ∈ m_ws := m_mem (m_t6 (i := 96) (by decide +kernel)) (by decide +kernel)
theorem k_m_X8_171 : Cond.methodLink RX8 171 yX8_owedOf ∈ m_ws := m_mem (m_t6 (i := 97) (by decide +kernel)) (by decide +kernel)
theorem k_i_yX8_owedOf : Cond.instanceMethod yX8_owedOf ∈ m_ws := m_mem (m_t6 (i := 99) (by decide +kernel)) (by decide +kernel)
theorem k_c_yX8_owedOf : Cond.code yX8_owedOf cX8_owedOf 3 (some .int) ∈ m_ws := m_mem (m_t6 (i := 100) (by decide +kernel)) (by decide +kernel)
theorem k_m_X8_185 : Cond.methodLink RX8 185 yX8_namesB ∈ m_ws := m_mem (m_t6 (i := 101) (by decide +kernel)) (by decide +kernel)
theorem k_t_yX8_namesB : Cond.static yX8_namesB ∈ m_ws := m_mem (m_t6 (i := 102) (by decide +kernel)) (by decide +kernel)
theorem k_c_yX8_namesB : Cond.code yX8_namesB cX8_namesB 1 (some .boolean) ∈ m_ws := m_mem (m_t6 (i := 103) (by decide +kernel)) (by decide +kernel)
theorem k_m_X8_188 : Cond.methodLink RX8 188 yX8_namesV ∈ m_ws := m_mem (m_t6 (i := 104) (by decide +kernel)) (by decide +kernel)
theorem k_t_yX8_namesV : Cond.static yX8_namesV ∈ m_ws := m_mem (m_t6 (i := 105) (by decide +kernel)) (by decide +kernel)
theorem k_c_yX8_namesV : Cond.code yX8_namesV cX8_namesV 1 (some .boolean) ∈ m_ws := m_mem (m_t6 (i := 106) (by decide +kernel)) (by decide +kernel)
theorem k_m_L_27 : Cond.methodLink RL 27 yX8_doubt ∈ m_ws := m_mem (m_t6 (i := 107) (by decide +kernel)) (by decide +kernel)
theorem k_i_yX8_doubt : Cond.instanceMethod yX8_doubt ∈ m_ws := m_mem (m_t6 (i := 108) (by decide +kernel)) (by decide +kernel)
theorem k_s_yX8_doubt : Cond.selects RX8 yX8_doubt yX8_doubt ∈ m_ws := m_mem (m_t6 (i := 109) (by decide +kernel)) (by decide +kernel)
theorem k_c_yX8_doubt : Cond.code yX8_doubt cX8_doubt 4 (some .int) ∈ m_ws := m_mem (m_t6 (i := 110) (by decide +kernel)) (by decide +kernel)
theorem k_m_X8_191 : Cond.methodLink RX8 191 yX8_doubtMany ∈ m_ws := m_mem (m_t6 (i := 111) (by decide +kernel)) (by decide +kernel)
theorem k_i_yX8_doubtMany : Cond.instanceMethod yX8_doubtMany ∈ m_ws := m_mem (m_t6 (i := 113) (by decide +kernel)) (by decide +kernel)
theorem k_c_yX8_doubtMany : Cond.code yX8_doubtMany cX8_doubtMany 3 (some .int) ∈ m_ws := m_mem (m_t6 (i := 114) (by decide +kernel)) (by decide +kernel)
theorem k_m_L_34 : Cond.methodLink RL 34 yX8_type ∈ m_ws := m_mem (m_t6 (i := 115) (by decide +kernel)) (by decide +kernel)
theorem k_i_yX8_type : Cond.instanceMethod yX8_type ∈ m_ws := m_mem (m_t6 (i := 116) (by decide +kernel)) (by decide +kernel)
theorem k_s_yX8_type : Cond.selects RX8 yX8_type yX8_type ∈ m_ws := m_mem (m_t6 (i := 117) (by decide +kernel)) (by decide +kernel)
theorem k_c_yX8_type : Cond.code yX8_type cX8_type 5 (some .int) ∈ m_ws := m_mem (m_t6 (i := 118) (by decide +kernel)) (by decide +kernel)
theorem k_l_X8_194 : Cond.constantLong RX8 194 (8) ∈ m_ws := m_mem (m_t6 (i := 119) (by decide +kernel)) (by decide +kernel)
theorem k_l_X8_199 : Cond.constantLong RX8 199 (255) ∈ m_ws := m_mem (m_t6 (i := 120) (by decide +kernel)) (by decide +kernel)
theorem k_m_L_38 : Cond.methodLink RL 38 yX8_clear ∈ m_ws := m_mem (m_t6 (i := 121) (by decide +kernel)) (by decide +kernel)
theorem k_i_yX8_clear : Cond.instanceMethod yX8_clear ∈ m_ws := m_mem (m_t6 (i := 122) (by decide +kernel)) (by decide +kernel)
theorem k_s_yX8_clear : Cond.selects RX8 yX8_clear yX8_clear ∈ m_ws := m_mem (m_t6 (i := 123) (by decide +kernel)) (by decide +kernel)
theorem k_c_yX8_clear : Cond.code yX8_clear cX8_clear 2 (some .int) ∈ m_ws := m_mem (m_t6 (i := 124) (by decide +kernel)) (by decide +kernel)
theorem k_m_L_42 : Cond.methodLink RL 42 yX8_read ∈ m_ws := m_mem (m_t6 (i := 125) (by decide +kernel)) (by decide +kernel)
theorem k_i_yX8_read : Cond.instanceMethod yX8_read ∈ m_ws := m_mem (m_t6 (i := 126) (by decide +kernel)) (by decide +kernel)
theorem k_s_yX8_read : Cond.selects RX8 yX8_read yX8_read ∈ m_ws := m_mem (m_t6 (i := 127) (by decide +kernel)) (by decide +kernel)
theorem k_c_yX8_read : Cond.code yX8_read cX8_read 4 (some .int) ∈ m_ws := m_mem (m_t6 (i := 128) (by decide +kernel)) (by decide +kernel)
theorem k_m_X8_227 : Cond.methodLink RX8 227 yX8_look ∈ m_ws := m_mem (m_t6 (i := 129) (by decide +kernel)) (by decide +kernel)
theorem k_i_yX8_look : Cond.instanceMethod yX8_look ∈ m_ws := m_mem (m_t6 (i := 131) (by decide +kernel)) (by decide +kernel)
theorem k_c_yX8_look : Cond.code yX8_look cX8_look 4 none ∈ m_ws := m_mem (m_t6 (i := 132) (by decide +kernel)) (by decide +kernel)
theorem k_m_X8_221 : Cond.methodLink RX8 221 yX8_isSmall ∈ m_ws := m_mem (m_t6 (i := 133) (by decide +kernel)) (by decide +kernel)
theorem k_t_yX8_isSmall : Cond.static yX8_isSmall ∈ m_ws := m_mem (m_t6 (i := 134) (by decide +kernel)) (by decide +kernel)
theorem k_c_yX8_isSmall : Cond.code yX8_isSmall cX8_isSmall 1 (some .boolean) ∈ m_ws := m_mem (m_t6 (i := 135) (by decide +kernel)) (by decide +kernel)
theorem k_l_X8_201 : Cond.constantLong RX8 201 (97) ∈ m_ws := m_mem (m_t6 (i := 136) (by decide +kernel)) (by decide +kernel)
theorem k_l_X8_203 : Cond.constantLong RX8 203 (122) ∈ m_ws := m_mem (m_t6 (i := 137) (by decide +kernel)) (by decide +kernel)
theorem k_m_X8_224 : Cond.methodLink RX8 224 yX8_isFigure ∈ m_ws := m_mem (m_t6 (i := 138) (by decide +kernel)) (by decide +kernel)
theorem k_t_yX8_isFigure : Cond.static yX8_isFigure ∈ m_ws := m_mem (m_t6 (i := 139) (by decide +kernel)) (by decide +kernel)
theorem k_c_yX8_isFigure : Cond.code yX8_isFigure cX8_isFigure 1 (some .boolean) ∈ m_ws := m_mem (m_t6 (i := 140) (by decide +kernel)) (by decide +kernel)
theorem k_l_X8_205 : Cond.constantLong RX8 205 (48) ∈ m_ws := m_mem (m_t6 (i := 141) (by decide +kernel)) (by decide +kernel)
theorem k_l_X8_207 : Cond.constantLong RX8 207 (57) ∈ m_ws := m_mem (m_t6 (i := 142) (by decide +kernel)) (by decide +kernel)
theorem k_m_X8_261 : Cond.methodLink RX8 261 yX8_readItem ∈ m_ws := m_mem (m_t6 (i := 143) (by decide +kernel)) (by decide +kernel)
theorem k_i_yX8_readItem : Cond.instanceMethod yX8_readItem ∈ m_ws := m_mem (m_t6 (i := 145) (by decide +kernel)) (by decide +kernel)
theorem k_c_yX8_readItem : Cond.code yX8_readItem cX8_readItem 1 (some .boolean) ∈ m_ws := m_mem (m_t6 (i := 146) (by decide +kernel)) (by decide +kernel)
theorem k_m_X8_243 : Cond.methodLink RX8 243 yX8_next ∈ m_ws := m_mem (m_t6 (i := 147) (by decide +kernel)) (by decide +kernel)
theorem k_i_yX8_next : Cond.instanceMethod yX8_next ∈ m_ws := m_mem (m_t6 (i := 149) (by decide +kernel)) (by decide +kernel)
theorem k_c_yX8_next : Cond.code yX8_next cX8_next 1 none ∈ m_ws := m_mem (m_t6 (i := 150) (by decide +kernel)) (by decide +kernel)
theorem k_m_X8_246 : Cond.methodLink RX8 246 yX8_verb ∈ m_ws := m_mem (m_t6 (i := 151) (by decide +kernel)) (by decide +kernel)
theorem k_i_yX8_verb : Cond.instanceMethod yX8_verb ∈ m_ws := m_mem (m_t6 (i := 153) (by decide +kernel)) (by decide +kernel)
theorem k_c_yX8_verb : Cond.code yX8_verb cX8_verb 3 (some .int) ∈ m_ws := m_mem (m_t6 (i := 154) (by decide +kernel)) (by decide +kernel)
theorem k_m_X8_230 : Cond.methodLink RX8 230 yX8_wordCode ∈ m_ws := m_mem (m_t6 (i := 155) (by decide +kernel)) (by decide +kernel)
theorem k_i_yX8_wordCode : Cond.instanceMethod yX8_wordCode ∈ m_ws := m_mem (m_t6 (i := 157) (by decide +kernel)) (by decide +kernel)
theorem k_c_yX8_wordCode : Cond.code yX8_wordCode cX8_wordCode 3 (some .int) ∈ m_ws := m_mem (m_t6 (i := 158) (by decide +kernel)) (by decide +kernel)
theorem k_m_X8_233 : Cond.methodLink RX8 233 yX8_verbCode ∈ m_ws := m_mem (m_t6 (i := 159) (by decide +kernel)) (by decide +kernel)
theorem k_t_yX8_verbCode : Cond.static yX8_verbCode ∈ m_ws := m_mem (m_t6 (i := 160) (by decide +kernel)) (by decide +kernel)
theorem k_c_yX8_verbCode : Cond.code yX8_verbCode cX8_verbCode 1 (some .int) ∈ m_ws := m_mem (m_t6 (i := 161) (by decide +kernel)) (by decide +kernel)
theorem k_m_X8_236 : Cond.methodLink RX8 236 yX8_code ∈ m_ws := m_mem (m_t6 (i := 162) (by decide +kernel)) (by decide +kernel)
theorem k_t_yX8_code : Cond.static yX8_code ∈ m_ws := m_mem (m_t6 (i := 163) (by decide +kernel)) (by decide +kernel)
theorem k_c_yX8_code : Cond.code yX8_code cX8_code 9 (some .int) ∈ m_ws := m_mem (m_t6 (i := 164) (by decide +kernel)) (by decide +kernel)
theorem k_m_X8_265 : Cond.methodLink RX8 265 yX8_note ∈ m_ws := m_mem (m_t6 (i := 165) (by decide +kernel)) (by decide +kernel)
theorem k_m_L_47 : Cond.methodLink RL 47 yX8_write ∈ m_ws := m_mem (m_t6 (i := 166) (by decide +kernel)) (by decide +kernel)
theorem k_i_yX8_write : Cond.instanceMethod yX8_write ∈ m_ws := m_mem (m_t6 (i := 167) (by decide +kernel)) (by decide +kernel)
theorem k_s_yX8_write : Cond.selects RX8 yX8_write yX8_write ∈ m_ws := m_mem (m_t6 (i := 168) (by decide +kernel)) (by decide +kernel)
theorem k_c_yX8_write : Cond.code yX8_write cX8_write 4 (some .int) ∈ m_ws := m_mem (m_t6 (i := 169) (by decide +kernel)) (by decide +kernel)
theorem k_m_X8_269 : Cond.methodLink RX8 269 yX8_isLaw ∈ m_ws := m_mem (m_t6 (i := 170) (by decide +kernel)) (by decide +kernel)
theorem k_t_yX8_isLaw : Cond.static yX8_isLaw ∈ m_ws := m_mem (m_t6 (i := 171) (by decide +kernel)) (by decide +kernel)
theorem k_c_yX8_isLaw : Cond.code yX8_isLaw cX8_isLaw 1 (some .boolean) ∈ m_ws := m_mem (m_t6 (i := 172) (by decide +kernel)) (by decide +kernel)
theorem k_l_X8_272 : Cond.constantLong RX8 272 (127) ∈ m_ws := m_mem (m_t6 (i := 173) (by decide +kernel)) (by decide +kernel)
theorem k_m_L_52 : Cond.methodLink RL 52 yX8_erase ∈ m_ws := m_mem (m_t6 (i := 174) (by decide +kernel)) (by decide +kernel)
theorem k_i_yX8_erase : Cond.instanceMethod yX8_erase ∈ m_ws := m_mem (m_t6 (i := 175) (by decide +kernel)) (by decide +kernel)
theorem k_s_yX8_erase : Cond.selects RX8 yX8_erase yX8_erase ∈ m_ws := m_mem (m_t6 (i := 176) (by decide +kernel)) (by decide +kernel)
theorem k_c_yX8_erase : Cond.code yX8_erase cX8_erase 3 (some .int) ∈ m_ws := m_mem (m_t6 (i := 177) (by decide +kernel)) (by decide +kernel)
theorem k_m_L_56 : Cond.methodLink RL 56 yX8_fault ∈ m_ws := m_mem (m_t6 (i := 178) (by decide +kernel)) (by decide +kernel)
theorem k_i_yX8_fault : Cond.instanceMethod yX8_fault ∈ m_ws := m_mem (m_t6 (i := 179) (by decide +kernel)) (by decide +kernel)
theorem k_s_yX8_fault : Cond.selects RX8 yX8_fault yX8_fault ∈ m_ws := m_mem (m_t6 (i := 180) (by decide +kernel)) (by decide +kernel)
theorem k_c_yX8_fault : Cond.code yX8_fault cX8_fault 3 (some .int) ∈ m_ws := m_mem (m_t6 (i := 181) (by decide +kernel)) (by decide +kernel)
theorem k_m_X8_323 : Cond.methodLink RX8 323 yX8_reads ∈ m_ws := m_mem (m_t6 (i := 182) (by decide +kernel)) (by decide +kernel)
theorem k_i_yX8_reads : Cond.instanceMethod yX8_reads ∈ m_ws := m_mem (m_t6 (i := 184) (by decide +kernel)) (by decide +kernel)
theorem k_c_yX8_reads : Cond.code yX8_reads cX8_reads 5 (some .boolean) ∈ m_ws := m_mem (m_t6 (i := 185) (by decide +kernel)) (by decide +kernel)
theorem k_m_X8_303 : Cond.methodLink RX8 303 yX8_ahead ∈ m_ws := m_mem (m_t6 (i := 186) (by decide +kernel)) (by decide +kernel)
theorem k_i_yX8_ahead : Cond.instanceMethod yX8_ahead ∈ m_ws := m_mem (m_t6 (i := 188) (by decide +kernel)) (by decide +kernel)
theorem k_c_yX8_ahead : Cond.code yX8_ahead cX8_ahead 1 (some .int) ∈ m_ws := m_mem (m_t6 (i := 189) (by decide +kernel)) (by decide +kernel)
theorem k_m_X8_280 : Cond.methodLink RX8 280 yX8_lawLong ∈ m_ws := m_mem (m_t6 (i := 190) (by decide +kernel)) (by decide +kernel)
theorem k_i_yX8_lawLong : Cond.instanceMethod yX8_lawLong ∈ m_ws := m_mem (m_t6 (i := 192) (by decide +kernel)) (by decide +kernel)
theorem k_c_yX8_lawLong : Cond.code yX8_lawLong cX8_lawLong 1 (some .int) ∈ m_ws := m_mem (m_t6 (i := 193) (by decide +kernel)) (by decide +kernel)
theorem k_m_X8_283 : Cond.methodLink RX8 283 yX8_charAt ∈ m_ws := m_mem (m_t6 (i := 194) (by decide +kernel)) (by decide +kernel)
theorem k_i_yX8_charAt : Cond.instanceMethod yX8_charAt ∈ m_ws := m_mem (m_t6 (i := 196) (by decide +kernel)) (by decide +kernel)
theorem k_c_yX8_charAt : Cond.code yX8_charAt cX8_charAt 2 (some .int) ∈ m_ws := m_mem (m_t6 (i := 197) (by decide +kernel)) (by decide +kernel)
theorem k_m_X8_306 : Cond.methodLink RX8 306 yX8_digits ∈ m_ws := m_mem (m_t6 (i := 198) (by decide +kernel)) (by decide +kernel)
theorem k_i_yX8_digits : Cond.instanceMethod yX8_digits ∈ m_ws := m_mem (m_t6 (i := 200) (by decide +kernel)) (by decide +kernel)
theorem k_c_yX8_digits : Cond.code yX8_digits cX8_digits 4 (some .long) ∈ m_ws := m_mem (m_t6 (i := 201) (by decide +kernel)) (by decide +kernel)
theorem k_l_X8_301 : Cond.constantLong RX8 301 (10) ∈ m_ws := m_mem (m_t6 (i := 202) (by decide +kernel)) (by decide +kernel)
theorem k_m_X8_310 : Cond.methodLink RX8 310 yX8_stands ∈ m_ws := m_mem (m_t6 (i := 203) (by decide +kernel)) (by decide +kernel)
theorem k_i_yX8_stands : Cond.instanceMethod yX8_stands ∈ m_ws := m_mem (m_t6 (i := 205) (by decide +kernel)) (by decide +kernel)
theorem k_c_yX8_stands : Cond.code yX8_stands cX8_stands 5 none ∈ m_ws := m_mem (m_t6 (i := 206) (by decide +kernel)) (by decide +kernel)
theorem k_m_X8_314 : Cond.methodLink RX8 314 yX8_nameOf ∈ m_ws := m_mem (m_t6 (i := 207) (by decide +kernel)) (by decide +kernel)
theorem k_t_yX8_nameOf : Cond.static yX8_nameOf ∈ m_ws := m_mem (m_t6 (i := 208) (by decide +kernel)) (by decide +kernel)
theorem k_c_yX8_nameOf : Cond.code yX8_nameOf cX8_nameOf 1 (some .int) ∈ m_ws := m_mem (m_t6 (i := 209) (by decide +kernel)) (by decide +kernel)
theorem k_m_X8_317 : Cond.methodLink RX8 317 yX8_workDown ∈ m_ws := m_mem (m_t6 (i := 210) (by decide +kernel)) (by decide +kernel)
theorem k_i_yX8_workDown : Cond.instanceMethod yX8_workDown ∈ m_ws := m_mem (m_t6 (i := 212) (by decide +kernel)) (by decide +kernel)
theorem k_c_yX8_workDown : Cond.code yX8_workDown cX8_workDown 2 none ∈ m_ws := m_mem (m_t6 (i := 213) (by decide +kernel)) (by decide +kernel)
theorem k_m_X8_292 : Cond.methodLink RX8 292 yX8_rank ∈ m_ws := m_mem (m_t6 (i := 214) (by decide +kernel)) (by decide +kernel)
theorem k_t_yX8_rank : Cond.static yX8_rank ∈ m_ws := m_mem (m_t6 (i := 215) (by decide +kernel)) (by decide +kernel)
theorem k_c_yX8_rank : Cond.code yX8_rank cX8_rank 1 (some .int) ∈ m_ws := m_mem (m_t6 (i := 216) (by decide +kernel)) (by decide +kernel)
theorem k_m_X8_295 : Cond.methodLink RX8 295 yX8_workOut ∈ m_ws := m_mem (m_t6 (i := 217) (by decide +kernel)) (by decide +kernel)
theorem k_i_yX8_workOut : Cond.instanceMethod yX8_workOut ∈ m_ws := m_mem (m_t6 (i := 219) (by decide +kernel)) (by decide +kernel)
theorem k_c_yX8_workOut : Cond.code yX8_workOut cX8_workOut 7 none ∈ m_ws := m_mem (m_t6 (i := 220) (by decide +kernel)) (by decide +kernel)
theorem k_m_L_60 : Cond.methodLink RL 60 yX8_holder ∈ m_ws := m_mem (m_t6 (i := 221) (by decide +kernel)) (by decide +kernel)
theorem k_i_yX8_holder : Cond.instanceMethod yX8_holder ∈ m_ws := m_mem (m_t6 (i := 222) (by decide +kernel)) (by decide +kernel)
theorem k_s_yX8_holder : Cond.selects RX8 yX8_holder yX8_holder ∈ m_ws := m_mem (m_t6 (i := 223) (by decide +kernel)) (by decide +kernel)
theorem k_c_yX8_holder : Cond.code yX8_holder cX8_holder 3 (some .int) ∈ m_ws := m_mem (m_t6 (i := 224) (by decide +kernel)) (by decide +kernel)
theorem k_m_X8_347 : Cond.methodLink RX8 347 yX8_isDay ∈ m_ws := m_mem (m_t6 (i := 225) (by decide +kernel)) (by decide +kernel)
theorem k_t_yX8_isDay : Cond.static yX8_isDay ∈ m_ws := m_mem (m_t6 (i := 226) (by decide +kernel)) (by decide +kernel)
theorem k_c_yX8_isDay : Cond.code yX8_isDay cX8_isDay 1 (some .boolean) ∈ m_ws := m_mem (m_t6 (i := 227) (by decide +kernel)) (by decide +kernel)
theorem k_m_X8_350 : Cond.methodLink RX8 350 yX8_layToday ∈ m_ws := m_mem (m_t6 (i := 228) (by decide +kernel)) (by decide +kernel)
theorem k_i_yX8_layToday : Cond.instanceMethod yX8_layToday ∈ m_ws := m_mem (m_t6 (i := 230) (by decide +kernel)) (by decide +kernel)
theorem k_c_yX8_layToday : Cond.code yX8_layToday cX8_layToday 2 none ∈ m_ws := m_mem (m_t6 (i := 231) (by decide +kernel)) (by decide +kernel)
theorem k_m_X8_344 : Cond.methodLink RX8 344 yX8_layAll ∈ m_ws := m_mem (m_t6 (i := 232) (by decide +kernel)) (by decide +kernel)
theorem k_i_yX8_layAll : Cond.instanceMethod yX8_layAll ∈ m_ws := m_mem (m_t6 (i := 234) (by decide +kernel)) (by decide +kernel)
theorem k_c_yX8_layAll : Cond.code yX8_layAll cX8_layAll 2 none ∈ m_ws := m_mem (m_t6 (i := 235) (by decide +kernel)) (by decide +kernel)
theorem k_m_X8_341 : Cond.methodLink RX8 341 yX8_findNets ∈ m_ws := m_mem (m_t6 (i := 236) (by decide +kernel)) (by decide +kernel)
theorem k_i_yX8_findNets : Cond.instanceMethod yX8_findNets ∈ m_ws := m_mem (m_t6 (i := 238) (by decide +kernel)) (by decide +kernel)
theorem k_c_yX8_findNets : Cond.code yX8_findNets cX8_findNets 3 none ∈ m_ws := m_mem (m_t6 (i := 239) (by decide +kernel)) (by decide +kernel)
theorem k_m_X8_337 : Cond.methodLink RX8 337 yX8_netOf ∈ m_ws := m_mem (m_t7 (i := 0) (by decide +kernel)) (by decide +kernel)
theorem k_i_yX8_netOf : Cond.instanceMethod yX8_netOf ∈ m_ws := m_mem (m_t7 (i := 2) (by decide +kernel)) (by decide +kernel)
theorem k_c_yX8_netOf : Cond.code yX8_netOf cX8_netOf 7 (some .int) ∈ m_ws := m_mem (m_t7 (i := 3) (by decide +kernel)) (by decide +kernel)
theorem k_m_X8_326 : Cond.methodLink RX8 326 yX8_inAll ∈ m_ws := m_mem (m_t7 (i := 4) (by decide +kernel)) (by decide +kernel)
theorem k_i_yX8_inAll : Cond.instanceMethod yX8_inAll ∈ m_ws := m_mem (m_t7 (i := 6) (by decide +kernel)) (by decide +kernel)
theorem k_c_yX8_inAll : Cond.code yX8_inAll cX8_inAll 2 (some .int) ∈ m_ws := m_mem (m_t7 (i := 7) (by decide +kernel)) (by decide +kernel)
theorem k_m_X8_329 : Cond.methodLink RX8 329 yX8_secondOf ∈ m_ws := m_mem (m_t7 (i := 8) (by decide +kernel)) (by decide +kernel)
theorem k_i_yX8_secondOf : Cond.instanceMethod yX8_secondOf ∈ m_ws := m_mem (m_t7 (i := 10) (by decide +kernel)) (by decide +kernel)
theorem k_c_yX8_secondOf : Cond.code yX8_secondOf cX8_secondOf 4 (some .int) ∈ m_ws := m_mem (m_t7 (i := 11) (by decide +kernel)) (by decide +kernel)
theorem k_m_X8_332 : Cond.methodLink RX8 332 yX8_ownOf ∈ m_ws := m_mem (m_t7 (i := 12) (by decide +kernel)) (by decide +kernel)
theorem k_i_yX8_ownOf : Cond.instanceMethod yX8_ownOf ∈ m_ws := m_mem (m_t7 (i := 14) (by decide +kernel)) (by decide +kernel)
theorem k_c_yX8_ownOf : Cond.code yX8_ownOf cX8_ownOf 7 (some .int) ∈ m_ws := m_mem (m_t7 (i := 15) (by decide +kernel)) (by decide +kernel)
theorem k_l_X8_335 : Cond.constantLong RX8 335 (1000000) ∈ m_ws := m_mem (m_t7 (i := 16) (by decide +kernel)) (by decide +kernel)
theorem k_m_L_65 : Cond.methodLink RL 65 yX8_in ∈ m_ws := m_mem (m_t7 (i := 17) (by decide +kernel)) (by decide +kernel)
theorem k_i_yX8_in : Cond.instanceMethod yX8_in ∈ m_ws := m_mem (m_t7 (i := 18) (by decide +kernel)) (by decide +kernel)
theorem k_s_yX8_in : Cond.selects RX8 yX8_in yX8_in ∈ m_ws := m_mem (m_t7 (i := 19) (by decide +kernel)) (by decide +kernel)
theorem k_c_yX8_in : Cond.code yX8_in cX8_in 4 (some .int) ∈ m_ws := m_mem (m_t7 (i := 20) (by decide +kernel)) (by decide +kernel)
theorem k_l_X8_353 : Cond.constantLong RX8 353 (4) ∈ m_ws := m_mem (m_t7 (i := 21) (by decide +kernel)) (by decide +kernel)
theorem k_m_L_69 : Cond.methodLink RL 69 yX8_own ∈ m_ws := m_mem (m_t7 (i := 22) (by decide +kernel)) (by decide +kernel)
theorem k_i_yX8_own : Cond.instanceMethod yX8_own ∈ m_ws := m_mem (m_t7 (i := 23) (by decide +kernel)) (by decide +kernel)
theorem k_s_yX8_own : Cond.selects RX8 yX8_own yX8_own ∈ m_ws := m_mem (m_t7 (i := 24) (by decide +kernel)) (by decide +kernel)
theorem k_c_yX8_own : Cond.code yX8_own cX8_own 4 (some .int) ∈ m_ws := m_mem (m_t7 (i := 25) (by decide +kernel)) (by decide +kernel)
theorem k_m_L_73 : Cond.methodLink RL 73 yX8_net ∈ m_ws := m_mem (m_t7 (i := 26) (by decide +kernel)) (by decide +kernel)
theorem k_i_yX8_net : Cond.instanceMethod yX8_net ∈ m_ws := m_mem (m_t7 (i := 27) (by decide +kernel)) (by decide +kernel)
theorem k_s_yX8_net : Cond.selects RX8 yX8_net yX8_net ∈ m_ws := m_mem (m_t7 (i := 28) (by decide +kernel)) (by decide +kernel)
theorem k_c_yX8_net : Cond.code yX8_net cX8_net 4 (some .int) ∈ m_ws := m_mem (m_t7 (i := 29) (by decide +kernel)) (by decide +kernel)
theorem k_m_L_77 : Cond.methodLink RL 77 yX8_owed ∈ m_ws := m_mem (m_t7 (i := 30) (by decide +kernel)) (by decide +kernel)
theorem k_i_yX8_owed : Cond.instanceMethod yX8_owed ∈ m_ws := m_mem (m_t7 (i := 31) (by decide +kernel)) (by decide +kernel)
theorem k_s_yX8_owed : Cond.selects RX8 yX8_owed yX8_owed ∈ m_ws := m_mem (m_t7 (i := 32) (by decide +kernel)) (by decide +kernel)
theorem k_c_yX8_owed : Cond.code yX8_owed cX8_owed 3 (some .int) ∈ m_ws := m_mem (m_t7 (i := 33) (by decide +kernel)) (by decide +kernel)
theorem k_m_X8_355 : Cond.methodLink RX8 355 yX8_isAsked ∈ m_ws := m_mem (m_t7 (i := 34) (by decide +kernel)) (by decide +kernel)
theorem k_i_yX8_isAsked : Cond.instanceMethod yX8_isAsked ∈ m_ws := m_mem (m_t7 (i := 36) (by decide +kernel)) (by decide +kernel)
theorem k_c_yX8_isAsked : Cond.code yX8_isAsked cX8_isAsked 3 (some .boolean) ∈ m_ws := m_mem (m_t7 (i := 37) (by decide +kernel)) (by decide +kernel)
theorem k_m_X8_358 : Cond.methodLink RX8 358 yX8_isEarly ∈ m_ws := m_mem (m_t7 (i := 38) (by decide +kernel)) (by decide +kernel)
theorem k_i_yX8_isEarly : Cond.instanceMethod yX8_isEarly ∈ m_ws := m_mem (m_t7 (i := 40) (by decide +kernel)) (by decide +kernel)
theorem k_c_yX8_isEarly : Cond.code yX8_isEarly cX8_isEarly 3 (some .boolean) ∈ m_ws := m_mem (m_t7 (i := 41) (by decide +kernel)) (by decide +kernel)
theorem k_m_L_81 : Cond.methodLink RL 81 yX8_answers ∈ m_ws := m_mem (m_t7 (i := 42) (by decide +kernel)) (by decide +kernel)
theorem k_i_yX8_answers : Cond.instanceMethod yX8_answers ∈ m_ws := m_mem (m_t7 (i := 43) (by decide +kernel)) (by decide +kernel)
theorem k_s_yX8_answers : Cond.selects RX8 yX8_answers yX8_answers ∈ m_ws := m_mem (m_t7 (i := 44) (by decide +kernel)) (by decide +kernel)
theorem k_c_yX8_answers : Cond.code yX8_answers cX8_answers 3 (some .int) ∈ m_ws := m_mem (m_t7 (i := 45) (by decide +kernel)) (by decide +kernel)
theorem k_m_X8_364 : Cond.methodLink RX8 364 yX8_whoOf ∈ m_ws := m_mem (m_t7 (i := 46) (by decide +kernel)) (by decide +kernel)
theorem k_i_yX8_whoOf : Cond.instanceMethod yX8_whoOf ∈ m_ws := m_mem (m_t7 (i := 48) (by decide +kernel)) (by decide +kernel)
theorem k_c_yX8_whoOf : Cond.code yX8_whoOf cX8_whoOf 3 (some .int) ∈ m_ws := m_mem (m_t7 (i := 49) (by decide +kernel)) (by decide +kernel)
theorem k_m_X8_361 : Cond.methodLink RX8 361 yX8_manOf ∈ m_ws := m_mem (m_t7 (i := 50) (by decide +kernel)) (by decide +kernel)
theorem k_i_yX8_manOf : Cond.instanceMethod yX8_manOf ∈ m_ws := m_mem (m_t7 (i := 52) (by decide +kernel)) (by decide +kernel)
theorem k_c_yX8_manOf : Cond.code yX8_manOf cX8_manOf 2 (some .int) ∈ m_ws := m_mem (m_t7 (i := 53) (by decide +kernel)) (by decide +kernel)
theorem k_m_L_85 : Cond.methodLink RL 85 yX8_ask ∈ m_ws := m_mem (m_t7 (i := 54) (by decide +kernel)) (by decide +kernel)
theorem k_i_yX8_ask : Cond.instanceMethod yX8_ask ∈ m_ws := m_mem (m_t7 (i := 55) (by decide +kernel)) (by decide +kernel)
theorem k_s_yX8_ask : Cond.selects RX8 yX8_ask yX8_ask ∈ m_ws := m_mem (m_t7 (i := 56) (by decide +kernel)) (by decide +kernel)
theorem k_c_yX8_ask : Cond.code yX8_ask cX8_ask 4 (some .int) ∈ m_ws := m_mem (m_t7 (i := 57) (by decide +kernel)) (by decide +kernel)
theorem k_m_X8_389 : Cond.methodLink RX8 389 yX8_isAsk ∈ m_ws := m_mem (m_t7 (i := 58) (by decide +kernel)) (by decide +kernel)
theorem k_t_yX8_isAsk : Cond.static yX8_isAsk ∈ m_ws := m_mem (m_t7 (i := 59) (by decide +kernel)) (by decide +kernel)
theorem k_c_yX8_isAsk : Cond.code yX8_isAsk cX8_isAsk 1 (some .boolean) ∈ m_ws := m_mem (m_t7 (i := 60) (by decide +kernel)) (by decide +kernel)
theorem k_m_X8_392 : Cond.methodLink RX8 392 yX8_askOf ∈ m_ws := m_mem (m_t7 (i := 61) (by decide +kernel)) (by decide +kernel)
theorem k_i_yX8_askOf : Cond.instanceMethod yX8_askOf ∈ m_ws := m_mem (m_t7 (i := 63) (by decide +kernel)) (by decide +kernel)
theorem k_c_yX8_askOf : Cond.code yX8_askOf cX8_askOf 8 none ∈ m_ws := m_mem (m_t7 (i := 64) (by decide +kernel)) (by decide +kernel)
theorem k_m_X8_373 : Cond.methodLink RX8 373 yX8_isOpen ∈ m_ws := m_mem (m_t7 (i := 65) (by decide +kernel)) (by decide +kernel)
theorem k_i_yX8_isOpen : Cond.instanceMethod yX8_isOpen ∈ m_ws := m_mem (m_t7 (i := 67) (by decide +kernel)) (by decide +kernel)
theorem k_c_yX8_isOpen : Cond.code yX8_isOpen cX8_isOpen 3 (some .boolean) ∈ m_ws := m_mem (m_t7 (i := 68) (by decide +kernel)) (by decide +kernel)
theorem k_m_X8_376 : Cond.methodLink RX8 376 yX8_hiddenOf ∈ m_ws := m_mem (m_t7 (i := 69) (by decide +kernel)) (by decide +kernel)
theorem k_i_yX8_hiddenOf : Cond.instanceMethod yX8_hiddenOf ∈ m_ws := m_mem (m_t7 (i := 71) (by decide +kernel)) (by decide +kernel)
theorem k_c_yX8_hiddenOf : Cond.code yX8_hiddenOf cX8_hiddenOf 6 (some .int) ∈ m_ws := m_mem (m_t7 (i := 72) (by decide +kernel)) (by decide +kernel)
theorem k_m_X8_379 : Cond.methodLink RX8 379 yX8_tradeOf ∈ m_ws := m_mem (m_t7 (i := 73) (by decide +kernel)) (by decide +kernel)
theorem k_i_yX8_tradeOf : Cond.instanceMethod yX8_tradeOf ∈ m_ws := m_mem (m_t7 (i := 75) (by decide +kernel)) (by decide +kernel)
theorem k_c_yX8_tradeOf : Cond.code yX8_tradeOf cX8_tradeOf 2 (some .int) ∈ m_ws := m_mem (m_t7 (i := 76) (by decide +kernel)) (by decide +kernel)
theorem k_m_X8_382 : Cond.methodLink RX8 382 yX8_shareOf ∈ m_ws := m_mem (m_t7 (i := 77) (by decide +kernel)) (by decide +kernel)
theorem k_i_yX8_shareOf : Cond.instanceMethod yX8_shareOf ∈ m_ws := m_mem (m_t7 (i := 79) (by decide +kernel)) (by decide +kernel)
theorem k_c_yX8_shareOf : Cond.code yX8_shareOf cX8_shareOf 9 none ∈ m_ws := m_mem (m_t7 (i := 80) (by decide +kernel)) (by decide +kernel)
theorem k_m_X8_396 : Cond.methodLink RX8 396 yX8_tell ∈ m_ws := m_mem (m_t7 (i := 81) (by decide +kernel)) (by decide +kernel)
theorem k_i_yX8_tell : Cond.instanceMethod yX8_tell ∈ m_ws := m_mem (m_t7 (i := 83) (by decide +kernel)) (by decide +kernel)
theorem k_c_yX8_tell : Cond.code yX8_tell cX8_tell 11 none ∈ m_ws := m_mem (m_t7 (i := 84) (by decide +kernel)) (by decide +kernel)
theorem k_m_L_89 : Cond.methodLink RL 89 yX8_best ∈ m_ws := m_mem (m_t7 (i := 85) (by decide +kernel)) (by decide +kernel)
theorem k_i_yX8_best : Cond.instanceMethod yX8_best ∈ m_ws := m_mem (m_t7 (i := 86) (by decide +kernel)) (by decide +kernel)
theorem k_s_yX8_best : Cond.selects RX8 yX8_best yX8_best ∈ m_ws := m_mem (m_t7 (i := 87) (by decide +kernel)) (by decide +kernel)
theorem k_c_yX8_best : Cond.code yX8_best cX8_best 9 (some .int) ∈ m_ws := m_mem (m_t7 (i := 88) (by decide +kernel)) (by decide +kernel)
theorem k_m_L_93 : Cond.methodLink RL 93 yX8_line ∈ m_ws := m_mem (m_t7 (i := 89) (by decide +kernel)) (by decide +kernel)
theorem k_i_yX8_line : Cond.instanceMethod yX8_line ∈ m_ws := m_mem (m_t7 (i := 90) (by decide +kernel)) (by decide +kernel)
theorem k_s_yX8_line : Cond.selects RX8 yX8_line yX8_line ∈ m_ws := m_mem (m_t7 (i := 91) (by decide +kernel)) (by decide +kernel)
theorem k_c_yX8_line : Cond.code yX8_line cX8_line 3 (some .int) ∈ m_ws := m_mem (m_t7 (i := 92) (by decide +kernel)) (by decide +kernel)
theorem k_m_X8_400 : Cond.methodLink RX8 400 yX8_lined ∈ m_ws := m_mem (m_t7 (i := 93) (by decide +kernel)) (by decide +kernel)
theorem k_i_yX8_lined : Cond.instanceMethod yX8_lined ∈ m_ws := m_mem (m_t7 (i := 95) (by decide +kernel)) (by decide +kernel)
theorem k_c_yX8_lined : Cond.code yX8_lined cX8_lined 1 (some .int) ∈ m_ws := m_mem (m_t7 (i := 96) (by decide +kernel)) (by decide +kernel)
theorem k_m_L_97 : Cond.methodLink RL 97 yX8_unline ∈ m_ws := m_mem (m_t7 (i := 97) (by decide +kernel)) (by decide +kernel)
theorem k_i_yX8_unline : Cond.instanceMethod yX8_unline ∈ m_ws := m_mem (m_t7 (i := 98) (by decide +kernel)) (by decide +kernel)
theorem k_s_yX8_unline : Cond.selects RX8 yX8_unline yX8_unline ∈ m_ws := m_mem (m_t7 (i := 99) (by decide +kernel)) (by decide +kernel)
theorem k_c_yX8_unline : Cond.code yX8_unline cX8_unline 2 (some .int) ∈ m_ws := m_mem (m_t7 (i := 100) (by decide +kernel)) (by decide +kernel)
theorem k_m_L_101 : Cond.methodLink RL 101 yX8_served ∈ m_ws := m_mem (m_t7 (i := 101) (by decide +kernel)) (by decide +kernel)
theorem k_i_yX8_served : Cond.instanceMethod yX8_served ∈ m_ws := m_mem (m_t7 (i := 102) (by decide +kernel)) (by decide +kernel)
theorem k_s_yX8_served : Cond.selects RX8 yX8_served yX8_served ∈ m_ws := m_mem (m_t7 (i := 103) (by decide +kernel)) (by decide +kernel)
theorem k_c_yX8_served : Cond.code yX8_served cX8_served 3 (some .int) ∈ m_ws := m_mem (m_t7 (i := 104) (by decide +kernel)) (by decide +kernel)
theorem k_m_X8_409 : Cond.methodLink RX8 409 yX8_isPlace ∈ m_ws := m_mem (m_t7 (i := 105) (by decide +kernel)) (by decide +kernel)
theorem k_i_yX8_isPlace : Cond.instanceMethod yX8_isPlace ∈ m_ws := m_mem (m_t7 (i := 107) (by decide +kernel)) (by decide +kernel)
theorem k_c_yX8_isPlace : Cond.code yX8_isPlace cX8_isPlace 2 (some .boolean) ∈ m_ws := m_mem (m_t7 (i := 108) (by decide +kernel)) (by decide +kernel)
theorem k_m_X8_412 : Cond.methodLink RX8 412 yX8_layLine ∈ m_ws := m_mem (m_t7 (i := 109) (by decide +kernel)) (by decide +kernel)
theorem k_i_yX8_layLine : Cond.instanceMethod yX8_layLine ∈ m_ws := m_mem (m_t7 (i := 111) (by decide +kernel)) (by decide +kernel)
theorem k_c_yX8_layLine : Cond.code yX8_layLine cX8_layLine 5 none ∈ m_ws := m_mem (m_t7 (i := 112) (by decide +kernel)) (by decide +kernel)
theorem k_m_X8_403 : Cond.methodLink RX8 403 yX8_isLaid ∈ m_ws := m_mem (m_t7 (i := 113) (by decide +kernel)) (by decide +kernel)
theorem k_i_yX8_isLaid : Cond.instanceMethod yX8_isLaid ∈ m_ws := m_mem (m_t7 (i := 115) (by decide +kernel)) (by decide +kernel)
theorem k_c_yX8_isLaid : Cond.code yX8_isLaid cX8_isLaid 2 (some .boolean) ∈ m_ws := m_mem (m_t7 (i := 116) (by decide +kernel)) (by decide +kernel)
theorem k_m_X8_415 : Cond.methodLink RX8 415 yX8_serve ∈ m_ws := m_mem (m_t7 (i := 117) (by decide +kernel)) (by decide +kernel)
theorem k_i_yX8_serve : Cond.instanceMethod yX8_serve ∈ m_ws := m_mem (m_t7 (i := 119) (by decide +kernel)) (by decide +kernel)
theorem k_c_yX8_serve : Cond.code yX8_serve cX8_serve 7 none ∈ m_ws := m_mem (m_t7 (i := 120) (by decide +kernel)) (by decide +kernel)
theorem k_m_X8_406 : Cond.methodLink RX8 406 yX8_sharedOf ∈ m_ws := m_mem (m_t7 (i := 121) (by decide +kernel)) (by decide +kernel)
theorem k_i_yX8_sharedOf : Cond.instanceMethod yX8_sharedOf ∈ m_ws := m_mem (m_t7 (i := 123) (by decide +kernel)) (by decide +kernel)
theorem k_c_yX8_sharedOf : Cond.code yX8_sharedOf cX8_sharedOf 6 (some .int) ∈ m_ws := m_mem (m_t7 (i := 124) (by decide +kernel)) (by decide +kernel)
theorem k_m_L_105 : Cond.methodLink RL 105 yX8_orders ∈ m_ws := m_mem (m_t7 (i := 125) (by decide +kernel)) (by decide +kernel)
theorem k_i_yX8_orders : Cond.instanceMethod yX8_orders ∈ m_ws := m_mem (m_t7 (i := 126) (by decide +kernel)) (by decide +kernel)
theorem k_s_yX8_orders : Cond.selects RX8 yX8_orders yX8_orders ∈ m_ws := m_mem (m_t7 (i := 127) (by decide +kernel)) (by decide +kernel)
theorem k_c_yX8_orders : Cond.code yX8_orders cX8_orders 7 (some .int) ∈ m_ws := m_mem (m_t7 (i := 128) (by decide +kernel)) (by decide +kernel)
theorem k_m_X8_421 : Cond.methodLink RX8 421 yX8_nextOrder ∈ m_ws := m_mem (m_t7 (i := 129) (by decide +kernel)) (by decide +kernel)
theorem k_i_yX8_nextOrder : Cond.instanceMethod yX8_nextOrder ∈ m_ws := m_mem (m_t7 (i := 131) (by decide +kernel)) (by decide +kernel)
theorem k_c_yX8_nextOrder : Cond.code yX8_nextOrder cX8_nextOrder 5 (some .boolean) ∈ m_ws := m_mem (m_t7 (i := 132) (by decide +kernel)) (by decide +kernel)
theorem k_m_X8_418 : Cond.methodLink RX8 418 yX8_swap ∈ m_ws := m_mem (m_t7 (i := 133) (by decide +kernel)) (by decide +kernel)
theorem k_i_yX8_swap : Cond.instanceMethod yX8_swap ∈ m_ws := m_mem (m_t7 (i := 135) (by decide +kernel)) (by decide +kernel)
theorem k_c_yX8_swap : Cond.code yX8_swap cX8_swap 4 none ∈ m_ws := m_mem (m_t7 (i := 136) (by decide +kernel)) (by decide +kernel)
theorem k_m_L_109 : Cond.methodLink RL 109 yX8_rests ∈ m_ws := m_mem (m_t7 (i := 137) (by decide +kernel)) (by decide +kernel)
theorem k_i_yX8_rests : Cond.instanceMethod yX8_rests ∈ m_ws := m_mem (m_t7 (i := 138) (by decide +kernel)) (by decide +kernel)
theorem k_s_yX8_rests : Cond.selects RX8 yX8_rests yX8_rests ∈ m_ws := m_mem (m_t7 (i := 139) (by decide +kernel)) (by decide +kernel)
theorem k_c_yX8_rests : Cond.code yX8_rests cX8_rests 5 (some .int) ∈ m_ws := m_mem (m_t7 (i := 140) (by decide +kernel)) (by decide +kernel)
theorem k_m_X8_430 : Cond.methodLink RX8 430 yX8_isRest ∈ m_ws := m_mem (m_t7 (i := 141) (by decide +kernel)) (by decide +kernel)
theorem k_i_yX8_isRest : Cond.instanceMethod yX8_isRest ∈ m_ws := m_mem (m_t7 (i := 143) (by decide +kernel)) (by decide +kernel)
theorem k_c_yX8_isRest : Cond.code yX8_isRest cX8_isRest 7 (some .boolean) ∈ m_ws := m_mem (m_t7 (i := 144) (by decide +kernel)) (by decide +kernel)
theorem k_m_X8_424 : Cond.methodLink RX8 424 yX8_mayShare ∈ m_ws := m_mem (m_t7 (i := 145) (by decide +kernel)) (by decide +kernel)
theorem k_i_yX8_mayShare : Cond.instanceMethod yX8_mayShare ∈ m_ws := m_mem (m_t7 (i := 147) (by decide +kernel)) (by decide +kernel)
theorem k_c_yX8_mayShare : Cond.code yX8_mayShare cX8_mayShare 2 (some .boolean) ∈ m_ws := m_mem (m_t7 (i := 148) (by decide +kernel)) (by decide +kernel)
theorem k_m_X8_427 : Cond.methodLink RX8 427 yX8_getsBy ∈ m_ws := m_mem (m_t7 (i := 149) (by decide +kernel)) (by decide +kernel)
theorem k_i_yX8_getsBy : Cond.instanceMethod yX8_getsBy ∈ m_ws := m_mem (m_t7 (i := 151) (by decide +kernel)) (by decide +kernel)
theorem k_c_yX8_getsBy : Cond.code yX8_getsBy cX8_getsBy 9 none ∈ m_ws := m_mem (m_t7 (i := 152) (by decide +kernel)) (by decide +kernel)
theorem k_m_L_113 : Cond.methodLink RL 113 yX8_wise ∈ m_ws := m_mem (m_t7 (i := 153) (by decide +kernel)) (by decide +kernel)
theorem k_i_yX8_wise : Cond.instanceMethod yX8_wise ∈ m_ws := m_mem (m_t7 (i := 154) (by decide +kernel)) (by decide +kernel)
theorem k_s_yX8_wise : Cond.selects RX8 yX8_wise yX8_wise ∈ m_ws := m_mem (m_t7 (i := 155) (by decide +kernel)) (by decide +kernel)
theorem k_c_yX8_wise : Cond.code yX8_wise cX8_wise 5 (some .int) ∈ m_ws := m_mem (m_t7 (i := 156) (by decide +kernel)) (by decide +kernel)
theorem k_m_L_118 : Cond.methodLink RL 118 yX8_sure ∈ m_ws := m_mem (m_t7 (i := 157) (by decide +kernel)) (by decide +kernel)
theorem k_i_yX8_sure : Cond.instanceMethod yX8_sure ∈ m_ws := m_mem (m_t7 (i := 158) (by decide +kernel)) (by decide +kernel)
theorem k_s_yX8_sure : Cond.selects RX8 yX8_sure yX8_sure ∈ m_ws := m_mem (m_t7 (i := 159) (by decide +kernel)) (by decide +kernel)
theorem k_c_yX8_sure : Cond.code yX8_sure cX8_sure 10 (some .int) ∈ m_ws := m_mem (m_t7 (i := 160) (by decide +kernel)) (by decide +kernel)
theorem k_m_X8_433 : Cond.methodLink RX8 433 yX8_layWays ∈ m_ws := m_mem (m_t7 (i := 161) (by decide +kernel)) (by decide +kernel)
theorem k_i_yX8_layWays : Cond.instanceMethod yX8_layWays ∈ m_ws := m_mem (m_t7 (i := 163) (by decide +kernel)) (by decide +kernel)
theorem k_c_yX8_layWays : Cond.code yX8_layWays cX8_layWays 6 (some .int) ∈ m_ws := m_mem (m_t7 (i := 164) (by decide +kernel)) (by decide +kernel)
theorem k_m_L_122 : Cond.methodLink RL 122 yX8_hangs ∈ m_ws := m_mem (m_t7 (i := 165) (by decide +kernel)) (by decide +kernel)
theorem k_i_yX8_hangs : Cond.instanceMethod yX8_hangs ∈ m_ws := m_mem (m_t7 (i := 166) (by decide +kernel)) (by decide +kernel)
theorem k_s_yX8_hangs : Cond.selects RX8 yX8_hangs yX8_hangs ∈ m_ws := m_mem (m_t7 (i := 167) (by decide +kernel)) (by decide +kernel)
theorem k_c_yX8_hangs : Cond.code yX8_hangs cX8_hangs 9 (some .int) ∈ m_ws := m_mem (m_t7 (i := 168) (by decide +kernel)) (by decide +kernel)
theorem k_m_L_126 : Cond.methodLink RL 126 yX8_parted ∈ m_ws := m_mem (m_t7 (i := 169) (by decide +kernel)) (by decide +kernel)
theorem k_i_yX8_parted : Cond.instanceMethod yX8_parted ∈ m_ws := m_mem (m_t7 (i := 170) (by decide +kernel)) (by decide +kernel)
theorem k_s_yX8_parted : Cond.selects RX8 yX8_parted yX8_parted ∈ m_ws := m_mem (m_t7 (i := 171) (by decide +kernel)) (by decide +kernel)
theorem k_c_yX8_parted : Cond.code yX8_parted cX8_parted 5 (some .int) ∈ m_ws := m_mem (m_t7 (i := 172) (by decide +kernel)) (by decide +kernel)
theorem k_m_L_131 : Cond.methodLink RL 131 yX8_part ∈ m_ws := m_mem (m_t7 (i := 173) (by decide +kernel)) (by decide +kernel)
theorem k_i_yX8_part : Cond.instanceMethod yX8_part ∈ m_ws := m_mem (m_t7 (i := 174) (by decide +kernel)) (by decide +kernel)
theorem k_s_yX8_part : Cond.selects RX8 yX8_part yX8_part ∈ m_ws := m_mem (m_t7 (i := 175) (by decide +kernel)) (by decide +kernel)
theorem k_c_yX8_part : Cond.code yX8_part cX8_part 2 (some .long) ∈ m_ws := m_mem (m_t7 (i := 176) (by decide +kernel)) (by decide +kernel)
theorem k_l_X8_437 : Cond.constantLong RX8 437 (-1) ∈ m_ws := m_mem (m_t7 (i := 177) (by decide +kernel)) (by decide +kernel)
theorem k_m_L_135 : Cond.methodLink RL 135 yX8_told ∈ m_ws := m_mem (m_t7 (i := 178) (by decide +kernel)) (by decide +kernel)
theorem k_i_yX8_told : Cond.instanceMethod yX8_told ∈ m_ws := m_mem (m_t7 (i := 179) (by decide +kernel)) (by decide +kernel)
theorem k_s_yX8_told : Cond.selects RX8 yX8_told yX8_told ∈ m_ws := m_mem (m_t7 (i := 180) (by decide +kernel)) (by decide +kernel)
theorem k_c_yX8_told : Cond.code yX8_told cX8_told 3 (some .int) ∈ m_ws := m_mem (m_t7 (i := 181) (by decide +kernel)) (by decide +kernel)
theorem k_l_X8_439 : Cond.constantLong RX8 439 (5) ∈ m_ws := m_mem (m_t7 (i := 182) (by decide +kernel)) (by decide +kernel)
theorem k_m_L_139 : Cond.methodLink RL 139 yX8_image ∈ m_ws := m_mem (m_t7 (i := 183) (by decide +kernel)) (by decide +kernel)
theorem k_i_yX8_image : Cond.instanceMethod yX8_image ∈ m_ws := m_mem (m_t7 (i := 184) (by decide +kernel)) (by decide +kernel)
theorem k_s_yX8_image : Cond.selects RX8 yX8_image yX8_image ∈ m_ws := m_mem (m_t7 (i := 185) (by decide +kernel)) (by decide +kernel)
theorem k_c_yX8_image : Cond.code yX8_image cX8_image 3 (some .int) ∈ m_ws := m_mem (m_t7 (i := 186) (by decide +kernel)) (by decide +kernel)
theorem k_m_L_143 : Cond.methodLink RL 143 yX8_from ∈ m_ws := m_mem (m_t7 (i := 187) (by decide +kernel)) (by decide +kernel)
theorem k_i_yX8_from : Cond.instanceMethod yX8_from ∈ m_ws := m_mem (m_t7 (i := 188) (by decide +kernel)) (by decide +kernel)
theorem k_s_yX8_from : Cond.selects RX8 yX8_from yX8_from ∈ m_ws := m_mem (m_t7 (i := 189) (by decide +kernel)) (by decide +kernel)
theorem k_c_yX8_from : Cond.code yX8_from cX8_from 3 (some .int) ∈ m_ws := m_mem (m_t7 (i := 190) (by decide +kernel)) (by decide +kernel)
theorem k_m_L_147 : Cond.methodLink RL 147 yX8_count ∈ m_ws := m_mem (m_t7 (i := 191) (by decide +kernel)) (by decide +kernel)
theorem k_i_yX8_count : Cond.instanceMethod yX8_count ∈ m_ws := m_mem (m_t7 (i := 192) (by decide +kernel)) (by decide +kernel)
theorem k_s_yX8_count : Cond.selects RX8 yX8_count yX8_count ∈ m_ws := m_mem (m_t7 (i := 193) (by decide +kernel)) (by decide +kernel)
theorem k_c_yX8_count : Cond.code yX8_count cX8_count 2 (some .int) ∈ m_ws := m_mem (m_t7 (i := 194) (by decide +kernel)) (by decide +kernel)
theorem k_m_L_152 : Cond.methodLink RL 152 yX8_digest ∈ m_ws := m_mem (m_t7 (i := 195) (by decide +kernel)) (by decide +kernel)
theorem k_i_yX8_digest : Cond.instanceMethod yX8_digest ∈ m_ws := m_mem (m_t7 (i := 196) (by decide +kernel)) (by decide +kernel)
theorem k_s_yX8_digest : Cond.selects RX8 yX8_digest yX8_digest ∈ m_ws := m_mem (m_t7 (i := 197) (by decide +kernel)) (by decide +kernel)
theorem k_c_yX8_digest : Cond.code yX8_digest cX8_digest 5 (some .long) ∈ m_ws := m_mem (m_t7 (i := 198) (by decide +kernel)) (by decide +kernel)
theorem k_l_X8_441 : Cond.constantLong RX8 441 (491) ∈ m_ws := m_mem (m_t7 (i := 199) (by decide +kernel)) (by decide +kernel)
theorem k_l_X8_443 : Cond.constantLong RX8 443 (31) ∈ m_ws := m_mem (m_t7 (i := 200) (by decide +kernel)) (by decide +kernel)
theorem k_m_X8_445 : Cond.methodLink RX8 445 yX8_count ∈ m_ws := m_mem (m_t7 (i := 201) (by decide +kernel)) (by decide +kernel)
theorem k_l_L_28 : Cond.constantLong RL 28 (4294967295) ∈ m_ws := m_mem (m_t7 (i := 202) (by decide +kernel)) (by decide +kernel)
theorem k_f_J0_15 : Cond.fieldLink RJ0 15 "java/lang/String" "coder" "B" ∈ m_ws := m_mem (m_t7 (i := 203) (by decide +kernel)) (by decide +kernel)
theorem k_f_J0_9 : Cond.fieldLink RJ0 9 "java/lang/String" "value" "[B" ∈ m_ws := m_mem (m_t7 (i := 204) (by decide +kernel)) (by decide +kernel)
theorem k_s_yX7_bring : Cond.selects RX7 yX7_bring yX7_bring ∈ m_ws := m_mem (m_t0 (i := 0) (by decide +kernel)) (by decide +kernel)
theorem k_s_yX3_lastDay : Cond.selects RX3 yX3_lastDay yX3_lastDay ∈ m_ws := m_mem (m_t0 (i := 1) (by decide +kernel)) (by decide +kernel)
theorem k_s_yX3_isWellToldB : Cond.selects RX3 yX3_isWellToldB yX3_isWellToldB ∈ m_ws := m_mem (m_t0 (i := 2) (by decide +kernel)) (by decide +kernel)
theorem k_s_yX1_apply : Cond.selects RX1 yX1_apply yX1_apply ∈ m_ws := m_mem (m_t0 (i := 3) (by decide +kernel)) (by decide +kernel)
theorem k_s_yX1_isInHand : Cond.selects RX1 yX1_isInHand yX1_isInHand ∈ m_ws := m_mem (m_t0 (i := 4) (by decide +kernel)) (by decide +kernel)
theorem k_s_yX7_isNote : Cond.selects RX7 yX7_isNote yX7_isNote ∈ m_ws := m_mem (m_t0 (i := 5) (by decide +kernel)) (by decide +kernel)
theorem k_s_yX2_skipBlanks : Cond.selects RX2 yX2_skipBlanks yX2_skipBlanks ∈ m_ws := m_mem (m_t0 (i := 6) (by decide +kernel)) (by decide +kernel)
theorem k_s_yX2_number : Cond.selects RX2 yX2_number yX2_number ∈ m_ws := m_mem (m_t0 (i := 7) (by decide +kernel)) (by decide +kernel)
theorem k_s_yX2_blame : Cond.selects RX2 yX2_blame yX2_blame ∈ m_ws := m_mem (m_t0 (i := 8) (by decide +kernel)) (by decide +kernel)
theorem k_s_yX2_verb : Cond.selects RX2 yX2_verb yX2_verb ∈ m_ws := m_mem (m_t0 (i := 9) (by decide +kernel)) (by decide +kernel)
theorem k_s_yX2_kindOf : Cond.selects RX2 yX2_kindOf yX2_kindOf ∈ m_ws := m_mem (m_t0 (i := 10) (by decide +kernel)) (by decide +kernel)
theorem k_s_yX2_isVerb : Cond.selects RX2 yX2_isVerb yX2_isVerb ∈ m_ws := m_mem (m_t0 (i := 11) (by decide +kernel)) (by decide +kernel)
theorem k_s_yX2_second : Cond.selects RX2 yX2_second yX2_second ∈ m_ws := m_mem (m_t0 (i := 12) (by decide +kernel)) (by decide +kernel)
theorem k_s_yX2_sign : Cond.selects RX2 yX2_sign yX2_sign ∈ m_ws := m_mem (m_t0 (i := 13) (by decide +kernel)) (by decide +kernel)
theorem k_s_yX4_parse : Cond.selects RX4 yX4_parse yX4_parse ∈ m_ws := m_mem (m_t0 (i := 14) (by decide +kernel)) (by decide +kernel)
theorem k_s_yX4_value : Cond.selects RX4 yX4_value yX4_value ∈ m_ws := m_mem (m_t0 (i := 15) (by decide +kernel)) (by decide +kernel)
theorem k_s_yX4_both : Cond.selects RX4 yX4_both yX4_both ∈ m_ws := m_mem (m_t0 (i := 16) (by decide +kernel)) (by decide +kernel)
theorem k_s_yX4_held : Cond.selects RX4 yX4_held yX4_held ∈ m_ws := m_mem (m_t0 (i := 17) (by decide +kernel)) (by decide +kernel)
theorem k_s_yX4_sum : Cond.selects RX4 yX4_sum yX4_sum ∈ m_ws := m_mem (m_t0 (i := 18) (by decide +kernel)) (by decide +kernel)
theorem k_s_yX4_term : Cond.selects RX4 yX4_term yX4_term ∈ m_ws := m_mem (m_t0 (i := 19) (by decide +kernel)) (by decide +kernel)
theorem k_s_yX4_unit : Cond.selects RX4 yX4_unit yX4_unit ∈ m_ws := m_mem (m_t0 (i := 20) (by decide +kernel)) (by decide +kernel)
theorem k_s_yX4_peek : Cond.selects RX4 yX4_peek yX4_peek ∈ m_ws := m_mem (m_t0 (i := 21) (by decide +kernel)) (by decide +kernel)
theorem k_s_yX4_operand : Cond.selects RX4 yX4_operand yX4_operand ∈ m_ws := m_mem (m_t0 (i := 22) (by decide +kernel)) (by decide +kernel)
theorem k_s_yX4_digits : Cond.selects RX4 yX4_digits yX4_digits ∈ m_ws := m_mem (m_t0 (i := 23) (by decide +kernel)) (by decide +kernel)
theorem k_s_yX4_blame : Cond.selects RX4 yX4_blame yX4_blame ∈ m_ws := m_mem (m_t0 (i := 24) (by decide +kernel)) (by decide +kernel)
theorem k_s_yX4_step : Cond.selects RX4 yX4_step yX4_step ∈ m_ws := m_mem (m_t0 (i := 25) (by decide +kernel)) (by decide +kernel)
theorem k_s_yX4_opened : Cond.selects RX4 yX4_opened yX4_opened ∈ m_ws := m_mem (m_t0 (i := 26) (by decide +kernel)) (by decide +kernel)
theorem k_s_yX7_isPerson : Cond.selects RX7 yX7_isPerson yX7_isPerson ∈ m_ws := m_mem (m_t0 (i := 27) (by decide +kernel)) (by decide +kernel)
theorem k_s_yX1_addSeconds : Cond.selects RX1 yX1_addSeconds yX1_addSeconds ∈ m_ws := m_mem (m_t0 (i := 28) (by decide +kernel)) (by decide +kernel)
theorem k_s_yX1_stepsUp : Cond.selects RX1 yX1_stepsUp yX1_stepsUp ∈ m_ws := m_mem (m_t0 (i := 29) (by decide +kernel)) (by decide +kernel)
theorem k_s_yX4_work : Cond.selects RX4 yX4_work yX4_work ∈ m_ws := m_mem (m_t0 (i := 30) (by decide +kernel)) (by decide +kernel)
theorem k_s_yX7_isDeal : Cond.selects RX7 yX7_isDeal yX7_isDeal ∈ m_ws := m_mem (m_t0 (i := 31) (by decide +kernel)) (by decide +kernel)
theorem k_s_yX1_shareAbove : Cond.selects RX1 yX1_shareAbove yX1_shareAbove ∈ m_ws := m_mem (m_t0 (i := 32) (by decide +kernel)) (by decide +kernel)
theorem k_s_yX1_allOwed : Cond.selects RX1 yX1_allOwed yX1_allOwed ∈ m_ws := m_mem (m_t0 (i := 33) (by decide +kernel)) (by decide +kernel)
theorem k_s_yX7_setFraction : Cond.selects RX7 yX7_setFraction yX7_setFraction ∈ m_ws := m_mem (m_t0 (i := 34) (by decide +kernel)) (by decide +kernel)
theorem k_s_yX7_isLined : Cond.selects RX7 yX7_isLined yX7_isLined ∈ m_ws := m_mem (m_t0 (i := 35) (by decide +kernel)) (by decide +kernel)
theorem k_s_yX7_lineUp : Cond.selects RX7 yX7_lineUp yX7_lineUp ∈ m_ws := m_mem (m_t0 (i := 36) (by decide +kernel)) (by decide +kernel)
theorem k_s_yX6_leaveOut : Cond.selects RX6 yX6_leaveOut yX6_leaveOut ∈ m_ws := m_mem (m_t0 (i := 37) (by decide +kernel)) (by decide +kernel)
theorem k_s_yX6_stand : Cond.selects RX6 yX6_stand yX6_stand ∈ m_ws := m_mem (m_t0 (i := 38) (by decide +kernel)) (by decide +kernel)
theorem k_s_yX6_sharedParts : Cond.selects RX6 yX6_sharedParts yX6_sharedParts ∈ m_ws := m_mem (m_t0 (i := 39) (by decide +kernel)) (by decide +kernel)
theorem k_s_yX6_take : Cond.selects RX6 yX6_take yX6_take ∈ m_ws := m_mem (m_t0 (i := 40) (by decide +kernel)) (by decide +kernel)
theorem k_s_yX6_tryAhead : Cond.selects RX6 yX6_tryAhead yX6_tryAhead ∈ m_ws := m_mem (m_t0 (i := 41) (by decide +kernel)) (by decide +kernel)
theorem k_s_yX6_isBetterOtherwise : Cond.selects RX6 yX6_isBetterOtherwise yX6_isBetterOtherwise ∈ m_ws := m_mem (m_t0 (i := 42) (by decide +kernel)) (by decide +kernel)
theorem k_s_yX6_sharersOwed : Cond.selects RX6 yX6_sharersOwed yX6_sharersOwed ∈ m_ws := m_mem (m_t0 (i := 43) (by decide +kernel)) (by decide +kernel)
theorem k_s_yX6_shareAbove : Cond.selects RX6 yX6_shareAbove yX6_shareAbove ∈ m_ws := m_mem (m_t0 (i := 44) (by decide +kernel)) (by decide +kernel)
theorem k_s_yX7_isTooEarly : Cond.selects RX7 yX7_isTooEarly yX7_isTooEarly ∈ m_ws := m_mem (m_t0 (i := 45) (by decide +kernel)) (by decide +kernel)
theorem k_s_yX7_askInAllWays : Cond.selects RX7 yX7_askInAllWays yX7_askInAllWays ∈ m_ws := m_mem (m_t0 (i := 46) (by decide +kernel)) (by decide +kernel)
theorem k_s_yX7_ways : Cond.selects RX7 yX7_ways yX7_ways ∈ m_ws := m_mem (m_t0 (i := 47) (by decide +kernel)) (by decide +kernel)
theorem k_s_yX7_compareWays : Cond.selects RX7 yX7_compareWays yX7_compareWays ∈ m_ws := m_mem (m_t0 (i := 48) (by decide +kernel)) (by decide +kernel)
theorem k_s_yX7_digestOfPersons : Cond.selects RX7 yX7_digestOfPersons yX7_digestOfPersons ∈ m_ws := m_mem (m_t0 (i := 49) (by decide +kernel)) (by decide +kernel)
theorem k_s_yX8_persons : Cond.selects RX8 yX8_persons yX8_persons ∈ m_ws := m_mem (m_t0 (i := 50) (by decide +kernel)) (by decide +kernel)
theorem k_s_yX8_notes : Cond.selects RX8 yX8_notes yX8_notes ∈ m_ws := m_mem (m_t0 (i := 51) (by decide +kernel)) (by decide +kernel)
theorem k_s_yX8_of : Cond.selects RX8 yX8_of yX8_of ∈ m_ws := m_mem (m_t0 (i := 52) (by decide +kernel)) (by decide +kernel)
theorem k_s_yX8_layDay : Cond.selects RX8 yX8_layDay yX8_layDay ∈ m_ws := m_mem (m_t0 (i := 53) (by decide +kernel)) (by decide +kernel)
theorem k_s_yX8_lay : Cond.selects RX8 yX8_lay yX8_lay ∈ m_ws := m_mem (m_t0 (i := 54) (by decide +kernel)) (by decide +kernel)
theorem k_s_yX8_layDeal : Cond.selects RX8 yX8_layDeal yX8_layDeal ∈ m_ws := m_mem (m_t0 (i := 55) (by decide +kernel)) (by decide +kernel)
theorem k_s_yX8_fits : Cond.selects RX8 yX8_fits yX8_fits ∈ m_ws := m_mem (m_t0 (i := 56) (by decide +kernel)) (by decide +kernel)
theorem k_s_yX8_isPerson : Cond.selects RX8 yX8_isPerson yX8_isPerson ∈ m_ws := m_mem (m_t0 (i := 57) (by decide +kernel)) (by decide +kernel)
theorem k_s_yX8_isDeal : Cond.selects RX8 yX8_isDeal yX8_isDeal ∈ m_ws := m_mem (m_t0 (i := 58) (by decide +kernel)) (by decide +kernel)
theorem k_s_yX8_may : Cond.selects RX8 yX8_may yX8_may ∈ m_ws := m_mem (m_t0 (i := 59) (by decide +kernel)) (by decide +kernel)
theorem k_s_yX8_isUnder : Cond.selects RX8 yX8_isUnder yX8_isUnder ∈ m_ws := m_mem (m_t0 (i := 60) (by decide +kernel)) (by decide +kernel)
theorem k_s_yX8_thereOf : Cond.selects RX8 yX8_thereOf yX8_thereOf ∈ m_ws := m_mem (m_t0 (i := 61) (by decide +kernel)) (by decide +kernel)
theorem k_s_yX8_owedOf : Cond.selects RX8 yX8_owedOf yX8_owedOf ∈ m_ws := m_mem (m_t0 (i := 62) (by decide +kernel)) (by decide +kernel)
theorem k_s_yX8_doubtMany : Cond.selects RX8 yX8_doubtMany yX8_doubtMany ∈ m_ws := m_mem (m_t0 (i := 63) (by decide +kernel)) (by decide +kernel)
theorem k_s_yX8_look : Cond.selects RX8 yX8_look yX8_look ∈ m_ws := m_mem (m_t0 (i := 64) (by decide +kernel)) (by decide +kernel)
theorem k_s_yX8_readItem : Cond.selects RX8 yX8_readItem yX8_readItem ∈ m_ws := m_mem (m_t0 (i := 65) (by decide +kernel)) (by decide +kernel)
theorem k_s_yX8_next : Cond.selects RX8 yX8_next yX8_next ∈ m_ws := m_mem (m_t0 (i := 66) (by decide +kernel)) (by decide +kernel)
theorem k_s_yX8_verb : Cond.selects RX8 yX8_verb yX8_verb ∈ m_ws := m_mem (m_t0 (i := 67) (by decide +kernel)) (by decide +kernel)
theorem k_s_yX8_wordCode : Cond.selects RX8 yX8_wordCode yX8_wordCode ∈ m_ws := m_mem (m_t0 (i := 68) (by decide +kernel)) (by decide +kernel)
theorem k_s_yX8_reads : Cond.selects RX8 yX8_reads yX8_reads ∈ m_ws := m_mem (m_t0 (i := 69) (by decide +kernel)) (by decide +kernel)
theorem k_s_yX8_ahead : Cond.selects RX8 yX8_ahead yX8_ahead ∈ m_ws := m_mem (m_t0 (i := 70) (by decide +kernel)) (by decide +kernel)
theorem k_s_yX8_lawLong : Cond.selects RX8 yX8_lawLong yX8_lawLong ∈ m_ws := m_mem (m_t0 (i := 71) (by decide +kernel)) (by decide +kernel)
theorem k_s_yX8_charAt : Cond.selects RX8 yX8_charAt yX8_charAt ∈ m_ws := m_mem (m_t0 (i := 72) (by decide +kernel)) (by decide +kernel)
theorem k_s_yX8_digits : Cond.selects RX8 yX8_digits yX8_digits ∈ m_ws := m_mem (m_t0 (i := 73) (by decide +kernel)) (by decide +kernel)
theorem k_s_yX8_stands : Cond.selects RX8 yX8_stands yX8_stands ∈ m_ws := m_mem (m_t0 (i := 74) (by decide +kernel)) (by decide +kernel)
theorem k_s_yX8_workDown : Cond.selects RX8 yX8_workDown yX8_workDown ∈ m_ws := m_mem (m_t0 (i := 75) (by decide +kernel)) (by decide +kernel)
theorem k_s_yX8_workOut : Cond.selects RX8 yX8_workOut yX8_workOut ∈ m_ws := m_mem (m_t0 (i := 76) (by decide +kernel)) (by decide +kernel)
theorem k_s_yX8_layToday : Cond.selects RX8 yX8_layToday yX8_layToday ∈ m_ws := m_mem (m_t0 (i := 77) (by decide +kernel)) (by decide +kernel)
theorem k_s_yX8_layAll : Cond.selects RX8 yX8_layAll yX8_layAll ∈ m_ws := m_mem (m_t0 (i := 78) (by decide +kernel)) (by decide +kernel)
theorem k_s_yX8_findNets : Cond.selects RX8 yX8_findNets yX8_findNets ∈ m_ws := m_mem (m_t0 (i := 79) (by decide +kernel)) (by decide +kernel)
theorem k_s_yX8_netOf : Cond.selects RX8 yX8_netOf yX8_netOf ∈ m_ws := m_mem (m_t0 (i := 80) (by decide +kernel)) (by decide +kernel)
theorem k_s_yX8_inAll : Cond.selects RX8 yX8_inAll yX8_inAll ∈ m_ws := m_mem (m_t0 (i := 81) (by decide +kernel)) (by decide +kernel)
theorem k_s_yX8_secondOf : Cond.selects RX8 yX8_secondOf yX8_secondOf ∈ m_ws := m_mem (m_t0 (i := 82) (by decide +kernel)) (by decide +kernel)
theorem k_s_yX8_ownOf : Cond.selects RX8 yX8_ownOf yX8_ownOf ∈ m_ws := m_mem (m_t0 (i := 83) (by decide +kernel)) (by decide +kernel)
theorem k_s_yX8_isAsked : Cond.selects RX8 yX8_isAsked yX8_isAsked ∈ m_ws := m_mem (m_t0 (i := 84) (by decide +kernel)) (by decide +kernel)
theorem k_s_yX8_isEarly : Cond.selects RX8 yX8_isEarly yX8_isEarly ∈ m_ws := m_mem (m_t0 (i := 85) (by decide +kernel)) (by decide +kernel)
theorem k_s_yX8_whoOf : Cond.selects RX8 yX8_whoOf yX8_whoOf ∈ m_ws := m_mem (m_t0 (i := 86) (by decide +kernel)) (by decide +kernel)
theorem k_s_yX8_manOf : Cond.selects RX8 yX8_manOf yX8_manOf ∈ m_ws := m_mem (m_t0 (i := 87) (by decide +kernel)) (by decide +kernel)
theorem k_s_yX8_askOf : Cond.selects RX8 yX8_askOf yX8_askOf ∈ m_ws := m_mem (m_t0 (i := 88) (by decide +kernel)) (by decide +kernel)
theorem k_s_yX8_isOpen : Cond.selects RX8 yX8_isOpen yX8_isOpen ∈ m_ws := m_mem (m_t0 (i := 89) (by decide +kernel)) (by decide +kernel)
theorem k_s_yX8_hiddenOf : Cond.selects RX8 yX8_hiddenOf yX8_hiddenOf ∈ m_ws := m_mem (m_t0 (i := 90) (by decide +kernel)) (by decide +kernel)
theorem k_s_yX8_tradeOf : Cond.selects RX8 yX8_tradeOf yX8_tradeOf ∈ m_ws := m_mem (m_t0 (i := 91) (by decide +kernel)) (by decide +kernel)
theorem k_s_yX8_shareOf : Cond.selects RX8 yX8_shareOf yX8_shareOf ∈ m_ws := m_mem (m_t0 (i := 92) (by decide +kernel)) (by decide +kernel)
theorem k_s_yX8_tell : Cond.selects RX8 yX8_tell yX8_tell ∈ m_ws := m_mem (m_t0 (i := 93) (by decide +kernel)) (by decide +kernel)
theorem k_s_yX8_lined : Cond.selects RX8 yX8_lined yX8_lined ∈ m_ws := m_mem (m_t0 (i := 94) (by decide +kernel)) (by decide +kernel)
theorem k_s_yX8_isPlace : Cond.selects RX8 yX8_isPlace yX8_isPlace ∈ m_ws := m_mem (m_t0 (i := 95) (by decide +kernel)) (by decide +kernel)
theorem k_s_yX8_layLine : Cond.selects RX8 yX8_layLine yX8_layLine ∈ m_ws := m_mem (m_t0 (i := 96) (by decide +kernel)) (by decide +kernel)
theorem k_s_yX8_isLaid : Cond.selects RX8 yX8_isLaid yX8_isLaid ∈ m_ws := m_mem (m_t0 (i := 97) (by decide +kernel)) (by decide +kernel)
theorem k_s_yX8_serve : Cond.selects RX8 yX8_serve yX8_serve ∈ m_ws := m_mem (m_t0 (i := 98) (by decide +kernel)) (by decide +kernel)
theorem k_s_yX8_sharedOf : Cond.selects RX8 yX8_sharedOf yX8_sharedOf ∈ m_ws := m_mem (m_t0 (i := 99) (by decide +kernel)) (by decide +kernel)
theorem k_s_yX8_nextOrder : Cond.selects RX8 yX8_nextOrder yX8_nextOrder ∈ m_ws := m_mem (m_t0 (i := 100) (by decide +kernel)) (by decide +kernel)
theorem k_s_yX8_swap : Cond.selects RX8 yX8_swap yX8_swap ∈ m_ws := m_mem (m_t0 (i := 101) (by decide +kernel)) (by decide +kernel)
theorem k_s_yX8_isRest : Cond.selects RX8 yX8_isRest yX8_isRest ∈ m_ws := m_mem (m_t0 (i := 102) (by decide +kernel)) (by decide +kernel)
theorem k_s_yX8_mayShare : Cond.selects RX8 yX8_mayShare yX8_mayShare ∈ m_ws := m_mem (m_t0 (i := 103) (by decide +kernel)) (by decide +kernel)
theorem k_s_yX8_getsBy : Cond.selects RX8 yX8_getsBy yX8_getsBy ∈ m_ws := m_mem (m_t0 (i := 104) (by decide +kernel)) (by decide +kernel)
theorem k_s_yX8_layWays : Cond.selects RX8 yX8_layWays yX8_layWays ∈ m_ws := m_mem (m_t0 (i := 105) (by decide +kernel)) (by decide +kernel)
theorem inlX0 : ∀ w ∈ wsX00, w ∈ m_ws := by
  show ∀ w ∈ [Cond.lays "SonsPurse$Deal" "SonsPurse$Deal" "maker" "I", Cond.lays "SonsPurse$Deal" "SonsPurse$Deal" "trade" "I", Cond.lays "SonsPurse$Deal" "SonsPurse$Deal" "sum" "I", Cond.lays "SonsPurse$Deal" "SonsPurse$Deal" "paid" "I", Cond.lays "SonsPurse$Deal" "SonsPurse$Deal" "came" "I", Cond.lays "SonsPurse$Deal" "SonsPurse$Deal" "gone" "I", Cond.lays "SonsPurse$Deal" "SonsPurse$Deal" "hiddenAhead" "I", Cond.lays "SonsPurse$Deal" "SonsPurse$Deal" "isOrdered" "Z", Cond.lays "SonsPurse$Deal" "SonsPurse$Deal" "isSetAhead" "Z", Cond.lays "SonsPurse$Deal" "SonsPurse$Deal" "isKnownAhead" "Z"], w ∈ m_ws
  exact List.forall_mem_cons.mpr ⟨m_mem (m_t1 (i := 202) (by decide +kernel)) (by decide +kernel), List.forall_mem_cons.mpr ⟨m_mem (m_t1 (i := 204) (by decide +kernel)) (by decide +kernel), List.forall_mem_cons.mpr ⟨m_mem (m_t1 (i := 206) (by decide +kernel)) (by decide +kernel), List.forall_mem_cons.mpr ⟨m_mem (m_t1 (i := 208) (by decide +kernel)) (by decide +kernel), List.forall_mem_cons.mpr ⟨m_mem (m_t1 (i := 210) (by decide +kernel)) (by decide +kernel), List.forall_mem_cons.mpr ⟨m_mem (m_t1 (i := 212) (by decide +kernel)) (by decide +kernel), List.forall_mem_cons.mpr ⟨m_mem (m_t1 (i := 214) (by decide +kernel)) (by decide +kernel), List.forall_mem_cons.mpr ⟨m_mem (m_t1 (i := 216) (by decide +kernel)) (by decide +kernel), List.forall_mem_cons.mpr ⟨m_mem (m_t1 (i := 218) (by decide +kernel)) (by decide +kernel), List.forall_mem_cons.mpr ⟨m_mem (m_t1 (i := 220) (by decide +kernel)) (by decide +kernel), List.forall_mem_nil _⟩⟩⟩⟩⟩⟩⟩⟩⟩⟩
theorem inlX1 : ∀ w ∈ wsX10, w ∈ m_ws := by
  show ∀ w ∈ [Cond.laysFinal "SonsPurse$House" "SonsPurse$House" "kept" "LSonsPurse$Kept;", Cond.laysFinal "SonsPurse$House" "SonsPurse$House" "people" "[LSonsPurse$Person;", Cond.laysFinal "SonsPurse$House" "SonsPurse$House" "dealt" "[LSonsPurse$Deal;", Cond.laysFinal "SonsPurse$House" "SonsPurse$House" "given" "[J", Cond.lays "SonsPurse$House" "SonsPurse$House" "deals" "I", Cond.lays "SonsPurse$House" "SonsPurse$House" "asOf" "I"], w ∈ m_ws
  exact List.forall_mem_cons.mpr ⟨m_mem (m_t1 (i := 234) (by decide +kernel)) (by decide +kernel), List.forall_mem_cons.mpr ⟨m_mem (m_t1 (i := 236) (by decide +kernel)) (by decide +kernel), List.forall_mem_cons.mpr ⟨m_mem (m_t1 (i := 238) (by decide +kernel)) (by decide +kernel), List.forall_mem_cons.mpr ⟨m_mem (m_t2 (i := 0) (by decide +kernel)) (by decide +kernel), List.forall_mem_cons.mpr ⟨m_mem (m_t2 (i := 2) (by decide +kernel)) (by decide +kernel), List.forall_mem_cons.mpr ⟨m_mem (m_t2 (i := 4) (by decide +kernel)) (by decide +kernel), List.forall_mem_nil _⟩⟩⟩⟩⟩⟩
theorem inlX2 : ∀ w ∈ wsX20, w ∈ m_ws := by
  show ∀ w ∈ [Cond.laysFinal "SonsPurse$Items" "SonsPurse$Items" "text" "[I", Cond.lays "SonsPurse$Items" "SonsPurse$Items" "size" "I", Cond.lays "SonsPurse$Items" "SonsPurse$Items" "at" "I", Cond.lays "SonsPurse$Items" "SonsPurse$Items" "flaw" "I", Cond.lays "SonsPurse$Items" "SonsPurse$Items" "day" "I", Cond.lays "SonsPurse$Items" "SonsPurse$Items" "kind" "I", Cond.lays "SonsPurse$Items" "SonsPurse$Items" "a" "I", Cond.lays "SonsPurse$Items" "SonsPurse$Items" "b" "I", Cond.lays "SonsPurse$Items" "SonsPurse$Items" "v" "I"], w ∈ m_ws
  exact List.forall_mem_cons.mpr ⟨m_mem (m_t2 (i := 70) (by decide +kernel)) (by decide +kernel), List.forall_mem_cons.mpr ⟨m_mem (m_t2 (i := 72) (by decide +kernel)) (by decide +kernel), List.forall_mem_cons.mpr ⟨m_mem (m_t2 (i := 74) (by decide +kernel)) (by decide +kernel), List.forall_mem_cons.mpr ⟨m_mem (m_t2 (i := 76) (by decide +kernel)) (by decide +kernel), List.forall_mem_cons.mpr ⟨m_mem (m_t2 (i := 78) (by decide +kernel)) (by decide +kernel), List.forall_mem_cons.mpr ⟨m_mem (m_t2 (i := 80) (by decide +kernel)) (by decide +kernel), List.forall_mem_cons.mpr ⟨m_mem (m_t2 (i := 82) (by decide +kernel)) (by decide +kernel), List.forall_mem_cons.mpr ⟨m_mem (m_t2 (i := 84) (by decide +kernel)) (by decide +kernel), List.forall_mem_cons.mpr ⟨m_mem (m_t2 (i := 86) (by decide +kernel)) (by decide +kernel), List.forall_mem_nil _⟩⟩⟩⟩⟩⟩⟩⟩⟩
theorem inlX3 : ∀ w ∈ wsX30, w ∈ m_ws := by
  show ∀ w ∈ [Cond.lays "SonsPurse$Kept" "SonsPurse$Kept" "persons" "I", Cond.lays "SonsPurse$Kept" "SonsPurse$Kept" "notes" "I", Cond.lays "SonsPurse$Kept" "SonsPurse$Kept" "deals" "I", Cond.lays "SonsPurse$Kept" "SonsPurse$Kept" "doubted" "I", Cond.lays "SonsPurse$Kept" "SonsPurse$Kept" "lined" "I", Cond.laysFinal "SonsPurse$Kept" "SonsPurse$Kept" "rows" "[I", Cond.laysFinal "SonsPurse$Kept" "SonsPurse$Kept" "line" "[I", Cond.laysFinal "SonsPurse$Kept" "SonsPurse$Kept" "laws" "[LSonsPurse$Law;"], w ∈ m_ws
  exact List.forall_mem_cons.mpr ⟨m_mem (m_t1 (i := 90) (by decide +kernel)) (by decide +kernel), List.forall_mem_cons.mpr ⟨m_mem (m_t1 (i := 92) (by decide +kernel)) (by decide +kernel), List.forall_mem_cons.mpr ⟨m_mem (m_t1 (i := 94) (by decide +kernel)) (by decide +kernel), List.forall_mem_cons.mpr ⟨m_mem (m_t1 (i := 96) (by decide +kernel)) (by decide +kernel), List.forall_mem_cons.mpr ⟨m_mem (m_t1 (i := 98) (by decide +kernel)) (by decide +kernel), List.forall_mem_cons.mpr ⟨m_mem (m_t1 (i := 100) (by decide +kernel)) (by decide +kernel), List.forall_mem_cons.mpr ⟨m_mem (m_t1 (i := 102) (by decide +kernel)) (by decide +kernel), List.forall_mem_cons.mpr ⟨m_mem (m_t1 (i := 104) (by decide +kernel)) (by decide +kernel), List.forall_mem_nil _⟩⟩⟩⟩⟩⟩⟩⟩
theorem inlX4 : ∀ w ∈ wsX40, w ∈ m_ws := by
  show ∀ w ∈ [Cond.laysFinal "SonsPurse$Law" "SonsPurse$Law" "text" "[I", Cond.lays "SonsPurse$Law" "SonsPurse$Law" "size" "I", Cond.laysFinal "SonsPurse$Law" "SonsPurse$Law" "steps" "[I", Cond.laysFinal "SonsPurse$Law" "SonsPurse$Law" "numbers" "[J", Cond.laysFinal "SonsPurse$Law" "SonsPurse$Law" "stack" "[J", Cond.lays "SonsPurse$Law" "SonsPurse$Law" "stepped" "I", Cond.lays "SonsPurse$Law" "SonsPurse$Law" "at" "I", Cond.lays "SonsPurse$Law" "SonsPurse$Law" "flaw" "I"], w ∈ m_ws
  exact List.forall_mem_cons.mpr ⟨m_mem (m_t1 (i := 49) (by decide +kernel)) (by decide +kernel), List.forall_mem_cons.mpr ⟨m_mem (m_t1 (i := 51) (by decide +kernel)) (by decide +kernel), List.forall_mem_cons.mpr ⟨m_mem (m_t1 (i := 53) (by decide +kernel)) (by decide +kernel), List.forall_mem_cons.mpr ⟨m_mem (m_t1 (i := 55) (by decide +kernel)) (by decide +kernel), List.forall_mem_cons.mpr ⟨m_mem (m_t1 (i := 57) (by decide +kernel)) (by decide +kernel), List.forall_mem_cons.mpr ⟨m_mem (m_t1 (i := 59) (by decide +kernel)) (by decide +kernel), List.forall_mem_cons.mpr ⟨m_mem (m_t1 (i := 61) (by decide +kernel)) (by decide +kernel), List.forall_mem_cons.mpr ⟨m_mem (m_t1 (i := 63) (by decide +kernel)) (by decide +kernel), List.forall_mem_nil _⟩⟩⟩⟩⟩⟩⟩⟩
theorem inlX5 : ∀ w ∈ wsX50, w ∈ m_ws := by
  show ∀ w ∈ [Cond.lays "SonsPurse$Person" "SonsPurse$Person" "hand" "I", Cond.lays "SonsPurse$Person" "SonsPurse$Person" "lastHand" "I", Cond.lays "SonsPurse$Person" "SonsPurse$Person" "endDay" "I", Cond.lays "SonsPurse$Person" "SonsPurse$Person" "endWay" "I", Cond.lays "SonsPurse$Person" "SonsPurse$Person" "hidden" "I", Cond.lays "SonsPurse$Person" "SonsPurse$Person" "second" "I", Cond.lays "SonsPurse$Person" "SonsPurse$Person" "steps" "I", Cond.laysFinal "SonsPurse$Person" "SonsPurse$Person" "parts" "[I", Cond.laysFinal "SonsPurse$Person" "SonsPurse$Person" "debts" "[I", Cond.laysFinal "SonsPurse$Person" "SonsPurse$Person" "isSet" "[Z", Cond.laysFinal "SonsPurse$Person" "SonsPurse$Person" "isKnown" "[Z"], w ∈ m_ws
  exact List.forall_mem_cons.mpr ⟨m_mem (m_t1 (i := 150) (by decide +kernel)) (by decide +kernel), List.forall_mem_cons.mpr ⟨m_mem (m_t1 (i := 152) (by decide +kernel)) (by decide +kernel), List.forall_mem_cons.mpr ⟨m_mem (m_t1 (i := 154) (by decide +kernel)) (by decide +kernel), List.forall_mem_cons.mpr ⟨m_mem (m_t1 (i := 156) (by decide +kernel)) (by decide +kernel), List.forall_mem_cons.mpr ⟨m_mem (m_t1 (i := 158) (by decide +kernel)) (by decide +kernel), List.forall_mem_cons.mpr ⟨m_mem (m_t1 (i := 160) (by decide +kernel)) (by decide +kernel), List.forall_mem_cons.mpr ⟨m_mem (m_t1 (i := 162) (by decide +kernel)) (by decide +kernel), List.forall_mem_cons.mpr ⟨m_mem (m_t1 (i := 164) (by decide +kernel)) (by decide +kernel), List.forall_mem_cons.mpr ⟨m_mem (m_t1 (i := 166) (by decide +kernel)) (by decide +kernel), List.forall_mem_cons.mpr ⟨m_mem (m_t1 (i := 168) (by decide +kernel)) (by decide +kernel), List.forall_mem_cons.mpr ⟨m_mem (m_t1 (i := 170) (by decide +kernel)) (by decide +kernel), List.forall_mem_nil _⟩⟩⟩⟩⟩⟩⟩⟩⟩⟩⟩
theorem inlX6 : ∀ w ∈ wsX60, w ∈ m_ws := by
  show ∀ w ∈ [Cond.lays "SonsPurse$Queue" "SonsPurse$Queue" "size" "I", Cond.laysFinal "SonsPurse$Queue" "SonsPurse$Queue" "maker" "[I", Cond.laysFinal "SonsPurse$Queue" "SonsPurse$Queue" "trade" "[I", Cond.laysFinal "SonsPurse$Queue" "SonsPurse$Queue" "owed" "[I", Cond.laysFinal "SonsPurse$Queue" "SonsPurse$Queue" "depth" "[I", Cond.laysFinal "SonsPurse$Queue" "SonsPurse$Queue" "part" "[I", Cond.laysFinal "SonsPurse$Queue" "SonsPurse$Queue" "holderDebt" "[I", Cond.laysFinal "SonsPurse$Queue" "SonsPurse$Queue" "mayShare" "[Z", Cond.laysFinal "SonsPurse$Queue" "SonsPurse$Queue" "isAnswered" "[Z", Cond.lays "SonsPurse$Queue" "SonsPurse$Queue" "least" "J", Cond.lays "SonsPurse$Queue" "SonsPurse$Queue" "most" "J"], w ∈ m_ws
  exact List.forall_mem_cons.mpr ⟨m_mem (m_t2 (i := 26) (by decide +kernel)) (by decide +kernel), List.forall_mem_cons.mpr ⟨m_mem (m_t2 (i := 28) (by decide +kernel)) (by decide +kernel), List.forall_mem_cons.mpr ⟨m_mem (m_t2 (i := 30) (by decide +kernel)) (by decide +kernel), List.forall_mem_cons.mpr ⟨m_mem (m_t2 (i := 32) (by decide +kernel)) (by decide +kernel), List.forall_mem_cons.mpr ⟨m_mem (m_t2 (i := 34) (by decide +kernel)) (by decide +kernel), List.forall_mem_cons.mpr ⟨m_mem (m_t2 (i := 36) (by decide +kernel)) (by decide +kernel), List.forall_mem_cons.mpr ⟨m_mem (m_t2 (i := 38) (by decide +kernel)) (by decide +kernel), List.forall_mem_cons.mpr ⟨m_mem (m_t2 (i := 40) (by decide +kernel)) (by decide +kernel), List.forall_mem_cons.mpr ⟨m_mem (m_t2 (i := 42) (by decide +kernel)) (by decide +kernel), List.forall_mem_cons.mpr ⟨m_mem (m_t2 (i := 44) (by decide +kernel)) (by decide +kernel), List.forall_mem_cons.mpr ⟨m_mem (m_t2 (i := 46) (by decide +kernel)) (by decide +kernel), List.forall_mem_nil _⟩⟩⟩⟩⟩⟩⟩⟩⟩⟩⟩
theorem inlX7 : ∀ w ∈ wsX70, w ∈ m_ws := by
  show ∀ w ∈ [Cond.laysFinal "SonsPurse" "SonsPurse" "kept" "LSonsPurse$Kept;", Cond.laysFinal "SonsPurse" "SonsPurse" "images" "[LSonsPurse$Kept;", Cond.laysFinal "SonsPurse" "SonsPurse" "imaged" "[Z", Cond.laysFinal "SonsPurse" "SonsPurse" "house" "LSonsPurse$House;", Cond.laysFinal "SonsPurse" "SonsPurse" "queue" "LSonsPurse$Queue;", Cond.laysFinal "SonsPurse" "SonsPurse" "items" "LSonsPurse$Items;", Cond.laysFinal "SonsPurse" "SonsPurse" "wayAbove" "[J", Cond.laysFinal "SonsPurse" "SonsPurse" "wayBelow" "[J", Cond.lays "SonsPurse" "SonsPurse" "above" "J", Cond.lays "SonsPurse" "SonsPurse" "below" "J"], w ∈ m_ws
  exact List.forall_mem_cons.mpr ⟨m_mem (m_t2 (i := 99) (by decide +kernel)) (by decide +kernel), List.forall_mem_cons.mpr ⟨m_mem (m_t2 (i := 101) (by decide +kernel)) (by decide +kernel), List.forall_mem_cons.mpr ⟨m_mem (m_t2 (i := 103) (by decide +kernel)) (by decide +kernel), List.forall_mem_cons.mpr ⟨m_mem (m_t2 (i := 105) (by decide +kernel)) (by decide +kernel), List.forall_mem_cons.mpr ⟨m_mem (m_t2 (i := 107) (by decide +kernel)) (by decide +kernel), List.forall_mem_cons.mpr ⟨m_mem (m_t2 (i := 109) (by decide +kernel)) (by decide +kernel), List.forall_mem_cons.mpr ⟨m_mem (m_t2 (i := 111) (by decide +kernel)) (by decide +kernel), List.forall_mem_cons.mpr ⟨m_mem (m_t2 (i := 113) (by decide +kernel)) (by decide +kernel), List.forall_mem_cons.mpr ⟨m_mem (m_t2 (i := 115) (by decide +kernel)) (by decide +kernel), List.forall_mem_cons.mpr ⟨m_mem (m_t2 (i := 117) (by decide +kernel)) (by decide +kernel), List.forall_mem_nil _⟩⟩⟩⟩⟩⟩⟩⟩⟩⟩
theorem inlX8 : ∀ w ∈ wsX80, w ∈ m_ws := by
  show ∀ w ∈ [Cond.laysFinal "SonsPurseModel" "SonsPurseModel" "now" "[I", Cond.laysFinal "SonsPurseModel" "SonsPurseModel" "kept" "[I", Cond.laysFinal "SonsPurseModel" "SonsPurseModel" "isKept" "[Z", Cond.laysFinal "SonsPurseModel" "SonsPurseModel" "text" "[I", Cond.lays "SonsPurseModel" "SonsPurseModel" "textLong" "I", Cond.lays "SonsPurseModel" "SonsPurseModel" "above" "J", Cond.lays "SonsPurseModel" "SonsPurseModel" "below" "J", Cond.laysFinal "SonsPurseModel" "SonsPurseModel" "holder" "[I", Cond.laysFinal "SonsPurseModel" "SonsPurseModel" "endHolder" "[I", Cond.laysFinal "SonsPurseModel" "SonsPurseModel" "endDay" "[I", Cond.laysFinal "SonsPurseModel" "SonsPurseModel" "endHow" "[I", Cond.laysFinal "SonsPurseModel" "SonsPurseModel" "parts" "[I", Cond.laysFinal "SonsPurseModel" "SonsPurseModel" "posts" "[Z", Cond.laysFinal "SonsPurseModel" "SonsPurseModel" "knows" "[Z", Cond.laysFinal "SonsPurseModel" "SonsPurseModel" "debts" "[I", Cond.laysFinal "SonsPurseModel" "SonsPurseModel" "dealNote" "[I", Cond.laysFinal "SonsPurseModel" "SonsPurseModel" "dealPaid" "[I", Cond.laysFinal "SonsPurseModel" "SonsPurseModel" "dealUsed" "[I", Cond.laysFinal "SonsPurseModel" "SonsPurseModel" "dealLost" "[I", Cond.laysFinal "SonsPurseModel" "SonsPurseModel" "dealOrdered" "[Z", Cond.laysFinal "SonsPurseModel" "SonsPurseModel" "dealPosted" "[Z", Cond.laysFinal "SonsPurseModel" "SonsPurseModel" "dealKnown" "[Z", Cond.lays "SonsPurseModel" "SonsPurseModel" "deals" "I", Cond.lays "SonsPurseModel" "SonsPurseModel" "laidDeals" "I", Cond.lays "SonsPurseModel" "SonsPurseModel" "so" "I", Cond.lays "SonsPurseModel" "SonsPurseModel" "doubts" "I", Cond.lays "SonsPurseModel" "SonsPurseModel" "dayNow" "I", Cond.lays "SonsPurseModel" "SonsPurseModel" "tokenAt" "I", Cond.lays "SonsPurseModel" "SonsPurseModel" "tokenLong" "I", Cond.lays "SonsPurseModel" "SonsPurseModel" "token" "I", Cond.lays "SonsPurseModel" "SonsPurseModel" "number" "I", Cond.lays "SonsPurseModel" "SonsPurseModel" "itemDay" "I", Cond.lays "SonsPurseModel" "SonsPurseModel" "itemKind" "I", Cond.lays "SonsPurseModel" "SonsPurseModel" "itemA" "I", Cond.lays "SonsPurseModel" "SonsPurseModel" "itemB" "I", Cond.lays "SonsPurseModel" "SonsPurseModel" "itemV" "I", Cond.lays "SonsPurseModel" "SonsPurseModel" "law" "I", Cond.lays "SonsPurseModel" "SonsPurseModel" "at" "I", Cond.lays "SonsPurseModel" "SonsPurseModel" "fault" "I", Cond.laysFinal "SonsPurseModel" "SonsPurseModel" "values" "[J", Cond.lays "SonsPurseModel" "SonsPurseModel" "valueMany" "I", Cond.laysFinal "SonsPurseModel" "SonsPurseModel" "signs" "[I", Cond.lays "SonsPurseModel" "SonsPurseModel" "signMany" "I", Cond.laysFinal "SonsPurseModel" "SonsPurseModel" "names" "[J", Cond.lays "SonsPurseModel" "SonsPurseModel" "told" "J", Cond.laysFinal "SonsPurseModel" "SonsPurseModel" "nets" "[I", Cond.lays "SonsPurseModel" "SonsPurseModel" "over" "J", Cond.lays "SonsPurseModel" "SonsPurseModel" "under" "J", Cond.laysFinal "SonsPurseModel" "SonsPurseModel" "mayGet" "[I", Cond.laysFinal "SonsPurseModel" "SonsPurseModel" "wants" "[I", Cond.laysFinal "SonsPurseModel" "SonsPurseModel" "gets" "[I", Cond.laysFinal "SonsPurseModel" "SonsPurseModel" "order" "[I", Cond.laysFinal "SonsPurseModel" "SonsPurseModel" "overs" "[J", Cond.laysFinal "SonsPurseModel" "SonsPurseModel" "unders" "[J"], w ∈ m_ws
  exact List.forall_mem_cons.mpr ⟨m_mem (m_t5 (i := 159) (by decide +kernel)) (by decide +kernel), List.forall_mem_cons.mpr ⟨m_mem (m_t5 (i := 161) (by decide +kernel)) (by decide +kernel), List.forall_mem_cons.mpr ⟨m_mem (m_t5 (i := 163) (by decide +kernel)) (by decide +kernel), List.forall_mem_cons.mpr ⟨m_mem (m_t5 (i := 165) (by decide +kernel)) (by decide +kernel), List.forall_mem_cons.mpr ⟨m_mem (m_t5 (i := 167) (by decide +kernel)) (by decide +kernel), List.forall_mem_cons.mpr ⟨m_mem (m_t5 (i := 169) (by decide +kernel)) (by decide +kernel), List.forall_mem_cons.mpr ⟨m_mem (m_t5 (i := 171) (by decide +kernel)) (by decide +kernel), List.forall_mem_cons.mpr ⟨m_mem (m_t5 (i := 173) (by decide +kernel)) (by decide +kernel), List.forall_mem_cons.mpr ⟨m_mem (m_t5 (i := 175) (by decide +kernel)) (by decide +kernel), List.forall_mem_cons.mpr ⟨m_mem (m_t5 (i := 177) (by decide +kernel)) (by decide +kernel), List.forall_mem_cons.mpr ⟨m_mem (m_t5 (i := 179) (by decide +kernel)) (by decide +kernel), List.forall_mem_cons.mpr ⟨m_mem (m_t5 (i := 181) (by decide +kernel)) (by decide +kernel), List.forall_mem_cons.mpr ⟨m_mem (m_t5 (i := 183) (by decide +kernel)) (by decide +kernel), List.forall_mem_cons.mpr ⟨m_mem (m_t5 (i := 185) (by decide +kernel)) (by decide +kernel), List.forall_mem_cons.mpr ⟨m_mem (m_t5 (i := 187) (by decide +kernel)) (by decide +kernel), List.forall_mem_cons.mpr ⟨m_mem (m_t5 (i := 189) (by decide +kernel)) (by decide +kernel), List.forall_mem_cons.mpr ⟨m_mem (m_t5 (i := 191) (by decide +kernel)) (by decide +kernel), List.forall_mem_cons.mpr ⟨m_mem (m_t5 (i := 193) (by decide +kernel)) (by decide +kernel), List.forall_mem_cons.mpr ⟨m_mem (m_t5 (i := 195) (by decide +kernel)) (by decide +kernel), List.forall_mem_cons.mpr ⟨m_mem (m_t5 (i := 197) (by decide +kernel)) (by decide +kernel), List.forall_mem_cons.mpr ⟨m_mem (m_t5 (i := 199) (by decide +kernel)) (by decide +kernel), List.forall_mem_cons.mpr ⟨m_mem (m_t5 (i := 201) (by decide +kernel)) (by decide +kernel), List.forall_mem_cons.mpr ⟨m_mem (m_t5 (i := 203) (by decide +kernel)) (by decide +kernel), List.forall_mem_cons.mpr ⟨m_mem (m_t5 (i := 205) (by decide +kernel)) (by decide +kernel), List.forall_mem_cons.mpr ⟨m_mem (m_t5 (i := 207) (by decide +kernel)) (by decide +kernel), List.forall_mem_cons.mpr ⟨m_mem (m_t5 (i := 209) (by decide +kernel)) (by decide +kernel), List.forall_mem_cons.mpr ⟨m_mem (m_t5 (i := 211) (by decide +kernel)) (by decide +kernel), List.forall_mem_cons.mpr ⟨m_mem (m_t5 (i := 213) (by decide +kernel)) (by decide +kernel), List.forall_mem_cons.mpr ⟨m_mem (m_t5 (i := 215) (by decide +kernel)) (by decide +kernel), List.forall_mem_cons.mpr ⟨m_mem (m_t5 (i := 217) (by decide +kernel)) (by decide +kernel), List.forall_mem_cons.mpr ⟨m_mem (m_t5 (i := 219) (by decide +kernel)) (by decide +kernel), List.forall_mem_cons.mpr ⟨m_mem (m_t5 (i := 221) (by decide +kernel)) (by decide +kernel), List.forall_mem_cons.mpr ⟨m_mem (m_t5 (i := 223) (by decide +kernel)) (by decide +kernel), List.forall_mem_cons.mpr ⟨m_mem (m_t5 (i := 225) (by decide +kernel)) (by decide +kernel), List.forall_mem_cons.mpr ⟨m_mem (m_t5 (i := 227) (by decide +kernel)) (by decide +kernel), List.forall_mem_cons.mpr ⟨m_mem (m_t5 (i := 229) (by decide +kernel)) (by decide +kernel), List.forall_mem_cons.mpr ⟨m_mem (m_t5 (i := 231) (by decide +kernel)) (by decide +kernel), List.forall_mem_cons.mpr ⟨m_mem (m_t5 (i := 233) (by decide +kernel)) (by decide +kernel), List.forall_mem_cons.mpr ⟨m_mem (m_t5 (i := 235) (by decide +kernel)) (by decide +kernel), List.forall_mem_cons.mpr ⟨m_mem (m_t5 (i := 237) (by decide +kernel)) (by decide +kernel), List.forall_mem_cons.mpr ⟨m_mem (m_t5 (i := 239) (by decide +kernel)) (by decide +kernel), List.forall_mem_cons.mpr ⟨m_mem (m_t6 (i := 1) (by decide +kernel)) (by decide +kernel), List.forall_mem_cons.mpr ⟨m_mem (m_t6 (i := 3) (by decide +kernel)) (by decide +kernel), List.forall_mem_cons.mpr ⟨m_mem (m_t6 (i := 5) (by decide +kernel)) (by decide +kernel), List.forall_mem_cons.mpr ⟨m_mem (m_t6 (i := 7) (by decide +kernel)) (by decide +kernel), List.forall_mem_cons.mpr ⟨m_mem (m_t6 (i := 9) (by decide +kernel)) (by decide +kernel), List.forall_mem_cons.mpr ⟨m_mem (m_t6 (i := 11) (by decide +kernel)) (by decide +kernel), List.forall_mem_cons.mpr ⟨m_mem (m_t6 (i := 13) (by decide +kernel)) (by decide +kernel), List.forall_mem_cons.mpr ⟨m_mem (m_t6 (i := 15) (by decide +kernel)) (by decide +kernel), List.forall_mem_cons.mpr ⟨m_mem (m_t6 (i := 17) (by decide +kernel)) (by decide +kernel), List.forall_mem_cons.mpr ⟨m_mem (m_t6 (i := 19) (by decide +kernel)) (by decide +kernel), List.forall_mem_cons.mpr ⟨m_mem (m_t6 (i := 21) (by decide +kernel)) (by decide +kernel), List.forall_mem_cons.mpr ⟨m_mem (m_t6 (i := 23) (by decide +kernel)) (by decide +kernel), List.forall_mem_cons.mpr ⟨m_mem (m_t6 (i := 25) (by decide +kernel)) (by decide +kernel), List.forall_mem_nil _⟩⟩⟩⟩⟩⟩⟩⟩⟩⟩⟩⟩⟩⟩⟩⟩⟩⟩⟩⟩⟩⟩⟩⟩⟩⟩⟩⟩⟩⟩⟩⟩⟩⟩⟩⟩⟩⟩⟩⟩⟩⟩⟩⟩⟩⟩⟩⟩⟩⟩⟩⟩⟩⟩
