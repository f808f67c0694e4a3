/-! Names, fields: out of the printed names; tables of mine. Written by wip/gen/names.py. -/
def RX0 : String := "RingHand$1"
def TX0 : u_T := fun k => match k with
  | _ => ("", "", "", false)
def tyX0 : Nat → FieldType := fun k => match k with
  | _ => .int
abbrev wsX00 : List Cond := u_ws RX0 TX0 0
theorem nmX0 : ∀ a, a < 0 → ∀ b, b < 0 → a ≠ b → (TX0 a).2.1 ≠ (TX0 b).2.1 := by decide +kernel
theorem tyX0_ok : ∀ k, k < 0 → parseFieldDescriptor (TX0 k).2.2.1 = some (tyX0 k) := by decide +kernel
def RX1 : String := "RingHand$Chalk"
def TX1 : u_T := fun k => match k with
  | 0 => ("RingHand$Chalk", "places", "[I", true)
  | 1 => ("RingHand$Chalk", "placeCount", "I", false)
  | 2 => ("RingHand$Chalk", "picked", "[I", true)
  | 3 => ("RingHand$Chalk", "keptInches", "[I", true)
  | _ => ("RingHand$Chalk", "keptCount", "I", false)
def tyX1 : Nat → FieldType := fun k => match k with
  | 0 => .array .int
  | 1 => .int
  | 2 => .array .int
  | 3 => .array .int
  | _ => .int
abbrev wsX10 : List Cond := u_ws RX1 TX1 5
theorem nmX1 : ∀ a, a < 5 → ∀ b, b < 5 → a ≠ b → (TX1 a).2.1 ≠ (TX1 b).2.1 := by decide +kernel
theorem tyX1_ok : ∀ k, k < 5 → parseFieldDescriptor (TX1 k).2.2.1 = some (tyX1 k) := by decide +kernel
abbrev cX1_init : ByteArray := prog_3_method_1_code
def yX1_init : MethodName := ⟨RX1, "<init>", "()V"⟩
abbrev cX1_drop : ByteArray := prog_3_method_2_code
def yX1_drop : MethodName := ⟨RX1, "drop", "()V"⟩
abbrev cX1_findPlaces : ByteArray := prog_3_method_3_code
def yX1_findPlaces : MethodName := ⟨RX1, "findPlaces", "(LRingHand$Scene;)V"⟩
abbrev cX1_addPlace : ByteArray := prog_3_method_4_code
def yX1_addPlace : MethodName := ⟨RX1, "addPlace", "(I)V"⟩
abbrev cX1_pickFirst : ByteArray := prog_3_method_5_code
def yX1_pickFirst : MethodName := ⟨RX1, "pickFirst", "(I)Z"⟩
abbrev cX1_pickNext : ByteArray := prog_3_method_6_code
def yX1_pickNext : MethodName := ⟨RX1, "pickNext", "(I)Z"⟩
abbrev cX1_pickedInches : ByteArray := prog_3_method_7_code
def yX1_pickedInches : MethodName := ⟨RX1, "pickedInches", "(I)I"⟩
abbrev cX1_putPicked : ByteArray := prog_3_method_8_code
def yX1_putPicked : MethodName := ⟨RX1, "putPicked", "(LRingHand$Trial;I)V"⟩
abbrev cX1_keepPicked : ByteArray := prog_3_method_9_code
def yX1_keepPicked : MethodName := ⟨RX1, "keepPicked", "(I)V"⟩
def RX2 : String := "RingHand$Reader"
def TX2 : u_T := fun k => match k with
  | 0 => ("RingHand$Reader", "kinds", "[I", true)
  | 1 => ("RingHand$Reader", "meanings", "[I", true)
  | 2 => ("RingHand$Reader", "places", "[I", true)
  | 3 => ("RingHand$Reader", "tokens", "I", false)
  | 4 => ("RingHand$Reader", "at", "I", false)
  | 5 => ("RingHand$Reader", "told", "[Z", true)
  | 6 => ("RingHand$Reader", "fault", "I", false)
  | _ => ("RingHand$Reader", "faultPlace", "I", false)
def tyX2 : Nat → FieldType := fun k => match k with
  | 0 => .array .int
  | 1 => .array .int
  | 2 => .array .int
  | 3 => .int
  | 4 => .int
  | 5 => .array .boolean
  | 6 => .int
  | _ => .int
abbrev wsX20 : List Cond := u_ws RX2 TX2 8
theorem nmX2 : ∀ a, a < 8 → ∀ b, b < 8 → a ≠ b → (TX2 a).2.1 ≠ (TX2 b).2.1 := by decide +kernel
theorem tyX2_ok : ∀ k, k < 8 → parseFieldDescriptor (TX2 k).2.2.1 = some (tyX2 k) := by decide +kernel
abbrev cX2_init : ByteArray := prog_4_method_1_code
def yX2_init : MethodName := ⟨RX2, "<init>", "()V"⟩
abbrev cX2_read : ByteArray := prog_4_method_2_code
def yX2_read : MethodName := ⟨RX2, "read", "([IILRingHand$Scene;)Z"⟩
abbrev cX2_split : ByteArray := prog_4_method_3_code
def yX2_split : MethodName := ⟨RX2, "split", "([II)V"⟩
abbrev cX2_addToken : ByteArray := prog_4_method_4_code
def yX2_addToken : MethodName := ⟨RX2, "addToken", "(III)V"⟩
abbrev cX2_isLetter : ByteArray := prog_4_method_5_code
def yX2_isLetter : MethodName := ⟨RX2, "isLetter", "(I)Z"⟩
abbrev cX2_isDigit : ByteArray := prog_4_method_6_code
def yX2_isDigit : MethodName := ⟨RX2, "isDigit", "(I)Z"⟩
abbrev cX2_isSignByte : ByteArray := prog_4_method_7_code
def yX2_isSignByte : MethodName := ⟨RX2, "isSignByte", "(I)Z"⟩
abbrev cX2_endOfLetters : ByteArray := prog_4_method_8_code
def yX2_endOfLetters : MethodName := ⟨RX2, "endOfLetters", "([III)I"⟩
abbrev cX2_endOfDigits : ByteArray := prog_4_method_9_code
def yX2_endOfDigits : MethodName := ⟨RX2, "endOfDigits", "([III)I"⟩
abbrev cX2_wordOn : ByteArray := prog_4_method_10_code
def yX2_wordOn : MethodName := ⟨RX2, "wordOn", "([III)I"⟩
abbrev cX2_numberOn : ByteArray := prog_4_method_11_code
def yX2_numberOn : MethodName := ⟨RX2, "numberOn", "([III)I"⟩
abbrev cX2_isKind : ByteArray := prog_4_method_12_code
def yX2_isKind : MethodName := ⟨RX2, "isKind", "(I)Z"⟩
abbrev cX2_isSign : ByteArray := prog_4_method_13_code
def yX2_isSign : MethodName := ⟨RX2, "isSign", "(C)Z"⟩
abbrev cX2_word : ByteArray := prog_4_method_14_code
def yX2_word : MethodName := ⟨RX2, "word", "()LRingHand$Word;"⟩
abbrev cX2_isWord : ByteArray := prog_4_method_15_code
def yX2_isWord : MethodName := ⟨RX2, "isWord", "(LRingHand$Word;)Z"⟩
abbrev cX2_advance : ByteArray := prog_4_method_16_code
def yX2_advance : MethodName := ⟨RX2, "advance", "()V"⟩
abbrev cX2_refuse : ByteArray := prog_4_method_17_code
def yX2_refuse : MethodName := ⟨RX2, "refuse", "(I)Z"⟩
abbrev cX2_isNumber : ByteArray := prog_4_method_18_code
def yX2_isNumber : MethodName := ⟨RX2, "isNumber", "(II)Z"⟩
abbrev cX2_takeNumber : ByteArray := prog_4_method_19_code
def yX2_takeNumber : MethodName := ⟨RX2, "takeNumber", "()I"⟩
abbrev cX2_readEnd : ByteArray := prog_4_method_20_code
def yX2_readEnd : MethodName := ⟨RX2, "readEnd", "()Z"⟩
abbrev cX2_readFrom : ByteArray := prog_4_method_21_code
def yX2_readFrom : MethodName := ⟨RX2, "readFrom", "(LRingHand$Scene;)Z"⟩
abbrev cX2_readLine : ByteArray := prog_4_method_22_code
def yX2_readLine : MethodName := ⟨RX2, "readLine", "(LRingHand$Scene;)Z"⟩
abbrev cX2_readGo : ByteArray := prog_4_method_23_code
def yX2_readGo : MethodName := ⟨RX2, "readGo", "(LRingHand$Scene;)Z"⟩
abbrev cX2_readStay : ByteArray := prog_4_method_24_code
def yX2_readStay : MethodName := ⟨RX2, "readStay", "(LRingHand$Scene;)Z"⟩
abbrev cX2_readTenths : ByteArray := prog_4_method_25_code
def yX2_readTenths : MethodName := ⟨RX2, "readTenths", "(LRingHand$Scene;I)Z"⟩
abbrev cX2_readChange : ByteArray := prog_4_method_26_code
def yX2_readChange : MethodName := ⟨RX2, "readChange", "(LRingHand$Scene;I)Z"⟩
abbrev cX2_readMark : ByteArray := prog_4_method_27_code
def yX2_readMark : MethodName := ⟨RX2, "readMark", "(LRingHand$Scene;)Z"⟩
abbrev cX2_readSetting : ByteArray := prog_4_method_28_code
def yX2_readSetting : MethodName := ⟨RX2, "readSetting", "(LRingHand$Scene;III)Z"⟩
abbrev cX2_isFirst : ByteArray := prog_4_method_29_code
def yX2_isFirst : MethodName := ⟨RX2, "isFirst", "(I)Z"⟩
abbrev cX2_readEye : ByteArray := prog_4_method_30_code
def yX2_readEye : MethodName := ⟨RX2, "readEye", "(LRingHand$Scene;)Z"⟩
abbrev cX2_readRule : ByteArray := prog_4_method_31_code
def yX2_readRule : MethodName := ⟨RX2, "readRule", "(LRingHand$Scene;I)Z"⟩
abbrev cX2_readExpr : ByteArray := prog_4_method_32_code
def yX2_readExpr : MethodName := ⟨RX2, "readExpr", "(LRingHand$Rules;II)Z"⟩
abbrev cX2_readAnd : ByteArray := prog_4_method_33_code
def yX2_readAnd : MethodName := ⟨RX2, "readAnd", "(LRingHand$Rules;II)Z"⟩
abbrev cX2_readNot : ByteArray := prog_4_method_34_code
def yX2_readNot : MethodName := ⟨RX2, "readNot", "(LRingHand$Rules;II)Z"⟩
abbrev cX2_readTest : ByteArray := prog_4_method_35_code
def yX2_readTest : MethodName := ⟨RX2, "readTest", "(LRingHand$Rules;II)Z"⟩
abbrev cX2_readSum : ByteArray := prog_4_method_36_code
def yX2_readSum : MethodName := ⟨RX2, "readSum", "(LRingHand$Rules;II)Z"⟩
abbrev cX2_readProduct : ByteArray := prog_4_method_37_code
def yX2_readProduct : MethodName := ⟨RX2, "readProduct", "(LRingHand$Rules;II)Z"⟩
abbrev cX2_readPart : ByteArray := prog_4_method_38_code
def yX2_readPart : MethodName := ⟨RX2, "readPart", "(LRingHand$Rules;II)Z"⟩
abbrev cX2_readInner : ByteArray := prog_4_method_39_code
def yX2_readInner : MethodName := ⟨RX2, "readInner", "(LRingHand$Rules;II)Z"⟩
abbrev cX2_valueOf : ByteArray := prog_4_method_40_code
def yX2_valueOf : MethodName := ⟨RX2, "valueOf", "(LRingHand$Word;I)I"⟩
def RX3 : String := "RingHand$Rules"
def TX3 : u_T := fun k => match k with
  | 0 => ("RingHand$Rules", "code", "[I", true)
  | 1 => ("RingHand$Rules", "length", "I", false)
  | 2 => ("RingHand$Rules", "from", "[I", true)
  | 3 => ("RingHand$Rules", "to", "[I", true)
  | 4 => ("RingHand$Rules", "stack", "[I", true)
  | _ => ("RingHand$Rules", "values", "[I", true)
def tyX3 : Nat → FieldType := fun k => match k with
  | 0 => .array .int
  | 1 => .int
  | 2 => .array .int
  | 3 => .array .int
  | 4 => .array .int
  | _ => .array .int
abbrev wsX30 : List Cond := u_ws RX3 TX3 6
theorem nmX3 : ∀ a, a < 6 → ∀ b, b < 6 → a ≠ b → (TX3 a).2.1 ≠ (TX3 b).2.1 := by decide +kernel
theorem tyX3_ok : ∀ k, k < 6 → parseFieldDescriptor (TX3 k).2.2.1 = some (tyX3 k) := by decide +kernel
abbrev cX3_init : ByteArray := prog_5_method_1_code
def yX3_init : MethodName := ⟨RX3, "<init>", "()V"⟩
abbrev cX3_clear : ByteArray := prog_5_method_2_code
def yX3_clear : MethodName := ⟨RX3, "clear", "()V"⟩
abbrev cX3_open : ByteArray := prog_5_method_3_code
def yX3_open : MethodName := ⟨RX3, "open", "(I)V"⟩
abbrev cX3_close : ByteArray := prog_5_method_4_code
def yX3_close : MethodName := ⟨RX3, "close", "(I)V"⟩
abbrev cX3_add : ByteArray := prog_5_method_5_code
def yX3_add : MethodName := ⟨RX3, "add", "(I)V"⟩
abbrev cX3_has : ByteArray := prog_5_method_6_code
def yX3_has : MethodName := ⟨RX3, "has", "(I)Z"⟩
abbrev cX3_worth : ByteArray := prog_5_method_7_code
def yX3_worth : MethodName := ⟨RX3, "worth", "(I)I"⟩
abbrev cX3_valueBy : ByteArray := prog_5_method_8_code
def yX3_valueBy : MethodName := ⟨RX3, "valueBy", "(I)I"⟩
abbrev cX3_join : ByteArray := prog_5_method_9_code
def yX3_join : MethodName := ⟨RX3, "join", "(III)I"⟩
def RX4 : String := "RingHand$Scene"
def TX4 : u_T := fun k => match k with
  | 0 => ("RingHand$Scene", "begin", "I", false)
  | 1 => ("RingHand$Scene", "moveCount", "I", false)
  | 2 => ("RingHand$Scene", "moveTo", "[I", true)
  | 3 => ("RingHand$Scene", "moveTenths", "[I", true)
  | 4 => ("RingHand$Scene", "last", "I", false)
  | 5 => ("RingHand$Scene", "changeCount", "I", false)
  | 6 => ("RingHand$Scene", "changeTenth", "[I", true)
  | 7 => ("RingHand$Scene", "changeWho", "[I", true)
  | 8 => ("RingHand$Scene", "markCount", "I", false)
  | 9 => ("RingHand$Scene", "handCount", "I", false)
  | 10 => ("RingHand$Scene", "row", "[I", true)
  | 11 => ("RingHand$Scene", "rules", "LRingHand$Rules;", true)
  | 12 => ("RingHand$Scene", "her", "[I", true)
  | _ => ("RingHand$Scene", "turns", "[I", true)
def tyX4 : Nat → FieldType := fun k => match k with
  | 0 => .int
  | 1 => .int
  | 2 => .array .int
  | 3 => .array .int
  | 4 => .int
  | 5 => .int
  | 6 => .array .int
  | 7 => .array .int
  | 8 => .int
  | 9 => .int
  | 10 => .array .int
  | 11 => .object "RingHand$Rules"
  | 12 => .array .int
  | _ => .array .int
abbrev wsX40 : List Cond := u_ws RX4 TX4 14
theorem nmX4 : ∀ a, a < 14 → ∀ b, b < 14 → a ≠ b → (TX4 a).2.1 ≠ (TX4 b).2.1 := by decide +kernel
theorem tyX4_ok : ∀ k, k < 14 → parseFieldDescriptor (TX4 k).2.2.1 = some (tyX4 k) := by decide +kernel
abbrev cX4_init : ByteArray := prog_6_method_1_code
def yX4_init : MethodName := ⟨RX4, "<init>", "()V"⟩
abbrev cX4_clear : ByteArray := prog_6_method_2_code
def yX4_clear : MethodName := ⟨RX4, "clear", "()V"⟩
abbrev cX4_addMove : ByteArray := prog_6_method_3_code
def yX4_addMove : MethodName := ⟨RX4, "addMove", "(II)V"⟩
abbrev cX4_lastPlace : ByteArray := prog_6_method_4_code
def yX4_lastPlace : MethodName := ⟨RX4, "lastPlace", "()I"⟩
abbrev cX4_addChange : ByteArray := prog_6_method_5_code
def yX4_addChange : MethodName := ⟨RX4, "addChange", "(II)V"⟩
abbrev cX4_lastChange : ByteArray := prog_6_method_6_code
def yX4_lastChange : MethodName := ⟨RX4, "lastChange", "()I"⟩
abbrev cX4_addMark : ByteArray := prog_6_method_7_code
def yX4_addMark : MethodName := ⟨RX4, "addMark", "(I)V"⟩
abbrev cX4_finish : ByteArray := prog_6_method_8_code
def yX4_finish : MethodName := ⟨RX4, "finish", "()V"⟩
abbrev cX4_ruledTurn : ByteArray := prog_6_method_9_code
def yX4_ruledTurn : MethodName := ⟨RX4, "ruledTurn", "(I)I"⟩
abbrev cX4_turnOf : ByteArray := prog_6_method_10_code
def yX4_turnOf : MethodName := ⟨RX4, "turnOf", "(I)I"⟩
abbrev cX4_herIn : ByteArray := prog_6_method_11_code
def yX4_herIn : MethodName := ⟨RX4, "herIn", "(I)I"⟩
abbrev cX4_placeOf : ByteArray := prog_6_method_12_code
def yX4_placeOf : MethodName := ⟨RX4, "placeOf", "(III)I"⟩
abbrev cX4_faceIn : ByteArray := prog_6_method_13_code
def yX4_faceIn : MethodName := ⟨RX4, "faceIn", "(II)I"⟩
def RX5 : String := "RingHand$Setup"
def TX5 : u_T := fun k => match k with
  | 0 => ("RingHand$Setup", "row", "[I", true)
  | 1 => ("RingHand$Setup", "actPlaces", "[I", true)
  | 2 => ("RingHand$Setup", "actBefore", "[I", true)
  | 3 => ("RingHand$Setup", "actCount", "I", false)
  | 4 => ("RingHand$Setup", "seenTenths", "[I", true)
  | 5 => ("RingHand$Setup", "seenSharp", "[I", true)
  | 6 => ("RingHand$Setup", "seenCount", "I", false)
  | 7 => ("RingHand$Setup", "stops", "[I", true)
  | _ => ("RingHand$Setup", "bookCount", "I", false)
def tyX5 : Nat → FieldType := fun k => match k with
  | 0 => .array .int
  | 1 => .array .int
  | 2 => .array .int
  | 3 => .int
  | 4 => .array .int
  | 5 => .array .int
  | 6 => .int
  | 7 => .array .int
  | _ => .int
abbrev wsX50 : List Cond := u_ws RX5 TX5 9
theorem nmX5 : ∀ a, a < 9 → ∀ b, b < 9 → a ≠ b → (TX5 a).2.1 ≠ (TX5 b).2.1 := by decide +kernel
theorem tyX5_ok : ∀ k, k < 9 → parseFieldDescriptor (TX5 k).2.2.1 = some (tyX5 k) := by decide +kernel
abbrev cX5_init : ByteArray := prog_7_method_1_code
def yX5_init : MethodName := ⟨RX5, "<init>", "()V"⟩
abbrev cX5_begin : ByteArray := prog_7_method_2_code
def yX5_begin : MethodName := ⟨RX5, "begin", "(LRingHand$Scene;)V"⟩
abbrev cX5_copyOf : ByteArray := prog_7_method_3_code
def yX5_copyOf : MethodName := ⟨RX5, "copyOf", "(LRingHand$Setup;)V"⟩
abbrev cX5_act : ByteArray := prog_7_method_4_code
def yX5_act : MethodName := ⟨RX5, "act", "(II)I"⟩
abbrev cX5_dropEarliest : ByteArray := prog_7_method_5_code
def yX5_dropEarliest : MethodName := ⟨RX5, "dropEarliest", "()V"⟩
abbrev cX5_takeBack : ByteArray := prog_7_method_6_code
def yX5_takeBack : MethodName := ⟨RX5, "takeBack", "()I"⟩
abbrev cX5_note : ByteArray := prog_7_method_7_code
def yX5_note : MethodName := ⟨RX5, "note", "(IZ)Z"⟩
abbrev cX5_isFilmOf : ByteArray := prog_7_method_8_code
def yX5_isFilmOf : MethodName := ⟨RX5, "isFilmOf", "(LRingHand$Trial;)Z"⟩
abbrev cX5_write : ByteArray := prog_7_method_9_code
def yX5_write : MethodName := ⟨RX5, "write", "(I)Z"⟩
abbrev cX5_stoppedWithin : ByteArray := prog_7_method_10_code
def yX5_stoppedWithin : MethodName := ⟨RX5, "stoppedWithin", "(I)I"⟩
abbrev cX5_together : ByteArray := prog_7_method_11_code
def yX5_together : MethodName := ⟨RX5, "together", "()I"⟩
abbrev cX5_span : ByteArray := prog_7_method_12_code
def yX5_span : MethodName := ⟨RX5, "span", "()I"⟩
def RX6 : String := "RingHand$Trial"
def TX6 : u_T := fun k => match k with
  | 0 => ("RingHand$Trial", "row", "[I", true)
  | 1 => ("RingHand$Trial", "markCount", "I", false)
  | 2 => ("RingHand$Trial", "late", "I", false)
  | 3 => ("RingHand$Trial", "shifted", "I", false)
  | 4 => ("RingHand$Trial", "ahead", "I", false)
  | 5 => ("RingHand$Trial", "last", "I", false)
  | 6 => ("RingHand$Trial", "seen", "[I", true)
  | 7 => ("RingHand$Trial", "chalked", "[Z", true)
  | 8 => ("RingHand$Trial", "ring", "[I", true)
  | _ => ("RingHand$Trial", "off", "[I", true)
def tyX6 : Nat → FieldType := fun k => match k with
  | 0 => .array .int
  | 1 => .int
  | 2 => .int
  | 3 => .int
  | 4 => .int
  | 5 => .int
  | 6 => .array .int
  | 7 => .array .boolean
  | 8 => .array .int
  | _ => .array .int
abbrev wsX60 : List Cond := u_ws RX6 TX6 10
theorem nmX6 : ∀ a, a < 10 → ∀ b, b < 10 → a ≠ b → (TX6 a).2.1 ≠ (TX6 b).2.1 := by decide +kernel
theorem tyX6_ok : ∀ k, k < 10 → parseFieldDescriptor (TX6 k).2.2.1 = some (tyX6 k) := by decide +kernel
abbrev cX6_init : ByteArray := prog_8_method_1_code
def yX6_init : MethodName := ⟨RX6, "<init>", "()V"⟩
abbrev cX6_begin : ByteArray := prog_8_method_2_code
def yX6_begin : MethodName := ⟨RX6, "begin", "([II)V"⟩
abbrev cX6_walk : ByteArray := prog_8_method_3_code
def yX6_walk : MethodName := ⟨RX6, "walk", "(LRingHand$Scene;)V"⟩
abbrev cX6_look : ByteArray := prog_8_method_4_code
def yX6_look : MethodName := ⟨RX6, "look", "(LRingHand$Scene;)V"⟩
abbrev cX6_follow : ByteArray := prog_8_method_5_code
def yX6_follow : MethodName := ⟨RX6, "follow", "(LRingHand$Scene;)V"⟩
abbrev cX6_aim : ByteArray := prog_8_method_6_code
def yX6_aim : MethodName := ⟨RX6, "aim", "(LRingHand$Scene;I)I"⟩
abbrev cX6_placeIn : ByteArray := prog_8_method_7_code
def yX6_placeIn : MethodName := ⟨RX6, "placeIn", "(LRingHand$Scene;II)I"⟩
abbrev cX6_rightIn : ByteArray := prog_8_method_8_code
def yX6_rightIn : MethodName := ⟨RX6, "rightIn", "(LRingHand$Scene;I)I"⟩
abbrev cX6_judged : ByteArray := prog_8_method_9_code
def yX6_judged : MethodName := ⟨RX6, "judged", "(I)I"⟩
abbrev cX6_isSharp : ByteArray := prog_8_method_10_code
def yX6_isSharp : MethodName := ⟨RX6, "isSharp", "(I)Z"⟩
abbrev cX6_sharpBy : ByteArray := prog_8_method_11_code
def yX6_sharpBy : MethodName := ⟨RX6, "sharpBy", "(I)I"⟩
abbrev cX6_mostOff : ByteArray := prog_8_method_12_code
def yX6_mostOff : MethodName := ⟨RX6, "mostOff", "()I"⟩
abbrev cX6_longestSoft : ByteArray := prog_8_method_13_code
def yX6_longestSoft : MethodName := ⟨RX6, "longestSoft", "()I"⟩
abbrev cX6_firstSoft : ByteArray := prog_8_method_14_code
def yX6_firstSoft : MethodName := ⟨RX6, "firstSoft", "()I"⟩
abbrev cX6_softFrom : ByteArray := prog_8_method_15_code
def yX6_softFrom : MethodName := ⟨RX6, "softFrom", "(I)I"⟩
abbrev cX6_swings : ByteArray := prog_8_method_16_code
def yX6_swings : MethodName := ⟨RX6, "swings", "()I"⟩
abbrev cX6_isShown : ByteArray := prog_8_method_17_code
def yX6_isShown : MethodName := ⟨RX6, "isShown", "(LRingHand$Scene;I)Z"⟩
abbrev cX6_shown : ByteArray := prog_8_method_18_code
def yX6_shown : MethodName := ⟨RX6, "shown", "(LRingHand$Scene;)I"⟩
abbrev cX6_turned : ByteArray := prog_8_method_19_code
def yX6_turned : MethodName := ⟨RX6, "turned", "()I"⟩
def RX7 : String := "RingHand$Word"
def TX7 : u_T := fun k => match k with
  | _ => ("", "", "", false)
def tyX7 : Nat → FieldType := fun k => match k with
  | _ => .int
abbrev wsX70 : List Cond := u_ws RX7 TX7 0
theorem nmX7 : ∀ a, a < 0 → ∀ b, b < 0 → a ≠ b → (TX7 a).2.1 ≠ (TX7 b).2.1 := by decide +kernel
theorem tyX7_ok : ∀ k, k < 0 → parseFieldDescriptor (TX7 k).2.2.1 = some (tyX7 k) := by decide +kernel
abbrev cX7_isOn : ByteArray := prog_9_method_4_code
def yX7_isOn : MethodName := ⟨RX7, "isOn", "([III)Z"⟩
def RX8 : String := "RingHand"
def TX8 : u_T := fun k => match k with
  | 0 => ("RingHand", "tape", "[I", true)
  | 1 => ("RingHand", "tapeLength", "I", false)
  | 2 => ("RingHand", "reader", "LRingHand$Reader;", true)
  | 3 => ("RingHand", "scene", "LRingHand$Scene;", false)
  | 4 => ("RingHand", "draft", "LRingHand$Scene;", false)
  | 5 => ("RingHand", "setup", "LRingHand$Setup;", true)
  | 6 => ("RingHand", "image", "LRingHand$Setup;", true)
  | 7 => ("RingHand", "imaged", "Z", false)
  | 8 => ("RingHand", "trial", "LRingHand$Trial;", true)
  | 9 => ("RingHand", "fresh", "Z", false)
  | 10 => ("RingHand", "chalk", "LRingHand$Chalk;", true)
  | 11 => ("RingHand", "faultPlace", "I", false)
  | _ => ("RingHand", "refused", "[I", true)
def tyX8 : Nat → FieldType := fun k => match k with
  | 0 => .array .int
  | 1 => .int
  | 2 => .object "RingHand$Reader"
  | 3 => .object "RingHand$Scene"
  | 4 => .object "RingHand$Scene"
  | 5 => .object "RingHand$Setup"
  | 6 => .object "RingHand$Setup"
  | 7 => .boolean
  | 8 => .object "RingHand$Trial"
  | 9 => .boolean
  | 10 => .object "RingHand$Chalk"
  | 11 => .int
  | _ => .array .int
abbrev wsX80 : List Cond := u_ws RX8 TX8 13
theorem nmX8 : ∀ a, a < 13 → ∀ b, b < 13 → a ≠ b → (TX8 a).2.1 ≠ (TX8 b).2.1 := by decide +kernel
theorem tyX8_ok : ∀ k, k < 13 → parseFieldDescriptor (TX8 k).2.2.1 = some (tyX8 k) := by decide +kernel
abbrev cX8_init : ByteArray := prog_1_method_1_code
def yX8_init : MethodName := ⟨RX8, "<init>", "()V"⟩
abbrev cX8_feed : ByteArray := prog_1_method_2_code
def yX8_feed : MethodName := ⟨RX8, "feed", "(IIIII)I"⟩
abbrev cX8_addBytes : ByteArray := prog_1_method_3_code
def yX8_addBytes : MethodName := ⟨RX8, "addBytes", "(I)V"⟩
abbrev cX8_scene : ByteArray := prog_1_method_4_code
def yX8_scene : MethodName := ⟨RX8, "scene", "(I)I"⟩
abbrev cX8_fault : ByteArray := prog_1_method_5_code
def yX8_fault : MethodName := ⟨RX8, "fault", "()I"⟩
abbrev cX8_count : ByteArray := prog_1_method_6_code
def yX8_count : MethodName := ⟨RX8, "count", "(I)I"⟩
abbrev cX8_mark : ByteArray := prog_1_method_7_code
def yX8_mark : MethodName := ⟨RX8, "mark", "(I)I"⟩
abbrev cX8_isMark : ByteArray := prog_1_method_8_code
def yX8_isMark : MethodName := ⟨RX8, "isMark", "(I)Z"⟩
abbrev cX8_inches : ByteArray := prog_1_method_9_code
def yX8_inches : MethodName := ⟨RX8, "inches", "(II)I"⟩
abbrev cX8_isTenth : ByteArray := prog_1_method_10_code
def yX8_isTenth : MethodName := ⟨RX8, "isTenth", "(I)Z"⟩
abbrev cX8_turn : ByteArray := prog_1_method_11_code
def yX8_turn : MethodName := ⟨RX8, "turn", "(I)I"⟩
abbrev cX8_isInches : ByteArray := prog_1_method_12_code
def yX8_isInches : MethodName := ⟨RX8, "isInches", "(I)Z"⟩
abbrev cX8_tenth : ByteArray := prog_1_method_13_code
def yX8_tenth : MethodName := ⟨RX8, "tenth", "(II)I"⟩
abbrev cX8_walkAsSet : ByteArray := prog_1_method_14_code
def yX8_walkAsSet : MethodName := ⟨RX8, "walkAsSet", "()V"⟩
abbrev cX8_takeSettings : ByteArray := prog_1_method_15_code
def yX8_takeSettings : MethodName := ⟨RX8, "takeSettings", "()V"⟩
abbrev cX8_sharpAsTried : ByteArray := prog_1_method_16_code
def yX8_sharpAsTried : MethodName := ⟨RX8, "sharpAsTried", "()I"⟩
abbrev cX8_all : ByteArray := prog_1_method_17_code
def yX8_all : MethodName := ⟨RX8, "all", "(I)I"⟩
abbrev cX8_hole : ByteArray := prog_1_method_18_code
def yX8_hole : MethodName := ⟨RX8, "hole", "(I)I"⟩
abbrev cX8_lag : ByteArray := prog_1_method_19_code
def yX8_lag : MethodName := ⟨RX8, "lag", "(I)I"⟩
abbrev cX8_wrist : ByteArray := prog_1_method_20_code
def yX8_wrist : MethodName := ⟨RX8, "wrist", "(I)I"⟩
abbrev cX8_eye : ByteArray := prog_1_method_21_code
def yX8_eye : MethodName := ⟨RX8, "eye", "(I)I"⟩
abbrev cX8_hand : ByteArray := prog_1_method_22_code
def yX8_hand : MethodName := ⟨RX8, "hand", "(I)Z"⟩
abbrev cX8_behind : ByteArray := prog_1_method_23_code
def yX8_behind : MethodName := ⟨RX8, "behind", "(I)I"⟩
abbrev cX8_chalk : ByteArray := prog_1_method_24_code
def yX8_chalk : MethodName := ⟨RX8, "chalk", "(II)I"⟩
abbrev cX8_set : ByteArray := prog_1_method_25_code
def yX8_set : MethodName := ⟨RX8, "set", "(IIZI)I"⟩
abbrev cX8_undo : ByteArray := prog_1_method_26_code
def yX8_undo : MethodName := ⟨RX8, "undo", "()I"⟩
abbrev cX8_best : ByteArray := prog_1_method_27_code
def yX8_best : MethodName := ⟨RX8, "best", "(I)I"⟩
abbrev cX8_foretell : ByteArray := prog_1_method_28_code
def yX8_foretell : MethodName := ⟨RX8, "foretell", "(I)I"⟩
abbrev cX8_outward : ByteArray := prog_1_method_29_code
def yX8_outward : MethodName := ⟨RX8, "outward", "(I)I"⟩
abbrev cX8_holes : ByteArray := prog_1_method_30_code
def yX8_holes : MethodName := ⟨RX8, "holes", "(I)I"⟩
abbrev cX8_light : ByteArray := prog_1_method_31_code
def yX8_light : MethodName := ⟨RX8, "light", "(II)I"⟩
abbrev cX8_both : ByteArray := prog_1_method_32_code
def yX8_both : MethodName := ⟨RX8, "both", "()I"⟩
abbrev cX8_marks : ByteArray := prog_1_method_33_code
def yX8_marks : MethodName := ⟨RX8, "marks", "(I)I"⟩
abbrev cX8_kept : ByteArray := prog_1_method_34_code
def yX8_kept : MethodName := ⟨RX8, "kept", "(I)I"⟩
abbrev cX8_takes : ByteArray := prog_1_method_35_code
def yX8_takes : MethodName := ⟨RX8, "takes", "(IIIII)I"⟩
abbrev cX8_sharpLate : ByteArray := prog_1_method_36_code
def yX8_sharpLate : MethodName := ⟨RX8, "sharpLate", "(I)I"⟩
abbrev cX8_see : ByteArray := prog_1_method_37_code
def yX8_see : MethodName := ⟨RX8, "see", "(IZ)I"⟩
abbrev cX8_fits : ByteArray := prog_1_method_38_code
def yX8_fits : MethodName := ⟨RX8, "fits", "(I)I"⟩
abbrev cX8_fitsFilm : ByteArray := prog_1_method_39_code
def yX8_fitsFilm : MethodName := ⟨RX8, "fitsFilm", "(II)Z"⟩
abbrev cX8_book : ByteArray := prog_1_method_40_code
def yX8_book : MethodName := ⟨RX8, "book", "(I)I"⟩
abbrev cX8_next : ByteArray := prog_1_method_41_code
def yX8_next : MethodName := ⟨RX8, "next", "(II)I"⟩
abbrev cX8_middle : ByteArray := prog_1_method_42_code
def yX8_middle : MethodName := ⟨RX8, "middle", "(I)I"⟩
abbrev cX8_partOf : ByteArray := prog_1_method_43_code
def yX8_partOf : MethodName := ⟨RX8, "partOf", "(III)I"⟩
abbrev cX8_commonOf : ByteArray := prog_1_method_44_code
def yX8_commonOf : MethodName := ⟨RX8, "commonOf", "(II)I"⟩
abbrev cX8_forget : ByteArray := prog_1_method_45_code
def yX8_forget : MethodName := ⟨RX8, "forget", "()V"⟩
abbrev cX8_runs : ByteArray := prog_1_method_46_code
def yX8_runs : MethodName := ⟨RX8, "runs", "(II)I"⟩
abbrev cX8_cure : ByteArray := prog_1_method_47_code
def yX8_cure : MethodName := ⟨RX8, "cure", "()I"⟩
abbrev cX8_wrists : ByteArray := prog_1_method_48_code
def yX8_wrists : MethodName := ⟨RX8, "wrists", "()I"⟩
abbrev cX8_learn : ByteArray := prog_1_method_49_code
def yX8_learn : MethodName := ⟨RX8, "learn", "()I"⟩
abbrev cX8_shift : ByteArray := prog_1_method_50_code
def yX8_shift : MethodName := ⟨RX8, "shift", "(I)I"⟩
abbrev cX8_slip : ByteArray := prog_1_method_51_code
def yX8_slip : MethodName := ⟨RX8, "slip", "(I)I"⟩
abbrev cX8_lags : ByteArray := prog_1_method_52_code
def yX8_lags : MethodName := ⟨RX8, "lags", "(I)I"⟩
abbrev cX8_depth : ByteArray := prog_1_method_53_code
def yX8_depth : MethodName := ⟨RX8, "depth", "(II)I"⟩
abbrev cX8_shots : ByteArray := prog_1_method_54_code
def yX8_shots : MethodName := ⟨RX8, "shots", "(I)I"⟩
abbrev cX8_quickest : ByteArray := prog_1_method_55_code
def yX8_quickest : MethodName := ⟨RX8, "quickest", "(I)I"⟩
abbrev cX8_image : ByteArray := prog_1_method_56_code
def yX8_image : MethodName := ⟨RX8, "image", "()V"⟩
abbrev cX8_restore : ByteArray := prog_1_method_57_code
def yX8_restore : MethodName := ⟨RX8, "restore", "()Z"⟩
abbrev cX8_within : ByteArray := prog_1_method_58_code
def yX8_within : MethodName := ⟨RX8, "within", "(III)I"⟩
abbrev cX8_isNearMark : ByteArray := prog_1_method_59_code
def yX8_isNearMark : MethodName := ⟨RX8, "isNearMark", "([IIII)Z"⟩
def RX9 : String := "RingHandModel"
def TX9 : u_T := fun k => match k with
  | 0 => ("RingHandModel", "thrown", "I", false)
  | 1 => ("RingHandModel", "begins", "I", false)
  | 2 => ("RingHandModel", "moves", "I", false)
  | 3 => ("RingHandModel", "changes", "I", false)
  | 4 => ("RingHandModel", "marks", "I", false)
  | 5 => ("RingHandModel", "hands", "I", false)
  | 6 => ("RingHandModel", "ringAt", "I", false)
  | 7 => ("RingHandModel", "showsAt", "I", false)
  | 8 => ("RingHandModel", "goal", "[I", true)
  | 9 => ("RingHandModel", "lasts", "[I", true)
  | 10 => ("RingHandModel", "changeIn", "[I", true)
  | 11 => ("RingHandModel", "changeTo", "[I", true)
  | 12 => ("RingHandModel", "handAt", "[I", true)
  | 13 => ("RingHandModel", "code", "[I", true)
  | 14 => ("RingHandModel", "tape", "[I", true)
  | 15 => ("RingHandModel", "taped", "I", false)
  | 16 => ("RingHandModel", "faultKind", "I", false)
  | 17 => ("RingHandModel", "faultPlace", "I", false)
  | 18 => ("RingHandModel", "refused", "[I", true)
  | 19 => ("RingHandModel", "long1", "I", false)
  | 20 => ("RingHandModel", "next", "I", false)
  | 21 => ("RingHandModel", "sort", "I", false)
  | 22 => ("RingHandModel", "place", "I", false)
  | 23 => ("RingHandModel", "long0", "I", false)
  | 24 => ("RingHandModel", "value", "I", false)
  | 25 => ("RingHandModel", "sign", "I", false)
  | 26 => ("RingHandModel", "word", "J", false)
  | 27 => ("RingHandModel", "newBegins", "I", false)
  | 28 => ("RingHandModel", "newMoves", "I", false)
  | 29 => ("RingHandModel", "newChanges", "I", false)
  | 30 => ("RingHandModel", "newMarks", "I", false)
  | 31 => ("RingHandModel", "newHands", "I", false)
  | 32 => ("RingHandModel", "newRingAt", "I", false)
  | 33 => ("RingHandModel", "newShowsAt", "I", false)
  | 34 => ("RingHandModel", "newTenths", "I", false)
  | 35 => ("RingHandModel", "newAt", "I", false)
  | 36 => ("RingHandModel", "newWhose", "I", false)
  | 37 => ("RingHandModel", "toldOnce", "I", false)
  | 38 => ("RingHandModel", "firstValue", "I", false)
  | 39 => ("RingHandModel", "lastValue", "I", false)
  | 40 => ("RingHandModel", "top", "I", false)
  | 41 => ("RingHandModel", "waiting", "I", false)
  | 42 => ("RingHandModel", "depth", "I", false)
  | 43 => ("RingHandModel", "newGoal", "[I", true)
  | 44 => ("RingHandModel", "newLasts", "[I", true)
  | 45 => ("RingHandModel", "newChangeIn", "[I", true)
  | 46 => ("RingHandModel", "newChangeTo", "[I", true)
  | 47 => ("RingHandModel", "newMark", "[I", true)
  | 48 => ("RingHandModel", "newSet", "[I", true)
  | 49 => ("RingHandModel", "newHandAt", "[I", true)
  | 50 => ("RingHandModel", "readCode", "[I", true)
  | 51 => ("RingHandModel", "waits", "[I", true)
  | 52 => ("RingHandModel", "tested", "[Z", true)
  | 53 => ("RingHandModel", "now", "[I", true)
  | 54 => ("RingHandModel", "then", "[I", true)
  | 55 => ("RingHandModel", "act", "[I", true)
  | 56 => ("RingHandModel", "acts", "I", false)
  | 57 => ("RingHandModel", "told", "[I", true)
  | 58 => ("RingHandModel", "pile", "[I", true)
  | 59 => ("RingHandModel", "late", "I", false)
  | 60 => ("RingHandModel", "shifted", "I", false)
  | 61 => ("RingHandModel", "seenTurn", "[I", true)
  | 62 => ("RingHandModel", "ring", "[I", true)
  | 63 => ("RingHandModel", "offIn", "[I", true)
  | 64 => ("RingHandModel", "foretold", "I", false)
  | 65 => ("RingHandModel", "runMany", "I", false)
  | 66 => ("RingHandModel", "runAt", "I", false)
  | 67 => ("RingHandModel", "runLong", "I", false)
  | 68 => ("RingHandModel", "keptMany", "I", false)
  | 69 => ("RingHandModel", "spots", "I", false)
  | 70 => ("RingHandModel", "keptMark", "[I", true)
  | 71 => ("RingHandModel", "spot", "[I", true)
  | 72 => ("RingHandModel", "tried", "[I", true)
  | 73 => ("RingHandModel", "its", "I", false)
  | 74 => ("RingHandModel", "seenMany", "I", false)
  | 75 => ("RingHandModel", "seen", "[I", true)
  | 76 => ("RingHandModel", "bookMany", "I", false)
  | 77 => ("RingHandModel", "book", "[I", true)
  | 78 => ("RingHandModel", "hasImage", "Z", false)
  | 79 => ("RingHandModel", "imageActs", "I", false)
  | 80 => ("RingHandModel", "imageSeen", "I", false)
  | 81 => ("RingHandModel", "imageMany", "I", false)
  | 82 => ("RingHandModel", "imageNow", "[I", true)
  | 83 => ("RingHandModel", "imageAct", "[I", true)
  | 84 => ("RingHandModel", "imageSees", "[I", true)
  | _ => ("RingHandModel", "imageBook", "[I", true)
def tyX9 : Nat → FieldType := fun k => match k with
  | 0 => .int
  | 1 => .int
  | 2 => .int
  | 3 => .int
  | 4 => .int
  | 5 => .int
  | 6 => .int
  | 7 => .int
  | 8 => .array .int
  | 9 => .array .int
  | 10 => .array .int
  | 11 => .array .int
  | 12 => .array .int
  | 13 => .array .int
  | 14 => .array .int
  | 15 => .int
  | 16 => .int
  | 17 => .int
  | 18 => .array .int
  | 19 => .int
  | 20 => .int
  | 21 => .int
  | 22 => .int
  | 23 => .int
  | 24 => .int
  | 25 => .int
  | 26 => .long
  | 27 => .int
  | 28 => .int
  | 29 => .int
  | 30 => .int
  | 31 => .int
  | 32 => .int
  | 33 => .int
  | 34 => .int
  | 35 => .int
  | 36 => .int
  | 37 => .int
  | 38 => .int
  | 39 => .int
  | 40 => .int
  | 41 => .int
  | 42 => .int
  | 43 => .array .int
  | 44 => .array .int
  | 45 => .array .int
  | 46 => .array .int
  | 47 => .array .int
  | 48 => .array .int
  | 49 => .array .int
  | 50 => .array .int
  | 51 => .array .int
  | 52 => .array .boolean
  | 53 => .array .int
  | 54 => .array .int
  | 55 => .array .int
  | 56 => .int
  | 57 => .array .int
  | 58 => .array .int
  | 59 => .int
  | 60 => .int
  | 61 => .array .int
  | 62 => .array .int
  | 63 => .array .int
  | 64 => .int
  | 65 => .int
  | 66 => .int
  | 67 => .int
  | 68 => .int
  | 69 => .int
  | 70 => .array .int
  | 71 => .array .int
  | 72 => .array .int
  | 73 => .int
  | 74 => .int
  | 75 => .array .int
  | 76 => .int
  | 77 => .array .int
  | 78 => .boolean
  | 79 => .int
  | 80 => .int
  | 81 => .int
  | 82 => .array .int
  | 83 => .array .int
  | 84 => .array .int
  | _ => .array .int
abbrev wsX90 : List Cond := u_ws RX9 TX9 86
theorem nmX9 : ∀ a, a < 86 → ∀ b, b < 86 → a ≠ b → (TX9 a).2.1 ≠ (TX9 b).2.1 := by decide +kernel
theorem tyX9_ok : ∀ k, k < 86 → parseFieldDescriptor (TX9 k).2.2.1 = some (tyX9 k) := by decide +kernel
abbrev cX9_init : ByteArray := prog_11_method_1_code
def yX9_init : MethodName := ⟨RX9, "<init>", "()V"⟩
abbrev cX9_thrown : ByteArray := prog_11_method_2_code
def yX9_thrown : MethodName := ⟨RX9, "thrown", "()I"⟩
abbrev cX9_right : ByteArray := prog_11_method_3_code
def yX9_right : MethodName := ⟨RX9, "right", "(ZI)Z"⟩
abbrev cX9_within : ByteArray := prog_11_method_4_code
def yX9_within : MethodName := ⟨RX9, "within", "(III)Z"⟩
abbrev cX9_off : ByteArray := prog_11_method_5_code
def yX9_off : MethodName := ⟨RX9, "off", "(II)I"⟩
abbrev cX9_copies : ByteArray := prog_11_method_6_code
def yX9_copies : MethodName := ⟨RX9, "copies", "([I[I)V"⟩
abbrev cX9_bounded : ByteArray := prog_11_method_7_code
def yX9_bounded : MethodName := ⟨RX9, "bounded", "(III)I"⟩
abbrev cX9_feed : ByteArray := prog_11_method_8_code
def yX9_feed : MethodName := ⟨RX9, "feed", "(IIIII)I"⟩
abbrev cX9_lays : ByteArray := prog_11_method_9_code
def yX9_lays : MethodName := ⟨RX9, "lays", "(I)V"⟩
abbrev cX9_byteAt : ByteArray := prog_11_method_10_code
def yX9_byteAt : MethodName := ⟨RX9, "byteAt", "(I)I"⟩
abbrev cX9_isLetter : ByteArray := prog_11_method_11_code
def yX9_isLetter : MethodName := ⟨RX9, "isLetter", "(I)Z"⟩
abbrev cX9_isDigit : ByteArray := prog_11_method_12_code
def yX9_isDigit : MethodName := ⟨RX9, "isDigit", "(I)Z"⟩
abbrev cX9_goes : ByteArray := prog_11_method_13_code
def yX9_goes : MethodName := ⟨RX9, "goes", "()V"⟩
abbrev cX9_spelled : ByteArray := prog_11_method_14_code
def yX9_spelled : MethodName := ⟨RX9, "spelled", "(IIIIII)J"⟩
abbrev cX9_letters : ByteArray := prog_11_method_15_code
def yX9_letters : MethodName := ⟨RX9, "letters", "(I)J"⟩
abbrev cX9_knownWord : ByteArray := prog_11_method_16_code
def yX9_knownWord : MethodName := ⟨RX9, "knownWord", "()I"⟩
abbrev cX9_wrong : ByteArray := prog_11_method_17_code
def yX9_wrong : MethodName := ⟨RX9, "wrong", "(I)V"⟩
abbrev cX9_isGood : ByteArray := prog_11_method_18_code
def yX9_isGood : MethodName := ⟨RX9, "isGood", "()Z"⟩
abbrev cX9_isSign : ByteArray := prog_11_method_19_code
def yX9_isSign : MethodName := ⟨RX9, "isSign", "(I)Z"⟩
abbrev cX9_need : ByteArray := prog_11_method_20_code
def yX9_need : MethodName := ⟨RX9, "need", "(Z)V"⟩
abbrev cX9_numberHere : ByteArray := prog_11_method_21_code
def yX9_numberHere : MethodName := ⟨RX9, "numberHere", "(II)Z"⟩
abbrev cX9_number : ByteArray := prog_11_method_22_code
def yX9_number : MethodName := ⟨RX9, "number", "(II)I"⟩
abbrev cX9_puts : ByteArray := prog_11_method_23_code
def yX9_puts : MethodName := ⟨RX9, "puts", "(I)V"⟩
abbrev cX9_isOpen : ByteArray := prog_11_method_24_code
def yX9_isOpen : MethodName := ⟨RX9, "isOpen", "(I)Z"⟩
abbrev cX9_strength : ByteArray := prog_11_method_25_code
def yX9_strength : MethodName := ⟨RX9, "strength", "(I)I"⟩
abbrev cX9_drops : ByteArray := prog_11_method_26_code
def yX9_drops : MethodName := ⟨RX9, "drops", "(I)V"⟩
abbrev cX9_waitsFor : ByteArray := prog_11_method_27_code
def yX9_waitsFor : MethodName := ⟨RX9, "waitsFor", "(I)V"⟩
abbrev cX9_part : ByteArray := prog_11_method_28_code
def yX9_part : MethodName := ⟨RX9, "part", "()V"⟩
abbrev cX9_deeper : ByteArray := prog_11_method_29_code
def yX9_deeper : MethodName := ⟨RX9, "deeper", "()V"⟩
abbrev cX9_operand : ByteArray := prog_11_method_30_code
def yX9_operand : MethodName := ⟨RX9, "operand", "(Z)V"⟩
abbrev cX9_isOpened : ByteArray := prog_11_method_31_code
def yX9_isOpened : MethodName := ⟨RX9, "isOpened", "()Z"⟩
abbrev cX9_closes : ByteArray := prog_11_method_32_code
def yX9_closes : MethodName := ⟨RX9, "closes", "()V"⟩
abbrev cX9_expression : ByteArray := prog_11_method_33_code
def yX9_expression : MethodName := ⟨RX9, "expression", "(II)V"⟩
abbrev cX9_once : ByteArray := prog_11_method_34_code
def yX9_once : MethodName := ⟨RX9, "once", "(I)Z"⟩
abbrev cX9_readsMove : ByteArray := prog_11_method_35_code
def yX9_readsMove : MethodName := ⟨RX9, "readsMove", "(Z)V"⟩
abbrev cX9_readsChange : ByteArray := prog_11_method_36_code
def yX9_readsChange : MethodName := ⟨RX9, "readsChange", "(I)V"⟩
abbrev cX9_readsMark : ByteArray := prog_11_method_37_code
def yX9_readsMark : MethodName := ⟨RX9, "readsMark", "()V"⟩
abbrev cX9_readsRule : ByteArray := prog_11_method_38_code
def yX9_readsRule : MethodName := ⟨RX9, "readsRule", "(I)V"⟩
abbrev cX9_line : ByteArray := prog_11_method_39_code
def yX9_line : MethodName := ⟨RX9, "line", "()V"⟩
abbrev cX9_forgetsText : ByteArray := prog_11_method_40_code
def yX9_forgetsText : MethodName := ⟨RX9, "forgetsText", "()V"⟩
abbrev cX9_scene : ByteArray := prog_11_method_41_code
def yX9_scene : MethodName := ⟨RX9, "scene", "(I)I"⟩
abbrev cX9_fault : ByteArray := prog_11_method_42_code
def yX9_fault : MethodName := ⟨RX9, "fault", "()I"⟩
abbrev cX9_refuses : ByteArray := prog_11_method_43_code
def yX9_refuses : MethodName := ⟨RX9, "refuses", "(II)I"⟩
abbrev cX9_becomes : ByteArray := prog_11_method_44_code
def yX9_becomes : MethodName := ⟨RX9, "becomes", "(II)I"⟩
abbrev cX9_undo : ByteArray := prog_11_method_45_code
def yX9_undo : MethodName := ⟨RX9, "undo", "()I"⟩
abbrev cX9_works : ByteArray := prog_11_method_46_code
def yX9_works : MethodName := ⟨RX9, "works", "(III)I"⟩
abbrev cX9_reckons : ByteArray := prog_11_method_47_code
def yX9_reckons : MethodName := ⟨RX9, "reckons", "(I)I"⟩
abbrev cX9_last : ByteArray := prog_11_method_48_code
def yX9_last : MethodName := ⟨RX9, "last", "()I"⟩
abbrev cX9_herIn : ByteArray := prog_11_method_49_code
def yX9_herIn : MethodName := ⟨RX9, "herIn", "(I)I"⟩
abbrev cX9_inchesOf : ByteArray := prog_11_method_50_code
def yX9_inchesOf : MethodName := ⟨RX9, "inchesOf", "(II)I"⟩
abbrev cX9_whoseBy : ByteArray := prog_11_method_51_code
def yX9_whoseBy : MethodName := ⟨RX9, "whoseBy", "(II)I"⟩
abbrev cX9_whoseIn : ByteArray := prog_11_method_52_code
def yX9_whoseIn : MethodName := ⟨RX9, "whoseIn", "(I)I"⟩
abbrev cX9_turnOf : ByteArray := prog_11_method_53_code
def yX9_turnOf : MethodName := ⟨RX9, "turnOf", "(I)I"⟩
abbrev cX9_isByMark : ByteArray := prog_11_method_54_code
def yX9_isByMark : MethodName := ⟨RX9, "isByMark", "(I)Z"⟩
abbrev cX9_judged : ByteArray := prog_11_method_55_code
def yX9_judged : MethodName := ⟨RX9, "judged", "(I)I"⟩
abbrev cX9_sawAt : ByteArray := prog_11_method_56_code
def yX9_sawAt : MethodName := ⟨RX9, "sawAt", "(I)I"⟩
abbrev cX9_shouldBe : ByteArray := prog_11_method_57_code
def yX9_shouldBe : MethodName := ⟨RX9, "shouldBe", "(I)I"⟩
abbrev cX9_goesThrough : ByteArray := prog_11_method_58_code
def yX9_goesThrough : MethodName := ⟨RX9, "goesThrough", "()V"⟩
abbrev cX9_isSharp : ByteArray := prog_11_method_59_code
def yX9_isSharp : MethodName := ⟨RX9, "isSharp", "(I)Z"⟩
abbrev cX9_sharpMany : ByteArray := prog_11_method_60_code
def yX9_sharpMany : MethodName := ⟨RX9, "sharpMany", "()I"⟩
abbrev cX9_takesSharp : ByteArray := prog_11_method_61_code
def yX9_takesSharp : MethodName := ⟨RX9, "takesSharp", "()I"⟩
abbrev cX9_mostOff : ByteArray := prog_11_method_62_code
def yX9_mostOff : MethodName := ⟨RX9, "mostOff", "()I"⟩
abbrev cX9_isShown : ByteArray := prog_11_method_63_code
def yX9_isShown : MethodName := ⟨RX9, "isShown", "(I)Z"⟩
abbrev cX9_count : ByteArray := prog_11_method_64_code
def yX9_count : MethodName := ⟨RX9, "count", "(I)I"⟩
abbrev cX9_mark : ByteArray := prog_11_method_65_code
def yX9_mark : MethodName := ⟨RX9, "mark", "(I)I"⟩
abbrev cX9_isTenth : ByteArray := prog_11_method_66_code
def yX9_isTenth : MethodName := ⟨RX9, "isTenth", "(I)Z"⟩
abbrev cX9_isWhat : ByteArray := prog_11_method_67_code
def yX9_isWhat : MethodName := ⟨RX9, "isWhat", "(II)Z"⟩
abbrev cX9_inches : ByteArray := prog_11_method_68_code
def yX9_inches : MethodName := ⟨RX9, "inches", "(II)I"⟩
abbrev cX9_turn : ByteArray := prog_11_method_69_code
def yX9_turn : MethodName := ⟨RX9, "turn", "(I)I"⟩
abbrev cX9_tenth : ByteArray := prog_11_method_70_code
def yX9_tenth : MethodName := ⟨RX9, "tenth", "(II)I"⟩
abbrev cX9_longestSoft : ByteArray := prog_11_method_71_code
def yX9_longestSoft : MethodName := ⟨RX9, "longestSoft", "()I"⟩
abbrev cX9_firstSoft : ByteArray := prog_11_method_72_code
def yX9_firstSoft : MethodName := ⟨RX9, "firstSoft", "()I"⟩
abbrev cX9_swings : ByteArray := prog_11_method_73_code
def yX9_swings : MethodName := ⟨RX9, "swings", "()I"⟩
abbrev cX9_all : ByteArray := prog_11_method_74_code
def yX9_all : MethodName := ⟨RX9, "all", "(I)I"⟩
abbrev cX9_hole : ByteArray := prog_11_method_75_code
def yX9_hole : MethodName := ⟨RX9, "hole", "(I)I"⟩
abbrev cX9_lag : ByteArray := prog_11_method_76_code
def yX9_lag : MethodName := ⟨RX9, "lag", "(I)I"⟩
abbrev cX9_wrist : ByteArray := prog_11_method_77_code
def yX9_wrist : MethodName := ⟨RX9, "wrist", "(I)I"⟩
abbrev cX9_eye : ByteArray := prog_11_method_78_code
def yX9_eye : MethodName := ⟨RX9, "eye", "(I)I"⟩
abbrev cX9_hand : ByteArray := prog_11_method_79_code
def yX9_hand : MethodName := ⟨RX9, "hand", "(I)Z"⟩
abbrev cX9_behind : ByteArray := prog_11_method_80_code
def yX9_behind : MethodName := ⟨RX9, "behind", "(I)I"⟩
abbrev cX9_chalk : ByteArray := prog_11_method_81_code
def yX9_chalk : MethodName := ⟨RX9, "chalk", "(II)I"⟩
abbrev cX9_best : ByteArray := prog_11_method_82_code
def yX9_best : MethodName := ⟨RX9, "best", "(I)I"⟩
abbrev cX9_foretell : ByteArray := prog_11_method_83_code
def yX9_foretell : MethodName := ⟨RX9, "foretell", "(I)I"⟩
abbrev cX9_findsRun : ByteArray := prog_11_method_84_code
def yX9_findsRun : MethodName := ⟨RX9, "findsRun", "(I)V"⟩
abbrev cX9_runs : ByteArray := prog_11_method_85_code
def yX9_runs : MethodName := ⟨RX9, "runs", "(II)I"⟩
abbrev cX9_sharpWith : ByteArray := prog_11_method_86_code
def yX9_sharpWith : MethodName := ⟨RX9, "sharpWith", "(II)I"⟩
abbrev cX9_cure : ByteArray := prog_11_method_87_code
def yX9_cure : MethodName := ⟨RX9, "cure", "()I"⟩
abbrev cX9_wrists : ByteArray := prog_11_method_88_code
def yX9_wrists : MethodName := ⟨RX9, "wrists", "()I"⟩
abbrev cX9_learn : ByteArray := prog_11_method_89_code
def yX9_learn : MethodName := ⟨RX9, "learn", "()I"⟩
abbrev cX9_shift : ByteArray := prog_11_method_90_code
def yX9_shift : MethodName := ⟨RX9, "shift", "(I)I"⟩
abbrev cX9_slip : ByteArray := prog_11_method_91_code
def yX9_slip : MethodName := ⟨RX9, "slip", "(I)I"⟩
abbrev cX9_lags : ByteArray := prog_11_method_92_code
def yX9_lags : MethodName := ⟨RX9, "lags", "(I)I"⟩
abbrev cX9_depth : ByteArray := prog_11_method_93_code
def yX9_depth : MethodName := ⟨RX9, "depth", "(II)I"⟩
abbrev cX9_shots : ByteArray := prog_11_method_94_code
def yX9_shots : MethodName := ⟨RX9, "shots", "(I)I"⟩
abbrev cX9_quickest : ByteArray := prog_11_method_95_code
def yX9_quickest : MethodName := ⟨RX9, "quickest", "(I)I"⟩
abbrev cX9_holes : ByteArray := prog_11_method_96_code
def yX9_holes : MethodName := ⟨RX9, "holes", "(I)I"⟩
abbrev cX9_light : ByteArray := prog_11_method_97_code
def yX9_light : MethodName := ⟨RX9, "light", "(II)I"⟩
abbrev cX9_both : ByteArray := prog_11_method_98_code
def yX9_both : MethodName := ⟨RX9, "both", "()I"⟩
abbrev cX9_addsSpot : ByteArray := prog_11_method_99_code
def yX9_addsSpot : MethodName := ⟨RX9, "addsSpot", "(I)V"⟩
abbrev cX9_nextNumbers : ByteArray := prog_11_method_100_code
def yX9_nextNumbers : MethodName := ⟨RX9, "nextNumbers", "(I)Z"⟩
abbrev cX9_marks : ByteArray := prog_11_method_101_code
def yX9_marks : MethodName := ⟨RX9, "marks", "(I)I"⟩
abbrev cX9_kept : ByteArray := prog_11_method_102_code
def yX9_kept : MethodName := ⟨RX9, "kept", "(I)I"⟩
abbrev cX9_draw : ByteArray := prog_11_method_103_code
def yX9_draw : MethodName := ⟨RX9, "draw", "(I)I"⟩
abbrev cX9_takes : ByteArray := prog_11_method_104_code
def yX9_takes : MethodName := ⟨RX9, "takes", "(IIIII)I"⟩
abbrev cX9_see : ByteArray := prog_11_method_105_code
def yX9_see : MethodName := ⟨RX9, "see", "(IZ)I"⟩
abbrev cX9_isAsSeen : ByteArray := prog_11_method_106_code
def yX9_isAsSeen : MethodName := ⟨RX9, "isAsSeen", "()Z"⟩
abbrev cX9_fits : ByteArray := prog_11_method_107_code
def yX9_fits : MethodName := ⟨RX9, "fits", "(I)I"⟩
abbrev cX9_book : ByteArray := prog_11_method_108_code
def yX9_book : MethodName := ⟨RX9, "book", "(I)I"⟩
abbrev cX9_portion : ByteArray := prog_11_method_109_code
def yX9_portion : MethodName := ⟨RX9, "portion", "(III)I"⟩
abbrev cX9_next : ByteArray := prog_11_method_110_code
def yX9_next : MethodName := ⟨RX9, "next", "(II)I"⟩
abbrev cX9_middle : ByteArray := prog_11_method_111_code
def yX9_middle : MethodName := ⟨RX9, "middle", "(I)I"⟩
abbrev cX9_forget : ByteArray := prog_11_method_112_code
def yX9_forget : MethodName := ⟨RX9, "forget", "()V"⟩
abbrev cX9_image : ByteArray := prog_11_method_113_code
def yX9_image : MethodName := ⟨RX9, "image", "()V"⟩
abbrev cX9_restore : ByteArray := prog_11_method_114_code
def yX9_restore : MethodName := ⟨RX9, "restore", "()Z"⟩
def RL : String := "RingHandLaw"
abbrev cL_scene : ByteArray := method_3_code
def yL_scene : MethodName := ⟨RL, "scene", "(LRingHand;I[J)I"⟩
abbrev cL_count : ByteArray := method_4_code
def yL_count : MethodName := ⟨RL, "count", "(LRingHand;I[J)I"⟩
abbrev cL_mark : ByteArray := method_5_code
def yL_mark : MethodName := ⟨RL, "mark", "(LRingHand;I[J)I"⟩
abbrev cL_inches : ByteArray := method_6_code
def yL_inches : MethodName := ⟨RL, "inches", "(LRingHand;II[J)I"⟩
abbrev cL_turn : ByteArray := method_7_code
def yL_turn : MethodName := ⟨RL, "turn", "(LRingHand;I[J)I"⟩
abbrev cL_tenth : ByteArray := method_8_code
def yL_tenth : MethodName := ⟨RL, "tenth", "(LRingHand;II[J)I"⟩
abbrev cL_all : ByteArray := method_9_code
def yL_all : MethodName := ⟨RL, "all", "(LRingHand;I[J)I"⟩
abbrev cL_chalk : ByteArray := method_10_code
def yL_chalk : MethodName := ⟨RL, "chalk", "(LRingHand;II[J)I"⟩
abbrev cL_best : ByteArray := method_11_code
def yL_best : MethodName := ⟨RL, "best", "(LRingHand;I[J)I"⟩
abbrev cL_foretell : ByteArray := method_12_code
def yL_foretell : MethodName := ⟨RL, "foretell", "(LRingHand;I[J)I"⟩
abbrev cL_holes : ByteArray := method_13_code
def yL_holes : MethodName := ⟨RL, "holes", "(LRingHand;I[J)I"⟩
abbrev cL_light : ByteArray := method_14_code
def yL_light : MethodName := ⟨RL, "light", "(LRingHand;II[J)I"⟩
abbrev cL_marks : ByteArray := method_15_code
def yL_marks : MethodName := ⟨RL, "marks", "(LRingHand;I[J)I"⟩
abbrev cL_kept : ByteArray := method_16_code
def yL_kept : MethodName := ⟨RL, "kept", "(LRingHand;I[J)I"⟩
abbrev cL_takes : ByteArray := method_17_code
def yL_takes : MethodName := ⟨RL, "takes", "(LRingHand;IIIII[J)I"⟩
abbrev cL_see : ByteArray := method_18_code
def yL_see : MethodName := ⟨RL, "see", "(LRingHand;IZ[J)I"⟩
abbrev cL_fits : ByteArray := method_19_code
def yL_fits : MethodName := ⟨RL, "fits", "(LRingHand;I[J)I"⟩
abbrev cL_next : ByteArray := method_20_code
def yL_next : MethodName := ⟨RL, "next", "(LRingHand;II[J)I"⟩
abbrev cL_middle : ByteArray := method_21_code
def yL_middle : MethodName := ⟨RL, "middle", "(LRingHand;I[J)I"⟩
abbrev cL_runs : ByteArray := method_22_code
def yL_runs : MethodName := ⟨RL, "runs", "(LRingHand;II[J)I"⟩
abbrev cL_shift : ByteArray := method_23_code
def yL_shift : MethodName := ⟨RL, "shift", "(LRingHand;I[J)I"⟩
abbrev cL_slip : ByteArray := method_24_code
def yL_slip : MethodName := ⟨RL, "slip", "(LRingHand;I[J)I"⟩
abbrev cL_lags : ByteArray := method_25_code
def yL_lags : MethodName := ⟨RL, "lags", "(LRingHand;I[J)I"⟩
abbrev cL_depth : ByteArray := method_26_code
def yL_depth : MethodName := ⟨RL, "depth", "(LRingHand;II[J)I"⟩
abbrev cL_shots : ByteArray := method_27_code
def yL_shots : MethodName := ⟨RL, "shots", "(LRingHand;I[J)I"⟩
abbrev cL_quickest : ByteArray := method_28_code
def yL_quickest : MethodName := ⟨RL, "quickest", "(LRingHand;I[J)I"⟩
abbrev cL_law : ByteArray := code
def yL_law : MethodName := ⟨RL, "law", "([I)Z"⟩
def CL : List vw_C := [(RX1, TX1, 5), (RX2, TX2, 8), (RX3, TX3, 6), (RX4, TX4, 14), (RX5, TX5, 9), (RX6, TX6, 10), (RX8, TX8, 13), (RX9, TX9, 86)]
def FKt : List (List Nat) := [[2, 0, 2, 2, 0], [2, 2, 2, 0, 0, 2, 0, 0], [2, 0, 2, 2, 2, 2], [0, 0, 2, 2, 0, 0, 2, 2, 0, 0, 2, 2, 2, 2], [2, 2, 2, 0, 2, 2, 0, 2, 0], [2, 0, 0, 0, 0, 0, 2, 2, 2, 2], [2, 0, 2, 2, 2, 2, 2, 0, 2, 0, 2, 0, 2], [0, 0, 0, 0, 0, 0, 0, 0, 2, 2, 2, 2, 2, 2, 2, 0, 0, 0, 2, 0, 0, 0, 0, 0, 0, 0, 1, 0, 0, 0, 0, 0, 0, 0, 0, 0, 0, 0, 0, 0, 0, 0, 0, 2, 2, 2, 2, 2, 2, 2, 2, 2, 2, 2, 2, 2, 0, 2, 2, 0, 0, 2, 2, 2, 0, 0, 0, 0, 0, 0, 2, 2, 2, 0, 0, 2, 0, 2, 0, 0, 0, 0, 2, 2, 2, 2]]
def FK : Nat → Nat → Nat := fun c k => (FKt.getD c []).getD k 0
def SH : xH := [(6, 0), (50, 700), (1, 0), (50, 701), (50, 701), (50, 701), (51, 12), (3, 0), (50, 12), (50, 12), (50, 6), (50, 6), (50, 12), (2, 0), (50, 700), (50, 6), (50, 6), (50, 64), (50, 8), (50, 601), (50, 481), (3, 0), (50, 12), (50, 12), (50, 6), (50, 6), (50, 12), (2, 0), (50, 700), (50, 6), (50, 6), (50, 64), (50, 8), (50, 601), (50, 481), (4, 0), (50, 12), (50, 40), (50, 40), (50, 8), (50, 8), (50, 16), (4, 0), (50, 12), (50, 40), (50, 40), (50, 8), (50, 8), (50, 16), (5, 0), (50, 12), (50, 601), (51, 601), (50, 601), (50, 601), (0, 0), (50, 13), (50, 3), (50, 3), (50, 3), (7, 0), (50, 12), (50, 12), (50, 6), (50, 6), (50, 4), (50, 4200), (50, 700), (50, 3), (50, 12), (50, 12), (50, 6), (50, 6), (50, 6), (50, 6), (50, 4), (50, 4200), (50, 950), (51, 9), (50, 12), (50, 12), (50, 80), (50, 8), (50, 950), (50, 601), (50, 601), (50, 601), (50, 3), (50, 13), (50, 3), (50, 16), (50, 16), (50, 12), (50, 80), (50, 16), (50, 16), (52, 1)]
def RFt : List (List (Option Nat)) := [[some 1, none, some 2, some 7, some 21, some 35, some 42, none, some 49, none, some 55, none, some 59], [], [some 3, some 4, some 5, none, none, some 6, none, none], [], [], [], [], [none, none, some 8, some 9, none, none, some 10, some 11, none, none, some 12, some 13, some 19, some 20], [], [], [], [], [], [some 14, none, some 15, some 16, some 17, some 18], [], [], [], [], [], [], [], [none, none, some 22, some 23, none, none, some 24, some 25, none, none, some 26, some 27, some 33, some 34], [], [], [], [], [], [some 28, none, some 29, some 30, some 31, some 32], [], [], [], [], [], [], [], [some 36, some 37, some 38, none, some 39, some 40, none, some 41, none], [], [], [], [], [], [], [some 43, some 44, some 45, none, some 46, some 47, none, some 48, none], [], [], [], [], [], [], [some 50, none, none, none, none, none, some 51, some 52, some 53, some 54], [], [], [], [], [], [some 56, none, some 57, some 58, none], [], [], [], [], [none, none, none, none, none, none, none, none, some 61, some 62, some 63, some 64, some 65, some 66, some 67, none, none, none, some 68, none, none, none, none, none, none, none, none, none, none, none, none, none, none, none, none, none, none, none, none, none, none, none, none, some 69, some 70, some 71, some 72, some 73, some 74, some 75, some 76, some 77, some 78, some 79, some 80, some 81, none, some 82, some 83, none, none, some 84, some 85, some 86, none, none, none, none, none, none, some 87, some 88, some 89, none, none, some 90, none, some 91, none, none, none, none, some 92, some 93, some 94, some 95], [], [], [], [], [], [], [], [], [], [], [], [], [], [], [], [], [], [], [], [], [], [], [], [], [], [], [], [], [], [], [], [], [], [], [], []]
def RF : xR := fun p k => (RFt.getD p []).getD k none
theorem sh_0 : SH[0]? = some (6, 0) := rfl
theorem sh_1 : SH[1]? = some (50, 700) := rfl
theorem sh_2 : SH[2]? = some (1, 0) := rfl
theorem sh_3 : SH[3]? = some (50, 701) := rfl
theorem sh_4 : SH[4]? = some (50, 701) := rfl
theorem sh_5 : SH[5]? = some (50, 701) := rfl
theorem sh_6 : SH[6]? = some (51, 12) := rfl
theorem sh_7 : SH[7]? = some (3, 0) := rfl
theorem sh_8 : SH[8]? = some (50, 12) := rfl
theorem sh_9 : SH[9]? = some (50, 12) := rfl
theorem sh_10 : SH[10]? = some (50, 6) := rfl
theorem sh_11 : SH[11]? = some (50, 6) := rfl
theorem sh_12 : SH[12]? = some (50, 12) := rfl
theorem sh_13 : SH[13]? = some (2, 0) := rfl
theorem sh_14 : SH[14]? = some (50, 700) := rfl
theorem sh_15 : SH[15]? = some (50, 6) := rfl
theorem sh_16 : SH[16]? = some (50, 6) := rfl
theorem sh_17 : SH[17]? = some (50, 64) := rfl
theorem sh_18 : SH[18]? = some (50, 8) := rfl
theorem sh_19 : SH[19]? = some (50, 601) := rfl
theorem sh_20 : SH[20]? = some (50, 481) := rfl
theorem sh_21 : SH[21]? = some (3, 0) := rfl
theorem sh_22 : SH[22]? = some (50, 12) := rfl
theorem sh_23 : SH[23]? = some (50, 12) := rfl
theorem sh_24 : SH[24]? = some (50, 6) := rfl
theorem sh_25 : SH[25]? = some (50, 6) := rfl
theorem sh_26 : SH[26]? = some (50, 12) := rfl
theorem sh_27 : SH[27]? = some (2, 0) := rfl
theorem sh_28 : SH[28]? = some (50, 700) := rfl
theorem sh_29 : SH[29]? = some (50, 6) := rfl
theorem sh_30 : SH[30]? = some (50, 6) := rfl
theorem sh_31 : SH[31]? = some (50, 64) := rfl
theorem sh_32 : SH[32]? = some (50, 8) := rfl
theorem sh_33 : SH[33]? = some (50, 601) := rfl
theorem sh_34 : SH[34]? = some (50, 481) := rfl
theorem sh_35 : SH[35]? = some (4, 0) := rfl
theorem sh_36 : SH[36]? = some (50, 12) := rfl
theorem sh_37 : SH[37]? = some (50, 40) := rfl
theorem sh_38 : SH[38]? = some (50, 40) := rfl
theorem sh_39 : SH[39]? = some (50, 8) := rfl
theorem sh_40 : SH[40]? = some (50, 8) := rfl
theorem sh_41 : SH[41]? = some (50, 16) := rfl
theorem sh_42 : SH[42]? = some (4, 0) := rfl
theorem sh_43 : SH[43]? = some (50, 12) := rfl
theorem sh_44 : SH[44]? = some (50, 40) := rfl
theorem sh_45 : SH[45]? = some (50, 40) := rfl
theorem sh_46 : SH[46]? = some (50, 8) := rfl
theorem sh_47 : SH[47]? = some (50, 8) := rfl
theorem sh_48 : SH[48]? = some (50, 16) := rfl
theorem sh_49 : SH[49]? = some (5, 0) := rfl
theorem sh_50 : SH[50]? = some (50, 12) := rfl
theorem sh_51 : SH[51]? = some (50, 601) := rfl
theorem sh_52 : SH[52]? = some (51, 601) := rfl
theorem sh_53 : SH[53]? = some (50, 601) := rfl
theorem sh_54 : SH[54]? = some (50, 601) := rfl
theorem sh_55 : SH[55]? = some (0, 0) := rfl
theorem sh_56 : SH[56]? = some (50, 13) := rfl
theorem sh_57 : SH[57]? = some (50, 3) := rfl
theorem sh_58 : SH[58]? = some (50, 3) := rfl
theorem sh_59 : SH[59]? = some (50, 3) := rfl
theorem sh_60 : SH[60]? = some (7, 0) := rfl
theorem sh_61 : SH[61]? = some (50, 12) := rfl
theorem sh_62 : SH[62]? = some (50, 12) := rfl
theorem sh_63 : SH[63]? = some (50, 6) := rfl
theorem sh_64 : SH[64]? = some (50, 6) := rfl
theorem sh_65 : SH[65]? = some (50, 4) := rfl
theorem sh_66 : SH[66]? = some (50, 4200) := rfl
theorem sh_67 : SH[67]? = some (50, 700) := rfl
theorem sh_68 : SH[68]? = some (50, 3) := rfl
theorem sh_69 : SH[69]? = some (50, 12) := rfl
theorem sh_70 : SH[70]? = some (50, 12) := rfl
theorem sh_71 : SH[71]? = some (50, 6) := rfl
theorem sh_72 : SH[72]? = some (50, 6) := rfl
theorem sh_73 : SH[73]? = some (50, 6) := rfl
theorem sh_74 : SH[74]? = some (50, 6) := rfl
theorem sh_75 : SH[75]? = some (50, 4) := rfl
theorem sh_76 : SH[76]? = some (50, 4200) := rfl
theorem sh_77 : SH[77]? = some (50, 950) := rfl
theorem sh_78 : SH[78]? = some (51, 9) := rfl
theorem sh_79 : SH[79]? = some (50, 12) := rfl
theorem sh_80 : SH[80]? = some (50, 12) := rfl
theorem sh_81 : SH[81]? = some (50, 80) := rfl
theorem sh_82 : SH[82]? = some (50, 8) := rfl
theorem sh_83 : SH[83]? = some (50, 950) := rfl
theorem sh_84 : SH[84]? = some (50, 601) := rfl
theorem sh_85 : SH[85]? = some (50, 601) := rfl
theorem sh_86 : SH[86]? = some (50, 601) := rfl
theorem sh_87 : SH[87]? = some (50, 3) := rfl
theorem sh_88 : SH[88]? = some (50, 13) := rfl
theorem sh_89 : SH[89]? = some (50, 3) := rfl
theorem sh_90 : SH[90]? = some (50, 16) := rfl
theorem sh_91 : SH[91]? = some (50, 16) := rfl
theorem sh_92 : SH[92]? = some (50, 12) := rfl
theorem sh_93 : SH[93]? = some (50, 80) := rfl
theorem sh_94 : SH[94]? = some (50, 16) := rfl
theorem sh_95 : SH[95]? = some (50, 16) := rfl
theorem sh_96 : SH[96]? = some (52, 1) := rfl
theorem rf_0_0 : RF 0 0 = some 1 := rfl
theorem rf_0_2 : RF 0 2 = some 2 := rfl
theorem rf_0_3 : RF 0 3 = some 7 := rfl
theorem rf_0_4 : RF 0 4 = some 21 := rfl
theorem rf_0_5 : RF 0 5 = some 35 := rfl
theorem rf_0_6 : RF 0 6 = some 42 := rfl
theorem rf_0_8 : RF 0 8 = some 49 := rfl
theorem rf_0_10 : RF 0 10 = some 55 := rfl
theorem rf_0_12 : RF 0 12 = some 59 := rfl
theorem rf_2_0 : RF 2 0 = some 3 := rfl
theorem rf_2_1 : RF 2 1 = some 4 := rfl
theorem rf_2_2 : RF 2 2 = some 5 := rfl
theorem rf_2_5 : RF 2 5 = some 6 := rfl
theorem rf_7_2 : RF 7 2 = some 8 := rfl
theorem rf_7_3 : RF 7 3 = some 9 := rfl
theorem rf_7_6 : RF 7 6 = some 10 := rfl
theorem rf_7_7 : RF 7 7 = some 11 := rfl
theorem rf_7_10 : RF 7 10 = some 12 := rfl
theorem rf_7_11 : RF 7 11 = some 13 := rfl
theorem rf_7_12 : RF 7 12 = some 19 := rfl
theorem rf_7_13 : RF 7 13 = some 20 := rfl
theorem rf_13_0 : RF 13 0 = some 14 := rfl
theorem rf_13_2 : RF 13 2 = some 15 := rfl
theorem rf_13_3 : RF 13 3 = some 16 := rfl
theorem rf_13_4 : RF 13 4 = some 17 := rfl
theorem rf_13_5 : RF 13 5 = some 18 := rfl
theorem rf_21_2 : RF 21 2 = some 22 := rfl
theorem rf_21_3 : RF 21 3 = some 23 := rfl
theorem rf_21_6 : RF 21 6 = some 24 := rfl
theorem rf_21_7 : RF 21 7 = some 25 := rfl
theorem rf_21_10 : RF 21 10 = some 26 := rfl
theorem rf_21_11 : RF 21 11 = some 27 := rfl
theorem rf_21_12 : RF 21 12 = some 33 := rfl
theorem rf_21_13 : RF 21 13 = some 34 := rfl
theorem rf_27_0 : RF 27 0 = some 28 := rfl
theorem rf_27_2 : RF 27 2 = some 29 := rfl
theorem rf_27_3 : RF 27 3 = some 30 := rfl
theorem rf_27_4 : RF 27 4 = some 31 := rfl
theorem rf_27_5 : RF 27 5 = some 32 := rfl
theorem rf_35_0 : RF 35 0 = some 36 := rfl
theorem rf_35_1 : RF 35 1 = some 37 := rfl
theorem rf_35_2 : RF 35 2 = some 38 := rfl
theorem rf_35_4 : RF 35 4 = some 39 := rfl
theorem rf_35_5 : RF 35 5 = some 40 := rfl
theorem rf_35_7 : RF 35 7 = some 41 := rfl
theorem rf_42_0 : RF 42 0 = some 43 := rfl
theorem rf_42_1 : RF 42 1 = some 44 := rfl
theorem rf_42_2 : RF 42 2 = some 45 := rfl
theorem rf_42_4 : RF 42 4 = some 46 := rfl
theorem rf_42_5 : RF 42 5 = some 47 := rfl
theorem rf_42_7 : RF 42 7 = some 48 := rfl
theorem rf_49_0 : RF 49 0 = some 50 := rfl
theorem rf_49_6 : RF 49 6 = some 51 := rfl
theorem rf_49_7 : RF 49 7 = some 52 := rfl
theorem rf_49_8 : RF 49 8 = some 53 := rfl
theorem rf_49_9 : RF 49 9 = some 54 := rfl
theorem rf_55_0 : RF 55 0 = some 56 := rfl
theorem rf_55_2 : RF 55 2 = some 57 := rfl
theorem rf_55_3 : RF 55 3 = some 58 := rfl
theorem rf_60_8 : RF 60 8 = some 61 := rfl
theorem rf_60_9 : RF 60 9 = some 62 := rfl
theorem rf_60_10 : RF 60 10 = some 63 := rfl
theorem rf_60_11 : RF 60 11 = some 64 := rfl
theorem rf_60_12 : RF 60 12 = some 65 := rfl
theorem rf_60_13 : RF 60 13 = some 66 := rfl
theorem rf_60_14 : RF 60 14 = some 67 := rfl
theorem rf_60_18 : RF 60 18 = some 68 := rfl
theorem rf_60_43 : RF 60 43 = some 69 := rfl
theorem rf_60_44 : RF 60 44 = some 70 := rfl
theorem rf_60_45 : RF 60 45 = some 71 := rfl
theorem rf_60_46 : RF 60 46 = some 72 := rfl
theorem rf_60_47 : RF 60 47 = some 73 := rfl
theorem rf_60_48 : RF 60 48 = some 74 := rfl
theorem rf_60_49 : RF 60 49 = some 75 := rfl
theorem rf_60_50 : RF 60 50 = some 76 := rfl
theorem rf_60_51 : RF 60 51 = some 77 := rfl
theorem rf_60_52 : RF 60 52 = some 78 := rfl
theorem rf_60_53 : RF 60 53 = some 79 := rfl
theorem rf_60_54 : RF 60 54 = some 80 := rfl
theorem rf_60_55 : RF 60 55 = some 81 := rfl
theorem rf_60_57 : RF 60 57 = some 82 := rfl
theorem rf_60_58 : RF 60 58 = some 83 := rfl
theorem rf_60_61 : RF 60 61 = some 84 := rfl
theorem rf_60_62 : RF 60 62 = some 85 := rfl
theorem rf_60_63 : RF 60 63 = some 86 := rfl
theorem rf_60_70 : RF 60 70 = some 87 := rfl
theorem rf_60_71 : RF 60 71 = some 88 := rfl
theorem rf_60_72 : RF 60 72 = some 89 := rfl
theorem rf_60_75 : RF 60 75 = some 90 := rfl
theorem rf_60_77 : RF 60 77 = some 91 := rfl
theorem rf_60_82 : RF 60 82 = some 92 := rfl
theorem rf_60_83 : RF 60 83 = some 93 := rfl
theorem rf_60_84 : RF 60 84 = some 94 := rfl
theorem rf_60_85 : RF 60 85 = some 95 := rfl
theorem inW1 : ∀ w ∈ u_ws RX1 TX1 5, w ∈ lw_tbl ∧ goodWord w = true := by
  intro w hw
  have h : u_ws RX1 TX1 5 = ([258, 260, 262, 264, 266] : List Nat).filterMap (fun i => tables_1[i]?) := by decide +kernel
  refine ⟨?_, List.all_eq_true.mp (by decide +kernel : (u_ws RX1 TX1 5).all goodWord = true) w hw⟩
  rw [h] at hw
  obtain ⟨i, -, hi⟩ := List.mem_filterMap.mp hw
  exact List.mem_append_right _ (List.mem_of_getElem? hi)
theorem inW2 : ∀ w ∈ u_ws RX2 TX2 8, w ∈ lw_tbl ∧ goodWord w = true := by
  intro w hw
  have h : u_ws RX2 TX2 8 = ([47, 49, 51, 53, 55, 57, 59, 61] : List Nat).filterMap (fun i => tables_1[i]?) := by decide +kernel
  refine ⟨?_, List.all_eq_true.mp (by decide +kernel : (u_ws RX2 TX2 8).all goodWord = true) w hw⟩
  rw [h] at hw
  obtain ⟨i, -, hi⟩ := List.mem_filterMap.mp hw
  exact List.mem_append_right _ (List.mem_of_getElem? hi)
theorem inW3 : ∀ w ∈ u_ws RX3 TX3 6, w ∈ lw_tbl ∧ goodWord w = true := by
  intro w hw
  have h : u_ws RX3 TX3 6 = ([86, 88, 90, 92, 94, 96] : List Nat).filterMap (fun i => tables_1[i]?) := by decide +kernel
  refine ⟨?_, List.all_eq_true.mp (by decide +kernel : (u_ws RX3 TX3 6).all goodWord = true) w hw⟩
  rw [h] at hw
  obtain ⟨i, -, hi⟩ := List.mem_filterMap.mp hw
  exact List.mem_append_right _ (List.mem_of_getElem? hi)
theorem inW4 : ∀ w ∈ u_ws RX4 TX4 14, w ∈ lw_tbl ∧ goodWord w = true := by
  intro w hw
  have h : u_ws RX4 TX4 14 = ([132, 134, 136, 138, 140, 142, 144, 146, 148, 150, 152, 154, 156, 158] : List Nat).filterMap (fun i => tables_1[i]?) := by decide +kernel
  refine ⟨?_, List.all_eq_true.mp (by decide +kernel : (u_ws RX4 TX4 14).all goodWord = true) w hw⟩
  rw [h] at hw
  obtain ⟨i, -, hi⟩ := List.mem_filterMap.mp hw
  exact List.mem_append_right _ (List.mem_of_getElem? hi)
theorem inW5 : ∀ w ∈ u_ws RX5 TX5 9, w ∈ lw_tbl ∧ goodWord w = true := by
  intro w hw
  have h : u_ws RX5 TX5 9 = ([180, 182, 184, 186, 188, 190, 192, 194, 196] : List Nat).filterMap (fun i => tables_1[i]?) := by decide +kernel
  refine ⟨?_, List.all_eq_true.mp (by decide +kernel : (u_ws RX5 TX5 9).all goodWord = true) w hw⟩
  rw [h] at hw
  obtain ⟨i, -, hi⟩ := List.mem_filterMap.mp hw
  exact List.mem_append_right _ (List.mem_of_getElem? hi)
theorem inW6 : ∀ w ∈ u_ws RX6 TX6 10, w ∈ lw_tbl ∧ goodWord w = true := by
  intro w hw
  have h : u_ws RX6 TX6 10 = ([224, 226, 228, 230, 232, 234, 236, 238, 240, 242] : List Nat).filterMap (fun i => tables_1[i]?) := by decide +kernel
  refine ⟨?_, List.all_eq_true.mp (by decide +kernel : (u_ws RX6 TX6 10).all goodWord = true) w hw⟩
  rw [h] at hw
  obtain ⟨i, -, hi⟩ := List.mem_filterMap.mp hw
  exact List.mem_append_right _ (List.mem_of_getElem? hi)
theorem inW8 : ∀ w ∈ u_ws RX8 TX8 13, w ∈ lw_tbl ∧ goodWord w = true := by
  intro w hw
  have h : u_ws RX8 TX8 13 = ([324, 326, 328, 330, 332, 334, 336, 338, 340, 342, 344, 346, 348] : List Nat).filterMap (fun i => tables_1[i]?) := by decide +kernel
  refine ⟨?_, List.all_eq_true.mp (by decide +kernel : (u_ws RX8 TX8 13).all goodWord = true) w hw⟩
  rw [h] at hw
  obtain ⟨i, -, hi⟩ := List.mem_filterMap.mp hw
  exact List.mem_append_right _ (List.mem_of_getElem? hi)
theorem inW9 : ∀ w ∈ u_ws RX9 TX9 86, w ∈ lw_tbl ∧ goodWord w = true := by
  intro w hw
  have h : u_ws RX9 TX9 86 = ([1302, 1304, 1306, 1308, 1310, 1312, 1314, 1316, 1318, 1320, 1322, 1324, 1326, 1328, 1330, 1332, 1334, 1336, 1338, 1340, 1342, 1344, 1346, 1348, 1350, 1352, 1354, 1356, 1358, 1360, 1362, 1364, 1366, 1368, 1370, 1372, 1374, 1376, 1378, 1380, 1382, 1384, 1386, 1388, 1390, 1392, 1394, 1396, 1398, 1400, 1402, 1404, 1406, 1408, 1410, 1412, 1414, 1416, 1418, 1420, 1422, 1424, 1426, 1428, 1430, 1432, 1434, 1436, 1438, 1440, 1442, 1444, 1446, 1448, 1450, 1452, 1454, 1456, 1458, 1460, 1462, 1464, 1466, 1468, 1470, 1472] : List Nat).filterMap (fun i => tables_1[i]?) := by decide +kernel
  refine ⟨?_, List.all_eq_true.mp (by decide +kernel : (u_ws RX9 TX9 86).all goodWord = true) w hw⟩
  rw [h] at hw
  obtain ⟨i, -, hi⟩ := List.mem_filterMap.mp hw
  exact List.mem_append_right _ (List.mem_of_getElem? hi)
theorem F_RX2_9 : x_F CL FK RX2 9 1 0 2 (.array .int) true true := ⟨RX2, TX2, 8, tyX2, rfl, by decide, by decide, rfl, (List.mem_append_right _ (List.mem_of_getElem? (i := 37) (by decide +kernel))), inW2, tyX2_ok, nmX2, rfl, rfl, fun _ _ => rfl⟩
theorem F_RX2_15 : x_F CL FK RX2 15 1 1 2 (.array .int) true true := ⟨RX2, TX2, 8, tyX2, rfl, by decide, by decide, rfl, (List.mem_append_right _ (List.mem_of_getElem? (i := 38) (by decide +kernel))), inW2, tyX2_ok, nmX2, rfl, rfl, fun _ _ => rfl⟩
theorem F_RX2_18 : x_F CL FK RX2 18 1 2 2 (.array .int) true true := ⟨RX2, TX2, 8, tyX2, rfl, by decide, by decide, rfl, (List.mem_append_right _ (List.mem_of_getElem? (i := 39) (by decide +kernel))), inW2, tyX2_ok, nmX2, rfl, rfl, fun _ _ => rfl⟩
theorem F_RX2_21 : x_F CL FK RX2 21 1 3 0 .int false true := ⟨RX2, TX2, 8, tyX2, rfl, by decide, by decide, rfl, (List.mem_append_right _ (List.mem_of_getElem? (i := 40) (by decide +kernel))), inW2, tyX2_ok, nmX2, rfl, rfl, fun _ h => by cases h⟩
theorem F_RX2_25 : x_F CL FK RX2 25 1 4 0 .int false true := ⟨RX2, TX2, 8, tyX2, rfl, by decide, by decide, rfl, (List.mem_append_right _ (List.mem_of_getElem? (i := 41) (by decide +kernel))), inW2, tyX2_ok, nmX2, rfl, rfl, fun _ h => by cases h⟩
theorem F_RX2_28 : x_F CL FK RX2 28 1 5 2 (.array .boolean) true true := ⟨RX2, TX2, 8, tyX2, rfl, by decide, by decide, rfl, (List.mem_append_right _ (List.mem_of_getElem? (i := 42) (by decide +kernel))), inW2, tyX2_ok, nmX2, rfl, rfl, fun _ _ => rfl⟩
theorem F_RX2_32 : x_F CL FK RX2 32 1 6 0 .int false true := ⟨RX2, TX2, 8, tyX2, rfl, by decide, by decide, rfl, (List.mem_append_right _ (List.mem_of_getElem? (i := 43) (by decide +kernel))), inW2, tyX2_ok, nmX2, rfl, rfl, fun _ h => by cases h⟩
theorem F_RX8_97 : x_F CL FK RX8 97 1 6 0 .int false true := ⟨RX2, TX2, 8, tyX2, rfl, by decide, by decide, rfl, (List.mem_append_right _ (List.mem_of_getElem? (i := 44) (by decide +kernel))), inW2, tyX2_ok, nmX2, rfl, rfl, fun _ h => by cases h⟩
theorem F_RX2_35 : x_F CL FK RX2 35 1 7 0 .int false true := ⟨RX2, TX2, 8, tyX2, rfl, by decide, by decide, rfl, (List.mem_append_right _ (List.mem_of_getElem? (i := 45) (by decide +kernel))), inW2, tyX2_ok, nmX2, rfl, rfl, fun _ h => by cases h⟩
theorem F_RX8_96 : x_F CL FK RX8 96 1 7 0 .int false true := ⟨RX2, TX2, 8, tyX2, rfl, by decide, by decide, rfl, (List.mem_append_right _ (List.mem_of_getElem? (i := 46) (by decide +kernel))), inW2, tyX2_ok, nmX2, rfl, rfl, fun _ h => by cases h⟩
theorem F_RX3_9 : x_F CL FK RX3 9 2 0 2 (.array .int) true true := ⟨RX3, TX3, 6, tyX3, rfl, by decide, by decide, rfl, (List.mem_append_right _ (List.mem_of_getElem? (i := 78) (by decide +kernel))), inW3, tyX3_ok, nmX3, rfl, rfl, fun _ _ => rfl⟩
theorem F_RX3_15 : x_F CL FK RX3 15 2 1 0 .int false true := ⟨RX3, TX3, 6, tyX3, rfl, by decide, by decide, rfl, (List.mem_append_right _ (List.mem_of_getElem? (i := 79) (by decide +kernel))), inW3, tyX3_ok, nmX3, rfl, rfl, fun _ h => by cases h⟩
theorem F_RX3_19 : x_F CL FK RX3 19 2 2 2 (.array .int) true true := ⟨RX3, TX3, 6, tyX3, rfl, by decide, by decide, rfl, (List.mem_append_right _ (List.mem_of_getElem? (i := 80) (by decide +kernel))), inW3, tyX3_ok, nmX3, rfl, rfl, fun _ _ => rfl⟩
theorem F_RX3_22 : x_F CL FK RX3 22 2 3 2 (.array .int) true true := ⟨RX3, TX3, 6, tyX3, rfl, by decide, by decide, rfl, (List.mem_append_right _ (List.mem_of_getElem? (i := 81) (by decide +kernel))), inW3, tyX3_ok, nmX3, rfl, rfl, fun _ _ => rfl⟩
theorem F_RX3_25 : x_F CL FK RX3 25 2 4 2 (.array .int) true true := ⟨RX3, TX3, 6, tyX3, rfl, by decide, by decide, rfl, (List.mem_append_right _ (List.mem_of_getElem? (i := 82) (by decide +kernel))), inW3, tyX3_ok, nmX3, rfl, rfl, fun _ _ => rfl⟩
theorem F_RX3_28 : x_F CL FK RX3 28 2 5 2 (.array .int) true true := ⟨RX3, TX3, 6, tyX3, rfl, by decide, by decide, rfl, (List.mem_append_right _ (List.mem_of_getElem? (i := 83) (by decide +kernel))), inW3, tyX3_ok, nmX3, rfl, rfl, fun _ _ => rfl⟩
theorem F_RX6_99 : x_F CL FK RX6 99 2 5 2 (.array .int) true false := ⟨RX3, TX3, 6, tyX3, rfl, by decide, by decide, rfl, (List.mem_append_right _ (List.mem_of_getElem? (i := 84) (by decide +kernel))), inW3, tyX3_ok, nmX3, rfl, rfl, fun h => by cases h⟩
theorem F_RX4_70 : x_F CL FK RX4 70 2 5 2 (.array .int) true false := ⟨RX3, TX3, 6, tyX3, rfl, by decide, by decide, rfl, (List.mem_append_right _ (List.mem_of_getElem? (i := 85) (by decide +kernel))), inW3, tyX3_ok, nmX3, rfl, rfl, fun h => by cases h⟩
theorem F_RX4_40 : x_F CL FK RX4 40 3 0 0 .int false true := ⟨RX4, TX4, 14, tyX4, rfl, by decide, by decide, rfl, (List.mem_append_right _ (List.mem_of_getElem? (i := 99) (by decide +kernel))), inW4, tyX4_ok, nmX4, rfl, rfl, fun _ h => by cases h⟩
theorem F_RX1_28 : x_F CL FK RX1 28 3 0 0 .int false true := ⟨RX4, TX4, 14, tyX4, rfl, by decide, by decide, rfl, (List.mem_append_right _ (List.mem_of_getElem? (i := 100) (by decide +kernel))), inW4, tyX4_ok, nmX4, rfl, rfl, fun _ h => by cases h⟩
theorem F_RX2_133 : x_F CL FK RX2 133 3 0 0 .int false true := ⟨RX4, TX4, 14, tyX4, rfl, by decide, by decide, rfl, (List.mem_append_right _ (List.mem_of_getElem? (i := 101) (by decide +kernel))), inW4, tyX4_ok, nmX4, rfl, rfl, fun _ h => by cases h⟩
theorem F_RX4_44 : x_F CL FK RX4 44 3 1 0 .int false true := ⟨RX4, TX4, 14, tyX4, rfl, by decide, by decide, rfl, (List.mem_append_right _ (List.mem_of_getElem? (i := 102) (by decide +kernel))), inW4, tyX4_ok, nmX4, rfl, rfl, fun _ h => by cases h⟩
theorem F_RX1_37 : x_F CL FK RX1 37 3 1 0 .int false true := ⟨RX4, TX4, 14, tyX4, rfl, by decide, by decide, rfl, (List.mem_append_right _ (List.mem_of_getElem? (i := 103) (by decide +kernel))), inW4, tyX4_ok, nmX4, rfl, rfl, fun _ h => by cases h⟩
theorem F_RX8_106 : x_F CL FK RX8 106 3 1 0 .int false true := ⟨RX4, TX4, 14, tyX4, rfl, by decide, by decide, rfl, (List.mem_append_right _ (List.mem_of_getElem? (i := 104) (by decide +kernel))), inW4, tyX4_ok, nmX4, rfl, rfl, fun _ h => by cases h⟩
theorem F_RX2_174 : x_F CL FK RX2 174 3 1 0 .int false true := ⟨RX4, TX4, 14, tyX4, rfl, by decide, by decide, rfl, (List.mem_append_right _ (List.mem_of_getElem? (i := 105) (by decide +kernel))), inW4, tyX4_ok, nmX4, rfl, rfl, fun _ h => by cases h⟩
theorem F_RX4_9 : x_F CL FK RX4 9 3 2 2 (.array .int) true true := ⟨RX4, TX4, 14, tyX4, rfl, by decide, by decide, rfl, (List.mem_append_right _ (List.mem_of_getElem? (i := 106) (by decide +kernel))), inW4, tyX4_ok, nmX4, rfl, rfl, fun _ _ => rfl⟩
theorem F_RX1_40 : x_F CL FK RX1 40 3 2 2 (.array .int) true false := ⟨RX4, TX4, 14, tyX4, rfl, by decide, by decide, rfl, (List.mem_append_right _ (List.mem_of_getElem? (i := 107) (by decide +kernel))), inW4, tyX4_ok, nmX4, rfl, rfl, fun h => by cases h⟩
theorem F_RX4_15 : x_F CL FK RX4 15 3 3 2 (.array .int) true true := ⟨RX4, TX4, 14, tyX4, rfl, by decide, by decide, rfl, (List.mem_append_right _ (List.mem_of_getElem? (i := 108) (by decide +kernel))), inW4, tyX4_ok, nmX4, rfl, rfl, fun _ _ => rfl⟩
theorem F_RX4_47 : x_F CL FK RX4 47 3 4 0 .int false true := ⟨RX4, TX4, 14, tyX4, rfl, by decide, by decide, rfl, (List.mem_append_right _ (List.mem_of_getElem? (i := 109) (by decide +kernel))), inW4, tyX4_ok, nmX4, rfl, rfl, fun _ h => by cases h⟩
theorem F_RX6_63 : x_F CL FK RX6 63 3 4 0 .int false true := ⟨RX4, TX4, 14, tyX4, rfl, by decide, by decide, rfl, (List.mem_append_right _ (List.mem_of_getElem? (i := 110) (by decide +kernel))), inW4, tyX4_ok, nmX4, rfl, rfl, fun _ h => by cases h⟩
theorem F_RX8_103 : x_F CL FK RX8 103 3 4 0 .int false true := ⟨RX4, TX4, 14, tyX4, rfl, by decide, by decide, rfl, (List.mem_append_right _ (List.mem_of_getElem? (i := 111) (by decide +kernel))), inW4, tyX4_ok, nmX4, rfl, rfl, fun _ h => by cases h⟩
theorem F_RX2_183 : x_F CL FK RX2 183 3 4 0 .int false true := ⟨RX4, TX4, 14, tyX4, rfl, by decide, by decide, rfl, (List.mem_append_right _ (List.mem_of_getElem? (i := 112) (by decide +kernel))), inW4, tyX4_ok, nmX4, rfl, rfl, fun _ h => by cases h⟩
theorem F_RX4_50 : x_F CL FK RX4 50 3 5 0 .int false true := ⟨RX4, TX4, 14, tyX4, rfl, by decide, by decide, rfl, (List.mem_append_right _ (List.mem_of_getElem? (i := 113) (by decide +kernel))), inW4, tyX4_ok, nmX4, rfl, rfl, fun _ h => by cases h⟩
theorem F_RX8_109 : x_F CL FK RX8 109 3 5 0 .int false true := ⟨RX4, TX4, 14, tyX4, rfl, by decide, by decide, rfl, (List.mem_append_right _ (List.mem_of_getElem? (i := 114) (by decide +kernel))), inW4, tyX4_ok, nmX4, rfl, rfl, fun _ h => by cases h⟩
theorem F_RX2_190 : x_F CL FK RX2 190 3 5 0 .int false true := ⟨RX4, TX4, 14, tyX4, rfl, by decide, by decide, rfl, (List.mem_append_right _ (List.mem_of_getElem? (i := 115) (by decide +kernel))), inW4, tyX4_ok, nmX4, rfl, rfl, fun _ h => by cases h⟩
theorem F_RX4_18 : x_F CL FK RX4 18 3 6 2 (.array .int) true true := ⟨RX4, TX4, 14, tyX4, rfl, by decide, by decide, rfl, (List.mem_append_right _ (List.mem_of_getElem? (i := 116) (by decide +kernel))), inW4, tyX4_ok, nmX4, rfl, rfl, fun _ _ => rfl⟩
theorem F_RX4_21 : x_F CL FK RX4 21 3 7 2 (.array .int) true true := ⟨RX4, TX4, 14, tyX4, rfl, by decide, by decide, rfl, (List.mem_append_right _ (List.mem_of_getElem? (i := 117) (by decide +kernel))), inW4, tyX4_ok, nmX4, rfl, rfl, fun _ _ => rfl⟩
theorem F_RX4_53 : x_F CL FK RX4 53 3 8 0 .int false true := ⟨RX4, TX4, 14, tyX4, rfl, by decide, by decide, rfl, (List.mem_append_right _ (List.mem_of_getElem? (i := 118) (by decide +kernel))), inW4, tyX4_ok, nmX4, rfl, rfl, fun _ h => by cases h⟩
theorem F_RX8_112 : x_F CL FK RX8 112 3 8 0 .int false true := ⟨RX4, TX4, 14, tyX4, rfl, by decide, by decide, rfl, (List.mem_append_right _ (List.mem_of_getElem? (i := 119) (by decide +kernel))), inW4, tyX4_ok, nmX4, rfl, rfl, fun _ h => by cases h⟩
theorem F_RX2_199 : x_F CL FK RX2 199 3 8 0 .int false true := ⟨RX4, TX4, 14, tyX4, rfl, by decide, by decide, rfl, (List.mem_append_right _ (List.mem_of_getElem? (i := 120) (by decide +kernel))), inW4, tyX4_ok, nmX4, rfl, rfl, fun _ h => by cases h⟩
theorem F_RX4_56 : x_F CL FK RX4 56 3 9 0 .int false true := ⟨RX4, TX4, 14, tyX4, rfl, by decide, by decide, rfl, (List.mem_append_right _ (List.mem_of_getElem? (i := 121) (by decide +kernel))), inW4, tyX4_ok, nmX4, rfl, rfl, fun _ h => by cases h⟩
theorem F_RX8_115 : x_F CL FK RX8 115 3 9 0 .int false true := ⟨RX4, TX4, 14, tyX4, rfl, by decide, by decide, rfl, (List.mem_append_right _ (List.mem_of_getElem? (i := 122) (by decide +kernel))), inW4, tyX4_ok, nmX4, rfl, rfl, fun _ h => by cases h⟩
theorem F_RX2_171 : x_F CL FK RX2 171 3 9 0 .int false true := ⟨RX4, TX4, 14, tyX4, rfl, by decide, by decide, rfl, (List.mem_append_right _ (List.mem_of_getElem? (i := 123) (by decide +kernel))), inW4, tyX4_ok, nmX4, rfl, rfl, fun _ h => by cases h⟩
theorem F_RX4_24 : x_F CL FK RX4 24 3 10 2 (.array .int) true true := ⟨RX4, TX4, 14, tyX4, rfl, by decide, by decide, rfl, (List.mem_append_right _ (List.mem_of_getElem? (i := 124) (by decide +kernel))), inW4, tyX4_ok, nmX4, rfl, rfl, fun _ _ => rfl⟩
theorem F_RX5_40 : x_F CL FK RX5 40 3 10 2 (.array .int) true false := ⟨RX4, TX4, 14, tyX4, rfl, by decide, by decide, rfl, (List.mem_append_right _ (List.mem_of_getElem? (i := 125) (by decide +kernel))), inW4, tyX4_ok, nmX4, rfl, rfl, fun h => by cases h⟩
theorem F_RX2_202 : x_F CL FK RX2 202 3 10 2 (.array .int) true false := ⟨RX4, TX4, 14, tyX4, rfl, by decide, by decide, rfl, (List.mem_append_right _ (List.mem_of_getElem? (i := 126) (by decide +kernel))), inW4, tyX4_ok, nmX4, rfl, rfl, fun h => by cases h⟩
theorem F_RX4_30 : x_F CL FK RX4 30 3 11 2 (.object "RingHand$Rules") true true := ⟨RX4, TX4, 14, tyX4, rfl, by decide, by decide, rfl, (List.mem_append_right _ (List.mem_of_getElem? (i := 127) (by decide +kernel))), inW4, tyX4_ok, nmX4, rfl, rfl, fun _ _ => rfl⟩
theorem F_RX6_95 : x_F CL FK RX6 95 3 11 2 (.object "RingHand$Rules") true false := ⟨RX4, TX4, 14, tyX4, rfl, by decide, by decide, rfl, (List.mem_append_right _ (List.mem_of_getElem? (i := 128) (by decide +kernel))), inW4, tyX4_ok, nmX4, rfl, rfl, fun h => by cases h⟩
theorem F_RX2_216 : x_F CL FK RX2 216 3 11 2 (.object "RingHand$Rules") true false := ⟨RX4, TX4, 14, tyX4, rfl, by decide, by decide, rfl, (List.mem_append_right _ (List.mem_of_getElem? (i := 129) (by decide +kernel))), inW4, tyX4_ok, nmX4, rfl, rfl, fun h => by cases h⟩
theorem F_RX4_34 : x_F CL FK RX4 34 3 12 2 (.array .int) true true := ⟨RX4, TX4, 14, tyX4, rfl, by decide, by decide, rfl, (List.mem_append_right _ (List.mem_of_getElem? (i := 130) (by decide +kernel))), inW4, tyX4_ok, nmX4, rfl, rfl, fun _ _ => rfl⟩
theorem F_RX4_37 : x_F CL FK RX4 37 3 13 2 (.array .int) true true := ⟨RX4, TX4, 14, tyX4, rfl, by decide, by decide, rfl, (List.mem_append_right _ (List.mem_of_getElem? (i := 131) (by decide +kernel))), inW4, tyX4_ok, nmX4, rfl, rfl, fun _ _ => rfl⟩
theorem F_RX5_9 : x_F CL FK RX5 9 4 0 2 (.array .int) true true := ⟨RX5, TX5, 9, tyX5, rfl, by decide, by decide, rfl, (List.mem_append_right _ (List.mem_of_getElem? (i := 167) (by decide +kernel))), inW5, tyX5_ok, nmX5, rfl, rfl, fun _ _ => rfl⟩
theorem F_RX8_118 : x_F CL FK RX8 118 4 0 2 (.array .int) true false := ⟨RX5, TX5, 9, tyX5, rfl, by decide, by decide, rfl, (List.mem_append_right _ (List.mem_of_getElem? (i := 168) (by decide +kernel))), inW5, tyX5_ok, nmX5, rfl, rfl, fun h => by cases h⟩
theorem F_RX5_15 : x_F CL FK RX5 15 4 1 2 (.array .int) true true := ⟨RX5, TX5, 9, tyX5, rfl, by decide, by decide, rfl, (List.mem_append_right _ (List.mem_of_getElem? (i := 169) (by decide +kernel))), inW5, tyX5_ok, nmX5, rfl, rfl, fun _ _ => rfl⟩
theorem F_RX5_18 : x_F CL FK RX5 18 4 2 2 (.array .int) true true := ⟨RX5, TX5, 9, tyX5, rfl, by decide, by decide, rfl, (List.mem_append_right _ (List.mem_of_getElem? (i := 170) (by decide +kernel))), inW5, tyX5_ok, nmX5, rfl, rfl, fun _ _ => rfl⟩
theorem F_RX5_21 : x_F CL FK RX5 21 4 3 0 .int false true := ⟨RX5, TX5, 9, tyX5, rfl, by decide, by decide, rfl, (List.mem_append_right _ (List.mem_of_getElem? (i := 171) (by decide +kernel))), inW5, tyX5_ok, nmX5, rfl, rfl, fun _ h => by cases h⟩
theorem F_RX8_121 : x_F CL FK RX8 121 4 3 0 .int false true := ⟨RX5, TX5, 9, tyX5, rfl, by decide, by decide, rfl, (List.mem_append_right _ (List.mem_of_getElem? (i := 172) (by decide +kernel))), inW5, tyX5_ok, nmX5, rfl, rfl, fun _ h => by cases h⟩
theorem F_RX5_25 : x_F CL FK RX5 25 4 4 2 (.array .int) true true := ⟨RX5, TX5, 9, tyX5, rfl, by decide, by decide, rfl, (List.mem_append_right _ (List.mem_of_getElem? (i := 173) (by decide +kernel))), inW5, tyX5_ok, nmX5, rfl, rfl, fun _ _ => rfl⟩
theorem F_RX5_28 : x_F CL FK RX5 28 4 5 2 (.array .int) true true := ⟨RX5, TX5, 9, tyX5, rfl, by decide, by decide, rfl, (List.mem_append_right _ (List.mem_of_getElem? (i := 174) (by decide +kernel))), inW5, tyX5_ok, nmX5, rfl, rfl, fun _ _ => rfl⟩
theorem F_RX5_31 : x_F CL FK RX5 31 4 6 0 .int false true := ⟨RX5, TX5, 9, tyX5, rfl, by decide, by decide, rfl, (List.mem_append_right _ (List.mem_of_getElem? (i := 175) (by decide +kernel))), inW5, tyX5_ok, nmX5, rfl, rfl, fun _ h => by cases h⟩
theorem F_RX8_124 : x_F CL FK RX8 124 4 6 0 .int false true := ⟨RX5, TX5, 9, tyX5, rfl, by decide, by decide, rfl, (List.mem_append_right _ (List.mem_of_getElem? (i := 176) (by decide +kernel))), inW5, tyX5_ok, nmX5, rfl, rfl, fun _ h => by cases h⟩
theorem F_RX5_34 : x_F CL FK RX5 34 4 7 2 (.array .int) true true := ⟨RX5, TX5, 9, tyX5, rfl, by decide, by decide, rfl, (List.mem_append_right _ (List.mem_of_getElem? (i := 177) (by decide +kernel))), inW5, tyX5_ok, nmX5, rfl, rfl, fun _ _ => rfl⟩
theorem F_RX5_37 : x_F CL FK RX5 37 4 8 0 .int false true := ⟨RX5, TX5, 9, tyX5, rfl, by decide, by decide, rfl, (List.mem_append_right _ (List.mem_of_getElem? (i := 178) (by decide +kernel))), inW5, tyX5_ok, nmX5, rfl, rfl, fun _ h => by cases h⟩
theorem F_RX8_127 : x_F CL FK RX8 127 4 8 0 .int false true := ⟨RX5, TX5, 9, tyX5, rfl, by decide, by decide, rfl, (List.mem_append_right _ (List.mem_of_getElem? (i := 179) (by decide +kernel))), inW5, tyX5_ok, nmX5, rfl, rfl, fun _ h => by cases h⟩
theorem F_RX6_9 : x_F CL FK RX6 9 5 0 2 (.array .int) true true := ⟨RX6, TX6, 10, tyX6, rfl, by decide, by decide, rfl, (List.mem_append_right _ (List.mem_of_getElem? (i := 205) (by decide +kernel))), inW6, tyX6_ok, nmX6, rfl, rfl, fun _ _ => rfl⟩
theorem F_RX1_54 : x_F CL FK RX1 54 5 0 2 (.array .int) true false := ⟨RX6, TX6, 10, tyX6, rfl, by decide, by decide, rfl, (List.mem_append_right _ (List.mem_of_getElem? (i := 206) (by decide +kernel))), inW6, tyX6_ok, nmX6, rfl, rfl, fun h => by cases h⟩
theorem F_RX8_196 : x_F CL FK RX8 196 5 0 2 (.array .int) true false := ⟨RX6, TX6, 10, tyX6, rfl, by decide, by decide, rfl, (List.mem_append_right _ (List.mem_of_getElem? (i := 207) (by decide +kernel))), inW6, tyX6_ok, nmX6, rfl, rfl, fun h => by cases h⟩
theorem F_RX6_15 : x_F CL FK RX6 15 5 1 0 .int false true := ⟨RX6, TX6, 10, tyX6, rfl, by decide, by decide, rfl, (List.mem_append_right _ (List.mem_of_getElem? (i := 208) (by decide +kernel))), inW6, tyX6_ok, nmX6, rfl, rfl, fun _ h => by cases h⟩
theorem F_RX1_49 : x_F CL FK RX1 49 5 1 0 .int false true := ⟨RX6, TX6, 10, tyX6, rfl, by decide, by decide, rfl, (List.mem_append_right _ (List.mem_of_getElem? (i := 209) (by decide +kernel))), inW6, tyX6_ok, nmX6, rfl, rfl, fun _ h => by cases h⟩
theorem F_RX6_19 : x_F CL FK RX6 19 5 2 0 .int false true := ⟨RX6, TX6, 10, tyX6, rfl, by decide, by decide, rfl, (List.mem_append_right _ (List.mem_of_getElem? (i := 210) (by decide +kernel))), inW6, tyX6_ok, nmX6, rfl, rfl, fun _ h => by cases h⟩
theorem F_RX8_304 : x_F CL FK RX8 304 5 2 0 .int false true := ⟨RX6, TX6, 10, tyX6, rfl, by decide, by decide, rfl, (List.mem_append_right _ (List.mem_of_getElem? (i := 211) (by decide +kernel))), inW6, tyX6_ok, nmX6, rfl, rfl, fun _ h => by cases h⟩
theorem F_RX6_22 : x_F CL FK RX6 22 5 3 0 .int false true := ⟨RX6, TX6, 10, tyX6, rfl, by decide, by decide, rfl, (List.mem_append_right _ (List.mem_of_getElem? (i := 212) (by decide +kernel))), inW6, tyX6_ok, nmX6, rfl, rfl, fun _ h => by cases h⟩
theorem F_RX8_354 : x_F CL FK RX8 354 5 3 0 .int false true := ⟨RX6, TX6, 10, tyX6, rfl, by decide, by decide, rfl, (List.mem_append_right _ (List.mem_of_getElem? (i := 213) (by decide +kernel))), inW6, tyX6_ok, nmX6, rfl, rfl, fun _ h => by cases h⟩
theorem F_RX6_25 : x_F CL FK RX6 25 5 4 0 .int false true := ⟨RX6, TX6, 10, tyX6, rfl, by decide, by decide, rfl, (List.mem_append_right _ (List.mem_of_getElem? (i := 214) (by decide +kernel))), inW6, tyX6_ok, nmX6, rfl, rfl, fun _ h => by cases h⟩
theorem F_RX8_249 : x_F CL FK RX8 249 5 4 0 .int false true := ⟨RX6, TX6, 10, tyX6, rfl, by decide, by decide, rfl, (List.mem_append_right _ (List.mem_of_getElem? (i := 215) (by decide +kernel))), inW6, tyX6_ok, nmX6, rfl, rfl, fun _ h => by cases h⟩
theorem F_RX6_28 : x_F CL FK RX6 28 5 5 0 .int false true := ⟨RX6, TX6, 10, tyX6, rfl, by decide, by decide, rfl, (List.mem_append_right _ (List.mem_of_getElem? (i := 216) (by decide +kernel))), inW6, tyX6_ok, nmX6, rfl, rfl, fun _ h => by cases h⟩
theorem F_RX6_31 : x_F CL FK RX6 31 5 6 2 (.array .int) true true := ⟨RX6, TX6, 10, tyX6, rfl, by decide, by decide, rfl, (List.mem_append_right _ (List.mem_of_getElem? (i := 217) (by decide +kernel))), inW6, tyX6_ok, nmX6, rfl, rfl, fun _ _ => rfl⟩
theorem F_RX8_171 : x_F CL FK RX8 171 5 6 2 (.array .int) true false := ⟨RX6, TX6, 10, tyX6, rfl, by decide, by decide, rfl, (List.mem_append_right _ (List.mem_of_getElem? (i := 218) (by decide +kernel))), inW6, tyX6_ok, nmX6, rfl, rfl, fun h => by cases h⟩
theorem F_RX6_34 : x_F CL FK RX6 34 5 7 2 (.array .boolean) true true := ⟨RX6, TX6, 10, tyX6, rfl, by decide, by decide, rfl, (List.mem_append_right _ (List.mem_of_getElem? (i := 219) (by decide +kernel))), inW6, tyX6_ok, nmX6, rfl, rfl, fun _ _ => rfl⟩
theorem F_RX6_38 : x_F CL FK RX6 38 5 8 2 (.array .int) true true := ⟨RX6, TX6, 10, tyX6, rfl, by decide, by decide, rfl, (List.mem_append_right _ (List.mem_of_getElem? (i := 220) (by decide +kernel))), inW6, tyX6_ok, nmX6, rfl, rfl, fun _ _ => rfl⟩
theorem F_RX8_174 : x_F CL FK RX8 174 5 8 2 (.array .int) true false := ⟨RX6, TX6, 10, tyX6, rfl, by decide, by decide, rfl, (List.mem_append_right _ (List.mem_of_getElem? (i := 221) (by decide +kernel))), inW6, tyX6_ok, nmX6, rfl, rfl, fun h => by cases h⟩
theorem F_RX6_41 : x_F CL FK RX6 41 5 9 2 (.array .int) true true := ⟨RX6, TX6, 10, tyX6, rfl, by decide, by decide, rfl, (List.mem_append_right _ (List.mem_of_getElem? (i := 222) (by decide +kernel))), inW6, tyX6_ok, nmX6, rfl, rfl, fun _ _ => rfl⟩
theorem F_RX8_177 : x_F CL FK RX8 177 5 9 2 (.array .int) true false := ⟨RX6, TX6, 10, tyX6, rfl, by decide, by decide, rfl, (List.mem_append_right _ (List.mem_of_getElem? (i := 223) (by decide +kernel))), inW6, tyX6_ok, nmX6, rfl, rfl, fun h => by cases h⟩
theorem F_RX1_9 : x_F CL FK RX1 9 0 0 2 (.array .int) true true := ⟨RX1, TX1, 5, tyX1, rfl, by decide, by decide, rfl, (List.mem_append_right _ (List.mem_of_getElem? (i := 251) (by decide +kernel))), inW1, tyX1_ok, nmX1, rfl, rfl, fun _ _ => rfl⟩
theorem F_RX1_15 : x_F CL FK RX1 15 0 1 0 .int false true := ⟨RX1, TX1, 5, tyX1, rfl, by decide, by decide, rfl, (List.mem_append_right _ (List.mem_of_getElem? (i := 252) (by decide +kernel))), inW1, tyX1_ok, nmX1, rfl, rfl, fun _ h => by cases h⟩
theorem F_RX1_19 : x_F CL FK RX1 19 0 2 2 (.array .int) true true := ⟨RX1, TX1, 5, tyX1, rfl, by decide, by decide, rfl, (List.mem_append_right _ (List.mem_of_getElem? (i := 253) (by decide +kernel))), inW1, tyX1_ok, nmX1, rfl, rfl, fun _ _ => rfl⟩
theorem F_RX1_22 : x_F CL FK RX1 22 0 3 2 (.array .int) true true := ⟨RX1, TX1, 5, tyX1, rfl, by decide, by decide, rfl, (List.mem_append_right _ (List.mem_of_getElem? (i := 254) (by decide +kernel))), inW1, tyX1_ok, nmX1, rfl, rfl, fun _ _ => rfl⟩
theorem F_RX8_290 : x_F CL FK RX8 290 0 3 2 (.array .int) true false := ⟨RX1, TX1, 5, tyX1, rfl, by decide, by decide, rfl, (List.mem_append_right _ (List.mem_of_getElem? (i := 255) (by decide +kernel))), inW1, tyX1_ok, nmX1, rfl, rfl, fun h => by cases h⟩
theorem F_RX1_25 : x_F CL FK RX1 25 0 4 0 .int false true := ⟨RX1, TX1, 5, tyX1, rfl, by decide, by decide, rfl, (List.mem_append_right _ (List.mem_of_getElem? (i := 256) (by decide +kernel))), inW1, tyX1_ok, nmX1, rfl, rfl, fun _ h => by cases h⟩
theorem F_RX8_285 : x_F CL FK RX8 285 0 4 0 .int false true := ⟨RX1, TX1, 5, tyX1, rfl, by decide, by decide, rfl, (List.mem_append_right _ (List.mem_of_getElem? (i := 257) (by decide +kernel))), inW1, tyX1_ok, nmX1, rfl, rfl, fun _ h => by cases h⟩
theorem F_RX8_9 : x_F CL FK RX8 9 6 0 2 (.array .int) true true := ⟨RX8, TX8, 13, tyX8, rfl, by decide, by decide, rfl, (List.mem_append_right _ (List.mem_of_getElem? (i := 311) (by decide +kernel))), inW8, tyX8_ok, nmX8, rfl, rfl, fun _ _ => rfl⟩
theorem F_RX8_13 : x_F CL FK RX8 13 6 1 0 .int false true := ⟨RX8, TX8, 13, tyX8, rfl, by decide, by decide, rfl, (List.mem_append_right _ (List.mem_of_getElem? (i := 312) (by decide +kernel))), inW8, tyX8_ok, nmX8, rfl, rfl, fun _ h => by cases h⟩
theorem F_RX8_20 : x_F CL FK RX8 20 6 2 2 (.object "RingHand$Reader") true true := ⟨RX8, TX8, 13, tyX8, rfl, by decide, by decide, rfl, (List.mem_append_right _ (List.mem_of_getElem? (i := 313) (by decide +kernel))), inW8, tyX8_ok, nmX8, rfl, rfl, fun _ _ => rfl⟩
theorem F_RX8_27 : x_F CL FK RX8 27 6 3 2 (.object "RingHand$Scene") false true := ⟨RX8, TX8, 13, tyX8, rfl, by decide, by decide, rfl, (List.mem_append_right _ (List.mem_of_getElem? (i := 314) (by decide +kernel))), inW8, tyX8_ok, nmX8, rfl, rfl, fun _ h => by cases h⟩
theorem F_RX8_31 : x_F CL FK RX8 31 6 4 2 (.object "RingHand$Scene") false true := ⟨RX8, TX8, 13, tyX8, rfl, by decide, by decide, rfl, (List.mem_append_right _ (List.mem_of_getElem? (i := 315) (by decide +kernel))), inW8, tyX8_ok, nmX8, rfl, rfl, fun _ h => by cases h⟩
theorem F_RX8_37 : x_F CL FK RX8 37 6 5 2 (.object "RingHand$Setup") true true := ⟨RX8, TX8, 13, tyX8, rfl, by decide, by decide, rfl, (List.mem_append_right _ (List.mem_of_getElem? (i := 316) (by decide +kernel))), inW8, tyX8_ok, nmX8, rfl, rfl, fun _ _ => rfl⟩
theorem F_RX8_41 : x_F CL FK RX8 41 6 6 2 (.object "RingHand$Setup") true true := ⟨RX8, TX8, 13, tyX8, rfl, by decide, by decide, rfl, (List.mem_append_right _ (List.mem_of_getElem? (i := 317) (by decide +kernel))), inW8, tyX8_ok, nmX8, rfl, rfl, fun _ _ => rfl⟩
theorem F_RX8_44 : x_F CL FK RX8 44 6 7 0 .boolean false true := ⟨RX8, TX8, 13, tyX8, rfl, by decide, by decide, rfl, (List.mem_append_right _ (List.mem_of_getElem? (i := 318) (by decide +kernel))), inW8, tyX8_ok, nmX8, rfl, rfl, fun _ h => by cases h⟩
theorem F_RX8_51 : x_F CL FK RX8 51 6 8 2 (.object "RingHand$Trial") true true := ⟨RX8, TX8, 13, tyX8, rfl, by decide, by decide, rfl, (List.mem_append_right _ (List.mem_of_getElem? (i := 319) (by decide +kernel))), inW8, tyX8_ok, nmX8, rfl, rfl, fun _ _ => rfl⟩
theorem F_RX8_55 : x_F CL FK RX8 55 6 9 0 .boolean false true := ⟨RX8, TX8, 13, tyX8, rfl, by decide, by decide, rfl, (List.mem_append_right _ (List.mem_of_getElem? (i := 320) (by decide +kernel))), inW8, tyX8_ok, nmX8, rfl, rfl, fun _ h => by cases h⟩
theorem F_RX8_61 : x_F CL FK RX8 61 6 10 2 (.object "RingHand$Chalk") true true := ⟨RX8, TX8, 13, tyX8, rfl, by decide, by decide, rfl, (List.mem_append_right _ (List.mem_of_getElem? (i := 321) (by decide +kernel))), inW8, tyX8_ok, nmX8, rfl, rfl, fun _ _ => rfl⟩
theorem F_RX8_65 : x_F CL FK RX8 65 6 11 0 .int false true := ⟨RX8, TX8, 13, tyX8, rfl, by decide, by decide, rfl, (List.mem_append_right _ (List.mem_of_getElem? (i := 322) (by decide +kernel))), inW8, tyX8_ok, nmX8, rfl, rfl, fun _ h => by cases h⟩
theorem F_RX8_68 : x_F CL FK RX8 68 6 12 2 (.array .int) true true := ⟨RX8, TX8, 13, tyX8, rfl, by decide, by decide, rfl, (List.mem_append_right _ (List.mem_of_getElem? (i := 323) (by decide +kernel))), inW8, tyX8_ok, nmX8, rfl, rfl, fun _ _ => rfl⟩
theorem F_RX9_132 : x_F CL FK RX9 132 7 0 0 .int false true := ⟨RX9, TX9, 86, tyX9, rfl, by decide, by decide, rfl, (List.mem_append_right _ (List.mem_of_getElem? (i := 1217) (by decide +kernel))), inW9, tyX9_ok, nmX9, rfl, rfl, fun _ h => by cases h⟩
theorem F_RX9_7 : x_F CL FK RX9 7 7 1 0 .int false true := ⟨RX9, TX9, 86, tyX9, rfl, by decide, by decide, rfl, (List.mem_append_right _ (List.mem_of_getElem? (i := 1218) (by decide +kernel))), inW9, tyX9_ok, nmX9, rfl, rfl, fun _ h => by cases h⟩
theorem F_RX9_324 : x_F CL FK RX9 324 7 2 0 .int false true := ⟨RX9, TX9, 86, tyX9, rfl, by decide, by decide, rfl, (List.mem_append_right _ (List.mem_of_getElem? (i := 1219) (by decide +kernel))), inW9, tyX9_ok, nmX9, rfl, rfl, fun _ h => by cases h⟩
theorem F_RX9_327 : x_F CL FK RX9 327 7 3 0 .int false true := ⟨RX9, TX9, 86, tyX9, rfl, by decide, by decide, rfl, (List.mem_append_right _ (List.mem_of_getElem? (i := 1220) (by decide +kernel))), inW9, tyX9_ok, nmX9, rfl, rfl, fun _ h => by cases h⟩
theorem F_RX9_330 : x_F CL FK RX9 330 7 4 0 .int false true := ⟨RX9, TX9, 86, tyX9, rfl, by decide, by decide, rfl, (List.mem_append_right _ (List.mem_of_getElem? (i := 1221) (by decide +kernel))), inW9, tyX9_ok, nmX9, rfl, rfl, fun _ h => by cases h⟩
theorem F_RX9_333 : x_F CL FK RX9 333 7 5 0 .int false true := ⟨RX9, TX9, 86, tyX9, rfl, by decide, by decide, rfl, (List.mem_append_right _ (List.mem_of_getElem? (i := 1222) (by decide +kernel))), inW9, tyX9_ok, nmX9, rfl, rfl, fun _ h => by cases h⟩
theorem F_RX9_13 : x_F CL FK RX9 13 7 6 0 .int false true := ⟨RX9, TX9, 86, tyX9, rfl, by decide, by decide, rfl, (List.mem_append_right _ (List.mem_of_getElem? (i := 1223) (by decide +kernel))), inW9, tyX9_ok, nmX9, rfl, rfl, fun _ h => by cases h⟩
theorem F_RX9_16 : x_F CL FK RX9 16 7 7 0 .int false true := ⟨RX9, TX9, 86, tyX9, rfl, by decide, by decide, rfl, (List.mem_append_right _ (List.mem_of_getElem? (i := 1224) (by decide +kernel))), inW9, tyX9_ok, nmX9, rfl, rfl, fun _ h => by cases h⟩
theorem F_RX9_19 : x_F CL FK RX9 19 7 8 2 (.array .int) true true := ⟨RX9, TX9, 86, tyX9, rfl, by decide, by decide, rfl, (List.mem_append_right _ (List.mem_of_getElem? (i := 1225) (by decide +kernel))), inW9, tyX9_ok, nmX9, rfl, rfl, fun _ _ => rfl⟩
theorem F_RX9_23 : x_F CL FK RX9 23 7 9 2 (.array .int) true true := ⟨RX9, TX9, 86, tyX9, rfl, by decide, by decide, rfl, (List.mem_append_right _ (List.mem_of_getElem? (i := 1226) (by decide +kernel))), inW9, tyX9_ok, nmX9, rfl, rfl, fun _ _ => rfl⟩
theorem F_RX9_26 : x_F CL FK RX9 26 7 10 2 (.array .int) true true := ⟨RX9, TX9, 86, tyX9, rfl, by decide, by decide, rfl, (List.mem_append_right _ (List.mem_of_getElem? (i := 1227) (by decide +kernel))), inW9, tyX9_ok, nmX9, rfl, rfl, fun _ _ => rfl⟩
theorem F_RX9_29 : x_F CL FK RX9 29 7 11 2 (.array .int) true true := ⟨RX9, TX9, 86, tyX9, rfl, by decide, by decide, rfl, (List.mem_append_right _ (List.mem_of_getElem? (i := 1228) (by decide +kernel))), inW9, tyX9_ok, nmX9, rfl, rfl, fun _ _ => rfl⟩
theorem F_RX9_32 : x_F CL FK RX9 32 7 12 2 (.array .int) true true := ⟨RX9, TX9, 86, tyX9, rfl, by decide, by decide, rfl, (List.mem_append_right _ (List.mem_of_getElem? (i := 1229) (by decide +kernel))), inW9, tyX9_ok, nmX9, rfl, rfl, fun _ _ => rfl⟩
theorem F_RX9_35 : x_F CL FK RX9 35 7 13 2 (.array .int) true true := ⟨RX9, TX9, 86, tyX9, rfl, by decide, by decide, rfl, (List.mem_append_right _ (List.mem_of_getElem? (i := 1230) (by decide +kernel))), inW9, tyX9_ok, nmX9, rfl, rfl, fun _ _ => rfl⟩
theorem F_RX9_38 : x_F CL FK RX9 38 7 14 2 (.array .int) true true := ⟨RX9, TX9, 86, tyX9, rfl, by decide, by decide, rfl, (List.mem_append_right _ (List.mem_of_getElem? (i := 1231) (by decide +kernel))), inW9, tyX9_ok, nmX9, rfl, rfl, fun _ _ => rfl⟩
theorem F_RX9_135 : x_F CL FK RX9 135 7 15 0 .int false true := ⟨RX9, TX9, 86, tyX9, rfl, by decide, by decide, rfl, (List.mem_append_right _ (List.mem_of_getElem? (i := 1232) (by decide +kernel))), inW9, tyX9_ok, nmX9, rfl, rfl, fun _ h => by cases h⟩
theorem F_RX9_188 : x_F CL FK RX9 188 7 16 0 .int false true := ⟨RX9, TX9, 86, tyX9, rfl, by decide, by decide, rfl, (List.mem_append_right _ (List.mem_of_getElem? (i := 1233) (by decide +kernel))), inW9, tyX9_ok, nmX9, rfl, rfl, fun _ h => by cases h⟩
theorem F_RX9_41 : x_F CL FK RX9 41 7 17 0 .int false true := ⟨RX9, TX9, 86, tyX9, rfl, by decide, by decide, rfl, (List.mem_append_right _ (List.mem_of_getElem? (i := 1234) (by decide +kernel))), inW9, tyX9_ok, nmX9, rfl, rfl, fun _ h => by cases h⟩
theorem F_RX9_44 : x_F CL FK RX9 44 7 18 2 (.array .int) true true := ⟨RX9, TX9, 86, tyX9, rfl, by decide, by decide, rfl, (List.mem_append_right _ (List.mem_of_getElem? (i := 1235) (by decide +kernel))), inW9, tyX9_ok, nmX9, rfl, rfl, fun _ _ => rfl⟩
theorem F_RX9_142 : x_F CL FK RX9 142 7 19 0 .int false true := ⟨RX9, TX9, 86, tyX9, rfl, by decide, by decide, rfl, (List.mem_append_right _ (List.mem_of_getElem? (i := 1236) (by decide +kernel))), inW9, tyX9_ok, nmX9, rfl, rfl, fun _ h => by cases h⟩
theorem F_RX9_145 : x_F CL FK RX9 145 7 20 0 .int false true := ⟨RX9, TX9, 86, tyX9, rfl, by decide, by decide, rfl, (List.mem_append_right _ (List.mem_of_getElem? (i := 1237) (by decide +kernel))), inW9, tyX9_ok, nmX9, rfl, rfl, fun _ h => by cases h⟩
theorem F_RX9_165 : x_F CL FK RX9 165 7 21 0 .int false true := ⟨RX9, TX9, 86, tyX9, rfl, by decide, by decide, rfl, (List.mem_append_right _ (List.mem_of_getElem? (i := 1238) (by decide +kernel))), inW9, tyX9_ok, nmX9, rfl, rfl, fun _ h => by cases h⟩
theorem F_RX9_152 : x_F CL FK RX9 152 7 22 0 .int false true := ⟨RX9, TX9, 86, tyX9, rfl, by decide, by decide, rfl, (List.mem_append_right _ (List.mem_of_getElem? (i := 1239) (by decide +kernel))), inW9, tyX9_ok, nmX9, rfl, rfl, fun _ h => by cases h⟩
theorem F_RX9_175 : x_F CL FK RX9 175 7 23 0 .int false true := ⟨RX9, TX9, 86, tyX9, rfl, by decide, by decide, rfl, (List.mem_append_right _ (List.mem_of_getElem? (i := 1240) (by decide +kernel))), inW9, tyX9_ok, nmX9, rfl, rfl, fun _ h => by cases h⟩
theorem F_RX9_159 : x_F CL FK RX9 159 7 24 0 .int false true := ⟨RX9, TX9, 86, tyX9, rfl, by decide, by decide, rfl, (List.mem_append_right _ (List.mem_of_getElem? (i := 1241) (by decide +kernel))), inW9, tyX9_ok, nmX9, rfl, rfl, fun _ h => by cases h⟩
theorem F_RX9_162 : x_F CL FK RX9 162 7 25 0 .int false true := ⟨RX9, TX9, 86, tyX9, rfl, by decide, by decide, rfl, (List.mem_append_right _ (List.mem_of_getElem? (i := 1242) (by decide +kernel))), inW9, tyX9_ok, nmX9, rfl, rfl, fun _ h => by cases h⟩
theorem F_RX9_155 : x_F CL FK RX9 155 7 26 1 .long false true := ⟨RX9, TX9, 86, tyX9, rfl, by decide, by decide, rfl, (List.mem_append_right _ (List.mem_of_getElem? (i := 1243) (by decide +kernel))), inW9, tyX9_ok, nmX9, rfl, rfl, fun _ h => by cases h⟩
theorem F_RX9_318 : x_F CL FK RX9 318 7 27 0 .int false true := ⟨RX9, TX9, 86, tyX9, rfl, by decide, by decide, rfl, (List.mem_append_right _ (List.mem_of_getElem? (i := 1244) (by decide +kernel))), inW9, tyX9_ok, nmX9, rfl, rfl, fun _ h => by cases h⟩
theorem F_RX9_261 : x_F CL FK RX9 261 7 28 0 .int false true := ⟨RX9, TX9, 86, tyX9, rfl, by decide, by decide, rfl, (List.mem_append_right _ (List.mem_of_getElem? (i := 1245) (by decide +kernel))), inW9, tyX9_ok, nmX9, rfl, rfl, fun _ h => by cases h⟩
theorem F_RX9_274 : x_F CL FK RX9 274 7 29 0 .int false true := ⟨RX9, TX9, 86, tyX9, rfl, by decide, by decide, rfl, (List.mem_append_right _ (List.mem_of_getElem? (i := 1246) (by decide +kernel))), inW9, tyX9_ok, nmX9, rfl, rfl, fun _ h => by cases h⟩
theorem F_RX9_277 : x_F CL FK RX9 277 7 30 0 .int false true := ⟨RX9, TX9, 86, tyX9, rfl, by decide, by decide, rfl, (List.mem_append_right _ (List.mem_of_getElem? (i := 1247) (by decide +kernel))), inW9, tyX9_ok, nmX9, rfl, rfl, fun _ h => by cases h⟩
theorem F_RX9_280 : x_F CL FK RX9 280 7 31 0 .int false true := ⟨RX9, TX9, 86, tyX9, rfl, by decide, by decide, rfl, (List.mem_append_right _ (List.mem_of_getElem? (i := 1248) (by decide +kernel))), inW9, tyX9_ok, nmX9, rfl, rfl, fun _ h => by cases h⟩
theorem F_RX9_290 : x_F CL FK RX9 290 7 32 0 .int false true := ⟨RX9, TX9, 86, tyX9, rfl, by decide, by decide, rfl, (List.mem_append_right _ (List.mem_of_getElem? (i := 1249) (by decide +kernel))), inW9, tyX9_ok, nmX9, rfl, rfl, fun _ h => by cases h⟩
theorem F_RX9_293 : x_F CL FK RX9 293 7 33 0 .int false true := ⟨RX9, TX9, 86, tyX9, rfl, by decide, by decide, rfl, (List.mem_append_right _ (List.mem_of_getElem? (i := 1250) (by decide +kernel))), inW9, tyX9_ok, nmX9, rfl, rfl, fun _ h => by cases h⟩
theorem F_RX9_271 : x_F CL FK RX9 271 7 34 0 .int false true := ⟨RX9, TX9, 86, tyX9, rfl, by decide, by decide, rfl, (List.mem_append_right _ (List.mem_of_getElem? (i := 1251) (by decide +kernel))), inW9, tyX9_ok, nmX9, rfl, rfl, fun _ h => by cases h⟩
theorem F_RX9_264 : x_F CL FK RX9 264 7 35 0 .int false true := ⟨RX9, TX9, 86, tyX9, rfl, by decide, by decide, rfl, (List.mem_append_right _ (List.mem_of_getElem? (i := 1252) (by decide +kernel))), inW9, tyX9_ok, nmX9, rfl, rfl, fun _ h => by cases h⟩
theorem F_RX9_258 : x_F CL FK RX9 258 7 37 0 .int false true := ⟨RX9, TX9, 86, tyX9, rfl, by decide, by decide, rfl, (List.mem_append_right _ (List.mem_of_getElem? (i := 1253) (by decide +kernel))), inW9, tyX9_ok, nmX9, rfl, rfl, fun _ h => by cases h⟩
theorem F_RX9_224 : x_F CL FK RX9 224 7 38 0 .int false true := ⟨RX9, TX9, 86, tyX9, rfl, by decide, by decide, rfl, (List.mem_append_right _ (List.mem_of_getElem? (i := 1254) (by decide +kernel))), inW9, tyX9_ok, nmX9, rfl, rfl, fun _ h => by cases h⟩
theorem F_RX9_227 : x_F CL FK RX9 227 7 39 0 .int false true := ⟨RX9, TX9, 86, tyX9, rfl, by decide, by decide, rfl, (List.mem_append_right _ (List.mem_of_getElem? (i := 1255) (by decide +kernel))), inW9, tyX9_ok, nmX9, rfl, rfl, fun _ h => by cases h⟩
theorem F_RX9_205 : x_F CL FK RX9 205 7 40 0 .int false true := ⟨RX9, TX9, 86, tyX9, rfl, by decide, by decide, rfl, (List.mem_append_right _ (List.mem_of_getElem? (i := 1256) (by decide +kernel))), inW9, tyX9_ok, nmX9, rfl, rfl, fun _ h => by cases h⟩
theorem F_RX9_208 : x_F CL FK RX9 208 7 41 0 .int false true := ⟨RX9, TX9, 86, tyX9, rfl, by decide, by decide, rfl, (List.mem_append_right _ (List.mem_of_getElem? (i := 1257) (by decide +kernel))), inW9, tyX9_ok, nmX9, rfl, rfl, fun _ h => by cases h⟩
theorem F_RX9_230 : x_F CL FK RX9 230 7 42 0 .int false true := ⟨RX9, TX9, 86, tyX9, rfl, by decide, by decide, rfl, (List.mem_append_right _ (List.mem_of_getElem? (i := 1258) (by decide +kernel))), inW9, tyX9_ok, nmX9, rfl, rfl, fun _ h => by cases h⟩
theorem F_RX9_47 : x_F CL FK RX9 47 7 43 2 (.array .int) true true := ⟨RX9, TX9, 86, tyX9, rfl, by decide, by decide, rfl, (List.mem_append_right _ (List.mem_of_getElem? (i := 1259) (by decide +kernel))), inW9, tyX9_ok, nmX9, rfl, rfl, fun _ _ => rfl⟩
theorem F_RX9_50 : x_F CL FK RX9 50 7 44 2 (.array .int) true true := ⟨RX9, TX9, 86, tyX9, rfl, by decide, by decide, rfl, (List.mem_append_right _ (List.mem_of_getElem? (i := 1260) (by decide +kernel))), inW9, tyX9_ok, nmX9, rfl, rfl, fun _ _ => rfl⟩
theorem F_RX9_53 : x_F CL FK RX9 53 7 45 2 (.array .int) true true := ⟨RX9, TX9, 86, tyX9, rfl, by decide, by decide, rfl, (List.mem_append_right _ (List.mem_of_getElem? (i := 1261) (by decide +kernel))), inW9, tyX9_ok, nmX9, rfl, rfl, fun _ _ => rfl⟩
theorem F_RX9_56 : x_F CL FK RX9 56 7 46 2 (.array .int) true true := ⟨RX9, TX9, 86, tyX9, rfl, by decide, by decide, rfl, (List.mem_append_right _ (List.mem_of_getElem? (i := 1262) (by decide +kernel))), inW9, tyX9_ok, nmX9, rfl, rfl, fun _ _ => rfl⟩
theorem F_RX9_59 : x_F CL FK RX9 59 7 47 2 (.array .int) true true := ⟨RX9, TX9, 86, tyX9, rfl, by decide, by decide, rfl, (List.mem_append_right _ (List.mem_of_getElem? (i := 1263) (by decide +kernel))), inW9, tyX9_ok, nmX9, rfl, rfl, fun _ _ => rfl⟩
theorem F_RX9_62 : x_F CL FK RX9 62 7 48 2 (.array .int) true true := ⟨RX9, TX9, 86, tyX9, rfl, by decide, by decide, rfl, (List.mem_append_right _ (List.mem_of_getElem? (i := 1264) (by decide +kernel))), inW9, tyX9_ok, nmX9, rfl, rfl, fun _ _ => rfl⟩
theorem F_RX9_65 : x_F CL FK RX9 65 7 49 2 (.array .int) true true := ⟨RX9, TX9, 86, tyX9, rfl, by decide, by decide, rfl, (List.mem_append_right _ (List.mem_of_getElem? (i := 1265) (by decide +kernel))), inW9, tyX9_ok, nmX9, rfl, rfl, fun _ _ => rfl⟩
theorem F_RX9_68 : x_F CL FK RX9 68 7 50 2 (.array .int) true true := ⟨RX9, TX9, 86, tyX9, rfl, by decide, by decide, rfl, (List.mem_append_right _ (List.mem_of_getElem? (i := 1266) (by decide +kernel))), inW9, tyX9_ok, nmX9, rfl, rfl, fun _ _ => rfl⟩
theorem F_RX9_71 : x_F CL FK RX9 71 7 51 2 (.array .int) true true := ⟨RX9, TX9, 86, tyX9, rfl, by decide, by decide, rfl, (List.mem_append_right _ (List.mem_of_getElem? (i := 1267) (by decide +kernel))), inW9, tyX9_ok, nmX9, rfl, rfl, fun _ _ => rfl⟩
theorem F_RX9_74 : x_F CL FK RX9 74 7 52 2 (.array .boolean) true true := ⟨RX9, TX9, 86, tyX9, rfl, by decide, by decide, rfl, (List.mem_append_right _ (List.mem_of_getElem? (i := 1268) (by decide +kernel))), inW9, tyX9_ok, nmX9, rfl, rfl, fun _ _ => rfl⟩
theorem F_RX9_78 : x_F CL FK RX9 78 7 53 2 (.array .int) true true := ⟨RX9, TX9, 86, tyX9, rfl, by decide, by decide, rfl, (List.mem_append_right _ (List.mem_of_getElem? (i := 1269) (by decide +kernel))), inW9, tyX9_ok, nmX9, rfl, rfl, fun _ _ => rfl⟩
theorem F_RX9_81 : x_F CL FK RX9 81 7 54 2 (.array .int) true true := ⟨RX9, TX9, 86, tyX9, rfl, by decide, by decide, rfl, (List.mem_append_right _ (List.mem_of_getElem? (i := 1270) (by decide +kernel))), inW9, tyX9_ok, nmX9, rfl, rfl, fun _ _ => rfl⟩
theorem F_RX9_84 : x_F CL FK RX9 84 7 55 2 (.array .int) true true := ⟨RX9, TX9, 86, tyX9, rfl, by decide, by decide, rfl, (List.mem_append_right _ (List.mem_of_getElem? (i := 1271) (by decide +kernel))), inW9, tyX9_ok, nmX9, rfl, rfl, fun _ _ => rfl⟩
theorem F_RX9_340 : x_F CL FK RX9 340 7 56 0 .int false true := ⟨RX9, TX9, 86, tyX9, rfl, by decide, by decide, rfl, (List.mem_append_right _ (List.mem_of_getElem? (i := 1272) (by decide +kernel))), inW9, tyX9_ok, nmX9, rfl, rfl, fun _ h => by cases h⟩
theorem F_RX9_87 : x_F CL FK RX9 87 7 57 2 (.array .int) true true := ⟨RX9, TX9, 86, tyX9, rfl, by decide, by decide, rfl, (List.mem_append_right _ (List.mem_of_getElem? (i := 1273) (by decide +kernel))), inW9, tyX9_ok, nmX9, rfl, rfl, fun _ _ => rfl⟩
theorem F_RX9_90 : x_F CL FK RX9 90 7 58 2 (.array .int) true true := ⟨RX9, TX9, 86, tyX9, rfl, by decide, by decide, rfl, (List.mem_append_right _ (List.mem_of_getElem? (i := 1274) (by decide +kernel))), inW9, tyX9_ok, nmX9, rfl, rfl, fun _ _ => rfl⟩
theorem F_RX9_357 : x_F CL FK RX9 357 7 59 0 .int false true := ⟨RX9, TX9, 86, tyX9, rfl, by decide, by decide, rfl, (List.mem_append_right _ (List.mem_of_getElem? (i := 1275) (by decide +kernel))), inW9, tyX9_ok, nmX9, rfl, rfl, fun _ h => by cases h⟩
theorem F_RX9_378 : x_F CL FK RX9 378 7 60 0 .int false true := ⟨RX9, TX9, 86, tyX9, rfl, by decide, by decide, rfl, (List.mem_append_right _ (List.mem_of_getElem? (i := 1276) (by decide +kernel))), inW9, tyX9_ok, nmX9, rfl, rfl, fun _ h => by cases h⟩
theorem F_RX9_93 : x_F CL FK RX9 93 7 61 2 (.array .int) true true := ⟨RX9, TX9, 86, tyX9, rfl, by decide, by decide, rfl, (List.mem_append_right _ (List.mem_of_getElem? (i := 1277) (by decide +kernel))), inW9, tyX9_ok, nmX9, rfl, rfl, fun _ _ => rfl⟩
theorem F_RX9_96 : x_F CL FK RX9 96 7 62 2 (.array .int) true true := ⟨RX9, TX9, 86, tyX9, rfl, by decide, by decide, rfl, (List.mem_append_right _ (List.mem_of_getElem? (i := 1278) (by decide +kernel))), inW9, tyX9_ok, nmX9, rfl, rfl, fun _ _ => rfl⟩
theorem F_RX9_99 : x_F CL FK RX9 99 7 63 2 (.array .int) true true := ⟨RX9, TX9, 86, tyX9, rfl, by decide, by decide, rfl, (List.mem_append_right _ (List.mem_of_getElem? (i := 1279) (by decide +kernel))), inW9, tyX9_ok, nmX9, rfl, rfl, fun _ _ => rfl⟩
theorem F_RX9_384 : x_F CL FK RX9 384 7 64 0 .int false true := ⟨RX9, TX9, 86, tyX9, rfl, by decide, by decide, rfl, (List.mem_append_right _ (List.mem_of_getElem? (i := 1280) (by decide +kernel))), inW9, tyX9_ok, nmX9, rfl, rfl, fun _ h => by cases h⟩
theorem F_RX9_448 : x_F CL FK RX9 448 7 65 0 .int false true := ⟨RX9, TX9, 86, tyX9, rfl, by decide, by decide, rfl, (List.mem_append_right _ (List.mem_of_getElem? (i := 1281) (by decide +kernel))), inW9, tyX9_ok, nmX9, rfl, rfl, fun _ h => by cases h⟩
theorem F_RX9_451 : x_F CL FK RX9 451 7 66 0 .int false true := ⟨RX9, TX9, 86, tyX9, rfl, by decide, by decide, rfl, (List.mem_append_right _ (List.mem_of_getElem? (i := 1282) (by decide +kernel))), inW9, tyX9_ok, nmX9, rfl, rfl, fun _ h => by cases h⟩
theorem F_RX9_454 : x_F CL FK RX9 454 7 67 0 .int false true := ⟨RX9, TX9, 86, tyX9, rfl, by decide, by decide, rfl, (List.mem_append_right _ (List.mem_of_getElem? (i := 1283) (by decide +kernel))), inW9, tyX9_ok, nmX9, rfl, rfl, fun _ h => by cases h⟩
theorem F_RX9_102 : x_F CL FK RX9 102 7 68 0 .int false true := ⟨RX9, TX9, 86, tyX9, rfl, by decide, by decide, rfl, (List.mem_append_right _ (List.mem_of_getElem? (i := 1284) (by decide +kernel))), inW9, tyX9_ok, nmX9, rfl, rfl, fun _ h => by cases h⟩
theorem F_RX9_466 : x_F CL FK RX9 466 7 69 0 .int false true := ⟨RX9, TX9, 86, tyX9, rfl, by decide, by decide, rfl, (List.mem_append_right _ (List.mem_of_getElem? (i := 1285) (by decide +kernel))), inW9, tyX9_ok, nmX9, rfl, rfl, fun _ h => by cases h⟩
theorem F_RX9_105 : x_F CL FK RX9 105 7 70 2 (.array .int) true true := ⟨RX9, TX9, 86, tyX9, rfl, by decide, by decide, rfl, (List.mem_append_right _ (List.mem_of_getElem? (i := 1286) (by decide +kernel))), inW9, tyX9_ok, nmX9, rfl, rfl, fun _ _ => rfl⟩
theorem F_RX9_108 : x_F CL FK RX9 108 7 71 2 (.array .int) true true := ⟨RX9, TX9, 86, tyX9, rfl, by decide, by decide, rfl, (List.mem_append_right _ (List.mem_of_getElem? (i := 1287) (by decide +kernel))), inW9, tyX9_ok, nmX9, rfl, rfl, fun _ _ => rfl⟩
theorem F_RX9_111 : x_F CL FK RX9 111 7 72 2 (.array .int) true true := ⟨RX9, TX9, 86, tyX9, rfl, by decide, by decide, rfl, (List.mem_append_right _ (List.mem_of_getElem? (i := 1288) (by decide +kernel))), inW9, tyX9_ok, nmX9, rfl, rfl, fun _ _ => rfl⟩
theorem F_RX9_475 : x_F CL FK RX9 475 7 73 0 .int false true := ⟨RX9, TX9, 86, tyX9, rfl, by decide, by decide, rfl, (List.mem_append_right _ (List.mem_of_getElem? (i := 1289) (by decide +kernel))), inW9, tyX9_ok, nmX9, rfl, rfl, fun _ h => by cases h⟩
theorem F_RX9_343 : x_F CL FK RX9 343 7 74 0 .int false true := ⟨RX9, TX9, 86, tyX9, rfl, by decide, by decide, rfl, (List.mem_append_right _ (List.mem_of_getElem? (i := 1290) (by decide +kernel))), inW9, tyX9_ok, nmX9, rfl, rfl, fun _ h => by cases h⟩
theorem F_RX9_114 : x_F CL FK RX9 114 7 75 2 (.array .int) true true := ⟨RX9, TX9, 86, tyX9, rfl, by decide, by decide, rfl, (List.mem_append_right _ (List.mem_of_getElem? (i := 1291) (by decide +kernel))), inW9, tyX9_ok, nmX9, rfl, rfl, fun _ _ => rfl⟩
theorem F_RX9_346 : x_F CL FK RX9 346 7 76 0 .int false true := ⟨RX9, TX9, 86, tyX9, rfl, by decide, by decide, rfl, (List.mem_append_right _ (List.mem_of_getElem? (i := 1292) (by decide +kernel))), inW9, tyX9_ok, nmX9, rfl, rfl, fun _ h => by cases h⟩
theorem F_RX9_117 : x_F CL FK RX9 117 7 77 2 (.array .int) true true := ⟨RX9, TX9, 86, tyX9, rfl, by decide, by decide, rfl, (List.mem_append_right _ (List.mem_of_getElem? (i := 1293) (by decide +kernel))), inW9, tyX9_ok, nmX9, rfl, rfl, fun _ _ => rfl⟩
theorem F_RX9_349 : x_F CL FK RX9 349 7 78 0 .boolean false true := ⟨RX9, TX9, 86, tyX9, rfl, by decide, by decide, rfl, (List.mem_append_right _ (List.mem_of_getElem? (i := 1294) (by decide +kernel))), inW9, tyX9_ok, nmX9, rfl, rfl, fun _ h => by cases h⟩
theorem F_RX9_485 : x_F CL FK RX9 485 7 79 0 .int false true := ⟨RX9, TX9, 86, tyX9, rfl, by decide, by decide, rfl, (List.mem_append_right _ (List.mem_of_getElem? (i := 1295) (by decide +kernel))), inW9, tyX9_ok, nmX9, rfl, rfl, fun _ h => by cases h⟩
theorem F_RX9_488 : x_F CL FK RX9 488 7 80 0 .int false true := ⟨RX9, TX9, 86, tyX9, rfl, by decide, by decide, rfl, (List.mem_append_right _ (List.mem_of_getElem? (i := 1296) (by decide +kernel))), inW9, tyX9_ok, nmX9, rfl, rfl, fun _ h => by cases h⟩
theorem F_RX9_491 : x_F CL FK RX9 491 7 81 0 .int false true := ⟨RX9, TX9, 86, tyX9, rfl, by decide, by decide, rfl, (List.mem_append_right _ (List.mem_of_getElem? (i := 1297) (by decide +kernel))), inW9, tyX9_ok, nmX9, rfl, rfl, fun _ h => by cases h⟩
theorem F_RX9_120 : x_F CL FK RX9 120 7 82 2 (.array .int) true true := ⟨RX9, TX9, 86, tyX9, rfl, by decide, by decide, rfl, (List.mem_append_right _ (List.mem_of_getElem? (i := 1298) (by decide +kernel))), inW9, tyX9_ok, nmX9, rfl, rfl, fun _ _ => rfl⟩
theorem F_RX9_123 : x_F CL FK RX9 123 7 83 2 (.array .int) true true := ⟨RX9, TX9, 86, tyX9, rfl, by decide, by decide, rfl, (List.mem_append_right _ (List.mem_of_getElem? (i := 1299) (by decide +kernel))), inW9, tyX9_ok, nmX9, rfl, rfl, fun _ _ => rfl⟩
theorem F_RX9_126 : x_F CL FK RX9 126 7 84 2 (.array .int) true true := ⟨RX9, TX9, 86, tyX9, rfl, by decide, by decide, rfl, (List.mem_append_right _ (List.mem_of_getElem? (i := 1300) (by decide +kernel))), inW9, tyX9_ok, nmX9, rfl, rfl, fun _ _ => rfl⟩
theorem F_RX9_129 : x_F CL FK RX9 129 7 85 2 (.array .int) true true := ⟨RX9, TX9, 86, tyX9, rfl, by decide, by decide, rfl, (List.mem_append_right _ (List.mem_of_getElem? (i := 1301) (by decide +kernel))), inW9, tyX9_ok, nmX9, rfl, rfl, fun _ _ => rfl⟩
