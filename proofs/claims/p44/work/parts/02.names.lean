def RX0 : String := "ScalesByHate$Bazaar"
def TX0 : u_T := fun k => match k with
  | 0 => ("ScalesByHate$Bazaar", "size", "I", false)
  | _ => ("ScalesByHate$Bazaar", "numbers", "[I", true)
def tyX0 : Nat → FieldType := fun k => match k with
  | 0 => .int
  | _ => .array .int
abbrev wsX00 : List Cond := u_ws RX0 TX0 2
theorem nmX0 : ∀ a, a < 2 → ∀ b, b < 2 → a ≠ b → (TX0 a).2.1 ≠ (TX0 b).2.1 := by decide +kernel
theorem tyX0_ok : ∀ k, k < 2 → parseFieldDescriptor (TX0 k).2.2.1 = some (tyX0 k) := by decide +kernel
abbrev cX0_init : ByteArray := prog_2_method_1_code
def yX0_init : MethodName := ⟨RX0, "<init>", "()V"⟩
abbrev cX0_mayCome : ByteArray := prog_2_method_2_code
def yX0_mayCome : MethodName := ⟨RX0, "mayCome", "(II)Z"⟩
abbrev cX0_isFeeling : ByteArray := prog_2_method_3_code
def yX0_isFeeling : MethodName := ⟨RX0, "isFeeling", "(I)Z"⟩
abbrev cX0_mostOf : ByteArray := prog_2_method_4_code
def yX0_mostOf : MethodName := ⟨RX0, "mostOf", "(I)I"⟩
abbrev cX0_placeOfFeeling : ByteArray := prog_2_method_5_code
def yX0_placeOfFeeling : MethodName := ⟨RX0, "placeOfFeeling", "(II)I"⟩
abbrev cX0_admit : ByteArray := prog_2_method_6_code
def yX0_admit : MethodName := ⟨RX0, "adm" ++ "it", "(II)I"⟩
abbrev cX0_has : ByteArray := prog_2_method_7_code
def yX0_has : MethodName := ⟨RX0, "has", "(I)Z"⟩
abbrev cX0_hasPair : ByteArray := prog_2_method_8_code
def yX0_hasPair : MethodName := ⟨RX0, "hasPair", "(I)Z"⟩
abbrev cX0_placeOf : ByteArray := prog_2_method_9_code
def yX0_placeOf : MethodName := ⟨RX0, "placeOf", "(II)I"⟩
abbrev cX0_numberAt : ByteArray := prog_2_method_10_code
def yX0_numberAt : MethodName := ⟨RX0, "numberAt", "(I)I"⟩
abbrev cX0_setNumber : ByteArray := prog_2_method_11_code
def yX0_setNumber : MethodName := ⟨RX0, "setNumber", "(II)V"⟩
abbrev cX0_hungerOf : ByteArray := prog_2_method_12_code
def yX0_hungerOf : MethodName := ⟨RX0, "hungerOf", "(I)I"⟩
abbrev cX0_hungerMore : ByteArray := prog_2_method_13_code
def yX0_hungerMore : MethodName := ⟨RX0, "hungerMore", "(II)V"⟩
abbrev cX0_hungerLess : ByteArray := prog_2_method_14_code
def yX0_hungerLess : MethodName := ⟨RX0, "hungerLess", "(II)V"⟩
abbrev cX0_felt : ByteArray := prog_2_method_15_code
def yX0_felt : MethodName := ⟨RX0, "felt", "(II)I"⟩
abbrev cX0_setFelt : ByteArray := prog_2_method_16_code
def yX0_setFelt : MethodName := ⟨RX0, "setFelt", "(III)V"⟩
abbrev cX0_friendOf : ByteArray := prog_2_method_17_code
def yX0_friendOf : MethodName := ⟨RX0, "friendOf", "(II)I"⟩
abbrev cX0_hatersOf : ByteArray := prog_2_method_19_code
def yX0_hatersOf : MethodName := ⟨RX0, "hatersOf", "(I)I"⟩
abbrev cX0_feelingsBelowNone : ByteArray := prog_2_method_21_code
def yX0_feelingsBelowNone : MethodName := ⟨RX0, "feelingsBelowNone", "()I"⟩
abbrev cX0_endDay : ByteArray := prog_2_method_25_code
def yX0_endDay : MethodName := ⟨RX0, "endDay", "(I)V"⟩
abbrev cX0_fade : ByteArray := prog_2_method_26_code
def yX0_fade : MethodName := ⟨RX0, "fade", "()V"⟩
abbrev cX0_takeOver : ByteArray := prog_2_method_27_code
def yX0_takeOver : MethodName := ⟨RX0, "takeOver", "(LScalesByHate$Bazaar;)V"⟩
def RX1 : String := "ScalesByHate$Book"
def TX1 : u_T := fun k => match k with
  | 0 => ("ScalesByHate$Book", "counts", "[I", true)
  | 1 => ("ScalesByHate$Book", "tale", "[I", true)
  | 2 => ("ScalesByHate$Book", "taleLength", "I", false)
  | 3 => ("ScalesByHate$Book", "imageOfBazaar", "LScalesByHate$Bazaar;", true)
  | 4 => ("ScalesByHate$Book", "imageOfCounts", "[I", true)
  | _ => ("ScalesByHate$Book", "hasImage", "Z", false)
def tyX1 : Nat → FieldType := fun k => match k with
  | 0 => .array .int
  | 1 => .array .int
  | 2 => .int
  | 3 => .object "ScalesByHate$Bazaar"
  | 4 => .array .int
  | _ => .boolean
abbrev wsX10 : List Cond := u_ws RX1 TX1 6
theorem nmX1 : ∀ a, a < 6 → ∀ b, b < 6 → a ≠ b → (TX1 a).2.1 ≠ (TX1 b).2.1 := by decide +kernel
theorem tyX1_ok : ∀ k, k < 6 → parseFieldDescriptor (TX1 k).2.2.1 = some (tyX1 k) := by decide +kernel
abbrev cX1_init : ByteArray := prog_3_method_1_code
def yX1_init : MethodName := ⟨RX1, "<init>", "()V"⟩
abbrev cX1_add : ByteArray := prog_3_method_2_code
def yX1_add : MethodName := ⟨RX1, "add", "(II)V"⟩
abbrev cX1_told : ByteArray := prog_3_method_3_code
def yX1_told : MethodName := ⟨RX1, "told", "(I)I"⟩
abbrev cX1_tell : ByteArray := prog_3_method_4_code
def yX1_tell : MethodName := ⟨RX1, "tell", "(LScalesByHate$Round;I)V"⟩
abbrev cX1_write : ByteArray := prog_3_method_5_code
def yX1_write : MethodName := ⟨RX1, "write", "(I)V"⟩
abbrev cX1_taleLength : ByteArray := prog_3_method_6_code
def yX1_taleLength : MethodName := ⟨RX1, "taleLength", "()I"⟩
abbrev cX1_taleByte : ByteArray := prog_3_method_7_code
def yX1_taleByte : MethodName := ⟨RX1, "taleByte", "(I)I"⟩
def RX2 : String := "ScalesByHate$Changes"
def TX2 : u_T := fun k => match k with
  | 0 => ("ScalesByHate$Changes", "places", "[I", true)
  | 1 => ("ScalesByHate$Changes", "before", "[I", true)
  | 2 => ("ScalesByHate$Changes", "after", "[I", true)
  | 3 => ("ScalesByHate$Changes", "done", "I", false)
  | _ => ("ScalesByHate$Changes", "all", "I", false)
def tyX2 : Nat → FieldType := fun k => match k with
  | 0 => .array .int
  | 1 => .array .int
  | 2 => .array .int
  | 3 => .int
  | _ => .int
abbrev wsX20 : List Cond := u_ws RX2 TX2 5
theorem nmX2 : ∀ a, a < 5 → ∀ b, b < 5 → a ≠ b → (TX2 a).2.1 ≠ (TX2 b).2.1 := by decide +kernel
theorem tyX2_ok : ∀ k, k < 5 → parseFieldDescriptor (TX2 k).2.2.1 = some (tyX2 k) := by decide +kernel
abbrev cX2_init : ByteArray := prog_4_method_1_code
def yX2_init : MethodName := ⟨RX2, "<init>", "()V"⟩
abbrev cX2_add : ByteArray := prog_4_method_2_code
def yX2_add : MethodName := ⟨RX2, "add", "(III)V"⟩
abbrev cX2_forgetFirst : ByteArray := prog_4_method_3_code
def yX2_forgetFirst : MethodName := ⟨RX2, "forgetFirst", "()V"⟩
abbrev cX2_undoable : ByteArray := prog_4_method_4_code
def yX2_undoable : MethodName := ⟨RX2, "undoable", "()I"⟩
def RX3 : String := "ScalesByHate$Law"
def TX3 : u_T := fun k => match k with
  | 0 => ("ScalesByHate$Law", "signs", "[I", true)
  | 1 => ("ScalesByHate$Law", "size", "I", false)
  | 2 => ("ScalesByHate$Law", "words", "[I", true)
  | _ => ("ScalesByHate$Law", "kept", "[I", true)
def tyX3 : Nat → FieldType := fun k => match k with
  | 0 => .array .int
  | 1 => .int
  | 2 => .array .int
  | _ => .array .int
abbrev wsX30 : List Cond := u_ws RX3 TX3 4
theorem nmX3 : ∀ a, a < 4 → ∀ b, b < 4 → a ≠ b → (TX3 a).2.1 ≠ (TX3 b).2.1 := by decide +kernel
theorem tyX3_ok : ∀ k, k < 4 → parseFieldDescriptor (TX3 k).2.2.1 = some (tyX3 k) := by decide +kernel
abbrev cX3_init : ByteArray := prog_5_method_1_code
def yX3_init : MethodName := ⟨RX3, "<init>", "()V"⟩
abbrev cX3_become : ByteArray := prog_5_method_2_code
def yX3_become : MethodName := ⟨RX3, "become", "(LScalesByHate$LawReader;)V"⟩
abbrev cX3_setWords : ByteArray := prog_5_method_3_code
def yX3_setWords : MethodName := ⟨RX3, "setWords", "(IIIII)V"⟩
abbrev cX3_weighedOut : ByteArray := prog_5_method_4_code
def yX3_weighedOut : MethodName := ⟨RX3, "weighedOut", "(I)I"⟩
abbrev cX3_held : ByteArray := prog_5_method_5_code
def yX3_held : MethodName := ⟨RX3, "held", "(I)I"⟩
abbrev cX3_joined : ByteArray := prog_5_method_6_code
def yX3_joined : MethodName := ⟨RX3, "joined", "(III)I"⟩
def RX4 : String := "ScalesByHate$LawReader"
def TX4 : u_T := fun k => match k with
  | 0 => ("ScalesByHate$LawReader", "signs", "[I", true)
  | 1 => ("ScalesByHate$LawReader", "size", "I", false)
  | 2 => ("ScalesByHate$LawReader", "bytes", "[I", true)
  | 3 => ("ScalesByHate$LawReader", "length", "I", false)
  | _ => ("ScalesByHate$LawReader", "at", "I", false)
def tyX4 : Nat → FieldType := fun k => match k with
  | 0 => .array .int
  | 1 => .int
  | 2 => .array .int
  | 3 => .int
  | _ => .int
abbrev wsX40 : List Cond := u_ws RX4 TX4 5
theorem nmX4 : ∀ a, a < 5 → ∀ b, b < 5 → a ≠ b → (TX4 a).2.1 ≠ (TX4 b).2.1 := by decide +kernel
theorem tyX4_ok : ∀ k, k < 5 → parseFieldDescriptor (TX4 k).2.2.1 = some (tyX4 k) := by decide +kernel
abbrev cX4_init : ByteArray := prog_6_method_1_code
def yX4_init : MethodName := ⟨RX4, "<init>", "()V"⟩
abbrev cX4_take : ByteArray := prog_6_method_2_code
def yX4_take : MethodName := ⟨RX4, "take", "(I)I"⟩
abbrev cX4_length : ByteArray := prog_6_method_3_code
def yX4_length : MethodName := ⟨RX4, "length", "()I"⟩
abbrev cX4_clear : ByteArray := prog_6_method_4_code
def yX4_clear : MethodName := ⟨RX4, "clear", "()V"⟩
abbrev cX4_read : ByteArray := prog_6_method_5_code
def yX4_read : MethodName := ⟨RX4, "read", "()I"⟩
abbrev cX4_readLine : ByteArray := prog_6_method_6_code
def yX4_readLine : MethodName := ⟨RX4, "readLine", "()Z"⟩
abbrev cX4_readLevel : ByteArray := prog_6_method_7_code
def yX4_readLevel : MethodName := ⟨RX4, "readLevel", "(II)Z"⟩
abbrev cX4_levelOf : ByteArray := prog_6_method_8_code
def yX4_levelOf : MethodName := ⟨RX4, "levelOf", "(I)I"⟩
abbrev cX4_readOperand : ByteArray := prog_6_method_9_code
def yX4_readOperand : MethodName := ⟨RX4, "readOperand", "(I)Z"⟩
abbrev cX4_readOpened : ByteArray := prog_6_method_10_code
def yX4_readOpened : MethodName := ⟨RX4, "readOpened", "(II)Z"⟩
abbrev cX4_readNumber : ByteArray := prog_6_method_11_code
def yX4_readNumber : MethodName := ⟨RX4, "readNumber", "()V"⟩
abbrev cX4_readWord : ByteArray := prog_6_method_12_code
def yX4_readWord : MethodName := ⟨RX4, "readWord", "()Z"⟩
abbrev cX4_isWord : ByteArray := prog_6_method_13_code
def yX4_isWord : MethodName := ⟨RX4, "isWord", "(Ljava/lang/String;I)Z"⟩
abbrev cX4_wordOf : ByteArray := prog_6_method_14_code
def yX4_wordOf : MethodName := ⟨RX4, "wordOf", "(I)Ljava/lang/String;"⟩
abbrev cX4_isDigit : ByteArray := prog_6_method_15_code
def yX4_isDigit : MethodName := ⟨RX4, "isDigit", "(I)Z"⟩
abbrev cX4_next : ByteArray := prog_6_method_16_code
def yX4_next : MethodName := ⟨RX4, "next", "()I"⟩
abbrev cX4_write : ByteArray := prog_6_method_17_code
def yX4_write : MethodName := ⟨RX4, "write", "(I)V"⟩
def RX5 : String := "ScalesByHate$Needles"
def TX5 : u_T := fun k => match k with
  | 0 => ("ScalesByHate$Needles", "kinds", "[I", true)
  | 1 => ("ScalesByHate$Needles", "bodies", "I", false)
  | 2 => ("ScalesByHate$Needles", "traced", "[I", true)
  | _ => ("ScalesByHate$Needles", "ran", "I", false)
def tyX5 : Nat → FieldType := fun k => match k with
  | 0 => .array .int
  | 1 => .int
  | 2 => .array .int
  | _ => .int
abbrev wsX50 : List Cond := u_ws RX5 TX5 4
theorem nmX5 : ∀ a, a < 4 → ∀ b, b < 4 → a ≠ b → (TX5 a).2.1 ≠ (TX5 b).2.1 := by decide +kernel
theorem tyX5_ok : ∀ k, k < 4 → parseFieldDescriptor (TX5 k).2.2.1 = some (tyX5 k) := by decide +kernel
abbrev cX5_init : ByteArray := prog_7_method_1_code
def yX5_init : MethodName := ⟨RX5, "<init>", "()V"⟩
abbrev cX5_bodies : ByteArray := prog_7_method_7_code
def yX5_bodies : MethodName := ⟨RX5, "bodies", "()I"⟩
abbrev cX5_ran : ByteArray := prog_7_method_10_code
def yX5_ran : MethodName := ⟨RX5, "ran", "()I"⟩
def RX6 : String := "ScalesByHate$Pairing"
def TX6 : u_T := fun k => match k with
  | 0 => ("ScalesByHate$Pairing", "bazaar", "LScalesByHate$Bazaar;", true)
  | 1 => ("ScalesByHate$Pairing", "prices", "[I", true)
  | 2 => ("ScalesByHate$Pairing", "least", "[I", true)
  | _ => ("ScalesByHate$Pairing", "weighers", "[I", true)
def tyX6 : Nat → FieldType := fun k => match k with
  | 0 => .object "ScalesByHate$Bazaar"
  | 1 => .array .int
  | 2 => .array .int
  | _ => .array .int
abbrev wsX60 : List Cond := u_ws RX6 TX6 4
theorem nmX6 : ∀ a, a < 4 → ∀ b, b < 4 → a ≠ b → (TX6 a).2.1 ≠ (TX6 b).2.1 := by decide +kernel
theorem tyX6_ok : ∀ k, k < 4 → parseFieldDescriptor (TX6 k).2.2.1 = some (tyX6 k) := by decide +kernel
abbrev cX6_init : ByteArray := prog_8_method_1_code
def yX6_init : MethodName := ⟨RX6, "<init>", "(LScalesByHate$Bazaar;)V"⟩
def RX7 : String := "ScalesByHate$Round"
def TX7 : u_T := fun k => match k with
  | 0 => ("ScalesByHate$Round", "fed", "I", false)
  | 1 => ("ScalesByHate$Round", "buyers", "[I", true)
  | 2 => ("ScalesByHate$Round", "weighers", "[I", true)
  | 3 => ("ScalesByHate$Round", "friends", "[I", true)
  | 4 => ("ScalesByHate$Round", "weighed", "[I", true)
  | 5 => ("ScalesByHate$Round", "fedBits", "I", false)
  | _ => ("ScalesByHate$Round", "weigherBits", "I", false)
def tyX7 : Nat → FieldType := fun k => match k with
  | 0 => .int
  | 1 => .array .int
  | 2 => .array .int
  | 3 => .array .int
  | 4 => .array .int
  | 5 => .int
  | _ => .int
abbrev wsX70 : List Cond := u_ws RX7 TX7 7
theorem nmX7 : ∀ a, a < 7 → ∀ b, b < 7 → a ≠ b → (TX7 a).2.1 ≠ (TX7 b).2.1 := by decide +kernel
theorem tyX7_ok : ∀ k, k < 7 → parseFieldDescriptor (TX7 k).2.2.1 = some (tyX7 k) := by decide +kernel
abbrev cX7_init : ByteArray := prog_9_method_1_code
def yX7_init : MethodName := ⟨RX7, "<init>", "()V"⟩
abbrev cX7_goBy : ByteArray := prog_9_method_2_code
def yX7_goBy : MethodName := ⟨RX7, "goBy", "(LScalesByHate$Bazaar;LScalesByHate$Law;)I"⟩
abbrev cX7_hungriest : ByteArray := prog_9_method_3_code
def yX7_hungriest : MethodName := ⟨RX7, "hungriest", "(LScalesByHate$Bazaar;I)I"⟩
abbrev cX7_serve : ByteArray := prog_9_method_4_code
def yX7_serve : MethodName := ⟨RX7, "serve", "(LScalesByHate$Bazaar;LScalesByHate$Law;I)V"⟩
abbrev cX7_weigherOf : ByteArray := prog_9_method_5_code
def yX7_weigherOf : MethodName := ⟨RX7, "weigherOf", "(I)I"⟩
def RX8 : String := "ScalesByHate$Shelves"
def TX8 : u_T := fun k => match k with
  | 0 => ("ScalesByHate$Shelves", "holds", "[I", true)
  | 1 => ("ScalesByHate$Shelves", "sizes", "[I", true)
  | 2 => ("ScalesByHate$Shelves", "bodies", "[I", true)
  | _ => ("ScalesByHate$Shelves", "elements", "[J", true)
def tyX8 : Nat → FieldType := fun k => match k with
  | 0 => .array .int
  | 1 => .array .int
  | 2 => .array .int
  | _ => .array .long
abbrev wsX80 : List Cond := u_ws RX8 TX8 4
theorem nmX8 : ∀ a, a < 4 → ∀ b, b < 4 → a ≠ b → (TX8 a).2.1 ≠ (TX8 b).2.1 := by decide +kernel
theorem tyX8_ok : ∀ k, k < 4 → parseFieldDescriptor (TX8 k).2.2.1 = some (tyX8 k) := by decide +kernel
abbrev cX8_init : ByteArray := prog_10_method_1_code
def yX8_init : MethodName := ⟨RX8, "<init>", "()V"⟩
def RX9 : String := "ScalesByHate$Thought"
def TX9 : u_T := fun k => match k with
  | 0 => ("ScalesByHate$Thought", "world", "LScalesByHate$Bazaar;", true)
  | 1 => ("ScalesByHate$Thought", "whoseWorth", "I", false)
  | 2 => ("ScalesByHate$Thought", "hungerByWorth", "I", false)
  | 3 => ("ScalesByHate$Thought", "hungerByTurns", "I", false)
  | 4 => ("ScalesByHate$Thought", "wrongsFirst", "I", false)
  | 5 => ("ScalesByHate$Thought", "fitting", "I", false)
  | 6 => ("ScalesByHate$Thought", "leastFitting", "I", false)
  | 7 => ("ScalesByHate$Thought", "now", "LScalesByHate$Bazaar;", true)
  | 8 => ("ScalesByHate$Thought", "law", "LScalesByHate$Law;", true)
  | 9 => ("ScalesByHate$Thought", "shelves", "LScalesByHate$Shelves;", true)
  | 10 => ("ScalesByHate$Thought", "round", "LScalesByHate$Round;", true)
  | _ => ("ScalesByHate$Thought", "hungerByFeeling", "[I", true)
def tyX9 : Nat → FieldType := fun k => match k with
  | 0 => .object "ScalesByHate$Bazaar"
  | 1 => .int
  | 2 => .int
  | 3 => .int
  | 4 => .int
  | 5 => .int
  | 6 => .int
  | 7 => .object "ScalesByHate$Bazaar"
  | 8 => .object "ScalesByHate$Law"
  | 9 => .object "ScalesByHate$Shelves"
  | 10 => .object "ScalesByHate$Round"
  | _ => .array .int
abbrev wsX90 : List Cond := u_ws RX9 TX9 12
theorem nmX9 : ∀ a, a < 12 → ∀ b, b < 12 → a ≠ b → (TX9 a).2.1 ≠ (TX9 b).2.1 := by decide +kernel
theorem tyX9_ok : ∀ k, k < 12 → parseFieldDescriptor (TX9 k).2.2.1 = some (tyX9 k) := by decide +kernel
abbrev cX9_init : ByteArray := prog_11_method_1_code
def yX9_init : MethodName := ⟨RX9, "<init>", "(LScalesByHate$Bazaar;LScalesByHate$Law;LScalesByHate$Shelves;)V"⟩
abbrev cX9_begin : ByteArray := prog_11_method_2_code
def yX9_begin : MethodName := ⟨RX9, "begin", "()V"⟩
abbrev cX9_goOn : ByteArray := prog_11_method_3_code
def yX9_goOn : MethodName := ⟨RX9, "goOn", "(I)I"⟩
abbrev cX9_daysFed : ByteArray := prog_11_method_4_code
def yX9_daysFed : MethodName := ⟨RX9, "daysFed", "(I)I"⟩
def RX10 : String := "ScalesByHate"
def TX10 : u_T := fun k => match k with
  | 0 => ("ScalesByHate", "bazaar", "LScalesByHate$Bazaar;", true)
  | 1 => ("ScalesByHate", "reader", "LScalesByHate$LawReader;", true)
  | 2 => ("ScalesByHate", "rule", "LScalesByHate$Law;", true)
  | 3 => ("ScalesByHate", "thought", "LScalesByHate$Thought;", true)
  | 4 => ("ScalesByHate", "pairing", "LScalesByHate$Pairing;", true)
  | 5 => ("ScalesByHate", "today", "LScalesByHate$Round;", true)
  | 6 => ("ScalesByHate", "book", "LScalesByHate$Book;", true)
  | 7 => ("ScalesByHate", "changes", "LScalesByHate$Changes;", true)
  | 8 => ("ScalesByHate", "needles", "LScalesByHate$Needles;", true)
  | _ => ("ScalesByHate", "shelves", "LScalesByHate$Shelves;", true)
def tyX10 : Nat → FieldType := fun k => match k with
  | 0 => .object "ScalesByHate$Bazaar"
  | 1 => .object "ScalesByHate$LawReader"
  | 2 => .object "ScalesByHate$Law"
  | 3 => .object "ScalesByHate$Thought"
  | 4 => .object "ScalesByHate$Pairing"
  | 5 => .object "ScalesByHate$Round"
  | 6 => .object "ScalesByHate$Book"
  | 7 => .object "ScalesByHate$Changes"
  | 8 => .object "ScalesByHate$Needles"
  | _ => .object "ScalesByHate$Shelves"
abbrev wsX100 : List Cond := u_ws RX10 TX10 10
theorem nmX10 : ∀ a, a < 10 → ∀ b, b < 10 → a ≠ b → (TX10 a).2.1 ≠ (TX10 b).2.1 := by decide +kernel
theorem tyX10_ok : ∀ k, k < 10 → parseFieldDescriptor (TX10 k).2.2.1 = some (tyX10 k) := by decide +kernel
abbrev cX10_init : ByteArray := prog_1_method_1_code
def yX10_init : MethodName := ⟨RX10, "<init>", "()V"⟩
abbrev cX10_person : ByteArray := prog_1_method_2_code
def yX10_person : MethodName := ⟨RX10, "person", "(II)I"⟩
abbrev cX10_mend : ByteArray := prog_1_method_4_code
def yX10_mend : MethodName := ⟨RX10, "mend", "(III)I"⟩
abbrev cX10_of : ByteArray := prog_1_method_5_code
def yX10_of : MethodName := ⟨RX10, "of", "(II)I"⟩
abbrev cX10_feel : ByteArray := prog_1_method_6_code
def yX10_feel : MethodName := ⟨RX10, "feel", "(II)I"⟩
abbrev cX10_feeling : ByteArray := prog_1_method_7_code
def yX10_feeling : MethodName := ⟨RX10, "feeling", "(I)I"⟩
abbrev cX10_feed : ByteArray := prog_1_method_8_code
def yX10_feed : MethodName := ⟨RX10, "feed", "(I)I"⟩
abbrev cX10_law : ByteArray := prog_1_method_9_code
def yX10_law : MethodName := ⟨RX10, "law", "()I"⟩
abbrev cX10_changeTo : ByteArray := prog_1_method_10_code
def yX10_changeTo : MethodName := ⟨RX10, "changeTo", "(II)I"⟩
abbrev cX10_later : ByteArray := prog_1_method_14_code
def yX10_later : MethodName := ⟨RX10, "later", "(II)I"⟩
abbrev cX10_feltLater : ByteArray := prog_1_method_15_code
def yX10_feltLater : MethodName := ⟨RX10, "feltLater", "(II)I"⟩
abbrev cX10_lasts : ByteArray := prog_1_method_16_code
def yX10_lasts : MethodName := ⟨RX10, "lasts", "(I)I"⟩
abbrev cX10_isOneOrAll : ByteArray := prog_1_method_20_code
def yX10_isOneOrAll : MethodName := ⟨RX10, "isOneOrAll", "(I)Z"⟩
abbrev cX10_day : ByteArray := prog_1_method_25_code
def yX10_day : MethodName := ⟨RX10, "day", "()I"⟩
abbrev cX10_wrong : ByteArray := prog_1_method_26_code
def yX10_wrong : MethodName := ⟨RX10, "wrong", "(II)I"⟩
abbrev cX10_lease : ByteArray := prog_1_method_27_code
def yX10_lease : MethodName := ⟨RX10, "lease", "(II)I"⟩
abbrev cX10_gift : ByteArray := prog_1_method_28_code
def yX10_gift : MethodName := ⟨RX10, "gift", "(II)I"⟩
abbrev cX10_tale : ByteArray := prog_1_method_29_code
def yX10_tale : MethodName := ⟨RX10, "tale", "(I)I"⟩
abbrev cX10_led : ByteArray := prog_1_method_30_code
def yX10_led : MethodName := ⟨RX10, "led", "(I)I"⟩
abbrev cX10_count : ByteArray := prog_1_method_44_code
def yX10_count : MethodName := ⟨RX10, "count", "(I)I"⟩
def RX11 : String := "ScalesByHateModel"
def TX11 : u_T := fun k => match k with
  | _ => ("", "", "", false)
def tyX11 : Nat → FieldType := fun k => match k with
  | _ => .int
abbrev wsX110 : List Cond := u_ws RX11 TX11 0
theorem nmX11 : ∀ a, a < 0 → ∀ b, b < 0 → a ≠ b → (TX11 a).2.1 ≠ (TX11 b).2.1 := by decide +kernel
theorem tyX11_ok : ∀ k, k < 0 → parseFieldDescriptor (TX11 k).2.2.1 = some (tyX11 k) := by decide +kernel
def RJ9 : String := "java/lang/Math"
def TJ9 : u_T := fun k => match k with
  | _ => ("", "", "", false)
def tyJ9 : Nat → FieldType := fun k => match k with
  | _ => .int
abbrev wsJ90 : List Cond := u_ws RJ9 TJ9 0
theorem nmJ9 : ∀ a, a < 0 → ∀ b, b < 0 → a ≠ b → (TJ9 a).2.1 ≠ (TJ9 b).2.1 := by decide +kernel
theorem tyJ9_ok : ∀ k, k < 0 → parseFieldDescriptor (TJ9 k).2.2.1 = some (tyJ9 k) := by decide +kernel
abbrev cJ9_max_7cf53 : ByteArray := prog_14_method_65_code
def yJ9_max_7cf53 : MethodName := ⟨RJ9, "max", "(II)I"⟩
abbrev cJ9_min_7cf53 : ByteArray := prog_14_method_69_code
def yJ9_min_7cf53 : MethodName := ⟨RJ9, "min", "(II)I"⟩
def RJ0 : String := "java/lang/String"
def TJ0 : u_T := fun k => match k with
  | _ => ("", "", "", false)
def tyJ0 : Nat → FieldType := fun k => match k with
  | _ => .int
abbrev wsJ00 : List Cond := u_ws RJ0 TJ0 0
theorem nmJ0 : ∀ a, a < 0 → ∀ b, b < 0 → a ≠ b → (TJ0 a).2.1 ≠ (TJ0 b).2.1 := by decide +kernel
theorem tyJ0_ok : ∀ k, k < 0 → parseFieldDescriptor (TJ0 k).2.2.1 = some (tyJ0 k) := by decide +kernel
abbrev cJ0_length_8abf5 : ByteArray := prog_15_method_54_code
def yJ0_length_8abf5 : MethodName := ⟨RJ0, "length", "()I"⟩
abbrev cJ0_charAt_5068e : ByteArray := prog_15_method_56_code
def yJ0_charAt_5068e : MethodName := ⟨RJ0, "charAt", "(I)C"⟩
abbrev cJ0_coder_7d493 : ByteArray := prog_15_method_152_code
def yJ0_coder_7d493 : MethodName := ⟨RJ0, "coder", "()B"⟩
abbrev cJ0_isLatin1_aae02 : ByteArray := prog_15_method_154_code
def yJ0_isLatin1_aae02 : MethodName := ⟨RJ0, "isLatin1", "()Z"⟩
abbrev cJ0_checkIndex_df160 : ByteArray := prog_15_method_155_code
def yJ0_checkIndex_df160 : MethodName := ⟨RJ0, "checkIndex", "(II)V"⟩
def RJ1 : String := "java/lang/StringLatin1"
def TJ1 : u_T := fun k => match k with
  | _ => ("", "", "", false)
def tyJ1 : Nat → FieldType := fun k => match k with
  | _ => .int
abbrev wsJ10 : List Cond := u_ws RJ1 TJ1 0
theorem nmJ1 : ∀ a, a < 0 → ∀ b, b < 0 → a ≠ b → (TJ1 a).2.1 ≠ (TJ1 b).2.1 := by decide +kernel
theorem tyJ1_ok : ∀ k, k < 0 → parseFieldDescriptor (TJ1 k).2.2.1 = some (tyJ1 k) := by decide +kernel
abbrev cJ1_charAt_3b067 : ByteArray := prog_16_method_2_code
def yJ1_charAt_3b067 : MethodName := ⟨RJ1, "charAt", "([BI)C"⟩
def RJ2 : String := "java/lang/StringUTF16"
def TJ2 : u_T := fun k => match k with
  | _ => ("", "", "", false)
def tyJ2 : Nat → FieldType := fun k => match k with
  | _ => .int
abbrev wsJ20 : List Cond := u_ws RJ2 TJ2 0
theorem nmJ2 : ∀ a, a < 0 → ∀ b, b < 0 → a ≠ b → (TJ2 a).2.1 ≠ (TJ2 b).2.1 := by decide +kernel
theorem tyJ2_ok : ∀ k, k < 0 → parseFieldDescriptor (TJ2 k).2.2.1 = some (tyJ2 k) := by decide +kernel
abbrev cJ2_getChar_3b067 : ByteArray := prog_17_method_5_code
def yJ2_getChar_3b067 : MethodName := ⟨RJ2, "getChar", "([BI)C"⟩
abbrev cJ2_length_9d52b : ByteArray := prog_17_method_6_code
def yJ2_length_9d52b : MethodName := ⟨RJ2, "length", "([B)I"⟩
abbrev cJ2_charAt_3b067 : ByteArray := prog_17_method_83_code
def yJ2_charAt_3b067 : MethodName := ⟨RJ2, "charAt", "([BI)C"⟩
abbrev cJ2_checkIndex_2214a : ByteArray := prog_17_method_91_code
def yJ2_checkIndex_2214a : MethodName := ⟨RJ2, "checkIndex", "(I[B)V"⟩
def RJ10 : String := "java/lang/System"
def TJ10 : u_T := fun k => match k with
  | _ => ("", "", "", false)
def tyJ10 : Nat → FieldType := fun k => match k with
  | _ => .int
abbrev wsJ100 : List Cond := u_ws RJ10 TJ10 0
theorem nmJ10 : ∀ a, a < 0 → ∀ b, b < 0 → a ≠ b → (TJ10 a).2.1 ≠ (TJ10 b).2.1 := by decide +kernel
theorem tyJ10_ok : ∀ k, k < 0 → parseFieldDescriptor (TJ10 k).2.2.1 = some (tyJ10 k) := by decide +kernel
def RJ3 : String := "jdk/internal/util/Preconditions"
def TJ3 : u_T := fun k => match k with
  | _ => ("", "", "", false)
def tyJ3 : Nat → FieldType := fun k => match k with
  | _ => .int
abbrev wsJ30 : List Cond := u_ws RJ3 TJ3 0
theorem nmJ3 : ∀ a, a < 0 → ∀ b, b < 0 → a ≠ b → (TJ3 a).2.1 ≠ (TJ3 b).2.1 := by decide +kernel
theorem tyJ3_ok : ∀ k, k < 0 → parseFieldDescriptor (TJ3 k).2.2.1 = some (tyJ3 k) := by decide +kernel
abbrev cJ3_checkIndex_8e157 : ByteArray := prog_19_method_11_code
def yJ3_checkIndex_8e157 : MethodName := ⟨RJ3, "checkIndex", "(IILjava/util/function/BiFunction;)I"⟩
def RL : String := "ScalesByHateLaw"
abbrev cL_cell : ByteArray := method_2_code
def yL_cell : MethodName := ⟨RL, "cell", "([II)I"⟩
abbrev cL_law : ByteArray := code
def yL_law : MethodName := ⟨RL, "law", "([I)Z"⟩
abbrev cL_three : ByteArray := method_4_code
def yL_three : MethodName := ⟨RL, "three", "(LScalesByHate;III)Z"⟩
abbrev cL_bazaar : ByteArray := method_5_code
def yL_bazaar : MethodName := ⟨RL, "bazaar", "(LScalesByHate;[I[I[I[I[III)Z"⟩
abbrev cL_friend : ByteArray := method_6_code
def yL_friend : MethodName := ⟨RL, "friend", "([I[II)I"⟩
abbrev cL_out : ByteArray := method_7_code
def yL_out : MethodName := ⟨RL, "out", "([I[I[I[IIII)I"⟩
abbrev cL_day : ByteArray := method_8_code
def yL_day : MethodName := ⟨RL, "day", "([I[I[I[I[I)I"⟩
abbrev cL_copy : ByteArray := method_9_code
def yL_copy : MethodName := ⟨RL, "copy", "([I)[I"⟩
abbrev vwCl : List vw_C := [(RX0, TX0, 2), (RX1, TX1, 6), (RX2, TX2, 5), (RX3, TX3, 4), (RX4, TX4, 5), (RX5, TX5, 4), (RX6, TX6, 4), (RX7, TX7, 7), (RX8, TX8, 4), (RX9, TX9, 12), (RX10, TX10, 10)]
