def RX0 : String := "CheeseHill$Bold"
def TX0 : u_T := fun k => match k with
  | _ => ("", "", "", false)
def tyX0 : Nat → FieldType := fun k => match k with
  | _ => .int
abbrev wsX00 : List Cond := u_ws RX0 TX0 0
theorem nmX0 : ∀ a, a < 0 → ∀ b, b < 0 → a ≠ b → (TX0 a).2.1 ≠ (TX0 b).2.1 := by decide +kernel
theorem tyX0_ok : ∀ k, k < 0 → parseFieldDescriptor (TX0 k).2.2.1 = some (tyX0 k) := by decide +kernel
abbrev cX0_init : ByteArray := prog_2_method_1_code
def yX0_init : MethodName := ⟨RX0, "<init>", "()V"⟩
abbrev cX0_ownPace : ByteArray := prog_2_method_2_code
def yX0_ownPace : MethodName := ⟨RX0, "ownPace", "(IIII)I"⟩
def RX1 : String := "CheeseHill$Cheese"
def TX1 : u_T := fun k => match k with
  | 0 => ("CheeseHill$Cheese", "parts", "[I", true)
  | _ => ("CheeseHill$Cheese", "next", "[I", true)
def tyX1 : Nat → FieldType := fun k => match k with
  | 0 => .array .int
  | _ => .array .int
abbrev wsX10 : List Cond := u_ws RX1 TX1 2
theorem nmX1 : ∀ a, a < 2 → ∀ b, b < 2 → a ≠ b → (TX1 a).2.1 ≠ (TX1 b).2.1 := by decide +kernel
theorem tyX1_ok : ∀ k, k < 2 → parseFieldDescriptor (TX1 k).2.2.1 = some (tyX1 k) := by decide +kernel
abbrev cX1_init : ByteArray := prog_3_method_1_code
def yX1_init : MethodName := ⟨RX1, "<init>", "()V"⟩
abbrev cX1_roll : ByteArray := prog_3_method_2_code
def yX1_roll : MethodName := ⟨RX1, "roll", "(LCheeseHill$Hill;I)V"⟩
abbrev cX1_partsWithin : ByteArray := prog_3_method_3_code
def yX1_partsWithin : MethodName := ⟨RX1, "partsWithin", "(II)I"⟩
def RX2 : String := "CheeseHill$Crawler"
def TX2 : u_T := fun k => match k with
  | _ => ("", "", "", false)
def tyX2 : Nat → FieldType := fun k => match k with
  | _ => .int
abbrev wsX20 : List Cond := u_ws RX2 TX2 0
theorem nmX2 : ∀ a, a < 0 → ∀ b, b < 0 → a ≠ b → (TX2 a).2.1 ≠ (TX2 b).2.1 := by decide +kernel
theorem tyX2_ok : ∀ k, k < 0 → parseFieldDescriptor (TX2 k).2.2.1 = some (tyX2 k) := by decide +kernel
abbrev cX2_init : ByteArray := prog_4_method_1_code
def yX2_init : MethodName := ⟨RX2, "<init>", "()V"⟩
abbrev cX2_ownPace : ByteArray := prog_4_method_2_code
def yX2_ownPace : MethodName := ⟨RX2, "ownPace", "(IIII)I"⟩
def RX3 : String := "CheeseHill$Guide"
def TX3 : u_T := fun k => match k with
  | _ => ("CheeseHill$Guide", "left", "[I", true)
def tyX3 : Nat → FieldType := fun k => match k with
  | _ => .array .int
abbrev wsX30 : List Cond := u_ws RX3 TX3 1
theorem nmX3 : ∀ a, a < 1 → ∀ b, b < 1 → a ≠ b → (TX3 a).2.1 ≠ (TX3 b).2.1 := by decide +kernel
theorem tyX3_ok : ∀ k, k < 1 → parseFieldDescriptor (TX3 k).2.2.1 = some (tyX3 k) := by decide +kernel
abbrev cX3_init : ByteArray := prog_5_method_1_code
def yX3_init : MethodName := ⟨RX3, "<init>", "()V"⟩
abbrev cX3_least : ByteArray := prog_5_method_2_code
def yX3_least : MethodName := ⟨RX3, "least", "(LCheeseHill$Hill;LCheeseHill$Upright;II)I"⟩
abbrev cX3_stepIn : ByteArray := prog_5_method_3_code
def yX3_stepIn : MethodName := ⟨RX3, "stepIn", "(LCheeseHill$Hill;LCheeseHill$Upright;III)I"⟩
abbrev cX3_bestStep : ByteArray := prog_5_method_4_code
def yX3_bestStep : MethodName := ⟨RX3, "bestStep", "(LCheeseHill$Hill;LCheeseHill$Upright;IIII)I"⟩
abbrev cX3_leastFrom : ByteArray := prog_5_method_5_code
def yX3_leastFrom : MethodName := ⟨RX3, "leastFrom", "(LCheeseHill$Hill;LCheeseHill$Upright;IIII)I"⟩
def RX4 : String := "CheeseHill$Hill"
def TX4 : u_T := fun k => match k with
  | 0 => ("CheeseHill$Hill", "rows", "I", false)
  | 1 => ("CheeseHill$Hill", "lanes", "I", false)
  | 2 => ("CheeseHill$Hill", "runners", "I", false)
  | 3 => ("CheeseHill$Hill", "runsOfHurt", "I", false)
  | 4 => ("CheeseHill$Hill", "undos", "I", false)
  | 5 => ("CheeseHill$Hill", "slope", "[I", true)
  | 6 => ("CheeseHill$Hill", "ground", "[I", true)
  | 7 => ("CheeseHill$Hill", "kind", "[I", true)
  | 8 => ("CheeseHill$Hill", "lane", "[I", true)
  | 9 => ("CheeseHill$Hill", "start", "[I", true)
  | 10 => ("CheeseHill$Hill", "line", "[I", true)
  | 11 => ("CheeseHill$Hill", "hurtIn", "[I", true)
  | _ => ("CheeseHill$Hill", "slopesAhead", "[I", true)
def tyX4 : Nat → FieldType := fun k => match k with
  | 0 => .int
  | 1 => .int
  | 2 => .int
  | 3 => .int
  | 4 => .int
  | 5 => .array .int
  | 6 => .array .int
  | 7 => .array .int
  | 8 => .array .int
  | 9 => .array .int
  | 10 => .array .int
  | 11 => .array .int
  | _ => .array .int
abbrev wsX40 : List Cond := u_ws RX4 TX4 13
theorem nmX4 : ∀ a, a < 13 → ∀ b, b < 13 → a ≠ b → (TX4 a).2.1 ≠ (TX4 b).2.1 := by decide +kernel
theorem tyX4_ok : ∀ k, k < 13 → parseFieldDescriptor (TX4 k).2.2.1 = some (tyX4 k) := by decide +kernel
abbrev cX4_init : ByteArray := prog_6_method_1_code
def yX4_init : MethodName := ⟨RX4, "<init>", "()V"⟩
abbrev cX4_layOut : ByteArray := prog_6_method_2_code
def yX4_layOut : MethodName := ⟨RX4, "layOut", "(II)V"⟩
abbrev cX4_becomeLike : ByteArray := prog_6_method_3_code
def yX4_becomeLike : MethodName := ⟨RX4, "becomeLike", "(LCheeseHill$Hill;)V"⟩
abbrev cX4_isLaidOut : ByteArray := prog_6_method_4_code
def yX4_isLaidOut : MethodName := ⟨RX4, "isLaidOut", "()Z"⟩
abbrev cX4_hasRow : ByteArray := prog_6_method_5_code
def yX4_hasRow : MethodName := ⟨RX4, "hasRow", "(I)Z"⟩
abbrev cX4_hasCell : ByteArray := prog_6_method_6_code
def yX4_hasCell : MethodName := ⟨RX4, "hasCell", "(II)Z"⟩
abbrev cX4_hasRunner : ByteArray := prog_6_method_7_code
def yX4_hasRunner : MethodName := ⟨RX4, "hasRunner", "(I)Z"⟩
abbrev cX4_laneBeyond : ByteArray := prog_6_method_8_code
def yX4_laneBeyond : MethodName := ⟨RX4, "laneBeyond", "(II)I"⟩
abbrev cX4_addRunner : ByteArray := prog_6_method_9_code
def yX4_addRunner : MethodName := ⟨RX4, "addRunner", "(III)V"⟩
abbrev cX4_keepSlopes : ByteArray := prog_6_method_10_code
def yX4_keepSlopes : MethodName := ⟨RX4, "keepSlopes", "()V"⟩
abbrev cX4_bringSlopesBack : ByteArray := prog_6_method_11_code
def yX4_bringSlopesBack : MethodName := ⟨RX4, "bringSlopesBack", "()V"⟩
abbrev cX4_mostHurt : ByteArray := prog_6_method_12_code
def yX4_mostHurt : MethodName := ⟨RX4, "mostHurt", "()I"⟩
def RX5 : String := "CheeseHill$Kinds"
def TX5 : u_T := fun k => match k with
  | 0 => ("CheeseHill$Kinds", "upright", "LCheeseHill$Upright;", true)
  | 1 => ("CheeseHill$Kinds", "slider", "LCheeseHill$Upright;", true)
  | 2 => ("CheeseHill$Kinds", "tumbler", "LCheeseHill$Upright;", true)
  | 3 => ("CheeseHill$Kinds", "crawler", "LCheeseHill$Upright;", true)
  | _ => ("CheeseHill$Kinds", "bold", "LCheeseHill$Upright;", true)
def tyX5 : Nat → FieldType := fun k => match k with
  | 0 => .object "CheeseHill$Upright"
  | 1 => .object "CheeseHill$Upright"
  | 2 => .object "CheeseHill$Upright"
  | 3 => .object "CheeseHill$Upright"
  | _ => .object "CheeseHill$Upright"
abbrev wsX50 : List Cond := u_ws RX5 TX5 5
theorem nmX5 : ∀ a, a < 5 → ∀ b, b < 5 → a ≠ b → (TX5 a).2.1 ≠ (TX5 b).2.1 := by decide +kernel
theorem tyX5_ok : ∀ k, k < 5 → parseFieldDescriptor (TX5 k).2.2.1 = some (tyX5 k) := by decide +kernel
abbrev cX5_init : ByteArray := prog_7_method_1_code
def yX5_init : MethodName := ⟨RX5, "<init>", "()V"⟩
abbrev cX5_numbered : ByteArray := prog_7_method_2_code
def yX5_numbered : MethodName := ⟨RX5, "numbered", "(I)LCheeseHill$Upright;"⟩
def RX6 : String := "CheeseHill$Slider"
def TX6 : u_T := fun k => match k with
  | _ => ("", "", "", false)
def tyX6 : Nat → FieldType := fun k => match k with
  | _ => .int
abbrev wsX60 : List Cond := u_ws RX6 TX6 0
theorem nmX6 : ∀ a, a < 0 → ∀ b, b < 0 → a ≠ b → (TX6 a).2.1 ≠ (TX6 b).2.1 := by decide +kernel
theorem tyX6_ok : ∀ k, k < 0 → parseFieldDescriptor (TX6 k).2.2.1 = some (tyX6 k) := by decide +kernel
abbrev cX6_init : ByteArray := prog_8_method_1_code
def yX6_init : MethodName := ⟨RX6, "<init>", "()V"⟩
abbrev cX6_ownPace : ByteArray := prog_8_method_2_code
def yX6_ownPace : MethodName := ⟨RX6, "ownPace", "(IIII)I"⟩
def RX7 : String := "CheeseHill$Text"
def TX7 : u_T := fun k => match k with
  | 0 => ("CheeseHill$Text", "bytes", "[I", true)
  | 1 => ("CheeseHill$Text", "length", "I", false)
  | 2 => ("CheeseHill$Text", "tokenPlace", "I", false)
  | 3 => ("CheeseHill$Text", "tokenEnd", "I", false)
  | _ => ("CheeseHill$Text", "token", "I", false)
def tyX7 : Nat → FieldType := fun k => match k with
  | 0 => .array .int
  | 1 => .int
  | 2 => .int
  | 3 => .int
  | _ => .int
abbrev wsX70 : List Cond := u_ws RX7 TX7 5
theorem nmX7 : ∀ a, a < 5 → ∀ b, b < 5 → a ≠ b → (TX7 a).2.1 ≠ (TX7 b).2.1 := by decide +kernel
theorem tyX7_ok : ∀ k, k < 5 → parseFieldDescriptor (TX7 k).2.2.1 = some (tyX7 k) := by decide +kernel
abbrev cX7_init : ByteArray := prog_9_method_1_code
def yX7_init : MethodName := ⟨RX7, "<init>", "()V"⟩
abbrev cX7_append : ByteArray := prog_9_method_2_code
def yX7_append : MethodName := ⟨RX7, "append", "(JI)V"⟩
abbrev cX7_readInto : ByteArray := prog_9_method_3_code
def yX7_readInto : MethodName := ⟨RX7, "readInto", "(LCheeseHill$Hill;)I"⟩
abbrev cX7_readHill : ByteArray := prog_9_method_4_code
def yX7_readHill : MethodName := ⟨RX7, "readHill", "(LCheeseHill$Hill;)Z"⟩
abbrev cX7_readItem : ByteArray := prog_9_method_5_code
def yX7_readItem : MethodName := ⟨RX7, "readItem", "(LCheeseHill$Hill;)Z"⟩
abbrev cX7_readCell : ByteArray := prog_9_method_6_code
def yX7_readCell : MethodName := ⟨RX7, "readCell", "(LCheeseHill$Hill;[II)Z"⟩
abbrev cX7_readRunner : ByteArray := prog_9_method_7_code
def yX7_readRunner : MethodName := ⟨RX7, "readRunner", "(LCheeseHill$Hill;)Z"⟩
abbrev cX7_readLine : ByteArray := prog_9_method_8_code
def yX7_readLine : MethodName := ⟨RX7, "readLine", "(LCheeseHill$Hill;)Z"⟩
abbrev cX7_nextNumber : ByteArray := prog_9_method_9_code
def yX7_nextNumber : MethodName := ⟨RX7, "nextNumber", "(II)I"⟩
abbrev cX7_nextIsSemicolon : ByteArray := prog_9_method_10_code
def yX7_nextIsSemicolon : MethodName := ⟨RX7, "nextIsSemicolon", "()Z"⟩
abbrev cX7_isWord : ByteArray := prog_9_method_11_code
def yX7_isWord : MethodName := ⟨RX7, "isWord", "(Ljava/lang/String;)Z"⟩
abbrev cX7_nextToken : ByteArray := prog_9_method_12_code
def yX7_nextToken : MethodName := ⟨RX7, "nextToken", "()V"⟩
abbrev cX7_tokenBegunBy : ByteArray := prog_9_method_13_code
def yX7_tokenBegunBy : MethodName := ⟨RX7, "tokenBegunBy", "(I)I"⟩
def RX8 : String := "CheeseHill$Tumbler"
def TX8 : u_T := fun k => match k with
  | _ => ("", "", "", false)
def tyX8 : Nat → FieldType := fun k => match k with
  | _ => .int
abbrev wsX80 : List Cond := u_ws RX8 TX8 0
theorem nmX8 : ∀ a, a < 0 → ∀ b, b < 0 → a ≠ b → (TX8 a).2.1 ≠ (TX8 b).2.1 := by decide +kernel
theorem tyX8_ok : ∀ k, k < 0 → parseFieldDescriptor (TX8 k).2.2.1 = some (tyX8 k) := by decide +kernel
abbrev cX8_init : ByteArray := prog_10_method_1_code
def yX8_init : MethodName := ⟨RX8, "<init>", "()V"⟩
abbrev cX8_ownPace : ByteArray := prog_10_method_2_code
def yX8_ownPace : MethodName := ⟨RX8, "ownPace", "(IIII)I"⟩
abbrev cX8_delayInNettles : ByteArray := prog_10_method_3_code
def yX8_delayInNettles : MethodName := ⟨RX8, "delayInNettles", "()I"⟩
abbrev cX8_harmIn : ByteArray := prog_10_method_4_code
def yX8_harmIn : MethodName := ⟨RX8, "harmIn", "(III)I"⟩
abbrev cX8_felt : ByteArray := prog_10_method_5_code
def yX8_felt : MethodName := ⟨RX8, "felt", "(I)I"⟩
def RX9 : String := "CheeseHill$Upright"
def TX9 : u_T := fun k => match k with
  | _ => ("", "", "", false)
def tyX9 : Nat → FieldType := fun k => match k with
  | _ => .int
abbrev wsX90 : List Cond := u_ws RX9 TX9 0
theorem nmX9 : ∀ a, a < 0 → ∀ b, b < 0 → a ≠ b → (TX9 a).2.1 ≠ (TX9 b).2.1 := by decide +kernel
theorem tyX9_ok : ∀ k, k < 0 → parseFieldDescriptor (TX9 k).2.2.1 = some (tyX9 k) := by decide +kernel
abbrev cX9_init : ByteArray := prog_11_method_1_code
def yX9_init : MethodName := ⟨RX9, "<init>", "()V"⟩
abbrev cX9_newPace : ByteArray := prog_11_method_2_code
def yX9_newPace : MethodName := ⟨RX9, "newPace", "(IIII)I"⟩
abbrev cX9_ownPace : ByteArray := prog_11_method_3_code
def yX9_ownPace : MethodName := ⟨RX9, "ownPace", "(IIII)I"⟩
abbrev cX9_timeIn : ByteArray := prog_11_method_4_code
def yX9_timeIn : MethodName := ⟨RX9, "timeIn", "(II)I"⟩
abbrev cX9_delayInNettles : ByteArray := prog_11_method_5_code
def yX9_delayInNettles : MethodName := ⟨RX9, "delayInNettles", "()I"⟩
abbrev cX9_harmIn : ByteArray := prog_11_method_6_code
def yX9_harmIn : MethodName := ⟨RX9, "harmIn", "(III)I"⟩
def RX10 : String := "CheeseHill$Ways"
def TX10 : u_T := fun k => match k with
  | 0 => ("CheeseHill$Ways", "lane", "[I", true)
  | 1 => ("CheeseHill$Ways", "pace", "[I", true)
  | 2 => ("CheeseHill$Ways", "since", "[I", true)
  | _ => ("CheeseHill$Ways", "harm", "[I", true)
def tyX10 : Nat → FieldType := fun k => match k with
  | 0 => .array .int
  | 1 => .array .int
  | 2 => .array .int
  | _ => .array .int
abbrev wsX100 : List Cond := u_ws RX10 TX10 4
theorem nmX10 : ∀ a, a < 4 → ∀ b, b < 4 → a ≠ b → (TX10 a).2.1 ≠ (TX10 b).2.1 := by decide +kernel
theorem tyX10_ok : ∀ k, k < 4 → parseFieldDescriptor (TX10 k).2.2.1 = some (tyX10 k) := by decide +kernel
abbrev cX10_init : ByteArray := prog_12_method_1_code
def yX10_init : MethodName := ⟨RX10, "<init>", "()V"⟩
abbrev cX10_followAll : ByteArray := prog_12_method_2_code
def yX10_followAll : MethodName := ⟨RX10, "followAll", "(LCheeseHill$Hill;LCheeseHill$Kinds;)V"⟩
abbrev cX10_follow : ByteArray := prog_12_method_3_code
def yX10_follow : MethodName := ⟨RX10, "follow", "(LCheeseHill$Hill;LCheeseHill$Kinds;II)V"⟩
abbrev cX10_harmInAll : ByteArray := prog_12_method_4_code
def yX10_harmInAll : MethodName := ⟨RX10, "harmInAll", "(II)I"⟩
abbrev cX10_meet : ByteArray := prog_12_method_5_code
def yX10_meet : MethodName := ⟨RX10, "meet", "(IIII)Z"⟩
abbrev cX10_goersIn : ByteArray := prog_12_method_6_code
def yX10_goersIn : MethodName := ⟨RX10, "goersIn", "(III)I"⟩
def RX11 : String := "CheeseHill"
def TX11 : u_T := fun k => match k with
  | 0 => ("CheeseHill", "land", "LCheeseHill$Hill;", false)
  | 1 => ("CheeseHill", "spare", "LCheeseHill$Hill;", false)
  | 2 => ("CheeseHill", "imageZero", "LCheeseHill$Hill;", true)
  | 3 => ("CheeseHill", "imageOne", "LCheeseHill$Hill;", true)
  | 4 => ("CheeseHill", "kinds", "LCheeseHill$Kinds;", true)
  | 5 => ("CheeseHill", "ways", "LCheeseHill$Ways;", true)
  | 6 => ("CheeseHill", "guide", "LCheeseHill$Guide;", true)
  | 7 => ("CheeseHill", "wheel", "LCheeseHill$Cheese;", true)
  | 8 => ("CheeseHill", "text", "LCheeseHill$Text;", true)
  | 9 => ("CheeseHill", "backAt", "[I", true)
  | 10 => ("CheeseHill", "above", "J", false)
  | 11 => ("CheeseHill", "below", "J", false)
  | 12 => ("CheeseHill", "refusedBad", "I", false)
  | 13 => ("CheeseHill", "refusedNo", "I", false)
  | _ => ("CheeseHill", "refusedFull", "I", false)
def tyX11 : Nat → FieldType := fun k => match k with
  | 0 => .object "CheeseHill$Hill"
  | 1 => .object "CheeseHill$Hill"
  | 2 => .object "CheeseHill$Hill"
  | 3 => .object "CheeseHill$Hill"
  | 4 => .object "CheeseHill$Kinds"
  | 5 => .object "CheeseHill$Ways"
  | 6 => .object "CheeseHill$Guide"
  | 7 => .object "CheeseHill$Cheese"
  | 8 => .object "CheeseHill$Text"
  | 9 => .array .int
  | 10 => .long
  | 11 => .long
  | 12 => .int
  | 13 => .int
  | _ => .int
abbrev wsX110 : List Cond := u_ws RX11 TX11 15
theorem nmX11 : ∀ a, a < 15 → ∀ b, b < 15 → a ≠ b → (TX11 a).2.1 ≠ (TX11 b).2.1 := by decide +kernel
theorem tyX11_ok : ∀ k, k < 15 → parseFieldDescriptor (TX11 k).2.2.1 = some (tyX11 k) := by decide +kernel
abbrev cX11_init : ByteArray := prog_1_method_1_code
def yX11_init : MethodName := ⟨RX11, "<init>", "()V"⟩
abbrev cX11_hill : ByteArray := prog_1_method_2_code
def yX11_hill : MethodName := ⟨RX11, "hill", "(II)I"⟩
abbrev cX11_put : ByteArray := prog_1_method_3_code
def yX11_put : MethodName := ⟨RX11, "put", "(IIII)I"⟩
abbrev cX11_at : ByteArray := prog_1_method_4_code
def yX11_at : MethodName := ⟨RX11, "at", "(III)I"⟩
abbrev cX11_runner : ByteArray := prog_1_method_5_code
def yX11_runner : MethodName := ⟨RX11, "runner", "(III)I"⟩
abbrev cX11_line : ByteArray := prog_1_method_6_code
def yX11_line : MethodName := ⟨RX11, "line", "(III)I"⟩
abbrev cX11_type : ByteArray := prog_1_method_7_code
def yX11_type : MethodName := ⟨RX11, "type", "(JI)I"⟩
abbrev cX11_clear : ByteArray := prog_1_method_8_code
def yX11_clear : MethodName := ⟨RX11, "clear", "()I"⟩
abbrev cX11_read : ByteArray := prog_1_method_9_code
def yX11_read : MethodName := ⟨RX11, "read", "()I"⟩
abbrev cX11_goes : ByteArray := prog_1_method_10_code
def yX11_goes : MethodName := ⟨RX11, "goes", "(III)I"⟩
abbrev cX11_down : ByteArray := prog_1_method_11_code
def yX11_down : MethodName := ⟨RX11, "down", "(II)I"⟩
abbrev cX11_best : ByteArray := prog_1_method_12_code
def yX11_best : MethodName := ⟨RX11, "best", "(III)I"⟩
abbrev cX11_fall : ByteArray := prog_1_method_13_code
def yX11_fall : MethodName := ⟨RX11, "fall", "(II)I"⟩
abbrev cX11_place : ByteArray := prog_1_method_14_code
def yX11_place : MethodName := ⟨RX11, "place", "(I)I"⟩
abbrev cX11_clashes : ByteArray := prog_1_method_15_code
def yX11_clashes : MethodName := ⟨RX11, "clashes", "()I"⟩
abbrev cX11_apart : ByteArray := prog_1_method_16_code
def yX11_apart : MethodName := ⟨RX11, "apart", "()I"⟩
abbrev cX11_began : ByteArray := prog_1_method_17_code
def yX11_began : MethodName := ⟨RX11, "began", "(II)I"⟩
abbrev cX11_cheese : ByteArray := prog_1_method_18_code
def yX11_cheese : MethodName := ⟨RX11, "cheese", "(II)I"⟩
abbrev cX11_fence : ByteArray := prog_1_method_19_code
def yX11_fence : MethodName := ⟨RX11, "fence", "(II)I"⟩
abbrev cX11_feet : ByteArray := prog_1_method_20_code
def yX11_feet : MethodName := ⟨RX11, "feet", "(I)I"⟩
abbrev cX11_catchers : ByteArray := prog_1_method_21_code
def yX11_catchers : MethodName := ⟨RX11, "catchers", "()I"⟩
abbrev cX11_bale : ByteArray := prog_1_method_22_code
def yX11_bale : MethodName := ⟨RX11, "bale", "()I"⟩
abbrev cX11_run : ByteArray := prog_1_method_23_code
def yX11_run : MethodName := ⟨RX11, "run", "()I"⟩
abbrev cX11_undo : ByteArray := prog_1_method_24_code
def yX11_undo : MethodName := ⟨RX11, "undo", "()I"⟩
abbrev cX11_hurt : ByteArray := prog_1_method_25_code
def yX11_hurt : MethodName := ⟨RX11, "hurt", "(I)I"⟩
abbrev cX11_heal : ByteArray := prog_1_method_26_code
def yX11_heal : MethodName := ⟨RX11, "heal", "()I"⟩
abbrev cX11_waits : ByteArray := prog_1_method_27_code
def yX11_waits : MethodName := ⟨RX11, "waits", "(II)I"⟩
abbrev cX11_drawn : ByteArray := prog_1_method_28_code
def yX11_drawn : MethodName := ⟨RX11, "drawn", "(II)I"⟩
abbrev cX11_part : ByteArray := prog_1_method_29_code
def yX11_part : MethodName := ⟨RX11, "part", "(I)J"⟩
abbrev cX11_image : ByteArray := prog_1_method_30_code
def yX11_image : MethodName := ⟨RX11, "image", "(I)I"⟩
abbrev cX11_from : ByteArray := prog_1_method_31_code
def yX11_from : MethodName := ⟨RX11, "from", "(I)I"⟩
abbrev cX11_status : ByteArray := prog_1_method_32_code
def yX11_status : MethodName := ⟨RX11, "status", "(I)I"⟩
abbrev cX11_count : ByteArray := prog_1_method_33_code
def yX11_count : MethodName := ⟨RX11, "count", "(I)I"⟩
abbrev cX11_digest : ByteArray := prog_1_method_34_code
def yX11_digest : MethodName := ⟨RX11, "digest", "()J"⟩
abbrev cX11_refuseBad : ByteArray := prog_1_method_35_code
def yX11_refuseBad : MethodName := ⟨RX11, "refuseBad", "(I)I"⟩
abbrev cX11_refuseNo : ByteArray := prog_1_method_36_code
def yX11_refuseNo : MethodName := ⟨RX11, "refuseNo", "(I)I"⟩
abbrev cX11_refuseFull : ByteArray := prog_1_method_37_code
def yX11_refuseFull : MethodName := ⟨RX11, "refuseFull", "()I"⟩
abbrev cX11_setFraction : ByteArray := prog_1_method_38_code
def yX11_setFraction : MethodName := ⟨RX11, "setFraction", "(JJ)V"⟩
abbrev cX11_imageNumbered : ByteArray := prog_1_method_39_code
def yX11_imageNumbered : MethodName := ⟨RX11, "imageNumbered", "(I)LCheeseHill$Hill;"⟩
abbrev cX11_amountOf : ByteArray := prog_1_method_40_code
def yX11_amountOf : MethodName := ⟨RX11, "amountOf", "(I)I"⟩
abbrev cX11_downAt : ByteArray := prog_1_method_41_code
def yX11_downAt : MethodName := ⟨RX11, "downAt", "(I)I"⟩
abbrev cX11_costOfFall : ByteArray := prog_1_method_42_code
def yX11_costOfFall : MethodName := ⟨RX11, "costOfFall", "(III)I"⟩
abbrev cX11_runnerInPlace : ByteArray := prog_1_method_43_code
def yX11_runnerInPlace : MethodName := ⟨RX11, "runnerInPlace", "(I)I"⟩
abbrev cX11_anyMeetWhenApart : ByteArray := prog_1_method_44_code
def yX11_anyMeetWhenApart : MethodName := ⟨RX11, "anyMeetWhenApart", "(I)Z"⟩
abbrev cX11_harmOfAll : ByteArray := prog_1_method_45_code
def yX11_harmOfAll : MethodName := ⟨RX11, "harmOfAll", "()I"⟩
abbrev cX11_wearSlopes : ByteArray := prog_1_method_46_code
def yX11_wearSlopes : MethodName := ⟨RX11, "wearSlopes", "()V"⟩
abbrev cX11_commonDivisor : ByteArray := prog_1_method_47_code
def yX11_commonDivisor : MethodName := ⟨RX11, "commonDivisor", "(JJ)J"⟩
abbrev cX11_within : ByteArray := prog_1_method_48_code
def yX11_within : MethodName := ⟨RX11, "within", "(III)Z"⟩
abbrev cX11_cell : ByteArray := prog_1_method_49_code
def yX11_cell : MethodName := ⟨RX11, "cell", "(II)I"⟩
abbrev cX11_onLine : ByteArray := prog_1_method_50_code
def yX11_onLine : MethodName := ⟨RX11, "onLine", "(II)I"⟩
abbrev cX11_onWay : ByteArray := prog_1_method_51_code
def yX11_onWay : MethodName := ⟨RX11, "onWay", "(II)I"⟩
def RX12 : String := "CheeseHillModel"
def TX12 : u_T := fun k => match k with
  | 0 => ("CheeseHillModel", "now", "[I", true)
  | 1 => ("CheeseHillModel", "read", "[I", true)
  | 2 => ("CheeseHillModel", "images", "[I", true)
  | 3 => ("CheeseHillModel", "isKept", "[Z", true)
  | 4 => ("CheeseHillModel", "text", "[I", true)
  | 5 => ("CheeseHillModel", "size", "I", false)
  | 6 => ("CheeseHillModel", "above", "J", false)
  | 7 => ("CheeseHillModel", "below", "J", false)
  | 8 => ("CheeseHillModel", "refused", "[I", true)
  | 9 => ("CheeseHillModel", "at", "I", false)
  | 10 => ("CheeseHillModel", "begin", "I", false)
  | 11 => ("CheeseHillModel", "kind", "I", false)
  | 12 => ("CheeseHillModel", "value", "J", false)
  | 13 => ("CheeseHillModel", "lanes", "[I", true)
  | 14 => ("CheeseHillModel", "paces", "[I", true)
  | 15 => ("CheeseHillModel", "ins", "[I", true)
  | 16 => ("CheeseHillModel", "harms", "[I", true)
  | 17 => ("CheeseHillModel", "ownLanes", "[I", true)
  | 18 => ("CheeseHillModel", "ownIns", "[I", true)
  | 19 => ("CheeseHillModel", "starts", "[I", true)
  | 20 => ("CheeseHillModel", "ways", "[I", true)
  | 21 => ("CheeseHillModel", "then", "[I", true)
  | 22 => ("CheeseHillModel", "trodden", "[I", true)
  | _ => ("CheeseHillModel", "backs", "[I", true)
def tyX12 : Nat → FieldType := fun k => match k with
  | 0 => .array .int
  | 1 => .array .int
  | 2 => .array .int
  | 3 => .array .boolean
  | 4 => .array .int
  | 5 => .int
  | 6 => .long
  | 7 => .long
  | 8 => .array .int
  | 9 => .int
  | 10 => .int
  | 11 => .int
  | 12 => .long
  | 13 => .array .int
  | 14 => .array .int
  | 15 => .array .int
  | 16 => .array .int
  | 17 => .array .int
  | 18 => .array .int
  | 19 => .array .int
  | 20 => .array .int
  | 21 => .array .int
  | 22 => .array .int
  | _ => .array .int
abbrev wsX120 : List Cond := u_ws RX12 TX12 24
theorem nmX12 : ∀ a, a < 24 → ∀ b, b < 24 → a ≠ b → (TX12 a).2.1 ≠ (TX12 b).2.1 := by decide +kernel
theorem tyX12_ok : ∀ k, k < 24 → parseFieldDescriptor (TX12 k).2.2.1 = some (tyX12 k) := by decide +kernel
abbrev cX12_init : ByteArray := prog_14_method_1_code
def yX12_init : MethodName := ⟨RX12, "<init>", "()V"⟩
abbrev cX12_in : ByteArray := prog_14_method_3_code
def yX12_in : MethodName := ⟨RX12, "in", "(JJJ)Z"⟩
abbrev cX12_refuse : ByteArray := prog_14_method_4_code
def yX12_refuse : MethodName := ⟨RX12, "refuse", "(I)I"⟩
abbrev cX12_clean : ByteArray := prog_14_method_5_code
def yX12_clean : MethodName := ⟨RX12, "clean", "([III)V"⟩
abbrev cX12_fraction : ByteArray := prog_14_method_6_code
def yX12_fraction : MethodName := ⟨RX12, "fraction", "(JJ)I"⟩
abbrev cX12_hill : ByteArray := prog_14_method_7_code
def yX12_hill : MethodName := ⟨RX12, "hill", "(II)I"⟩
abbrev cX12_isCell : ByteArray := prog_14_method_8_code
def yX12_isCell : MethodName := ⟨RX12, "isCell", "([III)Z"⟩
abbrev cX12_cellAt : ByteArray := prog_14_method_9_code
def yX12_cellAt : MethodName := ⟨RX12, "cellAt", "(III)I"⟩
abbrev cX12_put : ByteArray := prog_14_method_10_code
def yX12_put : MethodName := ⟨RX12, "put", "(IIII)I"⟩
abbrev cX12_at : ByteArray := prog_14_method_11_code
def yX12_at : MethodName := ⟨RX12, "at", "(III)I"⟩
abbrev cX12_isRunnerAt : ByteArray := prog_14_method_12_code
def yX12_isRunnerAt : MethodName := ⟨RX12, "isRunnerAt", "([IIII)Z"⟩
abbrev cX12_joins : ByteArray := prog_14_method_13_code
def yX12_joins : MethodName := ⟨RX12, "joins", "([IIII)I"⟩
abbrev cX12_runner : ByteArray := prog_14_method_14_code
def yX12_runner : MethodName := ⟨RX12, "runner", "(III)I"⟩
abbrev cX12_isRunner : ByteArray := prog_14_method_15_code
def yX12_isRunner : MethodName := ⟨RX12, "isRunner", "(I)Z"⟩
abbrev cX12_isRow : ByteArray := prog_14_method_16_code
def yX12_isRow : MethodName := ⟨RX12, "isRow", "(I)Z"⟩
abbrev cX12_line : ByteArray := prog_14_method_17_code
def yX12_line : MethodName := ⟨RX12, "line", "(III)I"⟩
abbrev cX12_type : ByteArray := prog_14_method_18_code
def yX12_type : MethodName := ⟨RX12, "type", "(JI)I"⟩
abbrev cX12_clear : ByteArray := prog_14_method_19_code
def yX12_clear : MethodName := ⟨RX12, "clear", "()I"⟩
abbrev cX12_isLetter : ByteArray := prog_14_method_20_code
def yX12_isLetter : MethodName := ⟨RX12, "isLetter", "(I)Z"⟩
abbrev cX12_isFigure : ByteArray := prog_14_method_21_code
def yX12_isFigure : MethodName := ⟨RX12, "isFigure", "(I)Z"⟩
abbrev cX12_next : ByteArray := prog_14_method_22_code
def yX12_next : MethodName := ⟨RX12, "next", "()V"⟩
abbrev cX12_takes : ByteArray := prog_14_method_23_code
def yX12_takes : MethodName := ⟨RX12, "takes", "(II)Z"⟩
abbrev cX12_stops : ByteArray := prog_14_method_24_code
def yX12_stops : MethodName := ⟨RX12, "stops", "()Z"⟩
abbrev cX12_takesHill : ByteArray := prog_14_method_25_code
def yX12_takesHill : MethodName := ⟨RX12, "takesHill", "()Z"⟩
abbrev cX12_takesCell : ByteArray := prog_14_method_26_code
def yX12_takesCell : MethodName := ⟨RX12, "takesCell", "(I)Z"⟩
abbrev cX12_takesRunner : ByteArray := prog_14_method_27_code
def yX12_takesRunner : MethodName := ⟨RX12, "takesRunner", "()Z"⟩
abbrev cX12_takesLine : ByteArray := prog_14_method_28_code
def yX12_takesLine : MethodName := ⟨RX12, "takesLine", "()Z"⟩
abbrev cX12_takesAll : ByteArray := prog_14_method_29_code
def yX12_takesAll : MethodName := ⟨RX12, "takesAll", "()I"⟩
abbrev cX12_read : ByteArray := prog_14_method_30_code
def yX12_read : MethodName := ⟨RX12, "read", "()I"⟩
abbrev cX12_copy : ByteArray := prog_14_method_31_code
def yX12_copy : MethodName := ⟨RX12, "copy", "([II[II)V"⟩
abbrev cX12_capped : ByteArray := prog_14_method_32_code
def yX12_capped : MethodName := ⟨RX12, "capped", "(I)I"⟩
abbrev cX12_paceOf : ByteArray := prog_14_method_33_code
def yX12_paceOf : MethodName := ⟨RX12, "paceOf", "(IIIII)I"⟩
abbrev cX12_harmOf : ByteArray := prog_14_method_34_code
def yX12_harmOf : MethodName := ⟨RX12, "harmOf", "(IIII)I"⟩
abbrev cX12_steps : ByteArray := prog_14_method_35_code
def yX12_steps : MethodName := ⟨RX12, "steps", "(II)I"⟩
abbrev cX12_walk : ByteArray := prog_14_method_36_code
def yX12_walk : MethodName := ⟨RX12, "walk", "(II)V"⟩
abbrev cX12_walks : ByteArray := prog_14_method_37_code
def yX12_walks : MethodName := ⟨RX12, "walks", "(I)V"⟩
abbrev cX12_harm : ByteArray := prog_14_method_38_code
def yX12_harm : MethodName := ⟨RX12, "harm", "()I"⟩
abbrev cX12_comesTo : ByteArray := prog_14_method_39_code
def yX12_comesTo : MethodName := ⟨RX12, "comesTo", "(I)I"⟩
abbrev cX12_goes : ByteArray := prog_14_method_40_code
def yX12_goes : MethodName := ⟨RX12, "goes", "(III)I"⟩
abbrev cX12_down : ByteArray := prog_14_method_41_code
def yX12_down : MethodName := ⟨RX12, "down", "(II)I"⟩
abbrev cX12_lay : ByteArray := prog_14_method_42_code
def yX12_lay : MethodName := ⟨RX12, "lay", "(II)V"⟩
abbrev cX12_best : ByteArray := prog_14_method_43_code
def yX12_best : MethodName := ⟨RX12, "best", "(III)I"⟩
abbrev cX12_fall : ByteArray := prog_14_method_44_code
def yX12_fall : MethodName := ⟨RX12, "fall", "(II)I"⟩
abbrev cX12_downOf : ByteArray := prog_14_method_45_code
def yX12_downOf : MethodName := ⟨RX12, "downOf", "(I)I"⟩
abbrev cX12_placeOf : ByteArray := prog_14_method_46_code
def yX12_placeOf : MethodName := ⟨RX12, "placeOf", "(I)I"⟩
abbrev cX12_place : ByteArray := prog_14_method_47_code
def yX12_place : MethodName := ⟨RX12, "place", "(I)I"⟩
abbrev cX12_meet : ByteArray := prog_14_method_48_code
def yX12_meet : MethodName := ⟨RX12, "meet", "(II)Z"⟩
abbrev cX12_meets : ByteArray := prog_14_method_49_code
def yX12_meets : MethodName := ⟨RX12, "meets", "()I"⟩
abbrev cX12_clashes : ByteArray := prog_14_method_50_code
def yX12_clashes : MethodName := ⟨RX12, "clashes", "()I"⟩
abbrev cX12_apart : ByteArray := prog_14_method_51_code
def yX12_apart : MethodName := ⟨RX12, "apart", "()I"⟩
abbrev cX12_began : ByteArray := prog_14_method_52_code
def yX12_began : MethodName := ⟨RX12, "began", "(II)I"⟩
abbrev cX12_rolls : ByteArray := prog_14_method_53_code
def yX12_rolls : MethodName := ⟨RX12, "rolls", "(I)V"⟩
abbrev cX12_isLane : ByteArray := prog_14_method_54_code
def yX12_isLane : MethodName := ⟨RX12, "isLane", "(I)Z"⟩
abbrev cX12_cheese : ByteArray := prog_14_method_55_code
def yX12_cheese : MethodName := ⟨RX12, "cheese", "(II)I"⟩
abbrev cX12_fence : ByteArray := prog_14_method_56_code
def yX12_fence : MethodName := ⟨RX12, "fence", "(II)I"⟩
abbrev cX12_feet : ByteArray := prog_14_method_57_code
def yX12_feet : MethodName := ⟨RX12, "feet", "(I)I"⟩
abbrev cX12_bits : ByteArray := prog_14_method_58_code
def yX12_bits : MethodName := ⟨RX12, "bits", "(I)I"⟩
abbrev cX12_catchers : ByteArray := prog_14_method_59_code
def yX12_catchers : MethodName := ⟨RX12, "catchers", "()I"⟩
abbrev cX12_harmOfAll : ByteArray := prog_14_method_60_code
def yX12_harmOfAll : MethodName := ⟨RX12, "harmOfAll", "()I"⟩
abbrev cX12_bale : ByteArray := prog_14_method_61_code
def yX12_bale : MethodName := ⟨RX12, "bale", "()I"⟩
abbrev cX12_run : ByteArray := prog_14_method_62_code
def yX12_run : MethodName := ⟨RX12, "run", "()I"⟩
abbrev cX12_undo : ByteArray := prog_14_method_63_code
def yX12_undo : MethodName := ⟨RX12, "undo", "()I"⟩
abbrev cX12_hurt : ByteArray := prog_14_method_64_code
def yX12_hurt : MethodName := ⟨RX12, "hurt", "(I)I"⟩
abbrev cX12_heal : ByteArray := prog_14_method_65_code
def yX12_heal : MethodName := ⟨RX12, "heal", "()I"⟩
abbrev cX12_there : ByteArray := prog_14_method_66_code
def yX12_there : MethodName := ⟨RX12, "there", "(II)I"⟩
abbrev cX12_waits : ByteArray := prog_14_method_67_code
def yX12_waits : MethodName := ⟨RX12, "waits", "(II)I"⟩
abbrev cX12_drawn : ByteArray := prog_14_method_68_code
def yX12_drawn : MethodName := ⟨RX12, "drawn", "(II)I"⟩
abbrev cX12_part : ByteArray := prog_14_method_69_code
def yX12_part : MethodName := ⟨RX12, "part", "(I)J"⟩
abbrev cX12_image : ByteArray := prog_14_method_70_code
def yX12_image : MethodName := ⟨RX12, "image", "(I)I"⟩
abbrev cX12_from : ByteArray := prog_14_method_71_code
def yX12_from : MethodName := ⟨RX12, "from", "(I)I"⟩
abbrev cX12_status : ByteArray := prog_14_method_72_code
def yX12_status : MethodName := ⟨RX12, "status", "(I)I"⟩
abbrev cX12_counted : ByteArray := prog_14_method_73_code
def yX12_counted : MethodName := ⟨RX12, "counted", "(I)I"⟩
abbrev cX12_count : ByteArray := prog_14_method_74_code
def yX12_count : MethodName := ⟨RX12, "count", "(I)I"⟩
abbrev cX12_digest : ByteArray := prog_14_method_75_code
def yX12_digest : MethodName := ⟨RX12, "digest", "()J"⟩
def RJx145de : String := "java/io/Serializable"
def TJx145de : u_T := fun k => match k with
  | _ => ("", "", "", false)
def tyJx145de : Nat → FieldType := fun k => match k with
  | _ => .int
abbrev wsJx145de0 : List Cond := u_ws RJx145de TJx145de 0
theorem nmJx145de : ∀ a, a < 0 → ∀ b, b < 0 → a ≠ b → (TJx145de a).2.1 ≠ (TJx145de b).2.1 := by decide +kernel
theorem tyJx145de_ok : ∀ k, k < 0 → parseFieldDescriptor (TJx145de k).2.2.1 = some (tyJx145de k) := by decide +kernel
def RJx9f9b0 : String := "java/lang/CharSequence"
def TJx9f9b0 : u_T := fun k => match k with
  | _ => ("", "", "", false)
def tyJx9f9b0 : Nat → FieldType := fun k => match k with
  | _ => .int
abbrev wsJx9f9b00 : List Cond := u_ws RJx9f9b0 TJx9f9b0 0
theorem nmJx9f9b0 : ∀ a, a < 0 → ∀ b, b < 0 → a ≠ b → (TJx9f9b0 a).2.1 ≠ (TJx9f9b0 b).2.1 := by decide +kernel
theorem tyJx9f9b0_ok : ∀ k, k < 0 → parseFieldDescriptor (TJx9f9b0 k).2.2.1 = some (tyJx9f9b0 k) := by decide +kernel
def RJxb160c : String := "java/lang/Comparable"
def TJxb160c : u_T := fun k => match k with
  | _ => ("", "", "", false)
def tyJxb160c : Nat → FieldType := fun k => match k with
  | _ => .int
abbrev wsJxb160c0 : List Cond := u_ws RJxb160c TJxb160c 0
theorem nmJxb160c : ∀ a, a < 0 → ∀ b, b < 0 → a ≠ b → (TJxb160c a).2.1 ≠ (TJxb160c b).2.1 := by decide +kernel
theorem tyJxb160c_ok : ∀ k, k < 0 → parseFieldDescriptor (TJxb160c k).2.2.1 = some (tyJxb160c k) := by decide +kernel
def RJ6 : String := "java/lang/Integer"
def TJ6 : u_T := fun k => match k with
  | _ => ("", "", "", false)
def tyJ6 : Nat → FieldType := fun k => match k with
  | _ => .int
abbrev wsJ60 : List Cond := u_ws RJ6 TJ6 0
theorem nmJ6 : ∀ a, a < 0 → ∀ b, b < 0 → a ≠ b → (TJ6 a).2.1 ≠ (TJ6 b).2.1 := by decide +kernel
theorem tyJ6_ok : ∀ k, k < 0 → parseFieldDescriptor (TJ6 k).2.2.1 = some (tyJ6 k) := by decide +kernel
abbrev cJ6_bitCount_0f7a4 : ByteArray := prog_15_method_49_code
def yJ6_bitCount_0f7a4 : MethodName := ⟨RJ6, "bitCount", "(I)I"⟩
def RJ9 : String := "java/lang/Math"
def TJ9 : u_T := fun k => match k with
  | _ => ("", "", "", false)
def tyJ9 : Nat → FieldType := fun k => match k with
  | _ => .int
abbrev wsJ90 : List Cond := u_ws RJ9 TJ9 0
theorem nmJ9 : ∀ a, a < 0 → ∀ b, b < 0 → a ≠ b → (TJ9 a).2.1 ≠ (TJ9 b).2.1 := by decide +kernel
theorem tyJ9_ok : ∀ k, k < 0 → parseFieldDescriptor (TJ9 k).2.2.1 = some (tyJ9 k) := by decide +kernel
abbrev cJ9_max_7cf53 : ByteArray := prog_16_method_65_code
def yJ9_max_7cf53 : MethodName := ⟨RJ9, "max", "(II)I"⟩
abbrev cJ9_min_7cf53 : ByteArray := prog_16_method_69_code
def yJ9_min_7cf53 : MethodName := ⟨RJ9, "min", "(II)I"⟩
def RJ0 : String := "java/lang/String"
def TJ0 : u_T := fun k => match k with
  | _ => ("", "", "", false)
def tyJ0 : Nat → FieldType := fun k => match k with
  | _ => .int
abbrev wsJ00 : List Cond := u_ws RJ0 TJ0 0
theorem nmJ0 : ∀ a, a < 0 → ∀ b, b < 0 → a ≠ b → (TJ0 a).2.1 ≠ (TJ0 b).2.1 := by decide +kernel
theorem tyJ0_ok : ∀ k, k < 0 → parseFieldDescriptor (TJ0 k).2.2.1 = some (tyJ0 k) := by decide +kernel
abbrev cJ0_length_8abf5 : ByteArray := prog_17_method_54_code
def yJ0_length_8abf5 : MethodName := ⟨RJ0, "length", "()I"⟩
abbrev cJ0_charAt_5068e : ByteArray := prog_17_method_56_code
def yJ0_charAt_5068e : MethodName := ⟨RJ0, "charAt", "(I)C"⟩
abbrev cJ0_coder_7d493 : ByteArray := prog_17_method_152_code
def yJ0_coder_7d493 : MethodName := ⟨RJ0, "coder", "()B"⟩
abbrev cJ0_isLatin1_aae02 : ByteArray := prog_17_method_154_code
def yJ0_isLatin1_aae02 : MethodName := ⟨RJ0, "isLatin1", "()Z"⟩
abbrev cJ0_checkIndex_df160 : ByteArray := prog_17_method_155_code
def yJ0_checkIndex_df160 : MethodName := ⟨RJ0, "checkIndex", "(II)V"⟩
def RJ1 : String := "java/lang/StringLatin1"
def TJ1 : u_T := fun k => match k with
  | _ => ("", "", "", false)
def tyJ1 : Nat → FieldType := fun k => match k with
  | _ => .int
abbrev wsJ10 : List Cond := u_ws RJ1 TJ1 0
theorem nmJ1 : ∀ a, a < 0 → ∀ b, b < 0 → a ≠ b → (TJ1 a).2.1 ≠ (TJ1 b).2.1 := by decide +kernel
theorem tyJ1_ok : ∀ k, k < 0 → parseFieldDescriptor (TJ1 k).2.2.1 = some (tyJ1 k) := by decide +kernel
abbrev cJ1_charAt_3b067 : ByteArray := prog_18_method_2_code
def yJ1_charAt_3b067 : MethodName := ⟨RJ1, "charAt", "([BI)C"⟩
def RJ2 : String := "java/lang/StringUTF16"
def TJ2 : u_T := fun k => match k with
  | _ => ("", "", "", false)
def tyJ2 : Nat → FieldType := fun k => match k with
  | _ => .int
abbrev wsJ20 : List Cond := u_ws RJ2 TJ2 0
theorem nmJ2 : ∀ a, a < 0 → ∀ b, b < 0 → a ≠ b → (TJ2 a).2.1 ≠ (TJ2 b).2.1 := by decide +kernel
theorem tyJ2_ok : ∀ k, k < 0 → parseFieldDescriptor (TJ2 k).2.2.1 = some (tyJ2 k) := by decide +kernel
abbrev cJ2_getChar_3b067 : ByteArray := prog_19_method_5_code
def yJ2_getChar_3b067 : MethodName := ⟨RJ2, "getChar", "([BI)C"⟩
abbrev cJ2_length_9d52b : ByteArray := prog_19_method_6_code
def yJ2_length_9d52b : MethodName := ⟨RJ2, "length", "([B)I"⟩
abbrev cJ2_charAt_3b067 : ByteArray := prog_19_method_83_code
def yJ2_charAt_3b067 : MethodName := ⟨RJ2, "charAt", "([BI)C"⟩
abbrev cJ2_checkIndex_2214a : ByteArray := prog_19_method_91_code
def yJ2_checkIndex_2214a : MethodName := ⟨RJ2, "checkIndex", "(I[B)V"⟩
def RJ10 : String := "java/lang/System"
def TJ10 : u_T := fun k => match k with
  | _ => ("", "", "", false)
def tyJ10 : Nat → FieldType := fun k => match k with
  | _ => .int
abbrev wsJ100 : List Cond := u_ws RJ10 TJ10 0
theorem nmJ10 : ∀ a, a < 0 → ∀ b, b < 0 → a ≠ b → (TJ10 a).2.1 ≠ (TJ10 b).2.1 := by decide +kernel
theorem tyJ10_ok : ∀ k, k < 0 → parseFieldDescriptor (TJ10 k).2.2.1 = some (tyJ10 k) := by decide +kernel
def RJxfd54e : String := "java/lang/constant/Constable"
def TJxfd54e : u_T := fun k => match k with
  | _ => ("", "", "", false)
def tyJxfd54e : Nat → FieldType := fun k => match k with
  | _ => .int
abbrev wsJxfd54e0 : List Cond := u_ws RJxfd54e TJxfd54e 0
theorem nmJxfd54e : ∀ a, a < 0 → ∀ b, b < 0 → a ≠ b → (TJxfd54e a).2.1 ≠ (TJxfd54e b).2.1 := by decide +kernel
theorem tyJxfd54e_ok : ∀ k, k < 0 → parseFieldDescriptor (TJxfd54e k).2.2.1 = some (tyJxfd54e k) := by decide +kernel
def RJx3cf43 : String := "java/lang/constant/ConstantDesc"
def TJx3cf43 : u_T := fun k => match k with
  | _ => ("", "", "", false)
def tyJx3cf43 : Nat → FieldType := fun k => match k with
  | _ => .int
abbrev wsJx3cf430 : List Cond := u_ws RJx3cf43 TJx3cf43 0
theorem nmJx3cf43 : ∀ a, a < 0 → ∀ b, b < 0 → a ≠ b → (TJx3cf43 a).2.1 ≠ (TJx3cf43 b).2.1 := by decide +kernel
theorem tyJx3cf43_ok : ∀ k, k < 0 → parseFieldDescriptor (TJx3cf43 k).2.2.1 = some (tyJx3cf43 k) := by decide +kernel
def RJ7 : String := "java/util/Arrays"
def TJ7 : u_T := fun k => match k with
  | _ => ("", "", "", false)
def tyJ7 : Nat → FieldType := fun k => match k with
  | _ => .int
abbrev wsJ70 : List Cond := u_ws RJ7 TJ7 0
theorem nmJ7 : ∀ a, a < 0 → ∀ b, b < 0 → a ≠ b → (TJ7 a).2.1 ≠ (TJ7 b).2.1 := by decide +kernel
theorem tyJ7_ok : ∀ k, k < 0 → parseFieldDescriptor (TJ7 k).2.2.1 = some (tyJ7 k) := by decide +kernel
abbrev cJ7_fill_53178 : ByteArray := prog_21_method_103_code
def yJ7_fill_53178 : MethodName := ⟨RJ7, "fill", "([II)V"⟩
def RJ3 : String := "jdk/internal/util/Preconditions"
def TJ3 : u_T := fun k => match k with
  | _ => ("", "", "", false)
def tyJ3 : Nat → FieldType := fun k => match k with
  | _ => .int
abbrev wsJ30 : List Cond := u_ws RJ3 TJ3 0
theorem nmJ3 : ∀ a, a < 0 → ∀ b, b < 0 → a ≠ b → (TJ3 a).2.1 ≠ (TJ3 b).2.1 := by decide +kernel
theorem tyJ3_ok : ∀ k, k < 0 → parseFieldDescriptor (TJ3 k).2.2.1 = some (tyJ3 k) := by decide +kernel
abbrev cJ3_checkIndex_8e157 : ByteArray := prog_22_method_11_code
def yJ3_checkIndex_8e157 : MethodName := ⟨RJ3, "checkIndex", "(IILjava/util/function/BiFunction;)I"⟩
def RL : String := "CheeseHillLaw"
abbrev cL_law : ByteArray := code
def yL_law : MethodName := ⟨RL, "law", "([I)Z"⟩
abbrev vwCl : List vw_C := [(RX0, TX0, 0), (RX1, TX1, 2), (RX2, TX2, 0), (RX3, TX3, 1), (RX4, TX4, 13), (RX5, TX5, 5), (RX6, TX6, 0), (RX7, TX7, 5), (RX8, TX8, 0), (RX9, TX9, 0), (RX10, TX10, 4), (RX11, TX11, 15), (RX12, TX12, 24)]
/-- the words that last: of the tables, those that stay as the machine goes on -/
def zU : List Cond := lw_tbl.filter goodWord
theorem zU_mem {w : Cond} (i : Nat) (h : lw_tbl[i]? = some w) (g : goodWord w = true) : w ∈ zU := List.mem_filter.mpr ⟨List.mem_of_getElem? h, g⟩
theorem inX0 : ∀ w ∈ wsX00, w ∈ zU := by decide +kernel
theorem inX1 : ∀ w ∈ wsX10, w ∈ zU := by decide +kernel
theorem inX2 : ∀ w ∈ wsX20, w ∈ zU := by decide +kernel
theorem inX3 : ∀ w ∈ wsX30, w ∈ zU := by decide +kernel
theorem inX4 : ∀ w ∈ wsX40, w ∈ zU := by decide +kernel
theorem inX5 : ∀ w ∈ wsX50, w ∈ zU := by decide +kernel
theorem inX6 : ∀ w ∈ wsX60, w ∈ zU := by decide +kernel
theorem inX7 : ∀ w ∈ wsX70, w ∈ zU := by decide +kernel
theorem inX8 : ∀ w ∈ wsX80, w ∈ zU := by decide +kernel
theorem inX9 : ∀ w ∈ wsX90, w ∈ zU := by decide +kernel
theorem inX10 : ∀ w ∈ wsX100, w ∈ zU := by decide +kernel
theorem inX11 : ∀ w ∈ wsX110, w ∈ zU := by decide +kernel
theorem inX12 : ∀ w ∈ wsX120, w ∈ zU := by decide +kernel
