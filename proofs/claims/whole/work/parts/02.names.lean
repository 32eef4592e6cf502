def RX0 : String := "UniverseLevels$Against"
def TX0 : u_T := fun k => match k with
  | 0 => ("UniverseLevels$Against", "inTheWay", "[I", true)
  | 1 => ("UniverseLevels$Against", "picks", "[I", true)
  | 2 => ("UniverseLevels$Against", "trial", "[I", true)
  | _ => ("UniverseLevels$Against", "many", "I", false)
def tyX0 : Nat → FieldType := fun k => match k with
  | 0 => .array .int
  | 1 => .array .int
  | 2 => .array .int
  | _ => .int
abbrev wsX00 : List Cond := u_ws RX0 TX0 4
theorem nmX0 : ∀ a, a < 4 → ∀ b, b < 4 → a ≠ b → (TX0 a).2.1 ≠ (TX0 b).2.1 := by decide +kernel
theorem tyX0_ok : ∀ k, k < 4 → parseFieldDescriptor (TX0 k).2.2.1 = some (tyX0 k) := by decide +kernel
abbrev cX0_init : ByteArray := prog_2_method_1_code
def yX0_init : MethodName := ⟨RX0, "<init>", "()V"⟩
abbrev cX0_numberOf : ByteArray := prog_2_method_2_code
def yX0_numberOf : MethodName := ⟨RX0, "numberOf", "(I)I"⟩
abbrev cX0_choose : ByteArray := prog_2_method_3_code
def yX0_choose : MethodName := ⟨RX0, "choose", "(LUniverseLevels$State;LUniverseLevels$Lengths;III)I"⟩
abbrev cX0_gather : ByteArray := prog_2_method_4_code
def yX0_gather : MethodName := ⟨RX0, "gather", "(LUniverseLevels$State;LUniverseLevels$Lengths;III)V"⟩
abbrev cX0_pickedBits : ByteArray := prog_2_method_5_code
def yX0_pickedBits : MethodName := ⟨RX0, "pickedBits", "(I)I"⟩
abbrev cX0_nextChoice : ByteArray := prog_2_method_6_code
def yX0_nextChoice : MethodName := ⟨RX0, "nextChoice", "(I)Z"⟩
def RX1 : String := "UniverseLevels$Lengths"
def TX1 : u_T := fun k => match k with
  | 0 => ("UniverseLevels$Lengths", "greatest", "[[I", true)
  | _ => ("UniverseLevels$Lengths", "levels", "I", false)
def tyX1 : Nat → FieldType := fun k => match k with
  | 0 => .array (.array .int)
  | _ => .int
abbrev wsX10 : List Cond := u_ws RX1 TX1 2
theorem nmX1 : ∀ a, a < 2 → ∀ b, b < 2 → a ≠ b → (TX1 a).2.1 ≠ (TX1 b).2.1 := by decide +kernel
theorem tyX1_ok : ∀ k, k < 2 → parseFieldDescriptor (TX1 k).2.2.1 = some (tyX1 k) := by decide +kernel
abbrev cX1_init : ByteArray := prog_3_method_1_code
def yX1_init : MethodName := ⟨RX1, "<init>", "()V"⟩
abbrev cX1_measure : ByteArray := prog_3_method_2_code
def yX1_measure : MethodName := ⟨RX1, "measure", "(LUniverseLevels$State;)V"⟩
abbrev cX1_leads : ByteArray := prog_3_method_3_code
def yX1_leads : MethodName := ⟨RX1, "leads", "(II)Z"⟩
abbrev cX1_implies : ByteArray := prog_3_method_4_code
def yX1_implies : MethodName := ⟨RX1, "implies", "(III)Z"⟩
abbrev cX1_valueOf : ByteArray := prog_3_method_5_code
def yX1_valueOf : MethodName := ⟨RX1, "valueOf", "(I)I"⟩
abbrev cX1_greatestValue : ByteArray := prog_3_method_6_code
def yX1_greatestValue : MethodName := ⟨RX1, "greatestValue", "()I"⟩
abbrev cX1_pairs : ByteArray := prog_3_method_7_code
def yX1_pairs : MethodName := ⟨RX1, "pairs", "()I"⟩
def RX2 : String := "UniverseLevels$Round"
def TX2 : u_T := fun k => match k with
  | 0 => ("UniverseLevels$Round", "levels", "[I", true)
  | 1 => ("UniverseLevels$Round", "fewest", "[I", true)
  | 2 => ("UniverseLevels$Round", "size", "I", false)
  | _ => ("UniverseLevels$Round", "above", "I", false)
def tyX2 : Nat → FieldType := fun k => match k with
  | 0 => .array .int
  | 1 => .array .int
  | 2 => .int
  | _ => .int
abbrev wsX20 : List Cond := u_ws RX2 TX2 4
theorem nmX2 : ∀ a, a < 4 → ∀ b, b < 4 → a ≠ b → (TX2 a).2.1 ≠ (TX2 b).2.1 := by decide +kernel
theorem tyX2_ok : ∀ k, k < 4 → parseFieldDescriptor (TX2 k).2.2.1 = some (tyX2 k) := by decide +kernel
abbrev cX2_init : ByteArray := prog_4_method_1_code
def yX2_init : MethodName := ⟨RX2, "<init>", "()V"⟩
abbrev cX2_trace : ByteArray := prog_4_method_2_code
def yX2_trace : MethodName := ⟨RX2, "trace", "(LUniverseLevels$State;LUniverseLevels$Lengths;II)V"⟩
abbrev cX2_countFewest : ByteArray := prog_4_method_3_code
def yX2_countFewest : MethodName := ⟨RX2, "countFewest", "(LUniverseLevels$State;LUniverseLevels$Lengths;I)V"⟩
abbrev cX2_nextLevel : ByteArray := prog_4_method_4_code
def yX2_nextLevel : MethodName := ⟨RX2, "nextLevel", "(LUniverseLevels$State;LUniverseLevels$Lengths;II)I"⟩
abbrev cX2_isOnLongest : ByteArray := prog_4_method_5_code
def yX2_isOnLongest : MethodName := ⟨RX2, "isOnLongest", "(LUniverseLevels$State;LUniverseLevels$Lengths;II)Z"⟩
def RX3 : String := "UniverseLevels$Rows"
def TX3 : u_T := fun k => match k with
  | 0 => ("UniverseLevels$Rows", "levels", "[I", true)
  | 1 => ("UniverseLevels$Rows", "more", "[I", true)
  | _ => ("UniverseLevels$Rows", "size", "I", false)
def tyX3 : Nat → FieldType := fun k => match k with
  | 0 => .array .int
  | 1 => .array .int
  | _ => .int
abbrev wsX30 : List Cond := u_ws RX3 TX3 3
theorem nmX3 : ∀ a, a < 3 → ∀ b, b < 3 → a ≠ b → (TX3 a).2.1 ≠ (TX3 b).2.1 := by decide +kernel
theorem tyX3_ok : ∀ k, k < 3 → parseFieldDescriptor (TX3 k).2.2.1 = some (tyX3 k) := by decide +kernel
abbrev cX3_init : ByteArray := prog_5_method_1_code
def yX3_init : MethodName := ⟨RX3, "<init>", "()V"⟩
abbrev cX3_add : ByteArray := prog_5_method_2_code
def yX3_add : MethodName := ⟨RX3, "add", "(II)V"⟩
abbrev cX3_isShort : ByteArray := prog_5_method_3_code
def yX3_isShort : MethodName := ⟨RX3, "isShort", "(ILUniverseLevels$Lengths;)Z"⟩
abbrev cX3_isCovered : ByteArray := prog_5_method_4_code
def yX3_isCovered : MethodName := ⟨RX3, "isCovered", "(IILUniverseLevels$Lengths;)Z"⟩
abbrev cX3_isNoMore : ByteArray := prog_5_method_5_code
def yX3_isNoMore : MethodName := ⟨RX3, "isNoMore", "(IILUniverseLevels$Lengths;)Z"⟩
def RX4 : String := "UniverseLevels$State"
def TX4 : u_T := fun k => match k with
  | 0 => ("UniverseLevels$State", "kinds", "[I", true)
  | 1 => ("UniverseLevels$State", "from", "[I", true)
  | 2 => ("UniverseLevels$State", "to", "[I", true)
  | 3 => ("UniverseLevels$State", "weight", "[I", true)
  | 4 => ("UniverseLevels$State", "levels", "I", false)
  | _ => ("UniverseLevels$State", "bounds", "I", false)
def tyX4 : Nat → FieldType := fun k => match k with
  | 0 => .array .int
  | 1 => .array .int
  | 2 => .array .int
  | 3 => .array .int
  | 4 => .int
  | _ => .int
abbrev wsX40 : List Cond := u_ws RX4 TX4 6
theorem nmX4 : ∀ a, a < 6 → ∀ b, b < 6 → a ≠ b → (TX4 a).2.1 ≠ (TX4 b).2.1 := by decide +kernel
theorem tyX4_ok : ∀ k, k < 6 → parseFieldDescriptor (TX4 k).2.2.1 = some (tyX4 k) := by decide +kernel
abbrev cX4_init : ByteArray := prog_6_method_1_code
def yX4_init : MethodName := ⟨RX4, "<init>", "()V"⟩
abbrev cX4_copy : ByteArray := prog_6_method_2_code
def yX4_copy : MethodName := ⟨RX4, "copy", "(LUniverseLevels$State;)V"⟩
abbrev cX4_addLevel : ByteArray := prog_6_method_3_code
def yX4_addLevel : MethodName := ⟨RX4, "addLevel", "(I)V"⟩
abbrev cX4_isFloating : ByteArray := prog_6_method_4_code
def yX4_isFloating : MethodName := ⟨RX4, "isFloating", "(I)Z"⟩
abbrev cX4_weightTowards : ByteArray := prog_6_method_5_code
def yX4_weightTowards : MethodName := ⟨RX4, "weightTowards", "(II)I"⟩
abbrev cX4_take : ByteArray := prog_6_method_6_code
def yX4_take : MethodName := ⟨RX4, "take", "(III)V"⟩
abbrev cX4_takeBack : ByteArray := prog_6_method_7_code
def yX4_takeBack : MethodName := ⟨RX4, "takeBack", "(I)V"⟩
abbrev cX4_lengthsFrom : ByteArray := prog_6_method_8_code
def yX4_lengthsFrom : MethodName := ⟨RX4, "lengthsFrom", "(II[I)V"⟩
abbrev cX4_lengthen : ByteArray := prog_6_method_9_code
def yX4_lengthen : MethodName := ⟨RX4, "lengthen", "(I[I)Z"⟩
def RX5 : String := "UniverseLevels$Text"
def TX5 : u_T := fun k => match k with
  | 0 => ("UniverseLevels$Text", "letters", "[I", true)
  | 1 => ("UniverseLevels$Text", "numbers", "[I", true)
  | _ => ("UniverseLevels$Text", "length", "I", false)
def tyX5 : Nat → FieldType := fun k => match k with
  | 0 => .array .int
  | 1 => .array .int
  | _ => .int
abbrev wsX50 : List Cond := u_ws RX5 TX5 3
theorem nmX5 : ∀ a, a < 3 → ∀ b, b < 3 → a ≠ b → (TX5 a).2.1 ≠ (TX5 b).2.1 := by decide +kernel
theorem tyX5_ok : ∀ k, k < 3 → parseFieldDescriptor (TX5 k).2.2.1 = some (tyX5 k) := by decide +kernel
abbrev cX5_init : ByteArray := prog_7_method_1_code
def yX5_init : MethodName := ⟨RX5, "<init>", "()V"⟩
abbrev cX5_append : ByteArray := prog_7_method_2_code
def yX5_append : MethodName := ⟨RX5, "append", "(I)Z"⟩
abbrev cX5_letterAt : ByteArray := prog_7_method_3_code
def yX5_letterAt : MethodName := ⟨RX5, "letterAt", "(I)I"⟩
abbrev cX5_firstFault : ByteArray := prog_7_method_4_code
def yX5_firstFault : MethodName := ⟨RX5, "firstFault", "()I"⟩
abbrev cX5_isAllowed : ByteArray := prog_7_method_5_code
def yX5_isAllowed : MethodName := ⟨RX5, "isAllowed", "(II)Z"⟩
abbrev cX5_readItem : ByteArray := prog_7_method_6_code
def yX5_readItem : MethodName := ⟨RX5, "readItem", "(I)I"⟩
abbrev cX5_numbersBehind : ByteArray := prog_7_method_7_code
def yX5_numbersBehind : MethodName := ⟨RX5, "numbersBehind", "(I)I"⟩
abbrev cX5_figuresAt : ByteArray := prog_7_method_8_code
def yX5_figuresAt : MethodName := ⟨RX5, "figuresAt", "(I)I"⟩
abbrev cX5_numberAt : ByteArray := prog_7_method_9_code
def yX5_numberAt : MethodName := ⟨RX5, "numberAt", "(II)I"⟩
abbrev cX5_isFigure : ByteArray := prog_7_method_10_code
def yX5_isFigure : MethodName := ⟨RX5, "isFigure", "(I)Z"⟩
def RX6 : String := "UniverseLevels"
def TX6 : u_T := fun k => match k with
  | 0 => ("UniverseLevels", "text", "LUniverseLevels$Text;", true)
  | 1 => ("UniverseLevels", "now", "LUniverseLevels$State;", true)
  | 2 => ("UniverseLevels", "earlier", "[LUniverseLevels$State;", true)
  | 3 => ("UniverseLevels", "undoable", "I", false)
  | 4 => ("UniverseLevels", "kept", "[LUniverseLevels$State;", true)
  | 5 => ("UniverseLevels", "keptOnes", "I", false)
  | 6 => ("UniverseLevels", "lengths", "LUniverseLevels$Lengths;", true)
  | 7 => ("UniverseLevels", "trial", "[I", true)
  | 8 => ("UniverseLevels", "against", "LUniverseLevels$Against;", true)
  | 9 => ("UniverseLevels", "max", "LUniverseLevels$Rows;", true)
  | 10 => ("UniverseLevels", "rootRows", "LUniverseLevels$Rows;", true)
  | 11 => ("UniverseLevels", "shown", "LUniverseLevels$Round;", true)
  | _ => ("UniverseLevels", "refused", "I", false)
def tyX6 : Nat → FieldType := fun k => match k with
  | 0 => .object "UniverseLevels$Text"
  | 1 => .object "UniverseLevels$State"
  | 2 => .array (.object "UniverseLevels$State")
  | 3 => .int
  | 4 => .array (.object "UniverseLevels$State")
  | 5 => .int
  | 6 => .object "UniverseLevels$Lengths"
  | 7 => .array .int
  | 8 => .object "UniverseLevels$Against"
  | 9 => .object "UniverseLevels$Rows"
  | 10 => .object "UniverseLevels$Rows"
  | 11 => .object "UniverseLevels$Round"
  | _ => .int
abbrev wsX60 : List Cond := u_ws RX6 TX6 13
theorem nmX6 : ∀ a, a < 13 → ∀ b, b < 13 → a ≠ b → (TX6 a).2.1 ≠ (TX6 b).2.1 := by decide +kernel
theorem tyX6_ok : ∀ k, k < 13 → parseFieldDescriptor (TX6 k).2.2.1 = some (tyX6 k) := by decide +kernel
abbrev cX6_init : ByteArray := prog_1_method_1_code
def yX6_init : MethodName := ⟨RX6, "<init>", "()V"⟩
abbrev cX6_write : ByteArray := prog_1_method_2_code
def yX6_write : MethodName := ⟨RX6, "write", "(I)I"⟩
abbrev cX6_wipe : ByteArray := prog_1_method_3_code
def yX6_wipe : MethodName := ⟨RX6, "wipe", "()I"⟩
abbrev cX6_fault : ByteArray := prog_1_method_4_code
def yX6_fault : MethodName := ⟨RX6, "fault", "()I"⟩
abbrev cX6_lay : ByteArray := prog_1_method_5_code
def yX6_lay : MethodName := ⟨RX6, "lay", "()I"⟩
abbrev cX6_level : ByteArray := prog_1_method_6_code
def yX6_level : MethodName := ⟨RX6, "level", "(II)I"⟩
abbrev cX6_bound : ByteArray := prog_1_method_7_code
def yX6_bound : MethodName := ⟨RX6, "bound", "(II)I"⟩
abbrev cX6_reach : ByteArray := prog_1_method_8_code
def yX6_reach : MethodName := ⟨RX6, "reach", "(II)I"⟩
abbrev cX6_ask : ByteArray := prog_1_method_9_code
def yX6_ask : MethodName := ⟨RX6, "ask", "(III)I"⟩
abbrev cX6_retract : ByteArray := prog_1_method_10_code
def yX6_retract : MethodName := ⟨RX6, "retract", "(I)I"⟩
abbrev cX6_rename : ByteArray := prog_1_method_11_code
def yX6_rename : MethodName := ⟨RX6, "rename", "(II)I"⟩
abbrev cX6_undo : ByteArray := prog_1_method_12_code
def yX6_undo : MethodName := ⟨RX6, "undo", "()I"⟩
abbrev cX6_round : ByteArray := prog_1_method_13_code
def yX6_round : MethodName := ⟨RX6, "round", "(I)I"⟩
abbrev cX6_follows : ByteArray := prog_1_method_14_code
def yX6_follows : MethodName := ⟨RX6, "follows", "(III)I"⟩
abbrev cX6_raised : ByteArray := prog_1_method_15_code
def yX6_raised : MethodName := ⟨RX6, "raised", "(III)I"⟩
abbrev cX6_top : ByteArray := prog_1_method_16_code
def yX6_top : MethodName := ⟨RX6, "top", "(III)I"⟩
abbrev cX6_stands : ByteArray := prog_1_method_17_code
def yX6_stands : MethodName := ⟨RX6, "stands", "(IIII)I"⟩
abbrev cX6_term : ByteArray := prog_1_method_18_code
def yX6_term : MethodName := ⟨RX6, "term", "(II)I"⟩
abbrev cX6_empty : ByteArray := prog_1_method_19_code
def yX6_empty : MethodName := ⟨RX6, "empty", "()I"⟩
abbrev cX6_brief : ByteArray := prog_1_method_20_code
def yX6_brief : MethodName := ⟨RX6, "brief", "()I"⟩
abbrev cX6_below : ByteArray := prog_1_method_21_code
def yX6_below : MethodName := ⟨RX6, "below", "(II)I"⟩
abbrev cX6_worth : ByteArray := prog_1_method_22_code
def yX6_worth : MethodName := ⟨RX6, "worth", "()I"⟩
abbrev cX6_roots : ByteArray := prog_1_method_23_code
def yX6_roots : MethodName := ⟨RX6, "roots", "(I)I"⟩
abbrev cX6_loose : ByteArray := prog_1_method_24_code
def yX6_loose : MethodName := ⟨RX6, "loose", "(II)I"⟩
abbrev cX6_keep : ByteArray := prog_1_method_25_code
def yX6_keep : MethodName := ⟨RX6, "keep", "()I"⟩
abbrev cX6_back : ByteArray := prog_1_method_26_code
def yX6_back : MethodName := ⟨RX6, "back", "()I"⟩
abbrev cX6_count : ByteArray := prog_1_method_27_code
def yX6_count : MethodName := ⟨RX6, "count", "(I)I"⟩
abbrev cX6_isLevel : ByteArray := prog_1_method_28_code
def yX6_isLevel : MethodName := ⟨RX6, "isLevel", "(I)Z"⟩
abbrev cX6_areUnlike : ByteArray := prog_1_method_29_code
def yX6_areUnlike : MethodName := ⟨RX6, "areUnlike", "(II)Z"⟩
abbrev cX6_isBound : ByteArray := prog_1_method_30_code
def yX6_isBound : MethodName := ⟨RX6, "isBound", "(I)Z"⟩
abbrev cX6_isK : ByteArray := prog_1_method_31_code
def yX6_isK : MethodName := ⟨RX6, "isK", "(I)Z"⟩
abbrev cX6_isX : ByteArray := prog_1_method_32_code
def yX6_isX : MethodName := ⟨RX6, "isX", "(I)Z"⟩
abbrev cX6_layText : ByteArray := prog_1_method_33_code
def yX6_layText : MethodName := ⟨RX6, "layText", "()V"⟩
abbrev cX6_layItem : ByteArray := prog_1_method_34_code
def yX6_layItem : MethodName := ⟨RX6, "layItem", "(I[I)V"⟩
abbrev cX6_pose : ByteArray := prog_1_method_35_code
def yX6_pose : MethodName := ⟨RX6, "pose", "(III)I"⟩
abbrev cX6_remember : ByteArray := prog_1_method_36_code
def yX6_remember : MethodName := ⟨RX6, "remember", "()V"⟩
abbrev cX6_resume : ByteArray := prog_1_method_37_code
def yX6_resume : MethodName := ⟨RX6, "resume", "(LUniverseLevels$State;)V"⟩
abbrev cX6_placeOf : ByteArray := prog_1_method_38_code
def yX6_placeOf : MethodName := ⟨RX6, "placeOf", "(I)I"⟩
abbrev cX6_sameAs : ByteArray := prog_1_method_39_code
def yX6_sameAs : MethodName := ⟨RX6, "sameAs", "(I)I"⟩
abbrev cX6_isNeedless : ByteArray := prog_1_method_40_code
def yX6_isNeedless : MethodName := ⟨RX6, "isNeedless", "(I)Z"⟩
abbrev cX6_slackOf : ByteArray := prog_1_method_41_code
def yX6_slackOf : MethodName := ⟨RX6, "slackOf", "(I)I"⟩
abbrev cX6_floatingOnes : ByteArray := prog_1_method_42_code
def yX6_floatingOnes : MethodName := ⟨RX6, "floatingOnes", "()I"⟩
abbrev cX6_isRoot : ByteArray := prog_1_method_43_code
def yX6_isRoot : MethodName := ⟨RX6, "isRoot", "(II)Z"⟩
abbrev cX6_gatherRoots : ByteArray := prog_1_method_44_code
def yX6_gatherRoots : MethodName := ⟨RX6, "gatherRoots", "(I)V"⟩
abbrev cX6_isLoose : ByteArray := prog_1_method_45_code
def yX6_isLoose : MethodName := ⟨RX6, "isLoose", "(I)Z"⟩
abbrev cX6_isPinned : ByteArray := prog_1_method_46_code
def yX6_isPinned : MethodName := ⟨RX6, "isPinned", "(I)Z"⟩
def RX7 : String := "UniverseLevelsModel"
def TX7 : u_T := fun k => match k with
  | 0 => ("UniverseLevelsModel", "length", "I", false)
  | 1 => ("UniverseLevelsModel", "text", "[I", true)
  | 2 => ("UniverseLevelsModel", "levels", "I", false)
  | 3 => ("UniverseLevelsModel", "readLevels", "I", false)
  | 4 => ("UniverseLevelsModel", "readAsked", "I", false)
  | 5 => ("UniverseLevelsModel", "asked", "[I", true)
  | 6 => ("UniverseLevelsModel", "readKinds", "[I", true)
  | 7 => ("UniverseLevelsModel", "now", "[I", true)
  | 8 => ("UniverseLevelsModel", "before", "[I", true)
  | 9 => ("UniverseLevelsModel", "undoMany", "I", false)
  | 10 => ("UniverseLevelsModel", "kept", "[I", true)
  | 11 => ("UniverseLevelsModel", "keptMany", "I", false)
  | 12 => ("UniverseLevelsModel", "refused", "I", false)
  | 13 => ("UniverseLevelsModel", "roundMany", "I", false)
  | 14 => ("UniverseLevelsModel", "roundOver", "I", false)
  | 15 => ("UniverseLevelsModel", "round", "[I", true)
  | 16 => ("UniverseLevelsModel", "terms", "I", false)
  | 17 => ("UniverseLevelsModel", "termLevel", "[I", true)
  | 18 => ("UniverseLevelsModel", "termAdd", "[I", true)
  | 19 => ("UniverseLevelsModel", "spot", "I", false)
  | 20 => ("UniverseLevelsModel", "number", "[I", true)
  | 21 => ("UniverseLevelsModel", "reach", "[I", true)
  | 22 => ("UniverseLevelsModel", "edge", "[I", true)
  | _ => ("UniverseLevelsModel", "by", "[I", true)
def tyX7 : Nat → FieldType := fun k => match k with
  | 0 => .int
  | 1 => .array .int
  | 2 => .int
  | 3 => .int
  | 4 => .int
  | 5 => .array .int
  | 6 => .array .int
  | 7 => .array .int
  | 8 => .array .int
  | 9 => .int
  | 10 => .array .int
  | 11 => .int
  | 12 => .int
  | 13 => .int
  | 14 => .int
  | 15 => .array .int
  | 16 => .int
  | 17 => .array .int
  | 18 => .array .int
  | 19 => .int
  | 20 => .array .int
  | 21 => .array .int
  | 22 => .array .int
  | _ => .array .int
abbrev wsX70 : List Cond := u_ws RX7 TX7 24
theorem nmX7 : ∀ a, a < 24 → ∀ b, b < 24 → a ≠ b → (TX7 a).2.1 ≠ (TX7 b).2.1 := by decide +kernel
theorem tyX7_ok : ∀ k, k < 24 → parseFieldDescriptor (TX7 k).2.2.1 = some (tyX7 k) := by decide +kernel
abbrev cX7_init : ByteArray := prog_9_method_1_code
def yX7_init : MethodName := ⟨RX7, "<init>", "()V"⟩
abbrev cX7_in : ByteArray := prog_9_method_2_code
def yX7_in : MethodName := ⟨RX7, "in", "(JJJ)Z"⟩
abbrev cX7_has : ByteArray := prog_9_method_3_code
def yX7_has : MethodName := ⟨RX7, "has", "(II)Z"⟩
abbrev cX7_readNone : ByteArray := prog_9_method_4_code
def yX7_readNone : MethodName := ⟨RX7, "readNone", "()V"⟩
abbrev cX7_levelIs : ByteArray := prog_9_method_5_code
def yX7_levelIs : MethodName := ⟨RX7, "levelIs", "(I)V"⟩
abbrev cX7_askedIs : ByteArray := prog_9_method_6_code
def yX7_askedIs : MethodName := ⟨RX7, "askedIs", "(III)V"⟩
abbrev cX7_write : ByteArray := prog_9_method_7_code
def yX7_write : MethodName := ⟨RX7, "write", "(I)I"⟩
abbrev cX7_wipe : ByteArray := prog_9_method_8_code
def yX7_wipe : MethodName := ⟨RX7, "wipe", "()I"⟩
abbrev cX7_letterAt : ByteArray := prog_9_method_9_code
def yX7_letterAt : MethodName := ⟨RX7, "letterAt", "(I)I"⟩
abbrev cX7_numbers : ByteArray := prog_9_method_10_code
def yX7_numbers : MethodName := ⟨RX7, "numbers", "(I)Z"⟩
abbrev cX7_item : ByteArray := prog_9_method_11_code
def yX7_item : MethodName := ⟨RX7, "item", "()Z"⟩
abbrev cX7_readAll : ByteArray := prog_9_method_12_code
def yX7_readAll : MethodName := ⟨RX7, "readAll", "()I"⟩
abbrev cX7_fault : ByteArray := prog_9_method_13_code
def yX7_fault : MethodName := ⟨RX7, "fault", "()I"⟩
abbrev cX7_lay : ByteArray := prog_9_method_14_code
def yX7_lay : MethodName := ⟨RX7, "lay", "()I"⟩
abbrev cX7_begin : ByteArray := prog_9_method_15_code
def yX7_begin : MethodName := ⟨RX7, "begin", "()V"⟩
abbrev cX7_isLevel : ByteArray := prog_9_method_16_code
def yX7_isLevel : MethodName := ⟨RX7, "isLevel", "(I)Z"⟩
abbrev cX7_isAdd : ByteArray := prog_9_method_17_code
def yX7_isAdd : MethodName := ⟨RX7, "isAdd", "(I)Z"⟩
abbrev cX7_isWay : ByteArray := prog_9_method_18_code
def yX7_isWay : MethodName := ⟨RX7, "isWay", "(I)Z"⟩
abbrev cX7_findBut : ByteArray := prog_9_method_19_code
def yX7_findBut : MethodName := ⟨RX7, "findBut", "(I)V"⟩
abbrev cX7_find : ByteArray := prog_9_method_20_code
def yX7_find : MethodName := ⟨RX7, "find", "()V"⟩
abbrev cX7_weightTo : ByteArray := prog_9_method_21_code
def yX7_weightTo : MethodName := ⟨RX7, "weightTo", "(II)I"⟩
abbrev cX7_clashes : ByteArray := prog_9_method_22_code
def yX7_clashes : MethodName := ⟨RX7, "clashes", "(II)Z"⟩
abbrev cX7_findRound : ByteArray := prog_9_method_23_code
def yX7_findRound : MethodName := ⟨RX7, "findRound", "(III)V"⟩
abbrev cX7_mayTake : ByteArray := prog_9_method_24_code
def yX7_mayTake : MethodName := ⟨RX7, "mayTake", "(III)Z"⟩
abbrev cX7_takeBound : ByteArray := prog_9_method_25_code
def yX7_takeBound : MethodName := ⟨RX7, "takeBound", "(III)V"⟩
abbrev cX7_valueOf : ByteArray := prog_9_method_26_code
def yX7_valueOf : MethodName := ⟨RX7, "valueOf", "(I)I"⟩
abbrev cX7_areSame : ByteArray := prog_9_method_27_code
def yX7_areSame : MethodName := ⟨RX7, "areSame", "(II)Z"⟩
abbrev cX7_isFloating : ByteArray := prog_9_method_28_code
def yX7_isFloating : MethodName := ⟨RX7, "isFloating", "(I)Z"⟩
abbrev cX7_level : ByteArray := prog_9_method_29_code
def yX7_level : MethodName := ⟨RX7, "level", "(II)I"⟩
abbrev cX7_bound : ByteArray := prog_9_method_30_code
def yX7_bound : MethodName := ⟨RX7, "bound", "(II)I"⟩
abbrev cX7_reach : ByteArray := prog_9_method_31_code
def yX7_reach : MethodName := ⟨RX7, "reach", "(II)I"⟩
abbrev cX7_note : ByteArray := prog_9_method_32_code
def yX7_note : MethodName := ⟨RX7, "note", "()V"⟩
abbrev cX7_ask : ByteArray := prog_9_method_33_code
def yX7_ask : MethodName := ⟨RX7, "ask", "(III)I"⟩
abbrev cX7_retract : ByteArray := prog_9_method_34_code
def yX7_retract : MethodName := ⟨RX7, "retract", "(I)I"⟩
abbrev cX7_rename : ByteArray := prog_9_method_35_code
def yX7_rename : MethodName := ⟨RX7, "rename", "(II)I"⟩
abbrev cX7_undo : ByteArray := prog_9_method_36_code
def yX7_undo : MethodName := ⟨RX7, "undo", "()I"⟩
abbrev cX7_round : ByteArray := prog_9_method_37_code
def yX7_round : MethodName := ⟨RX7, "round", "(I)I"⟩
abbrev cX7_isSo : ByteArray := prog_9_method_38_code
def yX7_isSo : MethodName := ⟨RX7, "isSo", "(III)Z"⟩
abbrev cX7_follows : ByteArray := prog_9_method_39_code
def yX7_follows : MethodName := ⟨RX7, "follows", "(III)I"⟩
abbrev cX7_raised : ByteArray := prog_9_method_40_code
def yX7_raised : MethodName := ⟨RX7, "raised", "(III)I"⟩
abbrev cX7_top : ByteArray := prog_9_method_41_code
def yX7_top : MethodName := ⟨RX7, "top", "(III)I"⟩
abbrev cX7_ones : ByteArray := prog_9_method_42_code
def yX7_ones : MethodName := ⟨RX7, "ones", "(I)I"⟩
abbrev cX7_nth : ByteArray := prog_9_method_43_code
def yX7_nth : MethodName := ⟨RX7, "nth", "(II)I"⟩
abbrev cX7_isAhead : ByteArray := prog_9_method_44_code
def yX7_isAhead : MethodName := ⟨RX7, "isAhead", "(II)Z"⟩
abbrev cX7_stands : ByteArray := prog_9_method_45_code
def yX7_stands : MethodName := ⟨RX7, "stands", "(IIII)I"⟩
abbrev cX7_term : ByteArray := prog_9_method_46_code
def yX7_term : MethodName := ⟨RX7, "term", "(II)I"⟩
abbrev cX7_empty : ByteArray := prog_9_method_47_code
def yX7_empty : MethodName := ⟨RX7, "empty", "()I"⟩
abbrev cX7_isNoMore : ByteArray := prog_9_method_48_code
def yX7_isNoMore : MethodName := ⟨RX7, "isNoMore", "(II)Z"⟩
abbrev cX7_brief : ByteArray := prog_9_method_49_code
def yX7_brief : MethodName := ⟨RX7, "brief", "()I"⟩
abbrev cX7_below : ByteArray := prog_9_method_50_code
def yX7_below : MethodName := ⟨RX7, "below", "(II)I"⟩
abbrev cX7_worth : ByteArray := prog_9_method_51_code
def yX7_worth : MethodName := ⟨RX7, "worth", "()I"⟩
abbrev cX7_isRoot : ByteArray := prog_9_method_52_code
def yX7_isRoot : MethodName := ⟨RX7, "isRoot", "(II)Z"⟩
abbrev cX7_roots : ByteArray := prog_9_method_53_code
def yX7_roots : MethodName := ⟨RX7, "roots", "(I)I"⟩
abbrev cX7_loose : ByteArray := prog_9_method_54_code
def yX7_loose : MethodName := ⟨RX7, "loose", "(II)I"⟩
abbrev cX7_keep : ByteArray := prog_9_method_55_code
def yX7_keep : MethodName := ⟨RX7, "keep", "()I"⟩
abbrev cX7_back : ByteArray := prog_9_method_56_code
def yX7_back : MethodName := ⟨RX7, "back", "()I"⟩
abbrev cX7_greatest : ByteArray := prog_9_method_57_code
def yX7_greatest : MethodName := ⟨RX7, "greatest", "()I"⟩
abbrev cX7_pairs : ByteArray := prog_9_method_58_code
def yX7_pairs : MethodName := ⟨RX7, "pairs", "()I"⟩
abbrev cX7_floatingMany : ByteArray := prog_9_method_59_code
def yX7_floatingMany : MethodName := ⟨RX7, "floatingMany", "()I"⟩
abbrev cX7_count : ByteArray := prog_9_method_60_code
def yX7_count : MethodName := ⟨RX7, "count", "(I)I"⟩
def RJx145de : String := "java/io/Serializable"
def TJx145de : u_T := fun k => match k with
  | _ => ("", "", "", false)
def tyJx145de : Nat → FieldType := fun k => match k with
  | _ => .int
abbrev wsJx145de0 : List Cond := u_ws RJx145de TJx145de 0
theorem nmJx145de : ∀ a, a < 0 → ∀ b, b < 0 → a ≠ b → (TJx145de a).2.1 ≠ (TJx145de b).2.1 := by decide +kernel
theorem tyJx145de_ok : ∀ k, k < 0 → parseFieldDescriptor (TJx145de k).2.2.1 = some (tyJx145de k) := by decide +kernel
def RJx9f9b0 : String := "java/lang/CharSequence"
def TJx9f9b0 : u_T := fun k => match k with
  | _ => ("", "", "", false)
def tyJx9f9b0 : Nat → FieldType := fun k => match k with
  | _ => .int
abbrev wsJx9f9b00 : List Cond := u_ws RJx9f9b0 TJx9f9b0 0
theorem nmJx9f9b0 : ∀ a, a < 0 → ∀ b, b < 0 → a ≠ b → (TJx9f9b0 a).2.1 ≠ (TJx9f9b0 b).2.1 := by decide +kernel
theorem tyJx9f9b0_ok : ∀ k, k < 0 → parseFieldDescriptor (TJx9f9b0 k).2.2.1 = some (tyJx9f9b0 k) := by decide +kernel
def RJxb160c : String := "java/lang/Comparable"
def TJxb160c : u_T := fun k => match k with
  | _ => ("", "", "", false)
def tyJxb160c : Nat → FieldType := fun k => match k with
  | _ => .int
abbrev wsJxb160c0 : List Cond := u_ws RJxb160c TJxb160c 0
theorem nmJxb160c : ∀ a, a < 0 → ∀ b, b < 0 → a ≠ b → (TJxb160c a).2.1 ≠ (TJxb160c b).2.1 := by decide +kernel
theorem tyJxb160c_ok : ∀ k, k < 0 → parseFieldDescriptor (TJxb160c k).2.2.1 = some (tyJxb160c k) := by decide +kernel
def RJ9 : String := "java/lang/Math"
def TJ9 : u_T := fun k => match k with
  | _ => ("", "", "", false)
def tyJ9 : Nat → FieldType := fun k => match k with
  | _ => .int
abbrev wsJ90 : List Cond := u_ws RJ9 TJ9 0
theorem nmJ9 : ∀ a, a < 0 → ∀ b, b < 0 → a ≠ b → (TJ9 a).2.1 ≠ (TJ9 b).2.1 := by decide +kernel
theorem tyJ9_ok : ∀ k, k < 0 → parseFieldDescriptor (TJ9 k).2.2.1 = some (tyJ9 k) := by decide +kernel
abbrev cJ9_max_7cf53 : ByteArray := prog_10_method_65_code
def yJ9_max_7cf53 : MethodName := ⟨RJ9, "max", "(II)I"⟩
abbrev cJ9_min_7cf53 : ByteArray := prog_10_method_69_code
def yJ9_min_7cf53 : MethodName := ⟨RJ9, "min", "(II)I"⟩
def RJ0 : String := "java/lang/String"
def TJ0 : u_T := fun k => match k with
  | _ => ("", "", "", false)
def tyJ0 : Nat → FieldType := fun k => match k with
  | _ => .int
abbrev wsJ00 : List Cond := u_ws RJ0 TJ0 0
theorem nmJ0 : ∀ a, a < 0 → ∀ b, b < 0 → a ≠ b → (TJ0 a).2.1 ≠ (TJ0 b).2.1 := by decide +kernel
theorem tyJ0_ok : ∀ k, k < 0 → parseFieldDescriptor (TJ0 k).2.2.1 = some (tyJ0 k) := by decide +kernel
abbrev cJ0_length_8abf5 : ByteArray := prog_11_method_54_code
def yJ0_length_8abf5 : MethodName := ⟨RJ0, "length", "()I"⟩
abbrev cJ0_charAt_5068e : ByteArray := prog_11_method_56_code
def yJ0_charAt_5068e : MethodName := ⟨RJ0, "charAt", "(I)C"⟩
abbrev cJ0_coder_7d493 : ByteArray := prog_11_method_152_code
def yJ0_coder_7d493 : MethodName := ⟨RJ0, "coder", "()B"⟩
abbrev cJ0_isLatin1_aae02 : ByteArray := prog_11_method_154_code
def yJ0_isLatin1_aae02 : MethodName := ⟨RJ0, "isLatin1", "()Z"⟩
abbrev cJ0_checkIndex_df160 : ByteArray := prog_11_method_155_code
def yJ0_checkIndex_df160 : MethodName := ⟨RJ0, "checkIndex", "(II)V"⟩
def RJ1 : String := "java/lang/StringLatin1"
def TJ1 : u_T := fun k => match k with
  | _ => ("", "", "", false)
def tyJ1 : Nat → FieldType := fun k => match k with
  | _ => .int
abbrev wsJ10 : List Cond := u_ws RJ1 TJ1 0
theorem nmJ1 : ∀ a, a < 0 → ∀ b, b < 0 → a ≠ b → (TJ1 a).2.1 ≠ (TJ1 b).2.1 := by decide +kernel
theorem tyJ1_ok : ∀ k, k < 0 → parseFieldDescriptor (TJ1 k).2.2.1 = some (tyJ1 k) := by decide +kernel
abbrev cJ1_charAt_3b067 : ByteArray := prog_12_method_2_code
def yJ1_charAt_3b067 : MethodName := ⟨RJ1, "charAt", "([BI)C"⟩
def RJ2 : String := "java/lang/StringUTF16"
def TJ2 : u_T := fun k => match k with
  | _ => ("", "", "", false)
def tyJ2 : Nat → FieldType := fun k => match k with
  | _ => .int
abbrev wsJ20 : List Cond := u_ws RJ2 TJ2 0
theorem nmJ2 : ∀ a, a < 0 → ∀ b, b < 0 → a ≠ b → (TJ2 a).2.1 ≠ (TJ2 b).2.1 := by decide +kernel
theorem tyJ2_ok : ∀ k, k < 0 → parseFieldDescriptor (TJ2 k).2.2.1 = some (tyJ2 k) := by decide +kernel
abbrev cJ2_getChar_3b067 : ByteArray := prog_13_method_5_code
def yJ2_getChar_3b067 : MethodName := ⟨RJ2, "getChar", "([BI)C"⟩
abbrev cJ2_length_9d52b : ByteArray := prog_13_method_6_code
def yJ2_length_9d52b : MethodName := ⟨RJ2, "length", "([B)I"⟩
abbrev cJ2_charAt_3b067 : ByteArray := prog_13_method_83_code
def yJ2_charAt_3b067 : MethodName := ⟨RJ2, "charAt", "([BI)C"⟩
abbrev cJ2_checkIndex_2214a : ByteArray := prog_13_method_91_code
def yJ2_checkIndex_2214a : MethodName := ⟨RJ2, "checkIndex", "(I[B)V"⟩
def RJ10 : String := "java/lang/System"
def TJ10 : u_T := fun k => match k with
  | _ => ("", "", "", false)
def tyJ10 : Nat → FieldType := fun k => match k with
  | _ => .int
abbrev wsJ100 : List Cond := u_ws RJ10 TJ10 0
theorem nmJ10 : ∀ a, a < 0 → ∀ b, b < 0 → a ≠ b → (TJ10 a).2.1 ≠ (TJ10 b).2.1 := by decide +kernel
theorem tyJ10_ok : ∀ k, k < 0 → parseFieldDescriptor (TJ10 k).2.2.1 = some (tyJ10 k) := by decide +kernel
def RJxfd54e : String := "java/lang/constant/Constable"
def TJxfd54e : u_T := fun k => match k with
  | _ => ("", "", "", false)
def tyJxfd54e : Nat → FieldType := fun k => match k with
  | _ => .int
abbrev wsJxfd54e0 : List Cond := u_ws RJxfd54e TJxfd54e 0
theorem nmJxfd54e : ∀ a, a < 0 → ∀ b, b < 0 → a ≠ b → (TJxfd54e a).2.1 ≠ (TJxfd54e b).2.1 := by decide +kernel
theorem tyJxfd54e_ok : ∀ k, k < 0 → parseFieldDescriptor (TJxfd54e k).2.2.1 = some (tyJxfd54e k) := by decide +kernel
def RJx3cf43 : String := "java/lang/constant/ConstantDesc"
def TJx3cf43 : u_T := fun k => match k with
  | _ => ("", "", "", false)
def tyJx3cf43 : Nat → FieldType := fun k => match k with
  | _ => .int
abbrev wsJx3cf430 : List Cond := u_ws RJx3cf43 TJx3cf43 0
theorem nmJx3cf43 : ∀ a, a < 0 → ∀ b, b < 0 → a ≠ b → (TJx3cf43 a).2.1 ≠ (TJx3cf43 b).2.1 := by decide +kernel
theorem tyJx3cf43_ok : ∀ k, k < 0 → parseFieldDescriptor (TJx3cf43 k).2.2.1 = some (tyJx3cf43 k) := by decide +kernel
def RJ7 : String := "java/util/Arrays"
def TJ7 : u_T := fun k => match k with
  | _ => ("", "", "", false)
def tyJ7 : Nat → FieldType := fun k => match k with
  | _ => .int
abbrev wsJ70 : List Cond := u_ws RJ7 TJ7 0
theorem nmJ7 : ∀ a, a < 0 → ∀ b, b < 0 → a ≠ b → (TJ7 a).2.1 ≠ (TJ7 b).2.1 := by decide +kernel
theorem tyJ7_ok : ∀ k, k < 0 → parseFieldDescriptor (TJ7 k).2.2.1 = some (tyJ7 k) := by decide +kernel
abbrev cJ7_fill_53178 : ByteArray := prog_15_method_103_code
def yJ7_fill_53178 : MethodName := ⟨RJ7, "fill", "([II)V"⟩
def RJ3 : String := "jdk/internal/util/Preconditions"
def TJ3 : u_T := fun k => match k with
  | _ => ("", "", "", false)
def tyJ3 : Nat → FieldType := fun k => match k with
  | _ => .int
abbrev wsJ30 : List Cond := u_ws RJ3 TJ3 0
theorem nmJ3 : ∀ a, a < 0 → ∀ b, b < 0 → a ≠ b → (TJ3 a).2.1 ≠ (TJ3 b).2.1 := by decide +kernel
theorem tyJ3_ok : ∀ k, k < 0 → parseFieldDescriptor (TJ3 k).2.2.1 = some (tyJ3 k) := by decide +kernel
abbrev cJ3_checkIndex_8e157 : ByteArray := prog_16_method_11_code
def yJ3_checkIndex_8e157 : MethodName := ⟨RJ3, "checkIndex", "(IILjava/util/function/BiFunction;)I"⟩
def RL : String := "UniverseLevelsLaw"
abbrev cL_law : ByteArray := code
def yL_law : MethodName := ⟨RL, "law", "([I)Z"⟩
abbrev vwCl : List vw_C := [(RX0, TX0, 4), (RX1, TX1, 2), (RX2, TX2, 4), (RX3, TX3, 3), (RX4, TX4, 6), (RX5, TX5, 3), (RX6, TX6, 13), (RX7, TX7, 24)]
