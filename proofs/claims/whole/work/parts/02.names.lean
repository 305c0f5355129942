def RX0 : String := "TwoTreesAlike$Merge"
def TX0 : u_T := fun k => match k with
  | 0 => ("TwoTreesAlike$Merge", "world", "LTwoTreesAlike$World;", false)
  | 1 => ("TwoTreesAlike$Merge", "ignored", "[Z", true)
  | 2 => ("TwoTreesAlike$Merge", "changed", "[[I", true)
  | 3 => ("TwoTreesAlike$Merge", "goal", "LTwoTreesAlike$Tree;", true)
  | 4 => ("TwoTreesAlike$Merge", "total", "I", false)
  | 5 => ("TwoTreesAlike$Merge", "first", "I", false)
  | 6 => ("TwoTreesAlike$Merge", "clashKind", "[I", true)
  | 7 => ("TwoTreesAlike$Merge", "clashThing", "[I", true)
  | _ => ("TwoTreesAlike$Merge", "clashes", "I", false)
def tyX0 : Nat → FieldType := fun k => match k with
  | 0 => .object "TwoTreesAlike$World"
  | 1 => .array .boolean
  | 2 => .array (.array .int)
  | 3 => .object "TwoTreesAlike$Tree"
  | 4 => .int
  | 5 => .int
  | 6 => .array .int
  | 7 => .array .int
  | _ => .int
abbrev wsX00 : List Cond := u_ws RX0 TX0 9
theorem nmX0 : ∀ a, a < 9 → ∀ b, b < 9 → a ≠ b → (TX0 a).2.1 ≠ (TX0 b).2.1 := by decide +kernel
theorem tyX0_ok : ∀ k, k < 9 → parseFieldDescriptor (TX0 k).2.2.1 = some (tyX0 k) := by decide +kernel
abbrev cX0_init : ByteArray := prog_2_method_1_code
def yX0_init : MethodName := ⟨RX0, "<init>", "(LTwoTreesAlike$World;)V"⟩
abbrev cX0_compare : ByteArray := prog_2_method_2_code
def yX0_compare : MethodName := ⟨RX0, "compare", "(LTwoTreesAlike$World;)V"⟩
abbrev cX0_ignoreWithin : ByteArray := prog_2_method_3_code
def yX0_ignoreWithin : MethodName := ⟨RX0, "ignoreWithin", "()V"⟩
abbrev cX0_standsInIgnored : ByteArray := prog_2_method_4_code
def yX0_standsInIgnored : MethodName := ⟨RX0, "standsInIgnored", "(I)Z"⟩
abbrev cX0_changeOf : ByteArray := prog_2_method_5_code
def yX0_changeOf : MethodName := ⟨RX0, "changeOf", "(LTwoTreesAlike$Tree;I)I"⟩
abbrev cX0_settle : ByteArray := prog_2_method_6_code
def yX0_settle : MethodName := ⟨RX0, "settle", "(LTwoTreesAlike$World;I)V"⟩
abbrev cX0_addClash : ByteArray := prog_2_method_7_code
def yX0_addClash : MethodName := ⟨RX0, "addClash", "(II)V"⟩
abbrev cX0_decideWho : ByteArray := prog_2_method_8_code
def yX0_decideWho : MethodName := ⟨RX0, "decideWho", "()V"⟩
abbrev cX0_isKeptOn : ByteArray := prog_2_method_9_code
def yX0_isKeptOn : MethodName := ⟨RX0, "isKeptOn", "(II)Z"⟩
abbrev cX0_decider : ByteArray := prog_2_method_10_code
def yX0_decider : MethodName := ⟨RX0, "decider", "(II)LTwoTreesAlike$Tree;"⟩
abbrev cX0_bothDid : ByteArray := prog_2_method_11_code
def yX0_bothDid : MethodName := ⟨RX0, "bothDid", "(II)Z"⟩
abbrev cX0_decidePlaces : ByteArray := prog_2_method_12_code
def yX0_decidePlaces : MethodName := ⟨RX0, "decidePlaces", "()V"⟩
abbrev cX0_decideContents : ByteArray := prog_2_method_13_code
def yX0_decideContents : MethodName := ⟨RX0, "decideContents", "()V"⟩
abbrev cX0_addOther : ByteArray := prog_2_method_14_code
def yX0_addOther : MethodName := ⟨RX0, "addOther", "(I)V"⟩
abbrev cX0_mendRings : ByteArray := prog_2_method_15_code
def yX0_mendRings : MethodName := ⟨RX0, "mendRings", "()V"⟩
abbrev cX0_greatestInRing : ByteArray := prog_2_method_16_code
def yX0_greatestInRing : MethodName := ⟨RX0, "greatestInRing", "()I"⟩
abbrev cX0_mendNames : ByteArray := prog_2_method_17_code
def yX0_mendNames : MethodName := ⟨RX0, "mendNames", "()V"⟩
abbrev cX0_ignoredHas : ByteArray := prog_2_method_18_code
def yX0_ignoredHas : MethodName := ⟨RX0, "ignoredHas", "(II)Z"⟩
abbrev cX0_leastFreeName : ByteArray := prog_2_method_19_code
def yX0_leastFreeName : MethodName := ⟨RX0, "leastFreeName", "(I)I"⟩
abbrev cX0_areAlike : ByteArray := prog_2_method_20_code
def yX0_areAlike : MethodName := ⟨RX0, "areAlike", "()Z"⟩
abbrev cX0_carryOut : ByteArray := prog_2_method_21_code
def yX0_carryOut : MethodName := ⟨RX0, "carryOut", "()V"⟩
abbrev cX0_forgetHomeless : ByteArray := prog_2_method_22_code
def yX0_forgetHomeless : MethodName := ⟨RX0, "forgetHomeless", "()V"⟩
def RX1 : String := "TwoTreesAlike$Pattern"
def TX1 : u_T := fun k => match k with
  | 0 => ("TwoTreesAlike$Pattern", "parts", "[I", true)
  | 1 => ("TwoTreesAlike$Pattern", "size", "I", false)
  | _ => ("TwoTreesAlike$Pattern", "isNot", "Z", false)
def tyX1 : Nat → FieldType := fun k => match k with
  | 0 => .array .int
  | 1 => .int
  | _ => .boolean
abbrev wsX10 : List Cond := u_ws RX1 TX1 3
theorem nmX1 : ∀ a, a < 3 → ∀ b, b < 3 → a ≠ b → (TX1 a).2.1 ≠ (TX1 b).2.1 := by decide +kernel
theorem tyX1_ok : ∀ k, k < 3 → parseFieldDescriptor (TX1 k).2.2.1 = some (tyX1 k) := by decide +kernel
abbrev cX1_init : ByteArray := prog_3_method_1_code
def yX1_init : MethodName := ⟨RX1, "<init>", "()V"⟩
abbrev cX1_longestFit : ByteArray := prog_3_method_2_code
def yX1_longestFit : MethodName := ⟨RX1, "longestFit", "([II)I"⟩
abbrev cX1_afterName : ByteArray := prog_3_method_3_code
def yX1_afterName : MethodName := ⟨RX1, "afterName", "(II)I"⟩
abbrev cX1_passMany : ByteArray := prog_3_method_4_code
def yX1_passMany : MethodName := ⟨RX1, "passMany", "(I)I"⟩
abbrev cX1_become : ByteArray := prog_3_method_5_code
def yX1_become : MethodName := ⟨RX1, "become", "(LTwoTreesAlike$Pattern;)V"⟩
def RX2 : String := "TwoTreesAlike$Plan"
def TX2 : u_T := fun k => match k with
  | 0 => ("TwoTreesAlike$Plan", "kind", "[I", true)
  | 1 => ("TwoTreesAlike$Plan", "thing", "[I", true)
  | 2 => ("TwoTreesAlike$Plan", "isAside", "[Z", true)
  | 3 => ("TwoTreesAlike$Plan", "deep", "[I", true)
  | _ => ("TwoTreesAlike$Plan", "size", "I", false)
def tyX2 : Nat → FieldType := fun k => match k with
  | 0 => .array .int
  | 1 => .array .int
  | 2 => .array .boolean
  | 3 => .array .int
  | _ => .int
abbrev wsX20 : List Cond := u_ws RX2 TX2 5
theorem nmX2 : ∀ a, a < 5 → ∀ b, b < 5 → a ≠ b → (TX2 a).2.1 ≠ (TX2 b).2.1 := by decide +kernel
theorem tyX2_ok : ∀ k, k < 5 → parseFieldDescriptor (TX2 k).2.2.1 = some (tyX2 k) := by decide +kernel
abbrev cX2_init : ByteArray := prog_4_method_1_code
def yX2_init : MethodName := ⟨RX2, "<init>", "()V"⟩
abbrev cX2_lay : ByteArray := prog_4_method_2_code
def yX2_lay : MethodName := ⟨RX2, "lay", "(LTwoTreesAlike$Merge;I)V"⟩
abbrev cX2_addAtDepth : ByteArray := prog_4_method_3_code
def yX2_addAtDepth : MethodName := ⟨RX2, "addAtDepth", "(LTwoTreesAlike$Tree;I)V"⟩
abbrev cX2_add : ByteArray := prog_4_method_4_code
def yX2_add : MethodName := ⟨RX2, "add", "(II)V"⟩
abbrev cX2_tell : ByteArray := prog_4_method_5_code
def yX2_tell : MethodName := ⟨RX2, "tell", "(LTwoTreesAlike$Tree;II)I"⟩
def RX3 : String := "TwoTreesAlike$Sheet"
def TX3 : u_T := fun k => match k with
  | 0 => ("TwoTreesAlike$Sheet", "sort", "I", false)
  | 1 => ("TwoTreesAlike$Sheet", "size", "I", false)
  | _ => ("TwoTreesAlike$Sheet", "items", "[I", true)
def tyX3 : Nat → FieldType := fun k => match k with
  | 0 => .int
  | 1 => .int
  | _ => .array .int
abbrev wsX30 : List Cond := u_ws RX3 TX3 3
theorem nmX3 : ∀ a, a < 3 → ∀ b, b < 3 → a ≠ b → (TX3 a).2.1 ≠ (TX3 b).2.1 := by decide +kernel
theorem tyX3_ok : ∀ k, k < 3 → parseFieldDescriptor (TX3 k).2.2.1 = some (tyX3 k) := by decide +kernel
abbrev cX3_init : ByteArray := prog_5_method_1_code
def yX3_init : MethodName := ⟨RX3, "<init>", "()V"⟩
abbrev cX3_isMissing : ByteArray := prog_5_method_2_code
def yX3_isMissing : MethodName := ⟨RX3, "isMissing", "()Z"⟩
abbrev cX3_renew : ByteArray := prog_5_method_3_code
def yX3_renew : MethodName := ⟨RX3, "renew", "(II)V"⟩
abbrev cX3_spans : ByteArray := prog_5_method_4_code
def yX3_spans : MethodName := ⟨RX3, "spans", "(II)Z"⟩
abbrev cX3_put : ByteArray := prog_5_method_5_code
def yX3_put : MethodName := ⟨RX3, "put", "(II)V"⟩
abbrev cX3_firstUnlike : ByteArray := prog_5_method_6_code
def yX3_firstUnlike : MethodName := ⟨RX3, "firstUnlike", "(LTwoTreesAlike$Tree;)I"⟩
def RX4 : String := "TwoTreesAlike$Tape"
def TX4 : u_T := fun k => match k with
  | 0 => ("TwoTreesAlike$Tape", "bytes", "[I", true)
  | 1 => ("TwoTreesAlike$Tape", "size", "I", false)
  | 2 => ("TwoTreesAlike$Tape", "at", "I", false)
  | 3 => ("TwoTreesAlike$Tape", "token", "I", false)
  | 4 => ("TwoTreesAlike$Tape", "tokenAt", "I", false)
  | _ => ("TwoTreesAlike$Tape", "part", "I", false)
def tyX4 : Nat → FieldType := fun k => match k with
  | 0 => .array .int
  | 1 => .int
  | 2 => .int
  | 3 => .int
  | 4 => .int
  | _ => .int
abbrev wsX40 : List Cond := u_ws RX4 TX4 6
theorem nmX4 : ∀ a, a < 6 → ∀ b, b < 6 → a ≠ b → (TX4 a).2.1 ≠ (TX4 b).2.1 := by decide +kernel
theorem tyX4_ok : ∀ k, k < 6 → parseFieldDescriptor (TX4 k).2.2.1 = some (tyX4 k) := by decide +kernel
abbrev cX4_init : ByteArray := prog_6_method_1_code
def yX4_init : MethodName := ⟨RX4, "<init>", "()V"⟩
abbrev cX4_append : ByteArray := prog_6_method_2_code
def yX4_append : MethodName := ⟨RX4, "append", "(I)V"⟩
abbrev cX4_read : ByteArray := prog_6_method_3_code
def yX4_read : MethodName := ⟨RX4, "read", "(LTwoTreesAlike$Pattern;)I"⟩
abbrev cX4_next : ByteArray := prog_6_method_4_code
def yX4_next : MethodName := ⟨RX4, "next", "()V"⟩
abbrev cX4_isDigit : ByteArray := prog_6_method_5_code
def yX4_isDigit : MethodName := ⟨RX4, "isDigit", "(I)Z"⟩
abbrev cX4_readNumber : ByteArray := prog_6_method_6_code
def yX4_readNumber : MethodName := ⟨RX4, "readNumber", "()V"⟩
abbrev cX4_readSign : ByteArray := prog_6_method_7_code
def yX4_readSign : MethodName := ⟨RX4, "readSign", "()V"⟩
def RX5 : String := "TwoTreesAlike$Tree"
def TX5 : u_T := fun k => match k with
  | 0 => ("TwoTreesAlike$Tree", "there", "[Z", true)
  | 1 => ("TwoTreesAlike$Tree", "folder", "[I", true)
  | 2 => ("TwoTreesAlike$Tree", "name", "[I", true)
  | _ => ("TwoTreesAlike$Tree", "content", "[I", true)
def tyX5 : Nat → FieldType := fun k => match k with
  | 0 => .array .boolean
  | 1 => .array .int
  | 2 => .array .int
  | _ => .array .int
abbrev wsX50 : List Cond := u_ws RX5 TX5 4
theorem nmX5 : ∀ a, a < 4 → ∀ b, b < 4 → a ≠ b → (TX5 a).2.1 ≠ (TX5 b).2.1 := by decide +kernel
theorem tyX5_ok : ∀ k, k < 4 → parseFieldDescriptor (TX5 k).2.2.1 = some (tyX5 k) := by decide +kernel
abbrev cX5_init : ByteArray := prog_7_method_1_code
def yX5_init : MethodName := ⟨RX5, "<init>", "()V"⟩
abbrev cX5_clear : ByteArray := prog_7_method_2_code
def yX5_clear : MethodName := ⟨RX5, "clear", "()V"⟩
abbrev cX5_become : ByteArray := prog_7_method_3_code
def yX5_become : MethodName := ⟨RX5, "become", "(LTwoTreesAlike$Tree;)V"⟩
abbrev cX5_putAsIn : ByteArray := prog_7_method_4_code
def yX5_putAsIn : MethodName := ⟨RX5, "putAsIn", "(LTwoTreesAlike$Tree;I)V"⟩
abbrev cX5_put : ByteArray := prog_7_method_5_code
def yX5_put : MethodName := ⟨RX5, "put", "(IIII)V"⟩
abbrev cX5_takeOut : ByteArray := prog_7_method_6_code
def yX5_takeOut : MethodName := ⟨RX5, "takeOut", "(I)V"⟩
abbrev cX5_has : ByteArray := prog_7_method_7_code
def yX5_has : MethodName := ⟨RX5, "has", "(I)Z"⟩
abbrev cX5_size : ByteArray := prog_7_method_8_code
def yX5_size : MethodName := ⟨RX5, "size", "()I"⟩
abbrev cX5_isAt : ByteArray := prog_7_method_9_code
def yX5_isAt : MethodName := ⟨RX5, "isAt", "(III)Z"⟩
abbrev cX5_standing : ByteArray := prog_7_method_10_code
def yX5_standing : MethodName := ⟨RX5, "standing", "(II)I"⟩
abbrev cX5_stepsUp : ByteArray := prog_7_method_11_code
def yX5_stepsUp : MethodName := ⟨RX5, "stepsUp", "(II)I"⟩
abbrev cX5_isInner : ByteArray := prog_7_method_12_code
def yX5_isInner : MethodName := ⟨RX5, "isInner", "(II)Z"⟩
abbrev cX5_innerOnes : ByteArray := prog_7_method_13_code
def yX5_innerOnes : MethodName := ⟨RX5, "innerOnes", "(I)I"⟩
abbrev cX5_depth : ByteArray := prog_7_method_14_code
def yX5_depth : MethodName := ⟨RX5, "depth", "(I)I"⟩
abbrev cX5_pathOf : ByteArray := prog_7_method_15_code
def yX5_pathOf : MethodName := ⟨RX5, "pathOf", "(I[I)I"⟩
abbrev cX5_placesAsIn : ByteArray := prog_7_method_16_code
def yX5_placesAsIn : MethodName := ⟨RX5, "placesAsIn", "(LTwoTreesAlike$Tree;I)Z"⟩
abbrev cX5_holdsAsIn : ByteArray := prog_7_method_17_code
def yX5_holdsAsIn : MethodName := ⟨RX5, "holdsAsIn", "(LTwoTreesAlike$Tree;I)Z"⟩
def RX6 : String := "TwoTreesAlike$World"
def TX6 : u_T := fun k => match k with
  | 0 => ("TwoTreesAlike$World", "total", "I", false)
  | 1 => ("TwoTreesAlike$World", "isFolder", "[Z", true)
  | 2 => ("TwoTreesAlike$World", "trees", "[LTwoTreesAlike$Tree;", true)
  | 3 => ("TwoTreesAlike$World", "patterns", "[LTwoTreesAlike$Pattern;", true)
  | 4 => ("TwoTreesAlike$World", "patternCount", "I", false)
  | 5 => ("TwoTreesAlike$World", "preferred", "I", false)
  | 6 => ("TwoTreesAlike$World", "refusal", "I", false)
  | 7 => ("TwoTreesAlike$World", "refusedBy", "I", false)
  | 8 => ("TwoTreesAlike$World", "ringSteps", "I", false)
  | 9 => ("TwoTreesAlike$World", "path", "[I", true)
  | _ => ("TwoTreesAlike$World", "isGoing", "[Z", true)
def tyX6 : Nat → FieldType := fun k => match k with
  | 0 => .int
  | 1 => .array .boolean
  | 2 => .array (.object "TwoTreesAlike$Tree")
  | 3 => .array (.object "TwoTreesAlike$Pattern")
  | 4 => .int
  | 5 => .int
  | 6 => .int
  | 7 => .int
  | 8 => .int
  | 9 => .array .int
  | _ => .array .boolean
abbrev wsX60 : List Cond := u_ws RX6 TX6 11
theorem nmX6 : ∀ a, a < 11 → ∀ b, b < 11 → a ≠ b → (TX6 a).2.1 ≠ (TX6 b).2.1 := by decide +kernel
theorem tyX6_ok : ∀ k, k < 11 → parseFieldDescriptor (TX6 k).2.2.1 = some (tyX6 k) := by decide +kernel
abbrev cX6_init : ByteArray := prog_8_method_1_code
def yX6_init : MethodName := ⟨RX6, "<init>", "()V"⟩
abbrev cX6_become : ByteArray := prog_8_method_2_code
def yX6_become : MethodName := ⟨RX6, "become", "(LTwoTreesAlike$World;)V"⟩
abbrev cX6_isThing : ByteArray := prog_8_method_3_code
def yX6_isThing : MethodName := ⟨RX6, "isThing", "(I)Z"⟩
abbrev cX6_isPlace : ByteArray := prog_8_method_4_code
def yX6_isPlace : MethodName := ⟨RX6, "isPlace", "(I)Z"⟩
abbrev cX6_canHold : ByteArray := prog_8_method_5_code
def yX6_canHold : MethodName := ⟨RX6, "canHold", "(LTwoTreesAlike$Tree;I)Z"⟩
abbrev cX6_create : ByteArray := prog_8_method_6_code
def yX6_create : MethodName := ⟨RX6, "create", "(IIII)I"⟩
abbrev cX6_rewrite : ByteArray := prog_8_method_7_code
def yX6_rewrite : MethodName := ⟨RX6, "rewrite", "(III)I"⟩
abbrev cX6_carry : ByteArray := prog_8_method_8_code
def yX6_carry : MethodName := ⟨RX6, "carry", "(IIII)I"⟩
abbrev cX6_erase : ByteArray := prog_8_method_9_code
def yX6_erase : MethodName := ⟨RX6, "erase", "(II)I"⟩
abbrev cX6_refuse : ByteArray := prog_8_method_10_code
def yX6_refuse : MethodName := ⟨RX6, "refuse", "(II)I"⟩
abbrev cX6_allow : ByteArray := prog_8_method_11_code
def yX6_allow : MethodName := ⟨RX6, "allow", "(I)I"⟩
abbrev cX6_isIgnoredThere : ByteArray := prog_8_method_12_code
def yX6_isIgnoredThere : MethodName := ⟨RX6, "isIgnoredThere", "(II)Z"⟩
def RX7 : String := "TwoTreesAlike"
def TX7 : u_T := fun k => match k with
  | 0 => ("TwoTreesAlike", "now", "LTwoTreesAlike$World;", true)
  | 1 => ("TwoTreesAlike", "kept", "LTwoTreesAlike$World;", true)
  | 2 => ("TwoTreesAlike", "thought", "LTwoTreesAlike$World;", true)
  | 3 => ("TwoTreesAlike", "isKept", "Z", false)
  | 4 => ("TwoTreesAlike", "tape", "LTwoTreesAlike$Tape;", true)
  | 5 => ("TwoTreesAlike", "merge", "LTwoTreesAlike$Merge;", true)
  | 6 => ("TwoTreesAlike", "plan", "LTwoTreesAlike$Plan;", true)
  | _ => ("TwoTreesAlike", "sheets", "[LTwoTreesAlike$Sheet;", true)
def tyX7 : Nat → FieldType := fun k => match k with
  | 0 => .object "TwoTreesAlike$World"
  | 1 => .object "TwoTreesAlike$World"
  | 2 => .object "TwoTreesAlike$World"
  | 3 => .boolean
  | 4 => .object "TwoTreesAlike$Tape"
  | 5 => .object "TwoTreesAlike$Merge"
  | 6 => .object "TwoTreesAlike$Plan"
  | _ => .array (.object "TwoTreesAlike$Sheet")
abbrev wsX70 : List Cond := u_ws RX7 TX7 8
theorem nmX7 : ∀ a, a < 8 → ∀ b, b < 8 → a ≠ b → (TX7 a).2.1 ≠ (TX7 b).2.1 := by decide +kernel
theorem tyX7_ok : ∀ k, k < 8 → parseFieldDescriptor (TX7 k).2.2.1 = some (tyX7 k) := by decide +kernel
abbrev cX7_init : ByteArray := prog_1_method_1_code
def yX7_init : MethodName := ⟨RX7, "<init>", "()V"⟩
abbrev cX7_make : ByteArray := prog_1_method_2_code
def yX7_make : MethodName := ⟨RX7, "make", "(IIII)I"⟩
abbrev cX7_write : ByteArray := prog_1_method_3_code
def yX7_write : MethodName := ⟨RX7, "write", "(III)I"⟩
abbrev cX7_move : ByteArray := prog_1_method_4_code
def yX7_move : MethodName := ⟨RX7, "move", "(IIII)I"⟩
abbrev cX7_remove : ByteArray := prog_1_method_5_code
def yX7_remove : MethodName := ⟨RX7, "remove", "(II)I"⟩
abbrev cX7_told : ByteArray := prog_1_method_6_code
def yX7_told : MethodName := ⟨RX7, "told", "(III)I"⟩
abbrev cX7_find : ByteArray := prog_1_method_7_code
def yX7_find : MethodName := ⟨RX7, "find", "(III)I"⟩
abbrev cX7_taken : ByteArray := prog_1_method_8_code
def yX7_taken : MethodName := ⟨RX7, "taken", "(II)I"⟩
abbrev cX7_latest : ByteArray := prog_1_method_9_code
def yX7_latest : MethodName := ⟨RX7, "latest", "(I)I"⟩
abbrev cX7_feed : ByteArray := prog_1_method_10_code
def yX7_feed : MethodName := ⟨RX7, "feed", "(IIIIII)I"⟩
abbrev cX7_pattern : ByteArray := prog_1_method_11_code
def yX7_pattern : MethodName := ⟨RX7, "pattern", "()I"⟩
abbrev cX7_drop : ByteArray := prog_1_method_12_code
def yX7_drop : MethodName := ⟨RX7, "drop", "()I"⟩
abbrev cX7_matches : ByteArray := prog_1_method_13_code
def yX7_matches : MethodName := ⟨RX7, "matches", "(III)I"⟩
abbrev cX7_prefer : ByteArray := prog_1_method_14_code
def yX7_prefer : MethodName := ⟨RX7, "prefer", "(I)I"⟩
abbrev cX7_sync : ByteArray := prog_1_method_15_code
def yX7_sync : MethodName := ⟨RX7, "sync", "()I"⟩
abbrev cX7_target : ByteArray := prog_1_method_16_code
def yX7_target : MethodName := ⟨RX7, "target", "(II)I"⟩
abbrev cX7_clash : ByteArray := prog_1_method_17_code
def yX7_clash : MethodName := ⟨RX7, "clash", "(II)I"⟩
abbrev cX7_step : ByteArray := prog_1_method_18_code
def yX7_step : MethodName := ⟨RX7, "step", "(III)I"⟩
abbrev cX7_would : ByteArray := prog_1_method_19_code
def yX7_would : MethodName := ⟨RX7, "would", "(I)I"⟩
abbrev cX7_spared : ByteArray := prog_1_method_20_code
def yX7_spared : MethodName := ⟨RX7, "spared", "(II)I"⟩
abbrev cX7_drawn : ByteArray := prog_1_method_21_code
def yX7_drawn : MethodName := ⟨RX7, "drawn", "(II)I"⟩
abbrev cX7_chance : ByteArray := prog_1_method_22_code
def yX7_chance : MethodName := ⟨RX7, "chance", "(III)I"⟩
abbrev cX7_tells : ByteArray := prog_1_method_23_code
def yX7_tells : MethodName := ⟨RX7, "tells", "(III)I"⟩
abbrev cX7_film : ByteArray := prog_1_method_24_code
def yX7_film : MethodName := ⟨RX7, "film", "(III)I"⟩
abbrev cX7_image : ByteArray := prog_1_method_25_code
def yX7_image : MethodName := ⟨RX7, "image", "()I"⟩
abbrev cX7_back : ByteArray := prog_1_method_26_code
def yX7_back : MethodName := ⟨RX7, "back", "()I"⟩
abbrev cX7_count : ByteArray := prog_1_method_27_code
def yX7_count : MethodName := ⟨RX7, "count", "(I)I"⟩
abbrev cX7_sheet : ByteArray := prog_1_method_28_code
def yX7_sheet : MethodName := ⟨RX7, "sheet", "(III)I"⟩
abbrev cX7_cell : ByteArray := prog_1_method_29_code
def yX7_cell : MethodName := ⟨RX7, "cell", "(III)I"⟩
abbrev cX7_copy : ByteArray := prog_1_method_30_code
def yX7_copy : MethodName := ⟨RX7, "copy", "(IIIII)I"⟩
abbrev cX7_isSide : ByteArray := prog_1_method_31_code
def yX7_isSide : MethodName := ⟨RX7, "isSide", "(I)Z"⟩
abbrev cX7_isTree : ByteArray := prog_1_method_32_code
def yX7_isTree : MethodName := ⟨RX7, "isTree", "(I)Z"⟩
abbrev cX7_isName : ByteArray := prog_1_method_33_code
def yX7_isName : MethodName := ⟨RX7, "isName", "(I)Z"⟩
abbrev cX7_isByte : ByteArray := prog_1_method_34_code
def yX7_isByte : MethodName := ⟨RX7, "isByte", "(I)Z"⟩
abbrev cX7_isSheet : ByteArray := prog_1_method_35_code
def yX7_isSheet : MethodName := ⟨RX7, "isSheet", "(I)Z"⟩
abbrev cX7_bit : ByteArray := prog_1_method_36_code
def yX7_bit : MethodName := ⟨RX7, "bit", "(Z)I"⟩
abbrev cX7_greatestDivisor : ByteArray := prog_1_method_37_code
def yX7_greatestDivisor : MethodName := ⟨RX7, "greatestDivisor", "(II)I"⟩
abbrev cX7_stepsOf : ByteArray := prog_1_method_38_code
def yX7_stepsOf : MethodName := ⟨RX7, "stepsOf", "(I)I"⟩
abbrev cX7_clashesDrawn : ByteArray := prog_1_method_39_code
def yX7_clashesDrawn : MethodName := ⟨RX7, "clashesDrawn", "(II)I"⟩
abbrev cX7_nextSeed : ByteArray := prog_1_method_40_code
def yX7_nextSeed : MethodName := ⟨RX7, "nextSeed", "(I)I"⟩
abbrev cX7_whereJustSo : ByteArray := prog_1_method_41_code
def yX7_whereJustSo : MethodName := ⟨RX7, "whereJustSo", "(LTwoTreesAlike$Sheet;)I"⟩
def RX8 : String := "TwoTreesAlikeModel"
def TX8 : u_T := fun k => match k with
  | 0 => ("TwoTreesAlikeModel", "things", "I", false)
  | 1 => ("TwoTreesAlikeModel", "preferred", "I", false)
  | 2 => ("TwoTreesAlikeModel", "isFolder", "[Z", true)
  | 3 => ("TwoTreesAlikeModel", "is", "[[Z", true)
  | 4 => ("TwoTreesAlikeModel", "folders", "[[I", true)
  | 5 => ("TwoTreesAlikeModel", "names", "[[I", true)
  | 6 => ("TwoTreesAlikeModel", "contents", "[[I", true)
  | 7 => ("TwoTreesAlikeModel", "refused", "I", false)
  | 8 => ("TwoTreesAlikeModel", "refusedBy", "I", false)
  | 9 => ("TwoTreesAlikeModel", "refusedDeep", "I", false)
  | 10 => ("TwoTreesAlikeModel", "gone", "[Z", true)
  | 11 => ("TwoTreesAlikeModel", "patterns", "I", false)
  | 12 => ("TwoTreesAlikeModel", "isNot", "[Z", true)
  | 13 => ("TwoTreesAlikeModel", "many", "[I", true)
  | 14 => ("TwoTreesAlikeModel", "parts", "[[I", true)
  | 15 => ("TwoTreesAlikeModel", "tape", "[I", true)
  | 16 => ("TwoTreesAlikeModel", "taped", "I", false)
  | 17 => ("TwoTreesAlikeModel", "at", "I", false)
  | 18 => ("TwoTreesAlikeModel", "begin", "I", false)
  | 19 => ("TwoTreesAlikeModel", "token", "I", false)
  | 20 => ("TwoTreesAlikeModel", "value", "I", false)
  | 21 => ("TwoTreesAlikeModel", "isWrong", "Z", false)
  | 22 => ("TwoTreesAlikeModel", "pathMany", "I", false)
  | 23 => ("TwoTreesAlikeModel", "path", "[I", true)
  | 24 => ("TwoTreesAlikeModel", "canStand", "[Z", true)
  | 25 => ("TwoTreesAlikeModel", "ignored", "[Z", true)
  | 26 => ("TwoTreesAlikeModel", "clashes", "I", false)
  | 27 => ("TwoTreesAlikeModel", "newThings", "I", false)
  | 28 => ("TwoTreesAlikeModel", "clashKinds", "[I", true)
  | 29 => ("TwoTreesAlikeModel", "clashThings", "[I", true)
  | 30 => ("TwoTreesAlikeModel", "will", "[Z", true)
  | 31 => ("TwoTreesAlikeModel", "willFolder", "[Z", true)
  | 32 => ("TwoTreesAlikeModel", "willIn", "[I", true)
  | 33 => ("TwoTreesAlikeModel", "willName", "[I", true)
  | 34 => ("TwoTreesAlikeModel", "willContent", "[I", true)
  | 35 => ("TwoTreesAlikeModel", "steps", "I", false)
  | 36 => ("TwoTreesAlikeModel", "stepKinds", "[I", true)
  | 37 => ("TwoTreesAlikeModel", "stepThings", "[I", true)
  | 38 => ("TwoTreesAlikeModel", "keptIs", "[[Z", true)
  | 39 => ("TwoTreesAlikeModel", "keptFolders", "[[I", true)
  | 40 => ("TwoTreesAlikeModel", "keptNames", "[[I", true)
  | 41 => ("TwoTreesAlikeModel", "keptContents", "[[I", true)
  | 42 => ("TwoTreesAlikeModel", "z", "I", false)
  | 43 => ("TwoTreesAlikeModel", "hasImage", "Z", false)
  | 44 => ("TwoTreesAlikeModel", "imageNumbers", "[I", true)
  | 45 => ("TwoTreesAlikeModel", "imageIs", "[[Z", true)
  | 46 => ("TwoTreesAlikeModel", "imageFolders", "[[I", true)
  | 47 => ("TwoTreesAlikeModel", "imageNames", "[[I", true)
  | 48 => ("TwoTreesAlikeModel", "imageContents", "[[I", true)
  | 49 => ("TwoTreesAlikeModel", "imageParts", "[[I", true)
  | 50 => ("TwoTreesAlikeModel", "imageMany", "[I", true)
  | 51 => ("TwoTreesAlikeModel", "sorts", "[I", true)
  | 52 => ("TwoTreesAlikeModel", "lengths", "[I", true)
  | 53 => ("TwoTreesAlikeModel", "items", "[[I", true)
  | _ => ("TwoTreesAlikeModel", "passed", "[I", true)
def tyX8 : Nat → FieldType := fun k => match k with
  | 0 => .int
  | 1 => .int
  | 2 => .array .boolean
  | 3 => .array (.array .boolean)
  | 4 => .array (.array .int)
  | 5 => .array (.array .int)
  | 6 => .array (.array .int)
  | 7 => .int
  | 8 => .int
  | 9 => .int
  | 10 => .array .boolean
  | 11 => .int
  | 12 => .array .boolean
  | 13 => .array .int
  | 14 => .array (.array .int)
  | 15 => .array .int
  | 16 => .int
  | 17 => .int
  | 18 => .int
  | 19 => .int
  | 20 => .int
  | 21 => .boolean
  | 22 => .int
  | 23 => .array .int
  | 24 => .array .boolean
  | 25 => .array .boolean
  | 26 => .int
  | 27 => .int
  | 28 => .array .int
  | 29 => .array .int
  | 30 => .array .boolean
  | 31 => .array .boolean
  | 32 => .array .int
  | 33 => .array .int
  | 34 => .array .int
  | 35 => .int
  | 36 => .array .int
  | 37 => .array .int
  | 38 => .array (.array .boolean)
  | 39 => .array (.array .int)
  | 40 => .array (.array .int)
  | 41 => .array (.array .int)
  | 42 => .int
  | 43 => .boolean
  | 44 => .array .int
  | 45 => .array (.array .boolean)
  | 46 => .array (.array .int)
  | 47 => .array (.array .int)
  | 48 => .array (.array .int)
  | 49 => .array (.array .int)
  | 50 => .array .int
  | 51 => .array .int
  | 52 => .array .int
  | 53 => .array (.array .int)
  | _ => .array .int
abbrev wsX80 : List Cond := u_ws RX8 TX8 55
theorem nmX8 : ∀ a, a < 55 → ∀ b, b < 55 → a ≠ b → (TX8 a).2.1 ≠ (TX8 b).2.1 := by decide +kernel
theorem tyX8_ok : ∀ k, k < 55 → parseFieldDescriptor (TX8 k).2.2.1 = some (tyX8 k) := by decide +kernel
abbrev cX8_init : ByteArray := prog_10_method_1_code
def yX8_init : MethodName := ⟨RX8, "<init>", "()V"⟩
abbrev cX8_in : ByteArray := prog_10_method_2_code
def yX8_in : MethodName := ⟨RX8, "in", "(III)Z"⟩
abbrev cX8_isThing : ByteArray := prog_10_method_3_code
def yX8_isThing : MethodName := ⟨RX8, "isThing", "(I)Z"⟩
abbrev cX8_isSide : ByteArray := prog_10_method_4_code
def yX8_isSide : MethodName := ⟨RX8, "isSide", "(I)Z"⟩
abbrev cX8_isPlace : ByteArray := prog_10_method_5_code
def yX8_isPlace : MethodName := ⟨RX8, "isPlace", "(I)Z"⟩
abbrev cX8_isName : ByteArray := prog_10_method_6_code
def yX8_isName : MethodName := ⟨RX8, "isName", "(I)Z"⟩
abbrev cX8_isFolderOn : ByteArray := prog_10_method_7_code
def yX8_isFolderOn : MethodName := ⟨RX8, "isFolderOn", "(II)Z"⟩
abbrev cX8_found : ByteArray := prog_10_method_8_code
def yX8_found : MethodName := ⟨RX8, "found", "(III)I"⟩
abbrev cX8_deepIn : ByteArray := prog_10_method_9_code
def yX8_deepIn : MethodName := ⟨RX8, "deepIn", "(III)I"⟩
abbrev cX8_isInner : ByteArray := prog_10_method_10_code
def yX8_isInner : MethodName := ⟨RX8, "isInner", "(III)Z"⟩
abbrev cX8_refuses : ByteArray := prog_10_method_11_code
def yX8_refuses : MethodName := ⟨RX8, "refuses", "(III)I"⟩
abbrev cX8_done : ByteArray := prog_10_method_12_code
def yX8_done : MethodName := ⟨RX8, "done", "(I)I"⟩
abbrev cX8_stand : ByteArray := prog_10_method_13_code
def yX8_stand : MethodName := ⟨RX8, "stand", "(IIIII)V"⟩
abbrev cX8_make : ByteArray := prog_10_method_14_code
def yX8_make : MethodName := ⟨RX8, "make", "(IIII)I"⟩
abbrev cX8_write : ByteArray := prog_10_method_15_code
def yX8_write : MethodName := ⟨RX8, "write", "(III)I"⟩
abbrev cX8_move : ByteArray := prog_10_method_16_code
def yX8_move : MethodName := ⟨RX8, "move", "(IIII)I"⟩
abbrev cX8_removes : ByteArray := prog_10_method_17_code
def yX8_removes : MethodName := ⟨RX8, "removes", "(II)I"⟩
abbrev cX8_remove : ByteArray := prog_10_method_18_code
def yX8_remove : MethodName := ⟨RX8, "remove", "(II)I"⟩
abbrev cX8_latest : ByteArray := prog_10_method_19_code
def yX8_latest : MethodName := ⟨RX8, "latest", "(I)I"⟩
abbrev cX8_deep : ByteArray := prog_10_method_20_code
def yX8_deep : MethodName := ⟨RX8, "deep", "(II)I"⟩
abbrev cX8_inners : ByteArray := prog_10_method_21_code
def yX8_inners : MethodName := ⟨RX8, "inners", "(II)I"⟩
abbrev cX8_told : ByteArray := prog_10_method_22_code
def yX8_told : MethodName := ⟨RX8, "told", "(III)I"⟩
abbrev cX8_find : ByteArray := prog_10_method_23_code
def yX8_find : MethodName := ⟨RX8, "find", "(III)I"⟩
abbrev cX8_taken : ByteArray := prog_10_method_24_code
def yX8_taken : MethodName := ⟨RX8, "taken", "(II)I"⟩
abbrev cX8_isByte : ByteArray := prog_10_method_25_code
def yX8_isByte : MethodName := ⟨RX8, "isByte", "(I)Z"⟩
abbrev cX8_feed : ByteArray := prog_10_method_26_code
def yX8_feed : MethodName := ⟨RX8, "feed", "(IIIIII)I"⟩
abbrev cX8_byteAt : ByteArray := prog_10_method_27_code
def yX8_byteAt : MethodName := ⟨RX8, "byteAt", "(I)I"⟩
abbrev cX8_next : ByteArray := prog_10_method_28_code
def yX8_next : MethodName := ⟨RX8, "next", "()V"⟩
abbrev cX8_part : ByteArray := prog_10_method_29_code
def yX8_part : MethodName := ⟨RX8, "part", "()V"⟩
abbrev cX8_pattern : ByteArray := prog_10_method_30_code
def yX8_pattern : MethodName := ⟨RX8, "pattern", "()I"⟩
abbrev cX8_drop : ByteArray := prog_10_method_31_code
def yX8_drop : MethodName := ⟨RX8, "drop", "()I"⟩
abbrev cX8_tellPath : ByteArray := prog_10_method_32_code
def yX8_tellPath : MethodName := ⟨RX8, "tellPath", "(II)V"⟩
abbrev cX8_doesMatch : ByteArray := prog_10_method_33_code
def yX8_doesMatch : MethodName := ⟨RX8, "doesMatch", "(I)Z"⟩
abbrev cX8_matches : ByteArray := prog_10_method_34_code
def yX8_matches : MethodName := ⟨RX8, "matches", "(III)I"⟩
abbrev cX8_isIgnoredOn : ByteArray := prog_10_method_35_code
def yX8_isIgnoredOn : MethodName := ⟨RX8, "isIgnoredOn", "(II)Z"⟩
abbrev cX8_ignore : ByteArray := prog_10_method_36_code
def yX8_ignore : MethodName := ⟨RX8, "ignore", "()V"⟩
abbrev cX8_changed : ByteArray := prog_10_method_37_code
def yX8_changed : MethodName := ⟨RX8, "changed", "(II)I"⟩
abbrev cX8_clashes : ByteArray := prog_10_method_38_code
def yX8_clashes : MethodName := ⟨RX8, "clashes", "(II)V"⟩
abbrev cX8_isStirred : ByteArray := prog_10_method_39_code
def yX8_isStirred : MethodName := ⟨RX8, "isStirred", "(II)Z"⟩
abbrev cX8_whoIs : ByteArray := prog_10_method_40_code
def yX8_whoIs : MethodName := ⟨RX8, "whoIs", "(I)V"⟩
abbrev cX8_sideFor : ByteArray := prog_10_method_41_code
def yX8_sideFor : MethodName := ⟨RX8, "sideFor", "(III)I"⟩
abbrev cX8_places : ByteArray := prog_10_method_42_code
def yX8_places : MethodName := ⟨RX8, "places", "(II)V"⟩
abbrev cX8_fills : ByteArray := prog_10_method_43_code
def yX8_fills : MethodName := ⟨RX8, "fills", "(II)V"⟩
abbrev cX8_isInRing : ByteArray := prog_10_method_44_code
def yX8_isInRing : MethodName := ⟨RX8, "isInRing", "(I)Z"⟩
abbrev cX8_breaksRings : ByteArray := prog_10_method_45_code
def yX8_breaksRings : MethodName := ⟨RX8, "breaksRings", "()V"⟩
abbrev cX8_isHadByIgnored : ByteArray := prog_10_method_46_code
def yX8_isHadByIgnored : MethodName := ⟨RX8, "isHadByIgnored", "(II)Z"⟩
abbrev cX8_isHad : ByteArray := prog_10_method_47_code
def yX8_isHad : MethodName := ⟨RX8, "isHad", "(III)Z"⟩
abbrev cX8_callsAnew : ByteArray := prog_10_method_48_code
def yX8_callsAnew : MethodName := ⟨RX8, "callsAnew", "(I)V"⟩
abbrev cX8_tellTarget : ByteArray := prog_10_method_49_code
def yX8_tellTarget : MethodName := ⟨RX8, "tellTarget", "(I)V"⟩
abbrev cX8_willDeep : ByteArray := prog_10_method_50_code
def yX8_willDeep : MethodName := ⟨RX8, "willDeep", "(I)I"⟩
abbrev cX8_prefer : ByteArray := prog_10_method_51_code
def yX8_prefer : MethodName := ⟨RX8, "prefer", "(I)I"⟩
abbrev cX8_target : ByteArray := prog_10_method_52_code
def yX8_target : MethodName := ⟨RX8, "target", "(II)I"⟩
abbrev cX8_clash : ByteArray := prog_10_method_53_code
def yX8_clash : MethodName := ⟨RX8, "clash", "(II)I"⟩
abbrev cX8_step : ByteArray := prog_10_method_54_code
def yX8_step : MethodName := ⟨RX8, "step", "(II)V"⟩
abbrev cX8_isOn : ByteArray := prog_10_method_55_code
def yX8_isOn : MethodName := ⟨RX8, "isOn", "(II)Z"⟩
abbrev cX8_isAside : ByteArray := prog_10_method_56_code
def yX8_isAside : MethodName := ⟨RX8, "isAside", "(II)Z"⟩
abbrev cX8_tellPlan : ByteArray := prog_10_method_57_code
def yX8_tellPlan : MethodName := ⟨RX8, "tellPlan", "(I)V"⟩
abbrev cX8_step_ : ByteArray := prog_10_method_58_code
def yX8_step_ : MethodName := ⟨RX8, "step", "(III)I"⟩
abbrev cX8_areAlike : ByteArray := prog_10_method_59_code
def yX8_areAlike : MethodName := ⟨RX8, "areAlike", "()Z"⟩
abbrev cX8_would : ByteArray := prog_10_method_60_code
def yX8_would : MethodName := ⟨RX8, "would", "(I)I"⟩
abbrev cX8_becomesTarget : ByteArray := prog_10_method_61_code
def yX8_becomesTarget : MethodName := ⟨RX8, "becomesTarget", "(I)V"⟩
abbrev cX8_leavesIgnored : ByteArray := prog_10_method_62_code
def yX8_leavesIgnored : MethodName := ⟨RX8, "leavesIgnored", "()V"⟩
abbrev cX8_sync : ByteArray := prog_10_method_63_code
def yX8_sync : MethodName := ⟨RX8, "sync", "()I"⟩
abbrev cX8_keep : ByteArray := prog_10_method_64_code
def yX8_keep : MethodName := ⟨RX8, "keep", "()V"⟩
abbrev cX8_layBack : ByteArray := prog_10_method_65_code
def yX8_layBack : MethodName := ⟨RX8, "layBack", "()V"⟩
abbrev cX8_spared : ByteArray := prog_10_method_66_code
def yX8_spared : MethodName := ⟨RX8, "spared", "(II)I"⟩
abbrev cX8_draw : ByteArray := prog_10_method_67_code
def yX8_draw : MethodName := ⟨RX8, "draw", "(I)I"⟩
abbrev cX8_byLot : ByteArray := prog_10_method_68_code
def yX8_byLot : MethodName := ⟨RX8, "byLot", "(II)I"⟩
abbrev cX8_drawn : ByteArray := prog_10_method_69_code
def yX8_drawn : MethodName := ⟨RX8, "drawn", "(II)I"⟩
abbrev cX8_common : ByteArray := prog_10_method_70_code
def yX8_common : MethodName := ⟨RX8, "common", "(II)I"⟩
abbrev cX8_chance : ByteArray := prog_10_method_71_code
def yX8_chance : MethodName := ⟨RX8, "chance", "(III)I"⟩
abbrev cX8_contentOn : ByteArray := prog_10_method_72_code
def yX8_contentOn : MethodName := ⟨RX8, "contentOn", "(II)I"⟩
abbrev cX8_otherwise : ByteArray := prog_10_method_73_code
def yX8_otherwise : MethodName := ⟨RX8, "otherwise", "(II)I"⟩
abbrev cX8_isTarget : ByteArray := prog_10_method_74_code
def yX8_isTarget : MethodName := ⟨RX8, "isTarget", "(II)Z"⟩
abbrev cX8_tells : ByteArray := prog_10_method_75_code
def yX8_tells : MethodName := ⟨RX8, "tells", "(III)I"⟩
abbrev cX8_film : ByteArray := prog_10_method_76_code
def yX8_film : MethodName := ⟨RX8, "film", "(III)I"⟩
abbrev cX8_image : ByteArray := prog_10_method_77_code
def yX8_image : MethodName := ⟨RX8, "image", "()I"⟩
abbrev cX8_back : ByteArray := prog_10_method_78_code
def yX8_back : MethodName := ⟨RX8, "back", "()I"⟩
abbrev cX8_count : ByteArray := prog_10_method_79_code
def yX8_count : MethodName := ⟨RX8, "count", "(I)I"⟩
abbrev cX8_isSheet : ByteArray := prog_10_method_80_code
def yX8_isSheet : MethodName := ⟨RX8, "isSheet", "(I)Z"⟩
abbrev cX8_sheet : ByteArray := prog_10_method_81_code
def yX8_sheet : MethodName := ⟨RX8, "sheet", "(III)I"⟩
abbrev cX8_cell : ByteArray := prog_10_method_82_code
def yX8_cell : MethodName := ⟨RX8, "cell", "(III)I"⟩
abbrev cX8_copy : ByteArray := prog_10_method_83_code
def yX8_copy : MethodName := ⟨RX8, "copy", "(IIIII)I"⟩
def RL : String := "TwoTreesAlikeLaw"
abbrev cL_law : ByteArray := code
abbrev vwCl : List vw_C := [(RX0, TX0, 9), (RX1, TX1, 3), (RX2, TX2, 5), (RX3, TX3, 3), (RX4, TX4, 6), (RX5, TX5, 4), (RX6, TX6, 11), (RX7, TX7, 8), (RX8, TX8, 55)]
theorem ws_X6_refuse : (.selects RX6 yX6_refuse yX6_refuse : Cond) ∈ lw_tbl := List.mem_of_getElem? (i := 0) (by decide +kernel)
theorem ws_X6_canHold : (.selects RX6 yX6_canHold yX6_canHold : Cond) ∈ lw_tbl := List.mem_of_getElem? (i := 1) (by decide +kernel)
theorem ws_X6_allow : (.selects RX6 yX6_allow yX6_allow : Cond) ∈ lw_tbl := List.mem_of_getElem? (i := 2) (by decide +kernel)
theorem ws_X1_passMany : (.selects RX1 yX1_passMany yX1_passMany : Cond) ∈ lw_tbl := List.mem_of_getElem? (i := 3) (by decide +kernel)
theorem ws_X1_afterName : (.selects RX1 yX1_afterName yX1_afterName : Cond) ∈ lw_tbl := List.mem_of_getElem? (i := 4) (by decide +kernel)
theorem ws_X0_ignoreWithin : (.selects RX0 yX0_ignoreWithin yX0_ignoreWithin : Cond) ∈ lw_tbl := List.mem_of_getElem? (i := 5) (by decide +kernel)
theorem ws_X0_standsInIgnored : (.selects RX0 yX0_standsInIgnored yX0_standsInIgnored : Cond) ∈ lw_tbl := List.mem_of_getElem? (i := 6) (by decide +kernel)
theorem ws_X0_changeOf : (.selects RX0 yX0_changeOf yX0_changeOf : Cond) ∈ lw_tbl := List.mem_of_getElem? (i := 7) (by decide +kernel)
theorem ws_X4_next : (.selects RX4 yX4_next yX4_next : Cond) ∈ lw_tbl := List.mem_of_getElem? (i := 8) (by decide +kernel)
theorem ws_X4_isDigit : (.selects RX4 yX4_isDigit yX4_isDigit : Cond) ∈ lw_tbl := List.mem_of_getElem? (i := 9) (by decide +kernel)
theorem ws_X4_readNumber : (.selects RX4 yX4_readNumber yX4_readNumber : Cond) ∈ lw_tbl := List.mem_of_getElem? (i := 10) (by decide +kernel)
theorem ws_X4_readSign : (.selects RX4 yX4_readSign yX4_readSign : Cond) ∈ lw_tbl := List.mem_of_getElem? (i := 11) (by decide +kernel)
theorem ws_X0_decideWho : (.selects RX0 yX0_decideWho yX0_decideWho : Cond) ∈ lw_tbl := List.mem_of_getElem? (i := 12) (by decide +kernel)
theorem ws_X0_isKeptOn : (.selects RX0 yX0_isKeptOn yX0_isKeptOn : Cond) ∈ lw_tbl := List.mem_of_getElem? (i := 13) (by decide +kernel)
theorem ws_X0_addClash : (.selects RX0 yX0_addClash yX0_addClash : Cond) ∈ lw_tbl := List.mem_of_getElem? (i := 14) (by decide +kernel)
theorem ws_X0_decidePlaces : (.selects RX0 yX0_decidePlaces yX0_decidePlaces : Cond) ∈ lw_tbl := List.mem_of_getElem? (i := 15) (by decide +kernel)
theorem ws_X0_decider : (.selects RX0 yX0_decider yX0_decider : Cond) ∈ lw_tbl := List.mem_of_getElem? (i := 16) (by decide +kernel)
theorem ws_X0_bothDid : (.selects RX0 yX0_bothDid yX0_bothDid : Cond) ∈ lw_tbl := List.mem_of_getElem? (i := 17) (by decide +kernel)
theorem ws_X0_decideContents : (.selects RX0 yX0_decideContents yX0_decideContents : Cond) ∈ lw_tbl := List.mem_of_getElem? (i := 18) (by decide +kernel)
theorem ws_X0_addOther : (.selects RX0 yX0_addOther yX0_addOther : Cond) ∈ lw_tbl := List.mem_of_getElem? (i := 19) (by decide +kernel)
theorem ws_X0_mendRings : (.selects RX0 yX0_mendRings yX0_mendRings : Cond) ∈ lw_tbl := List.mem_of_getElem? (i := 20) (by decide +kernel)
theorem ws_X0_greatestInRing : (.selects RX0 yX0_greatestInRing yX0_greatestInRing : Cond) ∈ lw_tbl := List.mem_of_getElem? (i := 21) (by decide +kernel)
theorem ws_X0_mendNames : (.selects RX0 yX0_mendNames yX0_mendNames : Cond) ∈ lw_tbl := List.mem_of_getElem? (i := 22) (by decide +kernel)
theorem ws_X0_ignoredHas : (.selects RX0 yX0_ignoredHas yX0_ignoredHas : Cond) ∈ lw_tbl := List.mem_of_getElem? (i := 23) (by decide +kernel)
theorem ws_X0_leastFreeName : (.selects RX0 yX0_leastFreeName yX0_leastFreeName : Cond) ∈ lw_tbl := List.mem_of_getElem? (i := 24) (by decide +kernel)
theorem ws_X7_stepsOf : (.selects RX7 yX7_stepsOf yX7_stepsOf : Cond) ∈ lw_tbl := List.mem_of_getElem? (i := 25) (by decide +kernel)
theorem ws_X2_add : (.selects RX2 yX2_add yX2_add : Cond) ∈ lw_tbl := List.mem_of_getElem? (i := 26) (by decide +kernel)
theorem ws_X2_addAtDepth : (.selects RX2 yX2_addAtDepth yX2_addAtDepth : Cond) ∈ lw_tbl := List.mem_of_getElem? (i := 27) (by decide +kernel)
theorem ws_X0_forgetHomeless : (.selects RX0 yX0_forgetHomeless yX0_forgetHomeless : Cond) ∈ lw_tbl := List.mem_of_getElem? (i := 28) (by decide +kernel)
theorem ws_X7_clashesDrawn : (.selects RX7 yX7_clashesDrawn yX7_clashesDrawn : Cond) ∈ lw_tbl := List.mem_of_getElem? (i := 29) (by decide +kernel)
theorem ws_X7_whereJustSo : (.selects RX7 yX7_whereJustSo yX7_whereJustSo : Cond) ∈ lw_tbl := List.mem_of_getElem? (i := 30) (by decide +kernel)
theorem ws_X8_isThing : (.selects RX8 yX8_isThing yX8_isThing : Cond) ∈ lw_tbl := List.mem_of_getElem? (i := 31) (by decide +kernel)
theorem ws_X8_refuses : (.selects RX8 yX8_refuses yX8_refuses : Cond) ∈ lw_tbl := List.mem_of_getElem? (i := 32) (by decide +kernel)
theorem ws_X8_isFolderOn : (.selects RX8 yX8_isFolderOn yX8_isFolderOn : Cond) ∈ lw_tbl := List.mem_of_getElem? (i := 33) (by decide +kernel)
theorem ws_X8_found : (.selects RX8 yX8_found yX8_found : Cond) ∈ lw_tbl := List.mem_of_getElem? (i := 34) (by decide +kernel)
theorem ws_X8_stand : (.selects RX8 yX8_stand yX8_stand : Cond) ∈ lw_tbl := List.mem_of_getElem? (i := 35) (by decide +kernel)
theorem ws_X8_done : (.selects RX8 yX8_done yX8_done : Cond) ∈ lw_tbl := List.mem_of_getElem? (i := 36) (by decide +kernel)
theorem ws_X8_deepIn : (.selects RX8 yX8_deepIn yX8_deepIn : Cond) ∈ lw_tbl := List.mem_of_getElem? (i := 37) (by decide +kernel)
theorem ws_X8_removes : (.selects RX8 yX8_removes yX8_removes : Cond) ∈ lw_tbl := List.mem_of_getElem? (i := 38) (by decide +kernel)
theorem ws_X8_isInner : (.selects RX8 yX8_isInner yX8_isInner : Cond) ∈ lw_tbl := List.mem_of_getElem? (i := 39) (by decide +kernel)
theorem ws_X8_inners : (.selects RX8 yX8_inners yX8_inners : Cond) ∈ lw_tbl := List.mem_of_getElem? (i := 40) (by decide +kernel)
theorem ws_X8_deep : (.selects RX8 yX8_deep yX8_deep : Cond) ∈ lw_tbl := List.mem_of_getElem? (i := 41) (by decide +kernel)
theorem ws_X8_ignore : (.selects RX8 yX8_ignore yX8_ignore : Cond) ∈ lw_tbl := List.mem_of_getElem? (i := 42) (by decide +kernel)
theorem ws_X8_isIgnoredOn : (.selects RX8 yX8_isIgnoredOn yX8_isIgnoredOn : Cond) ∈ lw_tbl := List.mem_of_getElem? (i := 43) (by decide +kernel)
theorem ws_X8_tellPath : (.selects RX8 yX8_tellPath yX8_tellPath : Cond) ∈ lw_tbl := List.mem_of_getElem? (i := 44) (by decide +kernel)
theorem ws_X8_doesMatch : (.selects RX8 yX8_doesMatch yX8_doesMatch : Cond) ∈ lw_tbl := List.mem_of_getElem? (i := 45) (by decide +kernel)
theorem ws_X8_changed : (.selects RX8 yX8_changed yX8_changed : Cond) ∈ lw_tbl := List.mem_of_getElem? (i := 46) (by decide +kernel)
theorem ws_X8_next : (.selects RX8 yX8_next yX8_next : Cond) ∈ lw_tbl := List.mem_of_getElem? (i := 47) (by decide +kernel)
theorem ws_X8_byteAt : (.selects RX8 yX8_byteAt yX8_byteAt : Cond) ∈ lw_tbl := List.mem_of_getElem? (i := 48) (by decide +kernel)
theorem ws_X8_part : (.selects RX8 yX8_part yX8_part : Cond) ∈ lw_tbl := List.mem_of_getElem? (i := 49) (by decide +kernel)
theorem ws_X8_tellTarget : (.selects RX8 yX8_tellTarget yX8_tellTarget : Cond) ∈ lw_tbl := List.mem_of_getElem? (i := 50) (by decide +kernel)
theorem ws_X8_whoIs : (.selects RX8 yX8_whoIs yX8_whoIs : Cond) ∈ lw_tbl := List.mem_of_getElem? (i := 51) (by decide +kernel)
theorem ws_X8_isStirred : (.selects RX8 yX8_isStirred yX8_isStirred : Cond) ∈ lw_tbl := List.mem_of_getElem? (i := 52) (by decide +kernel)
theorem ws_X8_clashes : (.selects RX8 yX8_clashes yX8_clashes : Cond) ∈ lw_tbl := List.mem_of_getElem? (i := 53) (by decide +kernel)
theorem ws_X8_places : (.selects RX8 yX8_places yX8_places : Cond) ∈ lw_tbl := List.mem_of_getElem? (i := 54) (by decide +kernel)
theorem ws_X8_sideFor : (.selects RX8 yX8_sideFor yX8_sideFor : Cond) ∈ lw_tbl := List.mem_of_getElem? (i := 55) (by decide +kernel)
theorem ws_X8_fills : (.selects RX8 yX8_fills yX8_fills : Cond) ∈ lw_tbl := List.mem_of_getElem? (i := 56) (by decide +kernel)
theorem ws_X8_breaksRings : (.selects RX8 yX8_breaksRings yX8_breaksRings : Cond) ∈ lw_tbl := List.mem_of_getElem? (i := 57) (by decide +kernel)
theorem ws_X8_isInRing : (.selects RX8 yX8_isInRing yX8_isInRing : Cond) ∈ lw_tbl := List.mem_of_getElem? (i := 58) (by decide +kernel)
theorem ws_X8_callsAnew : (.selects RX8 yX8_callsAnew yX8_callsAnew : Cond) ∈ lw_tbl := List.mem_of_getElem? (i := 59) (by decide +kernel)
theorem ws_X8_isHad : (.selects RX8 yX8_isHad yX8_isHad : Cond) ∈ lw_tbl := List.mem_of_getElem? (i := 60) (by decide +kernel)
theorem ws_X8_isHadByIgnored : (.selects RX8 yX8_isHadByIgnored yX8_isHadByIgnored : Cond) ∈ lw_tbl := List.mem_of_getElem? (i := 61) (by decide +kernel)
theorem ws_X8_willDeep : (.selects RX8 yX8_willDeep yX8_willDeep : Cond) ∈ lw_tbl := List.mem_of_getElem? (i := 62) (by decide +kernel)
theorem ws_X8_tellPlan : (.selects RX8 yX8_tellPlan yX8_tellPlan : Cond) ∈ lw_tbl := List.mem_of_getElem? (i := 63) (by decide +kernel)
theorem ws_X8_isAside : (.selects RX8 yX8_isAside yX8_isAside : Cond) ∈ lw_tbl := List.mem_of_getElem? (i := 64) (by decide +kernel)
theorem ws_X8_isOn : (.selects RX8 yX8_isOn yX8_isOn : Cond) ∈ lw_tbl := List.mem_of_getElem? (i := 65) (by decide +kernel)
theorem ws_X8_step : (.selects RX8 yX8_step yX8_step : Cond) ∈ lw_tbl := List.mem_of_getElem? (i := 66) (by decide +kernel)
theorem ws_X8_areAlike : (.selects RX8 yX8_areAlike yX8_areAlike : Cond) ∈ lw_tbl := List.mem_of_getElem? (i := 67) (by decide +kernel)
theorem ws_X8_becomesTarget : (.selects RX8 yX8_becomesTarget yX8_becomesTarget : Cond) ∈ lw_tbl := List.mem_of_getElem? (i := 68) (by decide +kernel)
theorem ws_X8_leavesIgnored : (.selects RX8 yX8_leavesIgnored yX8_leavesIgnored : Cond) ∈ lw_tbl := List.mem_of_getElem? (i := 69) (by decide +kernel)
theorem ws_X8_byLot : (.selects RX8 yX8_byLot yX8_byLot : Cond) ∈ lw_tbl := List.mem_of_getElem? (i := 70) (by decide +kernel)
theorem ws_X8_keep : (.selects RX8 yX8_keep yX8_keep : Cond) ∈ lw_tbl := List.mem_of_getElem? (i := 71) (by decide +kernel)
theorem ws_X8_draw : (.selects RX8 yX8_draw yX8_draw : Cond) ∈ lw_tbl := List.mem_of_getElem? (i := 72) (by decide +kernel)
theorem ws_X8_layBack : (.selects RX8 yX8_layBack yX8_layBack : Cond) ∈ lw_tbl := List.mem_of_getElem? (i := 73) (by decide +kernel)
theorem ws_X8_otherwise : (.selects RX8 yX8_otherwise yX8_otherwise : Cond) ∈ lw_tbl := List.mem_of_getElem? (i := 74) (by decide +kernel)
theorem ws_X8_contentOn : (.selects RX8 yX8_contentOn yX8_contentOn : Cond) ∈ lw_tbl := List.mem_of_getElem? (i := 75) (by decide +kernel)
theorem ws_X8_isTarget : (.selects RX8 yX8_isTarget yX8_isTarget : Cond) ∈ lw_tbl := List.mem_of_getElem? (i := 76) (by decide +kernel)
theorem wz_L : (.initialized RL : Cond) ∈ lw_tbl := List.mem_of_getElem? (i := 77) (by decide +kernel)
theorem wz_X7 : (.initialized RX7 : Cond) ∈ lw_tbl := List.mem_of_getElem? (i := 78) (by decide +kernel)
theorem wz_X6 : (.initialized RX6 : Cond) ∈ lw_tbl := List.mem_of_getElem? (i := 79) (by decide +kernel)
theorem wz_X5 : (.initialized RX5 : Cond) ∈ lw_tbl := List.mem_of_getElem? (i := 80) (by decide +kernel)
theorem wz_X1 : (.initialized RX1 : Cond) ∈ lw_tbl := List.mem_of_getElem? (i := 81) (by decide +kernel)
theorem wz_X4 : (.initialized RX4 : Cond) ∈ lw_tbl := List.mem_of_getElem? (i := 82) (by decide +kernel)
theorem wz_X0 : (.initialized RX0 : Cond) ∈ lw_tbl := List.mem_of_getElem? (i := 83) (by decide +kernel)
theorem wz_X2 : (.initialized RX2 : Cond) ∈ lw_tbl := List.mem_of_getElem? (i := 84) (by decide +kernel)
theorem wz_X3 : (.initialized RX3 : Cond) ∈ lw_tbl := List.mem_of_getElem? (i := 85) (by decide +kernel)
theorem wz_X8 : (.initialized RX8 : Cond) ∈ lw_tbl := List.mem_of_getElem? (i := 86) (by decide +kernel)
theorem wz_J_Math : (.initialized "java/lang/Math" : Cond) ∈ lw_tbl := List.mem_of_getElem? (i := 87) (by decide +kernel)
theorem wz_J_System : (.initialized "java/lang/System" : Cond) ∈ lw_tbl := List.mem_of_getElem? (i := 88) (by decide +kernel)
theorem wl_L_7 : (.classLink RL 7 RX7 : Cond) ∈ lw_tbl := List.mem_of_getElem? (i := 89) (by decide +kernel)
theorem wx_X7 : (.instantiable RX7 8 : Cond) ∈ lw_tbl := List.mem_of_getElem? (i := 90) (by decide +kernel)
theorem wm_L_9 : (.methodLink RL 9 yX7_init : Cond) ∈ lw_tbl := List.mem_of_getElem? (i := 91) (by decide +kernel)
theorem wi_X7_init : (.instanceMethod yX7_init : Cond) ∈ lw_tbl := List.mem_of_getElem? (i := 92) (by decide +kernel)
theorem wc_X7_init : (.code yX7_init cX7_init 2 (none) : Cond) ∈ lw_tbl := List.mem_of_getElem? (i := 93) (by decide +kernel)
theorem wm_X7_3 : (.methodLink RX7 3 objectInit : Cond) ∈ lw_tbl := List.mem_of_getElem? (i := 94) (by decide +kernel)
theorem wi_objInit : (.instanceMethod objectInit : Cond) ∈ lw_tbl := List.mem_of_getElem? (i := 95) (by decide +kernel)
theorem wc_J_objInit : (.code objectInit object_method_1_code 1 (none) : Cond) ∈ lw_tbl := List.mem_of_getElem? (i := 96) (by decide +kernel)
theorem wl_X7_9 : (.classLink RX7 9 RX6 : Cond) ∈ lw_tbl := List.mem_of_getElem? (i := 97) (by decide +kernel)
theorem wx_X6 : (.instantiable RX6 11 : Cond) ∈ lw_tbl := List.mem_of_getElem? (i := 98) (by decide +kernel)
theorem wm_X7_11 : (.methodLink RX7 11 yX6_init : Cond) ∈ lw_tbl := List.mem_of_getElem? (i := 99) (by decide +kernel)
theorem wi_X6_init : (.instanceMethod yX6_init : Cond) ∈ lw_tbl := List.mem_of_getElem? (i := 100) (by decide +kernel)
theorem wc_X6_init : (.code yX6_init cX6_init 2 (none) : Cond) ∈ lw_tbl := List.mem_of_getElem? (i := 101) (by decide +kernel)
theorem wm_X6_3 : (.methodLink RX6 3 objectInit : Cond) ∈ lw_tbl := List.mem_of_getElem? (i := 102) (by decide +kernel)
theorem wl_X6_19 : (.classLink RX6 19 RX5 : Cond) ∈ lw_tbl := List.mem_of_getElem? (i := 103) (by decide +kernel)
theorem wo_X5 : (.arrayOver (.object RX5) : Cond) ∈ lw_tbl := List.mem_of_getElem? (i := 104) (by decide +kernel)
theorem wl_X6_25 : (.classLink RX6 25 RX1 : Cond) ∈ lw_tbl := List.mem_of_getElem? (i := 105) (by decide +kernel)
theorem wo_X1 : (.arrayOver (.object RX1) : Cond) ∈ lw_tbl := List.mem_of_getElem? (i := 106) (by decide +kernel)
theorem wx_X5 : (.instantiable RX5 4 : Cond) ∈ lw_tbl := List.mem_of_getElem? (i := 107) (by decide +kernel)
theorem wm_X6_53 : (.methodLink RX6 53 yX5_init : Cond) ∈ lw_tbl := List.mem_of_getElem? (i := 108) (by decide +kernel)
theorem wi_X5_init : (.instanceMethod yX5_init : Cond) ∈ lw_tbl := List.mem_of_getElem? (i := 109) (by decide +kernel)
theorem wc_X5_init : (.code yX5_init cX5_init 1 (none) : Cond) ∈ lw_tbl := List.mem_of_getElem? (i := 110) (by decide +kernel)
theorem wm_X5_3 : (.methodLink RX5 3 objectInit : Cond) ∈ lw_tbl := List.mem_of_getElem? (i := 111) (by decide +kernel)
theorem wm_X5_25 : (.methodLink RX5 25 yX5_clear : Cond) ∈ lw_tbl := List.mem_of_getElem? (i := 112) (by decide +kernel)
theorem wi_X5_clear : (.instanceMethod yX5_clear : Cond) ∈ lw_tbl := List.mem_of_getElem? (i := 113) (by decide +kernel)
theorem ws_X5_clear : (.selects RX5 yX5_clear yX5_clear : Cond) ∈ lw_tbl := List.mem_of_getElem? (i := 114) (by decide +kernel)
theorem wc_X5_clear : (.code yX5_clear cX5_clear 2 (none) : Cond) ∈ lw_tbl := List.mem_of_getElem? (i := 115) (by decide +kernel)
theorem wm_X5_28 : (.methodLink RX5 28 yX5_takeOut : Cond) ∈ lw_tbl := List.mem_of_getElem? (i := 116) (by decide +kernel)
theorem wi_X5_takeOut : (.instanceMethod yX5_takeOut : Cond) ∈ lw_tbl := List.mem_of_getElem? (i := 117) (by decide +kernel)
theorem ws_X5_takeOut : (.selects RX5 yX5_takeOut yX5_takeOut : Cond) ∈ lw_tbl := List.mem_of_getElem? (i := 118) (by decide +kernel)
theorem wc_X5_takeOut : (.code yX5_takeOut cX5_takeOut 2 (none) : Cond) ∈ lw_tbl := List.mem_of_getElem? (i := 119) (by decide +kernel)
theorem wf_X5_9 : (.fieldLink RX5 9 "TwoTreesAlike$Tree" "there" "[Z" : Cond) ∈ lw_tbl := List.mem_of_getElem? (i := 120) (by decide +kernel)
theorem wf_X5_15 : (.fieldLink RX5 15 "TwoTreesAlike$Tree" "folder" "[I" : Cond) ∈ lw_tbl := List.mem_of_getElem? (i := 121) (by decide +kernel)
theorem wf_X0_69 : (.fieldLink RX0 69 "TwoTreesAlike$Tree" "folder" "[I" : Cond) ∈ lw_tbl := List.mem_of_getElem? (i := 122) (by decide +kernel)
theorem wf_X2_73 : (.fieldLink RX2 73 "TwoTreesAlike$Tree" "folder" "[I" : Cond) ∈ lw_tbl := List.mem_of_getElem? (i := 123) (by decide +kernel)
theorem wf_X7_91 : (.fieldLink RX7 91 "TwoTreesAlike$Tree" "folder" "[I" : Cond) ∈ lw_tbl := List.mem_of_getElem? (i := 124) (by decide +kernel)
theorem wf_X6_108 : (.fieldLink RX6 108 "TwoTreesAlike$Tree" "folder" "[I" : Cond) ∈ lw_tbl := List.mem_of_getElem? (i := 125) (by decide +kernel)
theorem wf_X5_19 : (.fieldLink RX5 19 "TwoTreesAlike$Tree" "name" "[I" : Cond) ∈ lw_tbl := List.mem_of_getElem? (i := 126) (by decide +kernel)
theorem wf_X2_76 : (.fieldLink RX2 76 "TwoTreesAlike$Tree" "name" "[I" : Cond) ∈ lw_tbl := List.mem_of_getElem? (i := 127) (by decide +kernel)
theorem wf_X7_95 : (.fieldLink RX7 95 "TwoTreesAlike$Tree" "name" "[I" : Cond) ∈ lw_tbl := List.mem_of_getElem? (i := 128) (by decide +kernel)
theorem wf_X6_111 : (.fieldLink RX6 111 "TwoTreesAlike$Tree" "name" "[I" : Cond) ∈ lw_tbl := List.mem_of_getElem? (i := 129) (by decide +kernel)
theorem wf_X0_123 : (.fieldLink RX0 123 "TwoTreesAlike$Tree" "name" "[I" : Cond) ∈ lw_tbl := List.mem_of_getElem? (i := 130) (by decide +kernel)
theorem wf_X5_22 : (.fieldLink RX5 22 "TwoTreesAlike$Tree" "content" "[I" : Cond) ∈ lw_tbl := List.mem_of_getElem? (i := 131) (by decide +kernel)
theorem wf_X2_79 : (.fieldLink RX2 79 "TwoTreesAlike$Tree" "content" "[I" : Cond) ∈ lw_tbl := List.mem_of_getElem? (i := 132) (by decide +kernel)
theorem wf_X3_26 : (.fieldLink RX3 26 "TwoTreesAlike$Tree" "content" "[I" : Cond) ∈ lw_tbl := List.mem_of_getElem? (i := 133) (by decide +kernel)
theorem wf_X7_98 : (.fieldLink RX7 98 "TwoTreesAlike$Tree" "content" "[I" : Cond) ∈ lw_tbl := List.mem_of_getElem? (i := 134) (by decide +kernel)
theorem wf_X6_102 : (.fieldLink RX6 102 "TwoTreesAlike$Tree" "content" "[I" : Cond) ∈ lw_tbl := List.mem_of_getElem? (i := 135) (by decide +kernel)
theorem wf_X0_129 : (.fieldLink RX0 129 "TwoTreesAlike$Tree" "content" "[I" : Cond) ∈ lw_tbl := List.mem_of_getElem? (i := 136) (by decide +kernel)
theorem wa_boolean : (.arrayClass .boolean : Cond) ∈ lw_tbl := List.mem_of_getElem? (i := 146) (by decide +kernel)
theorem wa_int : (.arrayClass .int : Cond) ∈ lw_tbl := List.mem_of_getElem? (i := 147) (by decide +kernel)
theorem wx_X1 : (.instantiable RX1 3 : Cond) ∈ lw_tbl := List.mem_of_getElem? (i := 148) (by decide +kernel)
theorem wn_X6_54 : (.methodLinkNest RX6 54 yX1_init RX7 : Cond) ∈ lw_tbl := List.mem_of_getElem? (i := 149) (by decide +kernel)
theorem wi_X1_init : (.instanceMethod yX1_init : Cond) ∈ lw_tbl := List.mem_of_getElem? (i := 150) (by decide +kernel)
theorem wc_X1_init : (.code yX1_init cX1_init 1 (none) : Cond) ∈ lw_tbl := List.mem_of_getElem? (i := 151) (by decide +kernel)
theorem wm_X1_3 : (.methodLink RX1 3 objectInit : Cond) ∈ lw_tbl := List.mem_of_getElem? (i := 152) (by decide +kernel)
theorem wf_X1_9 : (.fieldLink RX1 9 "TwoTreesAlike$Pattern" "parts" "[I" : Cond) ∈ lw_tbl := List.mem_of_getElem? (i := 153) (by decide +kernel)
theorem wf_X4_38 : (.fieldLink RX4 38 "TwoTreesAlike$Pattern" "parts" "[I" : Cond) ∈ lw_tbl := List.mem_of_getElem? (i := 154) (by decide +kernel)
theorem wf_X1_23 : (.fieldLink RX1 23 "TwoTreesAlike$Pattern" "size" "I" : Cond) ∈ lw_tbl := List.mem_of_getElem? (i := 155) (by decide +kernel)
theorem wf_X4_22 : (.fieldLink RX4 22 "TwoTreesAlike$Pattern" "size" "I" : Cond) ∈ lw_tbl := List.mem_of_getElem? (i := 156) (by decide +kernel)
theorem wf_X4_31 : (.fieldLink RX4 31 "TwoTreesAlike$Pattern" "isNot" "Z" : Cond) ∈ lw_tbl := List.mem_of_getElem? (i := 157) (by decide +kernel)
theorem wf_X1_33 : (.fieldLink RX1 33 "TwoTreesAlike$Pattern" "isNot" "Z" : Cond) ∈ lw_tbl := List.mem_of_getElem? (i := 158) (by decide +kernel)
theorem wf_X6_130 : (.fieldLink RX6 130 "TwoTreesAlike$Pattern" "isNot" "Z" : Cond) ∈ lw_tbl := List.mem_of_getElem? (i := 159) (by decide +kernel)
theorem wf_X6_9 : (.fieldLink RX6 9 "TwoTreesAlike$World" "total" "I" : Cond) ∈ lw_tbl := List.mem_of_getElem? (i := 167) (by decide +kernel)
theorem wf_X0_86 : (.fieldLink RX0 86 "TwoTreesAlike$World" "total" "I" : Cond) ∈ lw_tbl := List.mem_of_getElem? (i := 168) (by decide +kernel)
theorem wf_X7_244 : (.fieldLink RX7 244 "TwoTreesAlike$World" "total" "I" : Cond) ∈ lw_tbl := List.mem_of_getElem? (i := 169) (by decide +kernel)
theorem wf_X6_15 : (.fieldLink RX6 15 "TwoTreesAlike$World" "isFolder" "[Z" : Cond) ∈ lw_tbl := List.mem_of_getElem? (i := 170) (by decide +kernel)
theorem wf_X7_112 : (.fieldLink RX7 112 "TwoTreesAlike$World" "isFolder" "[Z" : Cond) ∈ lw_tbl := List.mem_of_getElem? (i := 171) (by decide +kernel)
theorem wf_X0_155 : (.fieldLink RX0 155 "TwoTreesAlike$World" "isFolder" "[Z" : Cond) ∈ lw_tbl := List.mem_of_getElem? (i := 172) (by decide +kernel)
theorem wf_X6_21 : (.fieldLink RX6 21 "TwoTreesAlike$World" "trees" "[LTwoTreesAlike$Tree;" : Cond) ∈ lw_tbl := List.mem_of_getElem? (i := 173) (by decide +kernel)
theorem wf_X2_35 : (.fieldLink RX2 35 "TwoTreesAlike$World" "trees" "[LTwoTreesAlike$Tree;" : Cond) ∈ lw_tbl := List.mem_of_getElem? (i := 174) (by decide +kernel)
theorem wf_X0_57 : (.fieldLink RX0 57 "TwoTreesAlike$World" "trees" "[LTwoTreesAlike$Tree;" : Cond) ∈ lw_tbl := List.mem_of_getElem? (i := 175) (by decide +kernel)
theorem wf_X7_78 : (.fieldLink RX7 78 "TwoTreesAlike$World" "trees" "[LTwoTreesAlike$Tree;" : Cond) ∈ lw_tbl := List.mem_of_getElem? (i := 176) (by decide +kernel)
theorem wf_X6_27 : (.fieldLink RX6 27 "TwoTreesAlike$World" "patterns" "[LTwoTreesAlike$Pattern;" : Cond) ∈ lw_tbl := List.mem_of_getElem? (i := 177) (by decide +kernel)
theorem wf_X7_155 : (.fieldLink RX7 155 "TwoTreesAlike$World" "patterns" "[LTwoTreesAlike$Pattern;" : Cond) ∈ lw_tbl := List.mem_of_getElem? (i := 178) (by decide +kernel)
theorem wf_X6_31 : (.fieldLink RX6 31 "TwoTreesAlike$World" "patternCount" "I" : Cond) ∈ lw_tbl := List.mem_of_getElem? (i := 179) (by decide +kernel)
theorem wf_X7_152 : (.fieldLink RX7 152 "TwoTreesAlike$World" "patternCount" "I" : Cond) ∈ lw_tbl := List.mem_of_getElem? (i := 180) (by decide +kernel)
theorem wf_X6_34 : (.fieldLink RX6 34 "TwoTreesAlike$World" "preferred" "I" : Cond) ∈ lw_tbl := List.mem_of_getElem? (i := 181) (by decide +kernel)
theorem wf_X7_179 : (.fieldLink RX7 179 "TwoTreesAlike$World" "preferred" "I" : Cond) ∈ lw_tbl := List.mem_of_getElem? (i := 182) (by decide +kernel)
theorem wf_X6_37 : (.fieldLink RX6 37 "TwoTreesAlike$World" "refusal" "I" : Cond) ∈ lw_tbl := List.mem_of_getElem? (i := 183) (by decide +kernel)
theorem wf_X7_132 : (.fieldLink RX7 132 "TwoTreesAlike$World" "refusal" "I" : Cond) ∈ lw_tbl := List.mem_of_getElem? (i := 184) (by decide +kernel)
theorem wf_X6_40 : (.fieldLink RX6 40 "TwoTreesAlike$World" "refusedBy" "I" : Cond) ∈ lw_tbl := List.mem_of_getElem? (i := 185) (by decide +kernel)
theorem wf_X7_136 : (.fieldLink RX7 136 "TwoTreesAlike$World" "refusedBy" "I" : Cond) ∈ lw_tbl := List.mem_of_getElem? (i := 186) (by decide +kernel)
theorem wf_X6_43 : (.fieldLink RX6 43 "TwoTreesAlike$World" "ringSteps" "I" : Cond) ∈ lw_tbl := List.mem_of_getElem? (i := 187) (by decide +kernel)
theorem wf_X7_139 : (.fieldLink RX7 139 "TwoTreesAlike$World" "ringSteps" "I" : Cond) ∈ lw_tbl := List.mem_of_getElem? (i := 188) (by decide +kernel)
theorem wf_X6_46 : (.fieldLink RX6 46 "TwoTreesAlike$World" "path" "[I" : Cond) ∈ lw_tbl := List.mem_of_getElem? (i := 189) (by decide +kernel)
theorem wf_X7_163 : (.fieldLink RX7 163 "TwoTreesAlike$World" "path" "[I" : Cond) ∈ lw_tbl := List.mem_of_getElem? (i := 190) (by decide +kernel)
theorem wf_X6_50 : (.fieldLink RX6 50 "TwoTreesAlike$World" "isGoing" "[Z" : Cond) ∈ lw_tbl := List.mem_of_getElem? (i := 191) (by decide +kernel)
theorem wl_X7_26 : (.classLink RX7 26 RX4 : Cond) ∈ lw_tbl := List.mem_of_getElem? (i := 215) (by decide +kernel)
theorem wx_X4 : (.instantiable RX4 6 : Cond) ∈ lw_tbl := List.mem_of_getElem? (i := 216) (by decide +kernel)
theorem wn_X7_28 : (.methodLinkNest RX7 28 yX4_init RX7 : Cond) ∈ lw_tbl := List.mem_of_getElem? (i := 217) (by decide +kernel)
theorem wi_X4_init : (.instanceMethod yX4_init : Cond) ∈ lw_tbl := List.mem_of_getElem? (i := 218) (by decide +kernel)
theorem wc_X4_init : (.code yX4_init cX4_init 1 (none) : Cond) ∈ lw_tbl := List.mem_of_getElem? (i := 219) (by decide +kernel)
theorem wm_X4_3 : (.methodLink RX4 3 objectInit : Cond) ∈ lw_tbl := List.mem_of_getElem? (i := 220) (by decide +kernel)
theorem wf_X4_9 : (.fieldLink RX4 9 "TwoTreesAlike$Tape" "bytes" "[I" : Cond) ∈ lw_tbl := List.mem_of_getElem? (i := 221) (by decide +kernel)
theorem wf_X4_15 : (.fieldLink RX4 15 "TwoTreesAlike$Tape" "size" "I" : Cond) ∈ lw_tbl := List.mem_of_getElem? (i := 222) (by decide +kernel)
theorem wf_X7_145 : (.fieldLink RX7 145 "TwoTreesAlike$Tape" "size" "I" : Cond) ∈ lw_tbl := List.mem_of_getElem? (i := 223) (by decide +kernel)
theorem wf_X4_19 : (.fieldLink RX4 19 "TwoTreesAlike$Tape" "at" "I" : Cond) ∈ lw_tbl := List.mem_of_getElem? (i := 224) (by decide +kernel)
theorem wf_X4_28 : (.fieldLink RX4 28 "TwoTreesAlike$Tape" "token" "I" : Cond) ∈ lw_tbl := List.mem_of_getElem? (i := 225) (by decide +kernel)
theorem wf_X4_35 : (.fieldLink RX4 35 "TwoTreesAlike$Tape" "tokenAt" "I" : Cond) ∈ lw_tbl := List.mem_of_getElem? (i := 226) (by decide +kernel)
theorem wf_X4_41 : (.fieldLink RX4 41 "TwoTreesAlike$Tape" "part" "I" : Cond) ∈ lw_tbl := List.mem_of_getElem? (i := 227) (by decide +kernel)
theorem wl_X7_33 : (.classLink RX7 33 RX0 : Cond) ∈ lw_tbl := List.mem_of_getElem? (i := 241) (by decide +kernel)
theorem wx_X0 : (.instantiable RX0 9 : Cond) ∈ lw_tbl := List.mem_of_getElem? (i := 242) (by decide +kernel)
theorem wm_X7_35 : (.methodLink RX7 35 yX0_init : Cond) ∈ lw_tbl := List.mem_of_getElem? (i := 243) (by decide +kernel)
theorem wi_X0_init : (.instanceMethod yX0_init : Cond) ∈ lw_tbl := List.mem_of_getElem? (i := 244) (by decide +kernel)
theorem wc_X0_init : (.code yX0_init cX0_init 2 (none) : Cond) ∈ lw_tbl := List.mem_of_getElem? (i := 245) (by decide +kernel)
theorem wm_X0_3 : (.methodLink RX0 3 objectInit : Cond) ∈ lw_tbl := List.mem_of_getElem? (i := 246) (by decide +kernel)
theorem wl_X0_15 : (.classLink RX0 15 "[[I" : Cond) ∈ lw_tbl := List.mem_of_getElem? (i := 247) (by decide +kernel)
theorem wo_int : (.arrayOver (.array .int) : Cond) ∈ lw_tbl := List.mem_of_getElem? (i := 248) (by decide +kernel)
theorem wl_X0_20 : (.classLink RX0 20 RX5 : Cond) ∈ lw_tbl := List.mem_of_getElem? (i := 249) (by decide +kernel)
theorem wm_X0_22 : (.methodLink RX0 22 yX5_init : Cond) ∈ lw_tbl := List.mem_of_getElem? (i := 250) (by decide +kernel)
theorem wf_X0_44 : (.fieldLink RX0 44 "TwoTreesAlike$Merge" "world" "LTwoTreesAlike$World;" : Cond) ∈ lw_tbl := List.mem_of_getElem? (i := 251) (by decide +kernel)
theorem wg_X2_29 : (.fieldLinkNest RX2 29 "TwoTreesAlike$Merge" "world" "LTwoTreesAlike$World;" RX7 : Cond) ∈ lw_tbl := List.mem_of_getElem? (i := 252) (by decide +kernel)
theorem wf_X0_9 : (.fieldLink RX0 9 "TwoTreesAlike$Merge" "ignored" "[Z" : Cond) ∈ lw_tbl := List.mem_of_getElem? (i := 253) (by decide +kernel)
theorem wf_X2_55 : (.fieldLink RX2 55 "TwoTreesAlike$Merge" "ignored" "[Z" : Cond) ∈ lw_tbl := List.mem_of_getElem? (i := 254) (by decide +kernel)
theorem wf_X7_119 : (.fieldLink RX7 119 "TwoTreesAlike$Merge" "ignored" "[Z" : Cond) ∈ lw_tbl := List.mem_of_getElem? (i := 255) (by decide +kernel)
theorem wf_X0_17 : (.fieldLink RX0 17 "TwoTreesAlike$Merge" "changed" "[[I" : Cond) ∈ lw_tbl := List.mem_of_getElem? (i := 256) (by decide +kernel)
theorem wf_X7_122 : (.fieldLink RX7 122 "TwoTreesAlike$Merge" "changed" "[[I" : Cond) ∈ lw_tbl := List.mem_of_getElem? (i := 257) (by decide +kernel)
theorem wf_X0_23 : (.fieldLink RX0 23 "TwoTreesAlike$Merge" "goal" "LTwoTreesAlike$Tree;" : Cond) ∈ lw_tbl := List.mem_of_getElem? (i := 258) (by decide +kernel)
theorem wf_X2_41 : (.fieldLink RX2 41 "TwoTreesAlike$Merge" "goal" "LTwoTreesAlike$Tree;" : Cond) ∈ lw_tbl := List.mem_of_getElem? (i := 259) (by decide +kernel)
theorem wf_X7_192 : (.fieldLink RX7 192 "TwoTreesAlike$Merge" "goal" "LTwoTreesAlike$Tree;" : Cond) ∈ lw_tbl := List.mem_of_getElem? (i := 260) (by decide +kernel)
theorem wf_X0_27 : (.fieldLink RX0 27 "TwoTreesAlike$Merge" "total" "I" : Cond) ∈ lw_tbl := List.mem_of_getElem? (i := 261) (by decide +kernel)
theorem wf_X0_31 : (.fieldLink RX0 31 "TwoTreesAlike$Merge" "first" "I" : Cond) ∈ lw_tbl := List.mem_of_getElem? (i := 262) (by decide +kernel)
theorem wf_X0_34 : (.fieldLink RX0 34 "TwoTreesAlike$Merge" "clashKind" "[I" : Cond) ∈ lw_tbl := List.mem_of_getElem? (i := 263) (by decide +kernel)
theorem wf_X7_199 : (.fieldLink RX7 199 "TwoTreesAlike$Merge" "clashKind" "[I" : Cond) ∈ lw_tbl := List.mem_of_getElem? (i := 264) (by decide +kernel)
theorem wf_X0_38 : (.fieldLink RX0 38 "TwoTreesAlike$Merge" "clashThing" "[I" : Cond) ∈ lw_tbl := List.mem_of_getElem? (i := 265) (by decide +kernel)
theorem wf_X7_202 : (.fieldLink RX7 202 "TwoTreesAlike$Merge" "clashThing" "[I" : Cond) ∈ lw_tbl := List.mem_of_getElem? (i := 266) (by decide +kernel)
theorem wf_X0_41 : (.fieldLink RX0 41 "TwoTreesAlike$Merge" "clashes" "I" : Cond) ∈ lw_tbl := List.mem_of_getElem? (i := 267) (by decide +kernel)
theorem wf_X7_196 : (.fieldLink RX7 196 "TwoTreesAlike$Merge" "clashes" "I" : Cond) ∈ lw_tbl := List.mem_of_getElem? (i := 268) (by decide +kernel)
theorem wl_X7_42 : (.classLink RX7 42 RX2 : Cond) ∈ lw_tbl := List.mem_of_getElem? (i := 288) (by decide +kernel)
theorem wx_X2 : (.instantiable RX2 5 : Cond) ∈ lw_tbl := List.mem_of_getElem? (i := 289) (by decide +kernel)
theorem wn_X7_44 : (.methodLinkNest RX7 44 yX2_init RX7 : Cond) ∈ lw_tbl := List.mem_of_getElem? (i := 290) (by decide +kernel)
theorem wi_X2_init : (.instanceMethod yX2_init : Cond) ∈ lw_tbl := List.mem_of_getElem? (i := 291) (by decide +kernel)
theorem wc_X2_init : (.code yX2_init cX2_init 1 (none) : Cond) ∈ lw_tbl := List.mem_of_getElem? (i := 292) (by decide +kernel)
theorem wm_X2_3 : (.methodLink RX2 3 objectInit : Cond) ∈ lw_tbl := List.mem_of_getElem? (i := 293) (by decide +kernel)
theorem wf_X2_9 : (.fieldLink RX2 9 "TwoTreesAlike$Plan" "kind" "[I" : Cond) ∈ lw_tbl := List.mem_of_getElem? (i := 294) (by decide +kernel)
theorem wf_X2_15 : (.fieldLink RX2 15 "TwoTreesAlike$Plan" "thing" "[I" : Cond) ∈ lw_tbl := List.mem_of_getElem? (i := 295) (by decide +kernel)
theorem wf_X2_18 : (.fieldLink RX2 18 "TwoTreesAlike$Plan" "isAside" "[Z" : Cond) ∈ lw_tbl := List.mem_of_getElem? (i := 296) (by decide +kernel)
theorem wf_X2_22 : (.fieldLink RX2 22 "TwoTreesAlike$Plan" "deep" "[I" : Cond) ∈ lw_tbl := List.mem_of_getElem? (i := 297) (by decide +kernel)
theorem wf_X2_25 : (.fieldLink RX2 25 "TwoTreesAlike$Plan" "size" "I" : Cond) ∈ lw_tbl := List.mem_of_getElem? (i := 298) (by decide +kernel)
theorem wf_X7_269 : (.fieldLink RX7 269 "TwoTreesAlike$Plan" "size" "I" : Cond) ∈ lw_tbl := List.mem_of_getElem? (i := 299) (by decide +kernel)
theorem wl_X7_49 : (.classLink RX7 49 RX3 : Cond) ∈ lw_tbl := List.mem_of_getElem? (i := 311) (by decide +kernel)
theorem wo_X3 : (.arrayOver (.object RX3) : Cond) ∈ lw_tbl := List.mem_of_getElem? (i := 312) (by decide +kernel)
theorem wx_X3 : (.instantiable RX3 3 : Cond) ∈ lw_tbl := List.mem_of_getElem? (i := 313) (by decide +kernel)
theorem wn_X7_55 : (.methodLinkNest RX7 55 yX3_init RX7 : Cond) ∈ lw_tbl := List.mem_of_getElem? (i := 314) (by decide +kernel)
theorem wi_X3_init : (.instanceMethod yX3_init : Cond) ∈ lw_tbl := List.mem_of_getElem? (i := 315) (by decide +kernel)
theorem wc_X3_init : (.code yX3_init cX3_init 1 (none) : Cond) ∈ lw_tbl := List.mem_of_getElem? (i := 316) (by decide +kernel)
theorem wm_X3_3 : (.methodLink RX3 3 objectInit : Cond) ∈ lw_tbl := List.mem_of_getElem? (i := 317) (by decide +kernel)
theorem wf_X3_9 : (.fieldLink RX3 9 "TwoTreesAlike$Sheet" "sort" "I" : Cond) ∈ lw_tbl := List.mem_of_getElem? (i := 318) (by decide +kernel)
theorem wf_X7_253 : (.fieldLink RX7 253 "TwoTreesAlike$Sheet" "sort" "I" : Cond) ∈ lw_tbl := List.mem_of_getElem? (i := 319) (by decide +kernel)
theorem wf_X3_15 : (.fieldLink RX3 15 "TwoTreesAlike$Sheet" "size" "I" : Cond) ∈ lw_tbl := List.mem_of_getElem? (i := 320) (by decide +kernel)
theorem wf_X7_228 : (.fieldLink RX7 228 "TwoTreesAlike$Sheet" "size" "I" : Cond) ∈ lw_tbl := List.mem_of_getElem? (i := 321) (by decide +kernel)
theorem wf_X3_18 : (.fieldLink RX3 18 "TwoTreesAlike$Sheet" "items" "[I" : Cond) ∈ lw_tbl := List.mem_of_getElem? (i := 322) (by decide +kernel)
theorem wf_X7_256 : (.fieldLink RX7 256 "TwoTreesAlike$Sheet" "items" "[I" : Cond) ∈ lw_tbl := List.mem_of_getElem? (i := 323) (by decide +kernel)
theorem wf_X7_12 : (.fieldLink RX7 12 "TwoTreesAlike" "now" "LTwoTreesAlike$World;" : Cond) ∈ lw_tbl := List.mem_of_getElem? (i := 331) (by decide +kernel)
theorem wf_X7_16 : (.fieldLink RX7 16 "TwoTreesAlike" "kept" "LTwoTreesAlike$World;" : Cond) ∈ lw_tbl := List.mem_of_getElem? (i := 332) (by decide +kernel)
theorem wf_X7_19 : (.fieldLink RX7 19 "TwoTreesAlike" "thought" "LTwoTreesAlike$World;" : Cond) ∈ lw_tbl := List.mem_of_getElem? (i := 333) (by decide +kernel)
theorem wf_X7_22 : (.fieldLink RX7 22 "TwoTreesAlike" "isKept" "Z" : Cond) ∈ lw_tbl := List.mem_of_getElem? (i := 334) (by decide +kernel)
theorem wf_X7_29 : (.fieldLink RX7 29 "TwoTreesAlike" "tape" "LTwoTreesAlike$Tape;" : Cond) ∈ lw_tbl := List.mem_of_getElem? (i := 335) (by decide +kernel)
theorem wf_X7_38 : (.fieldLink RX7 38 "TwoTreesAlike" "merge" "LTwoTreesAlike$Merge;" : Cond) ∈ lw_tbl := List.mem_of_getElem? (i := 336) (by decide +kernel)
theorem wf_X7_45 : (.fieldLink RX7 45 "TwoTreesAlike" "plan" "LTwoTreesAlike$Plan;" : Cond) ∈ lw_tbl := List.mem_of_getElem? (i := 337) (by decide +kernel)
theorem wf_X7_51 : (.fieldLink RX7 51 "TwoTreesAlike" "sheets" "[LTwoTreesAlike$Sheet;" : Cond) ∈ lw_tbl := List.mem_of_getElem? (i := 338) (by decide +kernel)
theorem wm_L_13 : (.methodLink RL 13 yX7_make : Cond) ∈ lw_tbl := List.mem_of_getElem? (i := 356) (by decide +kernel)
theorem wi_X7_make : (.instanceMethod yX7_make : Cond) ∈ lw_tbl := List.mem_of_getElem? (i := 357) (by decide +kernel)
theorem ws_X7_make : (.selects RX7 yX7_make yX7_make : Cond) ∈ lw_tbl := List.mem_of_getElem? (i := 358) (by decide +kernel)
theorem wc_X7_make : (.code yX7_make cX7_make 5 (some FieldType.int) : Cond) ∈ lw_tbl := List.mem_of_getElem? (i := 359) (by decide +kernel)
theorem wm_X7_56 : (.methodLink RX7 56 yX6_create : Cond) ∈ lw_tbl := List.mem_of_getElem? (i := 360) (by decide +kernel)
theorem wi_X6_create : (.instanceMethod yX6_create : Cond) ∈ lw_tbl := List.mem_of_getElem? (i := 361) (by decide +kernel)
theorem ws_X6_create : (.selects RX6 yX6_create yX6_create : Cond) ∈ lw_tbl := List.mem_of_getElem? (i := 362) (by decide +kernel)
theorem wc_X6_create : (.code yX6_create cX6_create 8 (some FieldType.int) : Cond) ∈ lw_tbl := List.mem_of_getElem? (i := 363) (by decide +kernel)
theorem wn_X6_69 : (.methodLinkNest RX6 69 yX7_isSide RX7 : Cond) ∈ lw_tbl := List.mem_of_getElem? (i := 364) (by decide +kernel)
theorem wt_X7_isSide : (.static yX7_isSide : Cond) ∈ lw_tbl := List.mem_of_getElem? (i := 365) (by decide +kernel)
theorem wc_X7_isSide : (.code yX7_isSide cX7_isSide 1 (some FieldType.boolean) : Cond) ∈ lw_tbl := List.mem_of_getElem? (i := 366) (by decide +kernel)
theorem wm_X6_72 : (.methodLink RX6 72 yX6_isPlace : Cond) ∈ lw_tbl := List.mem_of_getElem? (i := 367) (by decide +kernel)
theorem wi_X6_isPlace : (.instanceMethod yX6_isPlace : Cond) ∈ lw_tbl := List.mem_of_getElem? (i := 368) (by decide +kernel)
theorem ws_X6_isPlace : (.selects RX6 yX6_isPlace yX6_isPlace : Cond) ∈ lw_tbl := List.mem_of_getElem? (i := 369) (by decide +kernel)
theorem wc_X6_isPlace : (.code yX6_isPlace cX6_isPlace 2 (some FieldType.boolean) : Cond) ∈ lw_tbl := List.mem_of_getElem? (i := 370) (by decide +kernel)
theorem wm_X6_62 : (.methodLink RX6 62 yX6_isThing : Cond) ∈ lw_tbl := List.mem_of_getElem? (i := 371) (by decide +kernel)
theorem wi_X6_isThing : (.instanceMethod yX6_isThing : Cond) ∈ lw_tbl := List.mem_of_getElem? (i := 372) (by decide +kernel)
theorem ws_X6_isThing : (.selects RX6 yX6_isThing yX6_isThing : Cond) ∈ lw_tbl := List.mem_of_getElem? (i := 373) (by decide +kernel)
theorem wc_X6_isThing : (.code yX6_isThing cX6_isThing 2 (some FieldType.boolean) : Cond) ∈ lw_tbl := List.mem_of_getElem? (i := 374) (by decide +kernel)
theorem wn_X6_75 : (.methodLinkNest RX6 75 yX7_isName RX7 : Cond) ∈ lw_tbl := List.mem_of_getElem? (i := 375) (by decide +kernel)
theorem wt_X7_isName : (.static yX7_isName : Cond) ∈ lw_tbl := List.mem_of_getElem? (i := 376) (by decide +kernel)
theorem wc_X7_isName : (.code yX7_isName cX7_isName 1 (some FieldType.boolean) : Cond) ∈ lw_tbl := List.mem_of_getElem? (i := 377) (by decide +kernel)
theorem wm_X6_78 : (.methodLink RX6 78 yX6_refuse : Cond) ∈ lw_tbl := List.mem_of_getElem? (i := 378) (by decide +kernel)
theorem wi_X6_refuse : (.instanceMethod yX6_refuse : Cond) ∈ lw_tbl := List.mem_of_getElem? (i := 380) (by decide +kernel)
theorem wc_X6_refuse : (.code yX6_refuse cX6_refuse 3 (some FieldType.int) : Cond) ∈ lw_tbl := List.mem_of_getElem? (i := 381) (by decide +kernel)
theorem wm_X6_82 : (.methodLink RX6 82 yX6_canHold : Cond) ∈ lw_tbl := List.mem_of_getElem? (i := 382) (by decide +kernel)
theorem wi_X6_canHold : (.instanceMethod yX6_canHold : Cond) ∈ lw_tbl := List.mem_of_getElem? (i := 384) (by decide +kernel)
theorem wc_X6_canHold : (.code yX6_canHold cX6_canHold 3 (some FieldType.boolean) : Cond) ∈ lw_tbl := List.mem_of_getElem? (i := 385) (by decide +kernel)
theorem wm_X6_66 : (.methodLink RX6 66 yX5_has : Cond) ∈ lw_tbl := List.mem_of_getElem? (i := 386) (by decide +kernel)
theorem wi_X5_has : (.instanceMethod yX5_has : Cond) ∈ lw_tbl := List.mem_of_getElem? (i := 387) (by decide +kernel)
theorem ws_X5_has : (.selects RX5 yX5_has yX5_has : Cond) ∈ lw_tbl := List.mem_of_getElem? (i := 388) (by decide +kernel)
theorem wc_X5_has : (.code yX5_has cX5_has 2 (some FieldType.boolean) : Cond) ∈ lw_tbl := List.mem_of_getElem? (i := 389) (by decide +kernel)
theorem wm_X6_86 : (.methodLink RX6 86 yX5_standing : Cond) ∈ lw_tbl := List.mem_of_getElem? (i := 390) (by decide +kernel)
theorem wi_X5_standing : (.instanceMethod yX5_standing : Cond) ∈ lw_tbl := List.mem_of_getElem? (i := 391) (by decide +kernel)
theorem ws_X5_standing : (.selects RX5 yX5_standing yX5_standing : Cond) ∈ lw_tbl := List.mem_of_getElem? (i := 392) (by decide +kernel)
theorem wc_X5_standing : (.code yX5_standing cX5_standing 4 (some FieldType.int) : Cond) ∈ lw_tbl := List.mem_of_getElem? (i := 393) (by decide +kernel)
theorem wm_X5_36 : (.methodLink RX5 36 yX5_isAt : Cond) ∈ lw_tbl := List.mem_of_getElem? (i := 394) (by decide +kernel)
theorem wi_X5_isAt : (.instanceMethod yX5_isAt : Cond) ∈ lw_tbl := List.mem_of_getElem? (i := 395) (by decide +kernel)
theorem ws_X5_isAt : (.selects RX5 yX5_isAt yX5_isAt : Cond) ∈ lw_tbl := List.mem_of_getElem? (i := 396) (by decide +kernel)
theorem wc_X5_isAt : (.code yX5_isAt cX5_isAt 4 (some FieldType.boolean) : Cond) ∈ lw_tbl := List.mem_of_getElem? (i := 397) (by decide +kernel)
theorem wm_X6_89 : (.methodLink RX6 89 ⟨"java/lang/Math", "max", "(II)I"⟩ : Cond) ∈ lw_tbl := List.mem_of_getElem? (i := 398) (by decide +kernel)
theorem wt_J_max : (.static ⟨"java/lang/Math", "max", "(II)I"⟩ : Cond) ∈ lw_tbl := List.mem_of_getElem? (i := 399) (by decide +kernel)
theorem wc_J_max : (.code ⟨"java/lang/Math", "max", "(II)I"⟩ prog_11_method_65_code 2 (some FieldType.int) : Cond) ∈ lw_tbl := List.mem_of_getElem? (i := 400) (by decide +kernel)
theorem wm_X6_94 : (.methodLink RX6 94 yX5_put : Cond) ∈ lw_tbl := List.mem_of_getElem? (i := 401) (by decide +kernel)
theorem wi_X5_put : (.instanceMethod yX5_put : Cond) ∈ lw_tbl := List.mem_of_getElem? (i := 402) (by decide +kernel)
theorem ws_X5_put : (.selects RX5 yX5_put yX5_put : Cond) ∈ lw_tbl := List.mem_of_getElem? (i := 403) (by decide +kernel)
theorem wc_X5_put : (.code yX5_put cX5_put 5 (none) : Cond) ∈ lw_tbl := List.mem_of_getElem? (i := 404) (by decide +kernel)
theorem wm_X6_98 : (.methodLink RX6 98 yX6_allow : Cond) ∈ lw_tbl := List.mem_of_getElem? (i := 405) (by decide +kernel)
theorem wi_X6_allow : (.instanceMethod yX6_allow : Cond) ∈ lw_tbl := List.mem_of_getElem? (i := 407) (by decide +kernel)
theorem wc_X6_allow : (.code yX6_allow cX6_allow 2 (some FieldType.int) : Cond) ∈ lw_tbl := List.mem_of_getElem? (i := 408) (by decide +kernel)
theorem wm_L_18 : (.methodLink RL 18 yX7_write : Cond) ∈ lw_tbl := List.mem_of_getElem? (i := 409) (by decide +kernel)
theorem wi_X7_write : (.instanceMethod yX7_write : Cond) ∈ lw_tbl := List.mem_of_getElem? (i := 410) (by decide +kernel)
theorem ws_X7_write : (.selects RX7 yX7_write yX7_write : Cond) ∈ lw_tbl := List.mem_of_getElem? (i := 411) (by decide +kernel)
theorem wc_X7_write : (.code yX7_write cX7_write 4 (some FieldType.int) : Cond) ∈ lw_tbl := List.mem_of_getElem? (i := 412) (by decide +kernel)
theorem wm_X7_60 : (.methodLink RX7 60 yX6_rewrite : Cond) ∈ lw_tbl := List.mem_of_getElem? (i := 413) (by decide +kernel)
theorem wi_X6_rewrite : (.instanceMethod yX6_rewrite : Cond) ∈ lw_tbl := List.mem_of_getElem? (i := 414) (by decide +kernel)
theorem ws_X6_rewrite : (.selects RX6 yX6_rewrite yX6_rewrite : Cond) ∈ lw_tbl := List.mem_of_getElem? (i := 415) (by decide +kernel)
theorem wc_X6_rewrite : (.code yX6_rewrite cX6_rewrite 6 (some FieldType.int) : Cond) ∈ lw_tbl := List.mem_of_getElem? (i := 416) (by decide +kernel)
theorem wm_L_23 : (.methodLink RL 23 yX7_move : Cond) ∈ lw_tbl := List.mem_of_getElem? (i := 417) (by decide +kernel)
theorem wi_X7_move : (.instanceMethod yX7_move : Cond) ∈ lw_tbl := List.mem_of_getElem? (i := 418) (by decide +kernel)
theorem ws_X7_move : (.selects RX7 yX7_move yX7_move : Cond) ∈ lw_tbl := List.mem_of_getElem? (i := 419) (by decide +kernel)
theorem wc_X7_move : (.code yX7_move cX7_move 5 (some FieldType.int) : Cond) ∈ lw_tbl := List.mem_of_getElem? (i := 420) (by decide +kernel)
theorem wm_X7_64 : (.methodLink RX7 64 yX6_carry : Cond) ∈ lw_tbl := List.mem_of_getElem? (i := 421) (by decide +kernel)
theorem wi_X6_carry : (.instanceMethod yX6_carry : Cond) ∈ lw_tbl := List.mem_of_getElem? (i := 422) (by decide +kernel)
theorem ws_X6_carry : (.selects RX6 yX6_carry yX6_carry : Cond) ∈ lw_tbl := List.mem_of_getElem? (i := 423) (by decide +kernel)
theorem wc_X6_carry : (.code yX6_carry cX6_carry 8 (some FieldType.int) : Cond) ∈ lw_tbl := List.mem_of_getElem? (i := 424) (by decide +kernel)
theorem wm_X6_105 : (.methodLink RX6 105 yX5_stepsUp : Cond) ∈ lw_tbl := List.mem_of_getElem? (i := 425) (by decide +kernel)
theorem wi_X5_stepsUp : (.instanceMethod yX5_stepsUp : Cond) ∈ lw_tbl := List.mem_of_getElem? (i := 426) (by decide +kernel)
theorem ws_X5_stepsUp : (.selects RX5 yX5_stepsUp yX5_stepsUp : Cond) ∈ lw_tbl := List.mem_of_getElem? (i := 427) (by decide +kernel)
theorem wc_X5_stepsUp : (.code yX5_stepsUp cX5_stepsUp 5 (some FieldType.int) : Cond) ∈ lw_tbl := List.mem_of_getElem? (i := 428) (by decide +kernel)
theorem wm_L_27 : (.methodLink RL 27 yX7_remove : Cond) ∈ lw_tbl := List.mem_of_getElem? (i := 429) (by decide +kernel)
theorem wi_X7_remove : (.instanceMethod yX7_remove : Cond) ∈ lw_tbl := List.mem_of_getElem? (i := 430) (by decide +kernel)
theorem ws_X7_remove : (.selects RX7 yX7_remove yX7_remove : Cond) ∈ lw_tbl := List.mem_of_getElem? (i := 431) (by decide +kernel)
theorem wc_X7_remove : (.code yX7_remove cX7_remove 3 (some FieldType.int) : Cond) ∈ lw_tbl := List.mem_of_getElem? (i := 432) (by decide +kernel)
theorem wm_X7_67 : (.methodLink RX7 67 yX6_erase : Cond) ∈ lw_tbl := List.mem_of_getElem? (i := 433) (by decide +kernel)
theorem wi_X6_erase : (.instanceMethod yX6_erase : Cond) ∈ lw_tbl := List.mem_of_getElem? (i := 434) (by decide +kernel)
theorem ws_X6_erase : (.selects RX6 yX6_erase yX6_erase : Cond) ∈ lw_tbl := List.mem_of_getElem? (i := 435) (by decide +kernel)
theorem wc_X6_erase : (.code yX6_erase cX6_erase 6 (some FieldType.int) : Cond) ∈ lw_tbl := List.mem_of_getElem? (i := 436) (by decide +kernel)
theorem wm_X6_114 : (.methodLink RX6 114 yX5_isInner : Cond) ∈ lw_tbl := List.mem_of_getElem? (i := 437) (by decide +kernel)
theorem wi_X5_isInner : (.instanceMethod yX5_isInner : Cond) ∈ lw_tbl := List.mem_of_getElem? (i := 438) (by decide +kernel)
theorem ws_X5_isInner : (.selects RX5 yX5_isInner yX5_isInner : Cond) ∈ lw_tbl := List.mem_of_getElem? (i := 439) (by decide +kernel)
theorem wc_X5_isInner : (.code yX5_isInner cX5_isInner 3 (some FieldType.boolean) : Cond) ∈ lw_tbl := List.mem_of_getElem? (i := 440) (by decide +kernel)
theorem wm_X5_40 : (.methodLink RX5 40 yX5_has : Cond) ∈ lw_tbl := List.mem_of_getElem? (i := 441) (by decide +kernel)
theorem wm_X5_44 : (.methodLink RX5 44 yX5_stepsUp : Cond) ∈ lw_tbl := List.mem_of_getElem? (i := 442) (by decide +kernel)
theorem wm_X6_118 : (.methodLink RX6 118 yX5_takeOut : Cond) ∈ lw_tbl := List.mem_of_getElem? (i := 443) (by decide +kernel)
theorem wm_L_32 : (.methodLink RL 32 yX7_told : Cond) ∈ lw_tbl := List.mem_of_getElem? (i := 444) (by decide +kernel)
theorem wi_X7_told : (.instanceMethod yX7_told : Cond) ∈ lw_tbl := List.mem_of_getElem? (i := 445) (by decide +kernel)
theorem ws_X7_told : (.selects RX7 yX7_told yX7_told : Cond) ∈ lw_tbl := List.mem_of_getElem? (i := 446) (by decide +kernel)
theorem wc_X7_told : (.code yX7_told cX7_told 5 (some FieldType.int) : Cond) ∈ lw_tbl := List.mem_of_getElem? (i := 447) (by decide +kernel)
theorem wm_X7_71 : (.methodLink RX7 71 yX7_isTree : Cond) ∈ lw_tbl := List.mem_of_getElem? (i := 448) (by decide +kernel)
theorem wt_X7_isTree : (.static yX7_isTree : Cond) ∈ lw_tbl := List.mem_of_getElem? (i := 449) (by decide +kernel)
theorem wc_X7_isTree : (.code yX7_isTree cX7_isTree 1 (some FieldType.boolean) : Cond) ∈ lw_tbl := List.mem_of_getElem? (i := 450) (by decide +kernel)
theorem wm_X7_75 : (.methodLink RX7 75 yX6_isThing : Cond) ∈ lw_tbl := List.mem_of_getElem? (i := 451) (by decide +kernel)
theorem wm_X7_82 : (.methodLink RX7 82 yX5_has : Cond) ∈ lw_tbl := List.mem_of_getElem? (i := 452) (by decide +kernel)
theorem wm_X7_87 : (.methodLink RX7 87 yX7_bit : Cond) ∈ lw_tbl := List.mem_of_getElem? (i := 453) (by decide +kernel)
theorem wt_X7_bit : (.static yX7_bit : Cond) ∈ lw_tbl := List.mem_of_getElem? (i := 454) (by decide +kernel)
theorem wc_X7_bit : (.code yX7_bit cX7_bit 1 (some FieldType.int) : Cond) ∈ lw_tbl := List.mem_of_getElem? (i := 455) (by decide +kernel)
theorem wm_X7_101 : (.methodLink RX7 101 yX5_innerOnes : Cond) ∈ lw_tbl := List.mem_of_getElem? (i := 456) (by decide +kernel)
theorem wi_X5_innerOnes : (.instanceMethod yX5_innerOnes : Cond) ∈ lw_tbl := List.mem_of_getElem? (i := 457) (by decide +kernel)
theorem ws_X5_innerOnes : (.selects RX5 yX5_innerOnes yX5_innerOnes : Cond) ∈ lw_tbl := List.mem_of_getElem? (i := 458) (by decide +kernel)
theorem wc_X5_innerOnes : (.code yX5_innerOnes cX5_innerOnes 4 (some FieldType.int) : Cond) ∈ lw_tbl := List.mem_of_getElem? (i := 459) (by decide +kernel)
theorem wm_X5_48 : (.methodLink RX5 48 yX5_isInner : Cond) ∈ lw_tbl := List.mem_of_getElem? (i := 460) (by decide +kernel)
theorem wm_X7_105 : (.methodLink RX7 105 yX5_depth : Cond) ∈ lw_tbl := List.mem_of_getElem? (i := 461) (by decide +kernel)
theorem wi_X5_depth : (.instanceMethod yX5_depth : Cond) ∈ lw_tbl := List.mem_of_getElem? (i := 462) (by decide +kernel)
theorem ws_X5_depth : (.selects RX5 yX5_depth yX5_depth : Cond) ∈ lw_tbl := List.mem_of_getElem? (i := 463) (by decide +kernel)
theorem wc_X5_depth : (.code yX5_depth cX5_depth 4 (some FieldType.int) : Cond) ∈ lw_tbl := List.mem_of_getElem? (i := 464) (by decide +kernel)
theorem wm_X7_108 : (.methodLink RX7 108 yX6_isIgnoredThere : Cond) ∈ lw_tbl := List.mem_of_getElem? (i := 465) (by decide +kernel)
theorem wi_X6_isIgnoredThere : (.instanceMethod yX6_isIgnoredThere : Cond) ∈ lw_tbl := List.mem_of_getElem? (i := 466) (by decide +kernel)
theorem ws_X6_isIgnoredThere : (.selects RX6 yX6_isIgnoredThere yX6_isIgnoredThere : Cond) ∈ lw_tbl := List.mem_of_getElem? (i := 467) (by decide +kernel)
theorem wc_X6_isIgnoredThere : (.code yX6_isIgnoredThere cX6_isIgnoredThere 9 (some FieldType.boolean) : Cond) ∈ lw_tbl := List.mem_of_getElem? (i := 468) (by decide +kernel)
theorem wm_X6_122 : (.methodLink RX6 122 yX5_pathOf : Cond) ∈ lw_tbl := List.mem_of_getElem? (i := 469) (by decide +kernel)
theorem wi_X5_pathOf : (.instanceMethod yX5_pathOf : Cond) ∈ lw_tbl := List.mem_of_getElem? (i := 470) (by decide +kernel)
theorem ws_X5_pathOf : (.selects RX5 yX5_pathOf yX5_pathOf : Cond) ∈ lw_tbl := List.mem_of_getElem? (i := 471) (by decide +kernel)
theorem wc_X5_pathOf : (.code yX5_pathOf cX5_pathOf 6 (some FieldType.int) : Cond) ∈ lw_tbl := List.mem_of_getElem? (i := 472) (by decide +kernel)
theorem wm_X5_52 : (.methodLink RX5 52 yX5_depth : Cond) ∈ lw_tbl := List.mem_of_getElem? (i := 473) (by decide +kernel)
theorem wm_X6_126 : (.methodLink RX6 126 yX1_longestFit : Cond) ∈ lw_tbl := List.mem_of_getElem? (i := 474) (by decide +kernel)
theorem wi_X1_longestFit : (.instanceMethod yX1_longestFit : Cond) ∈ lw_tbl := List.mem_of_getElem? (i := 475) (by decide +kernel)
theorem ws_X1_longestFit : (.selects RX1 yX1_longestFit yX1_longestFit : Cond) ∈ lw_tbl := List.mem_of_getElem? (i := 476) (by decide +kernel)
theorem wc_X1_longestFit : (.code yX1_longestFit cX1_longestFit 6 (some FieldType.int) : Cond) ∈ lw_tbl := List.mem_of_getElem? (i := 477) (by decide +kernel)
theorem wm_X1_15 : (.methodLink RX1 15 yX1_passMany : Cond) ∈ lw_tbl := List.mem_of_getElem? (i := 478) (by decide +kernel)
theorem wi_X1_passMany : (.instanceMethod yX1_passMany : Cond) ∈ lw_tbl := List.mem_of_getElem? (i := 480) (by decide +kernel)
theorem wc_X1_passMany : (.code yX1_passMany cX1_passMany 4 (some FieldType.int) : Cond) ∈ lw_tbl := List.mem_of_getElem? (i := 481) (by decide +kernel)
theorem wm_X1_19 : (.methodLink RX1 19 yX1_afterName : Cond) ∈ lw_tbl := List.mem_of_getElem? (i := 482) (by decide +kernel)
theorem wi_X1_afterName : (.instanceMethod yX1_afterName : Cond) ∈ lw_tbl := List.mem_of_getElem? (i := 484) (by decide +kernel)
theorem wc_X1_afterName : (.code yX1_afterName cX1_afterName 5 (some FieldType.int) : Cond) ∈ lw_tbl := List.mem_of_getElem? (i := 485) (by decide +kernel)
theorem wm_X7_116 : (.methodLink RX7 116 yX0_compare : Cond) ∈ lw_tbl := List.mem_of_getElem? (i := 486) (by decide +kernel)
theorem wi_X0_compare : (.instanceMethod yX0_compare : Cond) ∈ lw_tbl := List.mem_of_getElem? (i := 487) (by decide +kernel)
theorem ws_X0_compare : (.selects RX0 yX0_compare yX0_compare : Cond) ∈ lw_tbl := List.mem_of_getElem? (i := 488) (by decide +kernel)
theorem wc_X0_compare : (.code yX0_compare cX0_compare 3 (none) : Cond) ∈ lw_tbl := List.mem_of_getElem? (i := 489) (by decide +kernel)
theorem wm_X0_48 : (.methodLink RX0 48 yX6_isIgnoredThere : Cond) ∈ lw_tbl := List.mem_of_getElem? (i := 490) (by decide +kernel)
theorem wm_X0_54 : (.methodLink RX0 54 yX0_ignoreWithin : Cond) ∈ lw_tbl := List.mem_of_getElem? (i := 491) (by decide +kernel)
theorem wi_X0_ignoreWithin : (.instanceMethod yX0_ignoreWithin : Cond) ∈ lw_tbl := List.mem_of_getElem? (i := 493) (by decide +kernel)
theorem wc_X0_ignoreWithin : (.code yX0_ignoreWithin cX0_ignoreWithin 4 (none) : Cond) ∈ lw_tbl := List.mem_of_getElem? (i := 494) (by decide +kernel)
theorem wm_X0_65 : (.methodLink RX0 65 yX0_standsInIgnored : Cond) ∈ lw_tbl := List.mem_of_getElem? (i := 495) (by decide +kernel)
theorem wi_X0_standsInIgnored : (.instanceMethod yX0_standsInIgnored : Cond) ∈ lw_tbl := List.mem_of_getElem? (i := 497) (by decide +kernel)
theorem wc_X0_standsInIgnored : (.code yX0_standsInIgnored cX0_standsInIgnored 4 (some FieldType.boolean) : Cond) ∈ lw_tbl := List.mem_of_getElem? (i := 498) (by decide +kernel)
theorem wm_X0_61 : (.methodLink RX0 61 yX0_changeOf : Cond) ∈ lw_tbl := List.mem_of_getElem? (i := 499) (by decide +kernel)
theorem wi_X0_changeOf : (.instanceMethod yX0_changeOf : Cond) ∈ lw_tbl := List.mem_of_getElem? (i := 501) (by decide +kernel)
theorem wc_X0_changeOf : (.code yX0_changeOf cX0_changeOf 5 (some FieldType.int) : Cond) ∈ lw_tbl := List.mem_of_getElem? (i := 502) (by decide +kernel)
theorem wm_X0_72 : (.methodLink RX0 72 yX5_has : Cond) ∈ lw_tbl := List.mem_of_getElem? (i := 503) (by decide +kernel)
theorem wm_X0_75 : (.methodLink RX0 75 yX5_placesAsIn : Cond) ∈ lw_tbl := List.mem_of_getElem? (i := 504) (by decide +kernel)
theorem wi_X5_placesAsIn : (.instanceMethod yX5_placesAsIn : Cond) ∈ lw_tbl := List.mem_of_getElem? (i := 505) (by decide +kernel)
theorem ws_X5_placesAsIn : (.selects RX5 yX5_placesAsIn yX5_placesAsIn : Cond) ∈ lw_tbl := List.mem_of_getElem? (i := 506) (by decide +kernel)
theorem wc_X5_placesAsIn : (.code yX5_placesAsIn cX5_placesAsIn 3 (some FieldType.boolean) : Cond) ∈ lw_tbl := List.mem_of_getElem? (i := 507) (by decide +kernel)
theorem wm_X0_79 : (.methodLink RX0 79 yX5_holdsAsIn : Cond) ∈ lw_tbl := List.mem_of_getElem? (i := 508) (by decide +kernel)
theorem wi_X5_holdsAsIn : (.instanceMethod yX5_holdsAsIn : Cond) ∈ lw_tbl := List.mem_of_getElem? (i := 509) (by decide +kernel)
theorem ws_X5_holdsAsIn : (.selects RX5 yX5_holdsAsIn yX5_holdsAsIn : Cond) ∈ lw_tbl := List.mem_of_getElem? (i := 510) (by decide +kernel)
theorem wc_X5_holdsAsIn : (.code yX5_holdsAsIn cX5_holdsAsIn 3 (some FieldType.boolean) : Cond) ∈ lw_tbl := List.mem_of_getElem? (i := 511) (by decide +kernel)
theorem wm_L_36 : (.methodLink RL 36 yX7_find : Cond) ∈ lw_tbl := List.mem_of_getElem? (i := 512) (by decide +kernel)
theorem wi_X7_find : (.instanceMethod yX7_find : Cond) ∈ lw_tbl := List.mem_of_getElem? (i := 513) (by decide +kernel)
theorem ws_X7_find : (.selects RX7 yX7_find yX7_find : Cond) ∈ lw_tbl := List.mem_of_getElem? (i := 514) (by decide +kernel)
theorem wc_X7_find : (.code yX7_find cX7_find 4 (some FieldType.int) : Cond) ∈ lw_tbl := List.mem_of_getElem? (i := 515) (by decide +kernel)
theorem wm_X7_126 : (.methodLink RX7 126 yX6_isPlace : Cond) ∈ lw_tbl := List.mem_of_getElem? (i := 516) (by decide +kernel)
theorem wm_X7_129 : (.methodLink RX7 129 yX5_standing : Cond) ∈ lw_tbl := List.mem_of_getElem? (i := 517) (by decide +kernel)
theorem wm_L_40 : (.methodLink RL 40 yX7_taken : Cond) ∈ lw_tbl := List.mem_of_getElem? (i := 518) (by decide +kernel)
theorem wi_X7_taken : (.instanceMethod yX7_taken : Cond) ∈ lw_tbl := List.mem_of_getElem? (i := 519) (by decide +kernel)
theorem ws_X7_taken : (.selects RX7 yX7_taken yX7_taken : Cond) ∈ lw_tbl := List.mem_of_getElem? (i := 520) (by decide +kernel)
theorem wc_X7_taken : (.code yX7_taken cX7_taken 4 (some FieldType.int) : Cond) ∈ lw_tbl := List.mem_of_getElem? (i := 521) (by decide +kernel)
theorem wm_L_44 : (.methodLink RL 44 yX7_latest : Cond) ∈ lw_tbl := List.mem_of_getElem? (i := 522) (by decide +kernel)
theorem wi_X7_latest : (.instanceMethod yX7_latest : Cond) ∈ lw_tbl := List.mem_of_getElem? (i := 523) (by decide +kernel)
theorem ws_X7_latest : (.selects RX7 yX7_latest yX7_latest : Cond) ∈ lw_tbl := List.mem_of_getElem? (i := 524) (by decide +kernel)
theorem wc_X7_latest : (.code yX7_latest cX7_latest 2 (some FieldType.int) : Cond) ∈ lw_tbl := List.mem_of_getElem? (i := 525) (by decide +kernel)
theorem wm_L_49 : (.methodLink RL 49 yX7_feed : Cond) ∈ lw_tbl := List.mem_of_getElem? (i := 526) (by decide +kernel)
theorem wi_X7_feed : (.instanceMethod yX7_feed : Cond) ∈ lw_tbl := List.mem_of_getElem? (i := 527) (by decide +kernel)
theorem ws_X7_feed : (.selects RX7 yX7_feed yX7_feed : Cond) ∈ lw_tbl := List.mem_of_getElem? (i := 528) (by decide +kernel)
theorem wc_X7_feed : (.code yX7_feed cX7_feed 7 (some FieldType.int) : Cond) ∈ lw_tbl := List.mem_of_getElem? (i := 529) (by decide +kernel)
theorem wm_X7_142 : (.methodLink RX7 142 yX7_isByte : Cond) ∈ lw_tbl := List.mem_of_getElem? (i := 530) (by decide +kernel)
theorem wt_X7_isByte : (.static yX7_isByte : Cond) ∈ lw_tbl := List.mem_of_getElem? (i := 531) (by decide +kernel)
theorem wc_X7_isByte : (.code yX7_isByte cX7_isByte 1 (some FieldType.boolean) : Cond) ∈ lw_tbl := List.mem_of_getElem? (i := 532) (by decide +kernel)
theorem wm_X7_148 : (.methodLink RX7 148 yX4_append : Cond) ∈ lw_tbl := List.mem_of_getElem? (i := 533) (by decide +kernel)
theorem wi_X4_append : (.instanceMethod yX4_append : Cond) ∈ lw_tbl := List.mem_of_getElem? (i := 534) (by decide +kernel)
theorem ws_X4_append : (.selects RX4 yX4_append yX4_append : Cond) ∈ lw_tbl := List.mem_of_getElem? (i := 535) (by decide +kernel)
theorem wc_X4_append : (.code yX4_append cX4_append 2 (none) : Cond) ∈ lw_tbl := List.mem_of_getElem? (i := 536) (by decide +kernel)
theorem wm_L_54 : (.methodLink RL 54 yX7_pattern : Cond) ∈ lw_tbl := List.mem_of_getElem? (i := 537) (by decide +kernel)
theorem wi_X7_pattern : (.instanceMethod yX7_pattern : Cond) ∈ lw_tbl := List.mem_of_getElem? (i := 538) (by decide +kernel)
theorem ws_X7_pattern : (.selects RX7 yX7_pattern yX7_pattern : Cond) ∈ lw_tbl := List.mem_of_getElem? (i := 539) (by decide +kernel)
theorem wc_X7_pattern : (.code yX7_pattern cX7_pattern 2 (some FieldType.int) : Cond) ∈ lw_tbl := List.mem_of_getElem? (i := 540) (by decide +kernel)
theorem wm_X7_159 : (.methodLink RX7 159 yX4_read : Cond) ∈ lw_tbl := List.mem_of_getElem? (i := 541) (by decide +kernel)
theorem wi_X4_read : (.instanceMethod yX4_read : Cond) ∈ lw_tbl := List.mem_of_getElem? (i := 542) (by decide +kernel)
theorem ws_X4_read : (.selects RX4 yX4_read yX4_read : Cond) ∈ lw_tbl := List.mem_of_getElem? (i := 543) (by decide +kernel)
theorem wc_X4_read : (.code yX4_read cX4_read 3 (some FieldType.int) : Cond) ∈ lw_tbl := List.mem_of_getElem? (i := 544) (by decide +kernel)
theorem wm_X4_25 : (.methodLink RX4 25 yX4_next : Cond) ∈ lw_tbl := List.mem_of_getElem? (i := 545) (by decide +kernel)
theorem wi_X4_next : (.instanceMethod yX4_next : Cond) ∈ lw_tbl := List.mem_of_getElem? (i := 547) (by decide +kernel)
theorem wc_X4_next : (.code yX4_next cX4_next 1 (none) : Cond) ∈ lw_tbl := List.mem_of_getElem? (i := 548) (by decide +kernel)
theorem wm_X4_44 : (.methodLink RX4 44 yX4_isDigit : Cond) ∈ lw_tbl := List.mem_of_getElem? (i := 549) (by decide +kernel)
theorem wi_X4_isDigit : (.instanceMethod yX4_isDigit : Cond) ∈ lw_tbl := List.mem_of_getElem? (i := 551) (by decide +kernel)
theorem wc_X4_isDigit : (.code yX4_isDigit cX4_isDigit 2 (some FieldType.boolean) : Cond) ∈ lw_tbl := List.mem_of_getElem? (i := 552) (by decide +kernel)
theorem wm_X4_48 : (.methodLink RX4 48 yX4_readNumber : Cond) ∈ lw_tbl := List.mem_of_getElem? (i := 553) (by decide +kernel)
theorem wi_X4_readNumber : (.instanceMethod yX4_readNumber : Cond) ∈ lw_tbl := List.mem_of_getElem? (i := 555) (by decide +kernel)
theorem wc_X4_readNumber : (.code yX4_readNumber cX4_readNumber 1 (none) : Cond) ∈ lw_tbl := List.mem_of_getElem? (i := 556) (by decide +kernel)
theorem wm_X4_51 : (.methodLink RX4 51 yX4_readSign : Cond) ∈ lw_tbl := List.mem_of_getElem? (i := 557) (by decide +kernel)
theorem wi_X4_readSign : (.instanceMethod yX4_readSign : Cond) ∈ lw_tbl := List.mem_of_getElem? (i := 559) (by decide +kernel)
theorem wc_X4_readSign : (.code yX4_readSign cX4_readSign 2 (none) : Cond) ∈ lw_tbl := List.mem_of_getElem? (i := 560) (by decide +kernel)
theorem wm_L_59 : (.methodLink RL 59 yX7_drop : Cond) ∈ lw_tbl := List.mem_of_getElem? (i := 561) (by decide +kernel)
theorem wi_X7_drop : (.instanceMethod yX7_drop : Cond) ∈ lw_tbl := List.mem_of_getElem? (i := 562) (by decide +kernel)
theorem ws_X7_drop : (.selects RX7 yX7_drop yX7_drop : Cond) ∈ lw_tbl := List.mem_of_getElem? (i := 563) (by decide +kernel)
theorem wc_X7_drop : (.code yX7_drop cX7_drop 1 (some FieldType.int) : Cond) ∈ lw_tbl := List.mem_of_getElem? (i := 564) (by decide +kernel)
theorem wm_L_63 : (.methodLink RL 63 yX7_matches : Cond) ∈ lw_tbl := List.mem_of_getElem? (i := 565) (by decide +kernel)
theorem wi_X7_matches : (.instanceMethod yX7_matches : Cond) ∈ lw_tbl := List.mem_of_getElem? (i := 566) (by decide +kernel)
theorem ws_X7_matches : (.selects RX7 yX7_matches yX7_matches : Cond) ∈ lw_tbl := List.mem_of_getElem? (i := 567) (by decide +kernel)
theorem wc_X7_matches : (.code yX7_matches cX7_matches 5 (some FieldType.int) : Cond) ∈ lw_tbl := List.mem_of_getElem? (i := 568) (by decide +kernel)
theorem wm_X7_166 : (.methodLink RX7 166 yX5_pathOf : Cond) ∈ lw_tbl := List.mem_of_getElem? (i := 569) (by decide +kernel)
theorem wm_X7_170 : (.methodLink RX7 170 yX1_longestFit : Cond) ∈ lw_tbl := List.mem_of_getElem? (i := 570) (by decide +kernel)
theorem wm_L_67 : (.methodLink RL 67 yX7_prefer : Cond) ∈ lw_tbl := List.mem_of_getElem? (i := 571) (by decide +kernel)
theorem wi_X7_prefer : (.instanceMethod yX7_prefer : Cond) ∈ lw_tbl := List.mem_of_getElem? (i := 572) (by decide +kernel)
theorem ws_X7_prefer : (.selects RX7 yX7_prefer yX7_prefer : Cond) ∈ lw_tbl := List.mem_of_getElem? (i := 573) (by decide +kernel)
theorem wc_X7_prefer : (.code yX7_prefer cX7_prefer 3 (some FieldType.int) : Cond) ∈ lw_tbl := List.mem_of_getElem? (i := 574) (by decide +kernel)
theorem wm_X7_176 : (.methodLink RX7 176 yX7_isSide : Cond) ∈ lw_tbl := List.mem_of_getElem? (i := 575) (by decide +kernel)
theorem wm_L_71 : (.methodLink RL 71 yX7_sync : Cond) ∈ lw_tbl := List.mem_of_getElem? (i := 576) (by decide +kernel)
theorem wi_X7_sync : (.instanceMethod yX7_sync : Cond) ∈ lw_tbl := List.mem_of_getElem? (i := 577) (by decide +kernel)
theorem ws_X7_sync : (.selects RX7 yX7_sync yX7_sync : Cond) ∈ lw_tbl := List.mem_of_getElem? (i := 578) (by decide +kernel)
theorem wc_X7_sync : (.code yX7_sync cX7_sync 2 (some FieldType.int) : Cond) ∈ lw_tbl := List.mem_of_getElem? (i := 579) (by decide +kernel)
theorem wm_X7_182 : (.methodLink RX7 182 yX0_settle : Cond) ∈ lw_tbl := List.mem_of_getElem? (i := 580) (by decide +kernel)
theorem wi_X0_settle : (.instanceMethod yX0_settle : Cond) ∈ lw_tbl := List.mem_of_getElem? (i := 581) (by decide +kernel)
theorem ws_X0_settle : (.selects RX0 yX0_settle yX0_settle : Cond) ∈ lw_tbl := List.mem_of_getElem? (i := 582) (by decide +kernel)
theorem wc_X0_settle : (.code yX0_settle cX0_settle 3 (none) : Cond) ∈ lw_tbl := List.mem_of_getElem? (i := 583) (by decide +kernel)
theorem wm_X0_82 : (.methodLink RX0 82 yX0_compare : Cond) ∈ lw_tbl := List.mem_of_getElem? (i := 584) (by decide +kernel)
theorem wm_X0_87 : (.methodLink RX0 87 yX5_clear : Cond) ∈ lw_tbl := List.mem_of_getElem? (i := 585) (by decide +kernel)
theorem wm_X0_90 : (.methodLink RX0 90 yX0_decideWho : Cond) ∈ lw_tbl := List.mem_of_getElem? (i := 586) (by decide +kernel)
theorem wi_X0_decideWho : (.instanceMethod yX0_decideWho : Cond) ∈ lw_tbl := List.mem_of_getElem? (i := 588) (by decide +kernel)
theorem wc_X0_decideWho : (.code yX0_decideWho cX0_decideWho 3 (none) : Cond) ∈ lw_tbl := List.mem_of_getElem? (i := 589) (by decide +kernel)
theorem wm_X0_105 : (.methodLink RX0 105 yX0_isKeptOn : Cond) ∈ lw_tbl := List.mem_of_getElem? (i := 590) (by decide +kernel)
theorem wi_X0_isKeptOn : (.instanceMethod yX0_isKeptOn : Cond) ∈ lw_tbl := List.mem_of_getElem? (i := 592) (by decide +kernel)
theorem wc_X0_isKeptOn : (.code yX0_isKeptOn cX0_isKeptOn 6 (some FieldType.boolean) : Cond) ∈ lw_tbl := List.mem_of_getElem? (i := 593) (by decide +kernel)
theorem wm_X0_116 : (.methodLink RX0 116 yX5_isInner : Cond) ∈ lw_tbl := List.mem_of_getElem? (i := 594) (by decide +kernel)
theorem wm_X0_108 : (.methodLink RX0 108 yX0_addClash : Cond) ∈ lw_tbl := List.mem_of_getElem? (i := 595) (by decide +kernel)
theorem wi_X0_addClash : (.instanceMethod yX0_addClash : Cond) ∈ lw_tbl := List.mem_of_getElem? (i := 597) (by decide +kernel)
theorem wc_X0_addClash : (.code yX0_addClash cX0_addClash 3 (none) : Cond) ∈ lw_tbl := List.mem_of_getElem? (i := 598) (by decide +kernel)
theorem wm_X0_112 : (.methodLink RX0 112 yX5_put : Cond) ∈ lw_tbl := List.mem_of_getElem? (i := 599) (by decide +kernel)
theorem wm_X0_93 : (.methodLink RX0 93 yX0_decidePlaces : Cond) ∈ lw_tbl := List.mem_of_getElem? (i := 600) (by decide +kernel)
theorem wi_X0_decidePlaces : (.instanceMethod yX0_decidePlaces : Cond) ∈ lw_tbl := List.mem_of_getElem? (i := 602) (by decide +kernel)
theorem wc_X0_decidePlaces : (.code yX0_decidePlaces cX0_decidePlaces 3 (none) : Cond) ∈ lw_tbl := List.mem_of_getElem? (i := 603) (by decide +kernel)
theorem wm_X0_119 : (.methodLink RX0 119 yX0_decider : Cond) ∈ lw_tbl := List.mem_of_getElem? (i := 604) (by decide +kernel)
theorem wi_X0_decider : (.instanceMethod yX0_decider : Cond) ∈ lw_tbl := List.mem_of_getElem? (i := 606) (by decide +kernel)
theorem wc_X0_decider : (.code yX0_decider cX0_decider 7 (some (FieldType.object "TwoTreesAlike$Tree")) : Cond) ∈ lw_tbl := List.mem_of_getElem? (i := 607) (by decide +kernel)
theorem wm_X0_126 : (.methodLink RX0 126 yX0_bothDid : Cond) ∈ lw_tbl := List.mem_of_getElem? (i := 608) (by decide +kernel)
theorem wi_X0_bothDid : (.instanceMethod yX0_bothDid : Cond) ∈ lw_tbl := List.mem_of_getElem? (i := 610) (by decide +kernel)
theorem wc_X0_bothDid : (.code yX0_bothDid cX0_bothDid 3 (some FieldType.boolean) : Cond) ∈ lw_tbl := List.mem_of_getElem? (i := 611) (by decide +kernel)
theorem wm_X0_96 : (.methodLink RX0 96 yX0_decideContents : Cond) ∈ lw_tbl := List.mem_of_getElem? (i := 612) (by decide +kernel)
theorem wi_X0_decideContents : (.instanceMethod yX0_decideContents : Cond) ∈ lw_tbl := List.mem_of_getElem? (i := 614) (by decide +kernel)
theorem wc_X0_decideContents : (.code yX0_decideContents cX0_decideContents 2 (none) : Cond) ∈ lw_tbl := List.mem_of_getElem? (i := 615) (by decide +kernel)
theorem wm_X0_132 : (.methodLink RX0 132 yX0_addOther : Cond) ∈ lw_tbl := List.mem_of_getElem? (i := 616) (by decide +kernel)
theorem wi_X0_addOther : (.instanceMethod yX0_addOther : Cond) ∈ lw_tbl := List.mem_of_getElem? (i := 618) (by decide +kernel)
theorem wc_X0_addOther : (.code yX0_addOther cX0_addOther 2 (none) : Cond) ∈ lw_tbl := List.mem_of_getElem? (i := 619) (by decide +kernel)
theorem wm_X0_99 : (.methodLink RX0 99 yX0_mendRings : Cond) ∈ lw_tbl := List.mem_of_getElem? (i := 620) (by decide +kernel)
theorem wi_X0_mendRings : (.instanceMethod yX0_mendRings : Cond) ∈ lw_tbl := List.mem_of_getElem? (i := 622) (by decide +kernel)
theorem wc_X0_mendRings : (.code yX0_mendRings cX0_mendRings 3 (none) : Cond) ∈ lw_tbl := List.mem_of_getElem? (i := 623) (by decide +kernel)
theorem wm_X0_136 : (.methodLink RX0 136 yX0_greatestInRing : Cond) ∈ lw_tbl := List.mem_of_getElem? (i := 624) (by decide +kernel)
theorem wi_X0_greatestInRing : (.instanceMethod yX0_greatestInRing : Cond) ∈ lw_tbl := List.mem_of_getElem? (i := 626) (by decide +kernel)
theorem wc_X0_greatestInRing : (.code yX0_greatestInRing cX0_greatestInRing 2 (some FieldType.int) : Cond) ∈ lw_tbl := List.mem_of_getElem? (i := 627) (by decide +kernel)
theorem wm_X0_102 : (.methodLink RX0 102 yX0_mendNames : Cond) ∈ lw_tbl := List.mem_of_getElem? (i := 628) (by decide +kernel)
theorem wi_X0_mendNames : (.instanceMethod yX0_mendNames : Cond) ∈ lw_tbl := List.mem_of_getElem? (i := 630) (by decide +kernel)
theorem wc_X0_mendNames : (.code yX0_mendNames cX0_mendNames 4 (none) : Cond) ∈ lw_tbl := List.mem_of_getElem? (i := 631) (by decide +kernel)
theorem wm_X0_140 : (.methodLink RX0 140 yX5_standing : Cond) ∈ lw_tbl := List.mem_of_getElem? (i := 632) (by decide +kernel)
theorem wm_X0_144 : (.methodLink RX0 144 yX0_ignoredHas : Cond) ∈ lw_tbl := List.mem_of_getElem? (i := 633) (by decide +kernel)
theorem wi_X0_ignoredHas : (.instanceMethod yX0_ignoredHas : Cond) ∈ lw_tbl := List.mem_of_getElem? (i := 635) (by decide +kernel)
theorem wc_X0_ignoredHas : (.code yX0_ignoredHas cX0_ignoredHas 6 (some FieldType.boolean) : Cond) ∈ lw_tbl := List.mem_of_getElem? (i := 636) (by decide +kernel)
theorem wm_X0_151 : (.methodLink RX0 151 yX5_isAt : Cond) ∈ lw_tbl := List.mem_of_getElem? (i := 637) (by decide +kernel)
theorem wm_X0_147 : (.methodLink RX0 147 yX0_leastFreeName : Cond) ∈ lw_tbl := List.mem_of_getElem? (i := 638) (by decide +kernel)
theorem wi_X0_leastFreeName : (.instanceMethod yX0_leastFreeName : Cond) ∈ lw_tbl := List.mem_of_getElem? (i := 640) (by decide +kernel)
theorem wc_X0_leastFreeName : (.code yX0_leastFreeName cX0_leastFreeName 3 (some FieldType.int) : Cond) ∈ lw_tbl := List.mem_of_getElem? (i := 641) (by decide +kernel)
theorem wm_X7_186 : (.methodLink RX7 186 yX7_stepsOf : Cond) ∈ lw_tbl := List.mem_of_getElem? (i := 642) (by decide +kernel)
theorem wi_X7_stepsOf : (.instanceMethod yX7_stepsOf : Cond) ∈ lw_tbl := List.mem_of_getElem? (i := 644) (by decide +kernel)
theorem wc_X7_stepsOf : (.code yX7_stepsOf cX7_stepsOf 2 (some FieldType.int) : Cond) ∈ lw_tbl := List.mem_of_getElem? (i := 645) (by decide +kernel)
theorem wm_X7_265 : (.methodLink RX7 265 yX2_lay : Cond) ∈ lw_tbl := List.mem_of_getElem? (i := 646) (by decide +kernel)
theorem wi_X2_lay : (.instanceMethod yX2_lay : Cond) ∈ lw_tbl := List.mem_of_getElem? (i := 647) (by decide +kernel)
theorem ws_X2_lay : (.selects RX2 yX2_lay yX2_lay : Cond) ∈ lw_tbl := List.mem_of_getElem? (i := 648) (by decide +kernel)
theorem wc_X2_lay : (.code yX2_lay cX2_lay 6 (none) : Cond) ∈ lw_tbl := List.mem_of_getElem? (i := 649) (by decide +kernel)
theorem wm_X2_45 : (.methodLink RX2 45 yX5_depth : Cond) ∈ lw_tbl := List.mem_of_getElem? (i := 650) (by decide +kernel)
theorem wm_X2_51 : (.methodLink RX2 51 yX5_has : Cond) ∈ lw_tbl := List.mem_of_getElem? (i := 651) (by decide +kernel)
theorem wm_X2_58 : (.methodLink RX2 58 yX5_placesAsIn : Cond) ∈ lw_tbl := List.mem_of_getElem? (i := 652) (by decide +kernel)
theorem wm_X2_62 : (.methodLink RX2 62 yX2_add : Cond) ∈ lw_tbl := List.mem_of_getElem? (i := 653) (by decide +kernel)
theorem wi_X2_add : (.instanceMethod yX2_add : Cond) ∈ lw_tbl := List.mem_of_getElem? (i := 655) (by decide +kernel)
theorem wc_X2_add : (.code yX2_add cX2_add 3 (none) : Cond) ∈ lw_tbl := List.mem_of_getElem? (i := 656) (by decide +kernel)
theorem wm_X2_66 : (.methodLink RX2 66 yX2_addAtDepth : Cond) ∈ lw_tbl := List.mem_of_getElem? (i := 657) (by decide +kernel)
theorem wi_X2_addAtDepth : (.instanceMethod yX2_addAtDepth : Cond) ∈ lw_tbl := List.mem_of_getElem? (i := 659) (by decide +kernel)
theorem wc_X2_addAtDepth : (.code yX2_addAtDepth cX2_addAtDepth 4 (none) : Cond) ∈ lw_tbl := List.mem_of_getElem? (i := 660) (by decide +kernel)
theorem wm_X2_70 : (.methodLink RX2 70 yX5_holdsAsIn : Cond) ∈ lw_tbl := List.mem_of_getElem? (i := 661) (by decide +kernel)
theorem wm_X7_189 : (.methodLink RX7 189 yX0_carryOut : Cond) ∈ lw_tbl := List.mem_of_getElem? (i := 662) (by decide +kernel)
theorem wi_X0_carryOut : (.instanceMethod yX0_carryOut : Cond) ∈ lw_tbl := List.mem_of_getElem? (i := 663) (by decide +kernel)
theorem ws_X0_carryOut : (.selects RX0 yX0_carryOut yX0_carryOut : Cond) ∈ lw_tbl := List.mem_of_getElem? (i := 664) (by decide +kernel)
theorem wc_X0_carryOut : (.code yX0_carryOut cX0_carryOut 3 (none) : Cond) ∈ lw_tbl := List.mem_of_getElem? (i := 665) (by decide +kernel)
theorem wm_X0_158 : (.methodLink RX0 158 yX5_putAsIn : Cond) ∈ lw_tbl := List.mem_of_getElem? (i := 666) (by decide +kernel)
theorem wi_X5_putAsIn : (.instanceMethod yX5_putAsIn : Cond) ∈ lw_tbl := List.mem_of_getElem? (i := 667) (by decide +kernel)
theorem ws_X5_putAsIn : (.selects RX5 yX5_putAsIn yX5_putAsIn : Cond) ∈ lw_tbl := List.mem_of_getElem? (i := 668) (by decide +kernel)
theorem wc_X5_putAsIn : (.code yX5_putAsIn cX5_putAsIn 3 (none) : Cond) ∈ lw_tbl := List.mem_of_getElem? (i := 669) (by decide +kernel)
theorem wm_X0_162 : (.methodLink RX0 162 yX0_forgetHomeless : Cond) ∈ lw_tbl := List.mem_of_getElem? (i := 670) (by decide +kernel)
theorem wi_X0_forgetHomeless : (.instanceMethod yX0_forgetHomeless : Cond) ∈ lw_tbl := List.mem_of_getElem? (i := 672) (by decide +kernel)
theorem wc_X0_forgetHomeless : (.code yX0_forgetHomeless cX0_forgetHomeless 5 (none) : Cond) ∈ lw_tbl := List.mem_of_getElem? (i := 673) (by decide +kernel)
theorem wm_X0_165 : (.methodLink RX0 165 yX5_takeOut : Cond) ∈ lw_tbl := List.mem_of_getElem? (i := 674) (by decide +kernel)
theorem wm_L_75 : (.methodLink RL 75 yX7_target : Cond) ∈ lw_tbl := List.mem_of_getElem? (i := 675) (by decide +kernel)
theorem wi_X7_target : (.instanceMethod yX7_target : Cond) ∈ lw_tbl := List.mem_of_getElem? (i := 676) (by decide +kernel)
theorem ws_X7_target : (.selects RX7 yX7_target yX7_target : Cond) ∈ lw_tbl := List.mem_of_getElem? (i := 677) (by decide +kernel)
theorem wc_X7_target : (.code yX7_target cX7_target 3 (some FieldType.int) : Cond) ∈ lw_tbl := List.mem_of_getElem? (i := 678) (by decide +kernel)
theorem wm_L_79 : (.methodLink RL 79 yX7_clash : Cond) ∈ lw_tbl := List.mem_of_getElem? (i := 679) (by decide +kernel)
theorem wi_X7_clash : (.instanceMethod yX7_clash : Cond) ∈ lw_tbl := List.mem_of_getElem? (i := 680) (by decide +kernel)
theorem ws_X7_clash : (.selects RX7 yX7_clash yX7_clash : Cond) ∈ lw_tbl := List.mem_of_getElem? (i := 681) (by decide +kernel)
theorem wc_X7_clash : (.code yX7_clash cX7_clash 3 (some FieldType.int) : Cond) ∈ lw_tbl := List.mem_of_getElem? (i := 682) (by decide +kernel)
theorem wm_L_83 : (.methodLink RL 83 yX7_step : Cond) ∈ lw_tbl := List.mem_of_getElem? (i := 683) (by decide +kernel)
theorem wi_X7_step : (.instanceMethod yX7_step : Cond) ∈ lw_tbl := List.mem_of_getElem? (i := 684) (by decide +kernel)
theorem ws_X7_step : (.selects RX7 yX7_step yX7_step : Cond) ∈ lw_tbl := List.mem_of_getElem? (i := 685) (by decide +kernel)
theorem wc_X7_step : (.code yX7_step cX7_step 4 (some FieldType.int) : Cond) ∈ lw_tbl := List.mem_of_getElem? (i := 686) (by decide +kernel)
theorem wm_X7_205 : (.methodLink RX7 205 yX2_tell : Cond) ∈ lw_tbl := List.mem_of_getElem? (i := 687) (by decide +kernel)
theorem wi_X2_tell : (.instanceMethod yX2_tell : Cond) ∈ lw_tbl := List.mem_of_getElem? (i := 688) (by decide +kernel)
theorem ws_X2_tell : (.selects RX2 yX2_tell yX2_tell : Cond) ∈ lw_tbl := List.mem_of_getElem? (i := 689) (by decide +kernel)
theorem wc_X2_tell : (.code yX2_tell cX2_tell 6 (some FieldType.int) : Cond) ∈ lw_tbl := List.mem_of_getElem? (i := 690) (by decide +kernel)
theorem wm_L_87 : (.methodLink RL 87 yX7_would : Cond) ∈ lw_tbl := List.mem_of_getElem? (i := 691) (by decide +kernel)
theorem wi_X7_would : (.instanceMethod yX7_would : Cond) ∈ lw_tbl := List.mem_of_getElem? (i := 692) (by decide +kernel)
theorem ws_X7_would : (.selects RX7 yX7_would yX7_would : Cond) ∈ lw_tbl := List.mem_of_getElem? (i := 693) (by decide +kernel)
theorem wc_X7_would : (.code yX7_would cX7_would 2 (some FieldType.int) : Cond) ∈ lw_tbl := List.mem_of_getElem? (i := 694) (by decide +kernel)
theorem wm_X7_209 : (.methodLink RX7 209 yX0_areAlike : Cond) ∈ lw_tbl := List.mem_of_getElem? (i := 695) (by decide +kernel)
theorem wi_X0_areAlike : (.instanceMethod yX0_areAlike : Cond) ∈ lw_tbl := List.mem_of_getElem? (i := 696) (by decide +kernel)
theorem ws_X0_areAlike : (.selects RX0 yX0_areAlike yX0_areAlike : Cond) ∈ lw_tbl := List.mem_of_getElem? (i := 697) (by decide +kernel)
theorem wc_X0_areAlike : (.code yX0_areAlike cX0_areAlike 5 (some FieldType.boolean) : Cond) ∈ lw_tbl := List.mem_of_getElem? (i := 698) (by decide +kernel)
theorem wm_L_91 : (.methodLink RL 91 yX7_spared : Cond) ∈ lw_tbl := List.mem_of_getElem? (i := 699) (by decide +kernel)
theorem wi_X7_spared : (.instanceMethod yX7_spared : Cond) ∈ lw_tbl := List.mem_of_getElem? (i := 700) (by decide +kernel)
theorem ws_X7_spared : (.selects RX7 yX7_spared yX7_spared : Cond) ∈ lw_tbl := List.mem_of_getElem? (i := 701) (by decide +kernel)
theorem wc_X7_spared : (.code yX7_spared cX7_spared 4 (some FieldType.int) : Cond) ∈ lw_tbl := List.mem_of_getElem? (i := 702) (by decide +kernel)
theorem wm_X7_213 : (.methodLink RX7 213 yX6_become : Cond) ∈ lw_tbl := List.mem_of_getElem? (i := 703) (by decide +kernel)
theorem wi_X6_become : (.instanceMethod yX6_become : Cond) ∈ lw_tbl := List.mem_of_getElem? (i := 704) (by decide +kernel)
theorem ws_X6_become : (.selects RX6 yX6_become yX6_become : Cond) ∈ lw_tbl := List.mem_of_getElem? (i := 705) (by decide +kernel)
theorem wc_X6_become : (.code yX6_become cX6_become 3 (none) : Cond) ∈ lw_tbl := List.mem_of_getElem? (i := 706) (by decide +kernel)
theorem wm_X6_55 : (.methodLink RX6 55 yX5_become : Cond) ∈ lw_tbl := List.mem_of_getElem? (i := 707) (by decide +kernel)
theorem wi_X5_become : (.instanceMethod yX5_become : Cond) ∈ lw_tbl := List.mem_of_getElem? (i := 708) (by decide +kernel)
theorem ws_X5_become : (.selects RX5 yX5_become yX5_become : Cond) ∈ lw_tbl := List.mem_of_getElem? (i := 709) (by decide +kernel)
theorem wc_X5_become : (.code yX5_become cX5_become 3 (none) : Cond) ∈ lw_tbl := List.mem_of_getElem? (i := 710) (by decide +kernel)
theorem wm_X5_32 : (.methodLink RX5 32 yX5_putAsIn : Cond) ∈ lw_tbl := List.mem_of_getElem? (i := 711) (by decide +kernel)
theorem wm_X6_59 : (.methodLink RX6 59 yX1_become : Cond) ∈ lw_tbl := List.mem_of_getElem? (i := 712) (by decide +kernel)
theorem wi_X1_become : (.instanceMethod yX1_become : Cond) ∈ lw_tbl := List.mem_of_getElem? (i := 713) (by decide +kernel)
theorem ws_X1_become : (.selects RX1 yX1_become yX1_become : Cond) ∈ lw_tbl := List.mem_of_getElem? (i := 714) (by decide +kernel)
theorem wc_X1_become : (.code yX1_become cX1_become 2 (none) : Cond) ∈ lw_tbl := List.mem_of_getElem? (i := 715) (by decide +kernel)
theorem wm_X1_27 : (.methodLink RX1 27 ⟨"java/lang/System", "arraycopy", "(Ljava/lang/Object;ILjava/lang/Object;II)V"⟩ : Cond) ∈ lw_tbl := List.mem_of_getElem? (i := 716) (by decide +kernel)
theorem wt_J_arraycopy : (.static arraycopyName : Cond) ∈ lw_tbl := List.mem_of_getElem? (i := 717) (by decide +kernel)
theorem wv_J_arraycopy : (.native arraycopyName : Cond) ∈ lw_tbl := List.mem_of_getElem? (i := 718) (by decide +kernel)
theorem wm_L_95 : (.methodLink RL 95 yX7_drawn : Cond) ∈ lw_tbl := List.mem_of_getElem? (i := 719) (by decide +kernel)
theorem wi_X7_drawn : (.instanceMethod yX7_drawn : Cond) ∈ lw_tbl := List.mem_of_getElem? (i := 720) (by decide +kernel)
theorem ws_X7_drawn : (.selects RX7 yX7_drawn yX7_drawn : Cond) ∈ lw_tbl := List.mem_of_getElem? (i := 721) (by decide +kernel)
theorem wc_X7_drawn : (.code yX7_drawn cX7_drawn 3 (some FieldType.int) : Cond) ∈ lw_tbl := List.mem_of_getElem? (i := 722) (by decide +kernel)
theorem wm_X7_216 : (.methodLink RX7 216 yX7_clashesDrawn : Cond) ∈ lw_tbl := List.mem_of_getElem? (i := 723) (by decide +kernel)
theorem wi_X7_clashesDrawn : (.instanceMethod yX7_clashesDrawn : Cond) ∈ lw_tbl := List.mem_of_getElem? (i := 725) (by decide +kernel)
theorem wc_X7_clashesDrawn : (.code yX7_clashesDrawn cX7_clashesDrawn 10 (some FieldType.int) : Cond) ∈ lw_tbl := List.mem_of_getElem? (i := 726) (by decide +kernel)
theorem wm_X7_270 : (.methodLink RX7 270 ⟨"java/lang/Math", "max", "(II)I"⟩ : Cond) ∈ lw_tbl := List.mem_of_getElem? (i := 727) (by decide +kernel)
theorem wm_X7_275 : (.methodLink RX7 275 yX7_nextSeed : Cond) ∈ lw_tbl := List.mem_of_getElem? (i := 728) (by decide +kernel)
theorem wt_X7_nextSeed : (.static yX7_nextSeed : Cond) ∈ lw_tbl := List.mem_of_getElem? (i := 729) (by decide +kernel)
theorem wc_X7_nextSeed : (.code yX7_nextSeed cX7_nextSeed 1 (some FieldType.int) : Cond) ∈ lw_tbl := List.mem_of_getElem? (i := 730) (by decide +kernel)
theorem wk_X7_278 : (.constant RX7 278 1103515245 : Cond) ∈ lw_tbl := List.mem_of_getElem? (i := 731) (by decide +kernel)
theorem wm_L_99 : (.methodLink RL 99 yX7_chance : Cond) ∈ lw_tbl := List.mem_of_getElem? (i := 732) (by decide +kernel)
theorem wi_X7_chance : (.instanceMethod yX7_chance : Cond) ∈ lw_tbl := List.mem_of_getElem? (i := 733) (by decide +kernel)
theorem ws_X7_chance : (.selects RX7 yX7_chance yX7_chance : Cond) ∈ lw_tbl := List.mem_of_getElem? (i := 734) (by decide +kernel)
theorem wc_X7_chance : (.code yX7_chance cX7_chance 6 (some FieldType.int) : Cond) ∈ lw_tbl := List.mem_of_getElem? (i := 735) (by decide +kernel)
theorem wm_X7_219 : (.methodLink RX7 219 yX7_greatestDivisor : Cond) ∈ lw_tbl := List.mem_of_getElem? (i := 736) (by decide +kernel)
theorem wt_X7_greatestDivisor : (.static yX7_greatestDivisor : Cond) ∈ lw_tbl := List.mem_of_getElem? (i := 737) (by decide +kernel)
theorem wc_X7_greatestDivisor : (.code yX7_greatestDivisor cX7_greatestDivisor 3 (some FieldType.int) : Cond) ∈ lw_tbl := List.mem_of_getElem? (i := 738) (by decide +kernel)
theorem wm_L_103 : (.methodLink RL 103 yX7_tells : Cond) ∈ lw_tbl := List.mem_of_getElem? (i := 739) (by decide +kernel)
theorem wi_X7_tells : (.instanceMethod yX7_tells : Cond) ∈ lw_tbl := List.mem_of_getElem? (i := 740) (by decide +kernel)
theorem ws_X7_tells : (.selects RX7 yX7_tells yX7_tells : Cond) ∈ lw_tbl := List.mem_of_getElem? (i := 741) (by decide +kernel)
theorem wc_X7_tells : (.code yX7_tells cX7_tells 5 (some FieldType.int) : Cond) ∈ lw_tbl := List.mem_of_getElem? (i := 742) (by decide +kernel)
theorem wm_X7_222 : (.methodLink RX7 222 yX7_isSheet : Cond) ∈ lw_tbl := List.mem_of_getElem? (i := 743) (by decide +kernel)
theorem wt_X7_isSheet : (.static yX7_isSheet : Cond) ∈ lw_tbl := List.mem_of_getElem? (i := 744) (by decide +kernel)
theorem wc_X7_isSheet : (.code yX7_isSheet cX7_isSheet 1 (some FieldType.boolean) : Cond) ∈ lw_tbl := List.mem_of_getElem? (i := 745) (by decide +kernel)
theorem wm_X7_225 : (.methodLink RX7 225 yX3_isMissing : Cond) ∈ lw_tbl := List.mem_of_getElem? (i := 746) (by decide +kernel)
theorem wi_X3_isMissing : (.instanceMethod yX3_isMissing : Cond) ∈ lw_tbl := List.mem_of_getElem? (i := 747) (by decide +kernel)
theorem ws_X3_isMissing : (.selects RX3 yX3_isMissing yX3_isMissing : Cond) ∈ lw_tbl := List.mem_of_getElem? (i := 748) (by decide +kernel)
theorem wc_X3_isMissing : (.code yX3_isMissing cX3_isMissing 1 (some FieldType.boolean) : Cond) ∈ lw_tbl := List.mem_of_getElem? (i := 749) (by decide +kernel)
theorem wm_X7_229 : (.methodLink RX7 229 yX3_firstUnlike : Cond) ∈ lw_tbl := List.mem_of_getElem? (i := 750) (by decide +kernel)
theorem wi_X3_firstUnlike : (.instanceMethod yX3_firstUnlike : Cond) ∈ lw_tbl := List.mem_of_getElem? (i := 751) (by decide +kernel)
theorem ws_X3_firstUnlike : (.selects RX3 yX3_firstUnlike yX3_firstUnlike : Cond) ∈ lw_tbl := List.mem_of_getElem? (i := 752) (by decide +kernel)
theorem wc_X3_firstUnlike : (.code yX3_firstUnlike cX3_firstUnlike 3 (some FieldType.int) : Cond) ∈ lw_tbl := List.mem_of_getElem? (i := 753) (by decide +kernel)
theorem wm_X7_233 : (.methodLink RX7 233 yX7_whereJustSo : Cond) ∈ lw_tbl := List.mem_of_getElem? (i := 754) (by decide +kernel)
theorem wi_X7_whereJustSo : (.instanceMethod yX7_whereJustSo : Cond) ∈ lw_tbl := List.mem_of_getElem? (i := 756) (by decide +kernel)
theorem wc_X7_whereJustSo : (.code yX7_whereJustSo cX7_whereJustSo 4 (some FieldType.int) : Cond) ∈ lw_tbl := List.mem_of_getElem? (i := 757) (by decide +kernel)
theorem wm_L_107 : (.methodLink RL 107 yX7_film : Cond) ∈ lw_tbl := List.mem_of_getElem? (i := 758) (by decide +kernel)
theorem wi_X7_film : (.instanceMethod yX7_film : Cond) ∈ lw_tbl := List.mem_of_getElem? (i := 759) (by decide +kernel)
theorem ws_X7_film : (.selects RX7 yX7_film yX7_film : Cond) ∈ lw_tbl := List.mem_of_getElem? (i := 760) (by decide +kernel)
theorem wc_X7_film : (.code yX7_film cX7_film 6 (some FieldType.int) : Cond) ∈ lw_tbl := List.mem_of_getElem? (i := 761) (by decide +kernel)
theorem wm_X7_237 : (.methodLink RX7 237 yX3_renew : Cond) ∈ lw_tbl := List.mem_of_getElem? (i := 762) (by decide +kernel)
theorem wi_X3_renew : (.instanceMethod yX3_renew : Cond) ∈ lw_tbl := List.mem_of_getElem? (i := 763) (by decide +kernel)
theorem ws_X3_renew : (.selects RX3 yX3_renew yX3_renew : Cond) ∈ lw_tbl := List.mem_of_getElem? (i := 764) (by decide +kernel)
theorem wc_X3_renew : (.code yX3_renew cX3_renew 4 (none) : Cond) ∈ lw_tbl := List.mem_of_getElem? (i := 765) (by decide +kernel)
theorem wm_X7_241 : (.methodLink RX7 241 yX3_put : Cond) ∈ lw_tbl := List.mem_of_getElem? (i := 766) (by decide +kernel)
theorem wi_X3_put : (.instanceMethod yX3_put : Cond) ∈ lw_tbl := List.mem_of_getElem? (i := 767) (by decide +kernel)
theorem ws_X3_put : (.selects RX3 yX3_put yX3_put : Cond) ∈ lw_tbl := List.mem_of_getElem? (i := 768) (by decide +kernel)
theorem wc_X3_put : (.code yX3_put cX3_put 3 (none) : Cond) ∈ lw_tbl := List.mem_of_getElem? (i := 769) (by decide +kernel)
theorem wm_X3_22 : (.methodLink RX3 22 yX3_spans : Cond) ∈ lw_tbl := List.mem_of_getElem? (i := 770) (by decide +kernel)
theorem wi_X3_spans : (.instanceMethod yX3_spans : Cond) ∈ lw_tbl := List.mem_of_getElem? (i := 771) (by decide +kernel)
theorem ws_X3_spans : (.selects RX3 yX3_spans yX3_spans : Cond) ∈ lw_tbl := List.mem_of_getElem? (i := 772) (by decide +kernel)
theorem wc_X3_spans : (.code yX3_spans cX3_spans 3 (some FieldType.boolean) : Cond) ∈ lw_tbl := List.mem_of_getElem? (i := 773) (by decide +kernel)
theorem wm_L_111 : (.methodLink RL 111 yX7_image : Cond) ∈ lw_tbl := List.mem_of_getElem? (i := 774) (by decide +kernel)
theorem wi_X7_image : (.instanceMethod yX7_image : Cond) ∈ lw_tbl := List.mem_of_getElem? (i := 775) (by decide +kernel)
theorem ws_X7_image : (.selects RX7 yX7_image yX7_image : Cond) ∈ lw_tbl := List.mem_of_getElem? (i := 776) (by decide +kernel)
theorem wc_X7_image : (.code yX7_image cX7_image 1 (some FieldType.int) : Cond) ∈ lw_tbl := List.mem_of_getElem? (i := 777) (by decide +kernel)
theorem wm_L_115 : (.methodLink RL 115 yX7_back : Cond) ∈ lw_tbl := List.mem_of_getElem? (i := 778) (by decide +kernel)
theorem wi_X7_back : (.instanceMethod yX7_back : Cond) ∈ lw_tbl := List.mem_of_getElem? (i := 779) (by decide +kernel)
theorem ws_X7_back : (.selects RX7 yX7_back yX7_back : Cond) ∈ lw_tbl := List.mem_of_getElem? (i := 780) (by decide +kernel)
theorem wc_X7_back : (.code yX7_back cX7_back 1 (some FieldType.int) : Cond) ∈ lw_tbl := List.mem_of_getElem? (i := 781) (by decide +kernel)
theorem wm_L_119 : (.methodLink RL 119 yX7_count : Cond) ∈ lw_tbl := List.mem_of_getElem? (i := 782) (by decide +kernel)
theorem wi_X7_count : (.instanceMethod yX7_count : Cond) ∈ lw_tbl := List.mem_of_getElem? (i := 783) (by decide +kernel)
theorem ws_X7_count : (.selects RX7 yX7_count yX7_count : Cond) ∈ lw_tbl := List.mem_of_getElem? (i := 784) (by decide +kernel)
theorem wc_X7_count : (.code yX7_count cX7_count 2 (some FieldType.int) : Cond) ∈ lw_tbl := List.mem_of_getElem? (i := 785) (by decide +kernel)
theorem wm_X7_247 : (.methodLink RX7 247 yX5_size : Cond) ∈ lw_tbl := List.mem_of_getElem? (i := 786) (by decide +kernel)
theorem wi_X5_size : (.instanceMethod yX5_size : Cond) ∈ lw_tbl := List.mem_of_getElem? (i := 787) (by decide +kernel)
theorem ws_X5_size : (.selects RX5 yX5_size yX5_size : Cond) ∈ lw_tbl := List.mem_of_getElem? (i := 788) (by decide +kernel)
theorem wc_X5_size : (.code yX5_size cX5_size 3 (some FieldType.int) : Cond) ∈ lw_tbl := List.mem_of_getElem? (i := 789) (by decide +kernel)
theorem wm_L_123 : (.methodLink RL 123 yX7_sheet : Cond) ∈ lw_tbl := List.mem_of_getElem? (i := 790) (by decide +kernel)
theorem wi_X7_sheet : (.instanceMethod yX7_sheet : Cond) ∈ lw_tbl := List.mem_of_getElem? (i := 791) (by decide +kernel)
theorem ws_X7_sheet : (.selects RX7 yX7_sheet yX7_sheet : Cond) ∈ lw_tbl := List.mem_of_getElem? (i := 792) (by decide +kernel)
theorem wc_X7_sheet : (.code yX7_sheet cX7_sheet 4 (some FieldType.int) : Cond) ∈ lw_tbl := List.mem_of_getElem? (i := 793) (by decide +kernel)
theorem wm_L_127 : (.methodLink RL 127 yX7_cell : Cond) ∈ lw_tbl := List.mem_of_getElem? (i := 794) (by decide +kernel)
theorem wi_X7_cell : (.instanceMethod yX7_cell : Cond) ∈ lw_tbl := List.mem_of_getElem? (i := 795) (by decide +kernel)
theorem ws_X7_cell : (.selects RX7 yX7_cell yX7_cell : Cond) ∈ lw_tbl := List.mem_of_getElem? (i := 796) (by decide +kernel)
theorem wc_X7_cell : (.code yX7_cell cX7_cell 5 (some FieldType.int) : Cond) ∈ lw_tbl := List.mem_of_getElem? (i := 797) (by decide +kernel)
theorem wm_X7_250 : (.methodLink RX7 250 yX3_spans : Cond) ∈ lw_tbl := List.mem_of_getElem? (i := 798) (by decide +kernel)
theorem wm_L_131 : (.methodLink RL 131 yX7_copy : Cond) ∈ lw_tbl := List.mem_of_getElem? (i := 799) (by decide +kernel)
theorem wi_X7_copy : (.instanceMethod yX7_copy : Cond) ∈ lw_tbl := List.mem_of_getElem? (i := 800) (by decide +kernel)
theorem ws_X7_copy : (.selects RX7 yX7_copy yX7_copy : Cond) ∈ lw_tbl := List.mem_of_getElem? (i := 801) (by decide +kernel)
theorem wc_X7_copy : (.code yX7_copy cX7_copy 8 (some FieldType.int) : Cond) ∈ lw_tbl := List.mem_of_getElem? (i := 802) (by decide +kernel)
theorem wm_X7_259 : (.methodLink RX7 259 ⟨"java/lang/System", "arraycopy", "(Ljava/lang/Object;ILjava/lang/Object;II)V"⟩ : Cond) ∈ lw_tbl := List.mem_of_getElem? (i := 803) (by decide +kernel)
theorem wl_L_10 : (.classLink RL 10 RX8 : Cond) ∈ lw_tbl := List.mem_of_getElem? (i := 804) (by decide +kernel)
theorem wx_X8 : (.instantiable RX8 55 : Cond) ∈ lw_tbl := List.mem_of_getElem? (i := 805) (by decide +kernel)
theorem wm_L_12 : (.methodLink RL 12 yX8_init : Cond) ∈ lw_tbl := List.mem_of_getElem? (i := 806) (by decide +kernel)
theorem wi_X8_init : (.instanceMethod yX8_init : Cond) ∈ lw_tbl := List.mem_of_getElem? (i := 807) (by decide +kernel)
theorem wc_X8_init : (.code yX8_init cX8_init 1 (none) : Cond) ∈ lw_tbl := List.mem_of_getElem? (i := 808) (by decide +kernel)
theorem wm_X8_1 : (.methodLink RX8 1 objectInit : Cond) ∈ lw_tbl := List.mem_of_getElem? (i := 809) (by decide +kernel)
theorem wl_X8_13 : (.classLink RX8 13 "[[Z" : Cond) ∈ lw_tbl := List.mem_of_getElem? (i := 810) (by decide +kernel)
theorem wo_boolean : (.arrayOver (.array .boolean) : Cond) ∈ lw_tbl := List.mem_of_getElem? (i := 811) (by decide +kernel)
theorem wl_X8_18 : (.classLink RX8 18 "[[I" : Cond) ∈ lw_tbl := List.mem_of_getElem? (i := 812) (by decide +kernel)
theorem wf_X8_130 : (.fieldLink RX8 130 "TwoTreesAlikeModel" "things" "I" : Cond) ∈ lw_tbl := List.mem_of_getElem? (i := 813) (by decide +kernel)
theorem wf_X8_288 : (.fieldLink RX8 288 "TwoTreesAlikeModel" "preferred" "I" : Cond) ∈ lw_tbl := List.mem_of_getElem? (i := 814) (by decide +kernel)
theorem wf_X8_9 : (.fieldLink RX8 9 "TwoTreesAlikeModel" "isFolder" "[Z" : Cond) ∈ lw_tbl := List.mem_of_getElem? (i := 815) (by decide +kernel)
theorem wf_X8_15 : (.fieldLink RX8 15 "TwoTreesAlikeModel" "is" "[[Z" : Cond) ∈ lw_tbl := List.mem_of_getElem? (i := 816) (by decide +kernel)
theorem wf_X8_20 : (.fieldLink RX8 20 "TwoTreesAlikeModel" "folders" "[[I" : Cond) ∈ lw_tbl := List.mem_of_getElem? (i := 817) (by decide +kernel)
theorem wf_X8_23 : (.fieldLink RX8 23 "TwoTreesAlikeModel" "names" "[[I" : Cond) ∈ lw_tbl := List.mem_of_getElem? (i := 818) (by decide +kernel)
theorem wf_X8_26 : (.fieldLink RX8 26 "TwoTreesAlikeModel" "contents" "[[I" : Cond) ∈ lw_tbl := List.mem_of_getElem? (i := 819) (by decide +kernel)
theorem wf_X8_145 : (.fieldLink RX8 145 "TwoTreesAlikeModel" "refused" "I" : Cond) ∈ lw_tbl := List.mem_of_getElem? (i := 820) (by decide +kernel)
theorem wf_X8_29 : (.fieldLink RX8 29 "TwoTreesAlikeModel" "refusedBy" "I" : Cond) ∈ lw_tbl := List.mem_of_getElem? (i := 821) (by decide +kernel)
theorem wf_X8_148 : (.fieldLink RX8 148 "TwoTreesAlikeModel" "refusedDeep" "I" : Cond) ∈ lw_tbl := List.mem_of_getElem? (i := 822) (by decide +kernel)
theorem wf_X8_33 : (.fieldLink RX8 33 "TwoTreesAlikeModel" "gone" "[Z" : Cond) ∈ lw_tbl := List.mem_of_getElem? (i := 823) (by decide +kernel)
theorem wf_X8_230 : (.fieldLink RX8 230 "TwoTreesAlikeModel" "patterns" "I" : Cond) ∈ lw_tbl := List.mem_of_getElem? (i := 824) (by decide +kernel)
theorem wf_X8_36 : (.fieldLink RX8 36 "TwoTreesAlikeModel" "isNot" "[Z" : Cond) ∈ lw_tbl := List.mem_of_getElem? (i := 825) (by decide +kernel)
theorem wf_X8_39 : (.fieldLink RX8 39 "TwoTreesAlikeModel" "many" "[I" : Cond) ∈ lw_tbl := List.mem_of_getElem? (i := 826) (by decide +kernel)
theorem wf_X8_43 : (.fieldLink RX8 43 "TwoTreesAlikeModel" "parts" "[[I" : Cond) ∈ lw_tbl := List.mem_of_getElem? (i := 827) (by decide +kernel)
theorem wf_X8_46 : (.fieldLink RX8 46 "TwoTreesAlikeModel" "tape" "[I" : Cond) ∈ lw_tbl := List.mem_of_getElem? (i := 828) (by decide +kernel)
theorem wf_X8_208 : (.fieldLink RX8 208 "TwoTreesAlikeModel" "taped" "I" : Cond) ∈ lw_tbl := List.mem_of_getElem? (i := 829) (by decide +kernel)
theorem wf_X8_215 : (.fieldLink RX8 215 "TwoTreesAlikeModel" "at" "I" : Cond) ∈ lw_tbl := List.mem_of_getElem? (i := 830) (by decide +kernel)
theorem wf_X8_221 : (.fieldLink RX8 221 "TwoTreesAlikeModel" "begin" "I" : Cond) ∈ lw_tbl := List.mem_of_getElem? (i := 831) (by decide +kernel)
theorem wf_X8_224 : (.fieldLink RX8 224 "TwoTreesAlikeModel" "token" "I" : Cond) ∈ lw_tbl := List.mem_of_getElem? (i := 832) (by decide +kernel)
theorem wf_X8_227 : (.fieldLink RX8 227 "TwoTreesAlikeModel" "value" "I" : Cond) ∈ lw_tbl := List.mem_of_getElem? (i := 833) (by decide +kernel)
theorem wf_X8_211 : (.fieldLink RX8 211 "TwoTreesAlikeModel" "isWrong" "Z" : Cond) ∈ lw_tbl := List.mem_of_getElem? (i := 834) (by decide +kernel)
theorem wf_X8_239 : (.fieldLink RX8 239 "TwoTreesAlikeModel" "pathMany" "I" : Cond) ∈ lw_tbl := List.mem_of_getElem? (i := 835) (by decide +kernel)
theorem wf_X8_49 : (.fieldLink RX8 49 "TwoTreesAlikeModel" "path" "[I" : Cond) ∈ lw_tbl := List.mem_of_getElem? (i := 836) (by decide +kernel)
theorem wf_X8_52 : (.fieldLink RX8 52 "TwoTreesAlikeModel" "canStand" "[Z" : Cond) ∈ lw_tbl := List.mem_of_getElem? (i := 837) (by decide +kernel)
theorem wf_X8_55 : (.fieldLink RX8 55 "TwoTreesAlikeModel" "ignored" "[Z" : Cond) ∈ lw_tbl := List.mem_of_getElem? (i := 838) (by decide +kernel)
theorem wf_X8_249 : (.fieldLink RX8 249 "TwoTreesAlikeModel" "clashes" "I" : Cond) ∈ lw_tbl := List.mem_of_getElem? (i := 839) (by decide +kernel)
theorem wf_X8_260 : (.fieldLink RX8 260 "TwoTreesAlikeModel" "newThings" "I" : Cond) ∈ lw_tbl := List.mem_of_getElem? (i := 840) (by decide +kernel)
theorem wf_X8_58 : (.fieldLink RX8 58 "TwoTreesAlikeModel" "clashKinds" "[I" : Cond) ∈ lw_tbl := List.mem_of_getElem? (i := 841) (by decide +kernel)
theorem wf_X8_61 : (.fieldLink RX8 61 "TwoTreesAlikeModel" "clashThings" "[I" : Cond) ∈ lw_tbl := List.mem_of_getElem? (i := 842) (by decide +kernel)
theorem wf_X8_64 : (.fieldLink RX8 64 "TwoTreesAlikeModel" "will" "[Z" : Cond) ∈ lw_tbl := List.mem_of_getElem? (i := 843) (by decide +kernel)
theorem wf_X8_67 : (.fieldLink RX8 67 "TwoTreesAlikeModel" "willFolder" "[Z" : Cond) ∈ lw_tbl := List.mem_of_getElem? (i := 844) (by decide +kernel)
theorem wf_X8_70 : (.fieldLink RX8 70 "TwoTreesAlikeModel" "willIn" "[I" : Cond) ∈ lw_tbl := List.mem_of_getElem? (i := 845) (by decide +kernel)
theorem wf_X8_73 : (.fieldLink RX8 73 "TwoTreesAlikeModel" "willName" "[I" : Cond) ∈ lw_tbl := List.mem_of_getElem? (i := 846) (by decide +kernel)
theorem wf_X8_76 : (.fieldLink RX8 76 "TwoTreesAlikeModel" "willContent" "[I" : Cond) ∈ lw_tbl := List.mem_of_getElem? (i := 847) (by decide +kernel)
theorem wf_X8_297 : (.fieldLink RX8 297 "TwoTreesAlikeModel" "steps" "I" : Cond) ∈ lw_tbl := List.mem_of_getElem? (i := 848) (by decide +kernel)
theorem wf_X8_79 : (.fieldLink RX8 79 "TwoTreesAlikeModel" "stepKinds" "[I" : Cond) ∈ lw_tbl := List.mem_of_getElem? (i := 849) (by decide +kernel)
theorem wf_X8_82 : (.fieldLink RX8 82 "TwoTreesAlikeModel" "stepThings" "[I" : Cond) ∈ lw_tbl := List.mem_of_getElem? (i := 850) (by decide +kernel)
theorem wf_X8_85 : (.fieldLink RX8 85 "TwoTreesAlikeModel" "keptIs" "[[Z" : Cond) ∈ lw_tbl := List.mem_of_getElem? (i := 851) (by decide +kernel)
theorem wf_X8_88 : (.fieldLink RX8 88 "TwoTreesAlikeModel" "keptFolders" "[[I" : Cond) ∈ lw_tbl := List.mem_of_getElem? (i := 852) (by decide +kernel)
theorem wf_X8_91 : (.fieldLink RX8 91 "TwoTreesAlikeModel" "keptNames" "[[I" : Cond) ∈ lw_tbl := List.mem_of_getElem? (i := 853) (by decide +kernel)
theorem wf_X8_94 : (.fieldLink RX8 94 "TwoTreesAlikeModel" "keptContents" "[[I" : Cond) ∈ lw_tbl := List.mem_of_getElem? (i := 854) (by decide +kernel)
theorem wf_X8_328 : (.fieldLink RX8 328 "TwoTreesAlikeModel" "z" "I" : Cond) ∈ lw_tbl := List.mem_of_getElem? (i := 855) (by decide +kernel)
theorem wf_X8_369 : (.fieldLink RX8 369 "TwoTreesAlikeModel" "hasImage" "Z" : Cond) ∈ lw_tbl := List.mem_of_getElem? (i := 856) (by decide +kernel)
theorem wf_X8_97 : (.fieldLink RX8 97 "TwoTreesAlikeModel" "imageNumbers" "[I" : Cond) ∈ lw_tbl := List.mem_of_getElem? (i := 857) (by decide +kernel)
theorem wf_X8_100 : (.fieldLink RX8 100 "TwoTreesAlikeModel" "imageIs" "[[Z" : Cond) ∈ lw_tbl := List.mem_of_getElem? (i := 858) (by decide +kernel)
theorem wf_X8_103 : (.fieldLink RX8 103 "TwoTreesAlikeModel" "imageFolders" "[[I" : Cond) ∈ lw_tbl := List.mem_of_getElem? (i := 859) (by decide +kernel)
theorem wf_X8_106 : (.fieldLink RX8 106 "TwoTreesAlikeModel" "imageNames" "[[I" : Cond) ∈ lw_tbl := List.mem_of_getElem? (i := 860) (by decide +kernel)
theorem wf_X8_109 : (.fieldLink RX8 109 "TwoTreesAlikeModel" "imageContents" "[[I" : Cond) ∈ lw_tbl := List.mem_of_getElem? (i := 861) (by decide +kernel)
theorem wf_X8_112 : (.fieldLink RX8 112 "TwoTreesAlikeModel" "imageParts" "[[I" : Cond) ∈ lw_tbl := List.mem_of_getElem? (i := 862) (by decide +kernel)
theorem wf_X8_115 : (.fieldLink RX8 115 "TwoTreesAlikeModel" "imageMany" "[I" : Cond) ∈ lw_tbl := List.mem_of_getElem? (i := 863) (by decide +kernel)
theorem wf_X8_118 : (.fieldLink RX8 118 "TwoTreesAlikeModel" "sorts" "[I" : Cond) ∈ lw_tbl := List.mem_of_getElem? (i := 864) (by decide +kernel)
theorem wf_X8_121 : (.fieldLink RX8 121 "TwoTreesAlikeModel" "lengths" "[I" : Cond) ∈ lw_tbl := List.mem_of_getElem? (i := 865) (by decide +kernel)
theorem wf_X8_124 : (.fieldLink RX8 124 "TwoTreesAlikeModel" "items" "[[I" : Cond) ∈ lw_tbl := List.mem_of_getElem? (i := 866) (by decide +kernel)
theorem wf_X8_127 : (.fieldLink RX8 127 "TwoTreesAlikeModel" "passed" "[I" : Cond) ∈ lw_tbl := List.mem_of_getElem? (i := 867) (by decide +kernel)
theorem wm_L_17 : (.methodLink RL 17 yX8_make : Cond) ∈ lw_tbl := List.mem_of_getElem? (i := 979) (by decide +kernel)
theorem wi_X8_make : (.instanceMethod yX8_make : Cond) ∈ lw_tbl := List.mem_of_getElem? (i := 980) (by decide +kernel)
theorem ws_X8_make : (.selects RX8 yX8_make yX8_make : Cond) ∈ lw_tbl := List.mem_of_getElem? (i := 981) (by decide +kernel)
theorem wc_X8_make : (.code yX8_make cX8_make 7 (some FieldType.int) : Cond) ∈ lw_tbl := List.mem_of_getElem? (i := 982) (by decide +kernel)
theorem wm_X8_151 : (.methodLink RX8 151 yX8_isSide : Cond) ∈ lw_tbl := List.mem_of_getElem? (i := 983) (by decide +kernel)
theorem wt_X8_isSide : (.static yX8_isSide : Cond) ∈ lw_tbl := List.mem_of_getElem? (i := 984) (by decide +kernel)
theorem wc_X8_isSide : (.code yX8_isSide cX8_isSide 1 (some FieldType.boolean) : Cond) ∈ lw_tbl := List.mem_of_getElem? (i := 985) (by decide +kernel)
theorem wm_X8_133 : (.methodLink RX8 133 yX8_in : Cond) ∈ lw_tbl := List.mem_of_getElem? (i := 986) (by decide +kernel)
theorem wt_X8_in : (.static yX8_in : Cond) ∈ lw_tbl := List.mem_of_getElem? (i := 987) (by decide +kernel)
theorem wc_X8_in : (.code yX8_in cX8_in 3 (some FieldType.boolean) : Cond) ∈ lw_tbl := List.mem_of_getElem? (i := 988) (by decide +kernel)
theorem wm_X8_137 : (.methodLink RX8 137 yX8_isThing : Cond) ∈ lw_tbl := List.mem_of_getElem? (i := 989) (by decide +kernel)
theorem wi_X8_isThing : (.instanceMethod yX8_isThing : Cond) ∈ lw_tbl := List.mem_of_getElem? (i := 991) (by decide +kernel)
theorem wc_X8_isThing : (.code yX8_isThing cX8_isThing 2 (some FieldType.boolean) : Cond) ∈ lw_tbl := List.mem_of_getElem? (i := 992) (by decide +kernel)
theorem wm_X8_154 : (.methodLink RX8 154 yX8_isName : Cond) ∈ lw_tbl := List.mem_of_getElem? (i := 993) (by decide +kernel)
theorem wt_X8_isName : (.static yX8_isName : Cond) ∈ lw_tbl := List.mem_of_getElem? (i := 994) (by decide +kernel)
theorem wc_X8_isName : (.code yX8_isName cX8_isName 1 (some FieldType.boolean) : Cond) ∈ lw_tbl := List.mem_of_getElem? (i := 995) (by decide +kernel)
theorem wm_X8_157 : (.methodLink RX8 157 yX8_refuses : Cond) ∈ lw_tbl := List.mem_of_getElem? (i := 996) (by decide +kernel)
theorem wi_X8_refuses : (.instanceMethod yX8_refuses : Cond) ∈ lw_tbl := List.mem_of_getElem? (i := 998) (by decide +kernel)
theorem wc_X8_refuses : (.code yX8_refuses cX8_refuses 4 (some FieldType.int) : Cond) ∈ lw_tbl := List.mem_of_getElem? (i := 999) (by decide +kernel)
theorem wm_X8_160 : (.methodLink RX8 160 yX8_isFolderOn : Cond) ∈ lw_tbl := List.mem_of_getElem? (i := 1000) (by decide +kernel)
theorem wi_X8_isFolderOn : (.instanceMethod yX8_isFolderOn : Cond) ∈ lw_tbl := List.mem_of_getElem? (i := 1002) (by decide +kernel)
theorem wc_X8_isFolderOn : (.code yX8_isFolderOn cX8_isFolderOn 3 (some FieldType.boolean) : Cond) ∈ lw_tbl := List.mem_of_getElem? (i := 1003) (by decide +kernel)
theorem wm_X8_164 : (.methodLink RX8 164 yX8_found : Cond) ∈ lw_tbl := List.mem_of_getElem? (i := 1004) (by decide +kernel)
theorem wi_X8_found : (.instanceMethod yX8_found : Cond) ∈ lw_tbl := List.mem_of_getElem? (i := 1006) (by decide +kernel)
theorem wc_X8_found : (.code yX8_found cX8_found 5 (some FieldType.int) : Cond) ∈ lw_tbl := List.mem_of_getElem? (i := 1007) (by decide +kernel)
theorem wm_X8_167 : (.methodLink RX8 167 ⟨"java/lang/Math", "max", "(II)I"⟩ : Cond) ∈ lw_tbl := List.mem_of_getElem? (i := 1008) (by decide +kernel)
theorem wm_X8_173 : (.methodLink RX8 173 yX8_stand : Cond) ∈ lw_tbl := List.mem_of_getElem? (i := 1009) (by decide +kernel)
theorem wi_X8_stand : (.instanceMethod yX8_stand : Cond) ∈ lw_tbl := List.mem_of_getElem? (i := 1011) (by decide +kernel)
theorem wc_X8_stand : (.code yX8_stand cX8_stand 6 (none) : Cond) ∈ lw_tbl := List.mem_of_getElem? (i := 1012) (by decide +kernel)
theorem wm_X8_177 : (.methodLink RX8 177 yX8_done : Cond) ∈ lw_tbl := List.mem_of_getElem? (i := 1013) (by decide +kernel)
theorem wi_X8_done : (.instanceMethod yX8_done : Cond) ∈ lw_tbl := List.mem_of_getElem? (i := 1015) (by decide +kernel)
theorem wc_X8_done : (.code yX8_done cX8_done 2 (some FieldType.int) : Cond) ∈ lw_tbl := List.mem_of_getElem? (i := 1016) (by decide +kernel)
theorem wm_L_22 : (.methodLink RL 22 yX8_write : Cond) ∈ lw_tbl := List.mem_of_getElem? (i := 1017) (by decide +kernel)
theorem wi_X8_write : (.instanceMethod yX8_write : Cond) ∈ lw_tbl := List.mem_of_getElem? (i := 1018) (by decide +kernel)
theorem ws_X8_write : (.selects RX8 yX8_write yX8_write : Cond) ∈ lw_tbl := List.mem_of_getElem? (i := 1019) (by decide +kernel)
theorem wc_X8_write : (.code yX8_write cX8_write 5 (some FieldType.int) : Cond) ∈ lw_tbl := List.mem_of_getElem? (i := 1020) (by decide +kernel)
theorem wm_L_26 : (.methodLink RL 26 yX8_move : Cond) ∈ lw_tbl := List.mem_of_getElem? (i := 1021) (by decide +kernel)
theorem wi_X8_move : (.instanceMethod yX8_move : Cond) ∈ lw_tbl := List.mem_of_getElem? (i := 1022) (by decide +kernel)
theorem ws_X8_move : (.selects RX8 yX8_move yX8_move : Cond) ∈ lw_tbl := List.mem_of_getElem? (i := 1023) (by decide +kernel)
theorem wc_X8_move : (.code yX8_move cX8_move 7 (some FieldType.int) : Cond) ∈ lw_tbl := List.mem_of_getElem? (i := 1024) (by decide +kernel)
theorem wm_X8_141 : (.methodLink RX8 141 yX8_deepIn : Cond) ∈ lw_tbl := List.mem_of_getElem? (i := 1025) (by decide +kernel)
theorem wi_X8_deepIn : (.instanceMethod yX8_deepIn : Cond) ∈ lw_tbl := List.mem_of_getElem? (i := 1027) (by decide +kernel)
theorem wc_X8_deepIn : (.code yX8_deepIn cX8_deepIn 6 (some FieldType.int) : Cond) ∈ lw_tbl := List.mem_of_getElem? (i := 1028) (by decide +kernel)
theorem wm_L_31 : (.methodLink RL 31 yX8_remove : Cond) ∈ lw_tbl := List.mem_of_getElem? (i := 1029) (by decide +kernel)
theorem wi_X8_remove : (.instanceMethod yX8_remove : Cond) ∈ lw_tbl := List.mem_of_getElem? (i := 1030) (by decide +kernel)
theorem ws_X8_remove : (.selects RX8 yX8_remove yX8_remove : Cond) ∈ lw_tbl := List.mem_of_getElem? (i := 1031) (by decide +kernel)
theorem wc_X8_remove : (.code yX8_remove cX8_remove 3 (some FieldType.int) : Cond) ∈ lw_tbl := List.mem_of_getElem? (i := 1032) (by decide +kernel)
theorem wm_X8_184 : (.methodLink RX8 184 yX8_removes : Cond) ∈ lw_tbl := List.mem_of_getElem? (i := 1033) (by decide +kernel)
theorem wi_X8_removes : (.instanceMethod yX8_removes : Cond) ∈ lw_tbl := List.mem_of_getElem? (i := 1035) (by decide +kernel)
theorem wc_X8_removes : (.code yX8_removes cX8_removes 5 (some FieldType.int) : Cond) ∈ lw_tbl := List.mem_of_getElem? (i := 1036) (by decide +kernel)
theorem wm_X8_181 : (.methodLink RX8 181 yX8_isInner : Cond) ∈ lw_tbl := List.mem_of_getElem? (i := 1037) (by decide +kernel)
theorem wi_X8_isInner : (.instanceMethod yX8_isInner : Cond) ∈ lw_tbl := List.mem_of_getElem? (i := 1039) (by decide +kernel)
theorem wc_X8_isInner : (.code yX8_isInner cX8_isInner 4 (some FieldType.boolean) : Cond) ∈ lw_tbl := List.mem_of_getElem? (i := 1040) (by decide +kernel)
theorem wm_L_48 : (.methodLink RL 48 yX8_latest : Cond) ∈ lw_tbl := List.mem_of_getElem? (i := 1041) (by decide +kernel)
theorem wi_X8_latest : (.instanceMethod yX8_latest : Cond) ∈ lw_tbl := List.mem_of_getElem? (i := 1042) (by decide +kernel)
theorem ws_X8_latest : (.selects RX8 yX8_latest yX8_latest : Cond) ∈ lw_tbl := List.mem_of_getElem? (i := 1043) (by decide +kernel)
theorem wc_X8_latest : (.code yX8_latest cX8_latest 2 (some FieldType.int) : Cond) ∈ lw_tbl := List.mem_of_getElem? (i := 1044) (by decide +kernel)
theorem wm_L_35 : (.methodLink RL 35 yX8_told : Cond) ∈ lw_tbl := List.mem_of_getElem? (i := 1045) (by decide +kernel)
theorem wi_X8_told : (.instanceMethod yX8_told : Cond) ∈ lw_tbl := List.mem_of_getElem? (i := 1046) (by decide +kernel)
theorem ws_X8_told : (.selects RX8 yX8_told yX8_told : Cond) ∈ lw_tbl := List.mem_of_getElem? (i := 1047) (by decide +kernel)
theorem wc_X8_told : (.code yX8_told cX8_told 5 (some FieldType.int) : Cond) ∈ lw_tbl := List.mem_of_getElem? (i := 1048) (by decide +kernel)
theorem wm_X8_187 : (.methodLink RX8 187 yX8_isPlace : Cond) ∈ lw_tbl := List.mem_of_getElem? (i := 1049) (by decide +kernel)
theorem wt_X8_isPlace : (.static yX8_isPlace : Cond) ∈ lw_tbl := List.mem_of_getElem? (i := 1050) (by decide +kernel)
theorem wc_X8_isPlace : (.code yX8_isPlace cX8_isPlace 1 (some FieldType.boolean) : Cond) ∈ lw_tbl := List.mem_of_getElem? (i := 1051) (by decide +kernel)
theorem wm_X8_190 : (.methodLink RX8 190 yX8_inners : Cond) ∈ lw_tbl := List.mem_of_getElem? (i := 1052) (by decide +kernel)
theorem wi_X8_inners : (.instanceMethod yX8_inners : Cond) ∈ lw_tbl := List.mem_of_getElem? (i := 1054) (by decide +kernel)
theorem wc_X8_inners : (.code yX8_inners cX8_inners 5 (some FieldType.int) : Cond) ∈ lw_tbl := List.mem_of_getElem? (i := 1055) (by decide +kernel)
theorem wm_X8_193 : (.methodLink RX8 193 yX8_deep : Cond) ∈ lw_tbl := List.mem_of_getElem? (i := 1056) (by decide +kernel)
theorem wi_X8_deep : (.instanceMethod yX8_deep : Cond) ∈ lw_tbl := List.mem_of_getElem? (i := 1058) (by decide +kernel)
theorem wc_X8_deep : (.code yX8_deep cX8_deep 5 (some FieldType.int) : Cond) ∈ lw_tbl := List.mem_of_getElem? (i := 1059) (by decide +kernel)
theorem wm_X8_196 : (.methodLink RX8 196 yX8_ignore : Cond) ∈ lw_tbl := List.mem_of_getElem? (i := 1060) (by decide +kernel)
theorem wi_X8_ignore : (.instanceMethod yX8_ignore : Cond) ∈ lw_tbl := List.mem_of_getElem? (i := 1062) (by decide +kernel)
theorem wc_X8_ignore : (.code yX8_ignore cX8_ignore 4 (none) : Cond) ∈ lw_tbl := List.mem_of_getElem? (i := 1063) (by decide +kernel)
theorem wm_X8_202 : (.methodLink RX8 202 yX8_isIgnoredOn : Cond) ∈ lw_tbl := List.mem_of_getElem? (i := 1064) (by decide +kernel)
theorem wi_X8_isIgnoredOn : (.instanceMethod yX8_isIgnoredOn : Cond) ∈ lw_tbl := List.mem_of_getElem? (i := 1066) (by decide +kernel)
theorem wc_X8_isIgnoredOn : (.code yX8_isIgnoredOn cX8_isIgnoredOn 5 (some FieldType.boolean) : Cond) ∈ lw_tbl := List.mem_of_getElem? (i := 1067) (by decide +kernel)
theorem wm_X8_242 : (.methodLink RX8 242 yX8_tellPath : Cond) ∈ lw_tbl := List.mem_of_getElem? (i := 1068) (by decide +kernel)
theorem wi_X8_tellPath : (.instanceMethod yX8_tellPath : Cond) ∈ lw_tbl := List.mem_of_getElem? (i := 1070) (by decide +kernel)
theorem wc_X8_tellPath : (.code yX8_tellPath cX8_tellPath 5 (none) : Cond) ∈ lw_tbl := List.mem_of_getElem? (i := 1071) (by decide +kernel)
theorem wm_X8_246 : (.methodLink RX8 246 yX8_doesMatch : Cond) ∈ lw_tbl := List.mem_of_getElem? (i := 1072) (by decide +kernel)
theorem wi_X8_doesMatch : (.instanceMethod yX8_doesMatch : Cond) ∈ lw_tbl := List.mem_of_getElem? (i := 1074) (by decide +kernel)
theorem wc_X8_doesMatch : (.code yX8_doesMatch cX8_doesMatch 5 (some FieldType.boolean) : Cond) ∈ lw_tbl := List.mem_of_getElem? (i := 1075) (by decide +kernel)
theorem wm_X8_199 : (.methodLink RX8 199 yX8_changed : Cond) ∈ lw_tbl := List.mem_of_getElem? (i := 1076) (by decide +kernel)
theorem wi_X8_changed : (.instanceMethod yX8_changed : Cond) ∈ lw_tbl := List.mem_of_getElem? (i := 1078) (by decide +kernel)
theorem wc_X8_changed : (.code yX8_changed cX8_changed 3 (some FieldType.int) : Cond) ∈ lw_tbl := List.mem_of_getElem? (i := 1079) (by decide +kernel)
theorem wm_L_39 : (.methodLink RL 39 yX8_find : Cond) ∈ lw_tbl := List.mem_of_getElem? (i := 1080) (by decide +kernel)
theorem wi_X8_find : (.instanceMethod yX8_find : Cond) ∈ lw_tbl := List.mem_of_getElem? (i := 1081) (by decide +kernel)
theorem ws_X8_find : (.selects RX8 yX8_find yX8_find : Cond) ∈ lw_tbl := List.mem_of_getElem? (i := 1082) (by decide +kernel)
theorem wc_X8_find : (.code yX8_find cX8_find 4 (some FieldType.int) : Cond) ∈ lw_tbl := List.mem_of_getElem? (i := 1083) (by decide +kernel)
theorem wm_L_43 : (.methodLink RL 43 yX8_taken : Cond) ∈ lw_tbl := List.mem_of_getElem? (i := 1084) (by decide +kernel)
theorem wi_X8_taken : (.instanceMethod yX8_taken : Cond) ∈ lw_tbl := List.mem_of_getElem? (i := 1085) (by decide +kernel)
theorem ws_X8_taken : (.selects RX8 yX8_taken yX8_taken : Cond) ∈ lw_tbl := List.mem_of_getElem? (i := 1086) (by decide +kernel)
theorem wc_X8_taken : (.code yX8_taken cX8_taken 4 (some FieldType.int) : Cond) ∈ lw_tbl := List.mem_of_getElem? (i := 1087) (by decide +kernel)
theorem wm_L_53 : (.methodLink RL 53 yX8_feed : Cond) ∈ lw_tbl := List.mem_of_getElem? (i := 1088) (by decide +kernel)
theorem wi_X8_feed : (.instanceMethod yX8_feed : Cond) ∈ lw_tbl := List.mem_of_getElem? (i := 1089) (by decide +kernel)
theorem ws_X8_feed : (.selects RX8 yX8_feed yX8_feed : Cond) ∈ lw_tbl := List.mem_of_getElem? (i := 1090) (by decide +kernel)
theorem wc_X8_feed : (.code yX8_feed cX8_feed 8 (some FieldType.int) : Cond) ∈ lw_tbl := List.mem_of_getElem? (i := 1091) (by decide +kernel)
theorem wm_X8_205 : (.methodLink RX8 205 yX8_isByte : Cond) ∈ lw_tbl := List.mem_of_getElem? (i := 1092) (by decide +kernel)
theorem wt_X8_isByte : (.static yX8_isByte : Cond) ∈ lw_tbl := List.mem_of_getElem? (i := 1093) (by decide +kernel)
theorem wc_X8_isByte : (.code yX8_isByte cX8_isByte 1 (some FieldType.boolean) : Cond) ∈ lw_tbl := List.mem_of_getElem? (i := 1094) (by decide +kernel)
theorem wm_L_58 : (.methodLink RL 58 yX8_pattern : Cond) ∈ lw_tbl := List.mem_of_getElem? (i := 1095) (by decide +kernel)
theorem wi_X8_pattern : (.instanceMethod yX8_pattern : Cond) ∈ lw_tbl := List.mem_of_getElem? (i := 1096) (by decide +kernel)
theorem ws_X8_pattern : (.selects RX8 yX8_pattern yX8_pattern : Cond) ∈ lw_tbl := List.mem_of_getElem? (i := 1097) (by decide +kernel)
theorem wc_X8_pattern : (.code yX8_pattern cX8_pattern 1 (some FieldType.int) : Cond) ∈ lw_tbl := List.mem_of_getElem? (i := 1098) (by decide +kernel)
theorem wm_X8_233 : (.methodLink RX8 233 yX8_next : Cond) ∈ lw_tbl := List.mem_of_getElem? (i := 1099) (by decide +kernel)
theorem wi_X8_next : (.instanceMethod yX8_next : Cond) ∈ lw_tbl := List.mem_of_getElem? (i := 1101) (by decide +kernel)
theorem wc_X8_next : (.code yX8_next cX8_next 3 (none) : Cond) ∈ lw_tbl := List.mem_of_getElem? (i := 1102) (by decide +kernel)
theorem wm_X8_218 : (.methodLink RX8 218 yX8_byteAt : Cond) ∈ lw_tbl := List.mem_of_getElem? (i := 1103) (by decide +kernel)
theorem wi_X8_byteAt : (.instanceMethod yX8_byteAt : Cond) ∈ lw_tbl := List.mem_of_getElem? (i := 1105) (by decide +kernel)
theorem wc_X8_byteAt : (.code yX8_byteAt cX8_byteAt 2 (some FieldType.int) : Cond) ∈ lw_tbl := List.mem_of_getElem? (i := 1106) (by decide +kernel)
theorem wm_X8_236 : (.methodLink RX8 236 yX8_part : Cond) ∈ lw_tbl := List.mem_of_getElem? (i := 1107) (by decide +kernel)
theorem wi_X8_part : (.instanceMethod yX8_part : Cond) ∈ lw_tbl := List.mem_of_getElem? (i := 1109) (by decide +kernel)
theorem wc_X8_part : (.code yX8_part cX8_part 1 (none) : Cond) ∈ lw_tbl := List.mem_of_getElem? (i := 1110) (by decide +kernel)
theorem wm_L_62 : (.methodLink RL 62 yX8_drop : Cond) ∈ lw_tbl := List.mem_of_getElem? (i := 1111) (by decide +kernel)
theorem wi_X8_drop : (.instanceMethod yX8_drop : Cond) ∈ lw_tbl := List.mem_of_getElem? (i := 1112) (by decide +kernel)
theorem ws_X8_drop : (.selects RX8 yX8_drop yX8_drop : Cond) ∈ lw_tbl := List.mem_of_getElem? (i := 1113) (by decide +kernel)
theorem wc_X8_drop : (.code yX8_drop cX8_drop 1 (some FieldType.int) : Cond) ∈ lw_tbl := List.mem_of_getElem? (i := 1114) (by decide +kernel)
theorem wm_L_66 : (.methodLink RL 66 yX8_matches : Cond) ∈ lw_tbl := List.mem_of_getElem? (i := 1115) (by decide +kernel)
theorem wi_X8_matches : (.instanceMethod yX8_matches : Cond) ∈ lw_tbl := List.mem_of_getElem? (i := 1116) (by decide +kernel)
theorem ws_X8_matches : (.selects RX8 yX8_matches yX8_matches : Cond) ∈ lw_tbl := List.mem_of_getElem? (i := 1117) (by decide +kernel)
theorem wc_X8_matches : (.code yX8_matches cX8_matches 4 (some FieldType.int) : Cond) ∈ lw_tbl := List.mem_of_getElem? (i := 1118) (by decide +kernel)
theorem wm_L_70 : (.methodLink RL 70 yX8_prefer : Cond) ∈ lw_tbl := List.mem_of_getElem? (i := 1119) (by decide +kernel)
theorem wi_X8_prefer : (.instanceMethod yX8_prefer : Cond) ∈ lw_tbl := List.mem_of_getElem? (i := 1120) (by decide +kernel)
theorem ws_X8_prefer : (.selects RX8 yX8_prefer yX8_prefer : Cond) ∈ lw_tbl := List.mem_of_getElem? (i := 1121) (by decide +kernel)
theorem wc_X8_prefer : (.code yX8_prefer cX8_prefer 3 (some FieldType.int) : Cond) ∈ lw_tbl := List.mem_of_getElem? (i := 1122) (by decide +kernel)
theorem wm_L_78 : (.methodLink RL 78 yX8_target : Cond) ∈ lw_tbl := List.mem_of_getElem? (i := 1123) (by decide +kernel)
theorem wi_X8_target : (.instanceMethod yX8_target : Cond) ∈ lw_tbl := List.mem_of_getElem? (i := 1124) (by decide +kernel)
theorem ws_X8_target : (.selects RX8 yX8_target yX8_target : Cond) ∈ lw_tbl := List.mem_of_getElem? (i := 1125) (by decide +kernel)
theorem wc_X8_target : (.code yX8_target cX8_target 3 (some FieldType.int) : Cond) ∈ lw_tbl := List.mem_of_getElem? (i := 1126) (by decide +kernel)
theorem wm_X8_291 : (.methodLink RX8 291 yX8_tellTarget : Cond) ∈ lw_tbl := List.mem_of_getElem? (i := 1127) (by decide +kernel)
theorem wi_X8_tellTarget : (.instanceMethod yX8_tellTarget : Cond) ∈ lw_tbl := List.mem_of_getElem? (i := 1129) (by decide +kernel)
theorem wc_X8_tellTarget : (.code yX8_tellTarget cX8_tellTarget 3 (none) : Cond) ∈ lw_tbl := List.mem_of_getElem? (i := 1130) (by decide +kernel)
theorem wm_X8_272 : (.methodLink RX8 272 yX8_whoIs : Cond) ∈ lw_tbl := List.mem_of_getElem? (i := 1131) (by decide +kernel)
theorem wi_X8_whoIs : (.instanceMethod yX8_whoIs : Cond) ∈ lw_tbl := List.mem_of_getElem? (i := 1133) (by decide +kernel)
theorem wc_X8_whoIs : (.code yX8_whoIs cX8_whoIs 4 (none) : Cond) ∈ lw_tbl := List.mem_of_getElem? (i := 1134) (by decide +kernel)
theorem wm_X8_252 : (.methodLink RX8 252 yX8_isStirred : Cond) ∈ lw_tbl := List.mem_of_getElem? (i := 1135) (by decide +kernel)
theorem wi_X8_isStirred : (.instanceMethod yX8_isStirred : Cond) ∈ lw_tbl := List.mem_of_getElem? (i := 1137) (by decide +kernel)
theorem wc_X8_isStirred : (.code yX8_isStirred cX8_isStirred 4 (some FieldType.boolean) : Cond) ∈ lw_tbl := List.mem_of_getElem? (i := 1138) (by decide +kernel)
theorem wm_X8_255 : (.methodLink RX8 255 yX8_clashes : Cond) ∈ lw_tbl := List.mem_of_getElem? (i := 1139) (by decide +kernel)
theorem wi_X8_clashes : (.instanceMethod yX8_clashes : Cond) ∈ lw_tbl := List.mem_of_getElem? (i := 1141) (by decide +kernel)
theorem wc_X8_clashes : (.code yX8_clashes cX8_clashes 3 (none) : Cond) ∈ lw_tbl := List.mem_of_getElem? (i := 1142) (by decide +kernel)
theorem wm_X8_276 : (.methodLink RX8 276 yX8_places : Cond) ∈ lw_tbl := List.mem_of_getElem? (i := 1143) (by decide +kernel)
theorem wi_X8_places : (.instanceMethod yX8_places : Cond) ∈ lw_tbl := List.mem_of_getElem? (i := 1145) (by decide +kernel)
theorem wc_X8_places : (.code yX8_places cX8_places 5 (none) : Cond) ∈ lw_tbl := List.mem_of_getElem? (i := 1146) (by decide +kernel)
theorem wm_X8_257 : (.methodLink RX8 257 yX8_sideFor : Cond) ∈ lw_tbl := List.mem_of_getElem? (i := 1147) (by decide +kernel)
theorem wi_X8_sideFor : (.instanceMethod yX8_sideFor : Cond) ∈ lw_tbl := List.mem_of_getElem? (i := 1149) (by decide +kernel)
theorem wc_X8_sideFor : (.code yX8_sideFor cX8_sideFor 9 (some FieldType.int) : Cond) ∈ lw_tbl := List.mem_of_getElem? (i := 1150) (by decide +kernel)
theorem wm_X8_279 : (.methodLink RX8 279 yX8_fills : Cond) ∈ lw_tbl := List.mem_of_getElem? (i := 1151) (by decide +kernel)
theorem wi_X8_fills : (.instanceMethod yX8_fills : Cond) ∈ lw_tbl := List.mem_of_getElem? (i := 1153) (by decide +kernel)
theorem wc_X8_fills : (.code yX8_fills cX8_fills 5 (none) : Cond) ∈ lw_tbl := List.mem_of_getElem? (i := 1154) (by decide +kernel)
theorem wm_X8_282 : (.methodLink RX8 282 yX8_breaksRings : Cond) ∈ lw_tbl := List.mem_of_getElem? (i := 1155) (by decide +kernel)
theorem wi_X8_breaksRings : (.instanceMethod yX8_breaksRings : Cond) ∈ lw_tbl := List.mem_of_getElem? (i := 1157) (by decide +kernel)
theorem wc_X8_breaksRings : (.code yX8_breaksRings cX8_breaksRings 3 (none) : Cond) ∈ lw_tbl := List.mem_of_getElem? (i := 1158) (by decide +kernel)
theorem wm_X8_263 : (.methodLink RX8 263 yX8_isInRing : Cond) ∈ lw_tbl := List.mem_of_getElem? (i := 1159) (by decide +kernel)
theorem wi_X8_isInRing : (.instanceMethod yX8_isInRing : Cond) ∈ lw_tbl := List.mem_of_getElem? (i := 1161) (by decide +kernel)
theorem wc_X8_isInRing : (.code yX8_isInRing cX8_isInRing 4 (some FieldType.boolean) : Cond) ∈ lw_tbl := List.mem_of_getElem? (i := 1162) (by decide +kernel)
theorem wm_X8_285 : (.methodLink RX8 285 yX8_callsAnew : Cond) ∈ lw_tbl := List.mem_of_getElem? (i := 1163) (by decide +kernel)
theorem wi_X8_callsAnew : (.instanceMethod yX8_callsAnew : Cond) ∈ lw_tbl := List.mem_of_getElem? (i := 1165) (by decide +kernel)
theorem wc_X8_callsAnew : (.code yX8_callsAnew cX8_callsAnew 3 (none) : Cond) ∈ lw_tbl := List.mem_of_getElem? (i := 1166) (by decide +kernel)
theorem wm_X8_269 : (.methodLink RX8 269 yX8_isHad : Cond) ∈ lw_tbl := List.mem_of_getElem? (i := 1167) (by decide +kernel)
theorem wi_X8_isHad : (.instanceMethod yX8_isHad : Cond) ∈ lw_tbl := List.mem_of_getElem? (i := 1169) (by decide +kernel)
theorem wc_X8_isHad : (.code yX8_isHad cX8_isHad 5 (some FieldType.boolean) : Cond) ∈ lw_tbl := List.mem_of_getElem? (i := 1170) (by decide +kernel)
theorem wm_X8_266 : (.methodLink RX8 266 yX8_isHadByIgnored : Cond) ∈ lw_tbl := List.mem_of_getElem? (i := 1171) (by decide +kernel)
theorem wi_X8_isHadByIgnored : (.instanceMethod yX8_isHadByIgnored : Cond) ∈ lw_tbl := List.mem_of_getElem? (i := 1173) (by decide +kernel)
theorem wc_X8_isHadByIgnored : (.code yX8_isHadByIgnored cX8_isHadByIgnored 5 (some FieldType.boolean) : Cond) ∈ lw_tbl := List.mem_of_getElem? (i := 1174) (by decide +kernel)
theorem wm_X8_294 : (.methodLink RX8 294 yX8_willDeep : Cond) ∈ lw_tbl := List.mem_of_getElem? (i := 1175) (by decide +kernel)
theorem wi_X8_willDeep : (.instanceMethod yX8_willDeep : Cond) ∈ lw_tbl := List.mem_of_getElem? (i := 1177) (by decide +kernel)
theorem wc_X8_willDeep : (.code yX8_willDeep cX8_willDeep 4 (some FieldType.int) : Cond) ∈ lw_tbl := List.mem_of_getElem? (i := 1178) (by decide +kernel)
theorem wm_L_82 : (.methodLink RL 82 yX8_clash : Cond) ∈ lw_tbl := List.mem_of_getElem? (i := 1179) (by decide +kernel)
theorem wi_X8_clash : (.instanceMethod yX8_clash : Cond) ∈ lw_tbl := List.mem_of_getElem? (i := 1180) (by decide +kernel)
theorem ws_X8_clash : (.selects RX8 yX8_clash yX8_clash : Cond) ∈ lw_tbl := List.mem_of_getElem? (i := 1181) (by decide +kernel)
theorem wc_X8_clash : (.code yX8_clash cX8_clash 3 (some FieldType.int) : Cond) ∈ lw_tbl := List.mem_of_getElem? (i := 1182) (by decide +kernel)
theorem wm_L_86 : (.methodLink RL 86 yX8_step_ : Cond) ∈ lw_tbl := List.mem_of_getElem? (i := 1183) (by decide +kernel)
theorem wi_X8_step_ : (.instanceMethod yX8_step_ : Cond) ∈ lw_tbl := List.mem_of_getElem? (i := 1184) (by decide +kernel)
theorem ws_X8_step_ : (.selects RX8 yX8_step_ yX8_step_ : Cond) ∈ lw_tbl := List.mem_of_getElem? (i := 1185) (by decide +kernel)
theorem wc_X8_step_ : (.code yX8_step_ cX8_step_ 7 (some FieldType.int) : Cond) ∈ lw_tbl := List.mem_of_getElem? (i := 1186) (by decide +kernel)
theorem wm_X8_309 : (.methodLink RX8 309 yX8_tellPlan : Cond) ∈ lw_tbl := List.mem_of_getElem? (i := 1187) (by decide +kernel)
theorem wi_X8_tellPlan : (.instanceMethod yX8_tellPlan : Cond) ∈ lw_tbl := List.mem_of_getElem? (i := 1189) (by decide +kernel)
theorem wc_X8_tellPlan : (.code yX8_tellPlan cX8_tellPlan 4 (none) : Cond) ∈ lw_tbl := List.mem_of_getElem? (i := 1190) (by decide +kernel)
theorem wm_X8_303 : (.methodLink RX8 303 yX8_isAside : Cond) ∈ lw_tbl := List.mem_of_getElem? (i := 1191) (by decide +kernel)
theorem wi_X8_isAside : (.instanceMethod yX8_isAside : Cond) ∈ lw_tbl := List.mem_of_getElem? (i := 1193) (by decide +kernel)
theorem wc_X8_isAside : (.code yX8_isAside cX8_isAside 3 (some FieldType.boolean) : Cond) ∈ lw_tbl := List.mem_of_getElem? (i := 1194) (by decide +kernel)
theorem wm_X8_300 : (.methodLink RX8 300 yX8_isOn : Cond) ∈ lw_tbl := List.mem_of_getElem? (i := 1195) (by decide +kernel)
theorem wi_X8_isOn : (.instanceMethod yX8_isOn : Cond) ∈ lw_tbl := List.mem_of_getElem? (i := 1197) (by decide +kernel)
theorem wc_X8_isOn : (.code yX8_isOn cX8_isOn 3 (some FieldType.boolean) : Cond) ∈ lw_tbl := List.mem_of_getElem? (i := 1198) (by decide +kernel)
theorem wm_X8_306 : (.methodLink RX8 306 yX8_step : Cond) ∈ lw_tbl := List.mem_of_getElem? (i := 1199) (by decide +kernel)
theorem wi_X8_step : (.instanceMethod yX8_step : Cond) ∈ lw_tbl := List.mem_of_getElem? (i := 1201) (by decide +kernel)
theorem wc_X8_step : (.code yX8_step cX8_step 3 (none) : Cond) ∈ lw_tbl := List.mem_of_getElem? (i := 1202) (by decide +kernel)
theorem wm_L_90 : (.methodLink RL 90 yX8_would : Cond) ∈ lw_tbl := List.mem_of_getElem? (i := 1203) (by decide +kernel)
theorem wi_X8_would : (.instanceMethod yX8_would : Cond) ∈ lw_tbl := List.mem_of_getElem? (i := 1204) (by decide +kernel)
theorem ws_X8_would : (.selects RX8 yX8_would yX8_would : Cond) ∈ lw_tbl := List.mem_of_getElem? (i := 1205) (by decide +kernel)
theorem wc_X8_would : (.code yX8_would cX8_would 2 (some FieldType.int) : Cond) ∈ lw_tbl := List.mem_of_getElem? (i := 1206) (by decide +kernel)
theorem wm_X8_312 : (.methodLink RX8 312 yX8_areAlike : Cond) ∈ lw_tbl := List.mem_of_getElem? (i := 1207) (by decide +kernel)
theorem wi_X8_areAlike : (.instanceMethod yX8_areAlike : Cond) ∈ lw_tbl := List.mem_of_getElem? (i := 1209) (by decide +kernel)
theorem wc_X8_areAlike : (.code yX8_areAlike cX8_areAlike 2 (some FieldType.boolean) : Cond) ∈ lw_tbl := List.mem_of_getElem? (i := 1210) (by decide +kernel)
theorem wm_L_74 : (.methodLink RL 74 yX8_sync : Cond) ∈ lw_tbl := List.mem_of_getElem? (i := 1211) (by decide +kernel)
theorem wi_X8_sync : (.instanceMethod yX8_sync : Cond) ∈ lw_tbl := List.mem_of_getElem? (i := 1212) (by decide +kernel)
theorem ws_X8_sync : (.selects RX8 yX8_sync yX8_sync : Cond) ∈ lw_tbl := List.mem_of_getElem? (i := 1213) (by decide +kernel)
theorem wc_X8_sync : (.code yX8_sync cX8_sync 3 (some FieldType.int) : Cond) ∈ lw_tbl := List.mem_of_getElem? (i := 1214) (by decide +kernel)
theorem wm_X8_316 : (.methodLink RX8 316 yX8_becomesTarget : Cond) ∈ lw_tbl := List.mem_of_getElem? (i := 1215) (by decide +kernel)
theorem wi_X8_becomesTarget : (.instanceMethod yX8_becomesTarget : Cond) ∈ lw_tbl := List.mem_of_getElem? (i := 1217) (by decide +kernel)
theorem wc_X8_becomesTarget : (.code yX8_becomesTarget cX8_becomesTarget 3 (none) : Cond) ∈ lw_tbl := List.mem_of_getElem? (i := 1218) (by decide +kernel)
theorem wm_X8_319 : (.methodLink RX8 319 yX8_leavesIgnored : Cond) ∈ lw_tbl := List.mem_of_getElem? (i := 1219) (by decide +kernel)
theorem wi_X8_leavesIgnored : (.instanceMethod yX8_leavesIgnored : Cond) ∈ lw_tbl := List.mem_of_getElem? (i := 1221) (by decide +kernel)
theorem wc_X8_leavesIgnored : (.code yX8_leavesIgnored cX8_leavesIgnored 4 (none) : Cond) ∈ lw_tbl := List.mem_of_getElem? (i := 1222) (by decide +kernel)
theorem wm_L_94 : (.methodLink RL 94 yX8_spared : Cond) ∈ lw_tbl := List.mem_of_getElem? (i := 1223) (by decide +kernel)
theorem wi_X8_spared : (.instanceMethod yX8_spared : Cond) ∈ lw_tbl := List.mem_of_getElem? (i := 1224) (by decide +kernel)
theorem ws_X8_spared : (.selects RX8 yX8_spared yX8_spared : Cond) ∈ lw_tbl := List.mem_of_getElem? (i := 1225) (by decide +kernel)
theorem wc_X8_spared : (.code yX8_spared cX8_spared 5 (some FieldType.int) : Cond) ∈ lw_tbl := List.mem_of_getElem? (i := 1226) (by decide +kernel)
theorem wm_L_98 : (.methodLink RL 98 yX8_drawn : Cond) ∈ lw_tbl := List.mem_of_getElem? (i := 1227) (by decide +kernel)
theorem wi_X8_drawn : (.instanceMethod yX8_drawn : Cond) ∈ lw_tbl := List.mem_of_getElem? (i := 1228) (by decide +kernel)
theorem ws_X8_drawn : (.selects RX8 yX8_drawn yX8_drawn : Cond) ∈ lw_tbl := List.mem_of_getElem? (i := 1229) (by decide +kernel)
theorem wc_X8_drawn : (.code yX8_drawn cX8_drawn 3 (some FieldType.int) : Cond) ∈ lw_tbl := List.mem_of_getElem? (i := 1230) (by decide +kernel)
theorem wm_X8_351 : (.methodLink RX8 351 yX8_byLot : Cond) ∈ lw_tbl := List.mem_of_getElem? (i := 1231) (by decide +kernel)
theorem wi_X8_byLot : (.instanceMethod yX8_byLot : Cond) ∈ lw_tbl := List.mem_of_getElem? (i := 1233) (by decide +kernel)
theorem wc_X8_byLot : (.code yX8_byLot cX8_byLot 12 (some FieldType.int) : Cond) ∈ lw_tbl := List.mem_of_getElem? (i := 1234) (by decide +kernel)
theorem wm_X8_332 : (.methodLink RX8 332 yX8_keep : Cond) ∈ lw_tbl := List.mem_of_getElem? (i := 1235) (by decide +kernel)
theorem wi_X8_keep : (.instanceMethod yX8_keep : Cond) ∈ lw_tbl := List.mem_of_getElem? (i := 1237) (by decide +kernel)
theorem wc_X8_keep : (.code yX8_keep cX8_keep 2 (none) : Cond) ∈ lw_tbl := List.mem_of_getElem? (i := 1238) (by decide +kernel)
theorem wm_X8_322 : (.methodLink RX8 322 ⟨"java/lang/System", "arraycopy", "(Ljava/lang/Object;ILjava/lang/Object;II)V"⟩ : Cond) ∈ lw_tbl := List.mem_of_getElem? (i := 1239) (by decide +kernel)
theorem wm_X8_335 : (.methodLink RX8 335 yX8_draw : Cond) ∈ lw_tbl := List.mem_of_getElem? (i := 1240) (by decide +kernel)
theorem wi_X8_draw : (.instanceMethod yX8_draw : Cond) ∈ lw_tbl := List.mem_of_getElem? (i := 1242) (by decide +kernel)
theorem wc_X8_draw : (.code yX8_draw cX8_draw 2 (some FieldType.int) : Cond) ∈ lw_tbl := List.mem_of_getElem? (i := 1243) (by decide +kernel)
theorem wk_X8_331 : (.constant RX8 331 1103515245 : Cond) ∈ lw_tbl := List.mem_of_getElem? (i := 1244) (by decide +kernel)
theorem wm_X8_338 : (.methodLink RX8 338 yX8_write : Cond) ∈ lw_tbl := List.mem_of_getElem? (i := 1245) (by decide +kernel)
theorem wm_X8_341 : (.methodLink RX8 341 yX8_move : Cond) ∈ lw_tbl := List.mem_of_getElem? (i := 1246) (by decide +kernel)
theorem wm_X8_345 : (.methodLink RX8 345 yX8_remove : Cond) ∈ lw_tbl := List.mem_of_getElem? (i := 1247) (by decide +kernel)
theorem wm_X8_348 : (.methodLink RX8 348 yX8_layBack : Cond) ∈ lw_tbl := List.mem_of_getElem? (i := 1248) (by decide +kernel)
theorem wi_X8_layBack : (.instanceMethod yX8_layBack : Cond) ∈ lw_tbl := List.mem_of_getElem? (i := 1250) (by decide +kernel)
theorem wc_X8_layBack : (.code yX8_layBack cX8_layBack 2 (none) : Cond) ∈ lw_tbl := List.mem_of_getElem? (i := 1251) (by decide +kernel)
theorem wm_L_102 : (.methodLink RL 102 yX8_chance : Cond) ∈ lw_tbl := List.mem_of_getElem? (i := 1252) (by decide +kernel)
theorem wi_X8_chance : (.instanceMethod yX8_chance : Cond) ∈ lw_tbl := List.mem_of_getElem? (i := 1253) (by decide +kernel)
theorem ws_X8_chance : (.selects RX8 yX8_chance yX8_chance : Cond) ∈ lw_tbl := List.mem_of_getElem? (i := 1254) (by decide +kernel)
theorem wc_X8_chance : (.code yX8_chance cX8_chance 6 (some FieldType.int) : Cond) ∈ lw_tbl := List.mem_of_getElem? (i := 1255) (by decide +kernel)
theorem wm_X8_354 : (.methodLink RX8 354 yX8_common : Cond) ∈ lw_tbl := List.mem_of_getElem? (i := 1256) (by decide +kernel)
theorem wt_X8_common : (.static yX8_common : Cond) ∈ lw_tbl := List.mem_of_getElem? (i := 1257) (by decide +kernel)
theorem wc_X8_common : (.code yX8_common cX8_common 2 (some FieldType.int) : Cond) ∈ lw_tbl := List.mem_of_getElem? (i := 1258) (by decide +kernel)
theorem wm_L_106 : (.methodLink RL 106 yX8_tells : Cond) ∈ lw_tbl := List.mem_of_getElem? (i := 1259) (by decide +kernel)
theorem wi_X8_tells : (.instanceMethod yX8_tells : Cond) ∈ lw_tbl := List.mem_of_getElem? (i := 1260) (by decide +kernel)
theorem ws_X8_tells : (.selects RX8 yX8_tells yX8_tells : Cond) ∈ lw_tbl := List.mem_of_getElem? (i := 1261) (by decide +kernel)
theorem wc_X8_tells : (.code yX8_tells cX8_tells 6 (some FieldType.int) : Cond) ∈ lw_tbl := List.mem_of_getElem? (i := 1262) (by decide +kernel)
theorem wm_X8_360 : (.methodLink RX8 360 yX8_isSheet : Cond) ∈ lw_tbl := List.mem_of_getElem? (i := 1263) (by decide +kernel)
theorem wt_X8_isSheet : (.static yX8_isSheet : Cond) ∈ lw_tbl := List.mem_of_getElem? (i := 1264) (by decide +kernel)
theorem wc_X8_isSheet : (.code yX8_isSheet cX8_isSheet 1 (some FieldType.boolean) : Cond) ∈ lw_tbl := List.mem_of_getElem? (i := 1265) (by decide +kernel)
theorem wm_X8_363 : (.methodLink RX8 363 yX8_otherwise : Cond) ∈ lw_tbl := List.mem_of_getElem? (i := 1266) (by decide +kernel)
theorem wi_X8_otherwise : (.instanceMethod yX8_otherwise : Cond) ∈ lw_tbl := List.mem_of_getElem? (i := 1268) (by decide +kernel)
theorem wc_X8_otherwise : (.code yX8_otherwise cX8_otherwise 4 (some FieldType.int) : Cond) ∈ lw_tbl := List.mem_of_getElem? (i := 1269) (by decide +kernel)
theorem wm_X8_357 : (.methodLink RX8 357 yX8_contentOn : Cond) ∈ lw_tbl := List.mem_of_getElem? (i := 1270) (by decide +kernel)
theorem wi_X8_contentOn : (.instanceMethod yX8_contentOn : Cond) ∈ lw_tbl := List.mem_of_getElem? (i := 1272) (by decide +kernel)
theorem wc_X8_contentOn : (.code yX8_contentOn cX8_contentOn 3 (some FieldType.int) : Cond) ∈ lw_tbl := List.mem_of_getElem? (i := 1273) (by decide +kernel)
theorem wm_X8_366 : (.methodLink RX8 366 yX8_isTarget : Cond) ∈ lw_tbl := List.mem_of_getElem? (i := 1274) (by decide +kernel)
theorem wi_X8_isTarget : (.instanceMethod yX8_isTarget : Cond) ∈ lw_tbl := List.mem_of_getElem? (i := 1276) (by decide +kernel)
theorem wc_X8_isTarget : (.code yX8_isTarget cX8_isTarget 4 (some FieldType.boolean) : Cond) ∈ lw_tbl := List.mem_of_getElem? (i := 1277) (by decide +kernel)
theorem wm_L_110 : (.methodLink RL 110 yX8_film : Cond) ∈ lw_tbl := List.mem_of_getElem? (i := 1278) (by decide +kernel)
theorem wi_X8_film : (.instanceMethod yX8_film : Cond) ∈ lw_tbl := List.mem_of_getElem? (i := 1279) (by decide +kernel)
theorem ws_X8_film : (.selects RX8 yX8_film yX8_film : Cond) ∈ lw_tbl := List.mem_of_getElem? (i := 1280) (by decide +kernel)
theorem wc_X8_film : (.code yX8_film cX8_film 5 (some FieldType.int) : Cond) ∈ lw_tbl := List.mem_of_getElem? (i := 1281) (by decide +kernel)
theorem wm_L_114 : (.methodLink RL 114 yX8_image : Cond) ∈ lw_tbl := List.mem_of_getElem? (i := 1282) (by decide +kernel)
theorem wi_X8_image : (.instanceMethod yX8_image : Cond) ∈ lw_tbl := List.mem_of_getElem? (i := 1283) (by decide +kernel)
theorem ws_X8_image : (.selects RX8 yX8_image yX8_image : Cond) ∈ lw_tbl := List.mem_of_getElem? (i := 1284) (by decide +kernel)
theorem wc_X8_image : (.code yX8_image cX8_image 2 (some FieldType.int) : Cond) ∈ lw_tbl := List.mem_of_getElem? (i := 1285) (by decide +kernel)
theorem wm_L_118 : (.methodLink RL 118 yX8_back : Cond) ∈ lw_tbl := List.mem_of_getElem? (i := 1286) (by decide +kernel)
theorem wi_X8_back : (.instanceMethod yX8_back : Cond) ∈ lw_tbl := List.mem_of_getElem? (i := 1287) (by decide +kernel)
theorem ws_X8_back : (.selects RX8 yX8_back yX8_back : Cond) ∈ lw_tbl := List.mem_of_getElem? (i := 1288) (by decide +kernel)
theorem wc_X8_back : (.code yX8_back cX8_back 2 (some FieldType.int) : Cond) ∈ lw_tbl := List.mem_of_getElem? (i := 1289) (by decide +kernel)
theorem wm_L_122 : (.methodLink RL 122 yX8_count : Cond) ∈ lw_tbl := List.mem_of_getElem? (i := 1290) (by decide +kernel)
theorem wi_X8_count : (.instanceMethod yX8_count : Cond) ∈ lw_tbl := List.mem_of_getElem? (i := 1291) (by decide +kernel)
theorem ws_X8_count : (.selects RX8 yX8_count yX8_count : Cond) ∈ lw_tbl := List.mem_of_getElem? (i := 1292) (by decide +kernel)
theorem wc_X8_count : (.code yX8_count cX8_count 4 (some FieldType.int) : Cond) ∈ lw_tbl := List.mem_of_getElem? (i := 1293) (by decide +kernel)
theorem wm_L_126 : (.methodLink RL 126 yX8_sheet : Cond) ∈ lw_tbl := List.mem_of_getElem? (i := 1294) (by decide +kernel)
theorem wi_X8_sheet : (.instanceMethod yX8_sheet : Cond) ∈ lw_tbl := List.mem_of_getElem? (i := 1295) (by decide +kernel)
theorem ws_X8_sheet : (.selects RX8 yX8_sheet yX8_sheet : Cond) ∈ lw_tbl := List.mem_of_getElem? (i := 1296) (by decide +kernel)
theorem wc_X8_sheet : (.code yX8_sheet cX8_sheet 5 (some FieldType.int) : Cond) ∈ lw_tbl := List.mem_of_getElem? (i := 1297) (by decide +kernel)
theorem wm_L_130 : (.methodLink RL 130 yX8_cell : Cond) ∈ lw_tbl := List.mem_of_getElem? (i := 1298) (by decide +kernel)
theorem wi_X8_cell : (.instanceMethod yX8_cell : Cond) ∈ lw_tbl := List.mem_of_getElem? (i := 1299) (by decide +kernel)
theorem ws_X8_cell : (.selects RX8 yX8_cell yX8_cell : Cond) ∈ lw_tbl := List.mem_of_getElem? (i := 1300) (by decide +kernel)
theorem wc_X8_cell : (.code yX8_cell cX8_cell 4 (some FieldType.int) : Cond) ∈ lw_tbl := List.mem_of_getElem? (i := 1301) (by decide +kernel)
theorem wm_L_135 : (.methodLink RL 135 yX8_copy : Cond) ∈ lw_tbl := List.mem_of_getElem? (i := 1302) (by decide +kernel)
theorem wi_X8_copy : (.instanceMethod yX8_copy : Cond) ∈ lw_tbl := List.mem_of_getElem? (i := 1303) (by decide +kernel)
theorem ws_X8_copy : (.selects RX8 yX8_copy yX8_copy : Cond) ∈ lw_tbl := List.mem_of_getElem? (i := 1304) (by decide +kernel)
theorem wc_X8_copy : (.code yX8_copy cX8_copy 6 (some FieldType.int) : Cond) ∈ lw_tbl := List.mem_of_getElem? (i := 1305) (by decide +kernel)
theorem inX0 : ∀ w ∈ wsX00, w ∈ lw_tbl := by decide +kernel
theorem inX1 : ∀ w ∈ wsX10, w ∈ lw_tbl := by decide +kernel
theorem inX2 : ∀ w ∈ wsX20, w ∈ lw_tbl := by decide +kernel
theorem inX3 : ∀ w ∈ wsX30, w ∈ lw_tbl := by decide +kernel
theorem inX4 : ∀ w ∈ wsX40, w ∈ lw_tbl := by decide +kernel
theorem inX5 : ∀ w ∈ wsX50, w ∈ lw_tbl := by decide +kernel
theorem inX6 : ∀ w ∈ wsX60, w ∈ lw_tbl := by decide +kernel
theorem inX7 : ∀ w ∈ wsX70, w ∈ lw_tbl := by decide +kernel
theorem inX8 : ∀ w ∈ wsX80, w ∈ lw_tbl := by decide +kernel
def lwG : List Cond := lw_tbl.filter goodWord
theorem lw_g {w : Cond} (h : w ∈ lw_tbl) (hg : goodWord w = true) : w ∈ lwG := List.mem_filter.mpr ⟨h, hg⟩
