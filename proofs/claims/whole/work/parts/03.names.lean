/-! ===== BEGIN printed: names, fields, word lists, decode rows ===== -/
def RX0 : String := "FrostPane$FlowerPicker"
def TX0 : u_T := fun k => match k with
  | 0 => ("FrostPane$FlowerPicker", "left", "[I", true)
  | _ => ("FrostPane$FlowerPicker", "flower", "[I", true)
def tyX0 : Nat → FieldType := fun k => match k with
  | 0 => .array .int
  | _ => .array .int
abbrev wsX00 : List Cond := u_ws RX0 TX0 2
theorem nmX0 : ∀ a, a < 2 → ∀ b, b < 2 → a ≠ b → (TX0 a).2.1 ≠ (TX0 b).2.1 := by decide +kernel
theorem tyX0_ok : ∀ k, k < 2 → parseFieldDescriptor (TX0 k).2.2.1 = some (tyX0 k) := by decide +kernel
abbrev cX0_init : ByteArray := prog_2_method_1_code
def yX0_init : MethodName := ⟨RX0, "<init>", "()V"⟩
abbrev cX0_spreadOut : ByteArray := prog_2_method_2_code
def yX0_spreadOut : MethodName := ⟨RX0, "spreadOut", "(LFrostPane$Pane;)V"⟩
abbrev cX0_pick : ByteArray := prog_2_method_3_code
def yX0_pick : MethodName := ⟨RX0, "pick", "(II)I"⟩
abbrev cX0_widen : ByteArray := prog_2_method_4_code
def yX0_widen : MethodName := ⟨RX0, "widen", "()Z"⟩
abbrev cX0_flowerIn : ByteArray := prog_2_method_5_code
def yX0_flowerIn : MethodName := ⟨RX0, "flowerIn", "(I)I"⟩
abbrev cX0_takeAway : ByteArray := prog_2_method_6_code
def yX0_takeAway : MethodName := ⟨RX0, "takeAway", "()I"⟩
def RX1 : String := "FrostPane$Pane"
def TX1 : u_T := fun k => match k with
  | 0 => ("FrostPane$Pane", "frost", "[I", true)
  | 1 => ("FrostPane$Pane", "frostNext", "[I", true)
  | 2 => ("FrostPane$Pane", "melts", "[I", true)
  | 3 => ("FrostPane$Pane", "columns", "I", false)
  | 4 => ("FrostPane$Pane", "rows", "I", false)
  | _ => ("FrostPane$Pane", "frame", "I", false)
def tyX1 : Nat → FieldType := fun k => match k with
  | 0 => .array .int
  | 1 => .array .int
  | 2 => .array .int
  | 3 => .int
  | 4 => .int
  | _ => .int
abbrev wsX10 : List Cond := u_ws RX1 TX1 6
theorem nmX1 : ∀ a, a < 6 → ∀ b, b < 6 → a ≠ b → (TX1 a).2.1 ≠ (TX1 b).2.1 := by decide +kernel
theorem tyX1_ok : ∀ k, k < 6 → parseFieldDescriptor (TX1 k).2.2.1 = some (tyX1 k) := by decide +kernel
abbrev cX1_init : ByteArray := prog_3_method_1_code
def yX1_init : MethodName := ⟨RX1, "<init>", "()V"⟩
abbrev cX1_layClear : ByteArray := prog_3_method_2_code
def yX1_layClear : MethodName := ⟨RX1, "layClear", "(II)V"⟩
abbrev cX1_becomeLike : ByteArray := prog_3_method_3_code
def yX1_becomeLike : MethodName := ⟨RX1, "becomeLike", "(LFrostPane$Pane;)V"⟩
abbrev cX1_isLike : ByteArray := prog_3_method_4_code
def yX1_isLike : MethodName := ⟨RX1, "isLike", "(LFrostPane$Pane;)Z"⟩
abbrev cX1_hasRow : ByteArray := prog_3_method_5_code
def yX1_hasRow : MethodName := ⟨RX1, "hasRow", "(I)Z"⟩
abbrev cX1_hasCell : ByteArray := prog_3_method_6_code
def yX1_hasCell : MethodName := ⟨RX1, "hasCell", "(II)Z"⟩
abbrev cX1_bitsOf : ByteArray := prog_3_method_7_code
def yX1_bitsOf : MethodName := ⟨RX1, "bitsOf", "(I)I"⟩
abbrev cX1_hasFrost : ByteArray := prog_3_method_8_code
def yX1_hasFrost : MethodName := ⟨RX1, "hasFrost", "(II)Z"⟩
abbrev cX1_meltOf : ByteArray := prog_3_method_9_code
def yX1_meltOf : MethodName := ⟨RX1, "meltOf", "(II)I"⟩
abbrev cX1_flip : ByteArray := prog_3_method_10_code
def yX1_flip : MethodName := ⟨RX1, "flip", "(II)V"⟩
abbrev cX1_melt : ByteArray := prog_3_method_11_code
def yX1_melt : MethodName := ⟨RX1, "melt", "(III)I"⟩
abbrev cX1_countFrost : ByteArray := prog_3_method_12_code
def yX1_countFrost : MethodName := ⟨RX1, "countFrost", "()I"⟩
abbrev cX1_countMelted : ByteArray := prog_3_method_13_code
def yX1_countMelted : MethodName := ⟨RX1, "countMelted", "()I"⟩
abbrev cX1_countAround : ByteArray := prog_3_method_14_code
def yX1_countAround : MethodName := ⟨RX1, "countAround", "(II)I"⟩
abbrev cX1_isFrozenNext : ByteArray := prog_3_method_15_code
def yX1_isFrozenNext : MethodName := ⟨RX1, "isFrozenNext", "(IIII)Z"⟩
abbrev cX1_step : ByteArray := prog_3_method_16_code
def yX1_step : MethodName := ⟨RX1, "step", "(II)Z"⟩
abbrev cX1_meltLess : ByteArray := prog_3_method_17_code
def yX1_meltLess : MethodName := ⟨RX1, "meltLess", "()V"⟩
abbrev cX1_takeNext : ByteArray := prog_3_method_18_code
def yX1_takeNext : MethodName := ⟨RX1, "takeNext", "()Z"⟩
abbrev cX1_grownRow : ByteArray := prog_3_method_19_code
def yX1_grownRow : MethodName := ⟨RX1, "grownRow", "(III)I"⟩
abbrev cX1_countIn : ByteArray := prog_3_method_20_code
def yX1_countIn : MethodName := ⟨RX1, "countIn", "(IIII)I"⟩
abbrev cX1_framed : ByteArray := prog_3_method_21_code
def yX1_framed : MethodName := ⟨RX1, "framed", "(I)I"⟩
abbrev cX1_withSides : ByteArray := prog_3_method_22_code
def yX1_withSides : MethodName := ⟨RX1, "withSides", "(I)I"⟩
def RX2 : String := "FrostPane$RuleBook"
def TX2 : u_T := fun k => match k with
  | 0 => ("FrostPane$RuleBook", "freezes", "[I", true)
  | 1 => ("FrostPane$RuleBook", "stays", "[I", true)
  | _ => ("FrostPane$RuleBook", "count", "I", false)
def tyX2 : Nat → FieldType := fun k => match k with
  | 0 => .array .int
  | 1 => .array .int
  | _ => .int
abbrev wsX20 : List Cond := u_ws RX2 TX2 3
theorem nmX2 : ∀ a, a < 3 → ∀ b, b < 3 → a ≠ b → (TX2 a).2.1 ≠ (TX2 b).2.1 := by decide +kernel
theorem tyX2_ok : ∀ k, k < 3 → parseFieldDescriptor (TX2 k).2.2.1 = some (tyX2 k) := by decide +kernel
abbrev cX2_init : ByteArray := prog_4_method_1_code
def yX2_init : MethodName := ⟨RX2, "<init>", "()V"⟩
abbrev cX2_isFull : ByteArray := prog_4_method_2_code
def yX2_isFull : MethodName := ⟨RX2, "isFull", "()Z"⟩
abbrev cX2_has : ByteArray := prog_4_method_3_code
def yX2_has : MethodName := ⟨RX2, "has", "(I)Z"⟩
abbrev cX2_append : ByteArray := prog_4_method_4_code
def yX2_append : MethodName := ⟨RX2, "append", "(II)I"⟩
abbrev cX2_freezesBy : ByteArray := prog_4_method_5_code
def yX2_freezesBy : MethodName := ⟨RX2, "freezesBy", "(I)I"⟩
abbrev cX2_staysBy : ByteArray := prog_4_method_6_code
def yX2_staysBy : MethodName := ⟨RX2, "staysBy", "(I)I"⟩
def RX3 : String := "FrostPane"
def TX3 : u_T := fun k => match k with
  | 0 => ("FrostPane", "now", "LFrostPane$Pane;", true)
  | 1 => ("FrostPane", "ahead", "LFrostPane$Pane;", true)
  | 2 => ("FrostPane", "picker", "LFrostPane$FlowerPicker;", true)
  | 3 => ("FrostPane", "book", "LFrostPane$RuleBook;", true)
  | 4 => ("FrostPane", "breath", "I", false)
  | _ => ("FrostPane", "generation", "I", false)
def tyX3 : Nat → FieldType := fun k => match k with
  | 0 => .object "FrostPane$Pane"
  | 1 => .object "FrostPane$Pane"
  | 2 => .object "FrostPane$FlowerPicker"
  | 3 => .object "FrostPane$RuleBook"
  | 4 => .int
  | _ => .int
abbrev wsX30 : List Cond := u_ws RX3 TX3 6
theorem nmX3 : ∀ a, a < 6 → ∀ b, b < 6 → a ≠ b → (TX3 a).2.1 ≠ (TX3 b).2.1 := by decide +kernel
theorem tyX3_ok : ∀ k, k < 6 → parseFieldDescriptor (TX3 k).2.2.1 = some (tyX3 k) := by decide +kernel
abbrev cX3_init : ByteArray := prog_1_method_1_code
def yX3_init : MethodName := ⟨RX3, "<init>", "()V"⟩
abbrev cX3_lay : ByteArray := prog_1_method_2_code
def yX3_lay : MethodName := ⟨RX3, "lay", "(II)I"⟩
abbrev cX3_turn : ByteArray := prog_1_method_3_code
def yX3_turn : MethodName := ⟨RX3, "turn", "(II)Z"⟩
abbrev cX3_press : ByteArray := prog_1_method_4_code
def yX3_press : MethodName := ⟨RX3, "press", "(III)I"⟩
abbrev cX3_setFrame : ByteArray := prog_1_method_5_code
def yX3_setFrame : MethodName := ⟨RX3, "setFrame", "(I)I"⟩
abbrev cX3_addRule : ByteArray := prog_1_method_6_code
def yX3_addRule : MethodName := ⟨RX3, "addRule", "(II)I"⟩
abbrev cX3_breathe : ByteArray := prog_1_method_7_code
def yX3_breathe : MethodName := ⟨RX3, "breathe", "(I)I"⟩
abbrev cX3_grow : ByteArray := prog_1_method_8_code
def yX3_grow : MethodName := ⟨RX3, "grow", "(I)I"⟩
abbrev cX3_columns : ByteArray := prog_1_method_9_code
def yX3_columns : MethodName := ⟨RX3, "columns", "()I"⟩
abbrev cX3_rows : ByteArray := prog_1_method_10_code
def yX3_rows : MethodName := ⟨RX3, "rows", "()I"⟩
abbrev cX3_generation : ByteArray := prog_1_method_11_code
def yX3_generation : MethodName := ⟨RX3, "generation", "()I"⟩
abbrev cX3_rules : ByteArray := prog_1_method_12_code
def yX3_rules : MethodName := ⟨RX3, "rules", "()I"⟩
abbrev cX3_breath : ByteArray := prog_1_method_13_code
def yX3_breath : MethodName := ⟨RX3, "breath", "()I"⟩
abbrev cX3_frozen : ByteArray := prog_1_method_14_code
def yX3_frozen : MethodName := ⟨RX3, "frozen", "()I"⟩
abbrev cX3_melted : ByteArray := prog_1_method_15_code
def yX3_melted : MethodName := ⟨RX3, "melted", "()I"⟩
abbrev cX3_isFrozen : ByteArray := prog_1_method_16_code
def yX3_isFrozen : MethodName := ⟨RX3, "isFrozen", "(II)Z"⟩
abbrev cX3_meltedFor : ByteArray := prog_1_method_17_code
def yX3_meltedFor : MethodName := ⟨RX3, "meltedFor", "(II)I"⟩
abbrev cX3_around : ByteArray := prog_1_method_18_code
def yX3_around : MethodName := ⟨RX3, "around", "(II)I"⟩
abbrev cX3_willFreeze : ByteArray := prog_1_method_19_code
def yX3_willFreeze : MethodName := ⟨RX3, "willFreeze", "(II)Z"⟩
abbrev cX3_frozenInRow : ByteArray := prog_1_method_20_code
def yX3_frozenInRow : MethodName := ⟨RX3, "frozenInRow", "(I)I"⟩
abbrev cX3_flowers : ByteArray := prog_1_method_21_code
def yX3_flowers : MethodName := ⟨RX3, "flowers", "()I"⟩
abbrev cX3_largestFlower : ByteArray := prog_1_method_22_code
def yX3_largestFlower : MethodName := ⟨RX3, "largestFlower", "()I"⟩
abbrev cX3_flowerAt : ByteArray := prog_1_method_23_code
def yX3_flowerAt : MethodName := ⟨RX3, "flowerAt", "(II)I"⟩
abbrev cX3_isMirrored : ByteArray := prog_1_method_24_code
def yX3_isMirrored : MethodName := ⟨RX3, "isMirrored", "()Z"⟩
abbrev cX3_frozenIn : ByteArray := prog_1_method_25_code
def yX3_frozenIn : MethodName := ⟨RX3, "frozenIn", "(I)I"⟩
abbrev cX3_comesAgainIn : ByteArray := prog_1_method_26_code
def yX3_comesAgainIn : MethodName := ⟨RX3, "comesAgainIn", "()I"⟩
abbrev cX3_standsStillIn : ByteArray := prog_1_method_27_code
def yX3_standsStillIn : MethodName := ⟨RX3, "standsStillIn", "()I"⟩
abbrev cX3_peakIn : ByteArray := prog_1_method_28_code
def yX3_peakIn : MethodName := ⟨RX3, "peakIn", "(I)I"⟩
abbrev cX3_bestBreath : ByteArray := prog_1_method_29_code
def yX3_bestBreath : MethodName := ⟨RX3, "bestBreath", "(I)I"⟩
abbrev cX3_meanInRows : ByteArray := prog_1_method_30_code
def yX3_meanInRows : MethodName := ⟨RX3, "meanInRows", "()D"⟩
abbrev cX3_digest : ByteArray := prog_1_method_31_code
def yX3_digest : MethodName := ⟨RX3, "digest", "()J"⟩
abbrev cX3_digestOfRow : ByteArray := prog_1_method_32_code
def yX3_digestOfRow : MethodName := ⟨RX3, "digestOfRow", "(JI)J"⟩
abbrev cX3_mixed : ByteArray := prog_1_method_33_code
def yX3_mixed : MethodName := ⟨RX3, "mixed", "(JJ)J"⟩
abbrev cX3_asNumber : ByteArray := prog_1_method_34_code
def yX3_asNumber : MethodName := ⟨RX3, "asNumber", "(Z)J"⟩
abbrev cX3_frostBehind : ByteArray := prog_1_method_35_code
def yX3_frostBehind : MethodName := ⟨RX3, "frostBehind", "(II)I"⟩
abbrev cX3_requireCell : ByteArray := prog_1_method_36_code
def yX3_requireCell : MethodName := ⟨RX3, "requireCell", "(II)V"⟩
abbrev cX3_requireWithin : ByteArray := prog_1_method_37_code
def yX3_requireWithin : MethodName := ⟨RX3, "requireWithin", "(III)V"⟩
def RX4 : String := "FrostPaneModel"
def TX4 : u_T := fun k => match k with
  | 0 => ("FrostPaneModel", "thrown", "I", false)
  | 1 => ("FrostPaneModel", "columns", "I", false)
  | 2 => ("FrostPaneModel", "rows", "I", false)
  | 3 => ("FrostPaneModel", "frame", "I", false)
  | 4 => ("FrostPaneModel", "generation", "I", false)
  | 5 => ("FrostPaneModel", "rules", "I", false)
  | 6 => ("FrostPaneModel", "breath", "I", false)
  | 7 => ("FrostPaneModel", "freezes", "[I", true)
  | 8 => ("FrostPaneModel", "stays", "[I", true)
  | 9 => ("FrostPaneModel", "ice", "[I", true)
  | 10 => ("FrostPaneModel", "melt", "[I", true)
  | 11 => ("FrostPaneModel", "kept", "[I", true)
  | 12 => ("FrostPaneModel", "keptMelt", "[I", true)
  | 13 => ("FrostPaneModel", "next", "[I", true)
  | 14 => ("FrostPaneModel", "sum", "[I", true)
  | _ => ("FrostPaneModel", "isSeen", "[Z", true)
def tyX4 : Nat → FieldType := fun k => match k with
  | 0 => .int
  | 1 => .int
  | 2 => .int
  | 3 => .int
  | 4 => .int
  | 5 => .int
  | 6 => .int
  | 7 => .array .int
  | 8 => .array .int
  | 9 => .array .int
  | 10 => .array .int
  | 11 => .array .int
  | 12 => .array .int
  | 13 => .array .int
  | 14 => .array .int
  | _ => .array .boolean
abbrev wsX40 : List Cond := u_ws RX4 TX4 16
theorem nmX4 : ∀ a, a < 16 → ∀ b, b < 16 → a ≠ b → (TX4 a).2.1 ≠ (TX4 b).2.1 := by decide +kernel
theorem tyX4_ok : ∀ k, k < 16 → parseFieldDescriptor (TX4 k).2.2.1 = some (tyX4 k) := by decide +kernel
abbrev cX4_init : ByteArray := prog_6_method_1_code
def yX4_init : MethodName := ⟨RX4, "<init>", "()V"⟩
abbrev cX4_thrown : ByteArray := prog_6_method_2_code
def yX4_thrown : MethodName := ⟨RX4, "thrown", "()I"⟩
abbrev cX4_no : ByteArray := prog_6_method_3_code
def yX4_no : MethodName := ⟨RX4, "no", "(I)I"⟩
abbrev cX4_isNot : ByteArray := prog_6_method_4_code
def yX4_isNot : MethodName := ⟨RX4, "isNot", "(I)Z"⟩
abbrev cX4_ok : ByteArray := prog_6_method_5_code
def yX4_ok : MethodName := ⟨RX4, "ok", "(I)I"⟩
abbrev cX4_isIn : ByteArray := prog_6_method_6_code
def yX4_isIn : MethodName := ⟨RX4, "isIn", "(III)Z"⟩
abbrev cX4_isCell : ByteArray := prog_6_method_7_code
def yX4_isCell : MethodName := ⟨RX4, "isCell", "(II)Z"⟩
abbrev cX4_is : ByteArray := prog_6_method_8_code
def yX4_is : MethodName := ⟨RX4, "is", "(II)Z"⟩
abbrev cX4_full : ByteArray := prog_6_method_9_code
def yX4_full : MethodName := ⟨RX4, "full", "()I"⟩
abbrev cX4_wide : ByteArray := prog_6_method_10_code
def yX4_wide : MethodName := ⟨RX4, "wide", "(I)I"⟩
abbrev cX4_add : ByteArray := prog_6_method_11_code
def yX4_add : MethodName := ⟨RX4, "add", "(I)V"⟩
abbrev cX4_count : ByteArray := prog_6_method_12_code
def yX4_count : MethodName := ⟨RX4, "count", "(I)V"⟩
abbrev cX4_counted : ByteArray := prog_6_method_13_code
def yX4_counted : MethodName := ⟨RX4, "counted", "(I)I"⟩
abbrev cX4_grown : ByteArray := prog_6_method_14_code
def yX4_grown : MethodName := ⟨RX4, "grown", "(I)I"⟩
abbrev cX4_growOn : ByteArray := prog_6_method_15_code
def yX4_growOn : MethodName := ⟨RX4, "growOn", "()V"⟩
abbrev cX4_keep : ByteArray := prog_6_method_16_code
def yX4_keep : MethodName := ⟨RX4, "keep", "()V"⟩
abbrev cX4_bringBack : ByteArray := prog_6_method_17_code
def yX4_bringBack : MethodName := ⟨RX4, "bringBack", "()V"⟩
abbrev cX4_all : ByteArray := prog_6_method_18_code
def yX4_all : MethodName := ⟨RX4, "all", "()I"⟩
abbrev cX4_manyMelted : ByteArray := prog_6_method_19_code
def yX4_manyMelted : MethodName := ⟨RX4, "manyMelted", "()I"⟩
abbrev cX4_lay : ByteArray := prog_6_method_20_code
def yX4_lay : MethodName := ⟨RX4, "lay", "(II)I"⟩
abbrev cX4_turn : ByteArray := prog_6_method_21_code
def yX4_turn : MethodName := ⟨RX4, "turn", "(II)Z"⟩
abbrev cX4_melt : ByteArray := prog_6_method_22_code
def yX4_melt : MethodName := ⟨RX4, "melt", "(III)I"⟩
abbrev cX4_press : ByteArray := prog_6_method_23_code
def yX4_press : MethodName := ⟨RX4, "press", "(III)I"⟩
abbrev cX4_setFrame : ByteArray := prog_6_method_24_code
def yX4_setFrame : MethodName := ⟨RX4, "setFrame", "(I)I"⟩
abbrev cX4_addRule : ByteArray := prog_6_method_25_code
def yX4_addRule : MethodName := ⟨RX4, "addRule", "(II)I"⟩
abbrev cX4_breathe : ByteArray := prog_6_method_26_code
def yX4_breathe : MethodName := ⟨RX4, "breathe", "(I)I"⟩
abbrev cX4_grow : ByteArray := prog_6_method_27_code
def yX4_grow : MethodName := ⟨RX4, "grow", "(I)I"⟩
abbrev cX4_columns : ByteArray := prog_6_method_28_code
def yX4_columns : MethodName := ⟨RX4, "columns", "()I"⟩
abbrev cX4_rows : ByteArray := prog_6_method_29_code
def yX4_rows : MethodName := ⟨RX4, "rows", "()I"⟩
abbrev cX4_generation : ByteArray := prog_6_method_30_code
def yX4_generation : MethodName := ⟨RX4, "generation", "()I"⟩
abbrev cX4_rules : ByteArray := prog_6_method_31_code
def yX4_rules : MethodName := ⟨RX4, "rules", "()I"⟩
abbrev cX4_breath : ByteArray := prog_6_method_32_code
def yX4_breath : MethodName := ⟨RX4, "breath", "()I"⟩
abbrev cX4_frozen : ByteArray := prog_6_method_33_code
def yX4_frozen : MethodName := ⟨RX4, "frozen", "()I"⟩
abbrev cX4_melted : ByteArray := prog_6_method_34_code
def yX4_melted : MethodName := ⟨RX4, "melted", "()I"⟩
abbrev cX4_isFrozen : ByteArray := prog_6_method_35_code
def yX4_isFrozen : MethodName := ⟨RX4, "isFrozen", "(II)Z"⟩
abbrev cX4_meltedFor : ByteArray := prog_6_method_36_code
def yX4_meltedFor : MethodName := ⟨RX4, "meltedFor", "(II)I"⟩
abbrev cX4_around : ByteArray := prog_6_method_37_code
def yX4_around : MethodName := ⟨RX4, "around", "(II)I"⟩
abbrev cX4_willFreeze : ByteArray := prog_6_method_38_code
def yX4_willFreeze : MethodName := ⟨RX4, "willFreeze", "(II)Z"⟩
abbrev cX4_frozenInRow : ByteArray := prog_6_method_39_code
def yX4_frozenInRow : MethodName := ⟨RX4, "frozenInRow", "(I)I"⟩
abbrev cX4_spread : ByteArray := prog_6_method_40_code
def yX4_spread : MethodName := ⟨RX4, "spread", "(II)I"⟩
abbrev cX4_flowers : ByteArray := prog_6_method_41_code
def yX4_flowers : MethodName := ⟨RX4, "flowers", "(Z)I"⟩
abbrev cX4_flowers_ : ByteArray := prog_6_method_42_code
def yX4_flowers_ : MethodName := ⟨RX4, "flowers", "()I"⟩
abbrev cX4_largestFlower : ByteArray := prog_6_method_43_code
def yX4_largestFlower : MethodName := ⟨RX4, "largestFlower", "()I"⟩
abbrev cX4_flowerAt : ByteArray := prog_6_method_44_code
def yX4_flowerAt : MethodName := ⟨RX4, "flowerAt", "(II)I"⟩
abbrev cX4_mirrored : ByteArray := prog_6_method_45_code
def yX4_mirrored : MethodName := ⟨RX4, "mirrored", "()Z"⟩
abbrev cX4_isMirrored : ByteArray := prog_6_method_46_code
def yX4_isMirrored : MethodName := ⟨RX4, "isMirrored", "()Z"⟩
abbrev cX4_behind : ByteArray := prog_6_method_47_code
def yX4_behind : MethodName := ⟨RX4, "behind", "(I)I"⟩
abbrev cX4_frozenIn : ByteArray := prog_6_method_48_code
def yX4_frozenIn : MethodName := ⟨RX4, "frozenIn", "(I)I"⟩
abbrev cX4_isAsKept : ByteArray := prog_6_method_49_code
def yX4_isAsKept : MethodName := ⟨RX4, "isAsKept", "()Z"⟩
abbrev cX4_again : ByteArray := prog_6_method_50_code
def yX4_again : MethodName := ⟨RX4, "again", "()I"⟩
abbrev cX4_comesAgainIn : ByteArray := prog_6_method_51_code
def yX4_comesAgainIn : MethodName := ⟨RX4, "comesAgainIn", "()I"⟩
abbrev cX4_isStill : ByteArray := prog_6_method_52_code
def yX4_isStill : MethodName := ⟨RX4, "isStill", "()Z"⟩
abbrev cX4_still : ByteArray := prog_6_method_53_code
def yX4_still : MethodName := ⟨RX4, "still", "()I"⟩
abbrev cX4_standsStillIn : ByteArray := prog_6_method_54_code
def yX4_standsStillIn : MethodName := ⟨RX4, "standsStillIn", "()I"⟩
abbrev cX4_peakIn : ByteArray := prog_6_method_55_code
def yX4_peakIn : MethodName := ⟨RX4, "peakIn", "(I)I"⟩
abbrev cX4_best : ByteArray := prog_6_method_56_code
def yX4_best : MethodName := ⟨RX4, "best", "(I)I"⟩
abbrev cX4_bestBreath : ByteArray := prog_6_method_57_code
def yX4_bestBreath : MethodName := ⟨RX4, "bestBreath", "(I)I"⟩
abbrev cX4_meanInRows : ByteArray := prog_6_method_58_code
def yX4_meanInRows : MethodName := ⟨RX4, "meanInRows", "()D"⟩
abbrev cX4_digest : ByteArray := prog_6_method_59_code
def yX4_digest : MethodName := ⟨RX4, "digest", "()J"⟩
def RJx145de : String := "java/io/Serializable"
def TJx145de : u_T := fun k => match k with
  | _ => ("", "", "", false)
def tyJx145de : Nat → FieldType := fun k => match k with
  | _ => .int
abbrev wsJx145de0 : List Cond := u_ws RJx145de TJx145de 0
theorem nmJx145de : ∀ a, a < 0 → ∀ b, b < 0 → a ≠ b → (TJx145de a).2.1 ≠ (TJx145de b).2.1 := by decide +kernel
theorem tyJx145de_ok : ∀ k, k < 0 → parseFieldDescriptor (TJx145de k).2.2.1 = some (tyJx145de k) := by decide +kernel
def RJ6 : String := "java/lang/Integer"
def TJ6 : u_T := fun k => match k with
  | _ => ("", "", "", false)
def tyJ6 : Nat → FieldType := fun k => match k with
  | _ => .int
abbrev wsJ60 : List Cond := u_ws RJ6 TJ6 0
theorem nmJ6 : ∀ a, a < 0 → ∀ b, b < 0 → a ≠ b → (TJ6 a).2.1 ≠ (TJ6 b).2.1 := by decide +kernel
theorem tyJ6_ok : ∀ k, k < 0 → parseFieldDescriptor (TJ6 k).2.2.1 = some (tyJ6 k) := by decide +kernel
abbrev cJ6_bitCount_0f7a4 : ByteArray := prog_11_method_49_code
def yJ6_bitCount_0f7a4 : MethodName := ⟨RJ6, "bitCount", "(I)I"⟩
def RJ9 : String := "java/lang/Math"
def TJ9 : u_T := fun k => match k with
  | _ => ("", "", "", false)
def tyJ9 : Nat → FieldType := fun k => match k with
  | _ => .int
abbrev wsJ90 : List Cond := u_ws RJ9 TJ9 0
theorem nmJ9 : ∀ a, a < 0 → ∀ b, b < 0 → a ≠ b → (TJ9 a).2.1 ≠ (TJ9 b).2.1 := by decide +kernel
theorem tyJ9_ok : ∀ k, k < 0 → parseFieldDescriptor (TJ9 k).2.2.1 = some (tyJ9 k) := by decide +kernel
abbrev cJ9_max_7cf53 : ByteArray := prog_12_method_65_code
def yJ9_max_7cf53 : MethodName := ⟨RJ9, "max", "(II)I"⟩
abbrev cJ9_min_7cf53 : ByteArray := prog_12_method_69_code
def yJ9_min_7cf53 : MethodName := ⟨RJ9, "min", "(II)I"⟩
def RJ0 : String := "java/lang/String"
def TJ0 : u_T := fun k => match k with
  | _ => ("", "", "", false)
def tyJ0 : Nat → FieldType := fun k => match k with
  | _ => .int
abbrev wsJ00 : List Cond := u_ws RJ0 TJ0 0
theorem nmJ0 : ∀ a, a < 0 → ∀ b, b < 0 → a ≠ b → (TJ0 a).2.1 ≠ (TJ0 b).2.1 := by decide +kernel
theorem tyJ0_ok : ∀ k, k < 0 → parseFieldDescriptor (TJ0 k).2.2.1 = some (tyJ0 k) := by decide +kernel
def RJ10 : String := "java/lang/System"
def TJ10 : u_T := fun k => match k with
  | _ => ("", "", "", false)
def tyJ10 : Nat → FieldType := fun k => match k with
  | _ => .int
abbrev wsJ100 : List Cond := u_ws RJ10 TJ10 0
theorem nmJ10 : ∀ a, a < 0 → ∀ b, b < 0 → a ≠ b → (TJ10 a).2.1 ≠ (TJ10 b).2.1 := by decide +kernel
theorem tyJ10_ok : ∀ k, k < 0 → parseFieldDescriptor (TJ10 k).2.2.1 = some (tyJ10 k) := by decide +kernel
def RJ7 : String := "java/util/Arrays"
def TJ7 : u_T := fun k => match k with
  | _ => ("", "", "", false)
def tyJ7 : Nat → FieldType := fun k => match k with
  | _ => .int
abbrev wsJ70 : List Cond := u_ws RJ7 TJ7 0
theorem nmJ7 : ∀ a, a < 0 → ∀ b, b < 0 → a ≠ b → (TJ7 a).2.1 ≠ (TJ7 b).2.1 := by decide +kernel
theorem tyJ7_ok : ∀ k, k < 0 → parseFieldDescriptor (TJ7 k).2.2.1 = some (tyJ7 k) := by decide +kernel
abbrev cJ7_fill_53178 : ByteArray := prog_17_method_103_code
def yJ7_fill_53178 : MethodName := ⟨RJ7, "fill", "([II)V"⟩
def RL : String := "FrostPaneLaw"
abbrev cL_lay : ByteArray := method_3_code
def yL_lay : MethodName := ⟨RL, "lay", "(LFrostPane;II[J)I"⟩
abbrev cL_turn : ByteArray := method_4_code
def yL_turn : MethodName := ⟨RL, "turn", "(LFrostPane;II[J)I"⟩
abbrev cL_press : ByteArray := method_5_code
def yL_press : MethodName := ⟨RL, "press", "(LFrostPane;III[J)I"⟩
abbrev cL_setFrame : ByteArray := method_6_code
def yL_setFrame : MethodName := ⟨RL, "setFrame", "(LFrostPane;I[J)I"⟩
abbrev cL_addRule : ByteArray := method_7_code
def yL_addRule : MethodName := ⟨RL, "addRule", "(LFrostPane;II[J)I"⟩
abbrev cL_breathe : ByteArray := method_8_code
def yL_breathe : MethodName := ⟨RL, "breathe", "(LFrostPane;I[J)I"⟩
abbrev cL_grow : ByteArray := method_9_code
def yL_grow : MethodName := ⟨RL, "grow", "(LFrostPane;I[J)I"⟩
abbrev cL_isFrozen : ByteArray := method_10_code
def yL_isFrozen : MethodName := ⟨RL, "isFrozen", "(LFrostPane;II[J)I"⟩
abbrev cL_meltedFor : ByteArray := method_11_code
def yL_meltedFor : MethodName := ⟨RL, "meltedFor", "(LFrostPane;II[J)I"⟩
abbrev cL_around : ByteArray := method_12_code
def yL_around : MethodName := ⟨RL, "around", "(LFrostPane;II[J)I"⟩
abbrev cL_willFreeze : ByteArray := method_13_code
def yL_willFreeze : MethodName := ⟨RL, "willFreeze", "(LFrostPane;II[J)I"⟩
abbrev cL_frozenInRow : ByteArray := method_14_code
def yL_frozenInRow : MethodName := ⟨RL, "frozenInRow", "(LFrostPane;I[J)I"⟩
abbrev cL_flowerAt : ByteArray := method_15_code
def yL_flowerAt : MethodName := ⟨RL, "flowerAt", "(LFrostPane;II[J)I"⟩
abbrev cL_frozenIn : ByteArray := method_16_code
def yL_frozenIn : MethodName := ⟨RL, "frozenIn", "(LFrostPane;I[J)I"⟩
abbrev cL_peakIn : ByteArray := method_17_code
def yL_peakIn : MethodName := ⟨RL, "peakIn", "(LFrostPane;I[J)I"⟩
abbrev cL_bestBreath : ByteArray := method_18_code
def yL_bestBreath : MethodName := ⟨RL, "bestBreath", "(LFrostPane;I[J)I"⟩
abbrev cL_law : ByteArray := code
def yL_law : MethodName := ⟨RL, "law", "([I)Z"⟩
def wsX0_init : List Cond := .code yX0_init cX0_init 1 none :: ([.methodLink RX0 3 objectInit, .instanceMethod objectInit, .code objectInit ⟨#[0xb1]⟩ 1 none, .arrayClass .int, .fieldLink RX0 9 "FrostPane$FlowerPicker" "left" "[I", .fieldLink RX0 15 "FrostPane$FlowerPicker" "flower" "[I"] ++ wsX00)
def wsX1_bitsOf : List Cond := .code yX1_bitsOf cX1_bitsOf 2 (some .int) :: ([.fieldLink RX1 9 "FrostPane$Pane" "frost" "[I"] ++ wsX10)
def wsX0_spreadOut : List Cond := .code yX0_spreadOut cX0_spreadOut 3 none :: ([.fieldLink RX0 9 "FrostPane$FlowerPicker" "left" "[I", .methodLink RX0 18 yX1_bitsOf, .instanceMethod yX1_bitsOf, .selects RX1 yX1_bitsOf yX1_bitsOf, .initialized RX1, .code yX1_bitsOf cX1_bitsOf 2 (some .int), .fieldLink RX1 9 "FrostPane$Pane" "frost" "[I"] ++ wsX00 ++ wsX10)
def wsJ7_fill_53178 : List Cond := .code yJ7_fill_53178 cJ7_fill_53178 4 none :: ([])
def wsX0_flowerIn : List Cond := .code yX0_flowerIn cX0_flowerIn 2 (some .int) :: ([.fieldLink RX0 15 "FrostPane$FlowerPicker" "flower" "[I"] ++ wsX00)
def wsX0_widen : List Cond := .code yX0_widen cX0_widen 5 (some .boolean) :: ([.fieldLink RX0 15 "FrostPane$FlowerPicker" "flower" "[I", .fieldLink RX0 9 "FrostPane$FlowerPicker" "left" "[I", .methodLink RX0 38 yX0_flowerIn, .instanceMethod yX0_flowerIn, .selects RX0 yX0_flowerIn yX0_flowerIn, .initialized RX0, .code yX0_flowerIn cX0_flowerIn 2 (some .int)] ++ wsX00)
def wsJ6_bitCount_0f7a4 : List Cond := .code yJ6_bitCount_0f7a4 cJ6_bitCount_0f7a4 1 (some .int) :: ([.constant RJ6 265 (1431655765), .constant RJ6 266 (858993459), .constant RJ6 267 (252645135)])
def wsX0_takeAway : List Cond := .code yX0_takeAway cX0_takeAway 3 (some .int) :: ([.fieldLink RX0 15 "FrostPane$FlowerPicker" "flower" "[I", .fieldLink RX0 9 "FrostPane$FlowerPicker" "left" "[I", .methodLink RX0 41 yJ6_bitCount_0f7a4, .static yJ6_bitCount_0f7a4, .initialized RJ6, .code yJ6_bitCount_0f7a4 cJ6_bitCount_0f7a4 1 (some .int), .constant RJ6 265 (1431655765), .constant RJ6 266 (858993459), .constant RJ6 267 (252645135)] ++ wsX00)
def wsX0_pick_r1 : List Cond := [Cond.fieldLink RX0 9 "FrostPane$FlowerPicker" "left" "[I", Cond.fieldLink RX0 15 "FrostPane$FlowerPicker" "flower" "[I", Cond.methodLink RX0 24 yJ7_fill_53178, Cond.static yJ7_fill_53178, Cond.initialized RJ7, Cond.code yJ7_fill_53178 cJ7_fill_53178 4 none, Cond.methodLink RX0 30 yX0_widen, Cond.instanceMethod yX0_widen, Cond.selects RX0 yX0_widen yX0_widen, Cond.initialized RX0, Cond.code yX0_widen cX0_widen 5 (some .boolean), Cond.methodLink RX0 38 yX0_flowerIn, Cond.instanceMethod yX0_flowerIn, Cond.selects RX0 yX0_flowerIn yX0_flowerIn, Cond.code yX0_flowerIn cX0_flowerIn 2 (some .int), Cond.methodLink RX0 34 yX0_takeAway, Cond.instanceMethod yX0_takeAway, Cond.selects RX0 yX0_takeAway yX0_takeAway, Cond.code yX0_takeAway cX0_takeAway 3 (some .int), Cond.methodLink RX0 41 yJ6_bitCount_0f7a4, Cond.static yJ6_bitCount_0f7a4, Cond.initialized RJ6, Cond.code yJ6_bitCount_0f7a4 cJ6_bitCount_0f7a4 1 (some .int), Cond.constant RJ6 265 (1431655765)]
def wsX0_pick_r2 : List Cond := [Cond.constant RJ6 266 (858993459), Cond.constant RJ6 267 (252645135)]
def wsX0_pick : List Cond := .code yX0_pick cX0_pick 4 (some .int) :: ((wsX0_pick_r1 ++ wsX0_pick_r2) ++ wsX00)
def wsX1_init : List Cond := .code yX1_init cX1_init 1 none :: ([.methodLink RX1 3 objectInit, .instanceMethod objectInit, .code objectInit ⟨#[0xb1]⟩ 1 none, .arrayClass .int, .fieldLink RX1 9 "FrostPane$Pane" "frost" "[I", .fieldLink RX1 15 "FrostPane$Pane" "frostNext" "[I", .fieldLink RX1 18 "FrostPane$Pane" "melts" "[I"] ++ wsX10)
def wsX1_layClear : List Cond := .code yX1_layClear cX1_layClear 3 none :: ([.fieldLink RX1 21 "FrostPane$Pane" "columns" "I", .fieldLink RX1 25 "FrostPane$Pane" "rows" "I", .fieldLink RX1 9 "FrostPane$Pane" "frost" "[I", .fieldLink RX1 18 "FrostPane$Pane" "melts" "[I", .methodLink RX1 28 yJ7_fill_53178, .static yJ7_fill_53178, .initialized RJ7, .code yJ7_fill_53178 cJ7_fill_53178 4 none] ++ wsX10)
def wsX1_becomeLike : List Cond := .code yX1_becomeLike cX1_becomeLike 2 none :: ([.fieldLink RX1 21 "FrostPane$Pane" "columns" "I", .fieldLink RX1 25 "FrostPane$Pane" "rows" "I", .fieldLink RX1 34 "FrostPane$Pane" "frame" "I", .fieldLink RX1 9 "FrostPane$Pane" "frost" "[I", .methodLink RX1 37 Lib.Math.min.name, .static Lib.Math.min.name, .initialized "java/lang/Math", .code Lib.Math.min.name Lib.Math.min.code 2 (some .int), .methodLink RX1 43 arraycopyName, .native arraycopyName, .static arraycopyName, .initialized "java/lang/System", .fieldLink RX1 18 "FrostPane$Pane" "melts" "[I"] ++ wsX10)
def wsX1_meltOf : List Cond := .code yX1_meltOf cX1_meltOf 4 (some .int) :: ([.fieldLink RX1 18 "FrostPane$Pane" "melts" "[I"] ++ wsX10)
def wsX1_isLike : List Cond := .code yX1_isLike cX1_isLike 4 (some .boolean) :: ([.fieldLink RX1 25 "FrostPane$Pane" "rows" "I", .fieldLink RX1 21 "FrostPane$Pane" "columns" "I", .methodLink RX1 49 yX1_bitsOf, .instanceMethod yX1_bitsOf, .selects RX1 yX1_bitsOf yX1_bitsOf, .initialized RX1, .code yX1_bitsOf cX1_bitsOf 2 (some .int), .fieldLink RX1 9 "FrostPane$Pane" "frost" "[I", .methodLink RX1 53 yX1_meltOf, .instanceMethod yX1_meltOf, .selects RX1 yX1_meltOf yX1_meltOf, .code yX1_meltOf cX1_meltOf 4 (some .int), .fieldLink RX1 18 "FrostPane$Pane" "melts" "[I"] ++ wsX10)
def wsX1_hasRow : List Cond := .code yX1_hasRow cX1_hasRow 2 (some .boolean) :: ([.fieldLink RX1 25 "FrostPane$Pane" "rows" "I"] ++ wsX10)
def wsX1_hasCell : List Cond := .code yX1_hasCell cX1_hasCell 3 (some .boolean) :: ([.fieldLink RX1 21 "FrostPane$Pane" "columns" "I", .methodLink RX1 56 yX1_hasRow, .instanceMethod yX1_hasRow, .selects RX1 yX1_hasRow yX1_hasRow, .initialized RX1, .code yX1_hasRow cX1_hasRow 2 (some .boolean), .fieldLink RX1 25 "FrostPane$Pane" "rows" "I"] ++ wsX10)
def wsX1_hasFrost : List Cond := .code yX1_hasFrost cX1_hasFrost 3 (some .boolean) :: ([.methodLink RX1 49 yX1_bitsOf, .instanceMethod yX1_bitsOf, .selects RX1 yX1_bitsOf yX1_bitsOf, .initialized RX1, .code yX1_bitsOf cX1_bitsOf 2 (some .int), .fieldLink RX1 9 "FrostPane$Pane" "frost" "[I"] ++ wsX10)
def wsX1_flip : List Cond := .code yX1_flip cX1_flip 3 none :: ([.fieldLink RX1 9 "FrostPane$Pane" "frost" "[I", .methodLink RX1 60 yX1_hasCell, .instanceMethod yX1_hasCell, .selects RX1 yX1_hasCell yX1_hasCell, .initialized RX1, .code yX1_hasCell cX1_hasCell 3 (some .boolean), .fieldLink RX1 21 "FrostPane$Pane" "columns" "I", .methodLink RX1 56 yX1_hasRow, .instanceMethod yX1_hasRow, .selects RX1 yX1_hasRow yX1_hasRow, .code yX1_hasRow cX1_hasRow 2 (some .boolean), .fieldLink RX1 25 "FrostPane$Pane" "rows" "I"] ++ wsX10)
def wsX1_melt_r1 : List Cond := [Cond.fieldLink RX1 18 "FrostPane$Pane" "melts" "[I", Cond.methodLink RX1 60 yX1_hasCell, Cond.instanceMethod yX1_hasCell, Cond.selects RX1 yX1_hasCell yX1_hasCell, Cond.initialized RX1, Cond.code yX1_hasCell cX1_hasCell 3 (some .boolean), Cond.fieldLink RX1 21 "FrostPane$Pane" "columns" "I", Cond.methodLink RX1 56 yX1_hasRow, Cond.instanceMethod yX1_hasRow, Cond.selects RX1 yX1_hasRow yX1_hasRow, Cond.code yX1_hasRow cX1_hasRow 2 (some .boolean), Cond.fieldLink RX1 25 "FrostPane$Pane" "rows" "I", Cond.methodLink RX1 64 yX1_hasFrost, Cond.instanceMethod yX1_hasFrost, Cond.selects RX1 yX1_hasFrost yX1_hasFrost, Cond.code yX1_hasFrost cX1_hasFrost 3 (some .boolean), Cond.methodLink RX1 49 yX1_bitsOf, Cond.instanceMethod yX1_bitsOf, Cond.selects RX1 yX1_bitsOf yX1_bitsOf, Cond.code yX1_bitsOf cX1_bitsOf 2 (some .int), Cond.fieldLink RX1 9 "FrostPane$Pane" "frost" "[I", Cond.methodLink RX1 67 yX1_flip, Cond.instanceMethod yX1_flip, Cond.selects RX1 yX1_flip yX1_flip]
def wsX1_melt_r2 : List Cond := [Cond.code yX1_flip cX1_flip 3 none]
def wsX1_melt : List Cond := .code yX1_melt cX1_melt 6 (some .int) :: ((wsX1_melt_r1 ++ wsX1_melt_r2) ++ wsX10)
def wsX1_countFrost : List Cond := .code yX1_countFrost cX1_countFrost 3 (some .int) :: ([.fieldLink RX1 25 "FrostPane$Pane" "rows" "I", .methodLink RX1 49 yX1_bitsOf, .instanceMethod yX1_bitsOf, .selects RX1 yX1_bitsOf yX1_bitsOf, .initialized RX1, .code yX1_bitsOf cX1_bitsOf 2 (some .int), .fieldLink RX1 9 "FrostPane$Pane" "frost" "[I", .methodLink RX1 71 yJ6_bitCount_0f7a4, .static yJ6_bitCount_0f7a4, .initialized RJ6, .code yJ6_bitCount_0f7a4 cJ6_bitCount_0f7a4 1 (some .int), .constant RJ6 265 (1431655765), .constant RJ6 266 (858993459), .constant RJ6 267 (252645135)] ++ wsX10)
def wsX1_countMelted : List Cond := .code yX1_countMelted cX1_countMelted 3 (some .int) :: ([.fieldLink RX1 18 "FrostPane$Pane" "melts" "[I"] ++ wsX10)
def wsX1_withSides : List Cond := .code yX1_withSides cX1_withSides 4 (some .int) :: ([.fieldLink RX1 34 "FrostPane$Pane" "frame" "I", .fieldLink RX1 21 "FrostPane$Pane" "columns" "I"] ++ wsX10)
def wsX1_framed : List Cond := .code yX1_framed cX1_framed 2 (some .int) :: ([.fieldLink RX1 34 "FrostPane$Pane" "frame" "I", .fieldLink RX1 25 "FrostPane$Pane" "rows" "I", .methodLink RX1 56 yX1_hasRow, .instanceMethod yX1_hasRow, .selects RX1 yX1_hasRow yX1_hasRow, .initialized RX1, .code yX1_hasRow cX1_hasRow 2 (some .boolean), .methodLink RX1 49 yX1_bitsOf, .instanceMethod yX1_bitsOf, .selects RX1 yX1_bitsOf yX1_bitsOf, .code yX1_bitsOf cX1_bitsOf 2 (some .int), .fieldLink RX1 9 "FrostPane$Pane" "frost" "[I", .methodLink RX1 94 yX1_withSides, .instanceMethod yX1_withSides, .selects RX1 yX1_withSides yX1_withSides, .code yX1_withSides cX1_withSides 4 (some .int), .fieldLink RX1 21 "FrostPane$Pane" "columns" "I"] ++ wsX10)
def wsX1_countIn : List Cond := .code yX1_countIn cX1_countIn 4 (some .int) :: ([.methodLink RX1 71 yJ6_bitCount_0f7a4, .static yJ6_bitCount_0f7a4, .initialized RJ6, .code yJ6_bitCount_0f7a4 cJ6_bitCount_0f7a4 1 (some .int), .constant RJ6 265 (1431655765), .constant RJ6 266 (858993459), .constant RJ6 267 (252645135)])
def wsX1_countAround_r1 : List Cond := [Cond.methodLink RX1 76 yX1_framed, Cond.instanceMethod yX1_framed, Cond.selects RX1 yX1_framed yX1_framed, Cond.initialized RX1, Cond.code yX1_framed cX1_framed 2 (some .int), Cond.fieldLink RX1 34 "FrostPane$Pane" "frame" "I", Cond.fieldLink RX1 25 "FrostPane$Pane" "rows" "I", Cond.methodLink RX1 56 yX1_hasRow, Cond.instanceMethod yX1_hasRow, Cond.selects RX1 yX1_hasRow yX1_hasRow, Cond.code yX1_hasRow cX1_hasRow 2 (some .boolean), Cond.methodLink RX1 49 yX1_bitsOf, Cond.instanceMethod yX1_bitsOf, Cond.selects RX1 yX1_bitsOf yX1_bitsOf, Cond.code yX1_bitsOf cX1_bitsOf 2 (some .int), Cond.fieldLink RX1 9 "FrostPane$Pane" "frost" "[I", Cond.methodLink RX1 94 yX1_withSides, Cond.instanceMethod yX1_withSides, Cond.selects RX1 yX1_withSides yX1_withSides, Cond.code yX1_withSides cX1_withSides 4 (some .int), Cond.fieldLink RX1 21 "FrostPane$Pane" "columns" "I", Cond.methodLink RX1 79 yX1_countIn, Cond.static yX1_countIn, Cond.code yX1_countIn cX1_countIn 4 (some .int)]
def wsX1_countAround_r2 : List Cond := [Cond.methodLink RX1 71 yJ6_bitCount_0f7a4, Cond.static yJ6_bitCount_0f7a4, Cond.initialized RJ6, Cond.code yJ6_bitCount_0f7a4 cJ6_bitCount_0f7a4 1 (some .int), Cond.constant RJ6 265 (1431655765), Cond.constant RJ6 266 (858993459), Cond.constant RJ6 267 (252645135)]
def wsX1_countAround : List Cond := .code yX1_countAround cX1_countAround 3 (some .int) :: ((wsX1_countAround_r1 ++ wsX1_countAround_r2) ++ wsX10)
def wsX1_grownRow_r1 : List Cond := [Cond.fieldLink RX1 21 "FrostPane$Pane" "columns" "I", Cond.methodLink RX1 76 yX1_framed, Cond.instanceMethod yX1_framed, Cond.selects RX1 yX1_framed yX1_framed, Cond.initialized RX1, Cond.code yX1_framed cX1_framed 2 (some .int), Cond.fieldLink RX1 34 "FrostPane$Pane" "frame" "I", Cond.fieldLink RX1 25 "FrostPane$Pane" "rows" "I", Cond.methodLink RX1 56 yX1_hasRow, Cond.instanceMethod yX1_hasRow, Cond.selects RX1 yX1_hasRow yX1_hasRow, Cond.code yX1_hasRow cX1_hasRow 2 (some .boolean), Cond.methodLink RX1 49 yX1_bitsOf, Cond.instanceMethod yX1_bitsOf, Cond.selects RX1 yX1_bitsOf yX1_bitsOf, Cond.code yX1_bitsOf cX1_bitsOf 2 (some .int), Cond.fieldLink RX1 9 "FrostPane$Pane" "frost" "[I", Cond.methodLink RX1 94 yX1_withSides, Cond.instanceMethod yX1_withSides, Cond.selects RX1 yX1_withSides yX1_withSides, Cond.code yX1_withSides cX1_withSides 4 (some .int), Cond.methodLink RX1 64 yX1_hasFrost, Cond.instanceMethod yX1_hasFrost, Cond.selects RX1 yX1_hasFrost yX1_hasFrost]
def wsX1_grownRow_r2 : List Cond := [Cond.code yX1_hasFrost cX1_hasFrost 3 (some .boolean), Cond.methodLink RX1 79 yX1_countIn, Cond.static yX1_countIn, Cond.code yX1_countIn cX1_countIn 4 (some .int), Cond.methodLink RX1 71 yJ6_bitCount_0f7a4, Cond.static yJ6_bitCount_0f7a4, Cond.initialized RJ6, Cond.code yJ6_bitCount_0f7a4 cJ6_bitCount_0f7a4 1 (some .int), Cond.constant RJ6 265 (1431655765), Cond.constant RJ6 266 (858993459), Cond.constant RJ6 267 (252645135), Cond.methodLink RX1 53 yX1_meltOf, Cond.instanceMethod yX1_meltOf, Cond.selects RX1 yX1_meltOf yX1_meltOf, Cond.code yX1_meltOf cX1_meltOf 4 (some .int), Cond.fieldLink RX1 18 "FrostPane$Pane" "melts" "[I"]
def wsX1_grownRow : List Cond := .code yX1_grownRow cX1_grownRow 11 (some .int) :: ((wsX1_grownRow_r1 ++ wsX1_grownRow_r2) ++ wsX10)
def wsX1_isFrozenNext_r1 : List Cond := [Cond.methodLink RX1 83 yX1_grownRow, Cond.instanceMethod yX1_grownRow, Cond.selects RX1 yX1_grownRow yX1_grownRow, Cond.initialized RX1, Cond.code yX1_grownRow cX1_grownRow 11 (some .int), Cond.fieldLink RX1 21 "FrostPane$Pane" "columns" "I", Cond.methodLink RX1 76 yX1_framed, Cond.instanceMethod yX1_framed, Cond.selects RX1 yX1_framed yX1_framed, Cond.code yX1_framed cX1_framed 2 (some .int), Cond.fieldLink RX1 34 "FrostPane$Pane" "frame" "I", Cond.fieldLink RX1 25 "FrostPane$Pane" "rows" "I", Cond.methodLink RX1 56 yX1_hasRow, Cond.instanceMethod yX1_hasRow, Cond.selects RX1 yX1_hasRow yX1_hasRow, Cond.code yX1_hasRow cX1_hasRow 2 (some .boolean), Cond.methodLink RX1 49 yX1_bitsOf, Cond.instanceMethod yX1_bitsOf, Cond.selects RX1 yX1_bitsOf yX1_bitsOf, Cond.code yX1_bitsOf cX1_bitsOf 2 (some .int), Cond.fieldLink RX1 9 "FrostPane$Pane" "frost" "[I", Cond.methodLink RX1 94 yX1_withSides, Cond.instanceMethod yX1_withSides, Cond.selects RX1 yX1_withSides yX1_withSides]
def wsX1_isFrozenNext_r2 : List Cond := [Cond.code yX1_withSides cX1_withSides 4 (some .int), Cond.methodLink RX1 64 yX1_hasFrost, Cond.instanceMethod yX1_hasFrost, Cond.selects RX1 yX1_hasFrost yX1_hasFrost, Cond.code yX1_hasFrost cX1_hasFrost 3 (some .boolean), Cond.methodLink RX1 79 yX1_countIn, Cond.static yX1_countIn, Cond.code yX1_countIn cX1_countIn 4 (some .int), Cond.methodLink RX1 71 yJ6_bitCount_0f7a4, Cond.static yJ6_bitCount_0f7a4, Cond.initialized RJ6, Cond.code yJ6_bitCount_0f7a4 cJ6_bitCount_0f7a4 1 (some .int), Cond.constant RJ6 265 (1431655765), Cond.constant RJ6 266 (858993459), Cond.constant RJ6 267 (252645135), Cond.methodLink RX1 53 yX1_meltOf, Cond.instanceMethod yX1_meltOf, Cond.selects RX1 yX1_meltOf yX1_meltOf, Cond.code yX1_meltOf cX1_meltOf 4 (some .int), Cond.fieldLink RX1 18 "FrostPane$Pane" "melts" "[I"]
def wsX1_isFrozenNext : List Cond := .code yX1_isFrozenNext cX1_isFrozenNext 5 (some .boolean) :: ((wsX1_isFrozenNext_r1 ++ wsX1_isFrozenNext_r2) ++ wsX10)
def wsX1_meltLess : List Cond := .code yX1_meltLess cX1_meltLess 2 none :: ([.fieldLink RX1 18 "FrostPane$Pane" "melts" "[I"] ++ wsX10)
def wsX1_takeNext : List Cond := .code yX1_takeNext cX1_takeNext 3 (some .boolean) :: ([.fieldLink RX1 25 "FrostPane$Pane" "rows" "I", .fieldLink RX1 15 "FrostPane$Pane" "frostNext" "[I", .fieldLink RX1 9 "FrostPane$Pane" "frost" "[I"] ++ wsX10)
def wsX1_step_r1 : List Cond := [Cond.fieldLink RX1 25 "FrostPane$Pane" "rows" "I", Cond.fieldLink RX1 15 "FrostPane$Pane" "frostNext" "[I", Cond.methodLink RX1 83 yX1_grownRow, Cond.instanceMethod yX1_grownRow, Cond.selects RX1 yX1_grownRow yX1_grownRow, Cond.initialized RX1, Cond.code yX1_grownRow cX1_grownRow 11 (some .int), Cond.fieldLink RX1 21 "FrostPane$Pane" "columns" "I", Cond.methodLink RX1 76 yX1_framed, Cond.instanceMethod yX1_framed, Cond.selects RX1 yX1_framed yX1_framed, Cond.code yX1_framed cX1_framed 2 (some .int), Cond.fieldLink RX1 34 "FrostPane$Pane" "frame" "I", Cond.methodLink RX1 56 yX1_hasRow, Cond.instanceMethod yX1_hasRow, Cond.selects RX1 yX1_hasRow yX1_hasRow, Cond.code yX1_hasRow cX1_hasRow 2 (some .boolean), Cond.methodLink RX1 49 yX1_bitsOf, Cond.instanceMethod yX1_bitsOf, Cond.selects RX1 yX1_bitsOf yX1_bitsOf, Cond.code yX1_bitsOf cX1_bitsOf 2 (some .int), Cond.fieldLink RX1 9 "FrostPane$Pane" "frost" "[I", Cond.methodLink RX1 94 yX1_withSides, Cond.instanceMethod yX1_withSides]
def wsX1_step_r2 : List Cond := [Cond.selects RX1 yX1_withSides yX1_withSides, Cond.code yX1_withSides cX1_withSides 4 (some .int), Cond.methodLink RX1 64 yX1_hasFrost, Cond.instanceMethod yX1_hasFrost, Cond.selects RX1 yX1_hasFrost yX1_hasFrost, Cond.code yX1_hasFrost cX1_hasFrost 3 (some .boolean), Cond.methodLink RX1 79 yX1_countIn, Cond.static yX1_countIn, Cond.code yX1_countIn cX1_countIn 4 (some .int), Cond.methodLink RX1 71 yJ6_bitCount_0f7a4, Cond.static yJ6_bitCount_0f7a4, Cond.initialized RJ6, Cond.code yJ6_bitCount_0f7a4 cJ6_bitCount_0f7a4 1 (some .int), Cond.constant RJ6 265 (1431655765), Cond.constant RJ6 266 (858993459), Cond.constant RJ6 267 (252645135), Cond.methodLink RX1 53 yX1_meltOf, Cond.instanceMethod yX1_meltOf, Cond.selects RX1 yX1_meltOf yX1_meltOf, Cond.code yX1_meltOf cX1_meltOf 4 (some .int), Cond.fieldLink RX1 18 "FrostPane$Pane" "melts" "[I", Cond.methodLink RX1 87 yX1_meltLess, Cond.instanceMethod yX1_meltLess, Cond.selects RX1 yX1_meltLess yX1_meltLess]
def wsX1_step_r3 : List Cond := [Cond.code yX1_meltLess cX1_meltLess 2 none, Cond.methodLink RX1 90 yX1_takeNext, Cond.instanceMethod yX1_takeNext, Cond.selects RX1 yX1_takeNext yX1_takeNext, Cond.code yX1_takeNext cX1_takeNext 3 (some .boolean)]
def wsX1_step : List Cond := .code yX1_step cX1_step 4 (some .boolean) :: ((wsX1_step_r1 ++ (wsX1_step_r2 ++ wsX1_step_r3)) ++ wsX10)
def wsX2_init : List Cond := .code yX2_init cX2_init 1 none :: ([.methodLink RX2 3 objectInit, .instanceMethod objectInit, .code objectInit ⟨#[0xb1]⟩ 1 none, .arrayClass .int, .fieldLink RX2 9 "FrostPane$RuleBook" "freezes" "[I", .fieldLink RX2 15 "FrostPane$RuleBook" "stays" "[I"] ++ wsX20)
def wsX2_isFull : List Cond := .code yX2_isFull cX2_isFull 1 (some .boolean) :: ([.fieldLink RX2 18 "FrostPane$RuleBook" "count" "I"] ++ wsX20)
def wsX2_has : List Cond := .code yX2_has cX2_has 2 (some .boolean) :: ([.fieldLink RX2 18 "FrostPane$RuleBook" "count" "I"] ++ wsX20)
def wsX2_append : List Cond := .code yX2_append cX2_append 4 (some .int) :: ([.fieldLink RX2 18 "FrostPane$RuleBook" "count" "I", .fieldLink RX2 9 "FrostPane$RuleBook" "freezes" "[I", .fieldLink RX2 15 "FrostPane$RuleBook" "stays" "[I"] ++ wsX20)
def wsX2_freezesBy : List Cond := .code yX2_freezesBy cX2_freezesBy 2 (some .int) :: ([.fieldLink RX2 9 "FrostPane$RuleBook" "freezes" "[I", .methodLink RX2 22 yX2_has, .instanceMethod yX2_has, .selects RX2 yX2_has yX2_has, .initialized RX2, .code yX2_has cX2_has 2 (some .boolean), .fieldLink RX2 18 "FrostPane$RuleBook" "count" "I"] ++ wsX20)
def wsX2_staysBy : List Cond := .code yX2_staysBy cX2_staysBy 2 (some .int) :: ([.fieldLink RX2 15 "FrostPane$RuleBook" "stays" "[I", .methodLink RX2 22 yX2_has, .instanceMethod yX2_has, .selects RX2 yX2_has yX2_has, .initialized RX2, .code yX2_has cX2_has 2 (some .boolean), .fieldLink RX2 18 "FrostPane$RuleBook" "count" "I"] ++ wsX20)
def wsX3_init_r1 : List Cond := [Cond.methodLink RX3 1 objectInit, Cond.instanceMethod objectInit, Cond.code objectInit ⟨#[0xb1]⟩ 1 none, Cond.classLink RX3 7 RX1, Cond.instantiable RX1 6, Cond.initialized RX1, Cond.fieldLink RX3 10 "FrostPane" "now" "LFrostPane$Pane;", Cond.fieldLink RX3 16 "FrostPane" "ahead" "LFrostPane$Pane;", Cond.classLink RX3 19 RX0, Cond.instantiable RX0 2, Cond.initialized RX0, Cond.fieldLink RX3 22 "FrostPane" "picker" "LFrostPane$FlowerPicker;", Cond.classLink RX3 26 RX2, Cond.instantiable RX2 3, Cond.initialized RX2, Cond.fieldLink RX3 29 "FrostPane" "book" "LFrostPane$RuleBook;", Cond.instanceMethod yX1_init, Cond.code yX1_init cX1_init 1 none, Cond.methodLink RX1 3 objectInit, Cond.arrayClass .int, Cond.fieldLink RX1 9 "FrostPane$Pane" "frost" "[I", Cond.fieldLink RX1 15 "FrostPane$Pane" "frostNext" "[I", Cond.fieldLink RX1 18 "FrostPane$Pane" "melts" "[I", Cond.instanceMethod yX0_init]
def wsX3_init_r2 : List Cond := [Cond.code yX0_init cX0_init 1 none, Cond.methodLink RX0 3 objectInit, Cond.fieldLink RX0 9 "FrostPane$FlowerPicker" "left" "[I", Cond.fieldLink RX0 15 "FrostPane$FlowerPicker" "flower" "[I", Cond.instanceMethod yX2_init, Cond.code yX2_init cX2_init 1 none, Cond.methodLink RX2 3 objectInit, Cond.fieldLink RX2 9 "FrostPane$RuleBook" "freezes" "[I", Cond.fieldLink RX2 15 "FrostPane$RuleBook" "stays" "[I", Cond.methodLink RX3 33 yX1_layClear, Cond.instanceMethod yX1_layClear, Cond.selects RX1 yX1_layClear yX1_layClear, Cond.code yX1_layClear cX1_layClear 3 none, Cond.fieldLink RX1 21 "FrostPane$Pane" "columns" "I", Cond.fieldLink RX1 25 "FrostPane$Pane" "rows" "I", Cond.methodLink RX1 28 yJ7_fill_53178, Cond.static yJ7_fill_53178, Cond.initialized RJ7, Cond.code yJ7_fill_53178 cJ7_fill_53178 4 none, Cond.methodLink RX3 37 yX2_append, Cond.instanceMethod yX2_append, Cond.selects RX2 yX2_append yX2_append, Cond.code yX2_append cX2_append 4 (some .int), Cond.fieldLink RX2 18 "FrostPane$RuleBook" "count" "I"]
def wsX3_init : List Cond := .code yX3_init cX3_init 1 none :: ((wsX3_init_r1 ++ wsX3_init_r2) ++ wsX10 ++ wsX30 ++ wsX00 ++ wsX20)
def wsX3_requireWithin : List Cond := .code yX3_requireWithin cX3_requireWithin 3 none :: ([.classLink RX3 233 "java/lang/IllegalArgumentException", .initialized "java/lang/IllegalArgumentException"] ++ (vx_atS RX3 237 "java/lang/IllegalArgumentException" ["java/lang/RuntimeException", "java/lang/Exception"]).filter goodWord)
def wsX3_lay : List Cond := .code yX3_lay cX3_lay 3 (some .int) :: ([.fieldLink RX3 10 "FrostPane" "now" "LFrostPane$Pane;", .methodLink RX3 41 yX3_requireWithin, .static yX3_requireWithin, .initialized RX3, .code yX3_requireWithin cX3_requireWithin 3 none, .classLink RX3 233 "java/lang/IllegalArgumentException", .initialized "java/lang/IllegalArgumentException", .methodLink RX3 33 yX1_layClear, .instanceMethod yX1_layClear, .selects RX1 yX1_layClear yX1_layClear, .initialized RX1, .code yX1_layClear cX1_layClear 3 none, .fieldLink RX1 21 "FrostPane$Pane" "columns" "I", .fieldLink RX1 25 "FrostPane$Pane" "rows" "I", .fieldLink RX1 9 "FrostPane$Pane" "frost" "[I", .fieldLink RX1 18 "FrostPane$Pane" "melts" "[I", .methodLink RX1 28 yJ7_fill_53178, .static yJ7_fill_53178, .initialized RJ7, .code yJ7_fill_53178 cJ7_fill_53178 4 none] ++ wsX30 ++ wsX10 ++ (vx_atS RX3 237 "java/lang/IllegalArgumentException" ["java/lang/RuntimeException", "java/lang/Exception"]).filter goodWord)
def wsX3_requireCell : List Cond := .code yX3_requireCell cX3_requireCell 3 none :: ([.classLink RX3 83 "java/lang/IndexOutOfBoundsException", .initialized "java/lang/IndexOutOfBoundsException", .fieldLink RX3 10 "FrostPane" "now" "LFrostPane$Pane;", .methodLink RX3 228 yX1_hasCell, .instanceMethod yX1_hasCell, .selects RX1 yX1_hasCell yX1_hasCell, .initialized RX1, .code yX1_hasCell cX1_hasCell 3 (some .boolean), .fieldLink RX1 21 "FrostPane$Pane" "columns" "I", .methodLink RX1 56 yX1_hasRow, .instanceMethod yX1_hasRow, .selects RX1 yX1_hasRow yX1_hasRow, .code yX1_hasRow cX1_hasRow 2 (some .boolean), .fieldLink RX1 25 "FrostPane$Pane" "rows" "I"] ++ wsX30 ++ wsX10 ++ (vx_atS RX3 87 "java/lang/IndexOutOfBoundsException" ["java/lang/RuntimeException", "java/lang/Exception"]).filter goodWord)
def wsX3_turn_r1 : List Cond := [Cond.classLink RX3 51 "java/lang/IllegalStateException", Cond.initialized "java/lang/IllegalStateException", Cond.fieldLink RX3 10 "FrostPane" "now" "LFrostPane$Pane;", Cond.methodLink RX3 45 yX3_requireCell, Cond.instanceMethod yX3_requireCell, Cond.selects RX3 yX3_requireCell yX3_requireCell, Cond.initialized RX3, Cond.code yX3_requireCell cX3_requireCell 3 none, Cond.classLink RX3 83 "java/lang/IndexOutOfBoundsException", Cond.initialized "java/lang/IndexOutOfBoundsException", Cond.methodLink RX3 228 yX1_hasCell, Cond.instanceMethod yX1_hasCell, Cond.selects RX1 yX1_hasCell yX1_hasCell, Cond.initialized RX1, Cond.code yX1_hasCell cX1_hasCell 3 (some .boolean), Cond.fieldLink RX1 21 "FrostPane$Pane" "columns" "I", Cond.methodLink RX1 56 yX1_hasRow, Cond.instanceMethod yX1_hasRow, Cond.selects RX1 yX1_hasRow yX1_hasRow, Cond.code yX1_hasRow cX1_hasRow 2 (some .boolean), Cond.fieldLink RX1 25 "FrostPane$Pane" "rows" "I", Cond.methodLink RX3 48 yX1_meltOf, Cond.instanceMethod yX1_meltOf, Cond.selects RX1 yX1_meltOf yX1_meltOf]
def wsX3_turn_r2 : List Cond := [Cond.code yX1_meltOf cX1_meltOf 4 (some .int), Cond.fieldLink RX1 18 "FrostPane$Pane" "melts" "[I", Cond.methodLink RX3 58 yX1_flip, Cond.instanceMethod yX1_flip, Cond.selects RX1 yX1_flip yX1_flip, Cond.code yX1_flip cX1_flip 3 none, Cond.fieldLink RX1 9 "FrostPane$Pane" "frost" "[I", Cond.methodLink RX1 60 yX1_hasCell, Cond.methodLink RX3 61 yX1_hasFrost, Cond.instanceMethod yX1_hasFrost, Cond.selects RX1 yX1_hasFrost yX1_hasFrost, Cond.code yX1_hasFrost cX1_hasFrost 3 (some .boolean), Cond.methodLink RX1 49 yX1_bitsOf, Cond.instanceMethod yX1_bitsOf, Cond.selects RX1 yX1_bitsOf yX1_bitsOf, Cond.code yX1_bitsOf cX1_bitsOf 2 (some .int)]
def wsX3_turn : List Cond := .code yX3_turn cX3_turn 3 (some .boolean) :: ((wsX3_turn_r1 ++ wsX3_turn_r2) ++ wsX30 ++ wsX10 ++ (vx_atS RX3 55 "java/lang/IllegalStateException" ["java/lang/RuntimeException", "java/lang/Exception"]).filter goodWord ++ (vx_atS RX3 87 "java/lang/IndexOutOfBoundsException" ["java/lang/RuntimeException", "java/lang/Exception"]).filter goodWord)
def wsX3_press_r1 : List Cond := [Cond.fieldLink RX3 10 "FrostPane" "now" "LFrostPane$Pane;", Cond.methodLink RX3 45 yX3_requireCell, Cond.instanceMethod yX3_requireCell, Cond.selects RX3 yX3_requireCell yX3_requireCell, Cond.initialized RX3, Cond.code yX3_requireCell cX3_requireCell 3 none, Cond.classLink RX3 83 "java/lang/IndexOutOfBoundsException", Cond.initialized "java/lang/IndexOutOfBoundsException", Cond.methodLink RX3 228 yX1_hasCell, Cond.instanceMethod yX1_hasCell, Cond.selects RX1 yX1_hasCell yX1_hasCell, Cond.initialized RX1, Cond.code yX1_hasCell cX1_hasCell 3 (some .boolean), Cond.fieldLink RX1 21 "FrostPane$Pane" "columns" "I", Cond.methodLink RX1 56 yX1_hasRow, Cond.instanceMethod yX1_hasRow, Cond.selects RX1 yX1_hasRow yX1_hasRow, Cond.code yX1_hasRow cX1_hasRow 2 (some .boolean), Cond.fieldLink RX1 25 "FrostPane$Pane" "rows" "I", Cond.methodLink RX3 41 yX3_requireWithin, Cond.static yX3_requireWithin, Cond.code yX3_requireWithin cX3_requireWithin 3 none, Cond.classLink RX3 233 "java/lang/IllegalArgumentException", Cond.initialized "java/lang/IllegalArgumentException"]
def wsX3_press_r2 : List Cond := [Cond.methodLink RX3 65 yX1_melt, Cond.instanceMethod yX1_melt, Cond.selects RX1 yX1_melt yX1_melt, Cond.code yX1_melt cX1_melt 6 (some .int), Cond.fieldLink RX1 18 "FrostPane$Pane" "melts" "[I", Cond.methodLink RX1 60 yX1_hasCell, Cond.methodLink RX1 64 yX1_hasFrost, Cond.instanceMethod yX1_hasFrost, Cond.selects RX1 yX1_hasFrost yX1_hasFrost, Cond.code yX1_hasFrost cX1_hasFrost 3 (some .boolean), Cond.methodLink RX1 49 yX1_bitsOf, Cond.instanceMethod yX1_bitsOf, Cond.selects RX1 yX1_bitsOf yX1_bitsOf, Cond.code yX1_bitsOf cX1_bitsOf 2 (some .int), Cond.fieldLink RX1 9 "FrostPane$Pane" "frost" "[I", Cond.methodLink RX1 67 yX1_flip, Cond.instanceMethod yX1_flip, Cond.selects RX1 yX1_flip yX1_flip, Cond.code yX1_flip cX1_flip 3 none]
def wsX3_press : List Cond := .code yX3_press cX3_press 4 (some .int) :: ((wsX3_press_r1 ++ wsX3_press_r2) ++ wsX30 ++ wsX10 ++ (vx_atS RX3 87 "java/lang/IndexOutOfBoundsException" ["java/lang/RuntimeException", "java/lang/Exception"]).filter goodWord ++ (vx_atS RX3 237 "java/lang/IllegalArgumentException" ["java/lang/RuntimeException", "java/lang/Exception"]).filter goodWord)
def wsX3_setFrame : List Cond := .code yX3_setFrame cX3_setFrame 3 (some .int) :: ([.fieldLink RX3 10 "FrostPane" "now" "LFrostPane$Pane;", .methodLink RX3 41 yX3_requireWithin, .static yX3_requireWithin, .initialized RX3, .code yX3_requireWithin cX3_requireWithin 3 none, .classLink RX3 233 "java/lang/IllegalArgumentException", .initialized "java/lang/IllegalArgumentException"] ++ wsX30 ++ wsX10 ++ (vx_atS RX3 237 "java/lang/IllegalArgumentException" ["java/lang/RuntimeException", "java/lang/Exception"]).filter goodWord)
def wsX3_addRule : List Cond := .code yX3_addRule cX3_addRule 3 (some .int) :: ([.classLink RX3 51 "java/lang/IllegalStateException", .initialized "java/lang/IllegalStateException", .fieldLink RX3 29 "FrostPane" "book" "LFrostPane$RuleBook;", .methodLink RX3 41 yX3_requireWithin, .static yX3_requireWithin, .initialized RX3, .code yX3_requireWithin cX3_requireWithin 3 none, .classLink RX3 233 "java/lang/IllegalArgumentException", .initialized "java/lang/IllegalArgumentException", .methodLink RX3 73 yX2_isFull, .instanceMethod yX2_isFull, .selects RX2 yX2_isFull yX2_isFull, .initialized RX2, .code yX2_isFull cX2_isFull 1 (some .boolean), .fieldLink RX2 18 "FrostPane$RuleBook" "count" "I", .methodLink RX3 37 yX2_append, .instanceMethod yX2_append, .selects RX2 yX2_append yX2_append, .code yX2_append cX2_append 4 (some .int), .fieldLink RX2 9 "FrostPane$RuleBook" "freezes" "[I", .fieldLink RX2 15 "FrostPane$RuleBook" "stays" "[I"] ++ wsX30 ++ wsX20 ++ (vx_atS RX3 55 "java/lang/IllegalStateException" ["java/lang/RuntimeException", "java/lang/Exception"]).filter goodWord ++ (vx_atS RX3 237 "java/lang/IllegalArgumentException" ["java/lang/RuntimeException", "java/lang/Exception"]).filter goodWord)
def wsX3_breathe : List Cond := .code yX3_breathe cX3_breathe 3 (some .int) :: ([.classLink RX3 83 "java/lang/IndexOutOfBoundsException", .initialized "java/lang/IndexOutOfBoundsException", .fieldLink RX3 29 "FrostPane" "book" "LFrostPane$RuleBook;", .fieldLink RX3 88 "FrostPane" "breath" "I", .methodLink RX3 79 yX2_has, .instanceMethod yX2_has, .selects RX2 yX2_has yX2_has, .initialized RX2, .code yX2_has cX2_has 2 (some .boolean), .fieldLink RX2 18 "FrostPane$RuleBook" "count" "I"] ++ wsX30 ++ wsX20 ++ (vx_atS RX3 87 "java/lang/IndexOutOfBoundsException" ["java/lang/RuntimeException", "java/lang/Exception"]).filter goodWord)
def wsX3_grow_r1 : List Cond := [Cond.fieldLink RX3 10 "FrostPane" "now" "LFrostPane$Pane;", Cond.fieldLink RX3 29 "FrostPane" "book" "LFrostPane$RuleBook;", Cond.fieldLink RX3 88 "FrostPane" "breath" "I", Cond.fieldLink RX3 101 "FrostPane" "generation" "I", Cond.methodLink RX3 41 yX3_requireWithin, Cond.static yX3_requireWithin, Cond.initialized RX3, Cond.code yX3_requireWithin cX3_requireWithin 3 none, Cond.classLink RX3 233 "java/lang/IllegalArgumentException", Cond.initialized "java/lang/IllegalArgumentException", Cond.methodLink RX3 91 yX2_freezesBy, Cond.instanceMethod yX2_freezesBy, Cond.selects RX2 yX2_freezesBy yX2_freezesBy, Cond.initialized RX2, Cond.code yX2_freezesBy cX2_freezesBy 2 (some .int), Cond.fieldLink RX2 9 "FrostPane$RuleBook" "freezes" "[I", Cond.methodLink RX2 22 yX2_has, Cond.instanceMethod yX2_has, Cond.selects RX2 yX2_has yX2_has, Cond.code yX2_has cX2_has 2 (some .boolean), Cond.fieldLink RX2 18 "FrostPane$RuleBook" "count" "I", Cond.methodLink RX3 95 yX2_staysBy, Cond.instanceMethod yX2_staysBy, Cond.selects RX2 yX2_staysBy yX2_staysBy]
def wsX3_grow_r2 : List Cond := [Cond.code yX2_staysBy cX2_staysBy 2 (some .int), Cond.fieldLink RX2 15 "FrostPane$RuleBook" "stays" "[I", Cond.methodLink RX3 98 yX1_step, Cond.instanceMethod yX1_step, Cond.selects RX1 yX1_step yX1_step, Cond.initialized RX1, Cond.code yX1_step cX1_step 4 (some .boolean), Cond.fieldLink RX1 25 "FrostPane$Pane" "rows" "I", Cond.fieldLink RX1 15 "FrostPane$Pane" "frostNext" "[I", Cond.methodLink RX1 83 yX1_grownRow, Cond.instanceMethod yX1_grownRow, Cond.selects RX1 yX1_grownRow yX1_grownRow, Cond.code yX1_grownRow cX1_grownRow 11 (some .int), Cond.fieldLink RX1 21 "FrostPane$Pane" "columns" "I", Cond.methodLink RX1 76 yX1_framed, Cond.instanceMethod yX1_framed, Cond.selects RX1 yX1_framed yX1_framed, Cond.code yX1_framed cX1_framed 2 (some .int), Cond.fieldLink RX1 34 "FrostPane$Pane" "frame" "I", Cond.methodLink RX1 56 yX1_hasRow, Cond.instanceMethod yX1_hasRow, Cond.selects RX1 yX1_hasRow yX1_hasRow, Cond.code yX1_hasRow cX1_hasRow 2 (some .boolean), Cond.methodLink RX1 49 yX1_bitsOf]
def wsX3_grow_r3 : List Cond := [Cond.instanceMethod yX1_bitsOf, Cond.selects RX1 yX1_bitsOf yX1_bitsOf, Cond.code yX1_bitsOf cX1_bitsOf 2 (some .int), Cond.fieldLink RX1 9 "FrostPane$Pane" "frost" "[I", Cond.methodLink RX1 94 yX1_withSides, Cond.instanceMethod yX1_withSides, Cond.selects RX1 yX1_withSides yX1_withSides, Cond.code yX1_withSides cX1_withSides 4 (some .int), Cond.methodLink RX1 64 yX1_hasFrost, Cond.instanceMethod yX1_hasFrost, Cond.selects RX1 yX1_hasFrost yX1_hasFrost, Cond.code yX1_hasFrost cX1_hasFrost 3 (some .boolean), Cond.methodLink RX1 79 yX1_countIn, Cond.static yX1_countIn, Cond.code yX1_countIn cX1_countIn 4 (some .int), Cond.methodLink RX1 71 yJ6_bitCount_0f7a4, Cond.static yJ6_bitCount_0f7a4, Cond.initialized RJ6, Cond.code yJ6_bitCount_0f7a4 cJ6_bitCount_0f7a4 1 (some .int), Cond.constant RJ6 265 (1431655765), Cond.constant RJ6 266 (858993459), Cond.constant RJ6 267 (252645135), Cond.methodLink RX1 53 yX1_meltOf, Cond.instanceMethod yX1_meltOf]
def wsX3_grow_r4 : List Cond := [Cond.selects RX1 yX1_meltOf yX1_meltOf, Cond.code yX1_meltOf cX1_meltOf 4 (some .int), Cond.fieldLink RX1 18 "FrostPane$Pane" "melts" "[I", Cond.methodLink RX1 87 yX1_meltLess, Cond.instanceMethod yX1_meltLess, Cond.selects RX1 yX1_meltLess yX1_meltLess, Cond.code yX1_meltLess cX1_meltLess 2 none, Cond.methodLink RX1 90 yX1_takeNext, Cond.instanceMethod yX1_takeNext, Cond.selects RX1 yX1_takeNext yX1_takeNext, Cond.code yX1_takeNext cX1_takeNext 3 (some .boolean), Cond.methodLink RX3 104 yX1_countFrost, Cond.instanceMethod yX1_countFrost, Cond.selects RX1 yX1_countFrost yX1_countFrost, Cond.code yX1_countFrost cX1_countFrost 3 (some .int)]
def wsX3_grow : List Cond := .code yX3_grow cX3_grow 3 (some .int) :: ((wsX3_grow_r1 ++ (wsX3_grow_r2 ++ (wsX3_grow_r3 ++ wsX3_grow_r4))) ++ wsX30 ++ wsX20 ++ wsX10 ++ (vx_atS RX3 237 "java/lang/IllegalArgumentException" ["java/lang/RuntimeException", "java/lang/Exception"]).filter goodWord)
def wsX3_columns : List Cond := .code yX3_columns cX3_columns 1 (some .int) :: ([.fieldLink RX3 10 "FrostPane" "now" "LFrostPane$Pane;"] ++ wsX30 ++ wsX10)
def wsX3_rows : List Cond := .code yX3_rows cX3_rows 1 (some .int) :: ([.fieldLink RX3 10 "FrostPane" "now" "LFrostPane$Pane;"] ++ wsX30 ++ wsX10)
def wsX3_generation : List Cond := .code yX3_generation cX3_generation 1 (some .int) :: ([.fieldLink RX3 101 "FrostPane" "generation" "I"] ++ wsX30)
def wsX3_rules : List Cond := .code yX3_rules cX3_rules 1 (some .int) :: ([.fieldLink RX3 29 "FrostPane" "book" "LFrostPane$RuleBook;"] ++ wsX30 ++ wsX20)
def wsX3_breath : List Cond := .code yX3_breath cX3_breath 1 (some .int) :: ([.fieldLink RX3 88 "FrostPane" "breath" "I"] ++ wsX30)
def wsX3_frozen : List Cond := .code yX3_frozen cX3_frozen 1 (some .int) :: ([.fieldLink RX3 10 "FrostPane" "now" "LFrostPane$Pane;", .methodLink RX3 104 yX1_countFrost, .instanceMethod yX1_countFrost, .selects RX1 yX1_countFrost yX1_countFrost, .initialized RX1, .code yX1_countFrost cX1_countFrost 3 (some .int), .fieldLink RX1 25 "FrostPane$Pane" "rows" "I", .methodLink RX1 49 yX1_bitsOf, .instanceMethod yX1_bitsOf, .selects RX1 yX1_bitsOf yX1_bitsOf, .code yX1_bitsOf cX1_bitsOf 2 (some .int), .fieldLink RX1 9 "FrostPane$Pane" "frost" "[I", .methodLink RX1 71 yJ6_bitCount_0f7a4, .static yJ6_bitCount_0f7a4, .initialized RJ6, .code yJ6_bitCount_0f7a4 cJ6_bitCount_0f7a4 1 (some .int), .constant RJ6 265 (1431655765), .constant RJ6 266 (858993459), .constant RJ6 267 (252645135)] ++ wsX30 ++ wsX10)
def wsX3_melted : List Cond := .code yX3_melted cX3_melted 1 (some .int) :: ([.fieldLink RX3 10 "FrostPane" "now" "LFrostPane$Pane;", .methodLink RX3 117 yX1_countMelted, .instanceMethod yX1_countMelted, .selects RX1 yX1_countMelted yX1_countMelted, .initialized RX1, .code yX1_countMelted cX1_countMelted 3 (some .int), .fieldLink RX1 18 "FrostPane$Pane" "melts" "[I"] ++ wsX30 ++ wsX10)
def wsX3_isFrozen_r1 : List Cond := [Cond.fieldLink RX3 10 "FrostPane" "now" "LFrostPane$Pane;", Cond.methodLink RX3 45 yX3_requireCell, Cond.instanceMethod yX3_requireCell, Cond.selects RX3 yX3_requireCell yX3_requireCell, Cond.initialized RX3, Cond.code yX3_requireCell cX3_requireCell 3 none, Cond.classLink RX3 83 "java/lang/IndexOutOfBoundsException", Cond.initialized "java/lang/IndexOutOfBoundsException", Cond.methodLink RX3 228 yX1_hasCell, Cond.instanceMethod yX1_hasCell, Cond.selects RX1 yX1_hasCell yX1_hasCell, Cond.initialized RX1, Cond.code yX1_hasCell cX1_hasCell 3 (some .boolean), Cond.fieldLink RX1 21 "FrostPane$Pane" "columns" "I", Cond.methodLink RX1 56 yX1_hasRow, Cond.instanceMethod yX1_hasRow, Cond.selects RX1 yX1_hasRow yX1_hasRow, Cond.code yX1_hasRow cX1_hasRow 2 (some .boolean), Cond.fieldLink RX1 25 "FrostPane$Pane" "rows" "I", Cond.methodLink RX3 61 yX1_hasFrost, Cond.instanceMethod yX1_hasFrost, Cond.selects RX1 yX1_hasFrost yX1_hasFrost, Cond.code yX1_hasFrost cX1_hasFrost 3 (some .boolean), Cond.methodLink RX1 49 yX1_bitsOf]
def wsX3_isFrozen_r2 : List Cond := [Cond.instanceMethod yX1_bitsOf, Cond.selects RX1 yX1_bitsOf yX1_bitsOf, Cond.code yX1_bitsOf cX1_bitsOf 2 (some .int), Cond.fieldLink RX1 9 "FrostPane$Pane" "frost" "[I"]
def wsX3_isFrozen : List Cond := .code yX3_isFrozen cX3_isFrozen 3 (some .boolean) :: ((wsX3_isFrozen_r1 ++ wsX3_isFrozen_r2) ++ wsX30 ++ wsX10 ++ (vx_atS RX3 87 "java/lang/IndexOutOfBoundsException" ["java/lang/RuntimeException", "java/lang/Exception"]).filter goodWord)
def wsX3_meltedFor : List Cond := .code yX3_meltedFor cX3_meltedFor 3 (some .int) :: ([.fieldLink RX3 10 "FrostPane" "now" "LFrostPane$Pane;", .methodLink RX3 45 yX3_requireCell, .instanceMethod yX3_requireCell, .selects RX3 yX3_requireCell yX3_requireCell, .initialized RX3, .code yX3_requireCell cX3_requireCell 3 none, .classLink RX3 83 "java/lang/IndexOutOfBoundsException", .initialized "java/lang/IndexOutOfBoundsException", .methodLink RX3 228 yX1_hasCell, .instanceMethod yX1_hasCell, .selects RX1 yX1_hasCell yX1_hasCell, .initialized RX1, .code yX1_hasCell cX1_hasCell 3 (some .boolean), .fieldLink RX1 21 "FrostPane$Pane" "columns" "I", .methodLink RX1 56 yX1_hasRow, .instanceMethod yX1_hasRow, .selects RX1 yX1_hasRow yX1_hasRow, .code yX1_hasRow cX1_hasRow 2 (some .boolean), .fieldLink RX1 25 "FrostPane$Pane" "rows" "I", .methodLink RX3 48 yX1_meltOf, .instanceMethod yX1_meltOf, .selects RX1 yX1_meltOf yX1_meltOf, .code yX1_meltOf cX1_meltOf 4 (some .int), .fieldLink RX1 18 "FrostPane$Pane" "melts" "[I"] ++ wsX30 ++ wsX10 ++ (vx_atS RX3 87 "java/lang/IndexOutOfBoundsException" ["java/lang/RuntimeException", "java/lang/Exception"]).filter goodWord)
def wsX3_around_r1 : List Cond := [Cond.fieldLink RX3 10 "FrostPane" "now" "LFrostPane$Pane;", Cond.methodLink RX3 45 yX3_requireCell, Cond.instanceMethod yX3_requireCell, Cond.selects RX3 yX3_requireCell yX3_requireCell, Cond.initialized RX3, Cond.code yX3_requireCell cX3_requireCell 3 none, Cond.classLink RX3 83 "java/lang/IndexOutOfBoundsException", Cond.initialized "java/lang/IndexOutOfBoundsException", Cond.methodLink RX3 228 yX1_hasCell, Cond.instanceMethod yX1_hasCell, Cond.selects RX1 yX1_hasCell yX1_hasCell, Cond.initialized RX1, Cond.code yX1_hasCell cX1_hasCell 3 (some .boolean), Cond.fieldLink RX1 21 "FrostPane$Pane" "columns" "I", Cond.methodLink RX1 56 yX1_hasRow, Cond.instanceMethod yX1_hasRow, Cond.selects RX1 yX1_hasRow yX1_hasRow, Cond.code yX1_hasRow cX1_hasRow 2 (some .boolean), Cond.fieldLink RX1 25 "FrostPane$Pane" "rows" "I", Cond.methodLink RX3 120 yX1_countAround, Cond.instanceMethod yX1_countAround, Cond.selects RX1 yX1_countAround yX1_countAround, Cond.code yX1_countAround cX1_countAround 3 (some .int), Cond.methodLink RX1 76 yX1_framed]
def wsX3_around_r2 : List Cond := [Cond.instanceMethod yX1_framed, Cond.selects RX1 yX1_framed yX1_framed, Cond.code yX1_framed cX1_framed 2 (some .int), Cond.fieldLink RX1 34 "FrostPane$Pane" "frame" "I", Cond.methodLink RX1 49 yX1_bitsOf, Cond.instanceMethod yX1_bitsOf, Cond.selects RX1 yX1_bitsOf yX1_bitsOf, Cond.code yX1_bitsOf cX1_bitsOf 2 (some .int), Cond.fieldLink RX1 9 "FrostPane$Pane" "frost" "[I", Cond.methodLink RX1 94 yX1_withSides, Cond.instanceMethod yX1_withSides, Cond.selects RX1 yX1_withSides yX1_withSides, Cond.code yX1_withSides cX1_withSides 4 (some .int), Cond.methodLink RX1 79 yX1_countIn, Cond.static yX1_countIn, Cond.code yX1_countIn cX1_countIn 4 (some .int), Cond.methodLink RX1 71 yJ6_bitCount_0f7a4, Cond.static yJ6_bitCount_0f7a4, Cond.initialized RJ6, Cond.code yJ6_bitCount_0f7a4 cJ6_bitCount_0f7a4 1 (some .int), Cond.constant RJ6 265 (1431655765), Cond.constant RJ6 266 (858993459), Cond.constant RJ6 267 (252645135)]
def wsX3_around : List Cond := .code yX3_around cX3_around 3 (some .int) :: ((wsX3_around_r1 ++ wsX3_around_r2) ++ wsX30 ++ wsX10 ++ (vx_atS RX3 87 "java/lang/IndexOutOfBoundsException" ["java/lang/RuntimeException", "java/lang/Exception"]).filter goodWord)
def wsX3_willFreeze_r1 : List Cond := [Cond.fieldLink RX3 10 "FrostPane" "now" "LFrostPane$Pane;", Cond.fieldLink RX3 29 "FrostPane" "book" "LFrostPane$RuleBook;", Cond.fieldLink RX3 88 "FrostPane" "breath" "I", Cond.methodLink RX3 45 yX3_requireCell, Cond.instanceMethod yX3_requireCell, Cond.selects RX3 yX3_requireCell yX3_requireCell, Cond.initialized RX3, Cond.code yX3_requireCell cX3_requireCell 3 none, Cond.classLink RX3 83 "java/lang/IndexOutOfBoundsException", Cond.initialized "java/lang/IndexOutOfBoundsException", Cond.methodLink RX3 228 yX1_hasCell, Cond.instanceMethod yX1_hasCell, Cond.selects RX1 yX1_hasCell yX1_hasCell, Cond.initialized RX1, Cond.code yX1_hasCell cX1_hasCell 3 (some .boolean), Cond.fieldLink RX1 21 "FrostPane$Pane" "columns" "I", Cond.methodLink RX1 56 yX1_hasRow, Cond.instanceMethod yX1_hasRow, Cond.selects RX1 yX1_hasRow yX1_hasRow, Cond.code yX1_hasRow cX1_hasRow 2 (some .boolean), Cond.fieldLink RX1 25 "FrostPane$Pane" "rows" "I", Cond.methodLink RX3 91 yX2_freezesBy, Cond.instanceMethod yX2_freezesBy, Cond.selects RX2 yX2_freezesBy yX2_freezesBy]
def wsX3_willFreeze_r2 : List Cond := [Cond.initialized RX2, Cond.code yX2_freezesBy cX2_freezesBy 2 (some .int), Cond.fieldLink RX2 9 "FrostPane$RuleBook" "freezes" "[I", Cond.methodLink RX2 22 yX2_has, Cond.instanceMethod yX2_has, Cond.selects RX2 yX2_has yX2_has, Cond.code yX2_has cX2_has 2 (some .boolean), Cond.fieldLink RX2 18 "FrostPane$RuleBook" "count" "I", Cond.methodLink RX3 95 yX2_staysBy, Cond.instanceMethod yX2_staysBy, Cond.selects RX2 yX2_staysBy yX2_staysBy, Cond.code yX2_staysBy cX2_staysBy 2 (some .int), Cond.fieldLink RX2 15 "FrostPane$RuleBook" "stays" "[I", Cond.methodLink RX3 123 yX1_isFrozenNext, Cond.instanceMethod yX1_isFrozenNext, Cond.selects RX1 yX1_isFrozenNext yX1_isFrozenNext, Cond.code yX1_isFrozenNext cX1_isFrozenNext 5 (some .boolean), Cond.methodLink RX1 83 yX1_grownRow, Cond.instanceMethod yX1_grownRow, Cond.selects RX1 yX1_grownRow yX1_grownRow, Cond.code yX1_grownRow cX1_grownRow 11 (some .int), Cond.methodLink RX1 76 yX1_framed, Cond.instanceMethod yX1_framed, Cond.selects RX1 yX1_framed yX1_framed]
def wsX3_willFreeze_r3 : List Cond := [Cond.code yX1_framed cX1_framed 2 (some .int), Cond.fieldLink RX1 34 "FrostPane$Pane" "frame" "I", Cond.methodLink RX1 49 yX1_bitsOf, Cond.instanceMethod yX1_bitsOf, Cond.selects RX1 yX1_bitsOf yX1_bitsOf, Cond.code yX1_bitsOf cX1_bitsOf 2 (some .int), Cond.fieldLink RX1 9 "FrostPane$Pane" "frost" "[I", Cond.methodLink RX1 94 yX1_withSides, Cond.instanceMethod yX1_withSides, Cond.selects RX1 yX1_withSides yX1_withSides, Cond.code yX1_withSides cX1_withSides 4 (some .int), Cond.methodLink RX1 64 yX1_hasFrost, Cond.instanceMethod yX1_hasFrost, Cond.selects RX1 yX1_hasFrost yX1_hasFrost, Cond.code yX1_hasFrost cX1_hasFrost 3 (some .boolean), Cond.methodLink RX1 79 yX1_countIn, Cond.static yX1_countIn, Cond.code yX1_countIn cX1_countIn 4 (some .int), Cond.methodLink RX1 71 yJ6_bitCount_0f7a4, Cond.static yJ6_bitCount_0f7a4, Cond.initialized RJ6, Cond.code yJ6_bitCount_0f7a4 cJ6_bitCount_0f7a4 1 (some .int), Cond.constant RJ6 265 (1431655765), Cond.constant RJ6 266 (858993459)]
def wsX3_willFreeze_r4 : List Cond := [Cond.constant RJ6 267 (252645135), Cond.methodLink RX1 53 yX1_meltOf, Cond.instanceMethod yX1_meltOf, Cond.selects RX1 yX1_meltOf yX1_meltOf, Cond.code yX1_meltOf cX1_meltOf 4 (some .int), Cond.fieldLink RX1 18 "FrostPane$Pane" "melts" "[I"]
def wsX3_willFreeze : List Cond := .code yX3_willFreeze cX3_willFreeze 3 (some .boolean) :: ((wsX3_willFreeze_r1 ++ (wsX3_willFreeze_r2 ++ (wsX3_willFreeze_r3 ++ wsX3_willFreeze_r4))) ++ wsX30 ++ wsX10 ++ wsX20 ++ (vx_atS RX3 87 "java/lang/IndexOutOfBoundsException" ["java/lang/RuntimeException", "java/lang/Exception"]).filter goodWord)
def wsX3_frozenInRow : List Cond := .code yX3_frozenInRow cX3_frozenInRow 2 (some .int) :: ([.classLink RX3 83 "java/lang/IndexOutOfBoundsException", .initialized "java/lang/IndexOutOfBoundsException", .fieldLink RX3 10 "FrostPane" "now" "LFrostPane$Pane;", .methodLink RX3 127 yX1_hasRow, .instanceMethod yX1_hasRow, .selects RX1 yX1_hasRow yX1_hasRow, .initialized RX1, .code yX1_hasRow cX1_hasRow 2 (some .boolean), .fieldLink RX1 25 "FrostPane$Pane" "rows" "I", .methodLink RX3 132 yX1_bitsOf, .instanceMethod yX1_bitsOf, .selects RX1 yX1_bitsOf yX1_bitsOf, .code yX1_bitsOf cX1_bitsOf 2 (some .int), .fieldLink RX1 9 "FrostPane$Pane" "frost" "[I", .methodLink RX3 135 yJ6_bitCount_0f7a4, .static yJ6_bitCount_0f7a4, .initialized RJ6, .code yJ6_bitCount_0f7a4 cJ6_bitCount_0f7a4 1 (some .int), .constant RJ6 265 (1431655765), .constant RJ6 266 (858993459), .constant RJ6 267 (252645135)] ++ wsX30 ++ wsX10 ++ (vx_atS RX3 87 "java/lang/IndexOutOfBoundsException" ["java/lang/RuntimeException", "java/lang/Exception"]).filter goodWord)
def wsX3_flowers_r1 : List Cond := [Cond.fieldLink RX3 22 "FrostPane" "picker" "LFrostPane$FlowerPicker;", Cond.fieldLink RX3 10 "FrostPane" "now" "LFrostPane$Pane;", Cond.methodLink RX3 140 yX0_spreadOut, Cond.instanceMethod yX0_spreadOut, Cond.selects RX0 yX0_spreadOut yX0_spreadOut, Cond.initialized RX0, Cond.code yX0_spreadOut cX0_spreadOut 3 none, Cond.fieldLink RX0 9 "FrostPane$FlowerPicker" "left" "[I", Cond.methodLink RX0 18 yX1_bitsOf, Cond.instanceMethod yX1_bitsOf, Cond.selects RX1 yX1_bitsOf yX1_bitsOf, Cond.initialized RX1, Cond.code yX1_bitsOf cX1_bitsOf 2 (some .int), Cond.fieldLink RX1 9 "FrostPane$Pane" "frost" "[I", Cond.methodLink RX3 144 yX0_pick, Cond.instanceMethod yX0_pick, Cond.selects RX0 yX0_pick yX0_pick, Cond.code yX0_pick cX0_pick 4 (some .int), Cond.fieldLink RX0 15 "FrostPane$FlowerPicker" "flower" "[I", Cond.methodLink RX0 24 yJ7_fill_53178, Cond.static yJ7_fill_53178, Cond.initialized RJ7, Cond.code yJ7_fill_53178 cJ7_fill_53178 4 none, Cond.methodLink RX0 30 yX0_widen]
def wsX3_flowers_r2 : List Cond := [Cond.instanceMethod yX0_widen, Cond.selects RX0 yX0_widen yX0_widen, Cond.code yX0_widen cX0_widen 5 (some .boolean), Cond.methodLink RX0 38 yX0_flowerIn, Cond.instanceMethod yX0_flowerIn, Cond.selects RX0 yX0_flowerIn yX0_flowerIn, Cond.code yX0_flowerIn cX0_flowerIn 2 (some .int), Cond.methodLink RX0 34 yX0_takeAway, Cond.instanceMethod yX0_takeAway, Cond.selects RX0 yX0_takeAway yX0_takeAway, Cond.code yX0_takeAway cX0_takeAway 3 (some .int), Cond.methodLink RX0 41 yJ6_bitCount_0f7a4, Cond.static yJ6_bitCount_0f7a4, Cond.initialized RJ6, Cond.code yJ6_bitCount_0f7a4 cJ6_bitCount_0f7a4 1 (some .int), Cond.constant RJ6 265 (1431655765), Cond.constant RJ6 266 (858993459), Cond.constant RJ6 267 (252645135)]
def wsX3_flowers : List Cond := .code yX3_flowers cX3_flowers 4 (some .int) :: ((wsX3_flowers_r1 ++ wsX3_flowers_r2) ++ wsX30 ++ wsX10 ++ wsX00)
def wsX3_largestFlower_r1 : List Cond := [Cond.fieldLink RX3 22 "FrostPane" "picker" "LFrostPane$FlowerPicker;", Cond.fieldLink RX3 10 "FrostPane" "now" "LFrostPane$Pane;", Cond.methodLink RX3 147 Lib.Math.max.name, Cond.static Lib.Math.max.name, Cond.initialized "java/lang/Math", Cond.code Lib.Math.max.name Lib.Math.max.code 2 (some .int), Cond.methodLink RX3 140 yX0_spreadOut, Cond.instanceMethod yX0_spreadOut, Cond.selects RX0 yX0_spreadOut yX0_spreadOut, Cond.initialized RX0, Cond.code yX0_spreadOut cX0_spreadOut 3 none, Cond.fieldLink RX0 9 "FrostPane$FlowerPicker" "left" "[I", Cond.methodLink RX0 18 yX1_bitsOf, Cond.instanceMethod yX1_bitsOf, Cond.selects RX1 yX1_bitsOf yX1_bitsOf, Cond.initialized RX1, Cond.code yX1_bitsOf cX1_bitsOf 2 (some .int), Cond.fieldLink RX1 9 "FrostPane$Pane" "frost" "[I", Cond.methodLink RX3 144 yX0_pick, Cond.instanceMethod yX0_pick, Cond.selects RX0 yX0_pick yX0_pick, Cond.code yX0_pick cX0_pick 4 (some .int), Cond.fieldLink RX0 15 "FrostPane$FlowerPicker" "flower" "[I", Cond.methodLink RX0 24 yJ7_fill_53178]
def wsX3_largestFlower_r2 : List Cond := [Cond.static yJ7_fill_53178, Cond.initialized RJ7, Cond.code yJ7_fill_53178 cJ7_fill_53178 4 none, Cond.methodLink RX0 30 yX0_widen, Cond.instanceMethod yX0_widen, Cond.selects RX0 yX0_widen yX0_widen, Cond.code yX0_widen cX0_widen 5 (some .boolean), Cond.methodLink RX0 38 yX0_flowerIn, Cond.instanceMethod yX0_flowerIn, Cond.selects RX0 yX0_flowerIn yX0_flowerIn, Cond.code yX0_flowerIn cX0_flowerIn 2 (some .int), Cond.methodLink RX0 34 yX0_takeAway, Cond.instanceMethod yX0_takeAway, Cond.selects RX0 yX0_takeAway yX0_takeAway, Cond.code yX0_takeAway cX0_takeAway 3 (some .int), Cond.methodLink RX0 41 yJ6_bitCount_0f7a4, Cond.static yJ6_bitCount_0f7a4, Cond.initialized RJ6, Cond.code yJ6_bitCount_0f7a4 cJ6_bitCount_0f7a4 1 (some .int), Cond.constant RJ6 265 (1431655765), Cond.constant RJ6 266 (858993459), Cond.constant RJ6 267 (252645135)]
def wsX3_largestFlower : List Cond := .code yX3_largestFlower cX3_largestFlower 4 (some .int) :: ((wsX3_largestFlower_r1 ++ wsX3_largestFlower_r2) ++ wsX30 ++ wsX10 ++ wsX00)
def wsX3_flowerAt_r1 : List Cond := [Cond.fieldLink RX3 22 "FrostPane" "picker" "LFrostPane$FlowerPicker;", Cond.fieldLink RX3 10 "FrostPane" "now" "LFrostPane$Pane;", Cond.methodLink RX3 45 yX3_requireCell, Cond.instanceMethod yX3_requireCell, Cond.selects RX3 yX3_requireCell yX3_requireCell, Cond.initialized RX3, Cond.code yX3_requireCell cX3_requireCell 3 none, Cond.classLink RX3 83 "java/lang/IndexOutOfBoundsException", Cond.initialized "java/lang/IndexOutOfBoundsException", Cond.methodLink RX3 228 yX1_hasCell, Cond.instanceMethod yX1_hasCell, Cond.selects RX1 yX1_hasCell yX1_hasCell, Cond.initialized RX1, Cond.code yX1_hasCell cX1_hasCell 3 (some .boolean), Cond.fieldLink RX1 21 "FrostPane$Pane" "columns" "I", Cond.methodLink RX1 56 yX1_hasRow, Cond.instanceMethod yX1_hasRow, Cond.selects RX1 yX1_hasRow yX1_hasRow, Cond.code yX1_hasRow cX1_hasRow 2 (some .boolean), Cond.fieldLink RX1 25 "FrostPane$Pane" "rows" "I", Cond.methodLink RX3 140 yX0_spreadOut, Cond.instanceMethod yX0_spreadOut, Cond.selects RX0 yX0_spreadOut yX0_spreadOut, Cond.initialized RX0]
def wsX3_flowerAt_r2 : List Cond := [Cond.code yX0_spreadOut cX0_spreadOut 3 none, Cond.fieldLink RX0 9 "FrostPane$FlowerPicker" "left" "[I", Cond.methodLink RX0 18 yX1_bitsOf, Cond.instanceMethod yX1_bitsOf, Cond.selects RX1 yX1_bitsOf yX1_bitsOf, Cond.code yX1_bitsOf cX1_bitsOf 2 (some .int), Cond.fieldLink RX1 9 "FrostPane$Pane" "frost" "[I", Cond.methodLink RX3 144 yX0_pick, Cond.instanceMethod yX0_pick, Cond.selects RX0 yX0_pick yX0_pick, Cond.code yX0_pick cX0_pick 4 (some .int), Cond.fieldLink RX0 15 "FrostPane$FlowerPicker" "flower" "[I", Cond.methodLink RX0 24 yJ7_fill_53178, Cond.static yJ7_fill_53178, Cond.initialized RJ7, Cond.code yJ7_fill_53178 cJ7_fill_53178 4 none, Cond.methodLink RX0 30 yX0_widen, Cond.instanceMethod yX0_widen, Cond.selects RX0 yX0_widen yX0_widen, Cond.code yX0_widen cX0_widen 5 (some .boolean), Cond.methodLink RX0 38 yX0_flowerIn, Cond.instanceMethod yX0_flowerIn, Cond.selects RX0 yX0_flowerIn yX0_flowerIn, Cond.code yX0_flowerIn cX0_flowerIn 2 (some .int)]
def wsX3_flowerAt_r3 : List Cond := [Cond.methodLink RX0 34 yX0_takeAway, Cond.instanceMethod yX0_takeAway, Cond.selects RX0 yX0_takeAway yX0_takeAway, Cond.code yX0_takeAway cX0_takeAway 3 (some .int), Cond.methodLink RX0 41 yJ6_bitCount_0f7a4, Cond.static yJ6_bitCount_0f7a4, Cond.initialized RJ6, Cond.code yJ6_bitCount_0f7a4 cJ6_bitCount_0f7a4 1 (some .int), Cond.constant RJ6 265 (1431655765), Cond.constant RJ6 266 (858993459), Cond.constant RJ6 267 (252645135)]
def wsX3_flowerAt : List Cond := .code yX3_flowerAt cX3_flowerAt 3 (some .int) :: ((wsX3_flowerAt_r1 ++ (wsX3_flowerAt_r2 ++ wsX3_flowerAt_r3)) ++ wsX30 ++ wsX10 ++ wsX00 ++ (vx_atS RX3 87 "java/lang/IndexOutOfBoundsException" ["java/lang/RuntimeException", "java/lang/Exception"]).filter goodWord)
def wsX3_isMirrored : List Cond := .code yX3_isMirrored cX3_isMirrored 3 (some .boolean) :: ([.fieldLink RX3 10 "FrostPane" "now" "LFrostPane$Pane;", .methodLink RX3 61 yX1_hasFrost, .instanceMethod yX1_hasFrost, .selects RX1 yX1_hasFrost yX1_hasFrost, .initialized RX1, .code yX1_hasFrost cX1_hasFrost 3 (some .boolean), .methodLink RX1 49 yX1_bitsOf, .instanceMethod yX1_bitsOf, .selects RX1 yX1_bitsOf yX1_bitsOf, .code yX1_bitsOf cX1_bitsOf 2 (some .int), .fieldLink RX1 9 "FrostPane$Pane" "frost" "[I"] ++ wsX30 ++ wsX10)
def wsX3_frostBehind_r1 : List Cond := [Cond.fieldLink RX3 16 "FrostPane" "ahead" "LFrostPane$Pane;", Cond.fieldLink RX3 10 "FrostPane" "now" "LFrostPane$Pane;", Cond.fieldLink RX3 29 "FrostPane" "book" "LFrostPane$RuleBook;", Cond.methodLink RX3 155 yX1_becomeLike, Cond.instanceMethod yX1_becomeLike, Cond.selects RX1 yX1_becomeLike yX1_becomeLike, Cond.initialized RX1, Cond.code yX1_becomeLike cX1_becomeLike 2 none, Cond.fieldLink RX1 21 "FrostPane$Pane" "columns" "I", Cond.fieldLink RX1 25 "FrostPane$Pane" "rows" "I", Cond.fieldLink RX1 34 "FrostPane$Pane" "frame" "I", Cond.fieldLink RX1 9 "FrostPane$Pane" "frost" "[I", Cond.methodLink RX1 37 Lib.Math.min.name, Cond.static Lib.Math.min.name, Cond.initialized "java/lang/Math", Cond.code Lib.Math.min.name Lib.Math.min.code 2 (some .int), Cond.methodLink RX1 43 arraycopyName, Cond.native arraycopyName, Cond.static arraycopyName, Cond.initialized "java/lang/System", Cond.fieldLink RX1 18 "FrostPane$Pane" "melts" "[I", Cond.methodLink RX3 91 yX2_freezesBy, Cond.instanceMethod yX2_freezesBy, Cond.selects RX2 yX2_freezesBy yX2_freezesBy]
def wsX3_frostBehind_r2 : List Cond := [Cond.initialized RX2, Cond.code yX2_freezesBy cX2_freezesBy 2 (some .int), Cond.fieldLink RX2 9 "FrostPane$RuleBook" "freezes" "[I", Cond.methodLink RX2 22 yX2_has, Cond.instanceMethod yX2_has, Cond.selects RX2 yX2_has yX2_has, Cond.code yX2_has cX2_has 2 (some .boolean), Cond.fieldLink RX2 18 "FrostPane$RuleBook" "count" "I", Cond.methodLink RX3 95 yX2_staysBy, Cond.instanceMethod yX2_staysBy, Cond.selects RX2 yX2_staysBy yX2_staysBy, Cond.code yX2_staysBy cX2_staysBy 2 (some .int), Cond.fieldLink RX2 15 "FrostPane$RuleBook" "stays" "[I", Cond.methodLink RX3 98 yX1_step, Cond.instanceMethod yX1_step, Cond.selects RX1 yX1_step yX1_step, Cond.code yX1_step cX1_step 4 (some .boolean), Cond.fieldLink RX1 15 "FrostPane$Pane" "frostNext" "[I", Cond.methodLink RX1 83 yX1_grownRow, Cond.instanceMethod yX1_grownRow, Cond.selects RX1 yX1_grownRow yX1_grownRow, Cond.code yX1_grownRow cX1_grownRow 11 (some .int), Cond.methodLink RX1 76 yX1_framed, Cond.instanceMethod yX1_framed]
def wsX3_frostBehind_r3 : List Cond := [Cond.selects RX1 yX1_framed yX1_framed, Cond.code yX1_framed cX1_framed 2 (some .int), Cond.methodLink RX1 56 yX1_hasRow, Cond.instanceMethod yX1_hasRow, Cond.selects RX1 yX1_hasRow yX1_hasRow, Cond.code yX1_hasRow cX1_hasRow 2 (some .boolean), Cond.methodLink RX1 49 yX1_bitsOf, Cond.instanceMethod yX1_bitsOf, Cond.selects RX1 yX1_bitsOf yX1_bitsOf, Cond.code yX1_bitsOf cX1_bitsOf 2 (some .int), Cond.methodLink RX1 94 yX1_withSides, Cond.instanceMethod yX1_withSides, Cond.selects RX1 yX1_withSides yX1_withSides, Cond.code yX1_withSides cX1_withSides 4 (some .int), Cond.methodLink RX1 64 yX1_hasFrost, Cond.instanceMethod yX1_hasFrost, Cond.selects RX1 yX1_hasFrost yX1_hasFrost, Cond.code yX1_hasFrost cX1_hasFrost 3 (some .boolean), Cond.methodLink RX1 79 yX1_countIn, Cond.static yX1_countIn, Cond.code yX1_countIn cX1_countIn 4 (some .int), Cond.methodLink RX1 71 yJ6_bitCount_0f7a4, Cond.static yJ6_bitCount_0f7a4, Cond.initialized RJ6]
def wsX3_frostBehind_r4 : List Cond := [Cond.code yJ6_bitCount_0f7a4 cJ6_bitCount_0f7a4 1 (some .int), Cond.constant RJ6 265 (1431655765), Cond.constant RJ6 266 (858993459), Cond.constant RJ6 267 (252645135), Cond.methodLink RX1 53 yX1_meltOf, Cond.instanceMethod yX1_meltOf, Cond.selects RX1 yX1_meltOf yX1_meltOf, Cond.code yX1_meltOf cX1_meltOf 4 (some .int), Cond.methodLink RX1 87 yX1_meltLess, Cond.instanceMethod yX1_meltLess, Cond.selects RX1 yX1_meltLess yX1_meltLess, Cond.code yX1_meltLess cX1_meltLess 2 none, Cond.methodLink RX1 90 yX1_takeNext, Cond.instanceMethod yX1_takeNext, Cond.selects RX1 yX1_takeNext yX1_takeNext, Cond.code yX1_takeNext cX1_takeNext 3 (some .boolean), Cond.methodLink RX3 104 yX1_countFrost, Cond.instanceMethod yX1_countFrost, Cond.selects RX1 yX1_countFrost yX1_countFrost, Cond.code yX1_countFrost cX1_countFrost 3 (some .int)]
def wsX3_frostBehind : List Cond := .code yX3_frostBehind cX3_frostBehind 4 (some .int) :: ((wsX3_frostBehind_r1 ++ (wsX3_frostBehind_r2 ++ (wsX3_frostBehind_r3 ++ wsX3_frostBehind_r4))) ++ wsX30 ++ wsX10 ++ wsX20)
def wsX3_frozenIn_r1 : List Cond := [Cond.fieldLink RX3 88 "FrostPane" "breath" "I", Cond.methodLink RX3 41 yX3_requireWithin, Cond.static yX3_requireWithin, Cond.initialized RX3, Cond.code yX3_requireWithin cX3_requireWithin 3 none, Cond.classLink RX3 233 "java/lang/IllegalArgumentException", Cond.initialized "java/lang/IllegalArgumentException", Cond.methodLink RX3 152 yX3_frostBehind, Cond.instanceMethod yX3_frostBehind, Cond.selects RX3 yX3_frostBehind yX3_frostBehind, Cond.code yX3_frostBehind cX3_frostBehind 4 (some .int), Cond.fieldLink RX3 16 "FrostPane" "ahead" "LFrostPane$Pane;", Cond.fieldLink RX3 10 "FrostPane" "now" "LFrostPane$Pane;", Cond.fieldLink RX3 29 "FrostPane" "book" "LFrostPane$RuleBook;", Cond.methodLink RX3 155 yX1_becomeLike, Cond.instanceMethod yX1_becomeLike, Cond.selects RX1 yX1_becomeLike yX1_becomeLike, Cond.initialized RX1, Cond.code yX1_becomeLike cX1_becomeLike 2 none, Cond.fieldLink RX1 21 "FrostPane$Pane" "columns" "I", Cond.fieldLink RX1 25 "FrostPane$Pane" "rows" "I", Cond.fieldLink RX1 34 "FrostPane$Pane" "frame" "I", Cond.fieldLink RX1 9 "FrostPane$Pane" "frost" "[I", Cond.methodLink RX1 37 Lib.Math.min.name]
def wsX3_frozenIn_r2 : List Cond := [Cond.static Lib.Math.min.name, Cond.initialized "java/lang/Math", Cond.code Lib.Math.min.name Lib.Math.min.code 2 (some .int), Cond.methodLink RX1 43 arraycopyName, Cond.native arraycopyName, Cond.static arraycopyName, Cond.initialized "java/lang/System", Cond.fieldLink RX1 18 "FrostPane$Pane" "melts" "[I", Cond.methodLink RX3 91 yX2_freezesBy, Cond.instanceMethod yX2_freezesBy, Cond.selects RX2 yX2_freezesBy yX2_freezesBy, Cond.initialized RX2, Cond.code yX2_freezesBy cX2_freezesBy 2 (some .int), Cond.fieldLink RX2 9 "FrostPane$RuleBook" "freezes" "[I", Cond.methodLink RX2 22 yX2_has, Cond.instanceMethod yX2_has, Cond.selects RX2 yX2_has yX2_has, Cond.code yX2_has cX2_has 2 (some .boolean), Cond.fieldLink RX2 18 "FrostPane$RuleBook" "count" "I", Cond.methodLink RX3 95 yX2_staysBy, Cond.instanceMethod yX2_staysBy, Cond.selects RX2 yX2_staysBy yX2_staysBy, Cond.code yX2_staysBy cX2_staysBy 2 (some .int), Cond.fieldLink RX2 15 "FrostPane$RuleBook" "stays" "[I"]
def wsX3_frozenIn_r3 : List Cond := [Cond.methodLink RX3 98 yX1_step, Cond.instanceMethod yX1_step, Cond.selects RX1 yX1_step yX1_step, Cond.code yX1_step cX1_step 4 (some .boolean), Cond.fieldLink RX1 15 "FrostPane$Pane" "frostNext" "[I", Cond.methodLink RX1 83 yX1_grownRow, Cond.instanceMethod yX1_grownRow, Cond.selects RX1 yX1_grownRow yX1_grownRow, Cond.code yX1_grownRow cX1_grownRow 11 (some .int), Cond.methodLink RX1 76 yX1_framed, Cond.instanceMethod yX1_framed, Cond.selects RX1 yX1_framed yX1_framed, Cond.code yX1_framed cX1_framed 2 (some .int), Cond.methodLink RX1 56 yX1_hasRow, Cond.instanceMethod yX1_hasRow, Cond.selects RX1 yX1_hasRow yX1_hasRow, Cond.code yX1_hasRow cX1_hasRow 2 (some .boolean), Cond.methodLink RX1 49 yX1_bitsOf, Cond.instanceMethod yX1_bitsOf, Cond.selects RX1 yX1_bitsOf yX1_bitsOf, Cond.code yX1_bitsOf cX1_bitsOf 2 (some .int), Cond.methodLink RX1 94 yX1_withSides, Cond.instanceMethod yX1_withSides, Cond.selects RX1 yX1_withSides yX1_withSides]
def wsX3_frozenIn_r4 : List Cond := [Cond.code yX1_withSides cX1_withSides 4 (some .int), Cond.methodLink RX1 64 yX1_hasFrost, Cond.instanceMethod yX1_hasFrost, Cond.selects RX1 yX1_hasFrost yX1_hasFrost, Cond.code yX1_hasFrost cX1_hasFrost 3 (some .boolean), Cond.methodLink RX1 79 yX1_countIn, Cond.static yX1_countIn, Cond.code yX1_countIn cX1_countIn 4 (some .int), Cond.methodLink RX1 71 yJ6_bitCount_0f7a4, Cond.static yJ6_bitCount_0f7a4, Cond.initialized RJ6, Cond.code yJ6_bitCount_0f7a4 cJ6_bitCount_0f7a4 1 (some .int), Cond.constant RJ6 265 (1431655765), Cond.constant RJ6 266 (858993459), Cond.constant RJ6 267 (252645135), Cond.methodLink RX1 53 yX1_meltOf, Cond.instanceMethod yX1_meltOf, Cond.selects RX1 yX1_meltOf yX1_meltOf, Cond.code yX1_meltOf cX1_meltOf 4 (some .int), Cond.methodLink RX1 87 yX1_meltLess, Cond.instanceMethod yX1_meltLess, Cond.selects RX1 yX1_meltLess yX1_meltLess, Cond.code yX1_meltLess cX1_meltLess 2 none, Cond.methodLink RX1 90 yX1_takeNext]
def wsX3_frozenIn_r5 : List Cond := [Cond.instanceMethod yX1_takeNext, Cond.selects RX1 yX1_takeNext yX1_takeNext, Cond.code yX1_takeNext cX1_takeNext 3 (some .boolean), Cond.methodLink RX3 104 yX1_countFrost, Cond.instanceMethod yX1_countFrost, Cond.selects RX1 yX1_countFrost yX1_countFrost, Cond.code yX1_countFrost cX1_countFrost 3 (some .int)]
def wsX3_frozenIn : List Cond := .code yX3_frozenIn cX3_frozenIn 2 (some .int) :: ((wsX3_frozenIn_r1 ++ (wsX3_frozenIn_r2 ++ (wsX3_frozenIn_r3 ++ (wsX3_frozenIn_r4 ++ wsX3_frozenIn_r5)))) ++ wsX30 ++ wsX10 ++ wsX20 ++ (vx_atS RX3 237 "java/lang/IllegalArgumentException" ["java/lang/RuntimeException", "java/lang/Exception"]).filter goodWord)
def wsX3_comesAgainIn_r1 : List Cond := [Cond.fieldLink RX3 16 "FrostPane" "ahead" "LFrostPane$Pane;", Cond.fieldLink RX3 10 "FrostPane" "now" "LFrostPane$Pane;", Cond.fieldLink RX3 29 "FrostPane" "book" "LFrostPane$RuleBook;", Cond.fieldLink RX3 88 "FrostPane" "breath" "I", Cond.methodLink RX3 155 yX1_becomeLike, Cond.instanceMethod yX1_becomeLike, Cond.selects RX1 yX1_becomeLike yX1_becomeLike, Cond.initialized RX1, Cond.code yX1_becomeLike cX1_becomeLike 2 none, Cond.fieldLink RX1 21 "FrostPane$Pane" "columns" "I", Cond.fieldLink RX1 25 "FrostPane$Pane" "rows" "I", Cond.fieldLink RX1 34 "FrostPane$Pane" "frame" "I", Cond.fieldLink RX1 9 "FrostPane$Pane" "frost" "[I", Cond.methodLink RX1 37 Lib.Math.min.name, Cond.static Lib.Math.min.name, Cond.initialized "java/lang/Math", Cond.code Lib.Math.min.name Lib.Math.min.code 2 (some .int), Cond.methodLink RX1 43 arraycopyName, Cond.native arraycopyName, Cond.static arraycopyName, Cond.initialized "java/lang/System", Cond.fieldLink RX1 18 "FrostPane$Pane" "melts" "[I", Cond.methodLink RX3 91 yX2_freezesBy, Cond.instanceMethod yX2_freezesBy]
def wsX3_comesAgainIn_r2 : List Cond := [Cond.selects RX2 yX2_freezesBy yX2_freezesBy, Cond.initialized RX2, Cond.code yX2_freezesBy cX2_freezesBy 2 (some .int), Cond.fieldLink RX2 9 "FrostPane$RuleBook" "freezes" "[I", Cond.methodLink RX2 22 yX2_has, Cond.instanceMethod yX2_has, Cond.selects RX2 yX2_has yX2_has, Cond.code yX2_has cX2_has 2 (some .boolean), Cond.fieldLink RX2 18 "FrostPane$RuleBook" "count" "I", Cond.methodLink RX3 95 yX2_staysBy, Cond.instanceMethod yX2_staysBy, Cond.selects RX2 yX2_staysBy yX2_staysBy, Cond.code yX2_staysBy cX2_staysBy 2 (some .int), Cond.fieldLink RX2 15 "FrostPane$RuleBook" "stays" "[I", Cond.methodLink RX3 98 yX1_step, Cond.instanceMethod yX1_step, Cond.selects RX1 yX1_step yX1_step, Cond.code yX1_step cX1_step 4 (some .boolean), Cond.fieldLink RX1 15 "FrostPane$Pane" "frostNext" "[I", Cond.methodLink RX1 83 yX1_grownRow, Cond.instanceMethod yX1_grownRow, Cond.selects RX1 yX1_grownRow yX1_grownRow, Cond.code yX1_grownRow cX1_grownRow 11 (some .int), Cond.methodLink RX1 76 yX1_framed]
def wsX3_comesAgainIn_r3 : List Cond := [Cond.instanceMethod yX1_framed, Cond.selects RX1 yX1_framed yX1_framed, Cond.code yX1_framed cX1_framed 2 (some .int), Cond.methodLink RX1 56 yX1_hasRow, Cond.instanceMethod yX1_hasRow, Cond.selects RX1 yX1_hasRow yX1_hasRow, Cond.code yX1_hasRow cX1_hasRow 2 (some .boolean), Cond.methodLink RX1 49 yX1_bitsOf, Cond.instanceMethod yX1_bitsOf, Cond.selects RX1 yX1_bitsOf yX1_bitsOf, Cond.code yX1_bitsOf cX1_bitsOf 2 (some .int), Cond.methodLink RX1 94 yX1_withSides, Cond.instanceMethod yX1_withSides, Cond.selects RX1 yX1_withSides yX1_withSides, Cond.code yX1_withSides cX1_withSides 4 (some .int), Cond.methodLink RX1 64 yX1_hasFrost, Cond.instanceMethod yX1_hasFrost, Cond.selects RX1 yX1_hasFrost yX1_hasFrost, Cond.code yX1_hasFrost cX1_hasFrost 3 (some .boolean), Cond.methodLink RX1 79 yX1_countIn, Cond.static yX1_countIn, Cond.code yX1_countIn cX1_countIn 4 (some .int), Cond.methodLink RX1 71 yJ6_bitCount_0f7a4, Cond.static yJ6_bitCount_0f7a4]
def wsX3_comesAgainIn_r4 : List Cond := [Cond.initialized RJ6, Cond.code yJ6_bitCount_0f7a4 cJ6_bitCount_0f7a4 1 (some .int), Cond.constant RJ6 265 (1431655765), Cond.constant RJ6 266 (858993459), Cond.constant RJ6 267 (252645135), Cond.methodLink RX1 53 yX1_meltOf, Cond.instanceMethod yX1_meltOf, Cond.selects RX1 yX1_meltOf yX1_meltOf, Cond.code yX1_meltOf cX1_meltOf 4 (some .int), Cond.methodLink RX1 87 yX1_meltLess, Cond.instanceMethod yX1_meltLess, Cond.selects RX1 yX1_meltLess yX1_meltLess, Cond.code yX1_meltLess cX1_meltLess 2 none, Cond.methodLink RX1 90 yX1_takeNext, Cond.instanceMethod yX1_takeNext, Cond.selects RX1 yX1_takeNext yX1_takeNext, Cond.code yX1_takeNext cX1_takeNext 3 (some .boolean), Cond.methodLink RX3 158 yX1_isLike, Cond.instanceMethod yX1_isLike, Cond.selects RX1 yX1_isLike yX1_isLike, Cond.code yX1_isLike cX1_isLike 4 (some .boolean)]
def wsX3_comesAgainIn : List Cond := .code yX3_comesAgainIn cX3_comesAgainIn 2 (some .int) :: ((wsX3_comesAgainIn_r1 ++ (wsX3_comesAgainIn_r2 ++ (wsX3_comesAgainIn_r3 ++ wsX3_comesAgainIn_r4))) ++ wsX30 ++ wsX10 ++ wsX20)
def wsX3_standsStillIn_r1 : List Cond := [Cond.fieldLink RX3 16 "FrostPane" "ahead" "LFrostPane$Pane;", Cond.fieldLink RX3 10 "FrostPane" "now" "LFrostPane$Pane;", Cond.fieldLink RX3 29 "FrostPane" "book" "LFrostPane$RuleBook;", Cond.fieldLink RX3 88 "FrostPane" "breath" "I", Cond.methodLink RX3 155 yX1_becomeLike, Cond.instanceMethod yX1_becomeLike, Cond.selects RX1 yX1_becomeLike yX1_becomeLike, Cond.initialized RX1, Cond.code yX1_becomeLike cX1_becomeLike 2 none, Cond.fieldLink RX1 21 "FrostPane$Pane" "columns" "I", Cond.fieldLink RX1 25 "FrostPane$Pane" "rows" "I", Cond.fieldLink RX1 34 "FrostPane$Pane" "frame" "I", Cond.fieldLink RX1 9 "FrostPane$Pane" "frost" "[I", Cond.methodLink RX1 37 Lib.Math.min.name, Cond.static Lib.Math.min.name, Cond.initialized "java/lang/Math", Cond.code Lib.Math.min.name Lib.Math.min.code 2 (some .int), Cond.methodLink RX1 43 arraycopyName, Cond.native arraycopyName, Cond.static arraycopyName, Cond.initialized "java/lang/System", Cond.fieldLink RX1 18 "FrostPane$Pane" "melts" "[I", Cond.methodLink RX3 117 yX1_countMelted, Cond.instanceMethod yX1_countMelted]
def wsX3_standsStillIn_r2 : List Cond := [Cond.selects RX1 yX1_countMelted yX1_countMelted, Cond.code yX1_countMelted cX1_countMelted 3 (some .int), Cond.methodLink RX3 91 yX2_freezesBy, Cond.instanceMethod yX2_freezesBy, Cond.selects RX2 yX2_freezesBy yX2_freezesBy, Cond.initialized RX2, Cond.code yX2_freezesBy cX2_freezesBy 2 (some .int), Cond.fieldLink RX2 9 "FrostPane$RuleBook" "freezes" "[I", Cond.methodLink RX2 22 yX2_has, Cond.instanceMethod yX2_has, Cond.selects RX2 yX2_has yX2_has, Cond.code yX2_has cX2_has 2 (some .boolean), Cond.fieldLink RX2 18 "FrostPane$RuleBook" "count" "I", Cond.methodLink RX3 95 yX2_staysBy, Cond.instanceMethod yX2_staysBy, Cond.selects RX2 yX2_staysBy yX2_staysBy, Cond.code yX2_staysBy cX2_staysBy 2 (some .int), Cond.fieldLink RX2 15 "FrostPane$RuleBook" "stays" "[I", Cond.methodLink RX3 98 yX1_step, Cond.instanceMethod yX1_step, Cond.selects RX1 yX1_step yX1_step, Cond.code yX1_step cX1_step 4 (some .boolean), Cond.fieldLink RX1 15 "FrostPane$Pane" "frostNext" "[I", Cond.methodLink RX1 83 yX1_grownRow]
def wsX3_standsStillIn_r3 : List Cond := [Cond.instanceMethod yX1_grownRow, Cond.selects RX1 yX1_grownRow yX1_grownRow, Cond.code yX1_grownRow cX1_grownRow 11 (some .int), Cond.methodLink RX1 76 yX1_framed, Cond.instanceMethod yX1_framed, Cond.selects RX1 yX1_framed yX1_framed, Cond.code yX1_framed cX1_framed 2 (some .int), Cond.methodLink RX1 56 yX1_hasRow, Cond.instanceMethod yX1_hasRow, Cond.selects RX1 yX1_hasRow yX1_hasRow, Cond.code yX1_hasRow cX1_hasRow 2 (some .boolean), Cond.methodLink RX1 49 yX1_bitsOf, Cond.instanceMethod yX1_bitsOf, Cond.selects RX1 yX1_bitsOf yX1_bitsOf, Cond.code yX1_bitsOf cX1_bitsOf 2 (some .int), Cond.methodLink RX1 94 yX1_withSides, Cond.instanceMethod yX1_withSides, Cond.selects RX1 yX1_withSides yX1_withSides, Cond.code yX1_withSides cX1_withSides 4 (some .int), Cond.methodLink RX1 64 yX1_hasFrost, Cond.instanceMethod yX1_hasFrost, Cond.selects RX1 yX1_hasFrost yX1_hasFrost, Cond.code yX1_hasFrost cX1_hasFrost 3 (some .boolean), Cond.methodLink RX1 79 yX1_countIn]
def wsX3_standsStillIn_r4 : List Cond := [Cond.static yX1_countIn, Cond.code yX1_countIn cX1_countIn 4 (some .int), Cond.methodLink RX1 71 yJ6_bitCount_0f7a4, Cond.static yJ6_bitCount_0f7a4, Cond.initialized RJ6, Cond.code yJ6_bitCount_0f7a4 cJ6_bitCount_0f7a4 1 (some .int), Cond.constant RJ6 265 (1431655765), Cond.constant RJ6 266 (858993459), Cond.constant RJ6 267 (252645135), Cond.methodLink RX1 53 yX1_meltOf, Cond.instanceMethod yX1_meltOf, Cond.selects RX1 yX1_meltOf yX1_meltOf, Cond.code yX1_meltOf cX1_meltOf 4 (some .int), Cond.methodLink RX1 87 yX1_meltLess, Cond.instanceMethod yX1_meltLess, Cond.selects RX1 yX1_meltLess yX1_meltLess, Cond.code yX1_meltLess cX1_meltLess 2 none, Cond.methodLink RX1 90 yX1_takeNext, Cond.instanceMethod yX1_takeNext, Cond.selects RX1 yX1_takeNext yX1_takeNext, Cond.code yX1_takeNext cX1_takeNext 3 (some .boolean)]
def wsX3_standsStillIn : List Cond := .code yX3_standsStillIn cX3_standsStillIn 4 (some .int) :: ((wsX3_standsStillIn_r1 ++ (wsX3_standsStillIn_r2 ++ (wsX3_standsStillIn_r3 ++ wsX3_standsStillIn_r4))) ++ wsX30 ++ wsX10 ++ wsX20)
def wsX3_peakIn_r1 : List Cond := [Cond.fieldLink RX3 16 "FrostPane" "ahead" "LFrostPane$Pane;", Cond.fieldLink RX3 10 "FrostPane" "now" "LFrostPane$Pane;", Cond.fieldLink RX3 29 "FrostPane" "book" "LFrostPane$RuleBook;", Cond.fieldLink RX3 88 "FrostPane" "breath" "I", Cond.methodLink RX3 41 yX3_requireWithin, Cond.static yX3_requireWithin, Cond.initialized RX3, Cond.code yX3_requireWithin cX3_requireWithin 3 none, Cond.classLink RX3 233 "java/lang/IllegalArgumentException", Cond.initialized "java/lang/IllegalArgumentException", Cond.methodLink RX3 155 yX1_becomeLike, Cond.instanceMethod yX1_becomeLike, Cond.selects RX1 yX1_becomeLike yX1_becomeLike, Cond.initialized RX1, Cond.code yX1_becomeLike cX1_becomeLike 2 none, Cond.fieldLink RX1 21 "FrostPane$Pane" "columns" "I", Cond.fieldLink RX1 25 "FrostPane$Pane" "rows" "I", Cond.fieldLink RX1 34 "FrostPane$Pane" "frame" "I", Cond.fieldLink RX1 9 "FrostPane$Pane" "frost" "[I", Cond.methodLink RX1 37 Lib.Math.min.name, Cond.static Lib.Math.min.name, Cond.initialized "java/lang/Math", Cond.code Lib.Math.min.name Lib.Math.min.code 2 (some .int), Cond.methodLink RX1 43 arraycopyName]
def wsX3_peakIn_r2 : List Cond := [Cond.native arraycopyName, Cond.static arraycopyName, Cond.initialized "java/lang/System", Cond.fieldLink RX1 18 "FrostPane$Pane" "melts" "[I", Cond.methodLink RX3 104 yX1_countFrost, Cond.instanceMethod yX1_countFrost, Cond.selects RX1 yX1_countFrost yX1_countFrost, Cond.code yX1_countFrost cX1_countFrost 3 (some .int), Cond.methodLink RX1 49 yX1_bitsOf, Cond.instanceMethod yX1_bitsOf, Cond.selects RX1 yX1_bitsOf yX1_bitsOf, Cond.code yX1_bitsOf cX1_bitsOf 2 (some .int), Cond.methodLink RX1 71 yJ6_bitCount_0f7a4, Cond.static yJ6_bitCount_0f7a4, Cond.initialized RJ6, Cond.code yJ6_bitCount_0f7a4 cJ6_bitCount_0f7a4 1 (some .int), Cond.constant RJ6 265 (1431655765), Cond.constant RJ6 266 (858993459), Cond.constant RJ6 267 (252645135), Cond.methodLink RX3 91 yX2_freezesBy, Cond.instanceMethod yX2_freezesBy, Cond.selects RX2 yX2_freezesBy yX2_freezesBy, Cond.initialized RX2, Cond.code yX2_freezesBy cX2_freezesBy 2 (some .int)]
def wsX3_peakIn_r3 : List Cond := [Cond.fieldLink RX2 9 "FrostPane$RuleBook" "freezes" "[I", Cond.methodLink RX2 22 yX2_has, Cond.instanceMethod yX2_has, Cond.selects RX2 yX2_has yX2_has, Cond.code yX2_has cX2_has 2 (some .boolean), Cond.fieldLink RX2 18 "FrostPane$RuleBook" "count" "I", Cond.methodLink RX3 95 yX2_staysBy, Cond.instanceMethod yX2_staysBy, Cond.selects RX2 yX2_staysBy yX2_staysBy, Cond.code yX2_staysBy cX2_staysBy 2 (some .int), Cond.fieldLink RX2 15 "FrostPane$RuleBook" "stays" "[I", Cond.methodLink RX3 98 yX1_step, Cond.instanceMethod yX1_step, Cond.selects RX1 yX1_step yX1_step, Cond.code yX1_step cX1_step 4 (some .boolean), Cond.fieldLink RX1 15 "FrostPane$Pane" "frostNext" "[I", Cond.methodLink RX1 83 yX1_grownRow, Cond.instanceMethod yX1_grownRow, Cond.selects RX1 yX1_grownRow yX1_grownRow, Cond.code yX1_grownRow cX1_grownRow 11 (some .int), Cond.methodLink RX1 76 yX1_framed, Cond.instanceMethod yX1_framed, Cond.selects RX1 yX1_framed yX1_framed, Cond.code yX1_framed cX1_framed 2 (some .int)]
def wsX3_peakIn_r4 : List Cond := [Cond.methodLink RX1 56 yX1_hasRow, Cond.instanceMethod yX1_hasRow, Cond.selects RX1 yX1_hasRow yX1_hasRow, Cond.code yX1_hasRow cX1_hasRow 2 (some .boolean), Cond.methodLink RX1 94 yX1_withSides, Cond.instanceMethod yX1_withSides, Cond.selects RX1 yX1_withSides yX1_withSides, Cond.code yX1_withSides cX1_withSides 4 (some .int), Cond.methodLink RX1 64 yX1_hasFrost, Cond.instanceMethod yX1_hasFrost, Cond.selects RX1 yX1_hasFrost yX1_hasFrost, Cond.code yX1_hasFrost cX1_hasFrost 3 (some .boolean), Cond.methodLink RX1 79 yX1_countIn, Cond.static yX1_countIn, Cond.code yX1_countIn cX1_countIn 4 (some .int), Cond.methodLink RX1 53 yX1_meltOf, Cond.instanceMethod yX1_meltOf, Cond.selects RX1 yX1_meltOf yX1_meltOf, Cond.code yX1_meltOf cX1_meltOf 4 (some .int), Cond.methodLink RX1 87 yX1_meltLess, Cond.instanceMethod yX1_meltLess, Cond.selects RX1 yX1_meltLess yX1_meltLess, Cond.code yX1_meltLess cX1_meltLess 2 none, Cond.methodLink RX1 90 yX1_takeNext]
def wsX3_peakIn_r5 : List Cond := [Cond.instanceMethod yX1_takeNext, Cond.selects RX1 yX1_takeNext yX1_takeNext, Cond.code yX1_takeNext cX1_takeNext 3 (some .boolean)]
def wsX3_peakIn : List Cond := .code yX3_peakIn cX3_peakIn 6 (some .int) :: ((wsX3_peakIn_r1 ++ (wsX3_peakIn_r2 ++ (wsX3_peakIn_r3 ++ (wsX3_peakIn_r4 ++ wsX3_peakIn_r5)))) ++ wsX30 ++ wsX10 ++ wsX20 ++ (vx_atS RX3 237 "java/lang/IllegalArgumentException" ["java/lang/RuntimeException", "java/lang/Exception"]).filter goodWord)
def wsX3_bestBreath_r1 : List Cond := [Cond.fieldLink RX3 29 "FrostPane" "book" "LFrostPane$RuleBook;", Cond.methodLink RX3 41 yX3_requireWithin, Cond.static yX3_requireWithin, Cond.initialized RX3, Cond.code yX3_requireWithin cX3_requireWithin 3 none, Cond.classLink RX3 233 "java/lang/IllegalArgumentException", Cond.initialized "java/lang/IllegalArgumentException", Cond.methodLink RX3 152 yX3_frostBehind, Cond.instanceMethod yX3_frostBehind, Cond.selects RX3 yX3_frostBehind yX3_frostBehind, Cond.code yX3_frostBehind cX3_frostBehind 4 (some .int), Cond.fieldLink RX3 16 "FrostPane" "ahead" "LFrostPane$Pane;", Cond.fieldLink RX3 10 "FrostPane" "now" "LFrostPane$Pane;", Cond.methodLink RX3 155 yX1_becomeLike, Cond.instanceMethod yX1_becomeLike, Cond.selects RX1 yX1_becomeLike yX1_becomeLike, Cond.initialized RX1, Cond.code yX1_becomeLike cX1_becomeLike 2 none, Cond.fieldLink RX1 21 "FrostPane$Pane" "columns" "I", Cond.fieldLink RX1 25 "FrostPane$Pane" "rows" "I", Cond.fieldLink RX1 34 "FrostPane$Pane" "frame" "I", Cond.fieldLink RX1 9 "FrostPane$Pane" "frost" "[I", Cond.methodLink RX1 37 Lib.Math.min.name, Cond.static Lib.Math.min.name]
def wsX3_bestBreath_r2 : List Cond := [Cond.initialized "java/lang/Math", Cond.code Lib.Math.min.name Lib.Math.min.code 2 (some .int), Cond.methodLink RX1 43 arraycopyName, Cond.native arraycopyName, Cond.static arraycopyName, Cond.initialized "java/lang/System", Cond.fieldLink RX1 18 "FrostPane$Pane" "melts" "[I", Cond.methodLink RX3 91 yX2_freezesBy, Cond.instanceMethod yX2_freezesBy, Cond.selects RX2 yX2_freezesBy yX2_freezesBy, Cond.initialized RX2, Cond.code yX2_freezesBy cX2_freezesBy 2 (some .int), Cond.fieldLink RX2 9 "FrostPane$RuleBook" "freezes" "[I", Cond.methodLink RX2 22 yX2_has, Cond.instanceMethod yX2_has, Cond.selects RX2 yX2_has yX2_has, Cond.code yX2_has cX2_has 2 (some .boolean), Cond.fieldLink RX2 18 "FrostPane$RuleBook" "count" "I", Cond.methodLink RX3 95 yX2_staysBy, Cond.instanceMethod yX2_staysBy, Cond.selects RX2 yX2_staysBy yX2_staysBy, Cond.code yX2_staysBy cX2_staysBy 2 (some .int), Cond.fieldLink RX2 15 "FrostPane$RuleBook" "stays" "[I", Cond.methodLink RX3 98 yX1_step]
def wsX3_bestBreath_r3 : List Cond := [Cond.instanceMethod yX1_step, Cond.selects RX1 yX1_step yX1_step, Cond.code yX1_step cX1_step 4 (some .boolean), Cond.fieldLink RX1 15 "FrostPane$Pane" "frostNext" "[I", Cond.methodLink RX1 83 yX1_grownRow, Cond.instanceMethod yX1_grownRow, Cond.selects RX1 yX1_grownRow yX1_grownRow, Cond.code yX1_grownRow cX1_grownRow 11 (some .int), Cond.methodLink RX1 76 yX1_framed, Cond.instanceMethod yX1_framed, Cond.selects RX1 yX1_framed yX1_framed, Cond.code yX1_framed cX1_framed 2 (some .int), Cond.methodLink RX1 56 yX1_hasRow, Cond.instanceMethod yX1_hasRow, Cond.selects RX1 yX1_hasRow yX1_hasRow, Cond.code yX1_hasRow cX1_hasRow 2 (some .boolean), Cond.methodLink RX1 49 yX1_bitsOf, Cond.instanceMethod yX1_bitsOf, Cond.selects RX1 yX1_bitsOf yX1_bitsOf, Cond.code yX1_bitsOf cX1_bitsOf 2 (some .int), Cond.methodLink RX1 94 yX1_withSides, Cond.instanceMethod yX1_withSides, Cond.selects RX1 yX1_withSides yX1_withSides, Cond.code yX1_withSides cX1_withSides 4 (some .int)]
def wsX3_bestBreath_r4 : List Cond := [Cond.methodLink RX1 64 yX1_hasFrost, Cond.instanceMethod yX1_hasFrost, Cond.selects RX1 yX1_hasFrost yX1_hasFrost, Cond.code yX1_hasFrost cX1_hasFrost 3 (some .boolean), Cond.methodLink RX1 79 yX1_countIn, Cond.static yX1_countIn, Cond.code yX1_countIn cX1_countIn 4 (some .int), Cond.methodLink RX1 71 yJ6_bitCount_0f7a4, Cond.static yJ6_bitCount_0f7a4, Cond.initialized RJ6, Cond.code yJ6_bitCount_0f7a4 cJ6_bitCount_0f7a4 1 (some .int), Cond.constant RJ6 265 (1431655765), Cond.constant RJ6 266 (858993459), Cond.constant RJ6 267 (252645135), Cond.methodLink RX1 53 yX1_meltOf, Cond.instanceMethod yX1_meltOf, Cond.selects RX1 yX1_meltOf yX1_meltOf, Cond.code yX1_meltOf cX1_meltOf 4 (some .int), Cond.methodLink RX1 87 yX1_meltLess, Cond.instanceMethod yX1_meltLess, Cond.selects RX1 yX1_meltLess yX1_meltLess, Cond.code yX1_meltLess cX1_meltLess 2 none, Cond.methodLink RX1 90 yX1_takeNext, Cond.instanceMethod yX1_takeNext]
def wsX3_bestBreath_r5 : List Cond := [Cond.selects RX1 yX1_takeNext yX1_takeNext, Cond.code yX1_takeNext cX1_takeNext 3 (some .boolean), Cond.methodLink RX3 104 yX1_countFrost, Cond.instanceMethod yX1_countFrost, Cond.selects RX1 yX1_countFrost yX1_countFrost, Cond.code yX1_countFrost cX1_countFrost 3 (some .int)]
def wsX3_bestBreath : List Cond := .code yX3_bestBreath cX3_bestBreath 6 (some .int) :: ((wsX3_bestBreath_r1 ++ (wsX3_bestBreath_r2 ++ (wsX3_bestBreath_r3 ++ (wsX3_bestBreath_r4 ++ wsX3_bestBreath_r5)))) ++ wsX30 ++ wsX20 ++ wsX10 ++ (vx_atS RX3 237 "java/lang/IllegalArgumentException" ["java/lang/RuntimeException", "java/lang/Exception"]).filter goodWord)
def wsX3_meanInRows : List Cond := .code yX3_meanInRows cX3_meanInRows 2 (some .double) :: ([.fieldLink RX3 10 "FrostPane" "now" "LFrostPane$Pane;", .methodLink RX3 104 yX1_countFrost, .instanceMethod yX1_countFrost, .selects RX1 yX1_countFrost yX1_countFrost, .initialized RX1, .code yX1_countFrost cX1_countFrost 3 (some .int), .fieldLink RX1 25 "FrostPane$Pane" "rows" "I", .methodLink RX1 49 yX1_bitsOf, .instanceMethod yX1_bitsOf, .selects RX1 yX1_bitsOf yX1_bitsOf, .code yX1_bitsOf cX1_bitsOf 2 (some .int), .fieldLink RX1 9 "FrostPane$Pane" "frost" "[I", .methodLink RX1 71 yJ6_bitCount_0f7a4, .static yJ6_bitCount_0f7a4, .initialized RJ6, .code yJ6_bitCount_0f7a4 cJ6_bitCount_0f7a4 1 (some .int), .constant RJ6 265 (1431655765), .constant RJ6 266 (858993459), .constant RJ6 267 (252645135)] ++ wsX30 ++ wsX10)
def wsX3_mixed : List Cond := .code yX3_mixed cX3_mixed 4 (some .long) :: ([.constantLong RX3 226 (31)])
def wsX3_asNumber : List Cond := .code yX3_asNumber cX3_asNumber 1 (some .long) :: ([])
def wsX3_digestOfRow_r1 : List Cond := [Cond.fieldLink RX3 10 "FrostPane" "now" "LFrostPane$Pane;", Cond.methodLink RX3 211 yX3_frozenInRow, Cond.instanceMethod yX3_frozenInRow, Cond.selects RX3 yX3_frozenInRow yX3_frozenInRow, Cond.initialized RX3, Cond.code yX3_frozenInRow cX3_frozenInRow 2 (some .int), Cond.classLink RX3 83 "java/lang/IndexOutOfBoundsException", Cond.initialized "java/lang/IndexOutOfBoundsException", Cond.methodLink RX3 127 yX1_hasRow, Cond.instanceMethod yX1_hasRow, Cond.selects RX1 yX1_hasRow yX1_hasRow, Cond.initialized RX1, Cond.code yX1_hasRow cX1_hasRow 2 (some .boolean), Cond.fieldLink RX1 25 "FrostPane$Pane" "rows" "I", Cond.methodLink RX3 132 yX1_bitsOf, Cond.instanceMethod yX1_bitsOf, Cond.selects RX1 yX1_bitsOf yX1_bitsOf, Cond.code yX1_bitsOf cX1_bitsOf 2 (some .int), Cond.fieldLink RX1 9 "FrostPane$Pane" "frost" "[I", Cond.methodLink RX3 135 yJ6_bitCount_0f7a4, Cond.static yJ6_bitCount_0f7a4, Cond.initialized RJ6, Cond.code yJ6_bitCount_0f7a4 cJ6_bitCount_0f7a4 1 (some .int), Cond.constant RJ6 265 (1431655765)]
def wsX3_digestOfRow_r2 : List Cond := [Cond.constant RJ6 266 (858993459), Cond.constant RJ6 267 (252645135), Cond.methodLink RX3 166 yX3_mixed, Cond.static yX3_mixed, Cond.code yX3_mixed cX3_mixed 4 (some .long), Cond.constantLong RX3 226 (31), Cond.methodLink RX3 214 yX3_isFrozen, Cond.instanceMethod yX3_isFrozen, Cond.selects RX3 yX3_isFrozen yX3_isFrozen, Cond.code yX3_isFrozen cX3_isFrozen 3 (some .boolean), Cond.methodLink RX3 45 yX3_requireCell, Cond.instanceMethod yX3_requireCell, Cond.selects RX3 yX3_requireCell yX3_requireCell, Cond.code yX3_requireCell cX3_requireCell 3 none, Cond.methodLink RX3 228 yX1_hasCell, Cond.instanceMethod yX1_hasCell, Cond.selects RX1 yX1_hasCell yX1_hasCell, Cond.code yX1_hasCell cX1_hasCell 3 (some .boolean), Cond.fieldLink RX1 21 "FrostPane$Pane" "columns" "I", Cond.methodLink RX1 56 yX1_hasRow, Cond.methodLink RX3 61 yX1_hasFrost, Cond.instanceMethod yX1_hasFrost, Cond.selects RX1 yX1_hasFrost yX1_hasFrost, Cond.code yX1_hasFrost cX1_hasFrost 3 (some .boolean)]
def wsX3_digestOfRow_r3 : List Cond := [Cond.methodLink RX1 49 yX1_bitsOf, Cond.methodLink RX3 194 yX3_asNumber, Cond.static yX3_asNumber, Cond.code yX3_asNumber cX3_asNumber 1 (some .long), Cond.methodLink RX3 217 yX3_meltedFor, Cond.instanceMethod yX3_meltedFor, Cond.selects RX3 yX3_meltedFor yX3_meltedFor, Cond.code yX3_meltedFor cX3_meltedFor 3 (some .int), Cond.methodLink RX3 48 yX1_meltOf, Cond.instanceMethod yX1_meltOf, Cond.selects RX1 yX1_meltOf yX1_meltOf, Cond.code yX1_meltOf cX1_meltOf 4 (some .int), Cond.fieldLink RX1 18 "FrostPane$Pane" "melts" "[I", Cond.methodLink RX3 220 yX3_around, Cond.instanceMethod yX3_around, Cond.selects RX3 yX3_around yX3_around, Cond.code yX3_around cX3_around 3 (some .int), Cond.methodLink RX3 120 yX1_countAround, Cond.instanceMethod yX1_countAround, Cond.selects RX1 yX1_countAround yX1_countAround, Cond.code yX1_countAround cX1_countAround 3 (some .int), Cond.methodLink RX1 76 yX1_framed, Cond.instanceMethod yX1_framed, Cond.selects RX1 yX1_framed yX1_framed]
def wsX3_digestOfRow_r4 : List Cond := [Cond.code yX1_framed cX1_framed 2 (some .int), Cond.fieldLink RX1 34 "FrostPane$Pane" "frame" "I", Cond.methodLink RX1 94 yX1_withSides, Cond.instanceMethod yX1_withSides, Cond.selects RX1 yX1_withSides yX1_withSides, Cond.code yX1_withSides cX1_withSides 4 (some .int), Cond.methodLink RX1 79 yX1_countIn, Cond.static yX1_countIn, Cond.code yX1_countIn cX1_countIn 4 (some .int), Cond.methodLink RX1 71 yJ6_bitCount_0f7a4, Cond.methodLink RX3 223 yX3_willFreeze, Cond.instanceMethod yX3_willFreeze, Cond.selects RX3 yX3_willFreeze yX3_willFreeze, Cond.code yX3_willFreeze cX3_willFreeze 3 (some .boolean), Cond.fieldLink RX3 29 "FrostPane" "book" "LFrostPane$RuleBook;", Cond.fieldLink RX3 88 "FrostPane" "breath" "I", Cond.methodLink RX3 91 yX2_freezesBy, Cond.instanceMethod yX2_freezesBy, Cond.selects RX2 yX2_freezesBy yX2_freezesBy, Cond.initialized RX2, Cond.code yX2_freezesBy cX2_freezesBy 2 (some .int), Cond.fieldLink RX2 9 "FrostPane$RuleBook" "freezes" "[I", Cond.methodLink RX2 22 yX2_has, Cond.instanceMethod yX2_has]
def wsX3_digestOfRow_r5 : List Cond := [Cond.selects RX2 yX2_has yX2_has, Cond.code yX2_has cX2_has 2 (some .boolean), Cond.fieldLink RX2 18 "FrostPane$RuleBook" "count" "I", Cond.methodLink RX3 95 yX2_staysBy, Cond.instanceMethod yX2_staysBy, Cond.selects RX2 yX2_staysBy yX2_staysBy, Cond.code yX2_staysBy cX2_staysBy 2 (some .int), Cond.fieldLink RX2 15 "FrostPane$RuleBook" "stays" "[I", Cond.methodLink RX3 123 yX1_isFrozenNext, Cond.instanceMethod yX1_isFrozenNext, Cond.selects RX1 yX1_isFrozenNext yX1_isFrozenNext, Cond.code yX1_isFrozenNext cX1_isFrozenNext 5 (some .boolean), Cond.methodLink RX1 83 yX1_grownRow, Cond.instanceMethod yX1_grownRow, Cond.selects RX1 yX1_grownRow yX1_grownRow, Cond.code yX1_grownRow cX1_grownRow 11 (some .int), Cond.methodLink RX1 64 yX1_hasFrost, Cond.methodLink RX1 53 yX1_meltOf]
def wsX3_digestOfRow : List Cond := .code yX3_digestOfRow cX3_digestOfRow 7 (some .long) :: ((wsX3_digestOfRow_r1 ++ (wsX3_digestOfRow_r2 ++ (wsX3_digestOfRow_r3 ++ (wsX3_digestOfRow_r4 ++ wsX3_digestOfRow_r5)))) ++ wsX30 ++ wsX10 ++ wsX20 ++ (vx_atS RX3 87 "java/lang/IndexOutOfBoundsException" ["java/lang/RuntimeException", "java/lang/Exception"]).filter goodWord)
def wsX3_digest_r1 : List Cond := [Cond.constantLong RX3 162 (2203), Cond.fieldLink RX3 10 "FrostPane" "now" "LFrostPane$Pane;", Cond.methodLink RX3 164 yX3_columns, Cond.instanceMethod yX3_columns, Cond.selects RX3 yX3_columns yX3_columns, Cond.initialized RX3, Cond.code yX3_columns cX3_columns 1 (some .int), Cond.methodLink RX3 166 yX3_mixed, Cond.static yX3_mixed, Cond.code yX3_mixed cX3_mixed 4 (some .long), Cond.constantLong RX3 226 (31), Cond.methodLink RX3 170 yX3_rows, Cond.instanceMethod yX3_rows, Cond.selects RX3 yX3_rows yX3_rows, Cond.code yX3_rows cX3_rows 1 (some .int), Cond.methodLink RX3 172 yX3_generation, Cond.instanceMethod yX3_generation, Cond.selects RX3 yX3_generation yX3_generation, Cond.code yX3_generation cX3_generation 1 (some .int), Cond.fieldLink RX3 101 "FrostPane" "generation" "I", Cond.methodLink RX3 174 yX3_rules, Cond.instanceMethod yX3_rules, Cond.selects RX3 yX3_rules yX3_rules, Cond.code yX3_rules cX3_rules 1 (some .int)]
def wsX3_digest_r2 : List Cond := [Cond.fieldLink RX3 29 "FrostPane" "book" "LFrostPane$RuleBook;", Cond.methodLink RX3 177 yX3_breath, Cond.instanceMethod yX3_breath, Cond.selects RX3 yX3_breath yX3_breath, Cond.code yX3_breath cX3_breath 1 (some .int), Cond.fieldLink RX3 88 "FrostPane" "breath" "I", Cond.methodLink RX3 179 yX3_frozen, Cond.instanceMethod yX3_frozen, Cond.selects RX3 yX3_frozen yX3_frozen, Cond.code yX3_frozen cX3_frozen 1 (some .int), Cond.methodLink RX3 104 yX1_countFrost, Cond.instanceMethod yX1_countFrost, Cond.selects RX1 yX1_countFrost yX1_countFrost, Cond.initialized RX1, Cond.code yX1_countFrost cX1_countFrost 3 (some .int), Cond.fieldLink RX1 25 "FrostPane$Pane" "rows" "I", Cond.methodLink RX1 49 yX1_bitsOf, Cond.instanceMethod yX1_bitsOf, Cond.selects RX1 yX1_bitsOf yX1_bitsOf, Cond.code yX1_bitsOf cX1_bitsOf 2 (some .int), Cond.fieldLink RX1 9 "FrostPane$Pane" "frost" "[I", Cond.methodLink RX1 71 yJ6_bitCount_0f7a4, Cond.static yJ6_bitCount_0f7a4, Cond.initialized RJ6]
def wsX3_digest_r3 : List Cond := [Cond.code yJ6_bitCount_0f7a4 cJ6_bitCount_0f7a4 1 (some .int), Cond.constant RJ6 265 (1431655765), Cond.constant RJ6 266 (858993459), Cond.constant RJ6 267 (252645135), Cond.methodLink RX3 182 yX3_melted, Cond.instanceMethod yX3_melted, Cond.selects RX3 yX3_melted yX3_melted, Cond.code yX3_melted cX3_melted 1 (some .int), Cond.methodLink RX3 117 yX1_countMelted, Cond.instanceMethod yX1_countMelted, Cond.selects RX1 yX1_countMelted yX1_countMelted, Cond.code yX1_countMelted cX1_countMelted 3 (some .int), Cond.fieldLink RX1 18 "FrostPane$Pane" "melts" "[I", Cond.methodLink RX3 185 yX3_flowers, Cond.instanceMethod yX3_flowers, Cond.selects RX3 yX3_flowers yX3_flowers, Cond.code yX3_flowers cX3_flowers 4 (some .int), Cond.fieldLink RX3 22 "FrostPane" "picker" "LFrostPane$FlowerPicker;", Cond.methodLink RX3 140 yX0_spreadOut, Cond.instanceMethod yX0_spreadOut, Cond.selects RX0 yX0_spreadOut yX0_spreadOut, Cond.initialized RX0, Cond.code yX0_spreadOut cX0_spreadOut 3 none, Cond.fieldLink RX0 9 "FrostPane$FlowerPicker" "left" "[I"]
def wsX3_digest_r4 : List Cond := [Cond.methodLink RX0 18 yX1_bitsOf, Cond.methodLink RX3 144 yX0_pick, Cond.instanceMethod yX0_pick, Cond.selects RX0 yX0_pick yX0_pick, Cond.code yX0_pick cX0_pick 4 (some .int), Cond.fieldLink RX0 15 "FrostPane$FlowerPicker" "flower" "[I", Cond.methodLink RX0 24 yJ7_fill_53178, Cond.static yJ7_fill_53178, Cond.initialized RJ7, Cond.code yJ7_fill_53178 cJ7_fill_53178 4 none, Cond.methodLink RX0 30 yX0_widen, Cond.instanceMethod yX0_widen, Cond.selects RX0 yX0_widen yX0_widen, Cond.code yX0_widen cX0_widen 5 (some .boolean), Cond.methodLink RX0 38 yX0_flowerIn, Cond.instanceMethod yX0_flowerIn, Cond.selects RX0 yX0_flowerIn yX0_flowerIn, Cond.code yX0_flowerIn cX0_flowerIn 2 (some .int), Cond.methodLink RX0 34 yX0_takeAway, Cond.instanceMethod yX0_takeAway, Cond.selects RX0 yX0_takeAway yX0_takeAway, Cond.code yX0_takeAway cX0_takeAway 3 (some .int), Cond.methodLink RX0 41 yJ6_bitCount_0f7a4, Cond.methodLink RX3 188 yX3_largestFlower]
def wsX3_digest_r5 : List Cond := [Cond.instanceMethod yX3_largestFlower, Cond.selects RX3 yX3_largestFlower yX3_largestFlower, Cond.code yX3_largestFlower cX3_largestFlower 4 (some .int), Cond.methodLink RX3 147 Lib.Math.max.name, Cond.static Lib.Math.max.name, Cond.initialized "java/lang/Math", Cond.code Lib.Math.max.name Lib.Math.max.code 2 (some .int), Cond.methodLink RX3 191 yX3_isMirrored, Cond.instanceMethod yX3_isMirrored, Cond.selects RX3 yX3_isMirrored yX3_isMirrored, Cond.code yX3_isMirrored cX3_isMirrored 3 (some .boolean), Cond.methodLink RX3 61 yX1_hasFrost, Cond.instanceMethod yX1_hasFrost, Cond.selects RX1 yX1_hasFrost yX1_hasFrost, Cond.code yX1_hasFrost cX1_hasFrost 3 (some .boolean), Cond.methodLink RX3 194 yX3_asNumber, Cond.static yX3_asNumber, Cond.code yX3_asNumber cX3_asNumber 1 (some .long), Cond.methodLink RX3 198 yX3_comesAgainIn, Cond.instanceMethod yX3_comesAgainIn, Cond.selects RX3 yX3_comesAgainIn yX3_comesAgainIn, Cond.code yX3_comesAgainIn cX3_comesAgainIn 2 (some .int), Cond.fieldLink RX3 16 "FrostPane" "ahead" "LFrostPane$Pane;", Cond.methodLink RX3 155 yX1_becomeLike]
def wsX3_digest_r6 : List Cond := [Cond.instanceMethod yX1_becomeLike, Cond.selects RX1 yX1_becomeLike yX1_becomeLike, Cond.code yX1_becomeLike cX1_becomeLike 2 none, Cond.fieldLink RX1 21 "FrostPane$Pane" "columns" "I", Cond.fieldLink RX1 34 "FrostPane$Pane" "frame" "I", Cond.methodLink RX1 37 Lib.Math.min.name, Cond.static Lib.Math.min.name, Cond.code Lib.Math.min.name Lib.Math.min.code 2 (some .int), Cond.methodLink RX1 43 arraycopyName, Cond.native arraycopyName, Cond.static arraycopyName, Cond.initialized "java/lang/System", Cond.methodLink RX3 91 yX2_freezesBy, Cond.instanceMethod yX2_freezesBy, Cond.selects RX2 yX2_freezesBy yX2_freezesBy, Cond.initialized RX2, Cond.code yX2_freezesBy cX2_freezesBy 2 (some .int), Cond.fieldLink RX2 9 "FrostPane$RuleBook" "freezes" "[I", Cond.methodLink RX2 22 yX2_has, Cond.instanceMethod yX2_has, Cond.selects RX2 yX2_has yX2_has, Cond.code yX2_has cX2_has 2 (some .boolean), Cond.fieldLink RX2 18 "FrostPane$RuleBook" "count" "I", Cond.methodLink RX3 95 yX2_staysBy]
def wsX3_digest_r7 : List Cond := [Cond.instanceMethod yX2_staysBy, Cond.selects RX2 yX2_staysBy yX2_staysBy, Cond.code yX2_staysBy cX2_staysBy 2 (some .int), Cond.fieldLink RX2 15 "FrostPane$RuleBook" "stays" "[I", Cond.methodLink RX3 98 yX1_step, Cond.instanceMethod yX1_step, Cond.selects RX1 yX1_step yX1_step, Cond.code yX1_step cX1_step 4 (some .boolean), Cond.fieldLink RX1 15 "FrostPane$Pane" "frostNext" "[I", Cond.methodLink RX1 83 yX1_grownRow, Cond.instanceMethod yX1_grownRow, Cond.selects RX1 yX1_grownRow yX1_grownRow, Cond.code yX1_grownRow cX1_grownRow 11 (some .int), Cond.methodLink RX1 76 yX1_framed, Cond.instanceMethod yX1_framed, Cond.selects RX1 yX1_framed yX1_framed, Cond.code yX1_framed cX1_framed 2 (some .int), Cond.methodLink RX1 56 yX1_hasRow, Cond.instanceMethod yX1_hasRow, Cond.selects RX1 yX1_hasRow yX1_hasRow, Cond.code yX1_hasRow cX1_hasRow 2 (some .boolean), Cond.methodLink RX1 94 yX1_withSides, Cond.instanceMethod yX1_withSides, Cond.selects RX1 yX1_withSides yX1_withSides]
def wsX3_digest_r8 : List Cond := [Cond.code yX1_withSides cX1_withSides 4 (some .int), Cond.methodLink RX1 64 yX1_hasFrost, Cond.methodLink RX1 79 yX1_countIn, Cond.static yX1_countIn, Cond.code yX1_countIn cX1_countIn 4 (some .int), Cond.methodLink RX1 53 yX1_meltOf, Cond.instanceMethod yX1_meltOf, Cond.selects RX1 yX1_meltOf yX1_meltOf, Cond.code yX1_meltOf cX1_meltOf 4 (some .int), Cond.methodLink RX1 87 yX1_meltLess, Cond.instanceMethod yX1_meltLess, Cond.selects RX1 yX1_meltLess yX1_meltLess, Cond.code yX1_meltLess cX1_meltLess 2 none, Cond.methodLink RX1 90 yX1_takeNext, Cond.instanceMethod yX1_takeNext, Cond.selects RX1 yX1_takeNext yX1_takeNext, Cond.code yX1_takeNext cX1_takeNext 3 (some .boolean), Cond.methodLink RX3 158 yX1_isLike, Cond.instanceMethod yX1_isLike, Cond.selects RX1 yX1_isLike yX1_isLike, Cond.code yX1_isLike cX1_isLike 4 (some .boolean), Cond.methodLink RX3 201 yX3_standsStillIn, Cond.instanceMethod yX3_standsStillIn, Cond.selects RX3 yX3_standsStillIn yX3_standsStillIn]
def wsX3_digest_r9 : List Cond := [Cond.code yX3_standsStillIn cX3_standsStillIn 4 (some .int), Cond.methodLink RX3 204 yX3_bestBreath, Cond.instanceMethod yX3_bestBreath, Cond.selects RX3 yX3_bestBreath yX3_bestBreath, Cond.code yX3_bestBreath cX3_bestBreath 6 (some .int), Cond.methodLink RX3 41 yX3_requireWithin, Cond.static yX3_requireWithin, Cond.code yX3_requireWithin cX3_requireWithin 3 none, Cond.classLink RX3 233 "java/lang/IllegalArgumentException", Cond.initialized "java/lang/IllegalArgumentException", Cond.methodLink RX3 152 yX3_frostBehind, Cond.instanceMethod yX3_frostBehind, Cond.selects RX3 yX3_frostBehind yX3_frostBehind, Cond.code yX3_frostBehind cX3_frostBehind 4 (some .int), Cond.methodLink RX3 207 yX3_digestOfRow, Cond.instanceMethod yX3_digestOfRow, Cond.selects RX3 yX3_digestOfRow yX3_digestOfRow, Cond.code yX3_digestOfRow cX3_digestOfRow 7 (some .long), Cond.methodLink RX3 211 yX3_frozenInRow, Cond.instanceMethod yX3_frozenInRow, Cond.selects RX3 yX3_frozenInRow yX3_frozenInRow, Cond.code yX3_frozenInRow cX3_frozenInRow 2 (some .int), Cond.classLink RX3 83 "java/lang/IndexOutOfBoundsException", Cond.initialized "java/lang/IndexOutOfBoundsException"]
def wsX3_digest_r10 : List Cond := [Cond.methodLink RX3 127 yX1_hasRow, Cond.methodLink RX3 132 yX1_bitsOf, Cond.methodLink RX3 135 yJ6_bitCount_0f7a4, Cond.methodLink RX3 214 yX3_isFrozen, Cond.instanceMethod yX3_isFrozen, Cond.selects RX3 yX3_isFrozen yX3_isFrozen, Cond.code yX3_isFrozen cX3_isFrozen 3 (some .boolean), Cond.methodLink RX3 45 yX3_requireCell, Cond.instanceMethod yX3_requireCell, Cond.selects RX3 yX3_requireCell yX3_requireCell, Cond.code yX3_requireCell cX3_requireCell 3 none, Cond.methodLink RX3 228 yX1_hasCell, Cond.instanceMethod yX1_hasCell, Cond.selects RX1 yX1_hasCell yX1_hasCell, Cond.code yX1_hasCell cX1_hasCell 3 (some .boolean), Cond.methodLink RX3 217 yX3_meltedFor, Cond.instanceMethod yX3_meltedFor, Cond.selects RX3 yX3_meltedFor yX3_meltedFor, Cond.code yX3_meltedFor cX3_meltedFor 3 (some .int), Cond.methodLink RX3 48 yX1_meltOf, Cond.methodLink RX3 220 yX3_around, Cond.instanceMethod yX3_around, Cond.selects RX3 yX3_around yX3_around, Cond.code yX3_around cX3_around 3 (some .int)]
def wsX3_digest_r11 : List Cond := [Cond.methodLink RX3 120 yX1_countAround, Cond.instanceMethod yX1_countAround, Cond.selects RX1 yX1_countAround yX1_countAround, Cond.code yX1_countAround cX1_countAround 3 (some .int), Cond.methodLink RX3 223 yX3_willFreeze, Cond.instanceMethod yX3_willFreeze, Cond.selects RX3 yX3_willFreeze yX3_willFreeze, Cond.code yX3_willFreeze cX3_willFreeze 3 (some .boolean), Cond.methodLink RX3 123 yX1_isFrozenNext, Cond.instanceMethod yX1_isFrozenNext, Cond.selects RX1 yX1_isFrozenNext yX1_isFrozenNext, Cond.code yX1_isFrozenNext cX1_isFrozenNext 5 (some .boolean)]
def wsX3_digest : List Cond := .code yX3_digest cX3_digest 4 (some .long) :: ((wsX3_digest_r1 ++ (wsX3_digest_r2 ++ (wsX3_digest_r3 ++ (wsX3_digest_r4 ++ (wsX3_digest_r5 ++ (wsX3_digest_r6 ++ (wsX3_digest_r7 ++ (wsX3_digest_r8 ++ (wsX3_digest_r9 ++ (wsX3_digest_r10 ++ wsX3_digest_r11)))))))))) ++ wsX30 ++ wsX10 ++ wsX20 ++ wsX00 ++ (vx_atS RX3 237 "java/lang/IllegalArgumentException" ["java/lang/RuntimeException", "java/lang/Exception"]).filter goodWord ++ (vx_atS RX3 87 "java/lang/IndexOutOfBoundsException" ["java/lang/RuntimeException", "java/lang/Exception"]).filter goodWord)
def wsX4_init : List Cond := .code yX4_init cX4_init 1 none :: ([.methodLink RX4 1 objectInit, .instanceMethod objectInit, .code objectInit ⟨#[0xb1]⟩ 1 none, .fieldLink RX4 7 "FrostPaneModel" "columns" "I", .fieldLink RX4 13 "FrostPaneModel" "rows" "I", .fieldLink RX4 16 "FrostPaneModel" "frame" "I", .fieldLink RX4 19 "FrostPaneModel" "rules" "I", .arrayClass .int, .fieldLink RX4 22 "FrostPaneModel" "freezes" "[I", .fieldLink RX4 26 "FrostPaneModel" "stays" "[I", .fieldLink RX4 29 "FrostPaneModel" "ice" "[I", .fieldLink RX4 32 "FrostPaneModel" "melt" "[I", .fieldLink RX4 35 "FrostPaneModel" "kept" "[I", .fieldLink RX4 38 "FrostPaneModel" "keptMelt" "[I", .fieldLink RX4 41 "FrostPaneModel" "next" "[I", .fieldLink RX4 44 "FrostPaneModel" "sum" "[I", .arrayClass .boolean, .fieldLink RX4 47 "FrostPaneModel" "isSeen" "[Z"] ++ wsX40)
def wsX4_thrown : List Cond := .code yX4_thrown cX4_thrown 1 (some .int) :: ([.fieldLink RX4 51 "FrostPaneModel" "thrown" "I"] ++ wsX40)
def wsX4_no : List Cond := .code yX4_no cX4_no 2 (some .int) :: ([.fieldLink RX4 51 "FrostPaneModel" "thrown" "I"] ++ wsX40)
def wsX4_isNot : List Cond := .code yX4_isNot cX4_isNot 2 (some .boolean) :: ([.fieldLink RX4 51 "FrostPaneModel" "thrown" "I"] ++ wsX40)
def wsX4_ok : List Cond := .code yX4_ok cX4_ok 2 (some .int) :: ([.fieldLink RX4 51 "FrostPaneModel" "thrown" "I"] ++ wsX40)
def wsX4_isIn : List Cond := .code yX4_isIn cX4_isIn 3 (some .boolean) :: ([])
def wsX4_isCell : List Cond := .code yX4_isCell cX4_isCell 3 (some .boolean) :: ([.fieldLink RX4 7 "FrostPaneModel" "columns" "I", .fieldLink RX4 13 "FrostPaneModel" "rows" "I", .methodLink RX4 54 yX4_isIn, .static yX4_isIn, .initialized RX4, .code yX4_isIn cX4_isIn 3 (some .boolean)] ++ wsX40)
def wsX4_is : List Cond := .code yX4_is cX4_is 3 (some .boolean) :: ([.fieldLink RX4 29 "FrostPaneModel" "ice" "[I"] ++ wsX40)
def wsX4_full : List Cond := .code yX4_full cX4_full 1 (some .int) :: ([.fieldLink RX4 7 "FrostPaneModel" "columns" "I"] ++ wsX40)
def wsX4_wide : List Cond := .code yX4_wide cX4_wide 5 (some .int) :: ([.fieldLink RX4 13 "FrostPaneModel" "rows" "I", .fieldLink RX4 16 "FrostPaneModel" "frame" "I", .fieldLink RX4 7 "FrostPaneModel" "columns" "I", .fieldLink RX4 29 "FrostPaneModel" "ice" "[I"] ++ wsX40)
def wsX4_add : List Cond := .code yX4_add cX4_add 5 none :: ([.fieldLink RX4 44 "FrostPaneModel" "sum" "[I"] ++ wsX40)
def wsX4_count : List Cond := .code yX4_count cX4_count 4 none :: ([.fieldLink RX4 44 "FrostPaneModel" "sum" "[I", .methodLink RX4 58 yX4_wide, .instanceMethod yX4_wide, .selects RX4 yX4_wide yX4_wide, .initialized RX4, .code yX4_wide cX4_wide 5 (some .int), .fieldLink RX4 13 "FrostPaneModel" "rows" "I", .fieldLink RX4 16 "FrostPaneModel" "frame" "I", .fieldLink RX4 7 "FrostPaneModel" "columns" "I", .fieldLink RX4 29 "FrostPaneModel" "ice" "[I", .methodLink RX4 62 yX4_full, .instanceMethod yX4_full, .selects RX4 yX4_full yX4_full, .code yX4_full cX4_full 1 (some .int), .methodLink RX4 66 yX4_add, .instanceMethod yX4_add, .selects RX4 yX4_add yX4_add, .code yX4_add cX4_add 5 none] ++ wsX40)
def wsX4_counted : List Cond := .code yX4_counted cX4_counted 4 (some .int) :: ([.fieldLink RX4 44 "FrostPaneModel" "sum" "[I"] ++ wsX40)
def wsX4_grown_r1 : List Cond := [Cond.fieldLink RX4 7 "FrostPaneModel" "columns" "I", Cond.fieldLink RX4 26 "FrostPaneModel" "stays" "[I", Cond.fieldLink RX4 77 "FrostPaneModel" "breath" "I", Cond.fieldLink RX4 22 "FrostPaneModel" "freezes" "[I", Cond.fieldLink RX4 32 "FrostPaneModel" "melt" "[I", Cond.methodLink RX4 70 yX4_count, Cond.instanceMethod yX4_count, Cond.selects RX4 yX4_count yX4_count, Cond.initialized RX4, Cond.code yX4_count cX4_count 4 none, Cond.fieldLink RX4 44 "FrostPaneModel" "sum" "[I", Cond.methodLink RX4 58 yX4_wide, Cond.instanceMethod yX4_wide, Cond.selects RX4 yX4_wide yX4_wide, Cond.code yX4_wide cX4_wide 5 (some .int), Cond.fieldLink RX4 13 "FrostPaneModel" "rows" "I", Cond.fieldLink RX4 16 "FrostPaneModel" "frame" "I", Cond.fieldLink RX4 29 "FrostPaneModel" "ice" "[I", Cond.methodLink RX4 62 yX4_full, Cond.instanceMethod yX4_full, Cond.selects RX4 yX4_full yX4_full, Cond.code yX4_full cX4_full 1 (some .int), Cond.methodLink RX4 66 yX4_add, Cond.instanceMethod yX4_add]
def wsX4_grown_r2 : List Cond := [Cond.selects RX4 yX4_add yX4_add, Cond.code yX4_add cX4_add 5 none, Cond.methodLink RX4 73 yX4_is, Cond.instanceMethod yX4_is, Cond.selects RX4 yX4_is yX4_is, Cond.code yX4_is cX4_is 3 (some .boolean), Cond.methodLink RX4 80 yX4_counted, Cond.instanceMethod yX4_counted, Cond.selects RX4 yX4_counted yX4_counted, Cond.code yX4_counted cX4_counted 4 (some .int)]
def wsX4_grown : List Cond := .code yX4_grown cX4_grown 6 (some .int) :: ((wsX4_grown_r1 ++ wsX4_grown_r2) ++ wsX40)
def wsX4_growOn_r1 : List Cond := [Cond.fieldLink RX4 13 "FrostPaneModel" "rows" "I", Cond.fieldLink RX4 41 "FrostPaneModel" "next" "[I", Cond.fieldLink RX4 29 "FrostPaneModel" "ice" "[I", Cond.methodLink RX4 86 arraycopyName, Cond.native arraycopyName, Cond.static arraycopyName, Cond.initialized "java/lang/System", Cond.fieldLink RX4 32 "FrostPaneModel" "melt" "[I", Cond.methodLink RX4 92 Lib.Math.max.name, Cond.static Lib.Math.max.name, Cond.initialized "java/lang/Math", Cond.code Lib.Math.max.name Lib.Math.max.code 2 (some .int), Cond.methodLink RX4 83 yX4_grown, Cond.instanceMethod yX4_grown, Cond.selects RX4 yX4_grown yX4_grown, Cond.initialized RX4, Cond.code yX4_grown cX4_grown 6 (some .int), Cond.fieldLink RX4 7 "FrostPaneModel" "columns" "I", Cond.fieldLink RX4 26 "FrostPaneModel" "stays" "[I", Cond.fieldLink RX4 77 "FrostPaneModel" "breath" "I", Cond.fieldLink RX4 22 "FrostPaneModel" "freezes" "[I", Cond.methodLink RX4 70 yX4_count, Cond.instanceMethod yX4_count, Cond.selects RX4 yX4_count yX4_count]
def wsX4_growOn_r2 : List Cond := [Cond.code yX4_count cX4_count 4 none, Cond.fieldLink RX4 44 "FrostPaneModel" "sum" "[I", Cond.methodLink RX4 58 yX4_wide, Cond.instanceMethod yX4_wide, Cond.selects RX4 yX4_wide yX4_wide, Cond.code yX4_wide cX4_wide 5 (some .int), Cond.fieldLink RX4 16 "FrostPaneModel" "frame" "I", Cond.methodLink RX4 62 yX4_full, Cond.instanceMethod yX4_full, Cond.selects RX4 yX4_full yX4_full, Cond.code yX4_full cX4_full 1 (some .int), Cond.methodLink RX4 66 yX4_add, Cond.instanceMethod yX4_add, Cond.selects RX4 yX4_add yX4_add, Cond.code yX4_add cX4_add 5 none, Cond.methodLink RX4 73 yX4_is, Cond.instanceMethod yX4_is, Cond.selects RX4 yX4_is yX4_is, Cond.code yX4_is cX4_is 3 (some .boolean), Cond.methodLink RX4 80 yX4_counted, Cond.instanceMethod yX4_counted, Cond.selects RX4 yX4_counted yX4_counted, Cond.code yX4_counted cX4_counted 4 (some .int)]
def wsX4_growOn : List Cond := .code yX4_growOn cX4_growOn 2 none :: ((wsX4_growOn_r1 ++ wsX4_growOn_r2) ++ wsX40)
def wsX4_keep : List Cond := .code yX4_keep cX4_keep 1 none :: ([.fieldLink RX4 29 "FrostPaneModel" "ice" "[I", .fieldLink RX4 35 "FrostPaneModel" "kept" "[I", .methodLink RX4 86 arraycopyName, .native arraycopyName, .static arraycopyName, .initialized "java/lang/System", .fieldLink RX4 32 "FrostPaneModel" "melt" "[I", .fieldLink RX4 38 "FrostPaneModel" "keptMelt" "[I"] ++ wsX40)
def wsX4_bringBack : List Cond := .code yX4_bringBack cX4_bringBack 1 none :: ([.fieldLink RX4 35 "FrostPaneModel" "kept" "[I", .fieldLink RX4 29 "FrostPaneModel" "ice" "[I", .methodLink RX4 86 arraycopyName, .native arraycopyName, .static arraycopyName, .initialized "java/lang/System", .fieldLink RX4 38 "FrostPaneModel" "keptMelt" "[I", .fieldLink RX4 32 "FrostPaneModel" "melt" "[I"] ++ wsX40)
def wsX4_all : List Cond := .code yX4_all cX4_all 3 (some .int) :: ([.fieldLink RX4 13 "FrostPaneModel" "rows" "I", .fieldLink RX4 29 "FrostPaneModel" "ice" "[I", .methodLink RX4 98 yJ6_bitCount_0f7a4, .static yJ6_bitCount_0f7a4, .initialized RJ6, .code yJ6_bitCount_0f7a4 cJ6_bitCount_0f7a4 1 (some .int), .constant RJ6 265 (1431655765), .constant RJ6 266 (858993459), .constant RJ6 267 (252645135)] ++ wsX40)
def wsX4_manyMelted : List Cond := .code yX4_manyMelted cX4_manyMelted 3 (some .int) :: ([.fieldLink RX4 32 "FrostPaneModel" "melt" "[I"] ++ wsX40)
def wsX4_lay : List Cond := .code yX4_lay cX4_lay 4 (some .int) :: ([.fieldLink RX4 51 "FrostPaneModel" "thrown" "I", .fieldLink RX4 7 "FrostPaneModel" "columns" "I", .fieldLink RX4 13 "FrostPaneModel" "rows" "I", .fieldLink RX4 29 "FrostPaneModel" "ice" "[I", .fieldLink RX4 32 "FrostPaneModel" "melt" "[I", .methodLink RX4 54 yX4_isIn, .static yX4_isIn, .initialized RX4, .code yX4_isIn cX4_isIn 3 (some .boolean), .methodLink RX4 103 yX4_no, .instanceMethod yX4_no, .selects RX4 yX4_no yX4_no, .code yX4_no cX4_no 2 (some .int)] ++ wsX40)
def wsX4_turn : List Cond := .code yX4_turn cX4_turn 3 (some .boolean) :: ([.fieldLink RX4 51 "FrostPaneModel" "thrown" "I", .fieldLink RX4 32 "FrostPaneModel" "melt" "[I", .fieldLink RX4 29 "FrostPaneModel" "ice" "[I", .methodLink RX4 106 yX4_isCell, .instanceMethod yX4_isCell, .selects RX4 yX4_isCell yX4_isCell, .initialized RX4, .code yX4_isCell cX4_isCell 3 (some .boolean), .fieldLink RX4 7 "FrostPaneModel" "columns" "I", .fieldLink RX4 13 "FrostPaneModel" "rows" "I", .methodLink RX4 54 yX4_isIn, .static yX4_isIn, .code yX4_isIn cX4_isIn 3 (some .boolean), .methodLink RX4 109 yX4_isNot, .instanceMethod yX4_isNot, .selects RX4 yX4_isNot yX4_isNot, .code yX4_isNot cX4_isNot 2 (some .boolean), .methodLink RX4 73 yX4_is, .instanceMethod yX4_is, .selects RX4 yX4_is yX4_is, .code yX4_is cX4_is 3 (some .boolean)] ++ wsX40)
def wsX4_melt : List Cond := .code yX4_melt cX4_melt 5 (some .int) :: ([.fieldLink RX4 29 "FrostPaneModel" "ice" "[I", .fieldLink RX4 32 "FrostPaneModel" "melt" "[I", .methodLink RX4 106 yX4_isCell, .instanceMethod yX4_isCell, .selects RX4 yX4_isCell yX4_isCell, .initialized RX4, .code yX4_isCell cX4_isCell 3 (some .boolean), .fieldLink RX4 7 "FrostPaneModel" "columns" "I", .fieldLink RX4 13 "FrostPaneModel" "rows" "I", .methodLink RX4 54 yX4_isIn, .static yX4_isIn, .code yX4_isIn cX4_isIn 3 (some .boolean), .methodLink RX4 73 yX4_is, .instanceMethod yX4_is, .selects RX4 yX4_is yX4_is, .code yX4_is cX4_is 3 (some .boolean)] ++ wsX40)
def wsX4_press_r1 : List Cond := [Cond.fieldLink RX4 51 "FrostPaneModel" "thrown" "I", Cond.methodLink RX4 106 yX4_isCell, Cond.instanceMethod yX4_isCell, Cond.selects RX4 yX4_isCell yX4_isCell, Cond.initialized RX4, Cond.code yX4_isCell cX4_isCell 3 (some .boolean), Cond.fieldLink RX4 7 "FrostPaneModel" "columns" "I", Cond.fieldLink RX4 13 "FrostPaneModel" "rows" "I", Cond.methodLink RX4 54 yX4_isIn, Cond.static yX4_isIn, Cond.code yX4_isIn cX4_isIn 3 (some .boolean), Cond.methodLink RX4 103 yX4_no, Cond.instanceMethod yX4_no, Cond.selects RX4 yX4_no yX4_no, Cond.code yX4_no cX4_no 2 (some .int), Cond.methodLink RX4 113 yX4_melt, Cond.instanceMethod yX4_melt, Cond.selects RX4 yX4_melt yX4_melt, Cond.code yX4_melt cX4_melt 5 (some .int), Cond.fieldLink RX4 29 "FrostPaneModel" "ice" "[I", Cond.fieldLink RX4 32 "FrostPaneModel" "melt" "[I", Cond.methodLink RX4 73 yX4_is, Cond.instanceMethod yX4_is, Cond.selects RX4 yX4_is yX4_is]
def wsX4_press_r2 : List Cond := [Cond.code yX4_is cX4_is 3 (some .boolean)]
def wsX4_press : List Cond := .code yX4_press cX4_press 4 (some .int) :: ((wsX4_press_r1 ++ wsX4_press_r2) ++ wsX40)
def wsX4_setFrame : List Cond := .code yX4_setFrame cX4_setFrame 3 (some .int) :: ([.fieldLink RX4 51 "FrostPaneModel" "thrown" "I", .fieldLink RX4 16 "FrostPaneModel" "frame" "I", .methodLink RX4 54 yX4_isIn, .static yX4_isIn, .initialized RX4, .code yX4_isIn cX4_isIn 3 (some .boolean), .methodLink RX4 103 yX4_no, .instanceMethod yX4_no, .selects RX4 yX4_no yX4_no, .code yX4_no cX4_no 2 (some .int)] ++ wsX40)
def wsX4_addRule : List Cond := .code yX4_addRule cX4_addRule 3 (some .int) :: ([.fieldLink RX4 51 "FrostPaneModel" "thrown" "I", .fieldLink RX4 19 "FrostPaneModel" "rules" "I", .fieldLink RX4 22 "FrostPaneModel" "freezes" "[I", .fieldLink RX4 26 "FrostPaneModel" "stays" "[I", .methodLink RX4 54 yX4_isIn, .static yX4_isIn, .initialized RX4, .code yX4_isIn cX4_isIn 3 (some .boolean), .methodLink RX4 103 yX4_no, .instanceMethod yX4_no, .selects RX4 yX4_no yX4_no, .code yX4_no cX4_no 2 (some .int)] ++ wsX40)
def wsX4_breathe : List Cond := .code yX4_breathe cX4_breathe 3 (some .int) :: ([.fieldLink RX4 51 "FrostPaneModel" "thrown" "I", .fieldLink RX4 19 "FrostPaneModel" "rules" "I", .fieldLink RX4 77 "FrostPaneModel" "breath" "I", .methodLink RX4 54 yX4_isIn, .static yX4_isIn, .initialized RX4, .code yX4_isIn cX4_isIn 3 (some .boolean), .methodLink RX4 103 yX4_no, .instanceMethod yX4_no, .selects RX4 yX4_no yX4_no, .code yX4_no cX4_no 2 (some .int)] ++ wsX40)
def wsX4_grow_r1 : List Cond := [Cond.fieldLink RX4 51 "FrostPaneModel" "thrown" "I", Cond.fieldLink RX4 119 "FrostPaneModel" "generation" "I", Cond.methodLink RX4 54 yX4_isIn, Cond.static yX4_isIn, Cond.initialized RX4, Cond.code yX4_isIn cX4_isIn 3 (some .boolean), Cond.methodLink RX4 103 yX4_no, Cond.instanceMethod yX4_no, Cond.selects RX4 yX4_no yX4_no, Cond.code yX4_no cX4_no 2 (some .int), Cond.methodLink RX4 116 yX4_growOn, Cond.instanceMethod yX4_growOn, Cond.selects RX4 yX4_growOn yX4_growOn, Cond.code yX4_growOn cX4_growOn 2 none, Cond.fieldLink RX4 13 "FrostPaneModel" "rows" "I", Cond.fieldLink RX4 41 "FrostPaneModel" "next" "[I", Cond.fieldLink RX4 29 "FrostPaneModel" "ice" "[I", Cond.methodLink RX4 86 arraycopyName, Cond.native arraycopyName, Cond.static arraycopyName, Cond.initialized "java/lang/System", Cond.fieldLink RX4 32 "FrostPaneModel" "melt" "[I", Cond.methodLink RX4 92 Lib.Math.max.name, Cond.static Lib.Math.max.name]
def wsX4_grow_r2 : List Cond := [Cond.initialized "java/lang/Math", Cond.code Lib.Math.max.name Lib.Math.max.code 2 (some .int), Cond.methodLink RX4 83 yX4_grown, Cond.instanceMethod yX4_grown, Cond.selects RX4 yX4_grown yX4_grown, Cond.code yX4_grown cX4_grown 6 (some .int), Cond.fieldLink RX4 7 "FrostPaneModel" "columns" "I", Cond.fieldLink RX4 26 "FrostPaneModel" "stays" "[I", Cond.fieldLink RX4 77 "FrostPaneModel" "breath" "I", Cond.fieldLink RX4 22 "FrostPaneModel" "freezes" "[I", Cond.methodLink RX4 70 yX4_count, Cond.instanceMethod yX4_count, Cond.selects RX4 yX4_count yX4_count, Cond.code yX4_count cX4_count 4 none, Cond.fieldLink RX4 44 "FrostPaneModel" "sum" "[I", Cond.methodLink RX4 58 yX4_wide, Cond.instanceMethod yX4_wide, Cond.selects RX4 yX4_wide yX4_wide, Cond.code yX4_wide cX4_wide 5 (some .int), Cond.fieldLink RX4 16 "FrostPaneModel" "frame" "I", Cond.methodLink RX4 62 yX4_full, Cond.instanceMethod yX4_full, Cond.selects RX4 yX4_full yX4_full, Cond.code yX4_full cX4_full 1 (some .int)]
def wsX4_grow_r3 : List Cond := [Cond.methodLink RX4 66 yX4_add, Cond.instanceMethod yX4_add, Cond.selects RX4 yX4_add yX4_add, Cond.code yX4_add cX4_add 5 none, Cond.methodLink RX4 73 yX4_is, Cond.instanceMethod yX4_is, Cond.selects RX4 yX4_is yX4_is, Cond.code yX4_is cX4_is 3 (some .boolean), Cond.methodLink RX4 80 yX4_counted, Cond.instanceMethod yX4_counted, Cond.selects RX4 yX4_counted yX4_counted, Cond.code yX4_counted cX4_counted 4 (some .int), Cond.methodLink RX4 122 yX4_all, Cond.instanceMethod yX4_all, Cond.selects RX4 yX4_all yX4_all, Cond.code yX4_all cX4_all 3 (some .int), Cond.methodLink RX4 98 yJ6_bitCount_0f7a4, Cond.static yJ6_bitCount_0f7a4, Cond.initialized RJ6, Cond.code yJ6_bitCount_0f7a4 cJ6_bitCount_0f7a4 1 (some .int), Cond.constant RJ6 265 (1431655765), Cond.constant RJ6 266 (858993459), Cond.constant RJ6 267 (252645135)]
def wsX4_grow : List Cond := .code yX4_grow cX4_grow 3 (some .int) :: ((wsX4_grow_r1 ++ (wsX4_grow_r2 ++ wsX4_grow_r3)) ++ wsX40)
def wsX4_columns : List Cond := .code yX4_columns cX4_columns 1 (some .int) :: ([.fieldLink RX4 7 "FrostPaneModel" "columns" "I", .methodLink RX4 125 yX4_ok, .instanceMethod yX4_ok, .selects RX4 yX4_ok yX4_ok, .initialized RX4, .code yX4_ok cX4_ok 2 (some .int), .fieldLink RX4 51 "FrostPaneModel" "thrown" "I"] ++ wsX40)
def wsX4_rows : List Cond := .code yX4_rows cX4_rows 1 (some .int) :: ([.fieldLink RX4 13 "FrostPaneModel" "rows" "I", .methodLink RX4 125 yX4_ok, .instanceMethod yX4_ok, .selects RX4 yX4_ok yX4_ok, .initialized RX4, .code yX4_ok cX4_ok 2 (some .int), .fieldLink RX4 51 "FrostPaneModel" "thrown" "I"] ++ wsX40)
def wsX4_generation : List Cond := .code yX4_generation cX4_generation 1 (some .int) :: ([.fieldLink RX4 119 "FrostPaneModel" "generation" "I", .methodLink RX4 125 yX4_ok, .instanceMethod yX4_ok, .selects RX4 yX4_ok yX4_ok, .initialized RX4, .code yX4_ok cX4_ok 2 (some .int), .fieldLink RX4 51 "FrostPaneModel" "thrown" "I"] ++ wsX40)
def wsX4_rules : List Cond := .code yX4_rules cX4_rules 1 (some .int) :: ([.fieldLink RX4 19 "FrostPaneModel" "rules" "I", .methodLink RX4 125 yX4_ok, .instanceMethod yX4_ok, .selects RX4 yX4_ok yX4_ok, .initialized RX4, .code yX4_ok cX4_ok 2 (some .int), .fieldLink RX4 51 "FrostPaneModel" "thrown" "I"] ++ wsX40)
def wsX4_breath : List Cond := .code yX4_breath cX4_breath 1 (some .int) :: ([.fieldLink RX4 77 "FrostPaneModel" "breath" "I", .methodLink RX4 125 yX4_ok, .instanceMethod yX4_ok, .selects RX4 yX4_ok yX4_ok, .initialized RX4, .code yX4_ok cX4_ok 2 (some .int), .fieldLink RX4 51 "FrostPaneModel" "thrown" "I"] ++ wsX40)
def wsX4_frozen : List Cond := .code yX4_frozen cX4_frozen 1 (some .int) :: ([.methodLink RX4 122 yX4_all, .instanceMethod yX4_all, .selects RX4 yX4_all yX4_all, .initialized RX4, .code yX4_all cX4_all 3 (some .int), .fieldLink RX4 13 "FrostPaneModel" "rows" "I", .fieldLink RX4 29 "FrostPaneModel" "ice" "[I", .methodLink RX4 98 yJ6_bitCount_0f7a4, .static yJ6_bitCount_0f7a4, .initialized RJ6, .code yJ6_bitCount_0f7a4 cJ6_bitCount_0f7a4 1 (some .int), .constant RJ6 265 (1431655765), .constant RJ6 266 (858993459), .constant RJ6 267 (252645135), .methodLink RX4 125 yX4_ok, .instanceMethod yX4_ok, .selects RX4 yX4_ok yX4_ok, .code yX4_ok cX4_ok 2 (some .int), .fieldLink RX4 51 "FrostPaneModel" "thrown" "I"] ++ wsX40)
def wsX4_melted : List Cond := .code yX4_melted cX4_melted 1 (some .int) :: ([.methodLink RX4 128 yX4_manyMelted, .instanceMethod yX4_manyMelted, .selects RX4 yX4_manyMelted yX4_manyMelted, .initialized RX4, .code yX4_manyMelted cX4_manyMelted 3 (some .int), .fieldLink RX4 32 "FrostPaneModel" "melt" "[I", .methodLink RX4 125 yX4_ok, .instanceMethod yX4_ok, .selects RX4 yX4_ok yX4_ok, .code yX4_ok cX4_ok 2 (some .int), .fieldLink RX4 51 "FrostPaneModel" "thrown" "I"] ++ wsX40)
def wsX4_isFrozen : List Cond := .code yX4_isFrozen cX4_isFrozen 3 (some .boolean) :: ([.fieldLink RX4 51 "FrostPaneModel" "thrown" "I", .methodLink RX4 106 yX4_isCell, .instanceMethod yX4_isCell, .selects RX4 yX4_isCell yX4_isCell, .initialized RX4, .code yX4_isCell cX4_isCell 3 (some .boolean), .fieldLink RX4 7 "FrostPaneModel" "columns" "I", .fieldLink RX4 13 "FrostPaneModel" "rows" "I", .methodLink RX4 54 yX4_isIn, .static yX4_isIn, .code yX4_isIn cX4_isIn 3 (some .boolean), .methodLink RX4 73 yX4_is, .instanceMethod yX4_is, .selects RX4 yX4_is yX4_is, .code yX4_is cX4_is 3 (some .boolean), .fieldLink RX4 29 "FrostPaneModel" "ice" "[I", .methodLink RX4 109 yX4_isNot, .instanceMethod yX4_isNot, .selects RX4 yX4_isNot yX4_isNot, .code yX4_isNot cX4_isNot 2 (some .boolean)] ++ wsX40)
def wsX4_meltedFor : List Cond := .code yX4_meltedFor cX4_meltedFor 3 (some .int) :: ([.fieldLink RX4 51 "FrostPaneModel" "thrown" "I", .fieldLink RX4 32 "FrostPaneModel" "melt" "[I", .methodLink RX4 106 yX4_isCell, .instanceMethod yX4_isCell, .selects RX4 yX4_isCell yX4_isCell, .initialized RX4, .code yX4_isCell cX4_isCell 3 (some .boolean), .fieldLink RX4 7 "FrostPaneModel" "columns" "I", .fieldLink RX4 13 "FrostPaneModel" "rows" "I", .methodLink RX4 54 yX4_isIn, .static yX4_isIn, .code yX4_isIn cX4_isIn 3 (some .boolean), .methodLink RX4 103 yX4_no, .instanceMethod yX4_no, .selects RX4 yX4_no yX4_no, .code yX4_no cX4_no 2 (some .int)] ++ wsX40)
def wsX4_around_r1 : List Cond := [Cond.fieldLink RX4 51 "FrostPaneModel" "thrown" "I", Cond.methodLink RX4 106 yX4_isCell, Cond.instanceMethod yX4_isCell, Cond.selects RX4 yX4_isCell yX4_isCell, Cond.initialized RX4, Cond.code yX4_isCell cX4_isCell 3 (some .boolean), Cond.fieldLink RX4 7 "FrostPaneModel" "columns" "I", Cond.fieldLink RX4 13 "FrostPaneModel" "rows" "I", Cond.methodLink RX4 54 yX4_isIn, Cond.static yX4_isIn, Cond.code yX4_isIn cX4_isIn 3 (some .boolean), Cond.methodLink RX4 103 yX4_no, Cond.instanceMethod yX4_no, Cond.selects RX4 yX4_no yX4_no, Cond.code yX4_no cX4_no 2 (some .int), Cond.methodLink RX4 70 yX4_count, Cond.instanceMethod yX4_count, Cond.selects RX4 yX4_count yX4_count, Cond.code yX4_count cX4_count 4 none, Cond.fieldLink RX4 44 "FrostPaneModel" "sum" "[I", Cond.methodLink RX4 58 yX4_wide, Cond.instanceMethod yX4_wide, Cond.selects RX4 yX4_wide yX4_wide, Cond.code yX4_wide cX4_wide 5 (some .int)]
def wsX4_around_r2 : List Cond := [Cond.fieldLink RX4 16 "FrostPaneModel" "frame" "I", Cond.fieldLink RX4 29 "FrostPaneModel" "ice" "[I", Cond.methodLink RX4 62 yX4_full, Cond.instanceMethod yX4_full, Cond.selects RX4 yX4_full yX4_full, Cond.code yX4_full cX4_full 1 (some .int), Cond.methodLink RX4 66 yX4_add, Cond.instanceMethod yX4_add, Cond.selects RX4 yX4_add yX4_add, Cond.code yX4_add cX4_add 5 none, Cond.methodLink RX4 80 yX4_counted, Cond.instanceMethod yX4_counted, Cond.selects RX4 yX4_counted yX4_counted, Cond.code yX4_counted cX4_counted 4 (some .int)]
def wsX4_around : List Cond := .code yX4_around cX4_around 3 (some .int) :: ((wsX4_around_r1 ++ wsX4_around_r2) ++ wsX40)
def wsX4_willFreeze_r1 : List Cond := [Cond.fieldLink RX4 51 "FrostPaneModel" "thrown" "I", Cond.methodLink RX4 106 yX4_isCell, Cond.instanceMethod yX4_isCell, Cond.selects RX4 yX4_isCell yX4_isCell, Cond.initialized RX4, Cond.code yX4_isCell cX4_isCell 3 (some .boolean), Cond.fieldLink RX4 7 "FrostPaneModel" "columns" "I", Cond.fieldLink RX4 13 "FrostPaneModel" "rows" "I", Cond.methodLink RX4 54 yX4_isIn, Cond.static yX4_isIn, Cond.code yX4_isIn cX4_isIn 3 (some .boolean), Cond.methodLink RX4 83 yX4_grown, Cond.instanceMethod yX4_grown, Cond.selects RX4 yX4_grown yX4_grown, Cond.code yX4_grown cX4_grown 6 (some .int), Cond.fieldLink RX4 26 "FrostPaneModel" "stays" "[I", Cond.fieldLink RX4 77 "FrostPaneModel" "breath" "I", Cond.fieldLink RX4 22 "FrostPaneModel" "freezes" "[I", Cond.fieldLink RX4 32 "FrostPaneModel" "melt" "[I", Cond.methodLink RX4 70 yX4_count, Cond.instanceMethod yX4_count, Cond.selects RX4 yX4_count yX4_count, Cond.code yX4_count cX4_count 4 none, Cond.fieldLink RX4 44 "FrostPaneModel" "sum" "[I"]
def wsX4_willFreeze_r2 : List Cond := [Cond.methodLink RX4 58 yX4_wide, Cond.instanceMethod yX4_wide, Cond.selects RX4 yX4_wide yX4_wide, Cond.code yX4_wide cX4_wide 5 (some .int), Cond.fieldLink RX4 16 "FrostPaneModel" "frame" "I", Cond.fieldLink RX4 29 "FrostPaneModel" "ice" "[I", Cond.methodLink RX4 62 yX4_full, Cond.instanceMethod yX4_full, Cond.selects RX4 yX4_full yX4_full, Cond.code yX4_full cX4_full 1 (some .int), Cond.methodLink RX4 66 yX4_add, Cond.instanceMethod yX4_add, Cond.selects RX4 yX4_add yX4_add, Cond.code yX4_add cX4_add 5 none, Cond.methodLink RX4 73 yX4_is, Cond.instanceMethod yX4_is, Cond.selects RX4 yX4_is yX4_is, Cond.code yX4_is cX4_is 3 (some .boolean), Cond.methodLink RX4 80 yX4_counted, Cond.instanceMethod yX4_counted, Cond.selects RX4 yX4_counted yX4_counted, Cond.code yX4_counted cX4_counted 4 (some .int), Cond.methodLink RX4 109 yX4_isNot, Cond.instanceMethod yX4_isNot]
def wsX4_willFreeze_r3 : List Cond := [Cond.selects RX4 yX4_isNot yX4_isNot, Cond.code yX4_isNot cX4_isNot 2 (some .boolean)]
def wsX4_willFreeze : List Cond := .code yX4_willFreeze cX4_willFreeze 3 (some .boolean) :: ((wsX4_willFreeze_r1 ++ (wsX4_willFreeze_r2 ++ wsX4_willFreeze_r3)) ++ wsX40)
def wsX4_frozenInRow : List Cond := .code yX4_frozenInRow cX4_frozenInRow 2 (some .int) :: ([.fieldLink RX4 51 "FrostPaneModel" "thrown" "I", .fieldLink RX4 13 "FrostPaneModel" "rows" "I", .fieldLink RX4 29 "FrostPaneModel" "ice" "[I", .methodLink RX4 54 yX4_isIn, .static yX4_isIn, .initialized RX4, .code yX4_isIn cX4_isIn 3 (some .boolean), .methodLink RX4 98 yJ6_bitCount_0f7a4, .static yJ6_bitCount_0f7a4, .initialized RJ6, .code yJ6_bitCount_0f7a4 cJ6_bitCount_0f7a4 1 (some .int), .constant RJ6 265 (1431655765), .constant RJ6 266 (858993459), .constant RJ6 267 (252645135), .methodLink RX4 103 yX4_no, .instanceMethod yX4_no, .selects RX4 yX4_no yX4_no, .code yX4_no cX4_no 2 (some .int)] ++ wsX40)
def wsX4_spread : List Cond := .code yX4_spread cX4_spread 6 (some .int) :: ([.fieldLink RX4 13 "FrostPaneModel" "rows" "I", .fieldLink RX4 41 "FrostPaneModel" "next" "[I", .fieldLink RX4 29 "FrostPaneModel" "ice" "[I", .methodLink RX4 98 yJ6_bitCount_0f7a4, .static yJ6_bitCount_0f7a4, .initialized RJ6, .code yJ6_bitCount_0f7a4 cJ6_bitCount_0f7a4 1 (some .int), .constant RJ6 265 (1431655765), .constant RJ6 266 (858993459), .constant RJ6 267 (252645135)] ++ wsX40)
def wsX4_flowers_r1 : List Cond := [Cond.fieldLink RX4 47 "FrostPaneModel" "isSeen" "[Z", Cond.fieldLink RX4 13 "FrostPaneModel" "rows" "I", Cond.fieldLink RX4 7 "FrostPaneModel" "columns" "I", Cond.methodLink RX4 92 Lib.Math.max.name, Cond.static Lib.Math.max.name, Cond.initialized "java/lang/Math", Cond.code Lib.Math.max.name Lib.Math.max.code 2 (some .int), Cond.fieldLink RX4 41 "FrostPaneModel" "next" "[I", Cond.methodLink RX4 73 yX4_is, Cond.instanceMethod yX4_is, Cond.selects RX4 yX4_is yX4_is, Cond.initialized RX4, Cond.code yX4_is cX4_is 3 (some .boolean), Cond.fieldLink RX4 29 "FrostPaneModel" "ice" "[I", Cond.methodLink RX4 131 yX4_spread, Cond.instanceMethod yX4_spread, Cond.selects RX4 yX4_spread yX4_spread, Cond.code yX4_spread cX4_spread 6 (some .int), Cond.methodLink RX4 98 yJ6_bitCount_0f7a4, Cond.static yJ6_bitCount_0f7a4, Cond.initialized RJ6, Cond.code yJ6_bitCount_0f7a4 cJ6_bitCount_0f7a4 1 (some .int), Cond.constant RJ6 265 (1431655765), Cond.constant RJ6 266 (858993459)]
def wsX4_flowers_r2 : List Cond := [Cond.constant RJ6 267 (252645135)]
def wsX4_flowers : List Cond := .code yX4_flowers cX4_flowers 8 (some .int) :: ((wsX4_flowers_r1 ++ wsX4_flowers_r2) ++ wsX40)
def wsX4_flowers__r1 : List Cond := [Cond.methodLink RX4 134 yX4_flowers, Cond.instanceMethod yX4_flowers, Cond.selects RX4 yX4_flowers yX4_flowers, Cond.initialized RX4, Cond.code yX4_flowers cX4_flowers 8 (some .int), Cond.fieldLink RX4 47 "FrostPaneModel" "isSeen" "[Z", Cond.fieldLink RX4 13 "FrostPaneModel" "rows" "I", Cond.fieldLink RX4 7 "FrostPaneModel" "columns" "I", Cond.methodLink RX4 92 Lib.Math.max.name, Cond.static Lib.Math.max.name, Cond.initialized "java/lang/Math", Cond.code Lib.Math.max.name Lib.Math.max.code 2 (some .int), Cond.fieldLink RX4 41 "FrostPaneModel" "next" "[I", Cond.methodLink RX4 73 yX4_is, Cond.instanceMethod yX4_is, Cond.selects RX4 yX4_is yX4_is, Cond.code yX4_is cX4_is 3 (some .boolean), Cond.fieldLink RX4 29 "FrostPaneModel" "ice" "[I", Cond.methodLink RX4 131 yX4_spread, Cond.instanceMethod yX4_spread, Cond.selects RX4 yX4_spread yX4_spread, Cond.code yX4_spread cX4_spread 6 (some .int), Cond.methodLink RX4 98 yJ6_bitCount_0f7a4, Cond.static yJ6_bitCount_0f7a4]
def wsX4_flowers__r2 : List Cond := [Cond.initialized RJ6, Cond.code yJ6_bitCount_0f7a4 cJ6_bitCount_0f7a4 1 (some .int), Cond.constant RJ6 265 (1431655765), Cond.constant RJ6 266 (858993459), Cond.constant RJ6 267 (252645135), Cond.methodLink RX4 125 yX4_ok, Cond.instanceMethod yX4_ok, Cond.selects RX4 yX4_ok yX4_ok, Cond.code yX4_ok cX4_ok 2 (some .int), Cond.fieldLink RX4 51 "FrostPaneModel" "thrown" "I"]
def wsX4_flowers_ : List Cond := .code yX4_flowers_ cX4_flowers_ 1 (some .int) :: ((wsX4_flowers__r1 ++ wsX4_flowers__r2) ++ wsX40)
def wsX4_largestFlower_r1 : List Cond := [Cond.methodLink RX4 134 yX4_flowers, Cond.instanceMethod yX4_flowers, Cond.selects RX4 yX4_flowers yX4_flowers, Cond.initialized RX4, Cond.code yX4_flowers cX4_flowers 8 (some .int), Cond.fieldLink RX4 47 "FrostPaneModel" "isSeen" "[Z", Cond.fieldLink RX4 13 "FrostPaneModel" "rows" "I", Cond.fieldLink RX4 7 "FrostPaneModel" "columns" "I", Cond.methodLink RX4 92 Lib.Math.max.name, Cond.static Lib.Math.max.name, Cond.initialized "java/lang/Math", Cond.code Lib.Math.max.name Lib.Math.max.code 2 (some .int), Cond.fieldLink RX4 41 "FrostPaneModel" "next" "[I", Cond.methodLink RX4 73 yX4_is, Cond.instanceMethod yX4_is, Cond.selects RX4 yX4_is yX4_is, Cond.code yX4_is cX4_is 3 (some .boolean), Cond.fieldLink RX4 29 "FrostPaneModel" "ice" "[I", Cond.methodLink RX4 131 yX4_spread, Cond.instanceMethod yX4_spread, Cond.selects RX4 yX4_spread yX4_spread, Cond.code yX4_spread cX4_spread 6 (some .int), Cond.methodLink RX4 98 yJ6_bitCount_0f7a4, Cond.static yJ6_bitCount_0f7a4]
def wsX4_largestFlower_r2 : List Cond := [Cond.initialized RJ6, Cond.code yJ6_bitCount_0f7a4 cJ6_bitCount_0f7a4 1 (some .int), Cond.constant RJ6 265 (1431655765), Cond.constant RJ6 266 (858993459), Cond.constant RJ6 267 (252645135), Cond.methodLink RX4 125 yX4_ok, Cond.instanceMethod yX4_ok, Cond.selects RX4 yX4_ok yX4_ok, Cond.code yX4_ok cX4_ok 2 (some .int), Cond.fieldLink RX4 51 "FrostPaneModel" "thrown" "I"]
def wsX4_largestFlower : List Cond := .code yX4_largestFlower cX4_largestFlower 1 (some .int) :: ((wsX4_largestFlower_r1 ++ wsX4_largestFlower_r2) ++ wsX40)
def wsX4_flowerAt_r1 : List Cond := [Cond.fieldLink RX4 51 "FrostPaneModel" "thrown" "I", Cond.methodLink RX4 106 yX4_isCell, Cond.instanceMethod yX4_isCell, Cond.selects RX4 yX4_isCell yX4_isCell, Cond.initialized RX4, Cond.code yX4_isCell cX4_isCell 3 (some .boolean), Cond.fieldLink RX4 7 "FrostPaneModel" "columns" "I", Cond.fieldLink RX4 13 "FrostPaneModel" "rows" "I", Cond.methodLink RX4 54 yX4_isIn, Cond.static yX4_isIn, Cond.code yX4_isIn cX4_isIn 3 (some .boolean), Cond.methodLink RX4 131 yX4_spread, Cond.instanceMethod yX4_spread, Cond.selects RX4 yX4_spread yX4_spread, Cond.code yX4_spread cX4_spread 6 (some .int), Cond.fieldLink RX4 41 "FrostPaneModel" "next" "[I", Cond.fieldLink RX4 29 "FrostPaneModel" "ice" "[I", Cond.methodLink RX4 98 yJ6_bitCount_0f7a4, Cond.static yJ6_bitCount_0f7a4, Cond.initialized RJ6, Cond.code yJ6_bitCount_0f7a4 cJ6_bitCount_0f7a4 1 (some .int), Cond.constant RJ6 265 (1431655765), Cond.constant RJ6 266 (858993459), Cond.constant RJ6 267 (252645135)]
def wsX4_flowerAt_r2 : List Cond := [Cond.methodLink RX4 103 yX4_no, Cond.instanceMethod yX4_no, Cond.selects RX4 yX4_no yX4_no, Cond.code yX4_no cX4_no 2 (some .int)]
def wsX4_flowerAt : List Cond := .code yX4_flowerAt cX4_flowerAt 3 (some .int) :: ((wsX4_flowerAt_r1 ++ wsX4_flowerAt_r2) ++ wsX40)
def wsX4_mirrored : List Cond := .code yX4_mirrored cX4_mirrored 3 (some .boolean) :: ([.fieldLink RX4 13 "FrostPaneModel" "rows" "I", .fieldLink RX4 7 "FrostPaneModel" "columns" "I", .methodLink RX4 73 yX4_is, .instanceMethod yX4_is, .selects RX4 yX4_is yX4_is, .initialized RX4, .code yX4_is cX4_is 3 (some .boolean), .fieldLink RX4 29 "FrostPaneModel" "ice" "[I"] ++ wsX40)
def wsX4_isMirrored : List Cond := .code yX4_isMirrored cX4_isMirrored 1 (some .boolean) :: ([.fieldLink RX4 51 "FrostPaneModel" "thrown" "I", .methodLink RX4 138 yX4_mirrored, .instanceMethod yX4_mirrored, .selects RX4 yX4_mirrored yX4_mirrored, .initialized RX4, .code yX4_mirrored cX4_mirrored 3 (some .boolean), .fieldLink RX4 13 "FrostPaneModel" "rows" "I", .fieldLink RX4 7 "FrostPaneModel" "columns" "I", .methodLink RX4 73 yX4_is, .instanceMethod yX4_is, .selects RX4 yX4_is yX4_is, .code yX4_is cX4_is 3 (some .boolean), .fieldLink RX4 29 "FrostPaneModel" "ice" "[I"] ++ wsX40)
def wsX4_behind_r1 : List Cond := [Cond.methodLink RX4 142 yX4_keep, Cond.instanceMethod yX4_keep, Cond.selects RX4 yX4_keep yX4_keep, Cond.initialized RX4, Cond.code yX4_keep cX4_keep 1 none, Cond.fieldLink RX4 29 "FrostPaneModel" "ice" "[I", Cond.fieldLink RX4 35 "FrostPaneModel" "kept" "[I", Cond.methodLink RX4 86 arraycopyName, Cond.native arraycopyName, Cond.static arraycopyName, Cond.initialized "java/lang/System", Cond.fieldLink RX4 32 "FrostPaneModel" "melt" "[I", Cond.fieldLink RX4 38 "FrostPaneModel" "keptMelt" "[I", Cond.methodLink RX4 116 yX4_growOn, Cond.instanceMethod yX4_growOn, Cond.selects RX4 yX4_growOn yX4_growOn, Cond.code yX4_growOn cX4_growOn 2 none, Cond.fieldLink RX4 13 "FrostPaneModel" "rows" "I", Cond.fieldLink RX4 41 "FrostPaneModel" "next" "[I", Cond.methodLink RX4 92 Lib.Math.max.name, Cond.static Lib.Math.max.name, Cond.initialized "java/lang/Math", Cond.code Lib.Math.max.name Lib.Math.max.code 2 (some .int), Cond.methodLink RX4 83 yX4_grown]
def wsX4_behind_r2 : List Cond := [Cond.instanceMethod yX4_grown, Cond.selects RX4 yX4_grown yX4_grown, Cond.code yX4_grown cX4_grown 6 (some .int), Cond.fieldLink RX4 7 "FrostPaneModel" "columns" "I", Cond.fieldLink RX4 26 "FrostPaneModel" "stays" "[I", Cond.fieldLink RX4 77 "FrostPaneModel" "breath" "I", Cond.fieldLink RX4 22 "FrostPaneModel" "freezes" "[I", Cond.methodLink RX4 70 yX4_count, Cond.instanceMethod yX4_count, Cond.selects RX4 yX4_count yX4_count, Cond.code yX4_count cX4_count 4 none, Cond.fieldLink RX4 44 "FrostPaneModel" "sum" "[I", Cond.methodLink RX4 58 yX4_wide, Cond.instanceMethod yX4_wide, Cond.selects RX4 yX4_wide yX4_wide, Cond.code yX4_wide cX4_wide 5 (some .int), Cond.fieldLink RX4 16 "FrostPaneModel" "frame" "I", Cond.methodLink RX4 62 yX4_full, Cond.instanceMethod yX4_full, Cond.selects RX4 yX4_full yX4_full, Cond.code yX4_full cX4_full 1 (some .int), Cond.methodLink RX4 66 yX4_add, Cond.instanceMethod yX4_add, Cond.selects RX4 yX4_add yX4_add]
def wsX4_behind_r3 : List Cond := [Cond.code yX4_add cX4_add 5 none, Cond.methodLink RX4 73 yX4_is, Cond.instanceMethod yX4_is, Cond.selects RX4 yX4_is yX4_is, Cond.code yX4_is cX4_is 3 (some .boolean), Cond.methodLink RX4 80 yX4_counted, Cond.instanceMethod yX4_counted, Cond.selects RX4 yX4_counted yX4_counted, Cond.code yX4_counted cX4_counted 4 (some .int), Cond.methodLink RX4 122 yX4_all, Cond.instanceMethod yX4_all, Cond.selects RX4 yX4_all yX4_all, Cond.code yX4_all cX4_all 3 (some .int), Cond.methodLink RX4 98 yJ6_bitCount_0f7a4, Cond.static yJ6_bitCount_0f7a4, Cond.initialized RJ6, Cond.code yJ6_bitCount_0f7a4 cJ6_bitCount_0f7a4 1 (some .int), Cond.constant RJ6 265 (1431655765), Cond.constant RJ6 266 (858993459), Cond.constant RJ6 267 (252645135), Cond.methodLink RX4 145 yX4_bringBack, Cond.instanceMethod yX4_bringBack, Cond.selects RX4 yX4_bringBack yX4_bringBack, Cond.code yX4_bringBack cX4_bringBack 1 none]
def wsX4_behind : List Cond := .code yX4_behind cX4_behind 3 (some .int) :: ((wsX4_behind_r1 ++ (wsX4_behind_r2 ++ wsX4_behind_r3)) ++ wsX40)
def wsX4_frozenIn_r1 : List Cond := [Cond.fieldLink RX4 51 "FrostPaneModel" "thrown" "I", Cond.methodLink RX4 54 yX4_isIn, Cond.static yX4_isIn, Cond.initialized RX4, Cond.code yX4_isIn cX4_isIn 3 (some .boolean), Cond.methodLink RX4 148 yX4_behind, Cond.instanceMethod yX4_behind, Cond.selects RX4 yX4_behind yX4_behind, Cond.code yX4_behind cX4_behind 3 (some .int), Cond.methodLink RX4 142 yX4_keep, Cond.instanceMethod yX4_keep, Cond.selects RX4 yX4_keep yX4_keep, Cond.code yX4_keep cX4_keep 1 none, Cond.fieldLink RX4 29 "FrostPaneModel" "ice" "[I", Cond.fieldLink RX4 35 "FrostPaneModel" "kept" "[I", Cond.methodLink RX4 86 arraycopyName, Cond.native arraycopyName, Cond.static arraycopyName, Cond.initialized "java/lang/System", Cond.fieldLink RX4 32 "FrostPaneModel" "melt" "[I", Cond.fieldLink RX4 38 "FrostPaneModel" "keptMelt" "[I", Cond.methodLink RX4 116 yX4_growOn, Cond.instanceMethod yX4_growOn, Cond.selects RX4 yX4_growOn yX4_growOn]
def wsX4_frozenIn_r2 : List Cond := [Cond.code yX4_growOn cX4_growOn 2 none, Cond.fieldLink RX4 13 "FrostPaneModel" "rows" "I", Cond.fieldLink RX4 41 "FrostPaneModel" "next" "[I", Cond.methodLink RX4 92 Lib.Math.max.name, Cond.static Lib.Math.max.name, Cond.initialized "java/lang/Math", Cond.code Lib.Math.max.name Lib.Math.max.code 2 (some .int), Cond.methodLink RX4 83 yX4_grown, Cond.instanceMethod yX4_grown, Cond.selects RX4 yX4_grown yX4_grown, Cond.code yX4_grown cX4_grown 6 (some .int), Cond.fieldLink RX4 7 "FrostPaneModel" "columns" "I", Cond.fieldLink RX4 26 "FrostPaneModel" "stays" "[I", Cond.fieldLink RX4 77 "FrostPaneModel" "breath" "I", Cond.fieldLink RX4 22 "FrostPaneModel" "freezes" "[I", Cond.methodLink RX4 70 yX4_count, Cond.instanceMethod yX4_count, Cond.selects RX4 yX4_count yX4_count, Cond.code yX4_count cX4_count 4 none, Cond.fieldLink RX4 44 "FrostPaneModel" "sum" "[I", Cond.methodLink RX4 58 yX4_wide, Cond.instanceMethod yX4_wide, Cond.selects RX4 yX4_wide yX4_wide, Cond.code yX4_wide cX4_wide 5 (some .int)]
def wsX4_frozenIn_r3 : List Cond := [Cond.fieldLink RX4 16 "FrostPaneModel" "frame" "I", Cond.methodLink RX4 62 yX4_full, Cond.instanceMethod yX4_full, Cond.selects RX4 yX4_full yX4_full, Cond.code yX4_full cX4_full 1 (some .int), Cond.methodLink RX4 66 yX4_add, Cond.instanceMethod yX4_add, Cond.selects RX4 yX4_add yX4_add, Cond.code yX4_add cX4_add 5 none, Cond.methodLink RX4 73 yX4_is, Cond.instanceMethod yX4_is, Cond.selects RX4 yX4_is yX4_is, Cond.code yX4_is cX4_is 3 (some .boolean), Cond.methodLink RX4 80 yX4_counted, Cond.instanceMethod yX4_counted, Cond.selects RX4 yX4_counted yX4_counted, Cond.code yX4_counted cX4_counted 4 (some .int), Cond.methodLink RX4 122 yX4_all, Cond.instanceMethod yX4_all, Cond.selects RX4 yX4_all yX4_all, Cond.code yX4_all cX4_all 3 (some .int), Cond.methodLink RX4 98 yJ6_bitCount_0f7a4, Cond.static yJ6_bitCount_0f7a4, Cond.initialized RJ6]
def wsX4_frozenIn_r4 : List Cond := [Cond.code yJ6_bitCount_0f7a4 cJ6_bitCount_0f7a4 1 (some .int), Cond.constant RJ6 265 (1431655765), Cond.constant RJ6 266 (858993459), Cond.constant RJ6 267 (252645135), Cond.methodLink RX4 145 yX4_bringBack, Cond.instanceMethod yX4_bringBack, Cond.selects RX4 yX4_bringBack yX4_bringBack, Cond.code yX4_bringBack cX4_bringBack 1 none, Cond.methodLink RX4 103 yX4_no, Cond.instanceMethod yX4_no, Cond.selects RX4 yX4_no yX4_no, Cond.code yX4_no cX4_no 2 (some .int)]
def wsX4_frozenIn : List Cond := .code yX4_frozenIn cX4_frozenIn 2 (some .int) :: ((wsX4_frozenIn_r1 ++ (wsX4_frozenIn_r2 ++ (wsX4_frozenIn_r3 ++ wsX4_frozenIn_r4))) ++ wsX40)
def wsX4_isAsKept : List Cond := .code yX4_isAsKept cX4_isAsKept 2 (some .boolean) :: ([.fieldLink RX4 13 "FrostPaneModel" "rows" "I", .fieldLink RX4 29 "FrostPaneModel" "ice" "[I", .fieldLink RX4 35 "FrostPaneModel" "kept" "[I", .fieldLink RX4 32 "FrostPaneModel" "melt" "[I", .fieldLink RX4 38 "FrostPaneModel" "keptMelt" "[I"] ++ wsX40)
def wsX4_again_r1 : List Cond := [Cond.methodLink RX4 142 yX4_keep, Cond.instanceMethod yX4_keep, Cond.selects RX4 yX4_keep yX4_keep, Cond.initialized RX4, Cond.code yX4_keep cX4_keep 1 none, Cond.fieldLink RX4 29 "FrostPaneModel" "ice" "[I", Cond.fieldLink RX4 35 "FrostPaneModel" "kept" "[I", Cond.methodLink RX4 86 arraycopyName, Cond.native arraycopyName, Cond.static arraycopyName, Cond.initialized "java/lang/System", Cond.fieldLink RX4 32 "FrostPaneModel" "melt" "[I", Cond.fieldLink RX4 38 "FrostPaneModel" "keptMelt" "[I", Cond.methodLink RX4 116 yX4_growOn, Cond.instanceMethod yX4_growOn, Cond.selects RX4 yX4_growOn yX4_growOn, Cond.code yX4_growOn cX4_growOn 2 none, Cond.fieldLink RX4 13 "FrostPaneModel" "rows" "I", Cond.fieldLink RX4 41 "FrostPaneModel" "next" "[I", Cond.methodLink RX4 92 Lib.Math.max.name, Cond.static Lib.Math.max.name, Cond.initialized "java/lang/Math", Cond.code Lib.Math.max.name Lib.Math.max.code 2 (some .int), Cond.methodLink RX4 83 yX4_grown]
def wsX4_again_r2 : List Cond := [Cond.instanceMethod yX4_grown, Cond.selects RX4 yX4_grown yX4_grown, Cond.code yX4_grown cX4_grown 6 (some .int), Cond.fieldLink RX4 7 "FrostPaneModel" "columns" "I", Cond.fieldLink RX4 26 "FrostPaneModel" "stays" "[I", Cond.fieldLink RX4 77 "FrostPaneModel" "breath" "I", Cond.fieldLink RX4 22 "FrostPaneModel" "freezes" "[I", Cond.methodLink RX4 70 yX4_count, Cond.instanceMethod yX4_count, Cond.selects RX4 yX4_count yX4_count, Cond.code yX4_count cX4_count 4 none, Cond.fieldLink RX4 44 "FrostPaneModel" "sum" "[I", Cond.methodLink RX4 58 yX4_wide, Cond.instanceMethod yX4_wide, Cond.selects RX4 yX4_wide yX4_wide, Cond.code yX4_wide cX4_wide 5 (some .int), Cond.fieldLink RX4 16 "FrostPaneModel" "frame" "I", Cond.methodLink RX4 62 yX4_full, Cond.instanceMethod yX4_full, Cond.selects RX4 yX4_full yX4_full, Cond.code yX4_full cX4_full 1 (some .int), Cond.methodLink RX4 66 yX4_add, Cond.instanceMethod yX4_add, Cond.selects RX4 yX4_add yX4_add]
def wsX4_again_r3 : List Cond := [Cond.code yX4_add cX4_add 5 none, Cond.methodLink RX4 73 yX4_is, Cond.instanceMethod yX4_is, Cond.selects RX4 yX4_is yX4_is, Cond.code yX4_is cX4_is 3 (some .boolean), Cond.methodLink RX4 80 yX4_counted, Cond.instanceMethod yX4_counted, Cond.selects RX4 yX4_counted yX4_counted, Cond.code yX4_counted cX4_counted 4 (some .int), Cond.methodLink RX4 151 yX4_isAsKept, Cond.instanceMethod yX4_isAsKept, Cond.selects RX4 yX4_isAsKept yX4_isAsKept, Cond.code yX4_isAsKept cX4_isAsKept 2 (some .boolean), Cond.methodLink RX4 145 yX4_bringBack, Cond.instanceMethod yX4_bringBack, Cond.selects RX4 yX4_bringBack yX4_bringBack, Cond.code yX4_bringBack cX4_bringBack 1 none]
def wsX4_again : List Cond := .code yX4_again cX4_again 3 (some .int) :: ((wsX4_again_r1 ++ (wsX4_again_r2 ++ wsX4_again_r3)) ++ wsX40)
def wsX4_comesAgainIn_r1 : List Cond := [Cond.methodLink RX4 154 yX4_again, Cond.instanceMethod yX4_again, Cond.selects RX4 yX4_again yX4_again, Cond.initialized RX4, Cond.code yX4_again cX4_again 3 (some .int), Cond.methodLink RX4 142 yX4_keep, Cond.instanceMethod yX4_keep, Cond.selects RX4 yX4_keep yX4_keep, Cond.code yX4_keep cX4_keep 1 none, Cond.fieldLink RX4 29 "FrostPaneModel" "ice" "[I", Cond.fieldLink RX4 35 "FrostPaneModel" "kept" "[I", Cond.methodLink RX4 86 arraycopyName, Cond.native arraycopyName, Cond.static arraycopyName, Cond.initialized "java/lang/System", Cond.fieldLink RX4 32 "FrostPaneModel" "melt" "[I", Cond.fieldLink RX4 38 "FrostPaneModel" "keptMelt" "[I", Cond.methodLink RX4 116 yX4_growOn, Cond.instanceMethod yX4_growOn, Cond.selects RX4 yX4_growOn yX4_growOn, Cond.code yX4_growOn cX4_growOn 2 none, Cond.fieldLink RX4 13 "FrostPaneModel" "rows" "I", Cond.fieldLink RX4 41 "FrostPaneModel" "next" "[I", Cond.methodLink RX4 92 Lib.Math.max.name]
def wsX4_comesAgainIn_r2 : List Cond := [Cond.static Lib.Math.max.name, Cond.initialized "java/lang/Math", Cond.code Lib.Math.max.name Lib.Math.max.code 2 (some .int), Cond.methodLink RX4 83 yX4_grown, Cond.instanceMethod yX4_grown, Cond.selects RX4 yX4_grown yX4_grown, Cond.code yX4_grown cX4_grown 6 (some .int), Cond.fieldLink RX4 7 "FrostPaneModel" "columns" "I", Cond.fieldLink RX4 26 "FrostPaneModel" "stays" "[I", Cond.fieldLink RX4 77 "FrostPaneModel" "breath" "I", Cond.fieldLink RX4 22 "FrostPaneModel" "freezes" "[I", Cond.methodLink RX4 70 yX4_count, Cond.instanceMethod yX4_count, Cond.selects RX4 yX4_count yX4_count, Cond.code yX4_count cX4_count 4 none, Cond.fieldLink RX4 44 "FrostPaneModel" "sum" "[I", Cond.methodLink RX4 58 yX4_wide, Cond.instanceMethod yX4_wide, Cond.selects RX4 yX4_wide yX4_wide, Cond.code yX4_wide cX4_wide 5 (some .int), Cond.fieldLink RX4 16 "FrostPaneModel" "frame" "I", Cond.methodLink RX4 62 yX4_full, Cond.instanceMethod yX4_full, Cond.selects RX4 yX4_full yX4_full]
def wsX4_comesAgainIn_r3 : List Cond := [Cond.code yX4_full cX4_full 1 (some .int), Cond.methodLink RX4 66 yX4_add, Cond.instanceMethod yX4_add, Cond.selects RX4 yX4_add yX4_add, Cond.code yX4_add cX4_add 5 none, Cond.methodLink RX4 73 yX4_is, Cond.instanceMethod yX4_is, Cond.selects RX4 yX4_is yX4_is, Cond.code yX4_is cX4_is 3 (some .boolean), Cond.methodLink RX4 80 yX4_counted, Cond.instanceMethod yX4_counted, Cond.selects RX4 yX4_counted yX4_counted, Cond.code yX4_counted cX4_counted 4 (some .int), Cond.methodLink RX4 151 yX4_isAsKept, Cond.instanceMethod yX4_isAsKept, Cond.selects RX4 yX4_isAsKept yX4_isAsKept, Cond.code yX4_isAsKept cX4_isAsKept 2 (some .boolean), Cond.methodLink RX4 145 yX4_bringBack, Cond.instanceMethod yX4_bringBack, Cond.selects RX4 yX4_bringBack yX4_bringBack, Cond.code yX4_bringBack cX4_bringBack 1 none, Cond.methodLink RX4 125 yX4_ok, Cond.instanceMethod yX4_ok, Cond.selects RX4 yX4_ok yX4_ok]
def wsX4_comesAgainIn_r4 : List Cond := [Cond.code yX4_ok cX4_ok 2 (some .int), Cond.fieldLink RX4 51 "FrostPaneModel" "thrown" "I"]
def wsX4_comesAgainIn : List Cond := .code yX4_comesAgainIn cX4_comesAgainIn 1 (some .int) :: ((wsX4_comesAgainIn_r1 ++ (wsX4_comesAgainIn_r2 ++ (wsX4_comesAgainIn_r3 ++ wsX4_comesAgainIn_r4))) ++ wsX40)
def wsX4_isStill_r1 : List Cond := [Cond.fieldLink RX4 13 "FrostPaneModel" "rows" "I", Cond.fieldLink RX4 29 "FrostPaneModel" "ice" "[I", Cond.methodLink RX4 128 yX4_manyMelted, Cond.instanceMethod yX4_manyMelted, Cond.selects RX4 yX4_manyMelted yX4_manyMelted, Cond.initialized RX4, Cond.code yX4_manyMelted cX4_manyMelted 3 (some .int), Cond.fieldLink RX4 32 "FrostPaneModel" "melt" "[I", Cond.methodLink RX4 83 yX4_grown, Cond.instanceMethod yX4_grown, Cond.selects RX4 yX4_grown yX4_grown, Cond.code yX4_grown cX4_grown 6 (some .int), Cond.fieldLink RX4 7 "FrostPaneModel" "columns" "I", Cond.fieldLink RX4 26 "FrostPaneModel" "stays" "[I", Cond.fieldLink RX4 77 "FrostPaneModel" "breath" "I", Cond.fieldLink RX4 22 "FrostPaneModel" "freezes" "[I", Cond.methodLink RX4 70 yX4_count, Cond.instanceMethod yX4_count, Cond.selects RX4 yX4_count yX4_count, Cond.code yX4_count cX4_count 4 none, Cond.fieldLink RX4 44 "FrostPaneModel" "sum" "[I", Cond.methodLink RX4 58 yX4_wide, Cond.instanceMethod yX4_wide, Cond.selects RX4 yX4_wide yX4_wide]
def wsX4_isStill_r2 : List Cond := [Cond.code yX4_wide cX4_wide 5 (some .int), Cond.fieldLink RX4 16 "FrostPaneModel" "frame" "I", Cond.methodLink RX4 62 yX4_full, Cond.instanceMethod yX4_full, Cond.selects RX4 yX4_full yX4_full, Cond.code yX4_full cX4_full 1 (some .int), Cond.methodLink RX4 66 yX4_add, Cond.instanceMethod yX4_add, Cond.selects RX4 yX4_add yX4_add, Cond.code yX4_add cX4_add 5 none, Cond.methodLink RX4 73 yX4_is, Cond.instanceMethod yX4_is, Cond.selects RX4 yX4_is yX4_is, Cond.code yX4_is cX4_is 3 (some .boolean), Cond.methodLink RX4 80 yX4_counted, Cond.instanceMethod yX4_counted, Cond.selects RX4 yX4_counted yX4_counted, Cond.code yX4_counted cX4_counted 4 (some .int)]
def wsX4_isStill : List Cond := .code yX4_isStill cX4_isStill 2 (some .boolean) :: ((wsX4_isStill_r1 ++ wsX4_isStill_r2) ++ wsX40)
def wsX4_still_r1 : List Cond := [Cond.methodLink RX4 142 yX4_keep, Cond.instanceMethod yX4_keep, Cond.selects RX4 yX4_keep yX4_keep, Cond.initialized RX4, Cond.code yX4_keep cX4_keep 1 none, Cond.fieldLink RX4 29 "FrostPaneModel" "ice" "[I", Cond.fieldLink RX4 35 "FrostPaneModel" "kept" "[I", Cond.methodLink RX4 86 arraycopyName, Cond.native arraycopyName, Cond.static arraycopyName, Cond.initialized "java/lang/System", Cond.fieldLink RX4 32 "FrostPaneModel" "melt" "[I", Cond.fieldLink RX4 38 "FrostPaneModel" "keptMelt" "[I", Cond.methodLink RX4 157 yX4_isStill, Cond.instanceMethod yX4_isStill, Cond.selects RX4 yX4_isStill yX4_isStill, Cond.code yX4_isStill cX4_isStill 2 (some .boolean), Cond.fieldLink RX4 13 "FrostPaneModel" "rows" "I", Cond.methodLink RX4 128 yX4_manyMelted, Cond.instanceMethod yX4_manyMelted, Cond.selects RX4 yX4_manyMelted yX4_manyMelted, Cond.code yX4_manyMelted cX4_manyMelted 3 (some .int), Cond.methodLink RX4 83 yX4_grown, Cond.instanceMethod yX4_grown]
def wsX4_still_r2 : List Cond := [Cond.selects RX4 yX4_grown yX4_grown, Cond.code yX4_grown cX4_grown 6 (some .int), Cond.fieldLink RX4 7 "FrostPaneModel" "columns" "I", Cond.fieldLink RX4 26 "FrostPaneModel" "stays" "[I", Cond.fieldLink RX4 77 "FrostPaneModel" "breath" "I", Cond.fieldLink RX4 22 "FrostPaneModel" "freezes" "[I", Cond.methodLink RX4 70 yX4_count, Cond.instanceMethod yX4_count, Cond.selects RX4 yX4_count yX4_count, Cond.code yX4_count cX4_count 4 none, Cond.fieldLink RX4 44 "FrostPaneModel" "sum" "[I", Cond.methodLink RX4 58 yX4_wide, Cond.instanceMethod yX4_wide, Cond.selects RX4 yX4_wide yX4_wide, Cond.code yX4_wide cX4_wide 5 (some .int), Cond.fieldLink RX4 16 "FrostPaneModel" "frame" "I", Cond.methodLink RX4 62 yX4_full, Cond.instanceMethod yX4_full, Cond.selects RX4 yX4_full yX4_full, Cond.code yX4_full cX4_full 1 (some .int), Cond.methodLink RX4 66 yX4_add, Cond.instanceMethod yX4_add, Cond.selects RX4 yX4_add yX4_add, Cond.code yX4_add cX4_add 5 none]
def wsX4_still_r3 : List Cond := [Cond.methodLink RX4 73 yX4_is, Cond.instanceMethod yX4_is, Cond.selects RX4 yX4_is yX4_is, Cond.code yX4_is cX4_is 3 (some .boolean), Cond.methodLink RX4 80 yX4_counted, Cond.instanceMethod yX4_counted, Cond.selects RX4 yX4_counted yX4_counted, Cond.code yX4_counted cX4_counted 4 (some .int), Cond.methodLink RX4 116 yX4_growOn, Cond.instanceMethod yX4_growOn, Cond.selects RX4 yX4_growOn yX4_growOn, Cond.code yX4_growOn cX4_growOn 2 none, Cond.fieldLink RX4 41 "FrostPaneModel" "next" "[I", Cond.methodLink RX4 92 Lib.Math.max.name, Cond.static Lib.Math.max.name, Cond.initialized "java/lang/Math", Cond.code Lib.Math.max.name Lib.Math.max.code 2 (some .int), Cond.methodLink RX4 145 yX4_bringBack, Cond.instanceMethod yX4_bringBack, Cond.selects RX4 yX4_bringBack yX4_bringBack, Cond.code yX4_bringBack cX4_bringBack 1 none]
def wsX4_still : List Cond := .code yX4_still cX4_still 3 (some .int) :: ((wsX4_still_r1 ++ (wsX4_still_r2 ++ wsX4_still_r3)) ++ wsX40)
def wsX4_standsStillIn_r1 : List Cond := [Cond.methodLink RX4 160 yX4_still, Cond.instanceMethod yX4_still, Cond.selects RX4 yX4_still yX4_still, Cond.initialized RX4, Cond.code yX4_still cX4_still 3 (some .int), Cond.methodLink RX4 142 yX4_keep, Cond.instanceMethod yX4_keep, Cond.selects RX4 yX4_keep yX4_keep, Cond.code yX4_keep cX4_keep 1 none, Cond.fieldLink RX4 29 "FrostPaneModel" "ice" "[I", Cond.fieldLink RX4 35 "FrostPaneModel" "kept" "[I", Cond.methodLink RX4 86 arraycopyName, Cond.native arraycopyName, Cond.static arraycopyName, Cond.initialized "java/lang/System", Cond.fieldLink RX4 32 "FrostPaneModel" "melt" "[I", Cond.fieldLink RX4 38 "FrostPaneModel" "keptMelt" "[I", Cond.methodLink RX4 157 yX4_isStill, Cond.instanceMethod yX4_isStill, Cond.selects RX4 yX4_isStill yX4_isStill, Cond.code yX4_isStill cX4_isStill 2 (some .boolean), Cond.fieldLink RX4 13 "FrostPaneModel" "rows" "I", Cond.methodLink RX4 128 yX4_manyMelted, Cond.instanceMethod yX4_manyMelted]
def wsX4_standsStillIn_r2 : List Cond := [Cond.selects RX4 yX4_manyMelted yX4_manyMelted, Cond.code yX4_manyMelted cX4_manyMelted 3 (some .int), Cond.methodLink RX4 83 yX4_grown, Cond.instanceMethod yX4_grown, Cond.selects RX4 yX4_grown yX4_grown, Cond.code yX4_grown cX4_grown 6 (some .int), Cond.fieldLink RX4 7 "FrostPaneModel" "columns" "I", Cond.fieldLink RX4 26 "FrostPaneModel" "stays" "[I", Cond.fieldLink RX4 77 "FrostPaneModel" "breath" "I", Cond.fieldLink RX4 22 "FrostPaneModel" "freezes" "[I", Cond.methodLink RX4 70 yX4_count, Cond.instanceMethod yX4_count, Cond.selects RX4 yX4_count yX4_count, Cond.code yX4_count cX4_count 4 none, Cond.fieldLink RX4 44 "FrostPaneModel" "sum" "[I", Cond.methodLink RX4 58 yX4_wide, Cond.instanceMethod yX4_wide, Cond.selects RX4 yX4_wide yX4_wide, Cond.code yX4_wide cX4_wide 5 (some .int), Cond.fieldLink RX4 16 "FrostPaneModel" "frame" "I", Cond.methodLink RX4 62 yX4_full, Cond.instanceMethod yX4_full, Cond.selects RX4 yX4_full yX4_full, Cond.code yX4_full cX4_full 1 (some .int)]
def wsX4_standsStillIn_r3 : List Cond := [Cond.methodLink RX4 66 yX4_add, Cond.instanceMethod yX4_add, Cond.selects RX4 yX4_add yX4_add, Cond.code yX4_add cX4_add 5 none, Cond.methodLink RX4 73 yX4_is, Cond.instanceMethod yX4_is, Cond.selects RX4 yX4_is yX4_is, Cond.code yX4_is cX4_is 3 (some .boolean), Cond.methodLink RX4 80 yX4_counted, Cond.instanceMethod yX4_counted, Cond.selects RX4 yX4_counted yX4_counted, Cond.code yX4_counted cX4_counted 4 (some .int), Cond.methodLink RX4 116 yX4_growOn, Cond.instanceMethod yX4_growOn, Cond.selects RX4 yX4_growOn yX4_growOn, Cond.code yX4_growOn cX4_growOn 2 none, Cond.fieldLink RX4 41 "FrostPaneModel" "next" "[I", Cond.methodLink RX4 92 Lib.Math.max.name, Cond.static Lib.Math.max.name, Cond.initialized "java/lang/Math", Cond.code Lib.Math.max.name Lib.Math.max.code 2 (some .int), Cond.methodLink RX4 145 yX4_bringBack, Cond.instanceMethod yX4_bringBack, Cond.selects RX4 yX4_bringBack yX4_bringBack]
def wsX4_standsStillIn_r4 : List Cond := [Cond.code yX4_bringBack cX4_bringBack 1 none, Cond.methodLink RX4 125 yX4_ok, Cond.instanceMethod yX4_ok, Cond.selects RX4 yX4_ok yX4_ok, Cond.code yX4_ok cX4_ok 2 (some .int), Cond.fieldLink RX4 51 "FrostPaneModel" "thrown" "I"]
def wsX4_standsStillIn : List Cond := .code yX4_standsStillIn cX4_standsStillIn 1 (some .int) :: ((wsX4_standsStillIn_r1 ++ (wsX4_standsStillIn_r2 ++ (wsX4_standsStillIn_r3 ++ wsX4_standsStillIn_r4))) ++ wsX40)
def wsX4_peakIn_r1 : List Cond := [Cond.fieldLink RX4 51 "FrostPaneModel" "thrown" "I", Cond.methodLink RX4 54 yX4_isIn, Cond.static yX4_isIn, Cond.initialized RX4, Cond.code yX4_isIn cX4_isIn 3 (some .boolean), Cond.methodLink RX4 103 yX4_no, Cond.instanceMethod yX4_no, Cond.selects RX4 yX4_no yX4_no, Cond.code yX4_no cX4_no 2 (some .int), Cond.methodLink RX4 142 yX4_keep, Cond.instanceMethod yX4_keep, Cond.selects RX4 yX4_keep yX4_keep, Cond.code yX4_keep cX4_keep 1 none, Cond.fieldLink RX4 29 "FrostPaneModel" "ice" "[I", Cond.fieldLink RX4 35 "FrostPaneModel" "kept" "[I", Cond.methodLink RX4 86 arraycopyName, Cond.native arraycopyName, Cond.static arraycopyName, Cond.initialized "java/lang/System", Cond.fieldLink RX4 32 "FrostPaneModel" "melt" "[I", Cond.fieldLink RX4 38 "FrostPaneModel" "keptMelt" "[I", Cond.methodLink RX4 122 yX4_all, Cond.instanceMethod yX4_all, Cond.selects RX4 yX4_all yX4_all]
def wsX4_peakIn_r2 : List Cond := [Cond.code yX4_all cX4_all 3 (some .int), Cond.fieldLink RX4 13 "FrostPaneModel" "rows" "I", Cond.methodLink RX4 98 yJ6_bitCount_0f7a4, Cond.static yJ6_bitCount_0f7a4, Cond.initialized RJ6, Cond.code yJ6_bitCount_0f7a4 cJ6_bitCount_0f7a4 1 (some .int), Cond.constant RJ6 265 (1431655765), Cond.constant RJ6 266 (858993459), Cond.constant RJ6 267 (252645135), Cond.methodLink RX4 116 yX4_growOn, Cond.instanceMethod yX4_growOn, Cond.selects RX4 yX4_growOn yX4_growOn, Cond.code yX4_growOn cX4_growOn 2 none, Cond.fieldLink RX4 41 "FrostPaneModel" "next" "[I", Cond.methodLink RX4 92 Lib.Math.max.name, Cond.static Lib.Math.max.name, Cond.initialized "java/lang/Math", Cond.code Lib.Math.max.name Lib.Math.max.code 2 (some .int), Cond.methodLink RX4 83 yX4_grown, Cond.instanceMethod yX4_grown, Cond.selects RX4 yX4_grown yX4_grown, Cond.code yX4_grown cX4_grown 6 (some .int), Cond.fieldLink RX4 7 "FrostPaneModel" "columns" "I", Cond.fieldLink RX4 26 "FrostPaneModel" "stays" "[I"]
def wsX4_peakIn_r3 : List Cond := [Cond.fieldLink RX4 77 "FrostPaneModel" "breath" "I", Cond.fieldLink RX4 22 "FrostPaneModel" "freezes" "[I", Cond.methodLink RX4 70 yX4_count, Cond.instanceMethod yX4_count, Cond.selects RX4 yX4_count yX4_count, Cond.code yX4_count cX4_count 4 none, Cond.fieldLink RX4 44 "FrostPaneModel" "sum" "[I", Cond.methodLink RX4 58 yX4_wide, Cond.instanceMethod yX4_wide, Cond.selects RX4 yX4_wide yX4_wide, Cond.code yX4_wide cX4_wide 5 (some .int), Cond.fieldLink RX4 16 "FrostPaneModel" "frame" "I", Cond.methodLink RX4 62 yX4_full, Cond.instanceMethod yX4_full, Cond.selects RX4 yX4_full yX4_full, Cond.code yX4_full cX4_full 1 (some .int), Cond.methodLink RX4 66 yX4_add, Cond.instanceMethod yX4_add, Cond.selects RX4 yX4_add yX4_add, Cond.code yX4_add cX4_add 5 none, Cond.methodLink RX4 73 yX4_is, Cond.instanceMethod yX4_is, Cond.selects RX4 yX4_is yX4_is, Cond.code yX4_is cX4_is 3 (some .boolean)]
def wsX4_peakIn_r4 : List Cond := [Cond.methodLink RX4 80 yX4_counted, Cond.instanceMethod yX4_counted, Cond.selects RX4 yX4_counted yX4_counted, Cond.code yX4_counted cX4_counted 4 (some .int), Cond.methodLink RX4 145 yX4_bringBack, Cond.instanceMethod yX4_bringBack, Cond.selects RX4 yX4_bringBack yX4_bringBack, Cond.code yX4_bringBack cX4_bringBack 1 none]
def wsX4_peakIn : List Cond := .code yX4_peakIn cX4_peakIn 5 (some .int) :: ((wsX4_peakIn_r1 ++ (wsX4_peakIn_r2 ++ (wsX4_peakIn_r3 ++ wsX4_peakIn_r4))) ++ wsX40)
def wsX4_best_r1 : List Cond := [Cond.fieldLink RX4 77 "FrostPaneModel" "breath" "I", Cond.fieldLink RX4 19 "FrostPaneModel" "rules" "I", Cond.methodLink RX4 148 yX4_behind, Cond.instanceMethod yX4_behind, Cond.selects RX4 yX4_behind yX4_behind, Cond.initialized RX4, Cond.code yX4_behind cX4_behind 3 (some .int), Cond.methodLink RX4 142 yX4_keep, Cond.instanceMethod yX4_keep, Cond.selects RX4 yX4_keep yX4_keep, Cond.code yX4_keep cX4_keep 1 none, Cond.fieldLink RX4 29 "FrostPaneModel" "ice" "[I", Cond.fieldLink RX4 35 "FrostPaneModel" "kept" "[I", Cond.methodLink RX4 86 arraycopyName, Cond.native arraycopyName, Cond.static arraycopyName, Cond.initialized "java/lang/System", Cond.fieldLink RX4 32 "FrostPaneModel" "melt" "[I", Cond.fieldLink RX4 38 "FrostPaneModel" "keptMelt" "[I", Cond.methodLink RX4 116 yX4_growOn, Cond.instanceMethod yX4_growOn, Cond.selects RX4 yX4_growOn yX4_growOn, Cond.code yX4_growOn cX4_growOn 2 none, Cond.fieldLink RX4 13 "FrostPaneModel" "rows" "I"]
def wsX4_best_r2 : List Cond := [Cond.fieldLink RX4 41 "FrostPaneModel" "next" "[I", Cond.methodLink RX4 92 Lib.Math.max.name, Cond.static Lib.Math.max.name, Cond.initialized "java/lang/Math", Cond.code Lib.Math.max.name Lib.Math.max.code 2 (some .int), Cond.methodLink RX4 83 yX4_grown, Cond.instanceMethod yX4_grown, Cond.selects RX4 yX4_grown yX4_grown, Cond.code yX4_grown cX4_grown 6 (some .int), Cond.fieldLink RX4 7 "FrostPaneModel" "columns" "I", Cond.fieldLink RX4 26 "FrostPaneModel" "stays" "[I", Cond.fieldLink RX4 22 "FrostPaneModel" "freezes" "[I", Cond.methodLink RX4 70 yX4_count, Cond.instanceMethod yX4_count, Cond.selects RX4 yX4_count yX4_count, Cond.code yX4_count cX4_count 4 none, Cond.fieldLink RX4 44 "FrostPaneModel" "sum" "[I", Cond.methodLink RX4 58 yX4_wide, Cond.instanceMethod yX4_wide, Cond.selects RX4 yX4_wide yX4_wide, Cond.code yX4_wide cX4_wide 5 (some .int), Cond.fieldLink RX4 16 "FrostPaneModel" "frame" "I", Cond.methodLink RX4 62 yX4_full, Cond.instanceMethod yX4_full]
def wsX4_best_r3 : List Cond := [Cond.selects RX4 yX4_full yX4_full, Cond.code yX4_full cX4_full 1 (some .int), Cond.methodLink RX4 66 yX4_add, Cond.instanceMethod yX4_add, Cond.selects RX4 yX4_add yX4_add, Cond.code yX4_add cX4_add 5 none, Cond.methodLink RX4 73 yX4_is, Cond.instanceMethod yX4_is, Cond.selects RX4 yX4_is yX4_is, Cond.code yX4_is cX4_is 3 (some .boolean), Cond.methodLink RX4 80 yX4_counted, Cond.instanceMethod yX4_counted, Cond.selects RX4 yX4_counted yX4_counted, Cond.code yX4_counted cX4_counted 4 (some .int), Cond.methodLink RX4 122 yX4_all, Cond.instanceMethod yX4_all, Cond.selects RX4 yX4_all yX4_all, Cond.code yX4_all cX4_all 3 (some .int), Cond.methodLink RX4 98 yJ6_bitCount_0f7a4, Cond.static yJ6_bitCount_0f7a4, Cond.initialized RJ6, Cond.code yJ6_bitCount_0f7a4 cJ6_bitCount_0f7a4 1 (some .int), Cond.constant RJ6 265 (1431655765), Cond.constant RJ6 266 (858993459)]
def wsX4_best_r4 : List Cond := [Cond.constant RJ6 267 (252645135), Cond.methodLink RX4 145 yX4_bringBack, Cond.instanceMethod yX4_bringBack, Cond.selects RX4 yX4_bringBack yX4_bringBack, Cond.code yX4_bringBack cX4_bringBack 1 none]
def wsX4_best : List Cond := .code yX4_best cX4_best 7 (some .int) :: ((wsX4_best_r1 ++ (wsX4_best_r2 ++ (wsX4_best_r3 ++ wsX4_best_r4))) ++ wsX40)
def wsX4_bestBreath_r1 : List Cond := [Cond.fieldLink RX4 51 "FrostPaneModel" "thrown" "I", Cond.methodLink RX4 54 yX4_isIn, Cond.static yX4_isIn, Cond.initialized RX4, Cond.code yX4_isIn cX4_isIn 3 (some .boolean), Cond.methodLink RX4 163 yX4_best, Cond.instanceMethod yX4_best, Cond.selects RX4 yX4_best yX4_best, Cond.code yX4_best cX4_best 7 (some .int), Cond.fieldLink RX4 77 "FrostPaneModel" "breath" "I", Cond.fieldLink RX4 19 "FrostPaneModel" "rules" "I", Cond.methodLink RX4 148 yX4_behind, Cond.instanceMethod yX4_behind, Cond.selects RX4 yX4_behind yX4_behind, Cond.code yX4_behind cX4_behind 3 (some .int), Cond.methodLink RX4 142 yX4_keep, Cond.instanceMethod yX4_keep, Cond.selects RX4 yX4_keep yX4_keep, Cond.code yX4_keep cX4_keep 1 none, Cond.fieldLink RX4 29 "FrostPaneModel" "ice" "[I", Cond.fieldLink RX4 35 "FrostPaneModel" "kept" "[I", Cond.methodLink RX4 86 arraycopyName, Cond.native arraycopyName, Cond.static arraycopyName]
def wsX4_bestBreath_r2 : List Cond := [Cond.initialized "java/lang/System", Cond.fieldLink RX4 32 "FrostPaneModel" "melt" "[I", Cond.fieldLink RX4 38 "FrostPaneModel" "keptMelt" "[I", Cond.methodLink RX4 116 yX4_growOn, Cond.instanceMethod yX4_growOn, Cond.selects RX4 yX4_growOn yX4_growOn, Cond.code yX4_growOn cX4_growOn 2 none, Cond.fieldLink RX4 13 "FrostPaneModel" "rows" "I", Cond.fieldLink RX4 41 "FrostPaneModel" "next" "[I", Cond.methodLink RX4 92 Lib.Math.max.name, Cond.static Lib.Math.max.name, Cond.initialized "java/lang/Math", Cond.code Lib.Math.max.name Lib.Math.max.code 2 (some .int), Cond.methodLink RX4 83 yX4_grown, Cond.instanceMethod yX4_grown, Cond.selects RX4 yX4_grown yX4_grown, Cond.code yX4_grown cX4_grown 6 (some .int), Cond.fieldLink RX4 7 "FrostPaneModel" "columns" "I", Cond.fieldLink RX4 26 "FrostPaneModel" "stays" "[I", Cond.fieldLink RX4 22 "FrostPaneModel" "freezes" "[I", Cond.methodLink RX4 70 yX4_count, Cond.instanceMethod yX4_count, Cond.selects RX4 yX4_count yX4_count, Cond.code yX4_count cX4_count 4 none]
def wsX4_bestBreath_r3 : List Cond := [Cond.fieldLink RX4 44 "FrostPaneModel" "sum" "[I", Cond.methodLink RX4 58 yX4_wide, Cond.instanceMethod yX4_wide, Cond.selects RX4 yX4_wide yX4_wide, Cond.code yX4_wide cX4_wide 5 (some .int), Cond.fieldLink RX4 16 "FrostPaneModel" "frame" "I", Cond.methodLink RX4 62 yX4_full, Cond.instanceMethod yX4_full, Cond.selects RX4 yX4_full yX4_full, Cond.code yX4_full cX4_full 1 (some .int), Cond.methodLink RX4 66 yX4_add, Cond.instanceMethod yX4_add, Cond.selects RX4 yX4_add yX4_add, Cond.code yX4_add cX4_add 5 none, Cond.methodLink RX4 73 yX4_is, Cond.instanceMethod yX4_is, Cond.selects RX4 yX4_is yX4_is, Cond.code yX4_is cX4_is 3 (some .boolean), Cond.methodLink RX4 80 yX4_counted, Cond.instanceMethod yX4_counted, Cond.selects RX4 yX4_counted yX4_counted, Cond.code yX4_counted cX4_counted 4 (some .int), Cond.methodLink RX4 122 yX4_all, Cond.instanceMethod yX4_all]
def wsX4_bestBreath_r4 : List Cond := [Cond.selects RX4 yX4_all yX4_all, Cond.code yX4_all cX4_all 3 (some .int), Cond.methodLink RX4 98 yJ6_bitCount_0f7a4, Cond.static yJ6_bitCount_0f7a4, Cond.initialized RJ6, Cond.code yJ6_bitCount_0f7a4 cJ6_bitCount_0f7a4 1 (some .int), Cond.constant RJ6 265 (1431655765), Cond.constant RJ6 266 (858993459), Cond.constant RJ6 267 (252645135), Cond.methodLink RX4 145 yX4_bringBack, Cond.instanceMethod yX4_bringBack, Cond.selects RX4 yX4_bringBack yX4_bringBack, Cond.code yX4_bringBack cX4_bringBack 1 none, Cond.methodLink RX4 103 yX4_no, Cond.instanceMethod yX4_no, Cond.selects RX4 yX4_no yX4_no, Cond.code yX4_no cX4_no 2 (some .int)]
def wsX4_bestBreath : List Cond := .code yX4_bestBreath cX4_bestBreath 2 (some .int) :: ((wsX4_bestBreath_r1 ++ (wsX4_bestBreath_r2 ++ (wsX4_bestBreath_r3 ++ wsX4_bestBreath_r4))) ++ wsX40)
def wsX4_meanInRows : List Cond := .code yX4_meanInRows cX4_meanInRows 1 (some .double) :: ([.fieldLink RX4 51 "FrostPaneModel" "thrown" "I", .fieldLink RX4 13 "FrostPaneModel" "rows" "I", .methodLink RX4 122 yX4_all, .instanceMethod yX4_all, .selects RX4 yX4_all yX4_all, .initialized RX4, .code yX4_all cX4_all 3 (some .int), .fieldLink RX4 29 "FrostPaneModel" "ice" "[I", .methodLink RX4 98 yJ6_bitCount_0f7a4, .static yJ6_bitCount_0f7a4, .initialized RJ6, .code yJ6_bitCount_0f7a4 cJ6_bitCount_0f7a4 1 (some .int), .constant RJ6 265 (1431655765), .constant RJ6 266 (858993459), .constant RJ6 267 (252645135)] ++ wsX40)
def wsX4_digest_r1 : List Cond := [Cond.fieldLink RX4 51 "FrostPaneModel" "thrown" "I", Cond.arrayClass .int, Cond.fieldLink RX4 7 "FrostPaneModel" "columns" "I", Cond.fieldLink RX4 13 "FrostPaneModel" "rows" "I", Cond.fieldLink RX4 119 "FrostPaneModel" "generation" "I", Cond.fieldLink RX4 19 "FrostPaneModel" "rules" "I", Cond.fieldLink RX4 77 "FrostPaneModel" "breath" "I", Cond.constantLong RX4 166 (2203), Cond.constantLong RX4 168 (31), Cond.fieldLink RX4 29 "FrostPaneModel" "ice" "[I", Cond.fieldLink RX4 32 "FrostPaneModel" "melt" "[I", Cond.methodLink RX4 122 yX4_all, Cond.instanceMethod yX4_all, Cond.selects RX4 yX4_all yX4_all, Cond.initialized RX4, Cond.code yX4_all cX4_all 3 (some .int), Cond.methodLink RX4 98 yJ6_bitCount_0f7a4, Cond.static yJ6_bitCount_0f7a4, Cond.initialized RJ6, Cond.code yJ6_bitCount_0f7a4 cJ6_bitCount_0f7a4 1 (some .int), Cond.constant RJ6 265 (1431655765), Cond.constant RJ6 266 (858993459), Cond.constant RJ6 267 (252645135), Cond.methodLink RX4 128 yX4_manyMelted]
def wsX4_digest_r2 : List Cond := [Cond.instanceMethod yX4_manyMelted, Cond.selects RX4 yX4_manyMelted yX4_manyMelted, Cond.code yX4_manyMelted cX4_manyMelted 3 (some .int), Cond.methodLink RX4 134 yX4_flowers, Cond.instanceMethod yX4_flowers, Cond.selects RX4 yX4_flowers yX4_flowers, Cond.code yX4_flowers cX4_flowers 8 (some .int), Cond.fieldLink RX4 47 "FrostPaneModel" "isSeen" "[Z", Cond.methodLink RX4 92 Lib.Math.max.name, Cond.static Lib.Math.max.name, Cond.initialized "java/lang/Math", Cond.code Lib.Math.max.name Lib.Math.max.code 2 (some .int), Cond.fieldLink RX4 41 "FrostPaneModel" "next" "[I", Cond.methodLink RX4 73 yX4_is, Cond.instanceMethod yX4_is, Cond.selects RX4 yX4_is yX4_is, Cond.code yX4_is cX4_is 3 (some .boolean), Cond.methodLink RX4 131 yX4_spread, Cond.instanceMethod yX4_spread, Cond.selects RX4 yX4_spread yX4_spread, Cond.code yX4_spread cX4_spread 6 (some .int), Cond.methodLink RX4 138 yX4_mirrored, Cond.instanceMethod yX4_mirrored, Cond.selects RX4 yX4_mirrored yX4_mirrored]
def wsX4_digest_r3 : List Cond := [Cond.code yX4_mirrored cX4_mirrored 3 (some .boolean), Cond.methodLink RX4 154 yX4_again, Cond.instanceMethod yX4_again, Cond.selects RX4 yX4_again yX4_again, Cond.code yX4_again cX4_again 3 (some .int), Cond.methodLink RX4 142 yX4_keep, Cond.instanceMethod yX4_keep, Cond.selects RX4 yX4_keep yX4_keep, Cond.code yX4_keep cX4_keep 1 none, Cond.fieldLink RX4 35 "FrostPaneModel" "kept" "[I", Cond.methodLink RX4 86 arraycopyName, Cond.native arraycopyName, Cond.static arraycopyName, Cond.initialized "java/lang/System", Cond.fieldLink RX4 38 "FrostPaneModel" "keptMelt" "[I", Cond.methodLink RX4 116 yX4_growOn, Cond.instanceMethod yX4_growOn, Cond.selects RX4 yX4_growOn yX4_growOn, Cond.code yX4_growOn cX4_growOn 2 none, Cond.methodLink RX4 83 yX4_grown, Cond.instanceMethod yX4_grown, Cond.selects RX4 yX4_grown yX4_grown, Cond.code yX4_grown cX4_grown 6 (some .int), Cond.fieldLink RX4 26 "FrostPaneModel" "stays" "[I"]
def wsX4_digest_r4 : List Cond := [Cond.fieldLink RX4 22 "FrostPaneModel" "freezes" "[I", Cond.methodLink RX4 70 yX4_count, Cond.instanceMethod yX4_count, Cond.selects RX4 yX4_count yX4_count, Cond.code yX4_count cX4_count 4 none, Cond.fieldLink RX4 44 "FrostPaneModel" "sum" "[I", Cond.methodLink RX4 58 yX4_wide, Cond.instanceMethod yX4_wide, Cond.selects RX4 yX4_wide yX4_wide, Cond.code yX4_wide cX4_wide 5 (some .int), Cond.fieldLink RX4 16 "FrostPaneModel" "frame" "I", Cond.methodLink RX4 62 yX4_full, Cond.instanceMethod yX4_full, Cond.selects RX4 yX4_full yX4_full, Cond.code yX4_full cX4_full 1 (some .int), Cond.methodLink RX4 66 yX4_add, Cond.instanceMethod yX4_add, Cond.selects RX4 yX4_add yX4_add, Cond.code yX4_add cX4_add 5 none, Cond.methodLink RX4 80 yX4_counted, Cond.instanceMethod yX4_counted, Cond.selects RX4 yX4_counted yX4_counted, Cond.code yX4_counted cX4_counted 4 (some .int), Cond.methodLink RX4 151 yX4_isAsKept]
def wsX4_digest_r5 : List Cond := [Cond.instanceMethod yX4_isAsKept, Cond.selects RX4 yX4_isAsKept yX4_isAsKept, Cond.code yX4_isAsKept cX4_isAsKept 2 (some .boolean), Cond.methodLink RX4 145 yX4_bringBack, Cond.instanceMethod yX4_bringBack, Cond.selects RX4 yX4_bringBack yX4_bringBack, Cond.code yX4_bringBack cX4_bringBack 1 none, Cond.methodLink RX4 160 yX4_still, Cond.instanceMethod yX4_still, Cond.selects RX4 yX4_still yX4_still, Cond.code yX4_still cX4_still 3 (some .int), Cond.methodLink RX4 157 yX4_isStill, Cond.instanceMethod yX4_isStill, Cond.selects RX4 yX4_isStill yX4_isStill, Cond.code yX4_isStill cX4_isStill 2 (some .boolean), Cond.methodLink RX4 163 yX4_best, Cond.instanceMethod yX4_best, Cond.selects RX4 yX4_best yX4_best, Cond.code yX4_best cX4_best 7 (some .int), Cond.methodLink RX4 148 yX4_behind, Cond.instanceMethod yX4_behind, Cond.selects RX4 yX4_behind yX4_behind, Cond.code yX4_behind cX4_behind 3 (some .int)]
def wsX4_digest : List Cond := .code yX4_digest cX4_digest 8 (some .long) :: ((wsX4_digest_r1 ++ (wsX4_digest_r2 ++ (wsX4_digest_r3 ++ (wsX4_digest_r4 ++ wsX4_digest_r5)))) ++ wsX40)
def wsJ9_max_7cf53 : List Cond := .code yJ9_max_7cf53 cJ9_max_7cf53 2 (some .int) :: ([])
def wsJ9_min_7cf53 : List Cond := .code yJ9_min_7cf53 cJ9_min_7cf53 2 (some .int) :: ([])
def wsL_lay_r1 : List Cond := [Cond.classLink RL 13 "java/lang/IllegalArgumentException", Cond.methodLink RL 7 yX3_lay, Cond.instanceMethod yX3_lay, Cond.selects RX3 yX3_lay yX3_lay, Cond.initialized RX3, Cond.code yX3_lay cX3_lay 3 (some .int), Cond.fieldLink RX3 10 "FrostPane" "now" "LFrostPane$Pane;", Cond.methodLink RX3 41 yX3_requireWithin, Cond.static yX3_requireWithin, Cond.code yX3_requireWithin cX3_requireWithin 3 none, Cond.classLink RX3 233 "java/lang/IllegalArgumentException", Cond.initialized "java/lang/IllegalArgumentException", Cond.methodLink RX3 33 yX1_layClear, Cond.instanceMethod yX1_layClear, Cond.selects RX1 yX1_layClear yX1_layClear, Cond.initialized RX1, Cond.code yX1_layClear cX1_layClear 3 none, Cond.fieldLink RX1 21 "FrostPane$Pane" "columns" "I", Cond.fieldLink RX1 25 "FrostPane$Pane" "rows" "I", Cond.fieldLink RX1 9 "FrostPane$Pane" "frost" "[I", Cond.fieldLink RX1 18 "FrostPane$Pane" "melts" "[I", Cond.methodLink RX1 28 yJ7_fill_53178, Cond.static yJ7_fill_53178, Cond.initialized RJ7]
def wsL_lay_r2 : List Cond := [Cond.code yJ7_fill_53178 cJ7_fill_53178 4 none]
def wsL_lay : List Cond := .codeWith yL_lay cL_lay 5 (some .int) [(0, 10, 13, 13)] :: ((wsL_lay_r1 ++ wsL_lay_r2) ++ wsX30 ++ wsX10 ++ (vx_atS RX3 237 "java/lang/IllegalArgumentException" ["java/lang/RuntimeException", "java/lang/Exception"]).filter goodWord)
def wsL_turn_r1 : List Cond := [Cond.classLink RL 19 "java/lang/IndexOutOfBoundsException", Cond.classLink RL 21 "java/lang/IllegalStateException", Cond.methodLink RL 15 yX3_turn, Cond.instanceMethod yX3_turn, Cond.selects RX3 yX3_turn yX3_turn, Cond.initialized RX3, Cond.code yX3_turn cX3_turn 3 (some .boolean), Cond.classLink RX3 51 "java/lang/IllegalStateException", Cond.initialized "java/lang/IllegalStateException", Cond.fieldLink RX3 10 "FrostPane" "now" "LFrostPane$Pane;", Cond.methodLink RX3 45 yX3_requireCell, Cond.instanceMethod yX3_requireCell, Cond.selects RX3 yX3_requireCell yX3_requireCell, Cond.code yX3_requireCell cX3_requireCell 3 none, Cond.classLink RX3 83 "java/lang/IndexOutOfBoundsException", Cond.initialized "java/lang/IndexOutOfBoundsException", Cond.methodLink RX3 228 yX1_hasCell, Cond.instanceMethod yX1_hasCell, Cond.selects RX1 yX1_hasCell yX1_hasCell, Cond.initialized RX1, Cond.code yX1_hasCell cX1_hasCell 3 (some .boolean), Cond.fieldLink RX1 21 "FrostPane$Pane" "columns" "I", Cond.methodLink RX1 56 yX1_hasRow, Cond.instanceMethod yX1_hasRow]
def wsL_turn_r2 : List Cond := [Cond.selects RX1 yX1_hasRow yX1_hasRow, Cond.code yX1_hasRow cX1_hasRow 2 (some .boolean), Cond.fieldLink RX1 25 "FrostPane$Pane" "rows" "I", Cond.methodLink RX3 48 yX1_meltOf, Cond.instanceMethod yX1_meltOf, Cond.selects RX1 yX1_meltOf yX1_meltOf, Cond.code yX1_meltOf cX1_meltOf 4 (some .int), Cond.fieldLink RX1 18 "FrostPane$Pane" "melts" "[I", Cond.methodLink RX3 58 yX1_flip, Cond.instanceMethod yX1_flip, Cond.selects RX1 yX1_flip yX1_flip, Cond.code yX1_flip cX1_flip 3 none, Cond.fieldLink RX1 9 "FrostPane$Pane" "frost" "[I", Cond.methodLink RX1 60 yX1_hasCell, Cond.methodLink RX3 61 yX1_hasFrost, Cond.instanceMethod yX1_hasFrost, Cond.selects RX1 yX1_hasFrost yX1_hasFrost, Cond.code yX1_hasFrost cX1_hasFrost 3 (some .boolean), Cond.methodLink RX1 49 yX1_bitsOf, Cond.instanceMethod yX1_bitsOf, Cond.selects RX1 yX1_bitsOf yX1_bitsOf, Cond.code yX1_bitsOf cX1_bitsOf 2 (some .int)]
def wsL_turn : List Cond := .codeWith yL_turn cL_turn 5 (some .int) [(0, 17, 20, 19), (0, 17, 24, 21)] :: ((wsL_turn_r1 ++ wsL_turn_r2) ++ wsX30 ++ wsX10 ++ (vx_atS RX3 55 "java/lang/IllegalStateException" ["java/lang/RuntimeException", "java/lang/Exception"]).filter goodWord ++ (vx_atS RX3 87 "java/lang/IndexOutOfBoundsException" ["java/lang/RuntimeException", "java/lang/Exception"]).filter goodWord)
def wsL_press_r1 : List Cond := [Cond.classLink RL 19 "java/lang/IndexOutOfBoundsException", Cond.classLink RL 13 "java/lang/IllegalArgumentException", Cond.methodLink RL 23 yX3_press, Cond.instanceMethod yX3_press, Cond.selects RX3 yX3_press yX3_press, Cond.initialized RX3, Cond.code yX3_press cX3_press 4 (some .int), Cond.fieldLink RX3 10 "FrostPane" "now" "LFrostPane$Pane;", Cond.methodLink RX3 45 yX3_requireCell, Cond.instanceMethod yX3_requireCell, Cond.selects RX3 yX3_requireCell yX3_requireCell, Cond.code yX3_requireCell cX3_requireCell 3 none, Cond.classLink RX3 83 "java/lang/IndexOutOfBoundsException", Cond.initialized "java/lang/IndexOutOfBoundsException", Cond.methodLink RX3 228 yX1_hasCell, Cond.instanceMethod yX1_hasCell, Cond.selects RX1 yX1_hasCell yX1_hasCell, Cond.initialized RX1, Cond.code yX1_hasCell cX1_hasCell 3 (some .boolean), Cond.fieldLink RX1 21 "FrostPane$Pane" "columns" "I", Cond.methodLink RX1 56 yX1_hasRow, Cond.instanceMethod yX1_hasRow, Cond.selects RX1 yX1_hasRow yX1_hasRow, Cond.code yX1_hasRow cX1_hasRow 2 (some .boolean)]
def wsL_press_r2 : List Cond := [Cond.fieldLink RX1 25 "FrostPane$Pane" "rows" "I", Cond.methodLink RX3 41 yX3_requireWithin, Cond.static yX3_requireWithin, Cond.code yX3_requireWithin cX3_requireWithin 3 none, Cond.classLink RX3 233 "java/lang/IllegalArgumentException", Cond.initialized "java/lang/IllegalArgumentException", Cond.methodLink RX3 65 yX1_melt, Cond.instanceMethod yX1_melt, Cond.selects RX1 yX1_melt yX1_melt, Cond.code yX1_melt cX1_melt 6 (some .int), Cond.fieldLink RX1 18 "FrostPane$Pane" "melts" "[I", Cond.methodLink RX1 60 yX1_hasCell, Cond.methodLink RX1 64 yX1_hasFrost, Cond.instanceMethod yX1_hasFrost, Cond.selects RX1 yX1_hasFrost yX1_hasFrost, Cond.code yX1_hasFrost cX1_hasFrost 3 (some .boolean), Cond.methodLink RX1 49 yX1_bitsOf, Cond.instanceMethod yX1_bitsOf, Cond.selects RX1 yX1_bitsOf yX1_bitsOf, Cond.code yX1_bitsOf cX1_bitsOf 2 (some .int), Cond.fieldLink RX1 9 "FrostPane$Pane" "frost" "[I", Cond.methodLink RX1 67 yX1_flip, Cond.instanceMethod yX1_flip, Cond.selects RX1 yX1_flip yX1_flip]
def wsL_press_r3 : List Cond := [Cond.code yX1_flip cX1_flip 3 none]
def wsL_press : List Cond := .codeWith yL_press cL_press 6 (some .int) [(0, 12, 15, 19), (0, 12, 19, 13)] :: ((wsL_press_r1 ++ (wsL_press_r2 ++ wsL_press_r3)) ++ wsX30 ++ wsX10 ++ (vx_atS RX3 87 "java/lang/IndexOutOfBoundsException" ["java/lang/RuntimeException", "java/lang/Exception"]).filter goodWord ++ (vx_atS RX3 237 "java/lang/IllegalArgumentException" ["java/lang/RuntimeException", "java/lang/Exception"]).filter goodWord)
def wsL_setFrame : List Cond := .codeWith yL_setFrame cL_setFrame 4 (some .int) [(0, 9, 12, 13)] :: ([.classLink RL 13 "java/lang/IllegalArgumentException", .methodLink RL 27 yX3_setFrame, .instanceMethod yX3_setFrame, .selects RX3 yX3_setFrame yX3_setFrame, .initialized RX3, .code yX3_setFrame cX3_setFrame 3 (some .int), .fieldLink RX3 10 "FrostPane" "now" "LFrostPane$Pane;", .methodLink RX3 41 yX3_requireWithin, .static yX3_requireWithin, .code yX3_requireWithin cX3_requireWithin 3 none, .classLink RX3 233 "java/lang/IllegalArgumentException", .initialized "java/lang/IllegalArgumentException"] ++ wsX30 ++ wsX10 ++ (vx_atS RX3 237 "java/lang/IllegalArgumentException" ["java/lang/RuntimeException", "java/lang/Exception"]).filter goodWord)
def wsL_addRule_r1 : List Cond := [Cond.classLink RL 13 "java/lang/IllegalArgumentException", Cond.classLink RL 21 "java/lang/IllegalStateException", Cond.methodLink RL 31 yX3_addRule, Cond.instanceMethod yX3_addRule, Cond.selects RX3 yX3_addRule yX3_addRule, Cond.initialized RX3, Cond.code yX3_addRule cX3_addRule 3 (some .int), Cond.classLink RX3 51 "java/lang/IllegalStateException", Cond.initialized "java/lang/IllegalStateException", Cond.fieldLink RX3 29 "FrostPane" "book" "LFrostPane$RuleBook;", Cond.methodLink RX3 41 yX3_requireWithin, Cond.static yX3_requireWithin, Cond.code yX3_requireWithin cX3_requireWithin 3 none, Cond.classLink RX3 233 "java/lang/IllegalArgumentException", Cond.initialized "java/lang/IllegalArgumentException", Cond.methodLink RX3 73 yX2_isFull, Cond.instanceMethod yX2_isFull, Cond.selects RX2 yX2_isFull yX2_isFull, Cond.initialized RX2, Cond.code yX2_isFull cX2_isFull 1 (some .boolean), Cond.fieldLink RX2 18 "FrostPane$RuleBook" "count" "I", Cond.methodLink RX3 37 yX2_append, Cond.instanceMethod yX2_append, Cond.selects RX2 yX2_append yX2_append]
def wsL_addRule_r2 : List Cond := [Cond.code yX2_append cX2_append 4 (some .int), Cond.fieldLink RX2 9 "FrostPane$RuleBook" "freezes" "[I", Cond.fieldLink RX2 15 "FrostPane$RuleBook" "stays" "[I"]
def wsL_addRule : List Cond := .codeWith yL_addRule cL_addRule 5 (some .int) [(0, 10, 13, 13), (0, 10, 17, 21)] :: ((wsL_addRule_r1 ++ wsL_addRule_r2) ++ wsX30 ++ wsX20 ++ (vx_atS RX3 55 "java/lang/IllegalStateException" ["java/lang/RuntimeException", "java/lang/Exception"]).filter goodWord ++ (vx_atS RX3 237 "java/lang/IllegalArgumentException" ["java/lang/RuntimeException", "java/lang/Exception"]).filter goodWord)
def wsL_breathe : List Cond := .codeWith yL_breathe cL_breathe 4 (some .int) [(0, 9, 12, 19)] :: ([.classLink RL 19 "java/lang/IndexOutOfBoundsException", .methodLink RL 34 yX3_breathe, .instanceMethod yX3_breathe, .selects RX3 yX3_breathe yX3_breathe, .initialized RX3, .code yX3_breathe cX3_breathe 3 (some .int), .classLink RX3 83 "java/lang/IndexOutOfBoundsException", .initialized "java/lang/IndexOutOfBoundsException", .fieldLink RX3 29 "FrostPane" "book" "LFrostPane$RuleBook;", .fieldLink RX3 88 "FrostPane" "breath" "I", .methodLink RX3 79 yX2_has, .instanceMethod yX2_has, .selects RX2 yX2_has yX2_has, .initialized RX2, .code yX2_has cX2_has 2 (some .boolean), .fieldLink RX2 18 "FrostPane$RuleBook" "count" "I"] ++ wsX30 ++ wsX20 ++ (vx_atS RX3 87 "java/lang/IndexOutOfBoundsException" ["java/lang/RuntimeException", "java/lang/Exception"]).filter goodWord)
def wsL_grow_r1 : List Cond := [Cond.classLink RL 13 "java/lang/IllegalArgumentException", Cond.methodLink RL 37 yX3_grow, Cond.instanceMethod yX3_grow, Cond.selects RX3 yX3_grow yX3_grow, Cond.initialized RX3, Cond.code yX3_grow cX3_grow 3 (some .int), Cond.fieldLink RX3 10 "FrostPane" "now" "LFrostPane$Pane;", Cond.fieldLink RX3 29 "FrostPane" "book" "LFrostPane$RuleBook;", Cond.fieldLink RX3 88 "FrostPane" "breath" "I", Cond.fieldLink RX3 101 "FrostPane" "generation" "I", Cond.methodLink RX3 41 yX3_requireWithin, Cond.static yX3_requireWithin, Cond.code yX3_requireWithin cX3_requireWithin 3 none, Cond.classLink RX3 233 "java/lang/IllegalArgumentException", Cond.initialized "java/lang/IllegalArgumentException", Cond.methodLink RX3 91 yX2_freezesBy, Cond.instanceMethod yX2_freezesBy, Cond.selects RX2 yX2_freezesBy yX2_freezesBy, Cond.initialized RX2, Cond.code yX2_freezesBy cX2_freezesBy 2 (some .int), Cond.fieldLink RX2 9 "FrostPane$RuleBook" "freezes" "[I", Cond.methodLink RX2 22 yX2_has, Cond.instanceMethod yX2_has, Cond.selects RX2 yX2_has yX2_has]
def wsL_grow_r2 : List Cond := [Cond.code yX2_has cX2_has 2 (some .boolean), Cond.fieldLink RX2 18 "FrostPane$RuleBook" "count" "I", Cond.methodLink RX3 95 yX2_staysBy, Cond.instanceMethod yX2_staysBy, Cond.selects RX2 yX2_staysBy yX2_staysBy, Cond.code yX2_staysBy cX2_staysBy 2 (some .int), Cond.fieldLink RX2 15 "FrostPane$RuleBook" "stays" "[I", Cond.methodLink RX3 98 yX1_step, Cond.instanceMethod yX1_step, Cond.selects RX1 yX1_step yX1_step, Cond.initialized RX1, Cond.code yX1_step cX1_step 4 (some .boolean), Cond.fieldLink RX1 25 "FrostPane$Pane" "rows" "I", Cond.fieldLink RX1 15 "FrostPane$Pane" "frostNext" "[I", Cond.methodLink RX1 83 yX1_grownRow, Cond.instanceMethod yX1_grownRow, Cond.selects RX1 yX1_grownRow yX1_grownRow, Cond.code yX1_grownRow cX1_grownRow 11 (some .int), Cond.fieldLink RX1 21 "FrostPane$Pane" "columns" "I", Cond.methodLink RX1 76 yX1_framed, Cond.instanceMethod yX1_framed, Cond.selects RX1 yX1_framed yX1_framed, Cond.code yX1_framed cX1_framed 2 (some .int), Cond.fieldLink RX1 34 "FrostPane$Pane" "frame" "I"]
def wsL_grow_r3 : List Cond := [Cond.methodLink RX1 56 yX1_hasRow, Cond.instanceMethod yX1_hasRow, Cond.selects RX1 yX1_hasRow yX1_hasRow, Cond.code yX1_hasRow cX1_hasRow 2 (some .boolean), Cond.methodLink RX1 49 yX1_bitsOf, Cond.instanceMethod yX1_bitsOf, Cond.selects RX1 yX1_bitsOf yX1_bitsOf, Cond.code yX1_bitsOf cX1_bitsOf 2 (some .int), Cond.fieldLink RX1 9 "FrostPane$Pane" "frost" "[I", Cond.methodLink RX1 94 yX1_withSides, Cond.instanceMethod yX1_withSides, Cond.selects RX1 yX1_withSides yX1_withSides, Cond.code yX1_withSides cX1_withSides 4 (some .int), Cond.methodLink RX1 64 yX1_hasFrost, Cond.instanceMethod yX1_hasFrost, Cond.selects RX1 yX1_hasFrost yX1_hasFrost, Cond.code yX1_hasFrost cX1_hasFrost 3 (some .boolean), Cond.methodLink RX1 79 yX1_countIn, Cond.static yX1_countIn, Cond.code yX1_countIn cX1_countIn 4 (some .int), Cond.methodLink RX1 71 yJ6_bitCount_0f7a4, Cond.static yJ6_bitCount_0f7a4, Cond.initialized RJ6, Cond.code yJ6_bitCount_0f7a4 cJ6_bitCount_0f7a4 1 (some .int)]
def wsL_grow_r4 : List Cond := [Cond.constant RJ6 265 (1431655765), Cond.constant RJ6 266 (858993459), Cond.constant RJ6 267 (252645135), Cond.methodLink RX1 53 yX1_meltOf, Cond.instanceMethod yX1_meltOf, Cond.selects RX1 yX1_meltOf yX1_meltOf, Cond.code yX1_meltOf cX1_meltOf 4 (some .int), Cond.fieldLink RX1 18 "FrostPane$Pane" "melts" "[I", Cond.methodLink RX1 87 yX1_meltLess, Cond.instanceMethod yX1_meltLess, Cond.selects RX1 yX1_meltLess yX1_meltLess, Cond.code yX1_meltLess cX1_meltLess 2 none, Cond.methodLink RX1 90 yX1_takeNext, Cond.instanceMethod yX1_takeNext, Cond.selects RX1 yX1_takeNext yX1_takeNext, Cond.code yX1_takeNext cX1_takeNext 3 (some .boolean), Cond.methodLink RX3 104 yX1_countFrost, Cond.instanceMethod yX1_countFrost, Cond.selects RX1 yX1_countFrost yX1_countFrost, Cond.code yX1_countFrost cX1_countFrost 3 (some .int)]
def wsL_grow : List Cond := .codeWith yL_grow cL_grow 4 (some .int) [(0, 9, 12, 13)] :: ((wsL_grow_r1 ++ (wsL_grow_r2 ++ (wsL_grow_r3 ++ wsL_grow_r4))) ++ wsX30 ++ wsX20 ++ wsX10 ++ (vx_atS RX3 237 "java/lang/IllegalArgumentException" ["java/lang/RuntimeException", "java/lang/Exception"]).filter goodWord)
def wsL_isFrozen_r1 : List Cond := [Cond.classLink RL 19 "java/lang/IndexOutOfBoundsException", Cond.methodLink RL 40 yX3_isFrozen, Cond.instanceMethod yX3_isFrozen, Cond.selects RX3 yX3_isFrozen yX3_isFrozen, Cond.initialized RX3, Cond.code yX3_isFrozen cX3_isFrozen 3 (some .boolean), Cond.fieldLink RX3 10 "FrostPane" "now" "LFrostPane$Pane;", Cond.methodLink RX3 45 yX3_requireCell, Cond.instanceMethod yX3_requireCell, Cond.selects RX3 yX3_requireCell yX3_requireCell, Cond.code yX3_requireCell cX3_requireCell 3 none, Cond.classLink RX3 83 "java/lang/IndexOutOfBoundsException", Cond.initialized "java/lang/IndexOutOfBoundsException", Cond.methodLink RX3 228 yX1_hasCell, Cond.instanceMethod yX1_hasCell, Cond.selects RX1 yX1_hasCell yX1_hasCell, Cond.initialized RX1, Cond.code yX1_hasCell cX1_hasCell 3 (some .boolean), Cond.fieldLink RX1 21 "FrostPane$Pane" "columns" "I", Cond.methodLink RX1 56 yX1_hasRow, Cond.instanceMethod yX1_hasRow, Cond.selects RX1 yX1_hasRow yX1_hasRow, Cond.code yX1_hasRow cX1_hasRow 2 (some .boolean), Cond.fieldLink RX1 25 "FrostPane$Pane" "rows" "I"]
def wsL_isFrozen_r2 : List Cond := [Cond.methodLink RX3 61 yX1_hasFrost, Cond.instanceMethod yX1_hasFrost, Cond.selects RX1 yX1_hasFrost yX1_hasFrost, Cond.code yX1_hasFrost cX1_hasFrost 3 (some .boolean), Cond.methodLink RX1 49 yX1_bitsOf, Cond.instanceMethod yX1_bitsOf, Cond.selects RX1 yX1_bitsOf yX1_bitsOf, Cond.code yX1_bitsOf cX1_bitsOf 2 (some .int), Cond.fieldLink RX1 9 "FrostPane$Pane" "frost" "[I"]
def wsL_isFrozen : List Cond := .codeWith yL_isFrozen cL_isFrozen 5 (some .int) [(0, 17, 20, 19)] :: ((wsL_isFrozen_r1 ++ wsL_isFrozen_r2) ++ wsX30 ++ wsX10 ++ (vx_atS RX3 87 "java/lang/IndexOutOfBoundsException" ["java/lang/RuntimeException", "java/lang/Exception"]).filter goodWord)
def wsL_meltedFor_r1 : List Cond := [Cond.classLink RL 19 "java/lang/IndexOutOfBoundsException", Cond.methodLink RL 43 yX3_meltedFor, Cond.instanceMethod yX3_meltedFor, Cond.selects RX3 yX3_meltedFor yX3_meltedFor, Cond.initialized RX3, Cond.code yX3_meltedFor cX3_meltedFor 3 (some .int), Cond.fieldLink RX3 10 "FrostPane" "now" "LFrostPane$Pane;", Cond.methodLink RX3 45 yX3_requireCell, Cond.instanceMethod yX3_requireCell, Cond.selects RX3 yX3_requireCell yX3_requireCell, Cond.code yX3_requireCell cX3_requireCell 3 none, Cond.classLink RX3 83 "java/lang/IndexOutOfBoundsException", Cond.initialized "java/lang/IndexOutOfBoundsException", Cond.methodLink RX3 228 yX1_hasCell, Cond.instanceMethod yX1_hasCell, Cond.selects RX1 yX1_hasCell yX1_hasCell, Cond.initialized RX1, Cond.code yX1_hasCell cX1_hasCell 3 (some .boolean), Cond.fieldLink RX1 21 "FrostPane$Pane" "columns" "I", Cond.methodLink RX1 56 yX1_hasRow, Cond.instanceMethod yX1_hasRow, Cond.selects RX1 yX1_hasRow yX1_hasRow, Cond.code yX1_hasRow cX1_hasRow 2 (some .boolean), Cond.fieldLink RX1 25 "FrostPane$Pane" "rows" "I"]
def wsL_meltedFor_r2 : List Cond := [Cond.methodLink RX3 48 yX1_meltOf, Cond.instanceMethod yX1_meltOf, Cond.selects RX1 yX1_meltOf yX1_meltOf, Cond.code yX1_meltOf cX1_meltOf 4 (some .int), Cond.fieldLink RX1 18 "FrostPane$Pane" "melts" "[I"]
def wsL_meltedFor : List Cond := .codeWith yL_meltedFor cL_meltedFor 5 (some .int) [(0, 10, 13, 19)] :: ((wsL_meltedFor_r1 ++ wsL_meltedFor_r2) ++ wsX30 ++ wsX10 ++ (vx_atS RX3 87 "java/lang/IndexOutOfBoundsException" ["java/lang/RuntimeException", "java/lang/Exception"]).filter goodWord)
def wsL_around_r1 : List Cond := [Cond.classLink RL 19 "java/lang/IndexOutOfBoundsException", Cond.methodLink RL 46 yX3_around, Cond.instanceMethod yX3_around, Cond.selects RX3 yX3_around yX3_around, Cond.initialized RX3, Cond.code yX3_around cX3_around 3 (some .int), Cond.fieldLink RX3 10 "FrostPane" "now" "LFrostPane$Pane;", Cond.methodLink RX3 45 yX3_requireCell, Cond.instanceMethod yX3_requireCell, Cond.selects RX3 yX3_requireCell yX3_requireCell, Cond.code yX3_requireCell cX3_requireCell 3 none, Cond.classLink RX3 83 "java/lang/IndexOutOfBoundsException", Cond.initialized "java/lang/IndexOutOfBoundsException", Cond.methodLink RX3 228 yX1_hasCell, Cond.instanceMethod yX1_hasCell, Cond.selects RX1 yX1_hasCell yX1_hasCell, Cond.initialized RX1, Cond.code yX1_hasCell cX1_hasCell 3 (some .boolean), Cond.fieldLink RX1 21 "FrostPane$Pane" "columns" "I", Cond.methodLink RX1 56 yX1_hasRow, Cond.instanceMethod yX1_hasRow, Cond.selects RX1 yX1_hasRow yX1_hasRow, Cond.code yX1_hasRow cX1_hasRow 2 (some .boolean), Cond.fieldLink RX1 25 "FrostPane$Pane" "rows" "I"]
def wsL_around_r2 : List Cond := [Cond.methodLink RX3 120 yX1_countAround, Cond.instanceMethod yX1_countAround, Cond.selects RX1 yX1_countAround yX1_countAround, Cond.code yX1_countAround cX1_countAround 3 (some .int), Cond.methodLink RX1 76 yX1_framed, Cond.instanceMethod yX1_framed, Cond.selects RX1 yX1_framed yX1_framed, Cond.code yX1_framed cX1_framed 2 (some .int), Cond.fieldLink RX1 34 "FrostPane$Pane" "frame" "I", Cond.methodLink RX1 49 yX1_bitsOf, Cond.instanceMethod yX1_bitsOf, Cond.selects RX1 yX1_bitsOf yX1_bitsOf, Cond.code yX1_bitsOf cX1_bitsOf 2 (some .int), Cond.fieldLink RX1 9 "FrostPane$Pane" "frost" "[I", Cond.methodLink RX1 94 yX1_withSides, Cond.instanceMethod yX1_withSides, Cond.selects RX1 yX1_withSides yX1_withSides, Cond.code yX1_withSides cX1_withSides 4 (some .int), Cond.methodLink RX1 79 yX1_countIn, Cond.static yX1_countIn, Cond.code yX1_countIn cX1_countIn 4 (some .int), Cond.methodLink RX1 71 yJ6_bitCount_0f7a4, Cond.static yJ6_bitCount_0f7a4, Cond.initialized RJ6]
def wsL_around_r3 : List Cond := [Cond.code yJ6_bitCount_0f7a4 cJ6_bitCount_0f7a4 1 (some .int), Cond.constant RJ6 265 (1431655765), Cond.constant RJ6 266 (858993459), Cond.constant RJ6 267 (252645135)]
def wsL_around : List Cond := .codeWith yL_around cL_around 5 (some .int) [(0, 10, 13, 19)] :: ((wsL_around_r1 ++ (wsL_around_r2 ++ wsL_around_r3)) ++ wsX30 ++ wsX10 ++ (vx_atS RX3 87 "java/lang/IndexOutOfBoundsException" ["java/lang/RuntimeException", "java/lang/Exception"]).filter goodWord)
def wsL_willFreeze_r1 : List Cond := [Cond.classLink RL 19 "java/lang/IndexOutOfBoundsException", Cond.methodLink RL 49 yX3_willFreeze, Cond.instanceMethod yX3_willFreeze, Cond.selects RX3 yX3_willFreeze yX3_willFreeze, Cond.initialized RX3, Cond.code yX3_willFreeze cX3_willFreeze 3 (some .boolean), Cond.fieldLink RX3 10 "FrostPane" "now" "LFrostPane$Pane;", Cond.fieldLink RX3 29 "FrostPane" "book" "LFrostPane$RuleBook;", Cond.fieldLink RX3 88 "FrostPane" "breath" "I", Cond.methodLink RX3 45 yX3_requireCell, Cond.instanceMethod yX3_requireCell, Cond.selects RX3 yX3_requireCell yX3_requireCell, Cond.code yX3_requireCell cX3_requireCell 3 none, Cond.classLink RX3 83 "java/lang/IndexOutOfBoundsException", Cond.initialized "java/lang/IndexOutOfBoundsException", Cond.methodLink RX3 228 yX1_hasCell, Cond.instanceMethod yX1_hasCell, Cond.selects RX1 yX1_hasCell yX1_hasCell, Cond.initialized RX1, Cond.code yX1_hasCell cX1_hasCell 3 (some .boolean), Cond.fieldLink RX1 21 "FrostPane$Pane" "columns" "I", Cond.methodLink RX1 56 yX1_hasRow, Cond.instanceMethod yX1_hasRow, Cond.selects RX1 yX1_hasRow yX1_hasRow]
def wsL_willFreeze_r2 : List Cond := [Cond.code yX1_hasRow cX1_hasRow 2 (some .boolean), Cond.fieldLink RX1 25 "FrostPane$Pane" "rows" "I", Cond.methodLink RX3 91 yX2_freezesBy, Cond.instanceMethod yX2_freezesBy, Cond.selects RX2 yX2_freezesBy yX2_freezesBy, Cond.initialized RX2, Cond.code yX2_freezesBy cX2_freezesBy 2 (some .int), Cond.fieldLink RX2 9 "FrostPane$RuleBook" "freezes" "[I", Cond.methodLink RX2 22 yX2_has, Cond.instanceMethod yX2_has, Cond.selects RX2 yX2_has yX2_has, Cond.code yX2_has cX2_has 2 (some .boolean), Cond.fieldLink RX2 18 "FrostPane$RuleBook" "count" "I", Cond.methodLink RX3 95 yX2_staysBy, Cond.instanceMethod yX2_staysBy, Cond.selects RX2 yX2_staysBy yX2_staysBy, Cond.code yX2_staysBy cX2_staysBy 2 (some .int), Cond.fieldLink RX2 15 "FrostPane$RuleBook" "stays" "[I", Cond.methodLink RX3 123 yX1_isFrozenNext, Cond.instanceMethod yX1_isFrozenNext, Cond.selects RX1 yX1_isFrozenNext yX1_isFrozenNext, Cond.code yX1_isFrozenNext cX1_isFrozenNext 5 (some .boolean), Cond.methodLink RX1 83 yX1_grownRow, Cond.instanceMethod yX1_grownRow]
def wsL_willFreeze_r3 : List Cond := [Cond.selects RX1 yX1_grownRow yX1_grownRow, Cond.code yX1_grownRow cX1_grownRow 11 (some .int), Cond.methodLink RX1 76 yX1_framed, Cond.instanceMethod yX1_framed, Cond.selects RX1 yX1_framed yX1_framed, Cond.code yX1_framed cX1_framed 2 (some .int), Cond.fieldLink RX1 34 "FrostPane$Pane" "frame" "I", Cond.methodLink RX1 49 yX1_bitsOf, Cond.instanceMethod yX1_bitsOf, Cond.selects RX1 yX1_bitsOf yX1_bitsOf, Cond.code yX1_bitsOf cX1_bitsOf 2 (some .int), Cond.fieldLink RX1 9 "FrostPane$Pane" "frost" "[I", Cond.methodLink RX1 94 yX1_withSides, Cond.instanceMethod yX1_withSides, Cond.selects RX1 yX1_withSides yX1_withSides, Cond.code yX1_withSides cX1_withSides 4 (some .int), Cond.methodLink RX1 64 yX1_hasFrost, Cond.instanceMethod yX1_hasFrost, Cond.selects RX1 yX1_hasFrost yX1_hasFrost, Cond.code yX1_hasFrost cX1_hasFrost 3 (some .boolean), Cond.methodLink RX1 79 yX1_countIn, Cond.static yX1_countIn, Cond.code yX1_countIn cX1_countIn 4 (some .int), Cond.methodLink RX1 71 yJ6_bitCount_0f7a4]
def wsL_willFreeze_r4 : List Cond := [Cond.static yJ6_bitCount_0f7a4, Cond.initialized RJ6, Cond.code yJ6_bitCount_0f7a4 cJ6_bitCount_0f7a4 1 (some .int), Cond.constant RJ6 265 (1431655765), Cond.constant RJ6 266 (858993459), Cond.constant RJ6 267 (252645135), Cond.methodLink RX1 53 yX1_meltOf, Cond.instanceMethod yX1_meltOf, Cond.selects RX1 yX1_meltOf yX1_meltOf, Cond.code yX1_meltOf cX1_meltOf 4 (some .int), Cond.fieldLink RX1 18 "FrostPane$Pane" "melts" "[I"]
def wsL_willFreeze : List Cond := .codeWith yL_willFreeze cL_willFreeze 5 (some .int) [(0, 17, 20, 19)] :: ((wsL_willFreeze_r1 ++ (wsL_willFreeze_r2 ++ (wsL_willFreeze_r3 ++ wsL_willFreeze_r4))) ++ wsX30 ++ wsX10 ++ wsX20 ++ (vx_atS RX3 87 "java/lang/IndexOutOfBoundsException" ["java/lang/RuntimeException", "java/lang/Exception"]).filter goodWord)
def wsL_frozenInRow_r1 : List Cond := [Cond.classLink RL 19 "java/lang/IndexOutOfBoundsException", Cond.methodLink RL 52 yX3_frozenInRow, Cond.instanceMethod yX3_frozenInRow, Cond.selects RX3 yX3_frozenInRow yX3_frozenInRow, Cond.initialized RX3, Cond.code yX3_frozenInRow cX3_frozenInRow 2 (some .int), Cond.classLink RX3 83 "java/lang/IndexOutOfBoundsException", Cond.initialized "java/lang/IndexOutOfBoundsException", Cond.fieldLink RX3 10 "FrostPane" "now" "LFrostPane$Pane;", Cond.methodLink RX3 127 yX1_hasRow, Cond.instanceMethod yX1_hasRow, Cond.selects RX1 yX1_hasRow yX1_hasRow, Cond.initialized RX1, Cond.code yX1_hasRow cX1_hasRow 2 (some .boolean), Cond.fieldLink RX1 25 "FrostPane$Pane" "rows" "I", Cond.methodLink RX3 132 yX1_bitsOf, Cond.instanceMethod yX1_bitsOf, Cond.selects RX1 yX1_bitsOf yX1_bitsOf, Cond.code yX1_bitsOf cX1_bitsOf 2 (some .int), Cond.fieldLink RX1 9 "FrostPane$Pane" "frost" "[I", Cond.methodLink RX3 135 yJ6_bitCount_0f7a4, Cond.static yJ6_bitCount_0f7a4, Cond.initialized RJ6, Cond.code yJ6_bitCount_0f7a4 cJ6_bitCount_0f7a4 1 (some .int)]
def wsL_frozenInRow_r2 : List Cond := [Cond.constant RJ6 265 (1431655765), Cond.constant RJ6 266 (858993459), Cond.constant RJ6 267 (252645135)]
def wsL_frozenInRow : List Cond := .codeWith yL_frozenInRow cL_frozenInRow 4 (some .int) [(0, 9, 12, 19)] :: ((wsL_frozenInRow_r1 ++ wsL_frozenInRow_r2) ++ wsX30 ++ wsX10 ++ (vx_atS RX3 87 "java/lang/IndexOutOfBoundsException" ["java/lang/RuntimeException", "java/lang/Exception"]).filter goodWord)
def wsL_flowerAt_r1 : List Cond := [Cond.classLink RL 19 "java/lang/IndexOutOfBoundsException", Cond.methodLink RL 55 yX3_flowerAt, Cond.instanceMethod yX3_flowerAt, Cond.selects RX3 yX3_flowerAt yX3_flowerAt, Cond.initialized RX3, Cond.code yX3_flowerAt cX3_flowerAt 3 (some .int), Cond.fieldLink RX3 22 "FrostPane" "picker" "LFrostPane$FlowerPicker;", Cond.fieldLink RX3 10 "FrostPane" "now" "LFrostPane$Pane;", Cond.methodLink RX3 45 yX3_requireCell, Cond.instanceMethod yX3_requireCell, Cond.selects RX3 yX3_requireCell yX3_requireCell, Cond.code yX3_requireCell cX3_requireCell 3 none, Cond.classLink RX3 83 "java/lang/IndexOutOfBoundsException", Cond.initialized "java/lang/IndexOutOfBoundsException", Cond.methodLink RX3 228 yX1_hasCell, Cond.instanceMethod yX1_hasCell, Cond.selects RX1 yX1_hasCell yX1_hasCell, Cond.initialized RX1, Cond.code yX1_hasCell cX1_hasCell 3 (some .boolean), Cond.fieldLink RX1 21 "FrostPane$Pane" "columns" "I", Cond.methodLink RX1 56 yX1_hasRow, Cond.instanceMethod yX1_hasRow, Cond.selects RX1 yX1_hasRow yX1_hasRow, Cond.code yX1_hasRow cX1_hasRow 2 (some .boolean)]
def wsL_flowerAt_r2 : List Cond := [Cond.fieldLink RX1 25 "FrostPane$Pane" "rows" "I", Cond.methodLink RX3 140 yX0_spreadOut, Cond.instanceMethod yX0_spreadOut, Cond.selects RX0 yX0_spreadOut yX0_spreadOut, Cond.initialized RX0, Cond.code yX0_spreadOut cX0_spreadOut 3 none, Cond.fieldLink RX0 9 "FrostPane$FlowerPicker" "left" "[I", Cond.methodLink RX0 18 yX1_bitsOf, Cond.instanceMethod yX1_bitsOf, Cond.selects RX1 yX1_bitsOf yX1_bitsOf, Cond.code yX1_bitsOf cX1_bitsOf 2 (some .int), Cond.fieldLink RX1 9 "FrostPane$Pane" "frost" "[I", Cond.methodLink RX3 144 yX0_pick, Cond.instanceMethod yX0_pick, Cond.selects RX0 yX0_pick yX0_pick, Cond.code yX0_pick cX0_pick 4 (some .int), Cond.fieldLink RX0 15 "FrostPane$FlowerPicker" "flower" "[I", Cond.methodLink RX0 24 yJ7_fill_53178, Cond.static yJ7_fill_53178, Cond.initialized RJ7, Cond.code yJ7_fill_53178 cJ7_fill_53178 4 none, Cond.methodLink RX0 30 yX0_widen, Cond.instanceMethod yX0_widen, Cond.selects RX0 yX0_widen yX0_widen]
def wsL_flowerAt_r3 : List Cond := [Cond.code yX0_widen cX0_widen 5 (some .boolean), Cond.methodLink RX0 38 yX0_flowerIn, Cond.instanceMethod yX0_flowerIn, Cond.selects RX0 yX0_flowerIn yX0_flowerIn, Cond.code yX0_flowerIn cX0_flowerIn 2 (some .int), Cond.methodLink RX0 34 yX0_takeAway, Cond.instanceMethod yX0_takeAway, Cond.selects RX0 yX0_takeAway yX0_takeAway, Cond.code yX0_takeAway cX0_takeAway 3 (some .int), Cond.methodLink RX0 41 yJ6_bitCount_0f7a4, Cond.static yJ6_bitCount_0f7a4, Cond.initialized RJ6, Cond.code yJ6_bitCount_0f7a4 cJ6_bitCount_0f7a4 1 (some .int), Cond.constant RJ6 265 (1431655765), Cond.constant RJ6 266 (858993459), Cond.constant RJ6 267 (252645135)]
def wsL_flowerAt : List Cond := .codeWith yL_flowerAt cL_flowerAt 5 (some .int) [(0, 10, 13, 19)] :: ((wsL_flowerAt_r1 ++ (wsL_flowerAt_r2 ++ wsL_flowerAt_r3)) ++ wsX30 ++ wsX10 ++ wsX00 ++ (vx_atS RX3 87 "java/lang/IndexOutOfBoundsException" ["java/lang/RuntimeException", "java/lang/Exception"]).filter goodWord)
def wsL_frozenIn_r1 : List Cond := [Cond.classLink RL 13 "java/lang/IllegalArgumentException", Cond.methodLink RL 58 yX3_frozenIn, Cond.instanceMethod yX3_frozenIn, Cond.selects RX3 yX3_frozenIn yX3_frozenIn, Cond.initialized RX3, Cond.code yX3_frozenIn cX3_frozenIn 2 (some .int), Cond.fieldLink RX3 88 "FrostPane" "breath" "I", Cond.methodLink RX3 41 yX3_requireWithin, Cond.static yX3_requireWithin, Cond.code yX3_requireWithin cX3_requireWithin 3 none, Cond.classLink RX3 233 "java/lang/IllegalArgumentException", Cond.initialized "java/lang/IllegalArgumentException", Cond.methodLink RX3 152 yX3_frostBehind, Cond.instanceMethod yX3_frostBehind, Cond.selects RX3 yX3_frostBehind yX3_frostBehind, Cond.code yX3_frostBehind cX3_frostBehind 4 (some .int), Cond.fieldLink RX3 16 "FrostPane" "ahead" "LFrostPane$Pane;", Cond.fieldLink RX3 10 "FrostPane" "now" "LFrostPane$Pane;", Cond.fieldLink RX3 29 "FrostPane" "book" "LFrostPane$RuleBook;", Cond.methodLink RX3 155 yX1_becomeLike, Cond.instanceMethod yX1_becomeLike, Cond.selects RX1 yX1_becomeLike yX1_becomeLike, Cond.initialized RX1, Cond.code yX1_becomeLike cX1_becomeLike 2 none]
def wsL_frozenIn_r2 : List Cond := [Cond.fieldLink RX1 21 "FrostPane$Pane" "columns" "I", Cond.fieldLink RX1 25 "FrostPane$Pane" "rows" "I", Cond.fieldLink RX1 34 "FrostPane$Pane" "frame" "I", Cond.fieldLink RX1 9 "FrostPane$Pane" "frost" "[I", Cond.methodLink RX1 37 Lib.Math.min.name, Cond.static Lib.Math.min.name, Cond.initialized "java/lang/Math", Cond.code Lib.Math.min.name Lib.Math.min.code 2 (some .int), Cond.methodLink RX1 43 arraycopyName, Cond.native arraycopyName, Cond.static arraycopyName, Cond.initialized "java/lang/System", Cond.fieldLink RX1 18 "FrostPane$Pane" "melts" "[I", Cond.methodLink RX3 91 yX2_freezesBy, Cond.instanceMethod yX2_freezesBy, Cond.selects RX2 yX2_freezesBy yX2_freezesBy, Cond.initialized RX2, Cond.code yX2_freezesBy cX2_freezesBy 2 (some .int), Cond.fieldLink RX2 9 "FrostPane$RuleBook" "freezes" "[I", Cond.methodLink RX2 22 yX2_has, Cond.instanceMethod yX2_has, Cond.selects RX2 yX2_has yX2_has, Cond.code yX2_has cX2_has 2 (some .boolean), Cond.fieldLink RX2 18 "FrostPane$RuleBook" "count" "I"]
def wsL_frozenIn_r3 : List Cond := [Cond.methodLink RX3 95 yX2_staysBy, Cond.instanceMethod yX2_staysBy, Cond.selects RX2 yX2_staysBy yX2_staysBy, Cond.code yX2_staysBy cX2_staysBy 2 (some .int), Cond.fieldLink RX2 15 "FrostPane$RuleBook" "stays" "[I", Cond.methodLink RX3 98 yX1_step, Cond.instanceMethod yX1_step, Cond.selects RX1 yX1_step yX1_step, Cond.code yX1_step cX1_step 4 (some .boolean), Cond.fieldLink RX1 15 "FrostPane$Pane" "frostNext" "[I", Cond.methodLink RX1 83 yX1_grownRow, Cond.instanceMethod yX1_grownRow, Cond.selects RX1 yX1_grownRow yX1_grownRow, Cond.code yX1_grownRow cX1_grownRow 11 (some .int), Cond.methodLink RX1 76 yX1_framed, Cond.instanceMethod yX1_framed, Cond.selects RX1 yX1_framed yX1_framed, Cond.code yX1_framed cX1_framed 2 (some .int), Cond.methodLink RX1 56 yX1_hasRow, Cond.instanceMethod yX1_hasRow, Cond.selects RX1 yX1_hasRow yX1_hasRow, Cond.code yX1_hasRow cX1_hasRow 2 (some .boolean), Cond.methodLink RX1 49 yX1_bitsOf, Cond.instanceMethod yX1_bitsOf]
def wsL_frozenIn_r4 : List Cond := [Cond.selects RX1 yX1_bitsOf yX1_bitsOf, Cond.code yX1_bitsOf cX1_bitsOf 2 (some .int), Cond.methodLink RX1 94 yX1_withSides, Cond.instanceMethod yX1_withSides, Cond.selects RX1 yX1_withSides yX1_withSides, Cond.code yX1_withSides cX1_withSides 4 (some .int), Cond.methodLink RX1 64 yX1_hasFrost, Cond.instanceMethod yX1_hasFrost, Cond.selects RX1 yX1_hasFrost yX1_hasFrost, Cond.code yX1_hasFrost cX1_hasFrost 3 (some .boolean), Cond.methodLink RX1 79 yX1_countIn, Cond.static yX1_countIn, Cond.code yX1_countIn cX1_countIn 4 (some .int), Cond.methodLink RX1 71 yJ6_bitCount_0f7a4, Cond.static yJ6_bitCount_0f7a4, Cond.initialized RJ6, Cond.code yJ6_bitCount_0f7a4 cJ6_bitCount_0f7a4 1 (some .int), Cond.constant RJ6 265 (1431655765), Cond.constant RJ6 266 (858993459), Cond.constant RJ6 267 (252645135), Cond.methodLink RX1 53 yX1_meltOf, Cond.instanceMethod yX1_meltOf, Cond.selects RX1 yX1_meltOf yX1_meltOf, Cond.code yX1_meltOf cX1_meltOf 4 (some .int)]
def wsL_frozenIn_r5 : List Cond := [Cond.methodLink RX1 87 yX1_meltLess, Cond.instanceMethod yX1_meltLess, Cond.selects RX1 yX1_meltLess yX1_meltLess, Cond.code yX1_meltLess cX1_meltLess 2 none, Cond.methodLink RX1 90 yX1_takeNext, Cond.instanceMethod yX1_takeNext, Cond.selects RX1 yX1_takeNext yX1_takeNext, Cond.code yX1_takeNext cX1_takeNext 3 (some .boolean), Cond.methodLink RX3 104 yX1_countFrost, Cond.instanceMethod yX1_countFrost, Cond.selects RX1 yX1_countFrost yX1_countFrost, Cond.code yX1_countFrost cX1_countFrost 3 (some .int)]
def wsL_frozenIn : List Cond := .codeWith yL_frozenIn cL_frozenIn 4 (some .int) [(0, 9, 12, 13)] :: ((wsL_frozenIn_r1 ++ (wsL_frozenIn_r2 ++ (wsL_frozenIn_r3 ++ (wsL_frozenIn_r4 ++ wsL_frozenIn_r5)))) ++ wsX30 ++ wsX10 ++ wsX20 ++ (vx_atS RX3 237 "java/lang/IllegalArgumentException" ["java/lang/RuntimeException", "java/lang/Exception"]).filter goodWord)
def wsL_peakIn_r1 : List Cond := [Cond.classLink RL 13 "java/lang/IllegalArgumentException", Cond.methodLink RL 61 yX3_peakIn, Cond.instanceMethod yX3_peakIn, Cond.selects RX3 yX3_peakIn yX3_peakIn, Cond.initialized RX3, Cond.code yX3_peakIn cX3_peakIn 6 (some .int), Cond.fieldLink RX3 16 "FrostPane" "ahead" "LFrostPane$Pane;", Cond.fieldLink RX3 10 "FrostPane" "now" "LFrostPane$Pane;", Cond.fieldLink RX3 29 "FrostPane" "book" "LFrostPane$RuleBook;", Cond.fieldLink RX3 88 "FrostPane" "breath" "I", Cond.methodLink RX3 41 yX3_requireWithin, Cond.static yX3_requireWithin, Cond.code yX3_requireWithin cX3_requireWithin 3 none, Cond.classLink RX3 233 "java/lang/IllegalArgumentException", Cond.initialized "java/lang/IllegalArgumentException", Cond.methodLink RX3 155 yX1_becomeLike, Cond.instanceMethod yX1_becomeLike, Cond.selects RX1 yX1_becomeLike yX1_becomeLike, Cond.initialized RX1, Cond.code yX1_becomeLike cX1_becomeLike 2 none, Cond.fieldLink RX1 21 "FrostPane$Pane" "columns" "I", Cond.fieldLink RX1 25 "FrostPane$Pane" "rows" "I", Cond.fieldLink RX1 34 "FrostPane$Pane" "frame" "I", Cond.fieldLink RX1 9 "FrostPane$Pane" "frost" "[I"]
def wsL_peakIn_r2 : List Cond := [Cond.methodLink RX1 37 Lib.Math.min.name, Cond.static Lib.Math.min.name, Cond.initialized "java/lang/Math", Cond.code Lib.Math.min.name Lib.Math.min.code 2 (some .int), Cond.methodLink RX1 43 arraycopyName, Cond.native arraycopyName, Cond.static arraycopyName, Cond.initialized "java/lang/System", Cond.fieldLink RX1 18 "FrostPane$Pane" "melts" "[I", Cond.methodLink RX3 104 yX1_countFrost, Cond.instanceMethod yX1_countFrost, Cond.selects RX1 yX1_countFrost yX1_countFrost, Cond.code yX1_countFrost cX1_countFrost 3 (some .int), Cond.methodLink RX1 49 yX1_bitsOf, Cond.instanceMethod yX1_bitsOf, Cond.selects RX1 yX1_bitsOf yX1_bitsOf, Cond.code yX1_bitsOf cX1_bitsOf 2 (some .int), Cond.methodLink RX1 71 yJ6_bitCount_0f7a4, Cond.static yJ6_bitCount_0f7a4, Cond.initialized RJ6, Cond.code yJ6_bitCount_0f7a4 cJ6_bitCount_0f7a4 1 (some .int), Cond.constant RJ6 265 (1431655765), Cond.constant RJ6 266 (858993459), Cond.constant RJ6 267 (252645135)]
def wsL_peakIn_r3 : List Cond := [Cond.methodLink RX3 91 yX2_freezesBy, Cond.instanceMethod yX2_freezesBy, Cond.selects RX2 yX2_freezesBy yX2_freezesBy, Cond.initialized RX2, Cond.code yX2_freezesBy cX2_freezesBy 2 (some .int), Cond.fieldLink RX2 9 "FrostPane$RuleBook" "freezes" "[I", Cond.methodLink RX2 22 yX2_has, Cond.instanceMethod yX2_has, Cond.selects RX2 yX2_has yX2_has, Cond.code yX2_has cX2_has 2 (some .boolean), Cond.fieldLink RX2 18 "FrostPane$RuleBook" "count" "I", Cond.methodLink RX3 95 yX2_staysBy, Cond.instanceMethod yX2_staysBy, Cond.selects RX2 yX2_staysBy yX2_staysBy, Cond.code yX2_staysBy cX2_staysBy 2 (some .int), Cond.fieldLink RX2 15 "FrostPane$RuleBook" "stays" "[I", Cond.methodLink RX3 98 yX1_step, Cond.instanceMethod yX1_step, Cond.selects RX1 yX1_step yX1_step, Cond.code yX1_step cX1_step 4 (some .boolean), Cond.fieldLink RX1 15 "FrostPane$Pane" "frostNext" "[I", Cond.methodLink RX1 83 yX1_grownRow, Cond.instanceMethod yX1_grownRow, Cond.selects RX1 yX1_grownRow yX1_grownRow]
def wsL_peakIn_r4 : List Cond := [Cond.code yX1_grownRow cX1_grownRow 11 (some .int), Cond.methodLink RX1 76 yX1_framed, Cond.instanceMethod yX1_framed, Cond.selects RX1 yX1_framed yX1_framed, Cond.code yX1_framed cX1_framed 2 (some .int), Cond.methodLink RX1 56 yX1_hasRow, Cond.instanceMethod yX1_hasRow, Cond.selects RX1 yX1_hasRow yX1_hasRow, Cond.code yX1_hasRow cX1_hasRow 2 (some .boolean), Cond.methodLink RX1 94 yX1_withSides, Cond.instanceMethod yX1_withSides, Cond.selects RX1 yX1_withSides yX1_withSides, Cond.code yX1_withSides cX1_withSides 4 (some .int), Cond.methodLink RX1 64 yX1_hasFrost, Cond.instanceMethod yX1_hasFrost, Cond.selects RX1 yX1_hasFrost yX1_hasFrost, Cond.code yX1_hasFrost cX1_hasFrost 3 (some .boolean), Cond.methodLink RX1 79 yX1_countIn, Cond.static yX1_countIn, Cond.code yX1_countIn cX1_countIn 4 (some .int), Cond.methodLink RX1 53 yX1_meltOf, Cond.instanceMethod yX1_meltOf, Cond.selects RX1 yX1_meltOf yX1_meltOf, Cond.code yX1_meltOf cX1_meltOf 4 (some .int)]
def wsL_peakIn_r5 : List Cond := [Cond.methodLink RX1 87 yX1_meltLess, Cond.instanceMethod yX1_meltLess, Cond.selects RX1 yX1_meltLess yX1_meltLess, Cond.code yX1_meltLess cX1_meltLess 2 none, Cond.methodLink RX1 90 yX1_takeNext, Cond.instanceMethod yX1_takeNext, Cond.selects RX1 yX1_takeNext yX1_takeNext, Cond.code yX1_takeNext cX1_takeNext 3 (some .boolean)]
def wsL_peakIn : List Cond := .codeWith yL_peakIn cL_peakIn 4 (some .int) [(0, 9, 12, 13)] :: ((wsL_peakIn_r1 ++ (wsL_peakIn_r2 ++ (wsL_peakIn_r3 ++ (wsL_peakIn_r4 ++ wsL_peakIn_r5)))) ++ wsX30 ++ wsX10 ++ wsX20 ++ (vx_atS RX3 237 "java/lang/IllegalArgumentException" ["java/lang/RuntimeException", "java/lang/Exception"]).filter goodWord)
def wsL_bestBreath_r1 : List Cond := [Cond.classLink RL 13 "java/lang/IllegalArgumentException", Cond.methodLink RL 64 yX3_bestBreath, Cond.instanceMethod yX3_bestBreath, Cond.selects RX3 yX3_bestBreath yX3_bestBreath, Cond.initialized RX3, Cond.code yX3_bestBreath cX3_bestBreath 6 (some .int), Cond.fieldLink RX3 29 "FrostPane" "book" "LFrostPane$RuleBook;", Cond.methodLink RX3 41 yX3_requireWithin, Cond.static yX3_requireWithin, Cond.code yX3_requireWithin cX3_requireWithin 3 none, Cond.classLink RX3 233 "java/lang/IllegalArgumentException", Cond.initialized "java/lang/IllegalArgumentException", Cond.methodLink RX3 152 yX3_frostBehind, Cond.instanceMethod yX3_frostBehind, Cond.selects RX3 yX3_frostBehind yX3_frostBehind, Cond.code yX3_frostBehind cX3_frostBehind 4 (some .int), Cond.fieldLink RX3 16 "FrostPane" "ahead" "LFrostPane$Pane;", Cond.fieldLink RX3 10 "FrostPane" "now" "LFrostPane$Pane;", Cond.methodLink RX3 155 yX1_becomeLike, Cond.instanceMethod yX1_becomeLike, Cond.selects RX1 yX1_becomeLike yX1_becomeLike, Cond.initialized RX1, Cond.code yX1_becomeLike cX1_becomeLike 2 none, Cond.fieldLink RX1 21 "FrostPane$Pane" "columns" "I"]
def wsL_bestBreath_r2 : List Cond := [Cond.fieldLink RX1 25 "FrostPane$Pane" "rows" "I", Cond.fieldLink RX1 34 "FrostPane$Pane" "frame" "I", Cond.fieldLink RX1 9 "FrostPane$Pane" "frost" "[I", Cond.methodLink RX1 37 Lib.Math.min.name, Cond.static Lib.Math.min.name, Cond.initialized "java/lang/Math", Cond.code Lib.Math.min.name Lib.Math.min.code 2 (some .int), Cond.methodLink RX1 43 arraycopyName, Cond.native arraycopyName, Cond.static arraycopyName, Cond.initialized "java/lang/System", Cond.fieldLink RX1 18 "FrostPane$Pane" "melts" "[I", Cond.methodLink RX3 91 yX2_freezesBy, Cond.instanceMethod yX2_freezesBy, Cond.selects RX2 yX2_freezesBy yX2_freezesBy, Cond.initialized RX2, Cond.code yX2_freezesBy cX2_freezesBy 2 (some .int), Cond.fieldLink RX2 9 "FrostPane$RuleBook" "freezes" "[I", Cond.methodLink RX2 22 yX2_has, Cond.instanceMethod yX2_has, Cond.selects RX2 yX2_has yX2_has, Cond.code yX2_has cX2_has 2 (some .boolean), Cond.fieldLink RX2 18 "FrostPane$RuleBook" "count" "I", Cond.methodLink RX3 95 yX2_staysBy]
def wsL_bestBreath_r3 : List Cond := [Cond.instanceMethod yX2_staysBy, Cond.selects RX2 yX2_staysBy yX2_staysBy, Cond.code yX2_staysBy cX2_staysBy 2 (some .int), Cond.fieldLink RX2 15 "FrostPane$RuleBook" "stays" "[I", Cond.methodLink RX3 98 yX1_step, Cond.instanceMethod yX1_step, Cond.selects RX1 yX1_step yX1_step, Cond.code yX1_step cX1_step 4 (some .boolean), Cond.fieldLink RX1 15 "FrostPane$Pane" "frostNext" "[I", Cond.methodLink RX1 83 yX1_grownRow, Cond.instanceMethod yX1_grownRow, Cond.selects RX1 yX1_grownRow yX1_grownRow, Cond.code yX1_grownRow cX1_grownRow 11 (some .int), Cond.methodLink RX1 76 yX1_framed, Cond.instanceMethod yX1_framed, Cond.selects RX1 yX1_framed yX1_framed, Cond.code yX1_framed cX1_framed 2 (some .int), Cond.methodLink RX1 56 yX1_hasRow, Cond.instanceMethod yX1_hasRow, Cond.selects RX1 yX1_hasRow yX1_hasRow, Cond.code yX1_hasRow cX1_hasRow 2 (some .boolean), Cond.methodLink RX1 49 yX1_bitsOf, Cond.instanceMethod yX1_bitsOf, Cond.selects RX1 yX1_bitsOf yX1_bitsOf]
def wsL_bestBreath_r4 : List Cond := [Cond.code yX1_bitsOf cX1_bitsOf 2 (some .int), Cond.methodLink RX1 94 yX1_withSides, Cond.instanceMethod yX1_withSides, Cond.selects RX1 yX1_withSides yX1_withSides, Cond.code yX1_withSides cX1_withSides 4 (some .int), Cond.methodLink RX1 64 yX1_hasFrost, Cond.instanceMethod yX1_hasFrost, Cond.selects RX1 yX1_hasFrost yX1_hasFrost, Cond.code yX1_hasFrost cX1_hasFrost 3 (some .boolean), Cond.methodLink RX1 79 yX1_countIn, Cond.static yX1_countIn, Cond.code yX1_countIn cX1_countIn 4 (some .int), Cond.methodLink RX1 71 yJ6_bitCount_0f7a4, Cond.static yJ6_bitCount_0f7a4, Cond.initialized RJ6, Cond.code yJ6_bitCount_0f7a4 cJ6_bitCount_0f7a4 1 (some .int), Cond.constant RJ6 265 (1431655765), Cond.constant RJ6 266 (858993459), Cond.constant RJ6 267 (252645135), Cond.methodLink RX1 53 yX1_meltOf, Cond.instanceMethod yX1_meltOf, Cond.selects RX1 yX1_meltOf yX1_meltOf, Cond.code yX1_meltOf cX1_meltOf 4 (some .int), Cond.methodLink RX1 87 yX1_meltLess]
def wsL_bestBreath_r5 : List Cond := [Cond.instanceMethod yX1_meltLess, Cond.selects RX1 yX1_meltLess yX1_meltLess, Cond.code yX1_meltLess cX1_meltLess 2 none, Cond.methodLink RX1 90 yX1_takeNext, Cond.instanceMethod yX1_takeNext, Cond.selects RX1 yX1_takeNext yX1_takeNext, Cond.code yX1_takeNext cX1_takeNext 3 (some .boolean), Cond.methodLink RX3 104 yX1_countFrost, Cond.instanceMethod yX1_countFrost, Cond.selects RX1 yX1_countFrost yX1_countFrost, Cond.code yX1_countFrost cX1_countFrost 3 (some .int)]
def wsL_bestBreath : List Cond := .codeWith yL_bestBreath cL_bestBreath 4 (some .int) [(0, 9, 12, 13)] :: ((wsL_bestBreath_r1 ++ (wsL_bestBreath_r2 ++ (wsL_bestBreath_r3 ++ (wsL_bestBreath_r4 ++ wsL_bestBreath_r5)))) ++ wsX30 ++ wsX20 ++ wsX10 ++ (vx_atS RX3 237 "java/lang/IllegalArgumentException" ["java/lang/RuntimeException", "java/lang/Exception"]).filter goodWord)
def wsL_law0_r1 : List Cond := [Cond.classLink RL 8 RX3, Cond.instantiable RX3 6, Cond.initialized RX3, Cond.classLink RL 68 RX4, Cond.instantiable RX4 16, Cond.initialized RX4, Cond.arrayClass .long, Cond.methodLink RL 67 yX3_init, Cond.instanceMethod yX3_init, Cond.code yX3_init cX3_init 1 none, Cond.methodLink RX3 1 objectInit, Cond.instanceMethod objectInit, Cond.code objectInit ⟨#[0xb1]⟩ 1 none, Cond.classLink RX3 7 RX1, Cond.instantiable RX1 6, Cond.initialized RX1, Cond.fieldLink RX3 10 "FrostPane" "now" "LFrostPane$Pane;", Cond.fieldLink RX3 16 "FrostPane" "ahead" "LFrostPane$Pane;", Cond.classLink RX3 19 RX0, Cond.instantiable RX0 2, Cond.initialized RX0, Cond.fieldLink RX3 22 "FrostPane" "picker" "LFrostPane$FlowerPicker;", Cond.classLink RX3 26 RX2, Cond.instantiable RX2 3]
def wsL_law0_r2 : List Cond := [Cond.initialized RX2, Cond.fieldLink RX3 29 "FrostPane" "book" "LFrostPane$RuleBook;", Cond.instanceMethod yX1_init, Cond.code yX1_init cX1_init 1 none, Cond.methodLink RX1 3 objectInit, Cond.arrayClass .int, Cond.fieldLink RX1 9 "FrostPane$Pane" "frost" "[I", Cond.fieldLink RX1 15 "FrostPane$Pane" "frostNext" "[I", Cond.fieldLink RX1 18 "FrostPane$Pane" "melts" "[I", Cond.instanceMethod yX0_init, Cond.code yX0_init cX0_init 1 none, Cond.methodLink RX0 3 objectInit, Cond.fieldLink RX0 9 "FrostPane$FlowerPicker" "left" "[I", Cond.fieldLink RX0 15 "FrostPane$FlowerPicker" "flower" "[I", Cond.instanceMethod yX2_init, Cond.code yX2_init cX2_init 1 none, Cond.methodLink RX2 3 objectInit, Cond.fieldLink RX2 9 "FrostPane$RuleBook" "freezes" "[I", Cond.fieldLink RX2 15 "FrostPane$RuleBook" "stays" "[I", Cond.methodLink RX3 33 yX1_layClear, Cond.instanceMethod yX1_layClear, Cond.selects RX1 yX1_layClear yX1_layClear, Cond.code yX1_layClear cX1_layClear 3 none, Cond.fieldLink RX1 21 "FrostPane$Pane" "columns" "I"]
def wsL_law0_r3 : List Cond := [Cond.fieldLink RX1 25 "FrostPane$Pane" "rows" "I", Cond.methodLink RX1 28 yJ7_fill_53178, Cond.static yJ7_fill_53178, Cond.initialized RJ7, Cond.code yJ7_fill_53178 cJ7_fill_53178 4 none, Cond.methodLink RX3 37 yX2_append, Cond.instanceMethod yX2_append, Cond.selects RX2 yX2_append yX2_append, Cond.code yX2_append cX2_append 4 (some .int), Cond.fieldLink RX2 18 "FrostPane$RuleBook" "count" "I", Cond.methodLink RL 70 yX4_init, Cond.instanceMethod yX4_init, Cond.code yX4_init cX4_init 1 none, Cond.methodLink RX4 1 objectInit, Cond.fieldLink RX4 7 "FrostPaneModel" "columns" "I", Cond.fieldLink RX4 13 "FrostPaneModel" "rows" "I", Cond.fieldLink RX4 16 "FrostPaneModel" "frame" "I", Cond.fieldLink RX4 19 "FrostPaneModel" "rules" "I", Cond.fieldLink RX4 22 "FrostPaneModel" "freezes" "[I", Cond.fieldLink RX4 26 "FrostPaneModel" "stays" "[I", Cond.fieldLink RX4 29 "FrostPaneModel" "ice" "[I", Cond.fieldLink RX4 32 "FrostPaneModel" "melt" "[I", Cond.fieldLink RX4 35 "FrostPaneModel" "kept" "[I", Cond.fieldLink RX4 38 "FrostPaneModel" "keptMelt" "[I"]
def wsL_law0_r4 : List Cond := [Cond.fieldLink RX4 41 "FrostPaneModel" "next" "[I", Cond.fieldLink RX4 44 "FrostPaneModel" "sum" "[I", Cond.arrayClass .boolean, Cond.fieldLink RX4 47 "FrostPaneModel" "isSeen" "[Z", Cond.methodLink RL 71 yL_lay, Cond.static yL_lay, Cond.initialized RL, Cond.codeWith yL_lay cL_lay 5 (some .int) [(0, 10, 13, 13)], Cond.classLink RL 13 "java/lang/IllegalArgumentException", Cond.methodLink RL 7 yX3_lay, Cond.instanceMethod yX3_lay, Cond.selects RX3 yX3_lay yX3_lay, Cond.code yX3_lay cX3_lay 3 (some .int), Cond.methodLink RX3 41 yX3_requireWithin, Cond.static yX3_requireWithin, Cond.code yX3_requireWithin cX3_requireWithin 3 none, Cond.classLink RX3 233 "java/lang/IllegalArgumentException", Cond.initialized "java/lang/IllegalArgumentException", Cond.methodLink RL 76 yX4_lay, Cond.instanceMethod yX4_lay, Cond.selects RX4 yX4_lay yX4_lay, Cond.code yX4_lay cX4_lay 4 (some .int), Cond.fieldLink RX4 51 "FrostPaneModel" "thrown" "I", Cond.methodLink RX4 54 yX4_isIn]
def wsL_law0_r5 : List Cond := [Cond.static yX4_isIn, Cond.code yX4_isIn cX4_isIn 3 (some .boolean), Cond.methodLink RX4 103 yX4_no, Cond.instanceMethod yX4_no, Cond.selects RX4 yX4_no yX4_no, Cond.code yX4_no cX4_no 2 (some .int), Cond.methodLink RL 77 yX4_thrown, Cond.instanceMethod yX4_thrown, Cond.selects RX4 yX4_thrown yX4_thrown, Cond.code yX4_thrown cX4_thrown 1 (some .int), Cond.methodLink RL 81 yL_turn, Cond.static yL_turn, Cond.codeWith yL_turn cL_turn 5 (some .int) [(0, 17, 20, 19), (0, 17, 24, 21)], Cond.classLink RL 19 "java/lang/IndexOutOfBoundsException", Cond.classLink RL 21 "java/lang/IllegalStateException", Cond.methodLink RL 15 yX3_turn, Cond.instanceMethod yX3_turn, Cond.selects RX3 yX3_turn yX3_turn, Cond.code yX3_turn cX3_turn 3 (some .boolean), Cond.classLink RX3 51 "java/lang/IllegalStateException", Cond.initialized "java/lang/IllegalStateException", Cond.methodLink RX3 45 yX3_requireCell, Cond.instanceMethod yX3_requireCell, Cond.selects RX3 yX3_requireCell yX3_requireCell]
def wsL_law0_r6 : List Cond := [Cond.code yX3_requireCell cX3_requireCell 3 none, Cond.classLink RX3 83 "java/lang/IndexOutOfBoundsException", Cond.initialized "java/lang/IndexOutOfBoundsException", Cond.methodLink RX3 228 yX1_hasCell, Cond.instanceMethod yX1_hasCell, Cond.selects RX1 yX1_hasCell yX1_hasCell, Cond.code yX1_hasCell cX1_hasCell 3 (some .boolean), Cond.methodLink RX1 56 yX1_hasRow, Cond.instanceMethod yX1_hasRow, Cond.selects RX1 yX1_hasRow yX1_hasRow, Cond.code yX1_hasRow cX1_hasRow 2 (some .boolean), Cond.methodLink RX3 48 yX1_meltOf, Cond.instanceMethod yX1_meltOf, Cond.selects RX1 yX1_meltOf yX1_meltOf, Cond.code yX1_meltOf cX1_meltOf 4 (some .int), Cond.methodLink RX3 58 yX1_flip, Cond.instanceMethod yX1_flip, Cond.selects RX1 yX1_flip yX1_flip, Cond.code yX1_flip cX1_flip 3 none, Cond.methodLink RX1 60 yX1_hasCell, Cond.methodLink RX3 61 yX1_hasFrost, Cond.instanceMethod yX1_hasFrost, Cond.selects RX1 yX1_hasFrost yX1_hasFrost, Cond.code yX1_hasFrost cX1_hasFrost 3 (some .boolean)]
def wsL_law0_r7 : List Cond := [Cond.methodLink RX1 49 yX1_bitsOf, Cond.instanceMethod yX1_bitsOf, Cond.selects RX1 yX1_bitsOf yX1_bitsOf, Cond.code yX1_bitsOf cX1_bitsOf 2 (some .int), Cond.methodLink RL 83 yX4_turn, Cond.instanceMethod yX4_turn, Cond.selects RX4 yX4_turn yX4_turn, Cond.code yX4_turn cX4_turn 3 (some .boolean), Cond.methodLink RX4 106 yX4_isCell, Cond.instanceMethod yX4_isCell, Cond.selects RX4 yX4_isCell yX4_isCell, Cond.code yX4_isCell cX4_isCell 3 (some .boolean), Cond.methodLink RX4 109 yX4_isNot, Cond.instanceMethod yX4_isNot, Cond.selects RX4 yX4_isNot yX4_isNot, Cond.code yX4_isNot cX4_isNot 2 (some .boolean), Cond.methodLink RX4 73 yX4_is, Cond.instanceMethod yX4_is, Cond.selects RX4 yX4_is yX4_is, Cond.code yX4_is cX4_is 3 (some .boolean), Cond.methodLink RL 84 yL_press, Cond.static yL_press, Cond.codeWith yL_press cL_press 6 (some .int) [(0, 12, 15, 19), (0, 12, 19, 13)], Cond.methodLink RL 23 yX3_press]
def wsL_law0_r8 : List Cond := [Cond.instanceMethod yX3_press, Cond.selects RX3 yX3_press yX3_press, Cond.code yX3_press cX3_press 4 (some .int), Cond.methodLink RX3 65 yX1_melt, Cond.instanceMethod yX1_melt, Cond.selects RX1 yX1_melt yX1_melt, Cond.code yX1_melt cX1_melt 6 (some .int), Cond.methodLink RX1 64 yX1_hasFrost, Cond.methodLink RX1 67 yX1_flip, Cond.methodLink RL 87 yX4_press, Cond.instanceMethod yX4_press, Cond.selects RX4 yX4_press yX4_press, Cond.code yX4_press cX4_press 4 (some .int), Cond.methodLink RX4 113 yX4_melt, Cond.instanceMethod yX4_melt, Cond.selects RX4 yX4_melt yX4_melt, Cond.code yX4_melt cX4_melt 5 (some .int), Cond.methodLink RL 88 yL_setFrame, Cond.static yL_setFrame, Cond.codeWith yL_setFrame cL_setFrame 4 (some .int) [(0, 9, 12, 13)], Cond.methodLink RL 27 yX3_setFrame, Cond.instanceMethod yX3_setFrame, Cond.selects RX3 yX3_setFrame yX3_setFrame, Cond.code yX3_setFrame cX3_setFrame 3 (some .int)]
def wsL_law0_r9 : List Cond := [Cond.methodLink RL 91 yX4_setFrame, Cond.instanceMethod yX4_setFrame, Cond.selects RX4 yX4_setFrame yX4_setFrame, Cond.code yX4_setFrame cX4_setFrame 3 (some .int), Cond.methodLink RL 92 yL_addRule, Cond.static yL_addRule, Cond.codeWith yL_addRule cL_addRule 5 (some .int) [(0, 10, 13, 13), (0, 10, 17, 21)], Cond.methodLink RL 31 yX3_addRule, Cond.instanceMethod yX3_addRule, Cond.selects RX3 yX3_addRule yX3_addRule, Cond.code yX3_addRule cX3_addRule 3 (some .int), Cond.methodLink RX3 73 yX2_isFull, Cond.instanceMethod yX2_isFull, Cond.selects RX2 yX2_isFull yX2_isFull, Cond.code yX2_isFull cX2_isFull 1 (some .boolean), Cond.methodLink RL 94 yX4_addRule, Cond.instanceMethod yX4_addRule, Cond.selects RX4 yX4_addRule yX4_addRule, Cond.code yX4_addRule cX4_addRule 3 (some .int), Cond.methodLink RL 95 yL_breathe, Cond.static yL_breathe, Cond.codeWith yL_breathe cL_breathe 4 (some .int) [(0, 9, 12, 19)], Cond.methodLink RL 34 yX3_breathe, Cond.instanceMethod yX3_breathe]
def wsL_law0_r10 : List Cond := [Cond.selects RX3 yX3_breathe yX3_breathe, Cond.code yX3_breathe cX3_breathe 3 (some .int), Cond.fieldLink RX3 88 "FrostPane" "breath" "I", Cond.methodLink RX3 79 yX2_has, Cond.instanceMethod yX2_has, Cond.selects RX2 yX2_has yX2_has, Cond.code yX2_has cX2_has 2 (some .boolean), Cond.methodLink RL 97 yX4_breathe, Cond.instanceMethod yX4_breathe, Cond.selects RX4 yX4_breathe yX4_breathe, Cond.code yX4_breathe cX4_breathe 3 (some .int), Cond.fieldLink RX4 77 "FrostPaneModel" "breath" "I", Cond.methodLink RL 98 yL_grow, Cond.static yL_grow, Cond.codeWith yL_grow cL_grow 4 (some .int) [(0, 9, 12, 13)], Cond.methodLink RL 37 yX3_grow, Cond.instanceMethod yX3_grow, Cond.selects RX3 yX3_grow yX3_grow, Cond.code yX3_grow cX3_grow 3 (some .int), Cond.fieldLink RX3 101 "FrostPane" "generation" "I", Cond.methodLink RX3 91 yX2_freezesBy, Cond.instanceMethod yX2_freezesBy, Cond.selects RX2 yX2_freezesBy yX2_freezesBy, Cond.code yX2_freezesBy cX2_freezesBy 2 (some .int)]
def wsL_law0_r11 : List Cond := [Cond.methodLink RX2 22 yX2_has, Cond.methodLink RX3 95 yX2_staysBy, Cond.instanceMethod yX2_staysBy, Cond.selects RX2 yX2_staysBy yX2_staysBy, Cond.code yX2_staysBy cX2_staysBy 2 (some .int), Cond.methodLink RX3 98 yX1_step, Cond.instanceMethod yX1_step, Cond.selects RX1 yX1_step yX1_step, Cond.code yX1_step cX1_step 4 (some .boolean), Cond.methodLink RX1 83 yX1_grownRow, Cond.instanceMethod yX1_grownRow, Cond.selects RX1 yX1_grownRow yX1_grownRow, Cond.code yX1_grownRow cX1_grownRow 11 (some .int), Cond.methodLink RX1 76 yX1_framed, Cond.instanceMethod yX1_framed, Cond.selects RX1 yX1_framed yX1_framed, Cond.code yX1_framed cX1_framed 2 (some .int), Cond.fieldLink RX1 34 "FrostPane$Pane" "frame" "I", Cond.methodLink RX1 94 yX1_withSides, Cond.instanceMethod yX1_withSides, Cond.selects RX1 yX1_withSides yX1_withSides, Cond.code yX1_withSides cX1_withSides 4 (some .int), Cond.methodLink RX1 79 yX1_countIn, Cond.static yX1_countIn]
def wsL_law0_r12 : List Cond := [Cond.code yX1_countIn cX1_countIn 4 (some .int), Cond.methodLink RX1 71 yJ6_bitCount_0f7a4, Cond.static yJ6_bitCount_0f7a4, Cond.initialized RJ6, Cond.code yJ6_bitCount_0f7a4 cJ6_bitCount_0f7a4 1 (some .int), Cond.constant RJ6 265 (1431655765), Cond.constant RJ6 266 (858993459), Cond.constant RJ6 267 (252645135), Cond.methodLink RX1 53 yX1_meltOf, Cond.methodLink RX1 87 yX1_meltLess, Cond.instanceMethod yX1_meltLess, Cond.selects RX1 yX1_meltLess yX1_meltLess, Cond.code yX1_meltLess cX1_meltLess 2 none, Cond.methodLink RX1 90 yX1_takeNext, Cond.instanceMethod yX1_takeNext, Cond.selects RX1 yX1_takeNext yX1_takeNext, Cond.code yX1_takeNext cX1_takeNext 3 (some .boolean), Cond.methodLink RX3 104 yX1_countFrost, Cond.instanceMethod yX1_countFrost, Cond.selects RX1 yX1_countFrost yX1_countFrost, Cond.code yX1_countFrost cX1_countFrost 3 (some .int), Cond.methodLink RL 100 yX4_grow, Cond.instanceMethod yX4_grow, Cond.selects RX4 yX4_grow yX4_grow]
def wsL_law0_r13 : List Cond := [Cond.code yX4_grow cX4_grow 3 (some .int), Cond.fieldLink RX4 119 "FrostPaneModel" "generation" "I", Cond.methodLink RX4 116 yX4_growOn, Cond.instanceMethod yX4_growOn, Cond.selects RX4 yX4_growOn yX4_growOn, Cond.code yX4_growOn cX4_growOn 2 none, Cond.methodLink RX4 86 arraycopyName, Cond.native arraycopyName, Cond.static arraycopyName, Cond.initialized "java/lang/System", Cond.methodLink RX4 92 Lib.Math.max.name, Cond.static Lib.Math.max.name, Cond.initialized "java/lang/Math", Cond.code Lib.Math.max.name Lib.Math.max.code 2 (some .int), Cond.methodLink RX4 83 yX4_grown, Cond.instanceMethod yX4_grown, Cond.selects RX4 yX4_grown yX4_grown, Cond.code yX4_grown cX4_grown 6 (some .int), Cond.methodLink RX4 70 yX4_count, Cond.instanceMethod yX4_count, Cond.selects RX4 yX4_count yX4_count, Cond.code yX4_count cX4_count 4 none, Cond.methodLink RX4 58 yX4_wide, Cond.instanceMethod yX4_wide]
def wsL_law0_r14 : List Cond := [Cond.selects RX4 yX4_wide yX4_wide, Cond.code yX4_wide cX4_wide 5 (some .int), Cond.methodLink RX4 62 yX4_full, Cond.instanceMethod yX4_full, Cond.selects RX4 yX4_full yX4_full, Cond.code yX4_full cX4_full 1 (some .int), Cond.methodLink RX4 66 yX4_add, Cond.instanceMethod yX4_add, Cond.selects RX4 yX4_add yX4_add, Cond.code yX4_add cX4_add 5 none, Cond.methodLink RX4 80 yX4_counted, Cond.instanceMethod yX4_counted, Cond.selects RX4 yX4_counted yX4_counted, Cond.code yX4_counted cX4_counted 4 (some .int), Cond.methodLink RX4 122 yX4_all, Cond.instanceMethod yX4_all, Cond.selects RX4 yX4_all yX4_all, Cond.code yX4_all cX4_all 3 (some .int), Cond.methodLink RX4 98 yJ6_bitCount_0f7a4, Cond.methodLink RL 101 yX3_columns, Cond.instanceMethod yX3_columns, Cond.selects RX3 yX3_columns yX3_columns, Cond.code yX3_columns cX3_columns 1 (some .int), Cond.methodLink RL 104 yX4_columns]
def wsL_law0_r15 : List Cond := [Cond.instanceMethod yX4_columns, Cond.selects RX4 yX4_columns yX4_columns, Cond.code yX4_columns cX4_columns 1 (some .int), Cond.methodLink RX4 125 yX4_ok, Cond.instanceMethod yX4_ok, Cond.selects RX4 yX4_ok yX4_ok, Cond.code yX4_ok cX4_ok 2 (some .int), Cond.methodLink RL 105 yX3_rows, Cond.instanceMethod yX3_rows, Cond.selects RX3 yX3_rows yX3_rows, Cond.code yX3_rows cX3_rows 1 (some .int), Cond.methodLink RL 108 yX4_rows, Cond.instanceMethod yX4_rows, Cond.selects RX4 yX4_rows yX4_rows, Cond.code yX4_rows cX4_rows 1 (some .int), Cond.methodLink RL 109 yX3_generation, Cond.instanceMethod yX3_generation, Cond.selects RX3 yX3_generation yX3_generation, Cond.code yX3_generation cX3_generation 1 (some .int), Cond.methodLink RL 112 yX4_generation, Cond.instanceMethod yX4_generation, Cond.selects RX4 yX4_generation yX4_generation, Cond.code yX4_generation cX4_generation 1 (some .int), Cond.methodLink RL 113 yX3_rules]
def wsL_law0_r16 : List Cond := [Cond.instanceMethod yX3_rules, Cond.selects RX3 yX3_rules yX3_rules, Cond.code yX3_rules cX3_rules 1 (some .int), Cond.methodLink RL 116 yX4_rules, Cond.instanceMethod yX4_rules, Cond.selects RX4 yX4_rules yX4_rules, Cond.code yX4_rules cX4_rules 1 (some .int), Cond.methodLink RL 117 yX3_breath, Cond.instanceMethod yX3_breath, Cond.selects RX3 yX3_breath yX3_breath, Cond.code yX3_breath cX3_breath 1 (some .int), Cond.methodLink RL 120 yX4_breath, Cond.instanceMethod yX4_breath, Cond.selects RX4 yX4_breath yX4_breath, Cond.code yX4_breath cX4_breath 1 (some .int), Cond.methodLink RL 121 yX3_frozen, Cond.instanceMethod yX3_frozen, Cond.selects RX3 yX3_frozen yX3_frozen, Cond.code yX3_frozen cX3_frozen 1 (some .int), Cond.methodLink RL 124 yX4_frozen, Cond.instanceMethod yX4_frozen, Cond.selects RX4 yX4_frozen yX4_frozen, Cond.code yX4_frozen cX4_frozen 1 (some .int), Cond.methodLink RL 125 yX3_melted]
def wsL_law0_r17 : List Cond := [Cond.instanceMethod yX3_melted, Cond.selects RX3 yX3_melted yX3_melted, Cond.code yX3_melted cX3_melted 1 (some .int), Cond.methodLink RX3 117 yX1_countMelted, Cond.instanceMethod yX1_countMelted, Cond.selects RX1 yX1_countMelted yX1_countMelted, Cond.code yX1_countMelted cX1_countMelted 3 (some .int), Cond.methodLink RL 128 yX4_melted, Cond.instanceMethod yX4_melted, Cond.selects RX4 yX4_melted yX4_melted, Cond.code yX4_melted cX4_melted 1 (some .int), Cond.methodLink RX4 128 yX4_manyMelted, Cond.instanceMethod yX4_manyMelted, Cond.selects RX4 yX4_manyMelted yX4_manyMelted, Cond.code yX4_manyMelted cX4_manyMelted 3 (some .int), Cond.methodLink RL 129 yL_isFrozen, Cond.static yL_isFrozen, Cond.codeWith yL_isFrozen cL_isFrozen 5 (some .int) [(0, 17, 20, 19)], Cond.methodLink RL 40 yX3_isFrozen, Cond.instanceMethod yX3_isFrozen, Cond.selects RX3 yX3_isFrozen yX3_isFrozen, Cond.code yX3_isFrozen cX3_isFrozen 3 (some .boolean), Cond.methodLink RL 131 yX4_isFrozen, Cond.instanceMethod yX4_isFrozen]
def wsL_law0_r18 : List Cond := [Cond.selects RX4 yX4_isFrozen yX4_isFrozen, Cond.code yX4_isFrozen cX4_isFrozen 3 (some .boolean), Cond.methodLink RL 132 yL_meltedFor, Cond.static yL_meltedFor, Cond.codeWith yL_meltedFor cL_meltedFor 5 (some .int) [(0, 10, 13, 19)], Cond.methodLink RL 43 yX3_meltedFor, Cond.instanceMethod yX3_meltedFor, Cond.selects RX3 yX3_meltedFor yX3_meltedFor, Cond.code yX3_meltedFor cX3_meltedFor 3 (some .int), Cond.methodLink RL 134 yX4_meltedFor, Cond.instanceMethod yX4_meltedFor, Cond.selects RX4 yX4_meltedFor yX4_meltedFor, Cond.code yX4_meltedFor cX4_meltedFor 3 (some .int), Cond.methodLink RL 135 yL_around, Cond.static yL_around, Cond.codeWith yL_around cL_around 5 (some .int) [(0, 10, 13, 19)], Cond.methodLink RL 46 yX3_around, Cond.instanceMethod yX3_around, Cond.selects RX3 yX3_around yX3_around, Cond.code yX3_around cX3_around 3 (some .int), Cond.methodLink RX3 120 yX1_countAround, Cond.instanceMethod yX1_countAround, Cond.selects RX1 yX1_countAround yX1_countAround, Cond.code yX1_countAround cX1_countAround 3 (some .int)]
def wsL_law0_r19 : List Cond := [Cond.methodLink RL 137 yX4_around, Cond.instanceMethod yX4_around, Cond.selects RX4 yX4_around yX4_around, Cond.code yX4_around cX4_around 3 (some .int), Cond.methodLink RL 138 yL_willFreeze, Cond.static yL_willFreeze, Cond.codeWith yL_willFreeze cL_willFreeze 5 (some .int) [(0, 17, 20, 19)], Cond.methodLink RL 49 yX3_willFreeze, Cond.instanceMethod yX3_willFreeze, Cond.selects RX3 yX3_willFreeze yX3_willFreeze, Cond.code yX3_willFreeze cX3_willFreeze 3 (some .boolean), Cond.methodLink RX3 123 yX1_isFrozenNext, Cond.instanceMethod yX1_isFrozenNext, Cond.selects RX1 yX1_isFrozenNext yX1_isFrozenNext, Cond.code yX1_isFrozenNext cX1_isFrozenNext 5 (some .boolean), Cond.methodLink RL 140 yX4_willFreeze, Cond.instanceMethod yX4_willFreeze, Cond.selects RX4 yX4_willFreeze yX4_willFreeze, Cond.code yX4_willFreeze cX4_willFreeze 3 (some .boolean), Cond.methodLink RL 141 yL_frozenInRow, Cond.static yL_frozenInRow, Cond.codeWith yL_frozenInRow cL_frozenInRow 4 (some .int) [(0, 9, 12, 19)], Cond.methodLink RL 52 yX3_frozenInRow, Cond.instanceMethod yX3_frozenInRow]
def wsL_law0_r20 : List Cond := [Cond.selects RX3 yX3_frozenInRow yX3_frozenInRow, Cond.code yX3_frozenInRow cX3_frozenInRow 2 (some .int), Cond.methodLink RX3 127 yX1_hasRow, Cond.methodLink RX3 132 yX1_bitsOf, Cond.methodLink RX3 135 yJ6_bitCount_0f7a4, Cond.methodLink RL 143 yX4_frozenInRow, Cond.instanceMethod yX4_frozenInRow, Cond.selects RX4 yX4_frozenInRow yX4_frozenInRow, Cond.code yX4_frozenInRow cX4_frozenInRow 2 (some .int), Cond.methodLink RL 144 yX3_flowers, Cond.instanceMethod yX3_flowers, Cond.selects RX3 yX3_flowers yX3_flowers, Cond.code yX3_flowers cX3_flowers 4 (some .int), Cond.methodLink RX3 140 yX0_spreadOut, Cond.instanceMethod yX0_spreadOut, Cond.selects RX0 yX0_spreadOut yX0_spreadOut, Cond.code yX0_spreadOut cX0_spreadOut 3 none, Cond.methodLink RX0 18 yX1_bitsOf, Cond.methodLink RX3 144 yX0_pick, Cond.instanceMethod yX0_pick, Cond.selects RX0 yX0_pick yX0_pick, Cond.code yX0_pick cX0_pick 4 (some .int), Cond.methodLink RX0 24 yJ7_fill_53178, Cond.methodLink RX0 30 yX0_widen]
def wsL_law0_r21 : List Cond := [Cond.instanceMethod yX0_widen, Cond.selects RX0 yX0_widen yX0_widen, Cond.code yX0_widen cX0_widen 5 (some .boolean), Cond.methodLink RX0 38 yX0_flowerIn, Cond.instanceMethod yX0_flowerIn, Cond.selects RX0 yX0_flowerIn yX0_flowerIn, Cond.code yX0_flowerIn cX0_flowerIn 2 (some .int), Cond.methodLink RX0 34 yX0_takeAway, Cond.instanceMethod yX0_takeAway, Cond.selects RX0 yX0_takeAway yX0_takeAway, Cond.code yX0_takeAway cX0_takeAway 3 (some .int), Cond.methodLink RX0 41 yJ6_bitCount_0f7a4, Cond.methodLink RL 147 yX4_flowers_, Cond.instanceMethod yX4_flowers_, Cond.selects RX4 yX4_flowers_ yX4_flowers_, Cond.code yX4_flowers_ cX4_flowers_ 1 (some .int), Cond.methodLink RX4 134 yX4_flowers, Cond.instanceMethod yX4_flowers, Cond.selects RX4 yX4_flowers yX4_flowers, Cond.code yX4_flowers cX4_flowers 8 (some .int), Cond.methodLink RX4 131 yX4_spread, Cond.instanceMethod yX4_spread, Cond.selects RX4 yX4_spread yX4_spread, Cond.code yX4_spread cX4_spread 6 (some .int)]
def wsL_law0_r22 : List Cond := [Cond.methodLink RL 148 yX3_largestFlower, Cond.instanceMethod yX3_largestFlower, Cond.selects RX3 yX3_largestFlower yX3_largestFlower, Cond.code yX3_largestFlower cX3_largestFlower 4 (some .int), Cond.methodLink RX3 147 Lib.Math.max.name, Cond.methodLink RL 151 yX4_largestFlower, Cond.instanceMethod yX4_largestFlower, Cond.selects RX4 yX4_largestFlower yX4_largestFlower, Cond.code yX4_largestFlower cX4_largestFlower 1 (some .int), Cond.methodLink RL 152 yL_flowerAt, Cond.static yL_flowerAt, Cond.codeWith yL_flowerAt cL_flowerAt 5 (some .int) [(0, 10, 13, 19)], Cond.methodLink RL 55 yX3_flowerAt, Cond.instanceMethod yX3_flowerAt, Cond.selects RX3 yX3_flowerAt yX3_flowerAt, Cond.code yX3_flowerAt cX3_flowerAt 3 (some .int), Cond.methodLink RL 154 yX4_flowerAt, Cond.instanceMethod yX4_flowerAt, Cond.selects RX4 yX4_flowerAt yX4_flowerAt, Cond.code yX4_flowerAt cX4_flowerAt 3 (some .int), Cond.methodLink RL 155 yX3_isMirrored, Cond.instanceMethod yX3_isMirrored, Cond.selects RX3 yX3_isMirrored yX3_isMirrored, Cond.code yX3_isMirrored cX3_isMirrored 3 (some .boolean)]
def wsL_law0_r23 : List Cond := [Cond.methodLink RL 159 yX4_isMirrored, Cond.instanceMethod yX4_isMirrored, Cond.selects RX4 yX4_isMirrored yX4_isMirrored, Cond.code yX4_isMirrored cX4_isMirrored 1 (some .boolean), Cond.methodLink RX4 138 yX4_mirrored, Cond.instanceMethod yX4_mirrored, Cond.selects RX4 yX4_mirrored yX4_mirrored, Cond.code yX4_mirrored cX4_mirrored 3 (some .boolean), Cond.methodLink RL 160 yL_frozenIn, Cond.static yL_frozenIn, Cond.codeWith yL_frozenIn cL_frozenIn 4 (some .int) [(0, 9, 12, 13)], Cond.methodLink RL 58 yX3_frozenIn, Cond.instanceMethod yX3_frozenIn, Cond.selects RX3 yX3_frozenIn yX3_frozenIn, Cond.code yX3_frozenIn cX3_frozenIn 2 (some .int), Cond.methodLink RX3 152 yX3_frostBehind, Cond.instanceMethod yX3_frostBehind, Cond.selects RX3 yX3_frostBehind yX3_frostBehind, Cond.code yX3_frostBehind cX3_frostBehind 4 (some .int), Cond.methodLink RX3 155 yX1_becomeLike, Cond.instanceMethod yX1_becomeLike, Cond.selects RX1 yX1_becomeLike yX1_becomeLike, Cond.code yX1_becomeLike cX1_becomeLike 2 none, Cond.methodLink RX1 37 Lib.Math.min.name]
def wsL_law0_r24 : List Cond := [Cond.static Lib.Math.min.name, Cond.code Lib.Math.min.name Lib.Math.min.code 2 (some .int), Cond.methodLink RX1 43 arraycopyName, Cond.methodLink RL 162 yX4_frozenIn, Cond.instanceMethod yX4_frozenIn, Cond.selects RX4 yX4_frozenIn yX4_frozenIn, Cond.code yX4_frozenIn cX4_frozenIn 2 (some .int), Cond.methodLink RX4 148 yX4_behind, Cond.instanceMethod yX4_behind, Cond.selects RX4 yX4_behind yX4_behind, Cond.code yX4_behind cX4_behind 3 (some .int), Cond.methodLink RX4 142 yX4_keep, Cond.instanceMethod yX4_keep, Cond.selects RX4 yX4_keep yX4_keep, Cond.code yX4_keep cX4_keep 1 none, Cond.methodLink RX4 145 yX4_bringBack, Cond.instanceMethod yX4_bringBack, Cond.selects RX4 yX4_bringBack yX4_bringBack, Cond.code yX4_bringBack cX4_bringBack 1 none, Cond.methodLink RL 163 yX3_comesAgainIn, Cond.instanceMethod yX3_comesAgainIn, Cond.selects RX3 yX3_comesAgainIn yX3_comesAgainIn, Cond.code yX3_comesAgainIn cX3_comesAgainIn 2 (some .int), Cond.methodLink RX3 158 yX1_isLike]
def wsL_law0_r25 : List Cond := [Cond.instanceMethod yX1_isLike, Cond.selects RX1 yX1_isLike yX1_isLike, Cond.code yX1_isLike cX1_isLike 4 (some .boolean), Cond.methodLink RL 166 yX4_comesAgainIn, Cond.instanceMethod yX4_comesAgainIn, Cond.selects RX4 yX4_comesAgainIn yX4_comesAgainIn, Cond.code yX4_comesAgainIn cX4_comesAgainIn 1 (some .int), Cond.methodLink RX4 154 yX4_again, Cond.instanceMethod yX4_again, Cond.selects RX4 yX4_again yX4_again, Cond.code yX4_again cX4_again 3 (some .int), Cond.methodLink RX4 151 yX4_isAsKept, Cond.instanceMethod yX4_isAsKept, Cond.selects RX4 yX4_isAsKept yX4_isAsKept, Cond.code yX4_isAsKept cX4_isAsKept 2 (some .boolean), Cond.methodLink RL 167 yX3_standsStillIn, Cond.instanceMethod yX3_standsStillIn, Cond.selects RX3 yX3_standsStillIn yX3_standsStillIn, Cond.code yX3_standsStillIn cX3_standsStillIn 4 (some .int), Cond.methodLink RL 170 yX4_standsStillIn, Cond.instanceMethod yX4_standsStillIn, Cond.selects RX4 yX4_standsStillIn yX4_standsStillIn, Cond.code yX4_standsStillIn cX4_standsStillIn 1 (some .int), Cond.methodLink RX4 160 yX4_still]
def wsL_law0_r26 : List Cond := [Cond.instanceMethod yX4_still, Cond.selects RX4 yX4_still yX4_still, Cond.code yX4_still cX4_still 3 (some .int), Cond.methodLink RX4 157 yX4_isStill, Cond.instanceMethod yX4_isStill, Cond.selects RX4 yX4_isStill yX4_isStill, Cond.code yX4_isStill cX4_isStill 2 (some .boolean), Cond.methodLink RL 171 yL_peakIn, Cond.static yL_peakIn, Cond.codeWith yL_peakIn cL_peakIn 4 (some .int) [(0, 9, 12, 13)], Cond.methodLink RL 61 yX3_peakIn, Cond.instanceMethod yX3_peakIn, Cond.selects RX3 yX3_peakIn yX3_peakIn, Cond.code yX3_peakIn cX3_peakIn 6 (some .int), Cond.methodLink RL 173 yX4_peakIn, Cond.instanceMethod yX4_peakIn, Cond.selects RX4 yX4_peakIn yX4_peakIn, Cond.code yX4_peakIn cX4_peakIn 5 (some .int), Cond.methodLink RL 174 yL_bestBreath, Cond.static yL_bestBreath, Cond.codeWith yL_bestBreath cL_bestBreath 4 (some .int) [(0, 9, 12, 13)], Cond.methodLink RL 64 yX3_bestBreath, Cond.instanceMethod yX3_bestBreath, Cond.selects RX3 yX3_bestBreath yX3_bestBreath]
def wsL_law0_r27 : List Cond := [Cond.code yX3_bestBreath cX3_bestBreath 6 (some .int), Cond.methodLink RL 176 yX4_bestBreath, Cond.instanceMethod yX4_bestBreath, Cond.selects RX4 yX4_bestBreath yX4_bestBreath, Cond.code yX4_bestBreath cX4_bestBreath 2 (some .int), Cond.methodLink RX4 163 yX4_best, Cond.instanceMethod yX4_best, Cond.selects RX4 yX4_best yX4_best, Cond.code yX4_best cX4_best 7 (some .int), Cond.methodLink RL 177 yX3_meanInRows, Cond.instanceMethod yX3_meanInRows, Cond.selects RX3 yX3_meanInRows yX3_meanInRows, Cond.code yX3_meanInRows cX3_meanInRows 2 (some .double), Cond.methodLink RL 181 yX4_meanInRows, Cond.instanceMethod yX4_meanInRows, Cond.selects RX4 yX4_meanInRows yX4_meanInRows, Cond.code yX4_meanInRows cX4_meanInRows 1 (some .double), Cond.methodLink RL 182 yX3_digest, Cond.instanceMethod yX3_digest, Cond.selects RX3 yX3_digest yX3_digest, Cond.code yX3_digest cX3_digest 4 (some .long), Cond.constantLong RX3 162 (2203), Cond.methodLink RX3 164 yX3_columns, Cond.methodLink RX3 166 yX3_mixed]
def wsL_law0_r28 : List Cond := [Cond.static yX3_mixed, Cond.code yX3_mixed cX3_mixed 4 (some .long), Cond.constantLong RX3 226 (31), Cond.methodLink RX3 170 yX3_rows, Cond.methodLink RX3 172 yX3_generation, Cond.methodLink RX3 174 yX3_rules, Cond.methodLink RX3 177 yX3_breath, Cond.methodLink RX3 179 yX3_frozen, Cond.methodLink RX3 182 yX3_melted, Cond.methodLink RX3 185 yX3_flowers, Cond.methodLink RX3 188 yX3_largestFlower, Cond.methodLink RX3 191 yX3_isMirrored, Cond.methodLink RX3 194 yX3_asNumber, Cond.static yX3_asNumber, Cond.code yX3_asNumber cX3_asNumber 1 (some .long), Cond.methodLink RX3 198 yX3_comesAgainIn, Cond.methodLink RX3 201 yX3_standsStillIn, Cond.methodLink RX3 204 yX3_bestBreath, Cond.methodLink RX3 207 yX3_digestOfRow, Cond.instanceMethod yX3_digestOfRow, Cond.selects RX3 yX3_digestOfRow yX3_digestOfRow, Cond.code yX3_digestOfRow cX3_digestOfRow 7 (some .long), Cond.methodLink RX3 211 yX3_frozenInRow, Cond.methodLink RX3 214 yX3_isFrozen]
def wsL_law0_r29 : List Cond := [Cond.methodLink RX3 217 yX3_meltedFor, Cond.methodLink RX3 220 yX3_around, Cond.methodLink RX3 223 yX3_willFreeze, Cond.methodLink RL 186 yX4_digest, Cond.instanceMethod yX4_digest, Cond.selects RX4 yX4_digest yX4_digest, Cond.code yX4_digest cX4_digest 8 (some .long), Cond.constantLong RX4 166 (2203), Cond.constantLong RX4 168 (31)]
def wsL_law0 : List Cond := (wsL_law0_r1 ++ (wsL_law0_r2 ++ (wsL_law0_r3 ++ (wsL_law0_r4 ++ (wsL_law0_r5 ++ (wsL_law0_r6 ++ (wsL_law0_r7 ++ (wsL_law0_r8 ++ (wsL_law0_r9 ++ (wsL_law0_r10 ++ (wsL_law0_r11 ++ (wsL_law0_r12 ++ (wsL_law0_r13 ++ (wsL_law0_r14 ++ (wsL_law0_r15 ++ (wsL_law0_r16 ++ (wsL_law0_r17 ++ (wsL_law0_r18 ++ (wsL_law0_r19 ++ (wsL_law0_r20 ++ (wsL_law0_r21 ++ (wsL_law0_r22 ++ (wsL_law0_r23 ++ (wsL_law0_r24 ++ (wsL_law0_r25 ++ (wsL_law0_r26 ++ (wsL_law0_r27 ++ (wsL_law0_r28 ++ wsL_law0_r29)))))))))))))))))))))))))))) ++ wsX30 ++ wsX40 ++ wsX10 ++ wsX00 ++ wsX20 ++ ([] : List Cond)
def wsL_law : List Cond := wsL_law0 ++ (vx_atS RX3 237 "java/lang/IllegalArgumentException" ["java/lang/RuntimeException", "java/lang/Exception"]).filter goodWord ++ (vx_atS RX3 55 "java/lang/IllegalStateException" ["java/lang/RuntimeException", "java/lang/Exception"]).filter goodWord ++ (vx_atS RX3 87 "java/lang/IndexOutOfBoundsException" ["java/lang/RuntimeException", "java/lang/Exception"]).filter goodWord
theorem f_in_r {big : List Cond} (ws : List Cond) (ps : List Nat) (hp : ws = ps.filterMap (fun i => big[i]?)) : ∀ w ∈ ws, w ∈ big := by
  intro w hw
  rw [hp] at hw
  obtain ⟨i, -, hi⟩ := List.mem_filterMap.mp hw
  exact List.mem_of_getElem? hi
set_option maxRecDepth 20000 in
theorem wsL_law_in0_r1 : ∀ w ∈ wsL_law0_r1, w ∈ lw_tbl := fun w h => f_in_r wsL_law0_r1 [54, 55, 39, 607, 608, 44, 899, 56, 57, 58, 59, 60, 61, 62, 63, 40, 132, 133, 91, 92, 41, 134, 104, 105] (by decide +kernel) w h
set_option maxRecDepth 20000 in
theorem wsL_law_in0_r2 : ∀ w ∈ wsL_law0_r2, w ∈ lw_tbl := fun w h => f_in_r wsL_law0_r2 [42, 135, 65, 66, 67, 90, 68, 69, 70, 94, 95, 96, 97, 98, 107, 108, 109, 110, 111, 121, 122, 123, 124, 71] (by decide +kernel) w h
set_option maxRecDepth 20000 in
theorem wsL_law_in0_r3 : ∀ w ∈ wsL_law0_r3, w ∈ lw_tbl := fun w h => f_in_r wsL_law0_r3 [73, 125, 126, 43, 127, 128, 129, 130, 131, 112, 609, 610, 611, 612, 614, 615, 616, 618, 620, 621, 622, 623, 624, 625] (by decide +kernel) w h
set_option maxRecDepth 20000 in
theorem wsL_law_in0_r4 : ∀ w ∈ wsL_law0_r4, w ∈ lw_tbl := fun w h => f_in_r wsL_law0_r4 [626, 627, 662, 628, 477, 478, 38, 479, 480, 481, 482, 483, 484, 341, 342, 343, 344, 48, 667, 668, 669, 670, 613, 671] (by decide +kernel) w h
set_option maxRecDepth 20000 in
theorem wsL_law_in0_r5 : ∀ w ∈ wsL_law0_r5, w ∈ lw_tbl := fun w h => f_in_r wsL_law0_r5 [672, 673, 674, 676, 12, 677, 663, 664, 665, 666, 485, 486, 487, 488, 489, 490, 491, 492, 493, 494, 50, 447, 449, 11] (by decide +kernel) w h
set_option maxRecDepth 20000 in
theorem wsL_law_in0_r6 : ∀ w ∈ wsL_law0_r6, w ∈ lw_tbl := fun w h => f_in_r wsL_law0_r6 [450, 425, 49, 451, 452, 453, 454, 277, 278, 279, 280, 460, 290, 291, 292, 510, 511, 512, 513, 514, 235, 236, 237, 238] (by decide +kernel) w h
set_option maxRecDepth 20000 in
theorem wsL_law_in0_r7 : ∀ w ∈ wsL_law0_r7, w ∈ lw_tbl := fun w h => f_in_r wsL_law0_r7 [179, 180, 181, 182, 678, 679, 680, 681, 682, 684, 13, 685, 686, 688, 14, 689, 690, 692, 15, 693, 515, 516, 517, 518] (by decide +kernel) w h
set_option maxRecDepth 20000 in
theorem wsL_law_in0_r8 : ∀ w ∈ wsL_law0_r8, w ∈ lw_tbl := fun w h => f_in_r wsL_law0_r8 [519, 520, 521, 522, 523, 524, 525, 285, 526, 694, 695, 696, 697, 698, 700, 16, 701, 527, 528, 529, 530, 531, 532, 533] (by decide +kernel) w h
set_option maxRecDepth 20000 in
theorem wsL_law_in0_r9 : ∀ w ∈ wsL_law0_r9, w ∈ lw_tbl := fun w h => f_in_r wsL_law0_r9 [702, 703, 704, 705, 534, 535, 536, 537, 538, 539, 540, 541, 542, 543, 544, 706, 707, 708, 709, 546, 547, 548, 549, 550] (by decide +kernel) w h
set_option maxRecDepth 20000 in
theorem wsL_law_in0_r10 : ∀ w ∈ wsL_law0_r10, w ∈ lw_tbl := fun w h => f_in_r wsL_law0_r10 [551, 552, 136, 553, 258, 259, 260, 710, 711, 712, 713, 619, 555, 556, 557, 558, 559, 560, 561, 137, 253, 254, 255, 256] (by decide +kernel) w h
set_option maxRecDepth 20000 in
theorem wsL_law_in0_r11 : ∀ w ∈ wsL_law0_r11, w ∈ lw_tbl := fun w h => f_in_r wsL_law0_r11 [257, 261, 262, 263, 264, 265, 266, 267, 268, 269, 271, 3, 272, 273, 275, 4, 276, 75, 281, 283, 5, 284, 286, 287] (by decide +kernel) w h
set_option maxRecDepth 20000 in
theorem wsL_law_in0_r12 : ∀ w ∈ wsL_law0_r12, w ∈ lw_tbl := fun w h => f_in_r wsL_law0_r12 [288, 183, 184, 51, 185, 186, 187, 188, 289, 293, 295, 6, 296, 297, 299, 7, 300, 175, 176, 177, 178, 714, 715, 716] (by decide +kernel) w h
set_option maxRecDepth 20000 in
theorem wsL_law_in0_r13 : ∀ w ∈ wsL_law0_r13, w ∈ lw_tbl := fun w h => f_in_r wsL_law0_r13 [717, 617, 718, 720, 17, 721, 746, 252, 251, 52, 747, 229, 53, 230, 722, 724, 18, 725, 726, 728, 19, 729, 730, 732] (by decide +kernel) w h
set_option maxRecDepth 20000 in
theorem wsL_law_in0_r14 : ∀ w ∈ wsL_law0_r14, w ∈ lw_tbl := fun w h => f_in_r wsL_law0_r14 [20, 733, 734, 736, 21, 737, 738, 740, 22, 741, 742, 744, 23, 745, 748, 750, 24, 751, 752, 151, 152, 153, 154, 753] (by decide +kernel) w h
set_option maxRecDepth 20000 in
theorem wsL_law_in0_r15 : ∀ w ∈ wsL_law0_r15, w ∈ lw_tbl := fun w h => f_in_r wsL_law0_r15 [754, 755, 756, 757, 759, 25, 760, 155, 156, 157, 158, 761, 762, 763, 764, 159, 160, 161, 162, 765, 766, 767, 768, 163] (by decide +kernel) w h
set_option maxRecDepth 20000 in
theorem wsL_law_in0_r16 : ∀ w ∈ wsL_law0_r16, w ∈ lw_tbl := fun w h => f_in_r wsL_law0_r16 [164, 165, 166, 769, 770, 771, 772, 167, 168, 169, 170, 773, 774, 775, 776, 171, 172, 173, 174, 777, 778, 779, 780, 189] (by decide +kernel) w h
set_option maxRecDepth 20000 in
theorem wsL_law_in0_r17 : ∀ w ∈ wsL_law0_r17, w ∈ lw_tbl := fun w h => f_in_r wsL_law0_r17 [190, 191, 192, 193, 194, 195, 196, 781, 782, 783, 784, 785, 787, 26, 788, 562, 563, 564, 565, 444, 445, 446, 789, 790] (by decide +kernel) w h
set_option maxRecDepth 20000 in
theorem wsL_law_in0_r18 : ∀ w ∈ wsL_law0_r18, w ∈ lw_tbl := fun w h => f_in_r wsL_law0_r18 [791, 792, 566, 567, 568, 569, 457, 458, 459, 793, 794, 795, 796, 570, 571, 572, 573, 462, 463, 464, 465, 466, 467, 468] (by decide +kernel) w h
set_option maxRecDepth 20000 in
theorem wsL_law_in0_r19 : ∀ w ∈ wsL_law0_r19, w ∈ lw_tbl := fun w h => f_in_r wsL_law0_r19 [797, 798, 799, 800, 574, 575, 576, 577, 470, 471, 472, 473, 474, 475, 476, 801, 802, 803, 804, 578, 579, 580, 581, 421] (by decide +kernel) w h
set_option maxRecDepth 20000 in
theorem wsL_law_in0_r20 : ∀ w ∈ wsL_law0_r20, w ∈ lw_tbl := fun w h => f_in_r wsL_law0_r20 [422, 423, 424, 441, 442, 805, 806, 807, 808, 197, 198, 199, 200, 201, 202, 203, 204, 205, 206, 207, 208, 209, 210, 211] (by decide +kernel) w h
set_option maxRecDepth 20000 in
theorem wsL_law_in0_r21 : ∀ w ∈ wsL_law0_r21, w ∈ lw_tbl := fun w h => f_in_r wsL_law0_r21 [213, 0, 214, 215, 217, 1, 218, 219, 221, 2, 222, 223, 809, 810, 811, 812, 813, 815, 27, 816, 817, 819, 28, 820] (by decide +kernel) w h
set_option maxRecDepth 20000 in
theorem wsL_law_in0_r22 : ∀ w ∈ wsL_law0_r22, w ∈ lw_tbl := fun w h => f_in_r wsL_law0_r22 [224, 225, 226, 227, 228, 821, 822, 823, 824, 582, 583, 584, 585, 586, 587, 588, 825, 826, 827, 828, 231, 232, 233, 234] (by decide +kernel) w h
set_option maxRecDepth 20000 in
theorem wsL_law_in0_r23 : ∀ w ∈ wsL_law0_r23, w ∈ lw_tbl := fun w h => f_in_r wsL_law0_r23 [829, 830, 831, 832, 833, 835, 29, 836, 589, 590, 591, 592, 593, 594, 595, 412, 414, 9, 415, 243, 244, 245, 246, 247] (by decide +kernel) w h
set_option maxRecDepth 20000 in
theorem wsL_law_in0_r24 : ∀ w ∈ wsL_law0_r24, w ∈ lw_tbl := fun w h => f_in_r wsL_law0_r24 [248, 249, 250, 837, 838, 839, 840, 841, 843, 30, 844, 845, 847, 31, 848, 849, 851, 32, 852, 239, 240, 241, 242, 301] (by decide +kernel) w h
set_option maxRecDepth 20000 in
theorem wsL_law_in0_r25 : ∀ w ∈ wsL_law0_r25, w ∈ lw_tbl := fun w h => f_in_r wsL_law0_r25 [302, 303, 304, 853, 854, 855, 856, 857, 859, 33, 860, 861, 863, 34, 864, 305, 306, 307, 308, 865, 866, 867, 868, 869] (by decide +kernel) w h
set_option maxRecDepth 20000 in
theorem wsL_law_in0_r26 : ∀ w ∈ wsL_law0_r26, w ∈ lw_tbl := fun w h => f_in_r wsL_law0_r26 [871, 35, 872, 873, 875, 36, 876, 596, 597, 598, 599, 600, 601, 602, 877, 878, 879, 880, 603, 604, 605, 606, 338, 339] (by decide +kernel) w h
set_option maxRecDepth 20000 in
theorem wsL_law_in0_r27 : ∀ w ∈ wsL_law0_r27, w ∈ lw_tbl := fun w h => f_in_r wsL_law0_r27 [340, 881, 882, 883, 884, 885, 887, 37, 888, 309, 310, 311, 312, 889, 890, 891, 892, 313, 314, 315, 316, 317, 318, 319] (by decide +kernel) w h
set_option maxRecDepth 20000 in
theorem wsL_law_in0_r28 : ∀ w ∈ wsL_law0_r28, w ∈ lw_tbl := fun w h => f_in_r wsL_law0_r28 [320, 321, 322, 323, 324, 325, 326, 327, 328, 329, 330, 331, 332, 333, 334, 335, 336, 337, 416, 418, 10, 419, 420, 443] (by decide +kernel) w h
set_option maxRecDepth 20000 in
theorem wsL_law_in0_r29 : ∀ w ∈ wsL_law0_r29, w ∈ lw_tbl := fun w h => f_in_r wsL_law0_r29 [456, 461, 469, 893, 894, 895, 896, 897, 898] (by decide +kernel) w h
theorem wsL_law_in0_wsX30 : ∀ w ∈ wsX30, w ∈ lw_tbl := fun w h => f_in_r wsX30 [138, 140, 142, 144, 146, 148] (by decide +kernel) w h
theorem wsL_law_in0_wsX40 : ∀ w ∈ wsX40, w ∈ lw_tbl := fun w h => f_in_r wsX40 [629, 631, 633, 635, 637, 639, 641, 643, 645, 647, 649, 651, 653, 655, 657, 659] (by decide +kernel) w h
theorem wsL_law_in0_wsX10 : ∀ w ∈ wsX10, w ∈ lw_tbl := fun w h => f_in_r wsX10 [77, 79, 81, 83, 85, 87] (by decide +kernel) w h
theorem wsL_law_in0_wsX00 : ∀ w ∈ wsX00, w ∈ lw_tbl := fun w h => f_in_r wsX00 [99, 101] (by decide +kernel) w h
theorem wsL_law_in0_wsX20 : ∀ w ∈ wsX20, w ∈ lw_tbl := fun w h => f_in_r wsX20 [114, 116, 118] (by decide +kernel) w h
theorem wsL_law_in0 : ∀ w ∈ wsL_law0, w ∈ lw_tbl := fun w h => (List.mem_append.mp h).elim (fun h => (List.mem_append.mp h).elim (fun h => (List.mem_append.mp h).elim (fun h => (List.mem_append.mp h).elim (fun h => (List.mem_append.mp h).elim (fun h => (List.mem_append.mp h).elim (fun h => (List.mem_append.mp h).elim (fun h => wsL_law_in0_r1 w h) (fun h => (List.mem_append.mp h).elim (fun h => wsL_law_in0_r2 w h) (fun h => (List.mem_append.mp h).elim (fun h => wsL_law_in0_r3 w h) (fun h => (List.mem_append.mp h).elim (fun h => wsL_law_in0_r4 w h) (fun h => (List.mem_append.mp h).elim (fun h => wsL_law_in0_r5 w h) (fun h => (List.mem_append.mp h).elim (fun h => wsL_law_in0_r6 w h) (fun h => (List.mem_append.mp h).elim (fun h => wsL_law_in0_r7 w h) (fun h => (List.mem_append.mp h).elim (fun h => wsL_law_in0_r8 w h) (fun h => (List.mem_append.mp h).elim (fun h => wsL_law_in0_r9 w h) (fun h => (List.mem_append.mp h).elim (fun h => wsL_law_in0_r10 w h) (fun h => (List.mem_append.mp h).elim (fun h => wsL_law_in0_r11 w h) (fun h => (List.mem_append.mp h).elim (fun h => wsL_law_in0_r12 w h) (fun h => (List.mem_append.mp h).elim (fun h => wsL_law_in0_r13 w h) (fun h => (List.mem_append.mp h).elim (fun h => wsL_law_in0_r14 w h) (fun h => (List.mem_append.mp h).elim (fun h => wsL_law_in0_r15 w h) (fun h => (List.mem_append.mp h).elim (fun h => wsL_law_in0_r16 w h) (fun h => (List.mem_append.mp h).elim (fun h => wsL_law_in0_r17 w h) (fun h => (List.mem_append.mp h).elim (fun h => wsL_law_in0_r18 w h) (fun h => (List.mem_append.mp h).elim (fun h => wsL_law_in0_r19 w h) (fun h => (List.mem_append.mp h).elim (fun h => wsL_law_in0_r20 w h) (fun h => (List.mem_append.mp h).elim (fun h => wsL_law_in0_r21 w h) (fun h => (List.mem_append.mp h).elim (fun h => wsL_law_in0_r22 w h) (fun h => (List.mem_append.mp h).elim (fun h => wsL_law_in0_r23 w h) (fun h => (List.mem_append.mp h).elim (fun h => wsL_law_in0_r24 w h) (fun h => (List.mem_append.mp h).elim (fun h => wsL_law_in0_r25 w h) (fun h => (List.mem_append.mp h).elim (fun h => wsL_law_in0_r26 w h) (fun h => (List.mem_append.mp h).elim (fun h => wsL_law_in0_r27 w h) (fun h => (List.mem_append.mp h).elim (fun h => wsL_law_in0_r28 w h) (fun h => wsL_law_in0_r29 w h))))))))))))))))))))))))))))) (fun h => wsL_law_in0_wsX30 w h)) (fun h => wsL_law_in0_wsX40 w h)) (fun h => wsL_law_in0_wsX10 w h)) (fun h => wsL_law_in0_wsX00 w h)) (fun h => wsL_law_in0_wsX20 w h)) (fun h => absurd h List.not_mem_nil)
theorem wsL_law_x0 : ∀ w ∈ (vx_atS RX3 237 "java/lang/IllegalArgumentException" ["java/lang/RuntimeException", "java/lang/Exception"]).filter goodWord, w ∈ lw_tbl := by decide +kernel
theorem wsL_law_x1 : ∀ w ∈ (vx_atS RX3 55 "java/lang/IllegalStateException" ["java/lang/RuntimeException", "java/lang/Exception"]).filter goodWord, w ∈ lw_tbl := by decide +kernel
theorem wsL_law_x2 : ∀ w ∈ (vx_atS RX3 87 "java/lang/IndexOutOfBoundsException" ["java/lang/RuntimeException", "java/lang/Exception"]).filter goodWord, w ∈ lw_tbl := by decide +kernel
theorem wsL_law_in : ∀ w ∈ wsL_law, w ∈ lw_tbl := fun w h => (List.mem_append.mp h).elim (fun h => (List.mem_append.mp h).elim (fun h => (List.mem_append.mp h).elim (fun h => wsL_law_in0 w h) (fun h => wsL_law_x0 w h)) (fun h => wsL_law_x1 w h)) (fun h => wsL_law_x2 w h)
theorem inlX0 : ∀ w ∈ wsX00, w ∈ wsL_law := fun _ h => List.mem_append_left _ (List.mem_append_left _ (List.mem_append_left _ (List.mem_append_left _ (List.mem_append_left _ (List.mem_append_right _ h)))))
theorem inX0 : ∀ w ∈ wsX00, w ∈ lw_tbl := fun w h => wsL_law_in w (inlX0 w h)
theorem inlX1 : ∀ w ∈ wsX10, w ∈ wsL_law := fun _ h => List.mem_append_left _ (List.mem_append_left _ (List.mem_append_left _ (List.mem_append_left _ (List.mem_append_left _ (List.mem_append_left _ (List.mem_append_right _ h))))))
theorem inX1 : ∀ w ∈ wsX10, w ∈ lw_tbl := fun w h => wsL_law_in w (inlX1 w h)
theorem inlX2 : ∀ w ∈ wsX20, w ∈ wsL_law := fun _ h => List.mem_append_left _ (List.mem_append_left _ (List.mem_append_left _ (List.mem_append_left _ (List.mem_append_right _ h))))
theorem inX2 : ∀ w ∈ wsX20, w ∈ lw_tbl := fun w h => wsL_law_in w (inlX2 w h)
theorem inlX3 : ∀ w ∈ wsX30, w ∈ wsL_law := fun _ h => List.mem_append_left _ (List.mem_append_left _ (List.mem_append_left _ (List.mem_append_left _ (List.mem_append_left _ (List.mem_append_left _ (List.mem_append_left _ (List.mem_append_left _ (List.mem_append_right _ h))))))))
theorem inX3 : ∀ w ∈ wsX30, w ∈ lw_tbl := fun w h => wsL_law_in w (inlX3 w h)
theorem inlX4 : ∀ w ∈ wsX40, w ∈ wsL_law := fun _ h => List.mem_append_left _ (List.mem_append_left _ (List.mem_append_left _ (List.mem_append_left _ (List.mem_append_left _ (List.mem_append_left _ (List.mem_append_left _ (List.mem_append_right _ h)))))))
theorem inX4 : ∀ w ∈ wsX40, w ∈ lw_tbl := fun w h => wsL_law_in w (inlX4 w h)
theorem inJx145de : ∀ w ∈ wsJx145de0, w ∈ lw_tbl := by decide +kernel
theorem inJ6 : ∀ w ∈ wsJ60, w ∈ lw_tbl := by decide +kernel
theorem inJ9 : ∀ w ∈ wsJ90, w ∈ lw_tbl := by decide +kernel
theorem inJ0 : ∀ w ∈ wsJ00, w ∈ lw_tbl := by decide +kernel
theorem inJ10 : ∀ w ∈ wsJ100, w ∈ lw_tbl := by decide +kernel
theorem inJ7 : ∀ w ∈ wsJ70, w ∈ lw_tbl := by decide +kernel
theorem dX0_init_0 : decode cX0_init 0 = .ok (.aload_n 0, 1) := by decide +kernel
theorem dX0_init_1 : decode cX0_init 1 = .ok (.invokespecial 3, 3) := by decide +kernel
theorem dX0_init_4 : decode cX0_init 4 = .ok (.aload_n 0, 1) := by decide +kernel
theorem dX0_init_5 : decode cX0_init 5 = .ok (.bipush 12, 2) := by decide +kernel
theorem dX0_init_7 : decode cX0_init 7 = .ok (.newarray .int, 2) := by decide +kernel
theorem dX0_init_9 : decode cX0_init 9 = .ok (.putfield 9, 3) := by decide +kernel
theorem dX0_init_12 : decode cX0_init 12 = .ok (.aload_n 0, 1) := by decide +kernel
theorem dX0_init_13 : decode cX0_init 13 = .ok (.bipush 12, 2) := by decide +kernel
theorem dX0_init_15 : decode cX0_init 15 = .ok (.newarray .int, 2) := by decide +kernel
theorem dX0_init_17 : decode cX0_init 17 = .ok (.putfield 15, 3) := by decide +kernel
theorem dX0_init_20 : decode cX0_init 20 = .ok (.return_, 1) := by decide +kernel
set_option maxRecDepth 20000 in
theorem ggX0_spreadOut_X1_bitsOf : GoodIn wsX0_spreadOut wsX1_bitsOf := goodIn_r _ [6, 7, 10, 11, 12, 13, 14, 15] (by decide +kernel) (by decide +kernel)
set_option maxRecDepth 20000 in
theorem gX0_spreadOut_X1_bitsOf : GoodIn wsX0_spreadOut (wsV RX0 18 RX1 yX1_bitsOf wsX1_bitsOf) := goodIn_app (goodIn_of _ (by decide +kernel)) ggX0_spreadOut_X1_bitsOf
theorem dX0_spreadOut_0 : decode cX0_spreadOut 0 = .ok (.aload_n 1, 1) := by decide +kernel
theorem dX0_spreadOut_1 : decode cX0_spreadOut 1 = .ok (.ifnonnull 4, 3) := by decide +kernel
theorem dX0_spreadOut_4 : decode cX0_spreadOut 4 = .ok (.return_, 1) := by decide +kernel
theorem dX0_spreadOut_5 : decode cX0_spreadOut 5 = .ok (.iconst 0, 1) := by decide +kernel
theorem dX0_spreadOut_6 : decode cX0_spreadOut 6 = .ok (.istore_n 2, 1) := by decide +kernel
theorem dX0_spreadOut_7 : decode cX0_spreadOut 7 = .ok (.iload_n 2, 1) := by decide +kernel
theorem dX0_spreadOut_8 : decode cX0_spreadOut 8 = .ok (.aload_n 0, 1) := by decide +kernel
theorem dX0_spreadOut_9 : decode cX0_spreadOut 9 = .ok (.getfield 9, 3) := by decide +kernel
theorem dX0_spreadOut_12 : decode cX0_spreadOut 12 = .ok (.arraylength, 1) := by decide +kernel
theorem dX0_spreadOut_13 : decode cX0_spreadOut 13 = .ok (.if_icmp .ge 20, 3) := by decide +kernel
theorem dX0_spreadOut_16 : decode cX0_spreadOut 16 = .ok (.aload_n 0, 1) := by decide +kernel
theorem dX0_spreadOut_17 : decode cX0_spreadOut 17 = .ok (.getfield 9, 3) := by decide +kernel
theorem dX0_spreadOut_20 : decode cX0_spreadOut 20 = .ok (.iload_n 2, 1) := by decide +kernel
theorem dX0_spreadOut_21 : decode cX0_spreadOut 21 = .ok (.aload_n 1, 1) := by decide +kernel
theorem dX0_spreadOut_22 : decode cX0_spreadOut 22 = .ok (.iload_n 2, 1) := by decide +kernel
theorem dX0_spreadOut_23 : decode cX0_spreadOut 23 = .ok (.invokevirtual 18, 3) := by decide +kernel
theorem dX0_spreadOut_26 : decode cX0_spreadOut 26 = .ok (.iastore, 1) := by decide +kernel
theorem dX0_spreadOut_27 : decode cX0_spreadOut 27 = .ok (.iinc 2 1, 3) := by decide +kernel
theorem dX0_spreadOut_30 : decode cX0_spreadOut 30 = .ok (.goto (-23), 3) := by decide +kernel
theorem dX0_spreadOut_33 : decode cX0_spreadOut 33 = .ok (.return_, 1) := by decide +kernel
set_option maxRecDepth 20000 in
theorem ggX0_pick_J7_fill_53178 : GoodIn wsX0_pick wsJ7_fill_53178 := goodIn_r _ [6] (by decide +kernel) (by decide +kernel)
set_option maxRecDepth 20000 in
theorem gX0_pick_J7_fill_53178 : GoodIn wsX0_pick (va_wsS RX0 24 yJ7_fill_53178 wsJ7_fill_53178) := goodIn_app (goodIn_of _ (by decide +kernel)) ggX0_pick_J7_fill_53178
set_option maxRecDepth 20000 in
theorem ggX0_pick_X0_widen : GoodIn wsX0_pick wsX0_widen := goodIn_r _ [11, 2, 1, 12, 13, 14, 10, 15, 27, 28] (by decide +kernel) (by decide +kernel)
set_option maxRecDepth 20000 in
theorem gX0_pick_X0_widen : GoodIn wsX0_pick (wsV RX0 30 RX0 yX0_widen wsX0_widen) := goodIn_app (goodIn_of _ (by decide +kernel)) ggX0_pick_X0_widen
set_option maxRecDepth 20000 in
theorem ggX0_pick_X0_takeAway : GoodIn wsX0_pick wsX0_takeAway := goodIn_r _ [19, 2, 1, 20, 21, 22, 23, 24, 25, 26, 27, 28] (by decide +kernel) (by decide +kernel)
set_option maxRecDepth 20000 in
theorem gX0_pick_X0_takeAway : GoodIn wsX0_pick (wsV RX0 34 RX0 yX0_takeAway wsX0_takeAway) := goodIn_app (goodIn_of _ (by decide +kernel)) ggX0_pick_X0_takeAway
theorem dX0_pick_0 : decode cX0_pick 0 = .ok (.iload_n 2, 1) := by decide +kernel
theorem dX0_pick_1 : decode cX0_pick 1 = .ok (.ifCond .lt 34, 3) := by decide +kernel
theorem dX0_pick_4 : decode cX0_pick 4 = .ok (.iload_n 2, 1) := by decide +kernel
theorem dX0_pick_5 : decode cX0_pick 5 = .ok (.aload_n 0, 1) := by decide +kernel
theorem dX0_pick_6 : decode cX0_pick 6 = .ok (.getfield 9, 3) := by decide +kernel
theorem dX0_pick_9 : decode cX0_pick 9 = .ok (.arraylength, 1) := by decide +kernel
theorem dX0_pick_10 : decode cX0_pick 10 = .ok (.if_icmp .ge 25, 3) := by decide +kernel
theorem dX0_pick_13 : decode cX0_pick 13 = .ok (.iload_n 2, 1) := by decide +kernel
theorem dX0_pick_14 : decode cX0_pick 14 = .ok (.aload_n 0, 1) := by decide +kernel
theorem dX0_pick_15 : decode cX0_pick 15 = .ok (.getfield 15, 3) := by decide +kernel
theorem dX0_pick_18 : decode cX0_pick 18 = .ok (.arraylength, 1) := by decide +kernel
theorem dX0_pick_19 : decode cX0_pick 19 = .ok (.if_icmp .ge 16, 3) := by decide +kernel
theorem dX0_pick_22 : decode cX0_pick 22 = .ok (.aload_n 0, 1) := by decide +kernel
theorem dX0_pick_23 : decode cX0_pick 23 = .ok (.getfield 9, 3) := by decide +kernel
theorem dX0_pick_26 : decode cX0_pick 26 = .ok (.iload_n 2, 1) := by decide +kernel
theorem dX0_pick_27 : decode cX0_pick 27 = .ok (.iaload, 1) := by decide +kernel
theorem dX0_pick_28 : decode cX0_pick 28 = .ok (.iload_n 1, 1) := by decide +kernel
theorem dX0_pick_29 : decode cX0_pick 29 = .ok (.ishr, 1) := by decide +kernel
theorem dX0_pick_30 : decode cX0_pick 30 = .ok (.iconst 1, 1) := by decide +kernel
theorem dX0_pick_31 : decode cX0_pick 31 = .ok (.iand, 1) := by decide +kernel
theorem dX0_pick_32 : decode cX0_pick 32 = .ok (.ifCond .ne 5, 3) := by decide +kernel
theorem dX0_pick_35 : decode cX0_pick 35 = .ok (.iconst 0, 1) := by decide +kernel
theorem dX0_pick_36 : decode cX0_pick 36 = .ok (.ireturn, 1) := by decide +kernel
theorem dX0_pick_37 : decode cX0_pick 37 = .ok (.aload_n 0, 1) := by decide +kernel
theorem dX0_pick_38 : decode cX0_pick 38 = .ok (.getfield 15, 3) := by decide +kernel
theorem dX0_pick_41 : decode cX0_pick 41 = .ok (.iconst 0, 1) := by decide +kernel
theorem dX0_pick_42 : decode cX0_pick 42 = .ok (.invokestatic 24, 3) := by decide +kernel
theorem dX0_pick_45 : decode cX0_pick 45 = .ok (.aload_n 0, 1) := by decide +kernel
theorem dX0_pick_46 : decode cX0_pick 46 = .ok (.getfield 15, 3) := by decide +kernel
theorem dX0_pick_49 : decode cX0_pick 49 = .ok (.iload_n 2, 1) := by decide +kernel
theorem dX0_pick_50 : decode cX0_pick 50 = .ok (.iconst 1, 1) := by decide +kernel
theorem dX0_pick_51 : decode cX0_pick 51 = .ok (.iload_n 1, 1) := by decide +kernel
theorem dX0_pick_52 : decode cX0_pick 52 = .ok (.ishl, 1) := by decide +kernel
theorem dX0_pick_53 : decode cX0_pick 53 = .ok (.iastore, 1) := by decide +kernel
theorem dX0_pick_54 : decode cX0_pick 54 = .ok (.iconst 0, 1) := by decide +kernel
theorem dX0_pick_55 : decode cX0_pick 55 = .ok (.istore_n 3, 1) := by decide +kernel
theorem dX0_pick_56 : decode cX0_pick 56 = .ok (.iload_n 3, 1) := by decide +kernel
theorem dX0_pick_57 : decode cX0_pick 57 = .ok (.sipush 144, 3) := by decide +kernel
theorem dX0_pick_60 : decode cX0_pick 60 = .ok (.if_icmp .ge 19, 3) := by decide +kernel
theorem dX0_pick_63 : decode cX0_pick 63 = .ok (.aload_n 0, 1) := by decide +kernel
theorem dX0_pick_64 : decode cX0_pick 64 = .ok (.invokevirtual 30, 3) := by decide +kernel
theorem dX0_pick_67 : decode cX0_pick 67 = .ok (.ifCond .ne 6, 3) := by decide +kernel
theorem dX0_pick_70 : decode cX0_pick 70 = .ok (.goto 9, 3) := by decide +kernel
theorem dX0_pick_73 : decode cX0_pick 73 = .ok (.iinc 3 1, 3) := by decide +kernel
theorem dX0_pick_76 : decode cX0_pick 76 = .ok (.goto (-20), 3) := by decide +kernel
theorem dX0_pick_79 : decode cX0_pick 79 = .ok (.aload_n 0, 1) := by decide +kernel
theorem dX0_pick_80 : decode cX0_pick 80 = .ok (.invokevirtual 34, 3) := by decide +kernel
theorem dX0_pick_83 : decode cX0_pick 83 = .ok (.ireturn, 1) := by decide +kernel
set_option maxRecDepth 20000 in
theorem ggX0_widen_X0_flowerIn : GoodIn wsX0_widen wsX0_flowerIn := goodIn_r _ [7, 1, 8, 9] (by decide +kernel) (by decide +kernel)
set_option maxRecDepth 20000 in
theorem gX0_widen_X0_flowerIn : GoodIn wsX0_widen (wsV RX0 38 RX0 yX0_flowerIn wsX0_flowerIn) := goodIn_app (goodIn_of _ (by decide +kernel)) ggX0_widen_X0_flowerIn
theorem dX0_widen_0 : decode cX0_widen 0 = .ok (.iconst 0, 1) := by decide +kernel
theorem dX0_widen_1 : decode cX0_widen 1 = .ok (.istore_n 1, 1) := by decide +kernel
theorem dX0_widen_2 : decode cX0_widen 2 = .ok (.iconst 0, 1) := by decide +kernel
theorem dX0_widen_3 : decode cX0_widen 3 = .ok (.istore_n 2, 1) := by decide +kernel
theorem dX0_widen_4 : decode cX0_widen 4 = .ok (.iload_n 2, 1) := by decide +kernel
theorem dX0_widen_5 : decode cX0_widen 5 = .ok (.aload_n 0, 1) := by decide +kernel
theorem dX0_widen_6 : decode cX0_widen 6 = .ok (.getfield 15, 3) := by decide +kernel
theorem dX0_widen_9 : decode cX0_widen 9 = .ok (.arraylength, 1) := by decide +kernel
theorem dX0_widen_10 : decode cX0_widen 10 = .ok (.if_icmp .ge 87, 3) := by decide +kernel
theorem dX0_widen_13 : decode cX0_widen 13 = .ok (.iload_n 2, 1) := by decide +kernel
theorem dX0_widen_14 : decode cX0_widen 14 = .ok (.aload_n 0, 1) := by decide +kernel
theorem dX0_widen_15 : decode cX0_widen 15 = .ok (.getfield 9, 3) := by decide +kernel
theorem dX0_widen_18 : decode cX0_widen 18 = .ok (.arraylength, 1) := by decide +kernel
theorem dX0_widen_19 : decode cX0_widen 19 = .ok (.if_icmp .ge 78, 3) := by decide +kernel
theorem dX0_widen_22 : decode cX0_widen 22 = .ok (.aload_n 0, 1) := by decide +kernel
theorem dX0_widen_23 : decode cX0_widen 23 = .ok (.getfield 15, 3) := by decide +kernel
theorem dX0_widen_26 : decode cX0_widen 26 = .ok (.iload_n 2, 1) := by decide +kernel
theorem dX0_widen_27 : decode cX0_widen 27 = .ok (.iaload, 1) := by decide +kernel
theorem dX0_widen_28 : decode cX0_widen 28 = .ok (.istore_n 3, 1) := by decide +kernel
theorem dX0_widen_29 : decode cX0_widen 29 = .ok (.iload_n 3, 1) := by decide +kernel
theorem dX0_widen_30 : decode cX0_widen 30 = .ok (.iload_n 3, 1) := by decide +kernel
theorem dX0_widen_31 : decode cX0_widen 31 = .ok (.iconst 1, 1) := by decide +kernel
theorem dX0_widen_32 : decode cX0_widen 32 = .ok (.ishl, 1) := by decide +kernel
theorem dX0_widen_33 : decode cX0_widen 33 = .ok (.ior, 1) := by decide +kernel
theorem dX0_widen_34 : decode cX0_widen 34 = .ok (.iload_n 3, 1) := by decide +kernel
theorem dX0_widen_35 : decode cX0_widen 35 = .ok (.iconst 1, 1) := by decide +kernel
theorem dX0_widen_36 : decode cX0_widen 36 = .ok (.ishr, 1) := by decide +kernel
theorem dX0_widen_37 : decode cX0_widen 37 = .ok (.ior, 1) := by decide +kernel
theorem dX0_widen_38 : decode cX0_widen 38 = .ok (.aload_n 0, 1) := by decide +kernel
theorem dX0_widen_39 : decode cX0_widen 39 = .ok (.iload_n 2, 1) := by decide +kernel
theorem dX0_widen_40 : decode cX0_widen 40 = .ok (.iconst 1, 1) := by decide +kernel
theorem dX0_widen_41 : decode cX0_widen 41 = .ok (.isub, 1) := by decide +kernel
theorem dX0_widen_42 : decode cX0_widen 42 = .ok (.invokevirtual 38, 3) := by decide +kernel
theorem dX0_widen_45 : decode cX0_widen 45 = .ok (.ior, 1) := by decide +kernel
theorem dX0_widen_46 : decode cX0_widen 46 = .ok (.aload_n 0, 1) := by decide +kernel
theorem dX0_widen_47 : decode cX0_widen 47 = .ok (.iload_n 2, 1) := by decide +kernel
theorem dX0_widen_48 : decode cX0_widen 48 = .ok (.iconst 1, 1) := by decide +kernel
theorem dX0_widen_49 : decode cX0_widen 49 = .ok (.iadd, 1) := by decide +kernel
theorem dX0_widen_50 : decode cX0_widen 50 = .ok (.invokevirtual 38, 3) := by decide +kernel
theorem dX0_widen_53 : decode cX0_widen 53 = .ok (.ior, 1) := by decide +kernel
theorem dX0_widen_54 : decode cX0_widen 54 = .ok (.istore 4, 2) := by decide +kernel
theorem dX0_widen_56 : decode cX0_widen 56 = .ok (.aload_n 0, 1) := by decide +kernel
theorem dX0_widen_57 : decode cX0_widen 57 = .ok (.getfield 15, 3) := by decide +kernel
theorem dX0_widen_60 : decode cX0_widen 60 = .ok (.iload_n 2, 1) := by decide +kernel
theorem dX0_widen_61 : decode cX0_widen 61 = .ok (.iload 4, 2) := by decide +kernel
theorem dX0_widen_63 : decode cX0_widen 63 = .ok (.aload_n 0, 1) := by decide +kernel
theorem dX0_widen_64 : decode cX0_widen 64 = .ok (.getfield 9, 3) := by decide +kernel
theorem dX0_widen_67 : decode cX0_widen 67 = .ok (.iload_n 2, 1) := by decide +kernel
theorem dX0_widen_68 : decode cX0_widen 68 = .ok (.iaload, 1) := by decide +kernel
theorem dX0_widen_69 : decode cX0_widen 69 = .ok (.iand, 1) := by decide +kernel
theorem dX0_widen_70 : decode cX0_widen 70 = .ok (.iastore, 1) := by decide +kernel
theorem dX0_widen_71 : decode cX0_widen 71 = .ok (.iload_n 1, 1) := by decide +kernel
theorem dX0_widen_72 : decode cX0_widen 72 = .ok (.ifCond .ne 13, 3) := by decide +kernel
theorem dX0_widen_75 : decode cX0_widen 75 = .ok (.aload_n 0, 1) := by decide +kernel
theorem dX0_widen_76 : decode cX0_widen 76 = .ok (.getfield 15, 3) := by decide +kernel
theorem dX0_widen_79 : decode cX0_widen 79 = .ok (.iload_n 2, 1) := by decide +kernel
theorem dX0_widen_80 : decode cX0_widen 80 = .ok (.iaload, 1) := by decide +kernel
theorem dX0_widen_81 : decode cX0_widen 81 = .ok (.iload_n 3, 1) := by decide +kernel
theorem dX0_widen_82 : decode cX0_widen 82 = .ok (.if_icmp .eq 7, 3) := by decide +kernel
theorem dX0_widen_85 : decode cX0_widen 85 = .ok (.iconst 1, 1) := by decide +kernel
theorem dX0_widen_86 : decode cX0_widen 86 = .ok (.goto 4, 3) := by decide +kernel
theorem dX0_widen_89 : decode cX0_widen 89 = .ok (.iconst 0, 1) := by decide +kernel
theorem dX0_widen_90 : decode cX0_widen 90 = .ok (.istore_n 1, 1) := by decide +kernel
theorem dX0_widen_91 : decode cX0_widen 91 = .ok (.iinc 2 1, 3) := by decide +kernel
theorem dX0_widen_94 : decode cX0_widen 94 = .ok (.goto (-90), 3) := by decide +kernel
theorem dX0_widen_97 : decode cX0_widen 97 = .ok (.iload_n 1, 1) := by decide +kernel
theorem dX0_widen_98 : decode cX0_widen 98 = .ok (.ireturn, 1) := by decide +kernel
theorem dX0_flowerIn_0 : decode cX0_flowerIn 0 = .ok (.iload_n 1, 1) := by decide +kernel
theorem dX0_flowerIn_1 : decode cX0_flowerIn 1 = .ok (.ifCond .lt 21, 3) := by decide +kernel
theorem dX0_flowerIn_4 : decode cX0_flowerIn 4 = .ok (.iload_n 1, 1) := by decide +kernel
theorem dX0_flowerIn_5 : decode cX0_flowerIn 5 = .ok (.aload_n 0, 1) := by decide +kernel
theorem dX0_flowerIn_6 : decode cX0_flowerIn 6 = .ok (.getfield 15, 3) := by decide +kernel
theorem dX0_flowerIn_9 : decode cX0_flowerIn 9 = .ok (.arraylength, 1) := by decide +kernel
theorem dX0_flowerIn_10 : decode cX0_flowerIn 10 = .ok (.if_icmp .ge 12, 3) := by decide +kernel
theorem dX0_flowerIn_13 : decode cX0_flowerIn 13 = .ok (.aload_n 0, 1) := by decide +kernel
theorem dX0_flowerIn_14 : decode cX0_flowerIn 14 = .ok (.getfield 15, 3) := by decide +kernel
theorem dX0_flowerIn_17 : decode cX0_flowerIn 17 = .ok (.iload_n 1, 1) := by decide +kernel
theorem dX0_flowerIn_18 : decode cX0_flowerIn 18 = .ok (.iaload, 1) := by decide +kernel
theorem dX0_flowerIn_19 : decode cX0_flowerIn 19 = .ok (.goto 4, 3) := by decide +kernel
theorem dX0_flowerIn_22 : decode cX0_flowerIn 22 = .ok (.iconst 0, 1) := by decide +kernel
theorem dX0_flowerIn_23 : decode cX0_flowerIn 23 = .ok (.ireturn, 1) := by decide +kernel
set_option maxRecDepth 20000 in
theorem ggX0_takeAway_J6_bitCount_0f7a4 : GoodIn wsX0_takeAway wsJ6_bitCount_0f7a4 := goodIn_r _ [6, 7, 8, 9] (by decide +kernel) (by decide +kernel)
set_option maxRecDepth 20000 in
theorem gX0_takeAway_J6_bitCount_0f7a4 : GoodIn wsX0_takeAway (va_wsS RX0 41 yJ6_bitCount_0f7a4 wsJ6_bitCount_0f7a4) := goodIn_app (goodIn_of _ (by decide +kernel)) ggX0_takeAway_J6_bitCount_0f7a4
theorem dX0_takeAway_0 : decode cX0_takeAway 0 = .ok (.iconst 0, 1) := by decide +kernel
theorem dX0_takeAway_1 : decode cX0_takeAway 1 = .ok (.istore_n 1, 1) := by decide +kernel
theorem dX0_takeAway_2 : decode cX0_takeAway 2 = .ok (.iconst 0, 1) := by decide +kernel
theorem dX0_takeAway_3 : decode cX0_takeAway 3 = .ok (.istore_n 2, 1) := by decide +kernel
theorem dX0_takeAway_4 : decode cX0_takeAway 4 = .ok (.iload_n 2, 1) := by decide +kernel
theorem dX0_takeAway_5 : decode cX0_takeAway 5 = .ok (.aload_n 0, 1) := by decide +kernel
theorem dX0_takeAway_6 : decode cX0_takeAway 6 = .ok (.getfield 15, 3) := by decide +kernel
theorem dX0_takeAway_9 : decode cX0_takeAway 9 = .ok (.arraylength, 1) := by decide +kernel
theorem dX0_takeAway_10 : decode cX0_takeAway 10 = .ok (.if_icmp .ge 47, 3) := by decide +kernel
theorem dX0_takeAway_13 : decode cX0_takeAway 13 = .ok (.iload_n 2, 1) := by decide +kernel
theorem dX0_takeAway_14 : decode cX0_takeAway 14 = .ok (.aload_n 0, 1) := by decide +kernel
theorem dX0_takeAway_15 : decode cX0_takeAway 15 = .ok (.getfield 9, 3) := by decide +kernel
theorem dX0_takeAway_18 : decode cX0_takeAway 18 = .ok (.arraylength, 1) := by decide +kernel
theorem dX0_takeAway_19 : decode cX0_takeAway 19 = .ok (.if_icmp .ge 38, 3) := by decide +kernel
theorem dX0_takeAway_22 : decode cX0_takeAway 22 = .ok (.iload_n 1, 1) := by decide +kernel
theorem dX0_takeAway_23 : decode cX0_takeAway 23 = .ok (.aload_n 0, 1) := by decide +kernel
theorem dX0_takeAway_24 : decode cX0_takeAway 24 = .ok (.getfield 15, 3) := by decide +kernel
theorem dX0_takeAway_27 : decode cX0_takeAway 27 = .ok (.iload_n 2, 1) := by decide +kernel
theorem dX0_takeAway_28 : decode cX0_takeAway 28 = .ok (.iaload, 1) := by decide +kernel
theorem dX0_takeAway_29 : decode cX0_takeAway 29 = .ok (.invokestatic 41, 3) := by decide +kernel
theorem dX0_takeAway_32 : decode cX0_takeAway 32 = .ok (.iadd, 1) := by decide +kernel
theorem dX0_takeAway_33 : decode cX0_takeAway 33 = .ok (.istore_n 1, 1) := by decide +kernel
theorem dX0_takeAway_34 : decode cX0_takeAway 34 = .ok (.aload_n 0, 1) := by decide +kernel
theorem dX0_takeAway_35 : decode cX0_takeAway 35 = .ok (.getfield 9, 3) := by decide +kernel
theorem dX0_takeAway_38 : decode cX0_takeAway 38 = .ok (.iload_n 2, 1) := by decide +kernel
theorem dX0_takeAway_39 : decode cX0_takeAway 39 = .ok (.dup2, 1) := by decide +kernel
theorem dX0_takeAway_40 : decode cX0_takeAway 40 = .ok (.iaload, 1) := by decide +kernel
theorem dX0_takeAway_41 : decode cX0_takeAway 41 = .ok (.aload_n 0, 1) := by decide +kernel
theorem dX0_takeAway_42 : decode cX0_takeAway 42 = .ok (.getfield 15, 3) := by decide +kernel
theorem dX0_takeAway_45 : decode cX0_takeAway 45 = .ok (.iload_n 2, 1) := by decide +kernel
theorem dX0_takeAway_46 : decode cX0_takeAway 46 = .ok (.iaload, 1) := by decide +kernel
theorem dX0_takeAway_47 : decode cX0_takeAway 47 = .ok (.iconst (-1), 1) := by decide +kernel
theorem dX0_takeAway_48 : decode cX0_takeAway 48 = .ok (.ixor, 1) := by decide +kernel
theorem dX0_takeAway_49 : decode cX0_takeAway 49 = .ok (.iand, 1) := by decide +kernel
theorem dX0_takeAway_50 : decode cX0_takeAway 50 = .ok (.iastore, 1) := by decide +kernel
theorem dX0_takeAway_51 : decode cX0_takeAway 51 = .ok (.iinc 2 1, 3) := by decide +kernel
theorem dX0_takeAway_54 : decode cX0_takeAway 54 = .ok (.goto (-50), 3) := by decide +kernel
theorem dX0_takeAway_57 : decode cX0_takeAway 57 = .ok (.iload_n 1, 1) := by decide +kernel
theorem dX0_takeAway_58 : decode cX0_takeAway 58 = .ok (.ireturn, 1) := by decide +kernel
theorem dX1_init_0 : decode cX1_init 0 = .ok (.aload_n 0, 1) := by decide +kernel
theorem dX1_init_1 : decode cX1_init 1 = .ok (.invokespecial 3, 3) := by decide +kernel
theorem dX1_init_4 : decode cX1_init 4 = .ok (.aload_n 0, 1) := by decide +kernel
theorem dX1_init_5 : decode cX1_init 5 = .ok (.bipush 12, 2) := by decide +kernel
theorem dX1_init_7 : decode cX1_init 7 = .ok (.newarray .int, 2) := by decide +kernel
theorem dX1_init_9 : decode cX1_init 9 = .ok (.putfield 9, 3) := by decide +kernel
theorem dX1_init_12 : decode cX1_init 12 = .ok (.aload_n 0, 1) := by decide +kernel
theorem dX1_init_13 : decode cX1_init 13 = .ok (.bipush 12, 2) := by decide +kernel
theorem dX1_init_15 : decode cX1_init 15 = .ok (.newarray .int, 2) := by decide +kernel
theorem dX1_init_17 : decode cX1_init 17 = .ok (.putfield 15, 3) := by decide +kernel
theorem dX1_init_20 : decode cX1_init 20 = .ok (.aload_n 0, 1) := by decide +kernel
theorem dX1_init_21 : decode cX1_init 21 = .ok (.sipush 144, 3) := by decide +kernel
theorem dX1_init_24 : decode cX1_init 24 = .ok (.newarray .int, 2) := by decide +kernel
theorem dX1_init_26 : decode cX1_init 26 = .ok (.putfield 18, 3) := by decide +kernel
theorem dX1_init_29 : decode cX1_init 29 = .ok (.return_, 1) := by decide +kernel
set_option maxRecDepth 20000 in
theorem ggX1_layClear_J7_fill_53178 : GoodIn wsX1_layClear wsJ7_fill_53178 := goodIn_r _ [8] (by decide +kernel) (by decide +kernel)
set_option maxRecDepth 20000 in
theorem gX1_layClear_J7_fill_53178 : GoodIn wsX1_layClear (va_wsS RX1 28 yJ7_fill_53178 wsJ7_fill_53178) := goodIn_app (goodIn_of _ (by decide +kernel)) ggX1_layClear_J7_fill_53178
theorem dX1_layClear_0 : decode cX1_layClear 0 = .ok (.aload_n 0, 1) := by decide +kernel
theorem dX1_layClear_1 : decode cX1_layClear 1 = .ok (.iload_n 1, 1) := by decide +kernel
theorem dX1_layClear_2 : decode cX1_layClear 2 = .ok (.putfield 21, 3) := by decide +kernel
theorem dX1_layClear_5 : decode cX1_layClear 5 = .ok (.aload_n 0, 1) := by decide +kernel
theorem dX1_layClear_6 : decode cX1_layClear 6 = .ok (.iload_n 2, 1) := by decide +kernel
theorem dX1_layClear_7 : decode cX1_layClear 7 = .ok (.putfield 25, 3) := by decide +kernel
theorem dX1_layClear_10 : decode cX1_layClear 10 = .ok (.aload_n 0, 1) := by decide +kernel
theorem dX1_layClear_11 : decode cX1_layClear 11 = .ok (.getfield 9, 3) := by decide +kernel
theorem dX1_layClear_14 : decode cX1_layClear 14 = .ok (.iconst 0, 1) := by decide +kernel
theorem dX1_layClear_15 : decode cX1_layClear 15 = .ok (.invokestatic 28, 3) := by decide +kernel
theorem dX1_layClear_18 : decode cX1_layClear 18 = .ok (.aload_n 0, 1) := by decide +kernel
theorem dX1_layClear_19 : decode cX1_layClear 19 = .ok (.getfield 18, 3) := by decide +kernel
theorem dX1_layClear_22 : decode cX1_layClear 22 = .ok (.iconst 0, 1) := by decide +kernel
theorem dX1_layClear_23 : decode cX1_layClear 23 = .ok (.invokestatic 28, 3) := by decide +kernel
theorem dX1_layClear_26 : decode cX1_layClear 26 = .ok (.return_, 1) := by decide +kernel
theorem dX1_becomeLike_0 : decode cX1_becomeLike 0 = .ok (.aload_n 1, 1) := by decide +kernel
theorem dX1_becomeLike_1 : decode cX1_becomeLike 1 = .ok (.ifnonnull 4, 3) := by decide +kernel
theorem dX1_becomeLike_4 : decode cX1_becomeLike 4 = .ok (.return_, 1) := by decide +kernel
theorem dX1_becomeLike_5 : decode cX1_becomeLike 5 = .ok (.aload_n 0, 1) := by decide +kernel
theorem dX1_becomeLike_6 : decode cX1_becomeLike 6 = .ok (.aload_n 1, 1) := by decide +kernel
theorem dX1_becomeLike_7 : decode cX1_becomeLike 7 = .ok (.getfield 21, 3) := by decide +kernel
theorem dX1_becomeLike_10 : decode cX1_becomeLike 10 = .ok (.putfield 21, 3) := by decide +kernel
theorem dX1_becomeLike_13 : decode cX1_becomeLike 13 = .ok (.aload_n 0, 1) := by decide +kernel
theorem dX1_becomeLike_14 : decode cX1_becomeLike 14 = .ok (.aload_n 1, 1) := by decide +kernel
theorem dX1_becomeLike_15 : decode cX1_becomeLike 15 = .ok (.getfield 25, 3) := by decide +kernel
theorem dX1_becomeLike_18 : decode cX1_becomeLike 18 = .ok (.putfield 25, 3) := by decide +kernel
theorem dX1_becomeLike_21 : decode cX1_becomeLike 21 = .ok (.aload_n 0, 1) := by decide +kernel
theorem dX1_becomeLike_22 : decode cX1_becomeLike 22 = .ok (.aload_n 1, 1) := by decide +kernel
theorem dX1_becomeLike_23 : decode cX1_becomeLike 23 = .ok (.getfield 34, 3) := by decide +kernel
theorem dX1_becomeLike_26 : decode cX1_becomeLike 26 = .ok (.putfield 34, 3) := by decide +kernel
theorem dX1_becomeLike_29 : decode cX1_becomeLike 29 = .ok (.aload_n 1, 1) := by decide +kernel
theorem dX1_becomeLike_30 : decode cX1_becomeLike 30 = .ok (.getfield 9, 3) := by decide +kernel
theorem dX1_becomeLike_33 : decode cX1_becomeLike 33 = .ok (.iconst 0, 1) := by decide +kernel
theorem dX1_becomeLike_34 : decode cX1_becomeLike 34 = .ok (.aload_n 0, 1) := by decide +kernel
theorem dX1_becomeLike_35 : decode cX1_becomeLike 35 = .ok (.getfield 9, 3) := by decide +kernel
theorem dX1_becomeLike_38 : decode cX1_becomeLike 38 = .ok (.iconst 0, 1) := by decide +kernel
theorem dX1_becomeLike_39 : decode cX1_becomeLike 39 = .ok (.aload_n 1, 1) := by decide +kernel
theorem dX1_becomeLike_40 : decode cX1_becomeLike 40 = .ok (.getfield 9, 3) := by decide +kernel
theorem dX1_becomeLike_43 : decode cX1_becomeLike 43 = .ok (.arraylength, 1) := by decide +kernel
theorem dX1_becomeLike_44 : decode cX1_becomeLike 44 = .ok (.aload_n 0, 1) := by decide +kernel
theorem dX1_becomeLike_45 : decode cX1_becomeLike 45 = .ok (.getfield 9, 3) := by decide +kernel
theorem dX1_becomeLike_48 : decode cX1_becomeLike 48 = .ok (.arraylength, 1) := by decide +kernel
theorem dX1_becomeLike_49 : decode cX1_becomeLike 49 = .ok (.invokestatic 37, 3) := by decide +kernel
theorem dX1_becomeLike_52 : decode cX1_becomeLike 52 = .ok (.invokestatic 43, 3) := by decide +kernel
theorem dX1_becomeLike_55 : decode cX1_becomeLike 55 = .ok (.aload_n 1, 1) := by decide +kernel
theorem dX1_becomeLike_56 : decode cX1_becomeLike 56 = .ok (.getfield 18, 3) := by decide +kernel
theorem dX1_becomeLike_59 : decode cX1_becomeLike 59 = .ok (.iconst 0, 1) := by decide +kernel
theorem dX1_becomeLike_60 : decode cX1_becomeLike 60 = .ok (.aload_n 0, 1) := by decide +kernel
theorem dX1_becomeLike_61 : decode cX1_becomeLike 61 = .ok (.getfield 18, 3) := by decide +kernel
theorem dX1_becomeLike_64 : decode cX1_becomeLike 64 = .ok (.iconst 0, 1) := by decide +kernel
theorem dX1_becomeLike_65 : decode cX1_becomeLike 65 = .ok (.aload_n 1, 1) := by decide +kernel
theorem dX1_becomeLike_66 : decode cX1_becomeLike 66 = .ok (.getfield 18, 3) := by decide +kernel
theorem dX1_becomeLike_69 : decode cX1_becomeLike 69 = .ok (.arraylength, 1) := by decide +kernel
theorem dX1_becomeLike_70 : decode cX1_becomeLike 70 = .ok (.aload_n 0, 1) := by decide +kernel
theorem dX1_becomeLike_71 : decode cX1_becomeLike 71 = .ok (.getfield 18, 3) := by decide +kernel
theorem dX1_becomeLike_74 : decode cX1_becomeLike 74 = .ok (.arraylength, 1) := by decide +kernel
theorem dX1_becomeLike_75 : decode cX1_becomeLike 75 = .ok (.invokestatic 37, 3) := by decide +kernel
theorem dX1_becomeLike_78 : decode cX1_becomeLike 78 = .ok (.invokestatic 43, 3) := by decide +kernel
theorem dX1_becomeLike_81 : decode cX1_becomeLike 81 = .ok (.return_, 1) := by decide +kernel
set_option maxRecDepth 20000 in
theorem ggX1_isLike_X1_bitsOf : GoodIn wsX1_isLike wsX1_bitsOf := goodIn_r _ [7, 8, 14, 15, 16, 17, 18, 19] (by decide +kernel) (by decide +kernel)
set_option maxRecDepth 20000 in
theorem gX1_isLike_X1_bitsOf : GoodIn wsX1_isLike (wsV RX1 49 RX1 yX1_bitsOf wsX1_bitsOf) := goodIn_app (goodIn_of _ (by decide +kernel)) ggX1_isLike_X1_bitsOf
set_option maxRecDepth 20000 in
theorem ggX1_isLike_X1_meltOf : GoodIn wsX1_isLike wsX1_meltOf := goodIn_r _ [12, 13, 14, 15, 16, 17, 18, 19] (by decide +kernel) (by decide +kernel)
set_option maxRecDepth 20000 in
theorem gX1_isLike_X1_meltOf : GoodIn wsX1_isLike (wsV RX1 53 RX1 yX1_meltOf wsX1_meltOf) := goodIn_app (goodIn_of _ (by decide +kernel)) ggX1_isLike_X1_meltOf
theorem dX1_isLike_0 : decode cX1_isLike 0 = .ok (.aload_n 1, 1) := by decide +kernel
theorem dX1_isLike_1 : decode cX1_isLike 1 = .ok (.ifnonnull 5, 3) := by decide +kernel
theorem dX1_isLike_4 : decode cX1_isLike 4 = .ok (.iconst 0, 1) := by decide +kernel
theorem dX1_isLike_5 : decode cX1_isLike 5 = .ok (.ireturn, 1) := by decide +kernel
theorem dX1_isLike_6 : decode cX1_isLike 6 = .ok (.iconst 0, 1) := by decide +kernel
theorem dX1_isLike_7 : decode cX1_isLike 7 = .ok (.istore_n 2, 1) := by decide +kernel
theorem dX1_isLike_8 : decode cX1_isLike 8 = .ok (.iload_n 2, 1) := by decide +kernel
theorem dX1_isLike_9 : decode cX1_isLike 9 = .ok (.aload_n 0, 1) := by decide +kernel
theorem dX1_isLike_10 : decode cX1_isLike 10 = .ok (.getfield 25, 3) := by decide +kernel
theorem dX1_isLike_13 : decode cX1_isLike 13 = .ok (.if_icmp .ge 57, 3) := by decide +kernel
theorem dX1_isLike_16 : decode cX1_isLike 16 = .ok (.aload_n 0, 1) := by decide +kernel
theorem dX1_isLike_17 : decode cX1_isLike 17 = .ok (.iload_n 2, 1) := by decide +kernel
theorem dX1_isLike_18 : decode cX1_isLike 18 = .ok (.invokevirtual 49, 3) := by decide +kernel
theorem dX1_isLike_21 : decode cX1_isLike 21 = .ok (.aload_n 1, 1) := by decide +kernel
theorem dX1_isLike_22 : decode cX1_isLike 22 = .ok (.iload_n 2, 1) := by decide +kernel
theorem dX1_isLike_23 : decode cX1_isLike 23 = .ok (.invokevirtual 49, 3) := by decide +kernel
theorem dX1_isLike_26 : decode cX1_isLike 26 = .ok (.if_icmp .eq 5, 3) := by decide +kernel
theorem dX1_isLike_29 : decode cX1_isLike 29 = .ok (.iconst 0, 1) := by decide +kernel
theorem dX1_isLike_30 : decode cX1_isLike 30 = .ok (.ireturn, 1) := by decide +kernel
theorem dX1_isLike_31 : decode cX1_isLike 31 = .ok (.iconst 0, 1) := by decide +kernel
theorem dX1_isLike_32 : decode cX1_isLike 32 = .ok (.istore_n 3, 1) := by decide +kernel
theorem dX1_isLike_33 : decode cX1_isLike 33 = .ok (.iload_n 3, 1) := by decide +kernel
theorem dX1_isLike_34 : decode cX1_isLike 34 = .ok (.aload_n 0, 1) := by decide +kernel
theorem dX1_isLike_35 : decode cX1_isLike 35 = .ok (.getfield 21, 3) := by decide +kernel
theorem dX1_isLike_38 : decode cX1_isLike 38 = .ok (.if_icmp .ge 26, 3) := by decide +kernel
theorem dX1_isLike_41 : decode cX1_isLike 41 = .ok (.aload_n 0, 1) := by decide +kernel
theorem dX1_isLike_42 : decode cX1_isLike 42 = .ok (.iload_n 3, 1) := by decide +kernel
theorem dX1_isLike_43 : decode cX1_isLike 43 = .ok (.iload_n 2, 1) := by decide +kernel
theorem dX1_isLike_44 : decode cX1_isLike 44 = .ok (.invokevirtual 53, 3) := by decide +kernel
theorem dX1_isLike_47 : decode cX1_isLike 47 = .ok (.aload_n 1, 1) := by decide +kernel
theorem dX1_isLike_48 : decode cX1_isLike 48 = .ok (.iload_n 3, 1) := by decide +kernel
theorem dX1_isLike_49 : decode cX1_isLike 49 = .ok (.iload_n 2, 1) := by decide +kernel
theorem dX1_isLike_50 : decode cX1_isLike 50 = .ok (.invokevirtual 53, 3) := by decide +kernel
theorem dX1_isLike_53 : decode cX1_isLike 53 = .ok (.if_icmp .eq 5, 3) := by decide +kernel
theorem dX1_isLike_56 : decode cX1_isLike 56 = .ok (.iconst 0, 1) := by decide +kernel
theorem dX1_isLike_57 : decode cX1_isLike 57 = .ok (.ireturn, 1) := by decide +kernel
theorem dX1_isLike_58 : decode cX1_isLike 58 = .ok (.iinc 3 1, 3) := by decide +kernel
theorem dX1_isLike_61 : decode cX1_isLike 61 = .ok (.goto (-28), 3) := by decide +kernel
theorem dX1_isLike_64 : decode cX1_isLike 64 = .ok (.iinc 2 1, 3) := by decide +kernel
theorem dX1_isLike_67 : decode cX1_isLike 67 = .ok (.goto (-59), 3) := by decide +kernel
theorem dX1_isLike_70 : decode cX1_isLike 70 = .ok (.iconst 1, 1) := by decide +kernel
theorem dX1_isLike_71 : decode cX1_isLike 71 = .ok (.ireturn, 1) := by decide +kernel
theorem dX1_hasRow_0 : decode cX1_hasRow 0 = .ok (.iload_n 1, 1) := by decide +kernel
theorem dX1_hasRow_1 : decode cX1_hasRow 1 = .ok (.ifCond .lt 15, 3) := by decide +kernel
theorem dX1_hasRow_4 : decode cX1_hasRow 4 = .ok (.iload_n 1, 1) := by decide +kernel
theorem dX1_hasRow_5 : decode cX1_hasRow 5 = .ok (.aload_n 0, 1) := by decide +kernel
theorem dX1_hasRow_6 : decode cX1_hasRow 6 = .ok (.getfield 25, 3) := by decide +kernel
theorem dX1_hasRow_9 : decode cX1_hasRow 9 = .ok (.if_icmp .ge 7, 3) := by decide +kernel
theorem dX1_hasRow_12 : decode cX1_hasRow 12 = .ok (.iconst 1, 1) := by decide +kernel
theorem dX1_hasRow_13 : decode cX1_hasRow 13 = .ok (.goto 4, 3) := by decide +kernel
theorem dX1_hasRow_16 : decode cX1_hasRow 16 = .ok (.iconst 0, 1) := by decide +kernel
theorem dX1_hasRow_17 : decode cX1_hasRow 17 = .ok (.ireturn, 1) := by decide +kernel
set_option maxRecDepth 20000 in
theorem ggX1_hasCell_X1_hasRow : GoodIn wsX1_hasCell wsX1_hasRow := goodIn_r _ [6, 7, 8, 9, 10, 11, 12, 13] (by decide +kernel) (by decide +kernel)
set_option maxRecDepth 20000 in
theorem gX1_hasCell_X1_hasRow : GoodIn wsX1_hasCell (wsV RX1 56 RX1 yX1_hasRow wsX1_hasRow) := goodIn_app (goodIn_of _ (by decide +kernel)) ggX1_hasCell_X1_hasRow
theorem dX1_hasCell_0 : decode cX1_hasCell 0 = .ok (.iload_n 1, 1) := by decide +kernel
theorem dX1_hasCell_1 : decode cX1_hasCell 1 = .ok (.ifCond .lt 23, 3) := by decide +kernel
theorem dX1_hasCell_4 : decode cX1_hasCell 4 = .ok (.iload_n 1, 1) := by decide +kernel
theorem dX1_hasCell_5 : decode cX1_hasCell 5 = .ok (.aload_n 0, 1) := by decide +kernel
theorem dX1_hasCell_6 : decode cX1_hasCell 6 = .ok (.getfield 21, 3) := by decide +kernel
theorem dX1_hasCell_9 : decode cX1_hasCell 9 = .ok (.if_icmp .ge 15, 3) := by decide +kernel
theorem dX1_hasCell_12 : decode cX1_hasCell 12 = .ok (.aload_n 0, 1) := by decide +kernel
theorem dX1_hasCell_13 : decode cX1_hasCell 13 = .ok (.iload_n 2, 1) := by decide +kernel
theorem dX1_hasCell_14 : decode cX1_hasCell 14 = .ok (.invokevirtual 56, 3) := by decide +kernel
theorem dX1_hasCell_17 : decode cX1_hasCell 17 = .ok (.ifCond .eq 7, 3) := by decide +kernel
theorem dX1_hasCell_20 : decode cX1_hasCell 20 = .ok (.iconst 1, 1) := by decide +kernel
theorem dX1_hasCell_21 : decode cX1_hasCell 21 = .ok (.goto 4, 3) := by decide +kernel
theorem dX1_hasCell_24 : decode cX1_hasCell 24 = .ok (.iconst 0, 1) := by decide +kernel
theorem dX1_hasCell_25 : decode cX1_hasCell 25 = .ok (.ireturn, 1) := by decide +kernel
theorem dX1_bitsOf_0 : decode cX1_bitsOf 0 = .ok (.iload_n 1, 1) := by decide +kernel
theorem dX1_bitsOf_1 : decode cX1_bitsOf 1 = .ok (.ifCond .lt 21, 3) := by decide +kernel
theorem dX1_bitsOf_4 : decode cX1_bitsOf 4 = .ok (.iload_n 1, 1) := by decide +kernel
theorem dX1_bitsOf_5 : decode cX1_bitsOf 5 = .ok (.aload_n 0, 1) := by decide +kernel
theorem dX1_bitsOf_6 : decode cX1_bitsOf 6 = .ok (.getfield 9, 3) := by decide +kernel
theorem dX1_bitsOf_9 : decode cX1_bitsOf 9 = .ok (.arraylength, 1) := by decide +kernel
theorem dX1_bitsOf_10 : decode cX1_bitsOf 10 = .ok (.if_icmp .ge 12, 3) := by decide +kernel
theorem dX1_bitsOf_13 : decode cX1_bitsOf 13 = .ok (.aload_n 0, 1) := by decide +kernel
theorem dX1_bitsOf_14 : decode cX1_bitsOf 14 = .ok (.getfield 9, 3) := by decide +kernel
theorem dX1_bitsOf_17 : decode cX1_bitsOf 17 = .ok (.iload_n 1, 1) := by decide +kernel
theorem dX1_bitsOf_18 : decode cX1_bitsOf 18 = .ok (.iaload, 1) := by decide +kernel
theorem dX1_bitsOf_19 : decode cX1_bitsOf 19 = .ok (.goto 4, 3) := by decide +kernel
theorem dX1_bitsOf_22 : decode cX1_bitsOf 22 = .ok (.iconst 0, 1) := by decide +kernel
theorem dX1_bitsOf_23 : decode cX1_bitsOf 23 = .ok (.ireturn, 1) := by decide +kernel
set_option maxRecDepth 20000 in
theorem ggX1_hasFrost_X1_bitsOf : GoodIn wsX1_hasFrost wsX1_bitsOf := goodIn_r _ [5, 6, 7, 8, 9, 10, 11, 12] (by decide +kernel) (by decide +kernel)
set_option maxRecDepth 20000 in
theorem gX1_hasFrost_X1_bitsOf : GoodIn wsX1_hasFrost (wsV RX1 49 RX1 yX1_bitsOf wsX1_bitsOf) := goodIn_app (goodIn_of _ (by decide +kernel)) ggX1_hasFrost_X1_bitsOf
theorem dX1_hasFrost_0 : decode cX1_hasFrost 0 = .ok (.aload_n 0, 1) := by decide +kernel
theorem dX1_hasFrost_1 : decode cX1_hasFrost 1 = .ok (.iload_n 2, 1) := by decide +kernel
theorem dX1_hasFrost_2 : decode cX1_hasFrost 2 = .ok (.invokevirtual 49, 3) := by decide +kernel
theorem dX1_hasFrost_5 : decode cX1_hasFrost 5 = .ok (.iload_n 1, 1) := by decide +kernel
theorem dX1_hasFrost_6 : decode cX1_hasFrost 6 = .ok (.ishr, 1) := by decide +kernel
theorem dX1_hasFrost_7 : decode cX1_hasFrost 7 = .ok (.iconst 1, 1) := by decide +kernel
theorem dX1_hasFrost_8 : decode cX1_hasFrost 8 = .ok (.iand, 1) := by decide +kernel
theorem dX1_hasFrost_9 : decode cX1_hasFrost 9 = .ok (.iconst 1, 1) := by decide +kernel
theorem dX1_hasFrost_10 : decode cX1_hasFrost 10 = .ok (.if_icmp .ne 7, 3) := by decide +kernel
theorem dX1_hasFrost_13 : decode cX1_hasFrost 13 = .ok (.iconst 1, 1) := by decide +kernel
theorem dX1_hasFrost_14 : decode cX1_hasFrost 14 = .ok (.goto 4, 3) := by decide +kernel
theorem dX1_hasFrost_17 : decode cX1_hasFrost 17 = .ok (.iconst 0, 1) := by decide +kernel
theorem dX1_hasFrost_18 : decode cX1_hasFrost 18 = .ok (.ireturn, 1) := by decide +kernel
theorem dX1_meltOf_0 : decode cX1_meltOf 0 = .ok (.iload_n 2, 1) := by decide +kernel
theorem dX1_meltOf_1 : decode cX1_meltOf 1 = .ok (.bipush 12, 2) := by decide +kernel
theorem dX1_meltOf_3 : decode cX1_meltOf 3 = .ok (.imul, 1) := by decide +kernel
theorem dX1_meltOf_4 : decode cX1_meltOf 4 = .ok (.iload_n 1, 1) := by decide +kernel
theorem dX1_meltOf_5 : decode cX1_meltOf 5 = .ok (.iadd, 1) := by decide +kernel
theorem dX1_meltOf_6 : decode cX1_meltOf 6 = .ok (.istore_n 3, 1) := by decide +kernel
theorem dX1_meltOf_7 : decode cX1_meltOf 7 = .ok (.iload_n 3, 1) := by decide +kernel
theorem dX1_meltOf_8 : decode cX1_meltOf 8 = .ok (.ifCond .lt 21, 3) := by decide +kernel
theorem dX1_meltOf_11 : decode cX1_meltOf 11 = .ok (.iload_n 3, 1) := by decide +kernel
theorem dX1_meltOf_12 : decode cX1_meltOf 12 = .ok (.aload_n 0, 1) := by decide +kernel
theorem dX1_meltOf_13 : decode cX1_meltOf 13 = .ok (.getfield 18, 3) := by decide +kernel
theorem dX1_meltOf_16 : decode cX1_meltOf 16 = .ok (.arraylength, 1) := by decide +kernel
theorem dX1_meltOf_17 : decode cX1_meltOf 17 = .ok (.if_icmp .ge 12, 3) := by decide +kernel
theorem dX1_meltOf_20 : decode cX1_meltOf 20 = .ok (.aload_n 0, 1) := by decide +kernel
theorem dX1_meltOf_21 : decode cX1_meltOf 21 = .ok (.getfield 18, 3) := by decide +kernel
theorem dX1_meltOf_24 : decode cX1_meltOf 24 = .ok (.iload_n 3, 1) := by decide +kernel
theorem dX1_meltOf_25 : decode cX1_meltOf 25 = .ok (.iaload, 1) := by decide +kernel
theorem dX1_meltOf_26 : decode cX1_meltOf 26 = .ok (.goto 4, 3) := by decide +kernel
theorem dX1_meltOf_29 : decode cX1_meltOf 29 = .ok (.iconst 0, 1) := by decide +kernel
theorem dX1_meltOf_30 : decode cX1_meltOf 30 = .ok (.ireturn, 1) := by decide +kernel
set_option maxRecDepth 20000 in
theorem ggX1_flip_X1_hasCell : GoodIn wsX1_flip wsX1_hasCell := goodIn_r _ [6, 7, 8, 9, 10, 5, 11, 12, 13, 14, 15, 16, 17, 18] (by decide +kernel) (by decide +kernel)
set_option maxRecDepth 20000 in
theorem gX1_flip_X1_hasCell : GoodIn wsX1_flip (wsV RX1 60 RX1 yX1_hasCell wsX1_hasCell) := goodIn_app (goodIn_of _ (by decide +kernel)) ggX1_flip_X1_hasCell
theorem dX1_flip_0 : decode cX1_flip 0 = .ok (.aload_n 0, 1) := by decide +kernel
theorem dX1_flip_1 : decode cX1_flip 1 = .ok (.iload_n 1, 1) := by decide +kernel
theorem dX1_flip_2 : decode cX1_flip 2 = .ok (.iload_n 2, 1) := by decide +kernel
theorem dX1_flip_3 : decode cX1_flip 3 = .ok (.invokevirtual 60, 3) := by decide +kernel
theorem dX1_flip_6 : decode cX1_flip 6 = .ok (.ifCond .eq 24, 3) := by decide +kernel
theorem dX1_flip_9 : decode cX1_flip 9 = .ok (.iload_n 2, 1) := by decide +kernel
theorem dX1_flip_10 : decode cX1_flip 10 = .ok (.aload_n 0, 1) := by decide +kernel
theorem dX1_flip_11 : decode cX1_flip 11 = .ok (.getfield 9, 3) := by decide +kernel
theorem dX1_flip_14 : decode cX1_flip 14 = .ok (.arraylength, 1) := by decide +kernel
theorem dX1_flip_15 : decode cX1_flip 15 = .ok (.if_icmp .ge 15, 3) := by decide +kernel
theorem dX1_flip_18 : decode cX1_flip 18 = .ok (.aload_n 0, 1) := by decide +kernel
theorem dX1_flip_19 : decode cX1_flip 19 = .ok (.getfield 9, 3) := by decide +kernel
theorem dX1_flip_22 : decode cX1_flip 22 = .ok (.iload_n 2, 1) := by decide +kernel
theorem dX1_flip_23 : decode cX1_flip 23 = .ok (.dup2, 1) := by decide +kernel
theorem dX1_flip_24 : decode cX1_flip 24 = .ok (.iaload, 1) := by decide +kernel
theorem dX1_flip_25 : decode cX1_flip 25 = .ok (.iconst 1, 1) := by decide +kernel
theorem dX1_flip_26 : decode cX1_flip 26 = .ok (.iload_n 1, 1) := by decide +kernel
theorem dX1_flip_27 : decode cX1_flip 27 = .ok (.ishl, 1) := by decide +kernel
theorem dX1_flip_28 : decode cX1_flip 28 = .ok (.ixor, 1) := by decide +kernel
theorem dX1_flip_29 : decode cX1_flip 29 = .ok (.iastore, 1) := by decide +kernel
theorem dX1_flip_30 : decode cX1_flip 30 = .ok (.return_, 1) := by decide +kernel
set_option maxRecDepth 20000 in
theorem ggX1_melt_X1_hasCell : GoodIn wsX1_melt wsX1_hasCell := goodIn_r _ [6, 7, 8, 9, 10, 5, 11, 12, 26, 27, 28, 29, 30, 31] (by decide +kernel) (by decide +kernel)
set_option maxRecDepth 20000 in
theorem gX1_melt_X1_hasCell : GoodIn wsX1_melt (wsV RX1 60 RX1 yX1_hasCell wsX1_hasCell) := goodIn_app (goodIn_of _ (by decide +kernel)) ggX1_melt_X1_hasCell
set_option maxRecDepth 20000 in
theorem ggX1_melt_X1_hasFrost : GoodIn wsX1_melt wsX1_hasFrost := goodIn_r _ [16, 17, 18, 19, 5, 20, 21, 26, 27, 28, 29, 30, 31] (by decide +kernel) (by decide +kernel)
set_option maxRecDepth 20000 in
theorem gX1_melt_X1_hasFrost : GoodIn wsX1_melt (wsV RX1 64 RX1 yX1_hasFrost wsX1_hasFrost) := goodIn_app (goodIn_of _ (by decide +kernel)) ggX1_melt_X1_hasFrost
set_option maxRecDepth 20000 in
theorem ggX1_melt_X1_flip : GoodIn wsX1_melt wsX1_flip := goodIn_r _ [25, 21, 2, 3, 4, 5, 6, 7, 8, 9, 10, 11, 12, 26, 27, 28, 29, 30, 31] (by decide +kernel) (by decide +kernel)
set_option maxRecDepth 20000 in
theorem gX1_melt_X1_flip : GoodIn wsX1_melt (wsV RX1 67 RX1 yX1_flip wsX1_flip) := goodIn_app (goodIn_of _ (by decide +kernel)) ggX1_melt_X1_flip
theorem dX1_melt_0 : decode cX1_melt 0 = .ok (.aload_n 0, 1) := by decide +kernel
theorem dX1_melt_1 : decode cX1_melt 1 = .ok (.iload_n 1, 1) := by decide +kernel
theorem dX1_melt_2 : decode cX1_melt 2 = .ok (.iload_n 2, 1) := by decide +kernel
theorem dX1_melt_3 : decode cX1_melt 3 = .ok (.invokevirtual 60, 3) := by decide +kernel
theorem dX1_melt_6 : decode cX1_melt 6 = .ok (.ifCond .ne 5, 3) := by decide +kernel
theorem dX1_melt_9 : decode cX1_melt 9 = .ok (.iconst 0, 1) := by decide +kernel
theorem dX1_melt_10 : decode cX1_melt 10 = .ok (.ireturn, 1) := by decide +kernel
theorem dX1_melt_11 : decode cX1_melt 11 = .ok (.aload_n 0, 1) := by decide +kernel
theorem dX1_melt_12 : decode cX1_melt 12 = .ok (.iload_n 1, 1) := by decide +kernel
theorem dX1_melt_13 : decode cX1_melt 13 = .ok (.iload_n 2, 1) := by decide +kernel
theorem dX1_melt_14 : decode cX1_melt 14 = .ok (.invokevirtual 64, 3) := by decide +kernel
theorem dX1_melt_17 : decode cX1_melt 17 = .ok (.ifCond .eq 7, 3) := by decide +kernel
theorem dX1_melt_20 : decode cX1_melt 20 = .ok (.iconst 1, 1) := by decide +kernel
theorem dX1_melt_21 : decode cX1_melt 21 = .ok (.goto 4, 3) := by decide +kernel
theorem dX1_melt_24 : decode cX1_melt 24 = .ok (.iconst 0, 1) := by decide +kernel
theorem dX1_melt_25 : decode cX1_melt 25 = .ok (.istore 4, 2) := by decide +kernel
theorem dX1_melt_27 : decode cX1_melt 27 = .ok (.iload 4, 2) := by decide +kernel
theorem dX1_melt_29 : decode cX1_melt 29 = .ok (.iconst 1, 1) := by decide +kernel
theorem dX1_melt_30 : decode cX1_melt 30 = .ok (.if_icmp .ne 9, 3) := by decide +kernel
theorem dX1_melt_33 : decode cX1_melt 33 = .ok (.aload_n 0, 1) := by decide +kernel
theorem dX1_melt_34 : decode cX1_melt 34 = .ok (.iload_n 1, 1) := by decide +kernel
theorem dX1_melt_35 : decode cX1_melt 35 = .ok (.iload_n 2, 1) := by decide +kernel
theorem dX1_melt_36 : decode cX1_melt 36 = .ok (.invokevirtual 67, 3) := by decide +kernel
theorem dX1_melt_39 : decode cX1_melt 39 = .ok (.iload_n 2, 1) := by decide +kernel
theorem dX1_melt_40 : decode cX1_melt 40 = .ok (.bipush 12, 2) := by decide +kernel
theorem dX1_melt_42 : decode cX1_melt 42 = .ok (.imul, 1) := by decide +kernel
theorem dX1_melt_43 : decode cX1_melt 43 = .ok (.iload_n 1, 1) := by decide +kernel
theorem dX1_melt_44 : decode cX1_melt 44 = .ok (.iadd, 1) := by decide +kernel
theorem dX1_melt_45 : decode cX1_melt 45 = .ok (.istore 5, 2) := by decide +kernel
theorem dX1_melt_47 : decode cX1_melt 47 = .ok (.iload 5, 2) := by decide +kernel
theorem dX1_melt_49 : decode cX1_melt 49 = .ok (.ifCond .lt 21, 3) := by decide +kernel
theorem dX1_melt_52 : decode cX1_melt 52 = .ok (.iload 5, 2) := by decide +kernel
theorem dX1_melt_54 : decode cX1_melt 54 = .ok (.aload_n 0, 1) := by decide +kernel
theorem dX1_melt_55 : decode cX1_melt 55 = .ok (.getfield 18, 3) := by decide +kernel
theorem dX1_melt_58 : decode cX1_melt 58 = .ok (.arraylength, 1) := by decide +kernel
theorem dX1_melt_59 : decode cX1_melt 59 = .ok (.if_icmp .ge 11, 3) := by decide +kernel
theorem dX1_melt_62 : decode cX1_melt 62 = .ok (.aload_n 0, 1) := by decide +kernel
theorem dX1_melt_63 : decode cX1_melt 63 = .ok (.getfield 18, 3) := by decide +kernel
theorem dX1_melt_66 : decode cX1_melt 66 = .ok (.iload 5, 2) := by decide +kernel
theorem dX1_melt_68 : decode cX1_melt 68 = .ok (.iload_n 3, 1) := by decide +kernel
theorem dX1_melt_69 : decode cX1_melt 69 = .ok (.iastore, 1) := by decide +kernel
theorem dX1_melt_70 : decode cX1_melt 70 = .ok (.iload 4, 2) := by decide +kernel
theorem dX1_melt_72 : decode cX1_melt 72 = .ok (.ireturn, 1) := by decide +kernel
set_option maxRecDepth 20000 in
theorem ggX1_countFrost_X1_bitsOf : GoodIn wsX1_countFrost wsX1_bitsOf := goodIn_r _ [6, 7, 15, 16, 17, 18, 19, 20] (by decide +kernel) (by decide +kernel)
set_option maxRecDepth 20000 in
theorem gX1_countFrost_X1_bitsOf : GoodIn wsX1_countFrost (wsV RX1 49 RX1 yX1_bitsOf wsX1_bitsOf) := goodIn_app (goodIn_of _ (by decide +kernel)) ggX1_countFrost_X1_bitsOf
set_option maxRecDepth 20000 in
theorem ggX1_countFrost_J6_bitCount_0f7a4 : GoodIn wsX1_countFrost wsJ6_bitCount_0f7a4 := goodIn_r _ [11, 12, 13, 14] (by decide +kernel) (by decide +kernel)
set_option maxRecDepth 20000 in
theorem gX1_countFrost_J6_bitCount_0f7a4 : GoodIn wsX1_countFrost (va_wsS RX1 71 yJ6_bitCount_0f7a4 wsJ6_bitCount_0f7a4) := goodIn_app (goodIn_of _ (by decide +kernel)) ggX1_countFrost_J6_bitCount_0f7a4
theorem dX1_countFrost_0 : decode cX1_countFrost 0 = .ok (.iconst 0, 1) := by decide +kernel
theorem dX1_countFrost_1 : decode cX1_countFrost 1 = .ok (.istore_n 1, 1) := by decide +kernel
theorem dX1_countFrost_2 : decode cX1_countFrost 2 = .ok (.iconst 0, 1) := by decide +kernel
theorem dX1_countFrost_3 : decode cX1_countFrost 3 = .ok (.istore_n 2, 1) := by decide +kernel
theorem dX1_countFrost_4 : decode cX1_countFrost 4 = .ok (.iload_n 2, 1) := by decide +kernel
theorem dX1_countFrost_5 : decode cX1_countFrost 5 = .ok (.aload_n 0, 1) := by decide +kernel
theorem dX1_countFrost_6 : decode cX1_countFrost 6 = .ok (.getfield 25, 3) := by decide +kernel
theorem dX1_countFrost_9 : decode cX1_countFrost 9 = .ok (.if_icmp .ge 20, 3) := by decide +kernel
theorem dX1_countFrost_12 : decode cX1_countFrost 12 = .ok (.iload_n 1, 1) := by decide +kernel
theorem dX1_countFrost_13 : decode cX1_countFrost 13 = .ok (.aload_n 0, 1) := by decide +kernel
theorem dX1_countFrost_14 : decode cX1_countFrost 14 = .ok (.iload_n 2, 1) := by decide +kernel
theorem dX1_countFrost_15 : decode cX1_countFrost 15 = .ok (.invokevirtual 49, 3) := by decide +kernel
theorem dX1_countFrost_18 : decode cX1_countFrost 18 = .ok (.invokestatic 71, 3) := by decide +kernel
theorem dX1_countFrost_21 : decode cX1_countFrost 21 = .ok (.iadd, 1) := by decide +kernel
theorem dX1_countFrost_22 : decode cX1_countFrost 22 = .ok (.istore_n 1, 1) := by decide +kernel
theorem dX1_countFrost_23 : decode cX1_countFrost 23 = .ok (.iinc 2 1, 3) := by decide +kernel
theorem dX1_countFrost_26 : decode cX1_countFrost 26 = .ok (.goto (-22), 3) := by decide +kernel
theorem dX1_countFrost_29 : decode cX1_countFrost 29 = .ok (.iload_n 1, 1) := by decide +kernel
theorem dX1_countFrost_30 : decode cX1_countFrost 30 = .ok (.ireturn, 1) := by decide +kernel
theorem dX1_countMelted_0 : decode cX1_countMelted 0 = .ok (.iconst 0, 1) := by decide +kernel
theorem dX1_countMelted_1 : decode cX1_countMelted 1 = .ok (.istore_n 1, 1) := by decide +kernel
theorem dX1_countMelted_2 : decode cX1_countMelted 2 = .ok (.iconst 0, 1) := by decide +kernel
theorem dX1_countMelted_3 : decode cX1_countMelted 3 = .ok (.istore_n 2, 1) := by decide +kernel
theorem dX1_countMelted_4 : decode cX1_countMelted 4 = .ok (.iload_n 2, 1) := by decide +kernel
theorem dX1_countMelted_5 : decode cX1_countMelted 5 = .ok (.aload_n 0, 1) := by decide +kernel
theorem dX1_countMelted_6 : decode cX1_countMelted 6 = .ok (.getfield 18, 3) := by decide +kernel
theorem dX1_countMelted_9 : decode cX1_countMelted 9 = .ok (.arraylength, 1) := by decide +kernel
theorem dX1_countMelted_10 : decode cX1_countMelted 10 = .ok (.if_icmp .ge 21, 3) := by decide +kernel
theorem dX1_countMelted_13 : decode cX1_countMelted 13 = .ok (.aload_n 0, 1) := by decide +kernel
theorem dX1_countMelted_14 : decode cX1_countMelted 14 = .ok (.getfield 18, 3) := by decide +kernel
theorem dX1_countMelted_17 : decode cX1_countMelted 17 = .ok (.iload_n 2, 1) := by decide +kernel
theorem dX1_countMelted_18 : decode cX1_countMelted 18 = .ok (.iaload, 1) := by decide +kernel
theorem dX1_countMelted_19 : decode cX1_countMelted 19 = .ok (.ifCond .le 6, 3) := by decide +kernel
theorem dX1_countMelted_22 : decode cX1_countMelted 22 = .ok (.iinc 1 1, 3) := by decide +kernel
theorem dX1_countMelted_25 : decode cX1_countMelted 25 = .ok (.iinc 2 1, 3) := by decide +kernel
theorem dX1_countMelted_28 : decode cX1_countMelted 28 = .ok (.goto (-24), 3) := by decide +kernel
theorem dX1_countMelted_31 : decode cX1_countMelted 31 = .ok (.iload_n 1, 1) := by decide +kernel
theorem dX1_countMelted_32 : decode cX1_countMelted 32 = .ok (.ireturn, 1) := by decide +kernel
set_option maxRecDepth 20000 in
theorem ggX1_countAround_X1_framed : GoodIn wsX1_countAround wsX1_framed := goodIn_r _ [5, 6, 7, 8, 9, 10, 4, 11, 12, 13, 14, 15, 16, 17, 18, 19, 20, 21, 32, 33, 34, 35, 36, 37] (by decide +kernel) (by decide +kernel)
set_option maxRecDepth 20000 in
theorem gX1_countAround_X1_framed : GoodIn wsX1_countAround (wsV RX1 76 RX1 yX1_framed wsX1_framed) := goodIn_app (goodIn_of _ (by decide +kernel)) ggX1_countAround_X1_framed
set_option maxRecDepth 20000 in
theorem ggX1_countAround_X1_countIn : GoodIn wsX1_countAround wsX1_countIn := goodIn_r _ [24, 25, 26, 27, 28, 29, 30, 31] (by decide +kernel) (by decide +kernel)
set_option maxRecDepth 20000 in
theorem gX1_countAround_X1_countIn : GoodIn wsX1_countAround (va_wsS RX1 79 yX1_countIn wsX1_countIn) := goodIn_app (goodIn_of _ (by decide +kernel)) ggX1_countAround_X1_countIn
theorem dX1_countAround_0 : decode cX1_countAround 0 = .ok (.aload_n 0, 1) := by decide +kernel
theorem dX1_countAround_1 : decode cX1_countAround 1 = .ok (.iload_n 2, 1) := by decide +kernel
theorem dX1_countAround_2 : decode cX1_countAround 2 = .ok (.iconst 1, 1) := by decide +kernel
theorem dX1_countAround_3 : decode cX1_countAround 3 = .ok (.isub, 1) := by decide +kernel
theorem dX1_countAround_4 : decode cX1_countAround 4 = .ok (.invokevirtual 76, 3) := by decide +kernel
theorem dX1_countAround_7 : decode cX1_countAround 7 = .ok (.aload_n 0, 1) := by decide +kernel
theorem dX1_countAround_8 : decode cX1_countAround 8 = .ok (.iload_n 2, 1) := by decide +kernel
theorem dX1_countAround_9 : decode cX1_countAround 9 = .ok (.invokevirtual 76, 3) := by decide +kernel
theorem dX1_countAround_12 : decode cX1_countAround 12 = .ok (.aload_n 0, 1) := by decide +kernel
theorem dX1_countAround_13 : decode cX1_countAround 13 = .ok (.iload_n 2, 1) := by decide +kernel
theorem dX1_countAround_14 : decode cX1_countAround 14 = .ok (.iconst 1, 1) := by decide +kernel
theorem dX1_countAround_15 : decode cX1_countAround 15 = .ok (.iadd, 1) := by decide +kernel
theorem dX1_countAround_16 : decode cX1_countAround 16 = .ok (.invokevirtual 76, 3) := by decide +kernel
theorem dX1_countAround_19 : decode cX1_countAround 19 = .ok (.iload_n 1, 1) := by decide +kernel
theorem dX1_countAround_20 : decode cX1_countAround 20 = .ok (.invokestatic 79, 3) := by decide +kernel
theorem dX1_countAround_23 : decode cX1_countAround 23 = .ok (.ireturn, 1) := by decide +kernel
set_option maxRecDepth 20000 in
theorem ggX1_isFrozenNext_X1_grownRow : GoodIn wsX1_isFrozenNext wsX1_grownRow := goodIn_r _ [5, 6, 7, 8, 9, 4, 10, 11, 12, 13, 14, 15, 16, 17, 18, 19, 20, 21, 22, 23, 24, 25, 26, 27, 28, 29, 30, 31, 32, 33, 34, 35, 36, 37, 38, 39, 40, 41, 42, 43, 44, 45, 46, 47, 48, 49, 50] (by decide +kernel) (by decide +kernel)
set_option maxRecDepth 20000 in
theorem gX1_isFrozenNext_X1_grownRow : GoodIn wsX1_isFrozenNext (wsV RX1 83 RX1 yX1_grownRow wsX1_grownRow) := goodIn_app (goodIn_of _ (by decide +kernel)) ggX1_isFrozenNext_X1_grownRow
theorem dX1_isFrozenNext_0 : decode cX1_isFrozenNext 0 = .ok (.aload_n 0, 1) := by decide +kernel
theorem dX1_isFrozenNext_1 : decode cX1_isFrozenNext 1 = .ok (.iload_n 2, 1) := by decide +kernel
theorem dX1_isFrozenNext_2 : decode cX1_isFrozenNext 2 = .ok (.iload_n 3, 1) := by decide +kernel
theorem dX1_isFrozenNext_3 : decode cX1_isFrozenNext 3 = .ok (.iload 4, 2) := by decide +kernel
theorem dX1_isFrozenNext_5 : decode cX1_isFrozenNext 5 = .ok (.invokevirtual 83, 3) := by decide +kernel
theorem dX1_isFrozenNext_8 : decode cX1_isFrozenNext 8 = .ok (.iload_n 1, 1) := by decide +kernel
theorem dX1_isFrozenNext_9 : decode cX1_isFrozenNext 9 = .ok (.ishr, 1) := by decide +kernel
theorem dX1_isFrozenNext_10 : decode cX1_isFrozenNext 10 = .ok (.iconst 1, 1) := by decide +kernel
theorem dX1_isFrozenNext_11 : decode cX1_isFrozenNext 11 = .ok (.iand, 1) := by decide +kernel
theorem dX1_isFrozenNext_12 : decode cX1_isFrozenNext 12 = .ok (.iconst 1, 1) := by decide +kernel
theorem dX1_isFrozenNext_13 : decode cX1_isFrozenNext 13 = .ok (.if_icmp .ne 7, 3) := by decide +kernel
theorem dX1_isFrozenNext_16 : decode cX1_isFrozenNext 16 = .ok (.iconst 1, 1) := by decide +kernel
theorem dX1_isFrozenNext_17 : decode cX1_isFrozenNext 17 = .ok (.goto 4, 3) := by decide +kernel
theorem dX1_isFrozenNext_20 : decode cX1_isFrozenNext 20 = .ok (.iconst 0, 1) := by decide +kernel
theorem dX1_isFrozenNext_21 : decode cX1_isFrozenNext 21 = .ok (.ireturn, 1) := by decide +kernel
set_option maxRecDepth 20000 in
theorem ggX1_step_X1_grownRow : GoodIn wsX1_step wsX1_grownRow := goodIn_r _ [7, 8, 9, 10, 11, 6, 12, 13, 1, 14, 15, 16, 17, 18, 19, 20, 21, 22, 23, 24, 25, 26, 27, 28, 29, 30, 31, 32, 33, 34, 35, 36, 37, 38, 39, 40, 41, 42, 43, 44, 45, 54, 55, 56, 57, 58, 59] (by decide +kernel) (by decide +kernel)
set_option maxRecDepth 20000 in
theorem gX1_step_X1_grownRow : GoodIn wsX1_step (wsV RX1 83 RX1 yX1_grownRow wsX1_grownRow) := goodIn_app (goodIn_of _ (by decide +kernel)) ggX1_step_X1_grownRow
set_option maxRecDepth 20000 in
theorem ggX1_step_X1_meltLess : GoodIn wsX1_step wsX1_meltLess := goodIn_r _ [49, 45, 54, 55, 56, 57, 58, 59] (by decide +kernel) (by decide +kernel)
set_option maxRecDepth 20000 in
theorem gX1_step_X1_meltLess : GoodIn wsX1_step (wsV RX1 87 RX1 yX1_meltLess wsX1_meltLess) := goodIn_app (goodIn_of _ (by decide +kernel)) ggX1_step_X1_meltLess
set_option maxRecDepth 20000 in
theorem ggX1_step_X1_takeNext : GoodIn wsX1_step wsX1_takeNext := goodIn_r _ [53, 1, 2, 22, 54, 55, 56, 57, 58, 59] (by decide +kernel) (by decide +kernel)
set_option maxRecDepth 20000 in
theorem gX1_step_X1_takeNext : GoodIn wsX1_step (wsV RX1 90 RX1 yX1_takeNext wsX1_takeNext) := goodIn_app (goodIn_of _ (by decide +kernel)) ggX1_step_X1_takeNext
theorem dX1_step_0 : decode cX1_step 0 = .ok (.iconst 0, 1) := by decide +kernel
theorem dX1_step_1 : decode cX1_step 1 = .ok (.istore_n 3, 1) := by decide +kernel
theorem dX1_step_2 : decode cX1_step 2 = .ok (.iload_n 3, 1) := by decide +kernel
theorem dX1_step_3 : decode cX1_step 3 = .ok (.aload_n 0, 1) := by decide +kernel
theorem dX1_step_4 : decode cX1_step 4 = .ok (.getfield 25, 3) := by decide +kernel
theorem dX1_step_7 : decode cX1_step 7 = .ok (.if_icmp .ge 31, 3) := by decide +kernel
theorem dX1_step_10 : decode cX1_step 10 = .ok (.iload_n 3, 1) := by decide +kernel
theorem dX1_step_11 : decode cX1_step 11 = .ok (.aload_n 0, 1) := by decide +kernel
theorem dX1_step_12 : decode cX1_step 12 = .ok (.getfield 15, 3) := by decide +kernel
theorem dX1_step_15 : decode cX1_step 15 = .ok (.arraylength, 1) := by decide +kernel
theorem dX1_step_16 : decode cX1_step 16 = .ok (.if_icmp .ge 22, 3) := by decide +kernel
theorem dX1_step_19 : decode cX1_step 19 = .ok (.aload_n 0, 1) := by decide +kernel
theorem dX1_step_20 : decode cX1_step 20 = .ok (.getfield 15, 3) := by decide +kernel
theorem dX1_step_23 : decode cX1_step 23 = .ok (.iload_n 3, 1) := by decide +kernel
theorem dX1_step_24 : decode cX1_step 24 = .ok (.aload_n 0, 1) := by decide +kernel
theorem dX1_step_25 : decode cX1_step 25 = .ok (.iload_n 3, 1) := by decide +kernel
theorem dX1_step_26 : decode cX1_step 26 = .ok (.iload_n 1, 1) := by decide +kernel
theorem dX1_step_27 : decode cX1_step 27 = .ok (.iload_n 2, 1) := by decide +kernel
theorem dX1_step_28 : decode cX1_step 28 = .ok (.invokevirtual 83, 3) := by decide +kernel
theorem dX1_step_31 : decode cX1_step 31 = .ok (.iastore, 1) := by decide +kernel
theorem dX1_step_32 : decode cX1_step 32 = .ok (.iinc 3 1, 3) := by decide +kernel
theorem dX1_step_35 : decode cX1_step 35 = .ok (.goto (-33), 3) := by decide +kernel
theorem dX1_step_38 : decode cX1_step 38 = .ok (.aload_n 0, 1) := by decide +kernel
theorem dX1_step_39 : decode cX1_step 39 = .ok (.invokevirtual 87, 3) := by decide +kernel
theorem dX1_step_42 : decode cX1_step 42 = .ok (.aload_n 0, 1) := by decide +kernel
theorem dX1_step_43 : decode cX1_step 43 = .ok (.invokevirtual 90, 3) := by decide +kernel
theorem dX1_step_46 : decode cX1_step 46 = .ok (.ireturn, 1) := by decide +kernel
theorem dX1_meltLess_0 : decode cX1_meltLess 0 = .ok (.iconst 0, 1) := by decide +kernel
theorem dX1_meltLess_1 : decode cX1_meltLess 1 = .ok (.istore_n 1, 1) := by decide +kernel
theorem dX1_meltLess_2 : decode cX1_meltLess 2 = .ok (.iload_n 1, 1) := by decide +kernel
theorem dX1_meltLess_3 : decode cX1_meltLess 3 = .ok (.aload_n 0, 1) := by decide +kernel
theorem dX1_meltLess_4 : decode cX1_meltLess 4 = .ok (.getfield 18, 3) := by decide +kernel
theorem dX1_meltLess_7 : decode cX1_meltLess 7 = .ok (.arraylength, 1) := by decide +kernel
theorem dX1_meltLess_8 : decode cX1_meltLess 8 = .ok (.if_icmp .ge 28, 3) := by decide +kernel
theorem dX1_meltLess_11 : decode cX1_meltLess 11 = .ok (.aload_n 0, 1) := by decide +kernel
theorem dX1_meltLess_12 : decode cX1_meltLess 12 = .ok (.getfield 18, 3) := by decide +kernel
theorem dX1_meltLess_15 : decode cX1_meltLess 15 = .ok (.iload_n 1, 1) := by decide +kernel
theorem dX1_meltLess_16 : decode cX1_meltLess 16 = .ok (.iaload, 1) := by decide +kernel
theorem dX1_meltLess_17 : decode cX1_meltLess 17 = .ok (.ifCond .le 13, 3) := by decide +kernel
theorem dX1_meltLess_20 : decode cX1_meltLess 20 = .ok (.aload_n 0, 1) := by decide +kernel
theorem dX1_meltLess_21 : decode cX1_meltLess 21 = .ok (.getfield 18, 3) := by decide +kernel
theorem dX1_meltLess_24 : decode cX1_meltLess 24 = .ok (.iload_n 1, 1) := by decide +kernel
theorem dX1_meltLess_25 : decode cX1_meltLess 25 = .ok (.dup2, 1) := by decide +kernel
theorem dX1_meltLess_26 : decode cX1_meltLess 26 = .ok (.iaload, 1) := by decide +kernel
theorem dX1_meltLess_27 : decode cX1_meltLess 27 = .ok (.iconst 1, 1) := by decide +kernel
theorem dX1_meltLess_28 : decode cX1_meltLess 28 = .ok (.isub, 1) := by decide +kernel
theorem dX1_meltLess_29 : decode cX1_meltLess 29 = .ok (.iastore, 1) := by decide +kernel
theorem dX1_meltLess_30 : decode cX1_meltLess 30 = .ok (.iinc 1 1, 3) := by decide +kernel
theorem dX1_meltLess_33 : decode cX1_meltLess 33 = .ok (.goto (-31), 3) := by decide +kernel
theorem dX1_meltLess_36 : decode cX1_meltLess 36 = .ok (.return_, 1) := by decide +kernel
theorem dX1_takeNext_0 : decode cX1_takeNext 0 = .ok (.iconst 0, 1) := by decide +kernel
theorem dX1_takeNext_1 : decode cX1_takeNext 1 = .ok (.istore_n 1, 1) := by decide +kernel
theorem dX1_takeNext_2 : decode cX1_takeNext 2 = .ok (.iconst 0, 1) := by decide +kernel
theorem dX1_takeNext_3 : decode cX1_takeNext 3 = .ok (.istore_n 2, 1) := by decide +kernel
theorem dX1_takeNext_4 : decode cX1_takeNext 4 = .ok (.iload_n 2, 1) := by decide +kernel
theorem dX1_takeNext_5 : decode cX1_takeNext 5 = .ok (.aload_n 0, 1) := by decide +kernel
theorem dX1_takeNext_6 : decode cX1_takeNext 6 = .ok (.getfield 25, 3) := by decide +kernel
theorem dX1_takeNext_9 : decode cX1_takeNext 9 = .ok (.if_icmp .ge 64, 3) := by decide +kernel
theorem dX1_takeNext_12 : decode cX1_takeNext 12 = .ok (.iload_n 2, 1) := by decide +kernel
theorem dX1_takeNext_13 : decode cX1_takeNext 13 = .ok (.aload_n 0, 1) := by decide +kernel
theorem dX1_takeNext_14 : decode cX1_takeNext 14 = .ok (.getfield 15, 3) := by decide +kernel
theorem dX1_takeNext_17 : decode cX1_takeNext 17 = .ok (.arraylength, 1) := by decide +kernel
theorem dX1_takeNext_18 : decode cX1_takeNext 18 = .ok (.if_icmp .ge 55, 3) := by decide +kernel
theorem dX1_takeNext_21 : decode cX1_takeNext 21 = .ok (.iload_n 2, 1) := by decide +kernel
theorem dX1_takeNext_22 : decode cX1_takeNext 22 = .ok (.aload_n 0, 1) := by decide +kernel
theorem dX1_takeNext_23 : decode cX1_takeNext 23 = .ok (.getfield 9, 3) := by decide +kernel
theorem dX1_takeNext_26 : decode cX1_takeNext 26 = .ok (.arraylength, 1) := by decide +kernel
theorem dX1_takeNext_27 : decode cX1_takeNext 27 = .ok (.if_icmp .ge 46, 3) := by decide +kernel
theorem dX1_takeNext_30 : decode cX1_takeNext 30 = .ok (.iload_n 1, 1) := by decide +kernel
theorem dX1_takeNext_31 : decode cX1_takeNext 31 = .ok (.ifCond .ne 18, 3) := by decide +kernel
theorem dX1_takeNext_34 : decode cX1_takeNext 34 = .ok (.aload_n 0, 1) := by decide +kernel
theorem dX1_takeNext_35 : decode cX1_takeNext 35 = .ok (.getfield 9, 3) := by decide +kernel
theorem dX1_takeNext_38 : decode cX1_takeNext 38 = .ok (.iload_n 2, 1) := by decide +kernel
theorem dX1_takeNext_39 : decode cX1_takeNext 39 = .ok (.iaload, 1) := by decide +kernel
theorem dX1_takeNext_40 : decode cX1_takeNext 40 = .ok (.aload_n 0, 1) := by decide +kernel
theorem dX1_takeNext_41 : decode cX1_takeNext 41 = .ok (.getfield 15, 3) := by decide +kernel
theorem dX1_takeNext_44 : decode cX1_takeNext 44 = .ok (.iload_n 2, 1) := by decide +kernel
theorem dX1_takeNext_45 : decode cX1_takeNext 45 = .ok (.iaload, 1) := by decide +kernel
theorem dX1_takeNext_46 : decode cX1_takeNext 46 = .ok (.if_icmp .eq 7, 3) := by decide +kernel
theorem dX1_takeNext_49 : decode cX1_takeNext 49 = .ok (.iconst 1, 1) := by decide +kernel
theorem dX1_takeNext_50 : decode cX1_takeNext 50 = .ok (.goto 4, 3) := by decide +kernel
theorem dX1_takeNext_53 : decode cX1_takeNext 53 = .ok (.iconst 0, 1) := by decide +kernel
theorem dX1_takeNext_54 : decode cX1_takeNext 54 = .ok (.istore_n 1, 1) := by decide +kernel
theorem dX1_takeNext_55 : decode cX1_takeNext 55 = .ok (.aload_n 0, 1) := by decide +kernel
theorem dX1_takeNext_56 : decode cX1_takeNext 56 = .ok (.getfield 9, 3) := by decide +kernel
theorem dX1_takeNext_59 : decode cX1_takeNext 59 = .ok (.iload_n 2, 1) := by decide +kernel
theorem dX1_takeNext_60 : decode cX1_takeNext 60 = .ok (.aload_n 0, 1) := by decide +kernel
theorem dX1_takeNext_61 : decode cX1_takeNext 61 = .ok (.getfield 15, 3) := by decide +kernel
theorem dX1_takeNext_64 : decode cX1_takeNext 64 = .ok (.iload_n 2, 1) := by decide +kernel
theorem dX1_takeNext_65 : decode cX1_takeNext 65 = .ok (.iaload, 1) := by decide +kernel
theorem dX1_takeNext_66 : decode cX1_takeNext 66 = .ok (.iastore, 1) := by decide +kernel
theorem dX1_takeNext_67 : decode cX1_takeNext 67 = .ok (.iinc 2 1, 3) := by decide +kernel
theorem dX1_takeNext_70 : decode cX1_takeNext 70 = .ok (.goto (-66), 3) := by decide +kernel
theorem dX1_takeNext_73 : decode cX1_takeNext 73 = .ok (.iload_n 1, 1) := by decide +kernel
theorem dX1_takeNext_74 : decode cX1_takeNext 74 = .ok (.ireturn, 1) := by decide +kernel
set_option maxRecDepth 20000 in
theorem ggX1_grownRow_X1_framed : GoodIn wsX1_grownRow wsX1_framed := goodIn_r _ [6, 7, 8, 9, 10, 11, 5, 12, 13, 14, 15, 16, 17, 18, 19, 20, 21, 1, 41, 42, 43, 44, 45, 46] (by decide +kernel) (by decide +kernel)
set_option maxRecDepth 20000 in
theorem gX1_grownRow_X1_framed : GoodIn wsX1_grownRow (wsV RX1 76 RX1 yX1_framed wsX1_framed) := goodIn_app (goodIn_of _ (by decide +kernel)) ggX1_grownRow_X1_framed
set_option maxRecDepth 20000 in
theorem ggX1_grownRow_X1_hasFrost : GoodIn wsX1_grownRow wsX1_hasFrost := goodIn_r _ [25, 13, 14, 15, 5, 16, 17, 41, 42, 43, 44, 45, 46] (by decide +kernel) (by decide +kernel)
set_option maxRecDepth 20000 in
theorem gX1_grownRow_X1_hasFrost : GoodIn wsX1_grownRow (wsV RX1 64 RX1 yX1_hasFrost wsX1_hasFrost) := goodIn_app (goodIn_of _ (by decide +kernel)) ggX1_grownRow_X1_hasFrost
set_option maxRecDepth 20000 in
theorem ggX1_grownRow_X1_countIn : GoodIn wsX1_grownRow wsX1_countIn := goodIn_r _ [28, 29, 30, 31, 32, 33, 34, 35] (by decide +kernel) (by decide +kernel)
set_option maxRecDepth 20000 in
theorem gX1_grownRow_X1_countIn : GoodIn wsX1_grownRow (va_wsS RX1 79 yX1_countIn wsX1_countIn) := goodIn_app (goodIn_of _ (by decide +kernel)) ggX1_grownRow_X1_countIn
set_option maxRecDepth 20000 in
theorem ggX1_grownRow_X1_meltOf : GoodIn wsX1_grownRow wsX1_meltOf := goodIn_r _ [39, 40, 41, 42, 43, 44, 45, 46] (by decide +kernel) (by decide +kernel)
set_option maxRecDepth 20000 in
theorem gX1_grownRow_X1_meltOf : GoodIn wsX1_grownRow (wsV RX1 53 RX1 yX1_meltOf wsX1_meltOf) := goodIn_app (goodIn_of _ (by decide +kernel)) ggX1_grownRow_X1_meltOf
theorem dX1_grownRow_0 : decode cX1_grownRow 0 = .ok (.aload_n 0, 1) := by decide +kernel
theorem dX1_grownRow_1 : decode cX1_grownRow 1 = .ok (.iload_n 1, 1) := by decide +kernel
theorem dX1_grownRow_2 : decode cX1_grownRow 2 = .ok (.iconst 1, 1) := by decide +kernel
theorem dX1_grownRow_3 : decode cX1_grownRow 3 = .ok (.isub, 1) := by decide +kernel
theorem dX1_grownRow_4 : decode cX1_grownRow 4 = .ok (.invokevirtual 76, 3) := by decide +kernel
theorem dX1_grownRow_7 : decode cX1_grownRow 7 = .ok (.istore 4, 2) := by decide +kernel
theorem dX1_grownRow_9 : decode cX1_grownRow 9 = .ok (.aload_n 0, 1) := by decide +kernel
theorem dX1_grownRow_10 : decode cX1_grownRow 10 = .ok (.iload_n 1, 1) := by decide +kernel
theorem dX1_grownRow_11 : decode cX1_grownRow 11 = .ok (.invokevirtual 76, 3) := by decide +kernel
theorem dX1_grownRow_14 : decode cX1_grownRow 14 = .ok (.istore 5, 2) := by decide +kernel
theorem dX1_grownRow_16 : decode cX1_grownRow 16 = .ok (.aload_n 0, 1) := by decide +kernel
theorem dX1_grownRow_17 : decode cX1_grownRow 17 = .ok (.iload_n 1, 1) := by decide +kernel
theorem dX1_grownRow_18 : decode cX1_grownRow 18 = .ok (.iconst 1, 1) := by decide +kernel
theorem dX1_grownRow_19 : decode cX1_grownRow 19 = .ok (.iadd, 1) := by decide +kernel
theorem dX1_grownRow_20 : decode cX1_grownRow 20 = .ok (.invokevirtual 76, 3) := by decide +kernel
theorem dX1_grownRow_23 : decode cX1_grownRow 23 = .ok (.istore 6, 2) := by decide +kernel
theorem dX1_grownRow_25 : decode cX1_grownRow 25 = .ok (.iconst 0, 1) := by decide +kernel
theorem dX1_grownRow_26 : decode cX1_grownRow 26 = .ok (.istore 7, 2) := by decide +kernel
theorem dX1_grownRow_28 : decode cX1_grownRow 28 = .ok (.iconst 0, 1) := by decide +kernel
theorem dX1_grownRow_29 : decode cX1_grownRow 29 = .ok (.istore 8, 2) := by decide +kernel
theorem dX1_grownRow_31 : decode cX1_grownRow 31 = .ok (.iload 8, 2) := by decide +kernel
theorem dX1_grownRow_33 : decode cX1_grownRow 33 = .ok (.aload_n 0, 1) := by decide +kernel
theorem dX1_grownRow_34 : decode cX1_grownRow 34 = .ok (.getfield 21, 3) := by decide +kernel
theorem dX1_grownRow_37 : decode cX1_grownRow 37 = .ok (.if_icmp .ge 69, 3) := by decide +kernel
theorem dX1_grownRow_40 : decode cX1_grownRow 40 = .ok (.aload_n 0, 1) := by decide +kernel
theorem dX1_grownRow_41 : decode cX1_grownRow 41 = .ok (.iload 8, 2) := by decide +kernel
theorem dX1_grownRow_43 : decode cX1_grownRow 43 = .ok (.iload_n 1, 1) := by decide +kernel
theorem dX1_grownRow_44 : decode cX1_grownRow 44 = .ok (.invokevirtual 64, 3) := by decide +kernel
theorem dX1_grownRow_47 : decode cX1_grownRow 47 = .ok (.ifCond .eq 7, 3) := by decide +kernel
theorem dX1_grownRow_50 : decode cX1_grownRow 50 = .ok (.iload_n 3, 1) := by decide +kernel
theorem dX1_grownRow_51 : decode cX1_grownRow 51 = .ok (.goto 4, 3) := by decide +kernel
theorem dX1_grownRow_54 : decode cX1_grownRow 54 = .ok (.iload_n 2, 1) := by decide +kernel
theorem dX1_grownRow_55 : decode cX1_grownRow 55 = .ok (.istore 9, 2) := by decide +kernel
theorem dX1_grownRow_57 : decode cX1_grownRow 57 = .ok (.iload 4, 2) := by decide +kernel
theorem dX1_grownRow_59 : decode cX1_grownRow 59 = .ok (.iload 5, 2) := by decide +kernel
theorem dX1_grownRow_61 : decode cX1_grownRow 61 = .ok (.iload 6, 2) := by decide +kernel
theorem dX1_grownRow_63 : decode cX1_grownRow 63 = .ok (.iload 8, 2) := by decide +kernel
theorem dX1_grownRow_65 : decode cX1_grownRow 65 = .ok (.invokestatic 79, 3) := by decide +kernel
theorem dX1_grownRow_68 : decode cX1_grownRow 68 = .ok (.istore 10, 2) := by decide +kernel
theorem dX1_grownRow_70 : decode cX1_grownRow 70 = .ok (.aload_n 0, 1) := by decide +kernel
theorem dX1_grownRow_71 : decode cX1_grownRow 71 = .ok (.iload 8, 2) := by decide +kernel
theorem dX1_grownRow_73 : decode cX1_grownRow 73 = .ok (.iload_n 1, 1) := by decide +kernel
theorem dX1_grownRow_74 : decode cX1_grownRow 74 = .ok (.invokevirtual 53, 3) := by decide +kernel
theorem dX1_grownRow_77 : decode cX1_grownRow 77 = .ok (.ifCond .ne 23, 3) := by decide +kernel
theorem dX1_grownRow_80 : decode cX1_grownRow 80 = .ok (.iload 9, 2) := by decide +kernel
theorem dX1_grownRow_82 : decode cX1_grownRow 82 = .ok (.iload 10, 2) := by decide +kernel
theorem dX1_grownRow_84 : decode cX1_grownRow 84 = .ok (.ishr, 1) := by decide +kernel
theorem dX1_grownRow_85 : decode cX1_grownRow 85 = .ok (.iconst 1, 1) := by decide +kernel
theorem dX1_grownRow_86 : decode cX1_grownRow 86 = .ok (.iand, 1) := by decide +kernel
theorem dX1_grownRow_87 : decode cX1_grownRow 87 = .ok (.iconst 1, 1) := by decide +kernel
theorem dX1_grownRow_88 : decode cX1_grownRow 88 = .ok (.if_icmp .ne 12, 3) := by decide +kernel
theorem dX1_grownRow_91 : decode cX1_grownRow 91 = .ok (.iload 7, 2) := by decide +kernel
theorem dX1_grownRow_93 : decode cX1_grownRow 93 = .ok (.iconst 1, 1) := by decide +kernel
theorem dX1_grownRow_94 : decode cX1_grownRow 94 = .ok (.iload 8, 2) := by decide +kernel
theorem dX1_grownRow_96 : decode cX1_grownRow 96 = .ok (.ishl, 1) := by decide +kernel
theorem dX1_grownRow_97 : decode cX1_grownRow 97 = .ok (.ior, 1) := by decide +kernel
theorem dX1_grownRow_98 : decode cX1_grownRow 98 = .ok (.istore 7, 2) := by decide +kernel
theorem dX1_grownRow_100 : decode cX1_grownRow 100 = .ok (.iinc 8 1, 3) := by decide +kernel
theorem dX1_grownRow_103 : decode cX1_grownRow 103 = .ok (.goto (-72), 3) := by decide +kernel
theorem dX1_grownRow_106 : decode cX1_grownRow 106 = .ok (.iload 7, 2) := by decide +kernel
theorem dX1_grownRow_108 : decode cX1_grownRow 108 = .ok (.ireturn, 1) := by decide +kernel
set_option maxRecDepth 20000 in
theorem ggX1_countIn_J6_bitCount_0f7a4 : GoodIn wsX1_countIn wsJ6_bitCount_0f7a4 := goodIn_r _ [4, 5, 6, 7] (by decide +kernel) (by decide +kernel)
set_option maxRecDepth 20000 in
theorem gX1_countIn_J6_bitCount_0f7a4 : GoodIn wsX1_countIn (va_wsS RX1 71 yJ6_bitCount_0f7a4 wsJ6_bitCount_0f7a4) := goodIn_app (goodIn_of _ (by decide +kernel)) ggX1_countIn_J6_bitCount_0f7a4
theorem dX1_countIn_0 : decode cX1_countIn 0 = .ok (.iload_n 0, 1) := by decide +kernel
theorem dX1_countIn_1 : decode cX1_countIn 1 = .ok (.iload_n 3, 1) := by decide +kernel
theorem dX1_countIn_2 : decode cX1_countIn 2 = .ok (.ishr, 1) := by decide +kernel
theorem dX1_countIn_3 : decode cX1_countIn 3 = .ok (.bipush 7, 2) := by decide +kernel
theorem dX1_countIn_5 : decode cX1_countIn 5 = .ok (.iand, 1) := by decide +kernel
theorem dX1_countIn_6 : decode cX1_countIn 6 = .ok (.invokestatic 71, 3) := by decide +kernel
theorem dX1_countIn_9 : decode cX1_countIn 9 = .ok (.iload_n 1, 1) := by decide +kernel
theorem dX1_countIn_10 : decode cX1_countIn 10 = .ok (.iload_n 3, 1) := by decide +kernel
theorem dX1_countIn_11 : decode cX1_countIn 11 = .ok (.ishr, 1) := by decide +kernel
theorem dX1_countIn_12 : decode cX1_countIn 12 = .ok (.iconst 5, 1) := by decide +kernel
theorem dX1_countIn_13 : decode cX1_countIn 13 = .ok (.iand, 1) := by decide +kernel
theorem dX1_countIn_14 : decode cX1_countIn 14 = .ok (.invokestatic 71, 3) := by decide +kernel
theorem dX1_countIn_17 : decode cX1_countIn 17 = .ok (.iadd, 1) := by decide +kernel
theorem dX1_countIn_18 : decode cX1_countIn 18 = .ok (.iload_n 2, 1) := by decide +kernel
theorem dX1_countIn_19 : decode cX1_countIn 19 = .ok (.iload_n 3, 1) := by decide +kernel
theorem dX1_countIn_20 : decode cX1_countIn 20 = .ok (.ishr, 1) := by decide +kernel
theorem dX1_countIn_21 : decode cX1_countIn 21 = .ok (.bipush 7, 2) := by decide +kernel
theorem dX1_countIn_23 : decode cX1_countIn 23 = .ok (.iand, 1) := by decide +kernel
theorem dX1_countIn_24 : decode cX1_countIn 24 = .ok (.invokestatic 71, 3) := by decide +kernel
theorem dX1_countIn_27 : decode cX1_countIn 27 = .ok (.iadd, 1) := by decide +kernel
theorem dX1_countIn_28 : decode cX1_countIn 28 = .ok (.ireturn, 1) := by decide +kernel
set_option maxRecDepth 20000 in
theorem ggX1_framed_X1_hasRow : GoodIn wsX1_framed wsX1_hasRow := goodIn_r _ [7, 2, 18, 19, 20, 21, 22, 23] (by decide +kernel) (by decide +kernel)
set_option maxRecDepth 20000 in
theorem gX1_framed_X1_hasRow : GoodIn wsX1_framed (wsV RX1 56 RX1 yX1_hasRow wsX1_hasRow) := goodIn_app (goodIn_of _ (by decide +kernel)) ggX1_framed_X1_hasRow
set_option maxRecDepth 20000 in
theorem ggX1_framed_X1_bitsOf : GoodIn wsX1_framed wsX1_bitsOf := goodIn_r _ [11, 12, 18, 19, 20, 21, 22, 23] (by decide +kernel) (by decide +kernel)
set_option maxRecDepth 20000 in
theorem gX1_framed_X1_bitsOf : GoodIn wsX1_framed (wsV RX1 49 RX1 yX1_bitsOf wsX1_bitsOf) := goodIn_app (goodIn_of _ (by decide +kernel)) ggX1_framed_X1_bitsOf
set_option maxRecDepth 20000 in
theorem ggX1_framed_X1_withSides : GoodIn wsX1_framed wsX1_withSides := goodIn_r _ [16, 1, 17, 18, 19, 20, 21, 22, 23] (by decide +kernel) (by decide +kernel)
set_option maxRecDepth 20000 in
theorem gX1_framed_X1_withSides : GoodIn wsX1_framed (wsV RX1 94 RX1 yX1_withSides wsX1_withSides) := goodIn_app (goodIn_of _ (by decide +kernel)) ggX1_framed_X1_withSides
theorem dX1_framed_0 : decode cX1_framed 0 = .ok (.aload_n 0, 1) := by decide +kernel
theorem dX1_framed_1 : decode cX1_framed 1 = .ok (.iload_n 1, 1) := by decide +kernel
theorem dX1_framed_2 : decode cX1_framed 2 = .ok (.invokevirtual 56, 3) := by decide +kernel
theorem dX1_framed_5 : decode cX1_framed 5 = .ok (.ifCond .eq 13, 3) := by decide +kernel
theorem dX1_framed_8 : decode cX1_framed 8 = .ok (.aload_n 0, 1) := by decide +kernel
theorem dX1_framed_9 : decode cX1_framed 9 = .ok (.aload_n 0, 1) := by decide +kernel
theorem dX1_framed_10 : decode cX1_framed 10 = .ok (.iload_n 1, 1) := by decide +kernel
theorem dX1_framed_11 : decode cX1_framed 11 = .ok (.invokevirtual 49, 3) := by decide +kernel
theorem dX1_framed_14 : decode cX1_framed 14 = .ok (.invokevirtual 94, 3) := by decide +kernel
theorem dX1_framed_17 : decode cX1_framed 17 = .ok (.ireturn, 1) := by decide +kernel
theorem dX1_framed_18 : decode cX1_framed 18 = .ok (.aload_n 0, 1) := by decide +kernel
theorem dX1_framed_19 : decode cX1_framed 19 = .ok (.getfield 34, 3) := by decide +kernel
theorem dX1_framed_22 : decode cX1_framed 22 = .ok (.iconst 2, 1) := by decide +kernel
theorem dX1_framed_23 : decode cX1_framed 23 = .ok (.if_icmp .ne 26, 3) := by decide +kernel
theorem dX1_framed_26 : decode cX1_framed 26 = .ok (.aload_n 0, 1) := by decide +kernel
theorem dX1_framed_27 : decode cX1_framed 27 = .ok (.aload_n 0, 1) := by decide +kernel
theorem dX1_framed_28 : decode cX1_framed 28 = .ok (.iload_n 1, 1) := by decide +kernel
theorem dX1_framed_29 : decode cX1_framed 29 = .ok (.ifCond .ge 12, 3) := by decide +kernel
theorem dX1_framed_32 : decode cX1_framed 32 = .ok (.aload_n 0, 1) := by decide +kernel
theorem dX1_framed_33 : decode cX1_framed 33 = .ok (.getfield 25, 3) := by decide +kernel
theorem dX1_framed_36 : decode cX1_framed 36 = .ok (.iconst 1, 1) := by decide +kernel
theorem dX1_framed_37 : decode cX1_framed 37 = .ok (.isub, 1) := by decide +kernel
theorem dX1_framed_38 : decode cX1_framed 38 = .ok (.goto 4, 3) := by decide +kernel
theorem dX1_framed_41 : decode cX1_framed 41 = .ok (.iconst 0, 1) := by decide +kernel
theorem dX1_framed_42 : decode cX1_framed 42 = .ok (.invokevirtual 49, 3) := by decide +kernel
theorem dX1_framed_45 : decode cX1_framed 45 = .ok (.invokevirtual 94, 3) := by decide +kernel
theorem dX1_framed_48 : decode cX1_framed 48 = .ok (.ireturn, 1) := by decide +kernel
theorem dX1_framed_49 : decode cX1_framed 49 = .ok (.aload_n 0, 1) := by decide +kernel
theorem dX1_framed_50 : decode cX1_framed 50 = .ok (.getfield 34, 3) := by decide +kernel
theorem dX1_framed_53 : decode cX1_framed 53 = .ok (.iconst 1, 1) := by decide +kernel
theorem dX1_framed_54 : decode cX1_framed 54 = .ok (.if_icmp .ne 7, 3) := by decide +kernel
theorem dX1_framed_57 : decode cX1_framed 57 = .ok (.iconst (-1), 1) := by decide +kernel
theorem dX1_framed_58 : decode cX1_framed 58 = .ok (.goto 4, 3) := by decide +kernel
theorem dX1_framed_61 : decode cX1_framed 61 = .ok (.iconst 0, 1) := by decide +kernel
theorem dX1_framed_62 : decode cX1_framed 62 = .ok (.ireturn, 1) := by decide +kernel
theorem dX1_withSides_0 : decode cX1_withSides 0 = .ok (.aload_n 0, 1) := by decide +kernel
theorem dX1_withSides_1 : decode cX1_withSides 1 = .ok (.getfield 34, 3) := by decide +kernel
theorem dX1_withSides_4 : decode cX1_withSides 4 = .ok (.iconst 1, 1) := by decide +kernel
theorem dX1_withSides_5 : decode cX1_withSides 5 = .ok (.if_icmp .ne 7, 3) := by decide +kernel
theorem dX1_withSides_8 : decode cX1_withSides 8 = .ok (.iconst 1, 1) := by decide +kernel
theorem dX1_withSides_9 : decode cX1_withSides 9 = .ok (.goto 4, 3) := by decide +kernel
theorem dX1_withSides_12 : decode cX1_withSides 12 = .ok (.iconst 0, 1) := by decide +kernel
theorem dX1_withSides_13 : decode cX1_withSides 13 = .ok (.istore_n 2, 1) := by decide +kernel
theorem dX1_withSides_14 : decode cX1_withSides 14 = .ok (.iload_n 2, 1) := by decide +kernel
theorem dX1_withSides_15 : decode cX1_withSides 15 = .ok (.istore_n 3, 1) := by decide +kernel
theorem dX1_withSides_16 : decode cX1_withSides 16 = .ok (.aload_n 0, 1) := by decide +kernel
theorem dX1_withSides_17 : decode cX1_withSides 17 = .ok (.getfield 34, 3) := by decide +kernel
theorem dX1_withSides_20 : decode cX1_withSides 20 = .ok (.iconst 2, 1) := by decide +kernel
theorem dX1_withSides_21 : decode cX1_withSides 21 = .ok (.if_icmp .ne 18, 3) := by decide +kernel
theorem dX1_withSides_24 : decode cX1_withSides 24 = .ok (.iload_n 1, 1) := by decide +kernel
theorem dX1_withSides_25 : decode cX1_withSides 25 = .ok (.aload_n 0, 1) := by decide +kernel
theorem dX1_withSides_26 : decode cX1_withSides 26 = .ok (.getfield 21, 3) := by decide +kernel
theorem dX1_withSides_29 : decode cX1_withSides 29 = .ok (.iconst 1, 1) := by decide +kernel
theorem dX1_withSides_30 : decode cX1_withSides 30 = .ok (.isub, 1) := by decide +kernel
theorem dX1_withSides_31 : decode cX1_withSides 31 = .ok (.ishr, 1) := by decide +kernel
theorem dX1_withSides_32 : decode cX1_withSides 32 = .ok (.iconst 1, 1) := by decide +kernel
theorem dX1_withSides_33 : decode cX1_withSides 33 = .ok (.iand, 1) := by decide +kernel
theorem dX1_withSides_34 : decode cX1_withSides 34 = .ok (.istore_n 2, 1) := by decide +kernel
theorem dX1_withSides_35 : decode cX1_withSides 35 = .ok (.iload_n 1, 1) := by decide +kernel
theorem dX1_withSides_36 : decode cX1_withSides 36 = .ok (.iconst 1, 1) := by decide +kernel
theorem dX1_withSides_37 : decode cX1_withSides 37 = .ok (.iand, 1) := by decide +kernel
theorem dX1_withSides_38 : decode cX1_withSides 38 = .ok (.istore_n 3, 1) := by decide +kernel
theorem dX1_withSides_39 : decode cX1_withSides 39 = .ok (.iload_n 2, 1) := by decide +kernel
theorem dX1_withSides_40 : decode cX1_withSides 40 = .ok (.iload_n 1, 1) := by decide +kernel
theorem dX1_withSides_41 : decode cX1_withSides 41 = .ok (.iconst 1, 1) := by decide +kernel
theorem dX1_withSides_42 : decode cX1_withSides 42 = .ok (.ishl, 1) := by decide +kernel
theorem dX1_withSides_43 : decode cX1_withSides 43 = .ok (.ior, 1) := by decide +kernel
theorem dX1_withSides_44 : decode cX1_withSides 44 = .ok (.iload_n 3, 1) := by decide +kernel
theorem dX1_withSides_45 : decode cX1_withSides 45 = .ok (.aload_n 0, 1) := by decide +kernel
theorem dX1_withSides_46 : decode cX1_withSides 46 = .ok (.getfield 21, 3) := by decide +kernel
theorem dX1_withSides_49 : decode cX1_withSides 49 = .ok (.iconst 1, 1) := by decide +kernel
theorem dX1_withSides_50 : decode cX1_withSides 50 = .ok (.iadd, 1) := by decide +kernel
theorem dX1_withSides_51 : decode cX1_withSides 51 = .ok (.ishl, 1) := by decide +kernel
theorem dX1_withSides_52 : decode cX1_withSides 52 = .ok (.ior, 1) := by decide +kernel
theorem dX1_withSides_53 : decode cX1_withSides 53 = .ok (.ireturn, 1) := by decide +kernel
theorem dX2_init_0 : decode cX2_init 0 = .ok (.aload_n 0, 1) := by decide +kernel
theorem dX2_init_1 : decode cX2_init 1 = .ok (.invokespecial 3, 3) := by decide +kernel
theorem dX2_init_4 : decode cX2_init 4 = .ok (.aload_n 0, 1) := by decide +kernel
theorem dX2_init_5 : decode cX2_init 5 = .ok (.bipush 6, 2) := by decide +kernel
theorem dX2_init_7 : decode cX2_init 7 = .ok (.newarray .int, 2) := by decide +kernel
theorem dX2_init_9 : decode cX2_init 9 = .ok (.putfield 9, 3) := by decide +kernel
theorem dX2_init_12 : decode cX2_init 12 = .ok (.aload_n 0, 1) := by decide +kernel
theorem dX2_init_13 : decode cX2_init 13 = .ok (.bipush 6, 2) := by decide +kernel
theorem dX2_init_15 : decode cX2_init 15 = .ok (.newarray .int, 2) := by decide +kernel
theorem dX2_init_17 : decode cX2_init 17 = .ok (.putfield 15, 3) := by decide +kernel
theorem dX2_init_20 : decode cX2_init 20 = .ok (.return_, 1) := by decide +kernel
theorem dX2_isFull_0 : decode cX2_isFull 0 = .ok (.aload_n 0, 1) := by decide +kernel
theorem dX2_isFull_1 : decode cX2_isFull 1 = .ok (.getfield 18, 3) := by decide +kernel
theorem dX2_isFull_4 : decode cX2_isFull 4 = .ok (.bipush 6, 2) := by decide +kernel
theorem dX2_isFull_6 : decode cX2_isFull 6 = .ok (.if_icmp .lt 7, 3) := by decide +kernel
theorem dX2_isFull_9 : decode cX2_isFull 9 = .ok (.iconst 1, 1) := by decide +kernel
theorem dX2_isFull_10 : decode cX2_isFull 10 = .ok (.goto 4, 3) := by decide +kernel
theorem dX2_isFull_13 : decode cX2_isFull 13 = .ok (.iconst 0, 1) := by decide +kernel
theorem dX2_isFull_14 : decode cX2_isFull 14 = .ok (.ireturn, 1) := by decide +kernel
theorem dX2_has_0 : decode cX2_has 0 = .ok (.iload_n 1, 1) := by decide +kernel
theorem dX2_has_1 : decode cX2_has 1 = .ok (.ifCond .lt 15, 3) := by decide +kernel
theorem dX2_has_4 : decode cX2_has 4 = .ok (.iload_n 1, 1) := by decide +kernel
theorem dX2_has_5 : decode cX2_has 5 = .ok (.aload_n 0, 1) := by decide +kernel
theorem dX2_has_6 : decode cX2_has 6 = .ok (.getfield 18, 3) := by decide +kernel
theorem dX2_has_9 : decode cX2_has 9 = .ok (.if_icmp .ge 7, 3) := by decide +kernel
theorem dX2_has_12 : decode cX2_has 12 = .ok (.iconst 1, 1) := by decide +kernel
theorem dX2_has_13 : decode cX2_has 13 = .ok (.goto 4, 3) := by decide +kernel
theorem dX2_has_16 : decode cX2_has 16 = .ok (.iconst 0, 1) := by decide +kernel
theorem dX2_has_17 : decode cX2_has 17 = .ok (.ireturn, 1) := by decide +kernel
theorem dX2_append_0 : decode cX2_append 0 = .ok (.aload_n 0, 1) := by decide +kernel
theorem dX2_append_1 : decode cX2_append 1 = .ok (.getfield 18, 3) := by decide +kernel
theorem dX2_append_4 : decode cX2_append 4 = .ok (.istore_n 3, 1) := by decide +kernel
theorem dX2_append_5 : decode cX2_append 5 = .ok (.iload_n 3, 1) := by decide +kernel
theorem dX2_append_6 : decode cX2_append 6 = .ok (.ifCond .lt 45, 3) := by decide +kernel
theorem dX2_append_9 : decode cX2_append 9 = .ok (.iload_n 3, 1) := by decide +kernel
theorem dX2_append_10 : decode cX2_append 10 = .ok (.aload_n 0, 1) := by decide +kernel
theorem dX2_append_11 : decode cX2_append 11 = .ok (.getfield 9, 3) := by decide +kernel
theorem dX2_append_14 : decode cX2_append 14 = .ok (.arraylength, 1) := by decide +kernel
theorem dX2_append_15 : decode cX2_append 15 = .ok (.if_icmp .ge 36, 3) := by decide +kernel
theorem dX2_append_18 : decode cX2_append 18 = .ok (.iload_n 3, 1) := by decide +kernel
theorem dX2_append_19 : decode cX2_append 19 = .ok (.aload_n 0, 1) := by decide +kernel
theorem dX2_append_20 : decode cX2_append 20 = .ok (.getfield 15, 3) := by decide +kernel
theorem dX2_append_23 : decode cX2_append 23 = .ok (.arraylength, 1) := by decide +kernel
theorem dX2_append_24 : decode cX2_append 24 = .ok (.if_icmp .ge 27, 3) := by decide +kernel
theorem dX2_append_27 : decode cX2_append 27 = .ok (.aload_n 0, 1) := by decide +kernel
theorem dX2_append_28 : decode cX2_append 28 = .ok (.getfield 9, 3) := by decide +kernel
theorem dX2_append_31 : decode cX2_append 31 = .ok (.iload_n 3, 1) := by decide +kernel
theorem dX2_append_32 : decode cX2_append 32 = .ok (.iload_n 1, 1) := by decide +kernel
theorem dX2_append_33 : decode cX2_append 33 = .ok (.iastore, 1) := by decide +kernel
theorem dX2_append_34 : decode cX2_append 34 = .ok (.aload_n 0, 1) := by decide +kernel
theorem dX2_append_35 : decode cX2_append 35 = .ok (.getfield 15, 3) := by decide +kernel
theorem dX2_append_38 : decode cX2_append 38 = .ok (.iload_n 3, 1) := by decide +kernel
theorem dX2_append_39 : decode cX2_append 39 = .ok (.iload_n 2, 1) := by decide +kernel
theorem dX2_append_40 : decode cX2_append 40 = .ok (.iastore, 1) := by decide +kernel
theorem dX2_append_41 : decode cX2_append 41 = .ok (.aload_n 0, 1) := by decide +kernel
theorem dX2_append_42 : decode cX2_append 42 = .ok (.dup, 1) := by decide +kernel
theorem dX2_append_43 : decode cX2_append 43 = .ok (.getfield 18, 3) := by decide +kernel
theorem dX2_append_46 : decode cX2_append 46 = .ok (.iconst 1, 1) := by decide +kernel
theorem dX2_append_47 : decode cX2_append 47 = .ok (.iadd, 1) := by decide +kernel
theorem dX2_append_48 : decode cX2_append 48 = .ok (.putfield 18, 3) := by decide +kernel
theorem dX2_append_51 : decode cX2_append 51 = .ok (.iload_n 3, 1) := by decide +kernel
theorem dX2_append_52 : decode cX2_append 52 = .ok (.ireturn, 1) := by decide +kernel
set_option maxRecDepth 20000 in
theorem ggX2_freezesBy_X2_has : GoodIn wsX2_freezesBy wsX2_has := goodIn_r _ [6, 7, 8, 9, 10] (by decide +kernel) (by decide +kernel)
set_option maxRecDepth 20000 in
theorem gX2_freezesBy_X2_has : GoodIn wsX2_freezesBy (wsV RX2 22 RX2 yX2_has wsX2_has) := goodIn_app (goodIn_of _ (by decide +kernel)) ggX2_freezesBy_X2_has
theorem dX2_freezesBy_0 : decode cX2_freezesBy 0 = .ok (.aload_n 0, 1) := by decide +kernel
theorem dX2_freezesBy_1 : decode cX2_freezesBy 1 = .ok (.iload_n 1, 1) := by decide +kernel
theorem dX2_freezesBy_2 : decode cX2_freezesBy 2 = .ok (.invokevirtual 22, 3) := by decide +kernel
theorem dX2_freezesBy_5 : decode cX2_freezesBy 5 = .ok (.ifCond .eq 21, 3) := by decide +kernel
theorem dX2_freezesBy_8 : decode cX2_freezesBy 8 = .ok (.iload_n 1, 1) := by decide +kernel
theorem dX2_freezesBy_9 : decode cX2_freezesBy 9 = .ok (.aload_n 0, 1) := by decide +kernel
theorem dX2_freezesBy_10 : decode cX2_freezesBy 10 = .ok (.getfield 9, 3) := by decide +kernel
theorem dX2_freezesBy_13 : decode cX2_freezesBy 13 = .ok (.arraylength, 1) := by decide +kernel
theorem dX2_freezesBy_14 : decode cX2_freezesBy 14 = .ok (.if_icmp .ge 12, 3) := by decide +kernel
theorem dX2_freezesBy_17 : decode cX2_freezesBy 17 = .ok (.aload_n 0, 1) := by decide +kernel
theorem dX2_freezesBy_18 : decode cX2_freezesBy 18 = .ok (.getfield 9, 3) := by decide +kernel
theorem dX2_freezesBy_21 : decode cX2_freezesBy 21 = .ok (.iload_n 1, 1) := by decide +kernel
theorem dX2_freezesBy_22 : decode cX2_freezesBy 22 = .ok (.iaload, 1) := by decide +kernel
theorem dX2_freezesBy_23 : decode cX2_freezesBy 23 = .ok (.goto 4, 3) := by decide +kernel
theorem dX2_freezesBy_26 : decode cX2_freezesBy 26 = .ok (.iconst 0, 1) := by decide +kernel
theorem dX2_freezesBy_27 : decode cX2_freezesBy 27 = .ok (.ireturn, 1) := by decide +kernel
set_option maxRecDepth 20000 in
theorem ggX2_staysBy_X2_has : GoodIn wsX2_staysBy wsX2_has := goodIn_r _ [6, 7, 8, 9, 10] (by decide +kernel) (by decide +kernel)
set_option maxRecDepth 20000 in
theorem gX2_staysBy_X2_has : GoodIn wsX2_staysBy (wsV RX2 22 RX2 yX2_has wsX2_has) := goodIn_app (goodIn_of _ (by decide +kernel)) ggX2_staysBy_X2_has
theorem dX2_staysBy_0 : decode cX2_staysBy 0 = .ok (.aload_n 0, 1) := by decide +kernel
theorem dX2_staysBy_1 : decode cX2_staysBy 1 = .ok (.iload_n 1, 1) := by decide +kernel
theorem dX2_staysBy_2 : decode cX2_staysBy 2 = .ok (.invokevirtual 22, 3) := by decide +kernel
theorem dX2_staysBy_5 : decode cX2_staysBy 5 = .ok (.ifCond .eq 21, 3) := by decide +kernel
theorem dX2_staysBy_8 : decode cX2_staysBy 8 = .ok (.iload_n 1, 1) := by decide +kernel
theorem dX2_staysBy_9 : decode cX2_staysBy 9 = .ok (.aload_n 0, 1) := by decide +kernel
theorem dX2_staysBy_10 : decode cX2_staysBy 10 = .ok (.getfield 15, 3) := by decide +kernel
theorem dX2_staysBy_13 : decode cX2_staysBy 13 = .ok (.arraylength, 1) := by decide +kernel
theorem dX2_staysBy_14 : decode cX2_staysBy 14 = .ok (.if_icmp .ge 12, 3) := by decide +kernel
theorem dX2_staysBy_17 : decode cX2_staysBy 17 = .ok (.aload_n 0, 1) := by decide +kernel
theorem dX2_staysBy_18 : decode cX2_staysBy 18 = .ok (.getfield 15, 3) := by decide +kernel
theorem dX2_staysBy_21 : decode cX2_staysBy 21 = .ok (.iload_n 1, 1) := by decide +kernel
theorem dX2_staysBy_22 : decode cX2_staysBy 22 = .ok (.iaload, 1) := by decide +kernel
theorem dX2_staysBy_23 : decode cX2_staysBy 23 = .ok (.goto 4, 3) := by decide +kernel
theorem dX2_staysBy_26 : decode cX2_staysBy 26 = .ok (.iconst 0, 1) := by decide +kernel
theorem dX2_staysBy_27 : decode cX2_staysBy 27 = .ok (.ireturn, 1) := by decide +kernel
set_option maxRecDepth 20000 in
theorem ggX3_init_X1_init : GoodIn wsX3_init wsX1_init := goodIn_r _ [18, 19, 2, 3, 20, 21, 22, 23, 49, 50, 51, 52, 53, 54] (by decide +kernel) (by decide +kernel)
set_option maxRecDepth 20000 in
theorem gX3_init_X1_init_n9 : GoodIn wsX3_init (wsX1_init) := ggX3_init_X1_init
set_option maxRecDepth 20000 in
theorem ggX3_init_X0_init : GoodIn wsX3_init wsX0_init := goodIn_r _ [25, 26, 2, 3, 20, 27, 28, 61, 62] (by decide +kernel) (by decide +kernel)
set_option maxRecDepth 20000 in
theorem gX3_init_X0_init_n21 : GoodIn wsX3_init (wsX0_init) := ggX3_init_X0_init
set_option maxRecDepth 20000 in
theorem ggX3_init_X2_init : GoodIn wsX3_init wsX2_init := goodIn_r _ [30, 31, 2, 3, 20, 32, 33, 63, 64, 65] (by decide +kernel) (by decide +kernel)
set_option maxRecDepth 20000 in
theorem gX3_init_X2_init_n28 : GoodIn wsX3_init (wsX2_init) := ggX3_init_X2_init
set_option maxRecDepth 20000 in
theorem ggX3_init_X1_layClear : GoodIn wsX3_init wsX1_layClear := goodIn_r _ [37, 38, 39, 21, 23, 40, 41, 42, 43, 49, 50, 51, 52, 53, 54] (by decide +kernel) (by decide +kernel)
set_option maxRecDepth 20000 in
theorem gX3_init_X1_layClear : GoodIn wsX3_init (wsV RX3 33 RX1 yX1_layClear wsX1_layClear) := goodIn_app (goodIn_of _ (by decide +kernel)) ggX3_init_X1_layClear
set_option maxRecDepth 20000 in
theorem ggX3_init_X2_append : GoodIn wsX3_init wsX2_append := goodIn_r _ [47, 48, 32, 33, 63, 64, 65] (by decide +kernel) (by decide +kernel)
set_option maxRecDepth 20000 in
theorem gX3_init_X2_append : GoodIn wsX3_init (wsV RX3 37 RX2 yX2_append wsX2_append) := goodIn_app (goodIn_of _ (by decide +kernel)) ggX3_init_X2_append
theorem dX3_init_0 : decode cX3_init 0 = .ok (.aload_n 0, 1) := by decide +kernel
theorem dX3_init_1 : decode cX3_init 1 = .ok (.invokespecial 1, 3) := by decide +kernel
theorem dX3_init_4 : decode cX3_init 4 = .ok (.aload_n 0, 1) := by decide +kernel
theorem dX3_init_5 : decode cX3_init 5 = .ok (.new 7, 3) := by decide +kernel
theorem dX3_init_8 : decode cX3_init 8 = .ok (.dup, 1) := by decide +kernel
theorem dX3_init_9 : decode cX3_init 9 = .ok (.invokespecial 9, 3) := by decide +kernel
theorem dX3_init_12 : decode cX3_init 12 = .ok (.putfield 10, 3) := by decide +kernel
theorem dX3_init_15 : decode cX3_init 15 = .ok (.aload_n 0, 1) := by decide +kernel
theorem dX3_init_16 : decode cX3_init 16 = .ok (.new 7, 3) := by decide +kernel
theorem dX3_init_19 : decode cX3_init 19 = .ok (.dup, 1) := by decide +kernel
theorem dX3_init_20 : decode cX3_init 20 = .ok (.invokespecial 9, 3) := by decide +kernel
theorem dX3_init_23 : decode cX3_init 23 = .ok (.putfield 16, 3) := by decide +kernel
theorem dX3_init_26 : decode cX3_init 26 = .ok (.aload_n 0, 1) := by decide +kernel
theorem dX3_init_27 : decode cX3_init 27 = .ok (.new 19, 3) := by decide +kernel
theorem dX3_init_30 : decode cX3_init 30 = .ok (.dup, 1) := by decide +kernel
theorem dX3_init_31 : decode cX3_init 31 = .ok (.invokespecial 21, 3) := by decide +kernel
theorem dX3_init_34 : decode cX3_init 34 = .ok (.putfield 22, 3) := by decide +kernel
theorem dX3_init_37 : decode cX3_init 37 = .ok (.aload_n 0, 1) := by decide +kernel
theorem dX3_init_38 : decode cX3_init 38 = .ok (.new 26, 3) := by decide +kernel
theorem dX3_init_41 : decode cX3_init 41 = .ok (.dup, 1) := by decide +kernel
theorem dX3_init_42 : decode cX3_init 42 = .ok (.invokespecial 28, 3) := by decide +kernel
theorem dX3_init_45 : decode cX3_init 45 = .ok (.putfield 29, 3) := by decide +kernel
theorem dX3_init_48 : decode cX3_init 48 = .ok (.aload_n 0, 1) := by decide +kernel
theorem dX3_init_49 : decode cX3_init 49 = .ok (.getfield 10, 3) := by decide +kernel
theorem dX3_init_52 : decode cX3_init 52 = .ok (.bipush 8, 2) := by decide +kernel
theorem dX3_init_54 : decode cX3_init 54 = .ok (.bipush 8, 2) := by decide +kernel
theorem dX3_init_56 : decode cX3_init 56 = .ok (.invokevirtual 33, 3) := by decide +kernel
theorem dX3_init_59 : decode cX3_init 59 = .ok (.aload_n 0, 1) := by decide +kernel
theorem dX3_init_60 : decode cX3_init 60 = .ok (.getfield 29, 3) := by decide +kernel
theorem dX3_init_63 : decode cX3_init 63 = .ok (.bipush 8, 2) := by decide +kernel
theorem dX3_init_65 : decode cX3_init 65 = .ok (.bipush 12, 2) := by decide +kernel
theorem dX3_init_67 : decode cX3_init 67 = .ok (.invokevirtual 37, 3) := by decide +kernel
theorem dX3_init_70 : decode cX3_init 70 = .ok (.pop, 1) := by decide +kernel
theorem dX3_init_71 : decode cX3_init 71 = .ok (.return_, 1) := by decide +kernel
set_option maxRecDepth 20000 in
theorem ggX3_lay_X3_requireWithin : GoodIn wsX3_lay wsX3_requireWithin := goodIn_ca (goodIn_r _ [5, 6, 7] (by decide +kernel) (by decide +kernel)) (goodIn_sub (fun _ h => List.mem_cons_of_mem _ (List.mem_append_right _ h)) (by decide +kernel))
set_option maxRecDepth 20000 in
theorem gX3_lay_X3_requireWithin : GoodIn wsX3_lay (va_wsS RX3 41 yX3_requireWithin wsX3_requireWithin) := goodIn_app (goodIn_of _ (by decide +kernel)) ggX3_lay_X3_requireWithin
set_option maxRecDepth 20000 in
theorem ggX3_lay_X1_layClear : GoodIn wsX3_lay wsX1_layClear := goodIn_r _ [12, 13, 14, 15, 16, 17, 18, 19, 20, 27, 28, 29, 30, 31, 32] (by decide +kernel) (by decide +kernel)
set_option maxRecDepth 20000 in
theorem gX3_lay_X1_layClear : GoodIn wsX3_lay (wsV RX3 33 RX1 yX1_layClear wsX1_layClear) := goodIn_app (goodIn_of _ (by decide +kernel)) ggX3_lay_X1_layClear
theorem dX3_lay_0 : decode cX3_lay 0 = .ok (.iload_n 1, 1) := by decide +kernel
theorem dX3_lay_1 : decode cX3_lay 1 = .ok (.iconst 3, 1) := by decide +kernel
theorem dX3_lay_2 : decode cX3_lay 2 = .ok (.bipush 12, 2) := by decide +kernel
theorem dX3_lay_4 : decode cX3_lay 4 = .ok (.invokestatic 41, 3) := by decide +kernel
theorem dX3_lay_7 : decode cX3_lay 7 = .ok (.iload_n 2, 1) := by decide +kernel
theorem dX3_lay_8 : decode cX3_lay 8 = .ok (.iconst 3, 1) := by decide +kernel
theorem dX3_lay_9 : decode cX3_lay 9 = .ok (.bipush 12, 2) := by decide +kernel
theorem dX3_lay_11 : decode cX3_lay 11 = .ok (.invokestatic 41, 3) := by decide +kernel
theorem dX3_lay_14 : decode cX3_lay 14 = .ok (.aload_n 0, 1) := by decide +kernel
theorem dX3_lay_15 : decode cX3_lay 15 = .ok (.getfield 10, 3) := by decide +kernel
theorem dX3_lay_18 : decode cX3_lay 18 = .ok (.iload_n 1, 1) := by decide +kernel
theorem dX3_lay_19 : decode cX3_lay 19 = .ok (.iload_n 2, 1) := by decide +kernel
theorem dX3_lay_20 : decode cX3_lay 20 = .ok (.invokevirtual 33, 3) := by decide +kernel
theorem dX3_lay_23 : decode cX3_lay 23 = .ok (.iload_n 1, 1) := by decide +kernel
theorem dX3_lay_24 : decode cX3_lay 24 = .ok (.iload_n 2, 1) := by decide +kernel
theorem dX3_lay_25 : decode cX3_lay 25 = .ok (.imul, 1) := by decide +kernel
theorem dX3_lay_26 : decode cX3_lay 26 = .ok (.ireturn, 1) := by decide +kernel
set_option maxRecDepth 20000 in
theorem ggX3_turn_X3_requireCell : GoodIn wsX3_turn wsX3_requireCell := goodIn_ca (goodIn_r _ [8, 9, 10, 3, 11, 12, 13, 14, 15, 16, 17, 18, 19, 20, 21, 41, 42, 43, 44, 45, 46, 47, 48, 49, 50, 51, 52] (by decide +kernel) (by decide +kernel)) (goodIn_sub (fun _ h => List.mem_cons_of_mem _ (List.mem_append_right _ h)) (by decide +kernel))
set_option maxRecDepth 20000 in
theorem gX3_turn_X3_requireCell : GoodIn wsX3_turn (wsV RX3 45 RX3 yX3_requireCell wsX3_requireCell) := goodIn_app (goodIn_of _ (by decide +kernel)) ggX3_turn_X3_requireCell
set_option maxRecDepth 20000 in
theorem ggX3_turn_X1_meltOf : GoodIn wsX3_turn wsX1_meltOf := goodIn_r _ [25, 26, 47, 48, 49, 50, 51, 52] (by decide +kernel) (by decide +kernel)
set_option maxRecDepth 20000 in
theorem gX3_turn_X1_meltOf : GoodIn wsX3_turn (wsV RX3 48 RX1 yX1_meltOf wsX1_meltOf) := goodIn_app (goodIn_of _ (by decide +kernel)) ggX3_turn_X1_meltOf
set_option maxRecDepth 20000 in
theorem ggX3_turn_X1_flip : GoodIn wsX3_turn wsX1_flip := goodIn_r _ [30, 31, 32, 12, 13, 14, 15, 16, 17, 18, 19, 20, 21, 47, 48, 49, 50, 51, 52] (by decide +kernel) (by decide +kernel)
set_option maxRecDepth 20000 in
theorem gX3_turn_X1_flip : GoodIn wsX3_turn (wsV RX3 58 RX1 yX1_flip wsX1_flip) := goodIn_app (goodIn_of _ (by decide +kernel)) ggX3_turn_X1_flip
set_option maxRecDepth 20000 in
theorem ggX3_turn_X1_hasFrost : GoodIn wsX3_turn wsX1_hasFrost := goodIn_r _ [36, 37, 38, 39, 14, 40, 31, 47, 48, 49, 50, 51, 52] (by decide +kernel) (by decide +kernel)
set_option maxRecDepth 20000 in
theorem gX3_turn_X1_hasFrost : GoodIn wsX3_turn (wsV RX3 61 RX1 yX1_hasFrost wsX1_hasFrost) := goodIn_app (goodIn_of _ (by decide +kernel)) ggX3_turn_X1_hasFrost
theorem dX3_turn_0 : decode cX3_turn 0 = .ok (.aload_n 0, 1) := by decide +kernel
theorem dX3_turn_1 : decode cX3_turn 1 = .ok (.iload_n 1, 1) := by decide +kernel
theorem dX3_turn_2 : decode cX3_turn 2 = .ok (.iload_n 2, 1) := by decide +kernel
theorem dX3_turn_3 : decode cX3_turn 3 = .ok (.invokevirtual 45, 3) := by decide +kernel
theorem dX3_turn_6 : decode cX3_turn 6 = .ok (.aload_n 0, 1) := by decide +kernel
theorem dX3_turn_7 : decode cX3_turn 7 = .ok (.getfield 10, 3) := by decide +kernel
theorem dX3_turn_10 : decode cX3_turn 10 = .ok (.iload_n 1, 1) := by decide +kernel
theorem dX3_turn_11 : decode cX3_turn 11 = .ok (.iload_n 2, 1) := by decide +kernel
theorem dX3_turn_12 : decode cX3_turn 12 = .ok (.invokevirtual 48, 3) := by decide +kernel
theorem dX3_turn_15 : decode cX3_turn 15 = .ok (.ifCond .le 13, 3) := by decide +kernel
theorem dX3_turn_18 : decode cX3_turn 18 = .ok (.new 51, 3) := by decide +kernel
theorem dX3_turn_21 : decode cX3_turn 21 = .ok (.dup, 1) := by decide +kernel
theorem dX3_turn_22 : decode cX3_turn 22 = .ok (.ldc 53, 2) := by decide +kernel
theorem dX3_turn_24 : decode cX3_turn 24 = .ok (.invokespecial 55, 3) := by decide +kernel
theorem dX3_turn_27 : decode cX3_turn 27 = .ok (.athrow, 1) := by decide +kernel
theorem dX3_turn_28 : decode cX3_turn 28 = .ok (.aload_n 0, 1) := by decide +kernel
theorem dX3_turn_29 : decode cX3_turn 29 = .ok (.getfield 10, 3) := by decide +kernel
theorem dX3_turn_32 : decode cX3_turn 32 = .ok (.iload_n 1, 1) := by decide +kernel
theorem dX3_turn_33 : decode cX3_turn 33 = .ok (.iload_n 2, 1) := by decide +kernel
theorem dX3_turn_34 : decode cX3_turn 34 = .ok (.invokevirtual 58, 3) := by decide +kernel
theorem dX3_turn_37 : decode cX3_turn 37 = .ok (.aload_n 0, 1) := by decide +kernel
theorem dX3_turn_38 : decode cX3_turn 38 = .ok (.getfield 10, 3) := by decide +kernel
theorem dX3_turn_41 : decode cX3_turn 41 = .ok (.iload_n 1, 1) := by decide +kernel
theorem dX3_turn_42 : decode cX3_turn 42 = .ok (.iload_n 2, 1) := by decide +kernel
theorem dX3_turn_43 : decode cX3_turn 43 = .ok (.invokevirtual 61, 3) := by decide +kernel
theorem dX3_turn_46 : decode cX3_turn 46 = .ok (.ireturn, 1) := by decide +kernel
set_option maxRecDepth 20000 in
theorem ggX3_press_X3_requireCell : GoodIn wsX3_press wsX3_requireCell := goodIn_ca (goodIn_r _ [6, 7, 8, 1, 9, 10, 11, 12, 13, 14, 15, 16, 17, 18, 19, 44, 45, 46, 47, 48, 49, 50, 51, 52, 53, 54, 55] (by decide +kernel) (by decide +kernel)) (goodIn_sub (fun _ h => List.mem_cons_of_mem _ (List.mem_append_left _ (List.mem_append_right _ h))) (by decide +kernel))
set_option maxRecDepth 20000 in
theorem gX3_press_X3_requireCell : GoodIn wsX3_press (wsV RX3 45 RX3 yX3_requireCell wsX3_requireCell) := goodIn_app (goodIn_of _ (by decide +kernel)) ggX3_press_X3_requireCell
set_option maxRecDepth 20000 in
theorem ggX3_press_X3_requireWithin : GoodIn wsX3_press wsX3_requireWithin := goodIn_ca (goodIn_r _ [22, 23, 24] (by decide +kernel) (by decide +kernel)) (goodIn_sub (fun _ h => List.mem_cons_of_mem _ (List.mem_append_right _ h)) (by decide +kernel))
set_option maxRecDepth 20000 in
theorem gX3_press_X3_requireWithin : GoodIn wsX3_press (va_wsS RX3 41 yX3_requireWithin wsX3_requireWithin) := goodIn_app (goodIn_of _ (by decide +kernel)) ggX3_press_X3_requireWithin
set_option maxRecDepth 20000 in
theorem ggX3_press_X1_melt : GoodIn wsX3_press wsX1_melt := goodIn_r _ [28, 29, 30, 10, 11, 12, 13, 14, 15, 16, 17, 18, 19, 31, 32, 33, 34, 35, 36, 37, 38, 39, 40, 41, 42, 43, 50, 51, 52, 53, 54, 55] (by decide +kernel) (by decide +kernel)
set_option maxRecDepth 20000 in
theorem gX3_press_X1_melt : GoodIn wsX3_press (wsV RX3 65 RX1 yX1_melt wsX1_melt) := goodIn_app (goodIn_of _ (by decide +kernel)) ggX3_press_X1_melt
theorem dX3_press_0 : decode cX3_press 0 = .ok (.aload_n 0, 1) := by decide +kernel
theorem dX3_press_1 : decode cX3_press 1 = .ok (.iload_n 1, 1) := by decide +kernel
theorem dX3_press_2 : decode cX3_press 2 = .ok (.iload_n 2, 1) := by decide +kernel
theorem dX3_press_3 : decode cX3_press 3 = .ok (.invokevirtual 45, 3) := by decide +kernel
theorem dX3_press_6 : decode cX3_press 6 = .ok (.iload_n 3, 1) := by decide +kernel
theorem dX3_press_7 : decode cX3_press 7 = .ok (.iconst 1, 1) := by decide +kernel
theorem dX3_press_8 : decode cX3_press 8 = .ok (.bipush 9, 2) := by decide +kernel
theorem dX3_press_10 : decode cX3_press 10 = .ok (.invokestatic 41, 3) := by decide +kernel
theorem dX3_press_13 : decode cX3_press 13 = .ok (.aload_n 0, 1) := by decide +kernel
theorem dX3_press_14 : decode cX3_press 14 = .ok (.getfield 10, 3) := by decide +kernel
theorem dX3_press_17 : decode cX3_press 17 = .ok (.iload_n 1, 1) := by decide +kernel
theorem dX3_press_18 : decode cX3_press 18 = .ok (.iload_n 2, 1) := by decide +kernel
theorem dX3_press_19 : decode cX3_press 19 = .ok (.iload_n 3, 1) := by decide +kernel
theorem dX3_press_20 : decode cX3_press 20 = .ok (.invokevirtual 65, 3) := by decide +kernel
theorem dX3_press_23 : decode cX3_press 23 = .ok (.aload_n 0, 1) := by decide +kernel
theorem dX3_press_24 : decode cX3_press 24 = .ok (.getfield 10, 3) := by decide +kernel
theorem dX3_press_27 : decode cX3_press 27 = .ok (.iload_n 1, 1) := by decide +kernel
theorem dX3_press_28 : decode cX3_press 28 = .ok (.iconst 1, 1) := by decide +kernel
theorem dX3_press_29 : decode cX3_press 29 = .ok (.isub, 1) := by decide +kernel
theorem dX3_press_30 : decode cX3_press 30 = .ok (.iload_n 2, 1) := by decide +kernel
theorem dX3_press_31 : decode cX3_press 31 = .ok (.iload_n 3, 1) := by decide +kernel
theorem dX3_press_32 : decode cX3_press 32 = .ok (.invokevirtual 65, 3) := by decide +kernel
theorem dX3_press_35 : decode cX3_press 35 = .ok (.iadd, 1) := by decide +kernel
theorem dX3_press_36 : decode cX3_press 36 = .ok (.aload_n 0, 1) := by decide +kernel
theorem dX3_press_37 : decode cX3_press 37 = .ok (.getfield 10, 3) := by decide +kernel
theorem dX3_press_40 : decode cX3_press 40 = .ok (.iload_n 1, 1) := by decide +kernel
theorem dX3_press_41 : decode cX3_press 41 = .ok (.iconst 1, 1) := by decide +kernel
theorem dX3_press_42 : decode cX3_press 42 = .ok (.iadd, 1) := by decide +kernel
theorem dX3_press_43 : decode cX3_press 43 = .ok (.iload_n 2, 1) := by decide +kernel
theorem dX3_press_44 : decode cX3_press 44 = .ok (.iload_n 3, 1) := by decide +kernel
theorem dX3_press_45 : decode cX3_press 45 = .ok (.invokevirtual 65, 3) := by decide +kernel
theorem dX3_press_48 : decode cX3_press 48 = .ok (.iadd, 1) := by decide +kernel
theorem dX3_press_49 : decode cX3_press 49 = .ok (.aload_n 0, 1) := by decide +kernel
theorem dX3_press_50 : decode cX3_press 50 = .ok (.getfield 10, 3) := by decide +kernel
theorem dX3_press_53 : decode cX3_press 53 = .ok (.iload_n 1, 1) := by decide +kernel
theorem dX3_press_54 : decode cX3_press 54 = .ok (.iload_n 2, 1) := by decide +kernel
theorem dX3_press_55 : decode cX3_press 55 = .ok (.iconst 1, 1) := by decide +kernel
theorem dX3_press_56 : decode cX3_press 56 = .ok (.isub, 1) := by decide +kernel
theorem dX3_press_57 : decode cX3_press 57 = .ok (.iload_n 3, 1) := by decide +kernel
theorem dX3_press_58 : decode cX3_press 58 = .ok (.invokevirtual 65, 3) := by decide +kernel
theorem dX3_press_61 : decode cX3_press 61 = .ok (.iadd, 1) := by decide +kernel
theorem dX3_press_62 : decode cX3_press 62 = .ok (.aload_n 0, 1) := by decide +kernel
theorem dX3_press_63 : decode cX3_press 63 = .ok (.getfield 10, 3) := by decide +kernel
theorem dX3_press_66 : decode cX3_press 66 = .ok (.iload_n 1, 1) := by decide +kernel
theorem dX3_press_67 : decode cX3_press 67 = .ok (.iload_n 2, 1) := by decide +kernel
theorem dX3_press_68 : decode cX3_press 68 = .ok (.iconst 1, 1) := by decide +kernel
theorem dX3_press_69 : decode cX3_press 69 = .ok (.iadd, 1) := by decide +kernel
theorem dX3_press_70 : decode cX3_press 70 = .ok (.iload_n 3, 1) := by decide +kernel
theorem dX3_press_71 : decode cX3_press 71 = .ok (.invokevirtual 65, 3) := by decide +kernel
theorem dX3_press_74 : decode cX3_press 74 = .ok (.iadd, 1) := by decide +kernel
theorem dX3_press_75 : decode cX3_press 75 = .ok (.ireturn, 1) := by decide +kernel
set_option maxRecDepth 20000 in
theorem ggX3_setFrame_X3_requireWithin : GoodIn wsX3_setFrame wsX3_requireWithin := goodIn_ca (goodIn_r _ [5, 6, 7] (by decide +kernel) (by decide +kernel)) (goodIn_sub (fun _ h => List.mem_cons_of_mem _ (List.mem_append_right _ h)) (by decide +kernel))
set_option maxRecDepth 20000 in
theorem gX3_setFrame_X3_requireWithin : GoodIn wsX3_setFrame (va_wsS RX3 41 yX3_requireWithin wsX3_requireWithin) := goodIn_app (goodIn_of _ (by decide +kernel)) ggX3_setFrame_X3_requireWithin
theorem dX3_setFrame_0 : decode cX3_setFrame 0 = .ok (.iload_n 1, 1) := by decide +kernel
theorem dX3_setFrame_1 : decode cX3_setFrame 1 = .ok (.iconst 0, 1) := by decide +kernel
theorem dX3_setFrame_2 : decode cX3_setFrame 2 = .ok (.iconst 2, 1) := by decide +kernel
theorem dX3_setFrame_3 : decode cX3_setFrame 3 = .ok (.invokestatic 41, 3) := by decide +kernel
theorem dX3_setFrame_6 : decode cX3_setFrame 6 = .ok (.aload_n 0, 1) := by decide +kernel
theorem dX3_setFrame_7 : decode cX3_setFrame 7 = .ok (.getfield 10, 3) := by decide +kernel
theorem dX3_setFrame_10 : decode cX3_setFrame 10 = .ok (.getfield 69, 3) := by decide +kernel
theorem dX3_setFrame_13 : decode cX3_setFrame 13 = .ok (.istore_n 2, 1) := by decide +kernel
theorem dX3_setFrame_14 : decode cX3_setFrame 14 = .ok (.aload_n 0, 1) := by decide +kernel
theorem dX3_setFrame_15 : decode cX3_setFrame 15 = .ok (.getfield 10, 3) := by decide +kernel
theorem dX3_setFrame_18 : decode cX3_setFrame 18 = .ok (.iload_n 1, 1) := by decide +kernel
theorem dX3_setFrame_19 : decode cX3_setFrame 19 = .ok (.putfield 69, 3) := by decide +kernel
theorem dX3_setFrame_22 : decode cX3_setFrame 22 = .ok (.iload_n 2, 1) := by decide +kernel
theorem dX3_setFrame_23 : decode cX3_setFrame 23 = .ok (.ireturn, 1) := by decide +kernel
set_option maxRecDepth 20000 in
theorem ggX3_addRule_X3_requireWithin : GoodIn wsX3_addRule wsX3_requireWithin := goodIn_ca (goodIn_r _ [7, 8, 9] (by decide +kernel) (by decide +kernel)) (goodIn_sub (fun _ h => List.mem_cons_of_mem _ (List.mem_append_right _ h)) (by decide +kernel))
set_option maxRecDepth 20000 in
theorem gX3_addRule_X3_requireWithin : GoodIn wsX3_addRule (va_wsS RX3 41 yX3_requireWithin wsX3_requireWithin) := goodIn_app (goodIn_of _ (by decide +kernel)) ggX3_addRule_X3_requireWithin
set_option maxRecDepth 20000 in
theorem ggX3_addRule_X2_isFull : GoodIn wsX3_addRule wsX2_isFull := goodIn_r _ [14, 15, 28, 29, 30] (by decide +kernel) (by decide +kernel)
set_option maxRecDepth 20000 in
theorem gX3_addRule_X2_isFull : GoodIn wsX3_addRule (wsV RX3 73 RX2 yX2_isFull wsX2_isFull) := goodIn_app (goodIn_of _ (by decide +kernel)) ggX3_addRule_X2_isFull
set_option maxRecDepth 20000 in
theorem ggX3_addRule_X2_append : GoodIn wsX3_addRule wsX2_append := goodIn_r _ [19, 15, 20, 21, 28, 29, 30] (by decide +kernel) (by decide +kernel)
set_option maxRecDepth 20000 in
theorem gX3_addRule_X2_append : GoodIn wsX3_addRule (wsV RX3 37 RX2 yX2_append wsX2_append) := goodIn_app (goodIn_of _ (by decide +kernel)) ggX3_addRule_X2_append
theorem dX3_addRule_0 : decode cX3_addRule 0 = .ok (.iload_n 1, 1) := by decide +kernel
theorem dX3_addRule_1 : decode cX3_addRule 1 = .ok (.iconst 0, 1) := by decide +kernel
theorem dX3_addRule_2 : decode cX3_addRule 2 = .ok (.sipush 511, 3) := by decide +kernel
theorem dX3_addRule_5 : decode cX3_addRule 5 = .ok (.invokestatic 41, 3) := by decide +kernel
theorem dX3_addRule_8 : decode cX3_addRule 8 = .ok (.iload_n 2, 1) := by decide +kernel
theorem dX3_addRule_9 : decode cX3_addRule 9 = .ok (.iconst 0, 1) := by decide +kernel
theorem dX3_addRule_10 : decode cX3_addRule 10 = .ok (.sipush 511, 3) := by decide +kernel
theorem dX3_addRule_13 : decode cX3_addRule 13 = .ok (.invokestatic 41, 3) := by decide +kernel
theorem dX3_addRule_16 : decode cX3_addRule 16 = .ok (.aload_n 0, 1) := by decide +kernel
theorem dX3_addRule_17 : decode cX3_addRule 17 = .ok (.getfield 29, 3) := by decide +kernel
theorem dX3_addRule_20 : decode cX3_addRule 20 = .ok (.invokevirtual 73, 3) := by decide +kernel
theorem dX3_addRule_23 : decode cX3_addRule 23 = .ok (.ifCond .eq 13, 3) := by decide +kernel
theorem dX3_addRule_26 : decode cX3_addRule 26 = .ok (.new 51, 3) := by decide +kernel
theorem dX3_addRule_29 : decode cX3_addRule 29 = .ok (.dup, 1) := by decide +kernel
theorem dX3_addRule_30 : decode cX3_addRule 30 = .ok (.ldc 77, 2) := by decide +kernel
theorem dX3_addRule_32 : decode cX3_addRule 32 = .ok (.invokespecial 55, 3) := by decide +kernel
theorem dX3_addRule_35 : decode cX3_addRule 35 = .ok (.athrow, 1) := by decide +kernel
theorem dX3_addRule_36 : decode cX3_addRule 36 = .ok (.aload_n 0, 1) := by decide +kernel
theorem dX3_addRule_37 : decode cX3_addRule 37 = .ok (.getfield 29, 3) := by decide +kernel
theorem dX3_addRule_40 : decode cX3_addRule 40 = .ok (.iload_n 1, 1) := by decide +kernel
theorem dX3_addRule_41 : decode cX3_addRule 41 = .ok (.iload_n 2, 1) := by decide +kernel
theorem dX3_addRule_42 : decode cX3_addRule 42 = .ok (.invokevirtual 37, 3) := by decide +kernel
theorem dX3_addRule_45 : decode cX3_addRule 45 = .ok (.ireturn, 1) := by decide +kernel
set_option maxRecDepth 20000 in
theorem ggX3_breathe_X2_has : GoodIn wsX3_breathe wsX2_has := goodIn_r _ [9, 10, 17, 18, 19] (by decide +kernel) (by decide +kernel)
set_option maxRecDepth 20000 in
theorem gX3_breathe_X2_has : GoodIn wsX3_breathe (wsV RX3 79 RX2 yX2_has wsX2_has) := goodIn_app (goodIn_of _ (by decide +kernel)) ggX3_breathe_X2_has
theorem dX3_breathe_0 : decode cX3_breathe 0 = .ok (.aload_n 0, 1) := by decide +kernel
theorem dX3_breathe_1 : decode cX3_breathe 1 = .ok (.getfield 29, 3) := by decide +kernel
theorem dX3_breathe_4 : decode cX3_breathe 4 = .ok (.iload_n 1, 1) := by decide +kernel
theorem dX3_breathe_5 : decode cX3_breathe 5 = .ok (.invokevirtual 79, 3) := by decide +kernel
theorem dX3_breathe_8 : decode cX3_breathe 8 = .ok (.ifCond .ne 13, 3) := by decide +kernel
theorem dX3_breathe_11 : decode cX3_breathe 11 = .ok (.new 83, 3) := by decide +kernel
theorem dX3_breathe_14 : decode cX3_breathe 14 = .ok (.dup, 1) := by decide +kernel
theorem dX3_breathe_15 : decode cX3_breathe 15 = .ok (.ldc 85, 2) := by decide +kernel
theorem dX3_breathe_17 : decode cX3_breathe 17 = .ok (.invokespecial 87, 3) := by decide +kernel
theorem dX3_breathe_20 : decode cX3_breathe 20 = .ok (.athrow, 1) := by decide +kernel
theorem dX3_breathe_21 : decode cX3_breathe 21 = .ok (.aload_n 0, 1) := by decide +kernel
theorem dX3_breathe_22 : decode cX3_breathe 22 = .ok (.getfield 88, 3) := by decide +kernel
theorem dX3_breathe_25 : decode cX3_breathe 25 = .ok (.istore_n 2, 1) := by decide +kernel
theorem dX3_breathe_26 : decode cX3_breathe 26 = .ok (.aload_n 0, 1) := by decide +kernel
theorem dX3_breathe_27 : decode cX3_breathe 27 = .ok (.iload_n 1, 1) := by decide +kernel
theorem dX3_breathe_28 : decode cX3_breathe 28 = .ok (.putfield 88, 3) := by decide +kernel
theorem dX3_breathe_31 : decode cX3_breathe 31 = .ok (.iload_n 2, 1) := by decide +kernel
theorem dX3_breathe_32 : decode cX3_breathe 32 = .ok (.ireturn, 1) := by decide +kernel
set_option maxRecDepth 20000 in
theorem ggX3_grow_X3_requireWithin : GoodIn wsX3_grow wsX3_requireWithin := goodIn_ca (goodIn_r _ [8, 9, 10] (by decide +kernel) (by decide +kernel)) (goodIn_sub (fun _ h => List.mem_cons_of_mem _ (List.mem_append_right _ h)) (by decide +kernel))
set_option maxRecDepth 20000 in
theorem gX3_grow_X3_requireWithin : GoodIn wsX3_grow (va_wsS RX3 41 yX3_requireWithin wsX3_requireWithin) := goodIn_app (goodIn_of _ (by decide +kernel)) ggX3_grow_X3_requireWithin
set_option maxRecDepth 20000 in
theorem ggX3_grow_X2_freezesBy : GoodIn wsX3_grow wsX2_freezesBy := goodIn_r _ [15, 16, 17, 18, 19, 14, 20, 21, 94, 95, 96] (by decide +kernel) (by decide +kernel)
set_option maxRecDepth 20000 in
theorem gX3_grow_X2_freezesBy : GoodIn wsX3_grow (wsV RX3 91 RX2 yX2_freezesBy wsX2_freezesBy) := goodIn_app (goodIn_of _ (by decide +kernel)) ggX3_grow_X2_freezesBy
set_option maxRecDepth 20000 in
theorem ggX3_grow_X2_staysBy : GoodIn wsX3_grow wsX2_staysBy := goodIn_r _ [25, 26, 17, 18, 19, 14, 20, 21, 94, 95, 96] (by decide +kernel) (by decide +kernel)
set_option maxRecDepth 20000 in
theorem gX3_grow_X2_staysBy : GoodIn wsX3_grow (wsV RX3 95 RX2 yX2_staysBy wsX2_staysBy) := goodIn_app (goodIn_of _ (by decide +kernel)) ggX3_grow_X2_staysBy
set_option maxRecDepth 20000 in
theorem ggX3_grow_X1_step : GoodIn wsX3_grow wsX1_step := goodIn_r _ [31, 32, 33, 34, 35, 36, 30, 37, 38, 39, 40, 41, 42, 43, 44, 45, 46, 47, 48, 49, 50, 51, 52, 53, 54, 55, 56, 57, 58, 59, 60, 61, 62, 63, 64, 65, 66, 67, 68, 69, 70, 71, 72, 73, 74, 75, 76, 77, 78, 79, 80, 81, 82, 83, 97, 98, 99, 100, 101, 102] (by decide +kernel) (by decide +kernel)
set_option maxRecDepth 20000 in
theorem gX3_grow_X1_step : GoodIn wsX3_grow (wsV RX3 98 RX1 yX1_step wsX1_step) := goodIn_app (goodIn_of _ (by decide +kernel)) ggX3_grow_X1_step
set_option maxRecDepth 20000 in
theorem ggX3_grow_X1_countFrost : GoodIn wsX3_grow wsX1_countFrost := goodIn_r _ [87, 32, 48, 49, 50, 30, 51, 52, 64, 65, 66, 67, 68, 69, 70, 97, 98, 99, 100, 101, 102] (by decide +kernel) (by decide +kernel)
set_option maxRecDepth 20000 in
theorem gX3_grow_X1_countFrost : GoodIn wsX3_grow (wsV RX3 104 RX1 yX1_countFrost wsX1_countFrost) := goodIn_app (goodIn_of _ (by decide +kernel)) ggX3_grow_X1_countFrost
theorem dX3_grow_0 : decode cX3_grow 0 = .ok (.iload_n 1, 1) := by decide +kernel
theorem dX3_grow_1 : decode cX3_grow 1 = .ok (.iconst 1, 1) := by decide +kernel
theorem dX3_grow_2 : decode cX3_grow 2 = .ok (.bipush 60, 2) := by decide +kernel
theorem dX3_grow_4 : decode cX3_grow 4 = .ok (.invokestatic 41, 3) := by decide +kernel
theorem dX3_grow_7 : decode cX3_grow 7 = .ok (.iconst 0, 1) := by decide +kernel
theorem dX3_grow_8 : decode cX3_grow 8 = .ok (.istore_n 2, 1) := by decide +kernel
theorem dX3_grow_9 : decode cX3_grow 9 = .ok (.iload_n 2, 1) := by decide +kernel
theorem dX3_grow_10 : decode cX3_grow 10 = .ok (.iload_n 1, 1) := by decide +kernel
theorem dX3_grow_11 : decode cX3_grow 11 = .ok (.if_icmp .ge 39, 3) := by decide +kernel
theorem dX3_grow_14 : decode cX3_grow 14 = .ok (.aload_n 0, 1) := by decide +kernel
theorem dX3_grow_15 : decode cX3_grow 15 = .ok (.getfield 10, 3) := by decide +kernel
theorem dX3_grow_18 : decode cX3_grow 18 = .ok (.aload_n 0, 1) := by decide +kernel
theorem dX3_grow_19 : decode cX3_grow 19 = .ok (.getfield 29, 3) := by decide +kernel
theorem dX3_grow_22 : decode cX3_grow 22 = .ok (.aload_n 0, 1) := by decide +kernel
theorem dX3_grow_23 : decode cX3_grow 23 = .ok (.getfield 88, 3) := by decide +kernel
theorem dX3_grow_26 : decode cX3_grow 26 = .ok (.invokevirtual 91, 3) := by decide +kernel
theorem dX3_grow_29 : decode cX3_grow 29 = .ok (.aload_n 0, 1) := by decide +kernel
theorem dX3_grow_30 : decode cX3_grow 30 = .ok (.getfield 29, 3) := by decide +kernel
theorem dX3_grow_33 : decode cX3_grow 33 = .ok (.aload_n 0, 1) := by decide +kernel
theorem dX3_grow_34 : decode cX3_grow 34 = .ok (.getfield 88, 3) := by decide +kernel
theorem dX3_grow_37 : decode cX3_grow 37 = .ok (.invokevirtual 95, 3) := by decide +kernel
theorem dX3_grow_40 : decode cX3_grow 40 = .ok (.invokevirtual 98, 3) := by decide +kernel
theorem dX3_grow_43 : decode cX3_grow 43 = .ok (.pop, 1) := by decide +kernel
theorem dX3_grow_44 : decode cX3_grow 44 = .ok (.iinc 2 1, 3) := by decide +kernel
theorem dX3_grow_47 : decode cX3_grow 47 = .ok (.goto (-38), 3) := by decide +kernel
theorem dX3_grow_50 : decode cX3_grow 50 = .ok (.aload_n 0, 1) := by decide +kernel
theorem dX3_grow_51 : decode cX3_grow 51 = .ok (.dup, 1) := by decide +kernel
theorem dX3_grow_52 : decode cX3_grow 52 = .ok (.getfield 101, 3) := by decide +kernel
theorem dX3_grow_55 : decode cX3_grow 55 = .ok (.iload_n 1, 1) := by decide +kernel
theorem dX3_grow_56 : decode cX3_grow 56 = .ok (.iadd, 1) := by decide +kernel
theorem dX3_grow_57 : decode cX3_grow 57 = .ok (.putfield 101, 3) := by decide +kernel
theorem dX3_grow_60 : decode cX3_grow 60 = .ok (.aload_n 0, 1) := by decide +kernel
theorem dX3_grow_61 : decode cX3_grow 61 = .ok (.getfield 10, 3) := by decide +kernel
theorem dX3_grow_64 : decode cX3_grow 64 = .ok (.invokevirtual 104, 3) := by decide +kernel
theorem dX3_grow_67 : decode cX3_grow 67 = .ok (.ireturn, 1) := by decide +kernel
theorem dX3_columns_0 : decode cX3_columns 0 = .ok (.aload_n 0, 1) := by decide +kernel
theorem dX3_columns_1 : decode cX3_columns 1 = .ok (.getfield 10, 3) := by decide +kernel
theorem dX3_columns_4 : decode cX3_columns 4 = .ok (.getfield 108, 3) := by decide +kernel
theorem dX3_columns_7 : decode cX3_columns 7 = .ok (.ireturn, 1) := by decide +kernel
theorem dX3_rows_0 : decode cX3_rows 0 = .ok (.aload_n 0, 1) := by decide +kernel
theorem dX3_rows_1 : decode cX3_rows 1 = .ok (.getfield 10, 3) := by decide +kernel
theorem dX3_rows_4 : decode cX3_rows 4 = .ok (.getfield 111, 3) := by decide +kernel
theorem dX3_rows_7 : decode cX3_rows 7 = .ok (.ireturn, 1) := by decide +kernel
theorem dX3_generation_0 : decode cX3_generation 0 = .ok (.aload_n 0, 1) := by decide +kernel
theorem dX3_generation_1 : decode cX3_generation 1 = .ok (.getfield 101, 3) := by decide +kernel
theorem dX3_generation_4 : decode cX3_generation 4 = .ok (.ireturn, 1) := by decide +kernel
theorem dX3_rules_0 : decode cX3_rules 0 = .ok (.aload_n 0, 1) := by decide +kernel
theorem dX3_rules_1 : decode cX3_rules 1 = .ok (.getfield 29, 3) := by decide +kernel
theorem dX3_rules_4 : decode cX3_rules 4 = .ok (.getfield 114, 3) := by decide +kernel
theorem dX3_rules_7 : decode cX3_rules 7 = .ok (.ireturn, 1) := by decide +kernel
theorem dX3_breath_0 : decode cX3_breath 0 = .ok (.aload_n 0, 1) := by decide +kernel
theorem dX3_breath_1 : decode cX3_breath 1 = .ok (.getfield 88, 3) := by decide +kernel
theorem dX3_breath_4 : decode cX3_breath 4 = .ok (.ireturn, 1) := by decide +kernel
set_option maxRecDepth 20000 in
theorem ggX3_frozen_X1_countFrost : GoodIn wsX3_frozen wsX1_countFrost := goodIn_r _ [6, 7, 8, 9, 10, 5, 11, 12, 13, 14, 15, 16, 17, 18, 19, 26, 27, 28, 29, 30, 31] (by decide +kernel) (by decide +kernel)
set_option maxRecDepth 20000 in
theorem gX3_frozen_X1_countFrost : GoodIn wsX3_frozen (wsV RX3 104 RX1 yX1_countFrost wsX1_countFrost) := goodIn_app (goodIn_of _ (by decide +kernel)) ggX3_frozen_X1_countFrost
theorem dX3_frozen_0 : decode cX3_frozen 0 = .ok (.aload_n 0, 1) := by decide +kernel
theorem dX3_frozen_1 : decode cX3_frozen 1 = .ok (.getfield 10, 3) := by decide +kernel
theorem dX3_frozen_4 : decode cX3_frozen 4 = .ok (.invokevirtual 104, 3) := by decide +kernel
theorem dX3_frozen_7 : decode cX3_frozen 7 = .ok (.ireturn, 1) := by decide +kernel
set_option maxRecDepth 20000 in
theorem ggX3_melted_X1_countMelted : GoodIn wsX3_melted wsX1_countMelted := goodIn_r _ [6, 7, 14, 15, 16, 17, 18, 19] (by decide +kernel) (by decide +kernel)
set_option maxRecDepth 20000 in
theorem gX3_melted_X1_countMelted : GoodIn wsX3_melted (wsV RX3 117 RX1 yX1_countMelted wsX1_countMelted) := goodIn_app (goodIn_of _ (by decide +kernel)) ggX3_melted_X1_countMelted
theorem dX3_melted_0 : decode cX3_melted 0 = .ok (.aload_n 0, 1) := by decide +kernel
theorem dX3_melted_1 : decode cX3_melted 1 = .ok (.getfield 10, 3) := by decide +kernel
theorem dX3_melted_4 : decode cX3_melted 4 = .ok (.invokevirtual 117, 3) := by decide +kernel
theorem dX3_melted_7 : decode cX3_melted 7 = .ok (.ireturn, 1) := by decide +kernel
set_option maxRecDepth 20000 in
theorem ggX3_isFrozen_X3_requireCell : GoodIn wsX3_isFrozen wsX3_requireCell := goodIn_ca (goodIn_r _ [6, 7, 8, 1, 9, 10, 11, 12, 13, 14, 15, 16, 17, 18, 19, 29, 30, 31, 32, 33, 34, 35, 36, 37, 38, 39, 40] (by decide +kernel) (by decide +kernel)) (goodIn_sub (fun _ h => List.mem_cons_of_mem _ (List.mem_append_right _ h)) (by decide +kernel))
set_option maxRecDepth 20000 in
theorem gX3_isFrozen_X3_requireCell : GoodIn wsX3_isFrozen (wsV RX3 45 RX3 yX3_requireCell wsX3_requireCell) := goodIn_app (goodIn_of _ (by decide +kernel)) ggX3_isFrozen_X3_requireCell
set_option maxRecDepth 20000 in
theorem ggX3_isFrozen_X1_hasFrost : GoodIn wsX3_isFrozen wsX1_hasFrost := goodIn_r _ [23, 24, 25, 26, 12, 27, 28, 35, 36, 37, 38, 39, 40] (by decide +kernel) (by decide +kernel)
set_option maxRecDepth 20000 in
theorem gX3_isFrozen_X1_hasFrost : GoodIn wsX3_isFrozen (wsV RX3 61 RX1 yX1_hasFrost wsX1_hasFrost) := goodIn_app (goodIn_of _ (by decide +kernel)) ggX3_isFrozen_X1_hasFrost
theorem dX3_isFrozen_0 : decode cX3_isFrozen 0 = .ok (.aload_n 0, 1) := by decide +kernel
theorem dX3_isFrozen_1 : decode cX3_isFrozen 1 = .ok (.iload_n 1, 1) := by decide +kernel
theorem dX3_isFrozen_2 : decode cX3_isFrozen 2 = .ok (.iload_n 2, 1) := by decide +kernel
theorem dX3_isFrozen_3 : decode cX3_isFrozen 3 = .ok (.invokevirtual 45, 3) := by decide +kernel
theorem dX3_isFrozen_6 : decode cX3_isFrozen 6 = .ok (.aload_n 0, 1) := by decide +kernel
theorem dX3_isFrozen_7 : decode cX3_isFrozen 7 = .ok (.getfield 10, 3) := by decide +kernel
theorem dX3_isFrozen_10 : decode cX3_isFrozen 10 = .ok (.iload_n 1, 1) := by decide +kernel
theorem dX3_isFrozen_11 : decode cX3_isFrozen 11 = .ok (.iload_n 2, 1) := by decide +kernel
theorem dX3_isFrozen_12 : decode cX3_isFrozen 12 = .ok (.invokevirtual 61, 3) := by decide +kernel
theorem dX3_isFrozen_15 : decode cX3_isFrozen 15 = .ok (.ireturn, 1) := by decide +kernel
set_option maxRecDepth 20000 in
theorem ggX3_meltedFor_X3_requireCell : GoodIn wsX3_meltedFor wsX3_requireCell := goodIn_ca (goodIn_r _ [6, 7, 8, 1, 9, 10, 11, 12, 13, 14, 15, 16, 17, 18, 19, 25, 26, 27, 28, 29, 30, 31, 32, 33, 34, 35, 36] (by decide +kernel) (by decide +kernel)) (goodIn_sub (fun _ h => List.mem_cons_of_mem _ (List.mem_append_right _ h)) (by decide +kernel))
set_option maxRecDepth 20000 in
theorem gX3_meltedFor_X3_requireCell : GoodIn wsX3_meltedFor (wsV RX3 45 RX3 yX3_requireCell wsX3_requireCell) := goodIn_app (goodIn_of _ (by decide +kernel)) ggX3_meltedFor_X3_requireCell
set_option maxRecDepth 20000 in
theorem ggX3_meltedFor_X1_meltOf : GoodIn wsX3_meltedFor wsX1_meltOf := goodIn_r _ [23, 24, 31, 32, 33, 34, 35, 36] (by decide +kernel) (by decide +kernel)
set_option maxRecDepth 20000 in
theorem gX3_meltedFor_X1_meltOf : GoodIn wsX3_meltedFor (wsV RX3 48 RX1 yX1_meltOf wsX1_meltOf) := goodIn_app (goodIn_of _ (by decide +kernel)) ggX3_meltedFor_X1_meltOf
theorem dX3_meltedFor_0 : decode cX3_meltedFor 0 = .ok (.aload_n 0, 1) := by decide +kernel
theorem dX3_meltedFor_1 : decode cX3_meltedFor 1 = .ok (.iload_n 1, 1) := by decide +kernel
theorem dX3_meltedFor_2 : decode cX3_meltedFor 2 = .ok (.iload_n 2, 1) := by decide +kernel
theorem dX3_meltedFor_3 : decode cX3_meltedFor 3 = .ok (.invokevirtual 45, 3) := by decide +kernel
theorem dX3_meltedFor_6 : decode cX3_meltedFor 6 = .ok (.aload_n 0, 1) := by decide +kernel
theorem dX3_meltedFor_7 : decode cX3_meltedFor 7 = .ok (.getfield 10, 3) := by decide +kernel
theorem dX3_meltedFor_10 : decode cX3_meltedFor 10 = .ok (.iload_n 1, 1) := by decide +kernel
theorem dX3_meltedFor_11 : decode cX3_meltedFor 11 = .ok (.iload_n 2, 1) := by decide +kernel
theorem dX3_meltedFor_12 : decode cX3_meltedFor 12 = .ok (.invokevirtual 48, 3) := by decide +kernel
theorem dX3_meltedFor_15 : decode cX3_meltedFor 15 = .ok (.ireturn, 1) := by decide +kernel
set_option maxRecDepth 20000 in
theorem ggX3_around_X3_requireCell : GoodIn wsX3_around wsX3_requireCell := goodIn_ca (goodIn_r _ [6, 7, 8, 1, 9, 10, 11, 12, 13, 14, 15, 16, 17, 18, 19, 48, 49, 50, 51, 52, 53, 54, 55, 56, 57, 58, 59] (by decide +kernel) (by decide +kernel)) (goodIn_sub (fun _ h => List.mem_cons_of_mem _ (List.mem_append_right _ h)) (by decide +kernel))
set_option maxRecDepth 20000 in
theorem gX3_around_X3_requireCell : GoodIn wsX3_around (wsV RX3 45 RX3 yX3_requireCell wsX3_requireCell) := goodIn_app (goodIn_of _ (by decide +kernel)) ggX3_around_X3_requireCell
set_option maxRecDepth 20000 in
theorem ggX3_around_X1_countAround : GoodIn wsX3_around wsX1_countAround := goodIn_r _ [23, 24, 25, 26, 12, 27, 28, 19, 15, 16, 17, 18, 29, 30, 31, 32, 33, 34, 35, 36, 37, 14, 38, 39, 40, 41, 42, 43, 44, 45, 46, 47, 54, 55, 56, 57, 58, 59] (by decide +kernel) (by decide +kernel)
set_option maxRecDepth 20000 in
theorem gX3_around_X1_countAround : GoodIn wsX3_around (wsV RX3 120 RX1 yX1_countAround wsX1_countAround) := goodIn_app (goodIn_of _ (by decide +kernel)) ggX3_around_X1_countAround
theorem dX3_around_0 : decode cX3_around 0 = .ok (.aload_n 0, 1) := by decide +kernel
theorem dX3_around_1 : decode cX3_around 1 = .ok (.iload_n 1, 1) := by decide +kernel
theorem dX3_around_2 : decode cX3_around 2 = .ok (.iload_n 2, 1) := by decide +kernel
theorem dX3_around_3 : decode cX3_around 3 = .ok (.invokevirtual 45, 3) := by decide +kernel
theorem dX3_around_6 : decode cX3_around 6 = .ok (.aload_n 0, 1) := by decide +kernel
theorem dX3_around_7 : decode cX3_around 7 = .ok (.getfield 10, 3) := by decide +kernel
theorem dX3_around_10 : decode cX3_around 10 = .ok (.iload_n 1, 1) := by decide +kernel
theorem dX3_around_11 : decode cX3_around 11 = .ok (.iload_n 2, 1) := by decide +kernel
theorem dX3_around_12 : decode cX3_around 12 = .ok (.invokevirtual 120, 3) := by decide +kernel
theorem dX3_around_15 : decode cX3_around 15 = .ok (.ireturn, 1) := by decide +kernel
set_option maxRecDepth 20000 in
theorem ggX3_willFreeze_X3_requireCell : GoodIn wsX3_willFreeze wsX3_requireCell := goodIn_ca (goodIn_r _ [8, 9, 10, 1, 11, 12, 13, 14, 15, 16, 17, 18, 19, 20, 21, 79, 80, 81, 82, 83, 84, 85, 86, 87, 88, 89, 90] (by decide +kernel) (by decide +kernel)) (goodIn_sub (fun _ h => List.mem_cons_of_mem _ (List.mem_append_right _ h)) (by decide +kernel))
set_option maxRecDepth 20000 in
theorem gX3_willFreeze_X3_requireCell : GoodIn wsX3_willFreeze (wsV RX3 45 RX3 yX3_requireCell wsX3_requireCell) := goodIn_app (goodIn_of _ (by decide +kernel)) ggX3_willFreeze_X3_requireCell
set_option maxRecDepth 20000 in
theorem ggX3_willFreeze_X2_freezesBy : GoodIn wsX3_willFreeze wsX2_freezesBy := goodIn_r _ [26, 27, 28, 29, 30, 25, 31, 32, 91, 92, 93] (by decide +kernel) (by decide +kernel)
set_option maxRecDepth 20000 in
theorem gX3_willFreeze_X2_freezesBy : GoodIn wsX3_willFreeze (wsV RX3 91 RX2 yX2_freezesBy wsX2_freezesBy) := goodIn_app (goodIn_of _ (by decide +kernel)) ggX3_willFreeze_X2_freezesBy
set_option maxRecDepth 20000 in
theorem ggX3_willFreeze_X2_staysBy : GoodIn wsX3_willFreeze wsX2_staysBy := goodIn_r _ [36, 37, 28, 29, 30, 25, 31, 32, 91, 92, 93] (by decide +kernel) (by decide +kernel)
set_option maxRecDepth 20000 in
theorem gX3_willFreeze_X2_staysBy : GoodIn wsX3_willFreeze (wsV RX3 95 RX2 yX2_staysBy wsX2_staysBy) := goodIn_app (goodIn_of _ (by decide +kernel)) ggX3_willFreeze_X2_staysBy
set_option maxRecDepth 20000 in
theorem ggX3_willFreeze_X1_isFrozenNext : GoodIn wsX3_willFreeze wsX1_isFrozenNext := goodIn_r _ [41, 42, 43, 44, 14, 45, 16, 46, 47, 48, 49, 50, 21, 17, 18, 19, 20, 51, 52, 53, 54, 55, 56, 57, 58, 59, 60, 61, 62, 63, 64, 65, 66, 67, 68, 69, 70, 71, 72, 73, 74, 75, 76, 77, 78, 85, 86, 87, 88, 89, 90] (by decide +kernel) (by decide +kernel)
set_option maxRecDepth 20000 in
theorem gX3_willFreeze_X1_isFrozenNext : GoodIn wsX3_willFreeze (wsV RX3 123 RX1 yX1_isFrozenNext wsX1_isFrozenNext) := goodIn_app (goodIn_of _ (by decide +kernel)) ggX3_willFreeze_X1_isFrozenNext
theorem dX3_willFreeze_0 : decode cX3_willFreeze 0 = .ok (.aload_n 0, 1) := by decide +kernel
theorem dX3_willFreeze_1 : decode cX3_willFreeze 1 = .ok (.iload_n 1, 1) := by decide +kernel
theorem dX3_willFreeze_2 : decode cX3_willFreeze 2 = .ok (.iload_n 2, 1) := by decide +kernel
theorem dX3_willFreeze_3 : decode cX3_willFreeze 3 = .ok (.invokevirtual 45, 3) := by decide +kernel
theorem dX3_willFreeze_6 : decode cX3_willFreeze 6 = .ok (.aload_n 0, 1) := by decide +kernel
theorem dX3_willFreeze_7 : decode cX3_willFreeze 7 = .ok (.getfield 10, 3) := by decide +kernel
theorem dX3_willFreeze_10 : decode cX3_willFreeze 10 = .ok (.iload_n 1, 1) := by decide +kernel
theorem dX3_willFreeze_11 : decode cX3_willFreeze 11 = .ok (.iload_n 2, 1) := by decide +kernel
theorem dX3_willFreeze_12 : decode cX3_willFreeze 12 = .ok (.aload_n 0, 1) := by decide +kernel
theorem dX3_willFreeze_13 : decode cX3_willFreeze 13 = .ok (.getfield 29, 3) := by decide +kernel
theorem dX3_willFreeze_16 : decode cX3_willFreeze 16 = .ok (.aload_n 0, 1) := by decide +kernel
theorem dX3_willFreeze_17 : decode cX3_willFreeze 17 = .ok (.getfield 88, 3) := by decide +kernel
theorem dX3_willFreeze_20 : decode cX3_willFreeze 20 = .ok (.invokevirtual 91, 3) := by decide +kernel
theorem dX3_willFreeze_23 : decode cX3_willFreeze 23 = .ok (.aload_n 0, 1) := by decide +kernel
theorem dX3_willFreeze_24 : decode cX3_willFreeze 24 = .ok (.getfield 29, 3) := by decide +kernel
theorem dX3_willFreeze_27 : decode cX3_willFreeze 27 = .ok (.aload_n 0, 1) := by decide +kernel
theorem dX3_willFreeze_28 : decode cX3_willFreeze 28 = .ok (.getfield 88, 3) := by decide +kernel
theorem dX3_willFreeze_31 : decode cX3_willFreeze 31 = .ok (.invokevirtual 95, 3) := by decide +kernel
theorem dX3_willFreeze_34 : decode cX3_willFreeze 34 = .ok (.invokevirtual 123, 3) := by decide +kernel
theorem dX3_willFreeze_37 : decode cX3_willFreeze 37 = .ok (.ireturn, 1) := by decide +kernel
set_option maxRecDepth 20000 in
theorem ggX3_frozenInRow_X1_hasRow : GoodIn wsX3_frozenInRow wsX1_hasRow := goodIn_r _ [8, 9, 28, 29, 30, 31, 32, 33] (by decide +kernel) (by decide +kernel)
set_option maxRecDepth 20000 in
theorem gX3_frozenInRow_X1_hasRow : GoodIn wsX3_frozenInRow (wsV RX3 127 RX1 yX1_hasRow wsX1_hasRow) := goodIn_app (goodIn_of _ (by decide +kernel)) ggX3_frozenInRow_X1_hasRow
set_option maxRecDepth 20000 in
theorem ggX3_frozenInRow_X1_bitsOf : GoodIn wsX3_frozenInRow wsX1_bitsOf := goodIn_r _ [13, 14, 28, 29, 30, 31, 32, 33] (by decide +kernel) (by decide +kernel)
set_option maxRecDepth 20000 in
theorem gX3_frozenInRow_X1_bitsOf : GoodIn wsX3_frozenInRow (wsV RX3 132 RX1 yX1_bitsOf wsX1_bitsOf) := goodIn_app (goodIn_of _ (by decide +kernel)) ggX3_frozenInRow_X1_bitsOf
set_option maxRecDepth 20000 in
theorem ggX3_frozenInRow_J6_bitCount_0f7a4 : GoodIn wsX3_frozenInRow wsJ6_bitCount_0f7a4 := goodIn_r _ [18, 19, 20, 21] (by decide +kernel) (by decide +kernel)
set_option maxRecDepth 20000 in
theorem gX3_frozenInRow_J6_bitCount_0f7a4 : GoodIn wsX3_frozenInRow (va_wsS RX3 135 yJ6_bitCount_0f7a4 wsJ6_bitCount_0f7a4) := goodIn_app (goodIn_of _ (by decide +kernel)) ggX3_frozenInRow_J6_bitCount_0f7a4
theorem dX3_frozenInRow_0 : decode cX3_frozenInRow 0 = .ok (.aload_n 0, 1) := by decide +kernel
theorem dX3_frozenInRow_1 : decode cX3_frozenInRow 1 = .ok (.getfield 10, 3) := by decide +kernel
theorem dX3_frozenInRow_4 : decode cX3_frozenInRow 4 = .ok (.iload_n 1, 1) := by decide +kernel
theorem dX3_frozenInRow_5 : decode cX3_frozenInRow 5 = .ok (.invokevirtual 127, 3) := by decide +kernel
theorem dX3_frozenInRow_8 : decode cX3_frozenInRow 8 = .ok (.ifCond .ne 13, 3) := by decide +kernel
theorem dX3_frozenInRow_11 : decode cX3_frozenInRow 11 = .ok (.new 83, 3) := by decide +kernel
theorem dX3_frozenInRow_14 : decode cX3_frozenInRow 14 = .ok (.dup, 1) := by decide +kernel
theorem dX3_frozenInRow_15 : decode cX3_frozenInRow 15 = .ok (.ldc 130, 2) := by decide +kernel
theorem dX3_frozenInRow_17 : decode cX3_frozenInRow 17 = .ok (.invokespecial 87, 3) := by decide +kernel
theorem dX3_frozenInRow_20 : decode cX3_frozenInRow 20 = .ok (.athrow, 1) := by decide +kernel
theorem dX3_frozenInRow_21 : decode cX3_frozenInRow 21 = .ok (.aload_n 0, 1) := by decide +kernel
theorem dX3_frozenInRow_22 : decode cX3_frozenInRow 22 = .ok (.getfield 10, 3) := by decide +kernel
theorem dX3_frozenInRow_25 : decode cX3_frozenInRow 25 = .ok (.iload_n 1, 1) := by decide +kernel
theorem dX3_frozenInRow_26 : decode cX3_frozenInRow 26 = .ok (.invokevirtual 132, 3) := by decide +kernel
theorem dX3_frozenInRow_29 : decode cX3_frozenInRow 29 = .ok (.invokestatic 135, 3) := by decide +kernel
theorem dX3_frozenInRow_32 : decode cX3_frozenInRow 32 = .ok (.ireturn, 1) := by decide +kernel
set_option maxRecDepth 20000 in
theorem ggX3_flowers_X0_spreadOut : GoodIn wsX3_flowers wsX0_spreadOut := goodIn_r _ [7, 8, 9, 10, 11, 12, 13, 14, 55, 56, 49, 50, 51, 52, 53, 54] (by decide +kernel) (by decide +kernel)
set_option maxRecDepth 20000 in
theorem gX3_flowers_X0_spreadOut : GoodIn wsX3_flowers (wsV RX3 140 RX0 yX0_spreadOut wsX0_spreadOut) := goodIn_app (goodIn_of _ (by decide +kernel)) ggX3_flowers_X0_spreadOut
set_option maxRecDepth 20000 in
theorem ggX3_flowers_X0_pick : GoodIn wsX3_flowers wsX0_pick := goodIn_r _ [18, 8, 19, 20, 21, 22, 23, 24, 25, 26, 6, 27, 28, 29, 30, 31, 32, 33, 34, 35, 36, 37, 38, 39, 40, 41, 42, 55, 56] (by decide +kernel) (by decide +kernel)
set_option maxRecDepth 20000 in
theorem gX3_flowers_X0_pick : GoodIn wsX3_flowers (wsV RX3 144 RX0 yX0_pick wsX0_pick) := goodIn_app (goodIn_of _ (by decide +kernel)) ggX3_flowers_X0_pick
theorem dX3_flowers_0 : decode cX3_flowers 0 = .ok (.aload_n 0, 1) := by decide +kernel
theorem dX3_flowers_1 : decode cX3_flowers 1 = .ok (.getfield 22, 3) := by decide +kernel
theorem dX3_flowers_4 : decode cX3_flowers 4 = .ok (.aload_n 0, 1) := by decide +kernel
theorem dX3_flowers_5 : decode cX3_flowers 5 = .ok (.getfield 10, 3) := by decide +kernel
theorem dX3_flowers_8 : decode cX3_flowers 8 = .ok (.invokevirtual 140, 3) := by decide +kernel
theorem dX3_flowers_11 : decode cX3_flowers 11 = .ok (.iconst 0, 1) := by decide +kernel
theorem dX3_flowers_12 : decode cX3_flowers 12 = .ok (.istore_n 1, 1) := by decide +kernel
theorem dX3_flowers_13 : decode cX3_flowers 13 = .ok (.iconst 0, 1) := by decide +kernel
theorem dX3_flowers_14 : decode cX3_flowers 14 = .ok (.istore_n 2, 1) := by decide +kernel
theorem dX3_flowers_15 : decode cX3_flowers 15 = .ok (.iload_n 2, 1) := by decide +kernel
theorem dX3_flowers_16 : decode cX3_flowers 16 = .ok (.aload_n 0, 1) := by decide +kernel
theorem dX3_flowers_17 : decode cX3_flowers 17 = .ok (.getfield 10, 3) := by decide +kernel
theorem dX3_flowers_20 : decode cX3_flowers 20 = .ok (.getfield 111, 3) := by decide +kernel
theorem dX3_flowers_23 : decode cX3_flowers 23 = .ok (.if_icmp .ge 43, 3) := by decide +kernel
theorem dX3_flowers_26 : decode cX3_flowers 26 = .ok (.iconst 0, 1) := by decide +kernel
theorem dX3_flowers_27 : decode cX3_flowers 27 = .ok (.istore_n 3, 1) := by decide +kernel
theorem dX3_flowers_28 : decode cX3_flowers 28 = .ok (.iload_n 3, 1) := by decide +kernel
theorem dX3_flowers_29 : decode cX3_flowers 29 = .ok (.aload_n 0, 1) := by decide +kernel
theorem dX3_flowers_30 : decode cX3_flowers 30 = .ok (.getfield 10, 3) := by decide +kernel
theorem dX3_flowers_33 : decode cX3_flowers 33 = .ok (.getfield 108, 3) := by decide +kernel
theorem dX3_flowers_36 : decode cX3_flowers 36 = .ok (.if_icmp .ge 24, 3) := by decide +kernel
theorem dX3_flowers_39 : decode cX3_flowers 39 = .ok (.aload_n 0, 1) := by decide +kernel
theorem dX3_flowers_40 : decode cX3_flowers 40 = .ok (.getfield 22, 3) := by decide +kernel
theorem dX3_flowers_43 : decode cX3_flowers 43 = .ok (.iload_n 3, 1) := by decide +kernel
theorem dX3_flowers_44 : decode cX3_flowers 44 = .ok (.iload_n 2, 1) := by decide +kernel
theorem dX3_flowers_45 : decode cX3_flowers 45 = .ok (.invokevirtual 144, 3) := by decide +kernel
theorem dX3_flowers_48 : decode cX3_flowers 48 = .ok (.ifCond .le 6, 3) := by decide +kernel
theorem dX3_flowers_51 : decode cX3_flowers 51 = .ok (.iinc 1 1, 3) := by decide +kernel
theorem dX3_flowers_54 : decode cX3_flowers 54 = .ok (.iinc 3 1, 3) := by decide +kernel
theorem dX3_flowers_57 : decode cX3_flowers 57 = .ok (.goto (-29), 3) := by decide +kernel
theorem dX3_flowers_60 : decode cX3_flowers 60 = .ok (.iinc 2 1, 3) := by decide +kernel
theorem dX3_flowers_63 : decode cX3_flowers 63 = .ok (.goto (-48), 3) := by decide +kernel
theorem dX3_flowers_66 : decode cX3_flowers 66 = .ok (.iload_n 1, 1) := by decide +kernel
theorem dX3_flowers_67 : decode cX3_flowers 67 = .ok (.ireturn, 1) := by decide +kernel
set_option maxRecDepth 20000 in
theorem ggX3_largestFlower_X0_spreadOut : GoodIn wsX3_largestFlower wsX0_spreadOut := goodIn_r _ [11, 12, 13, 14, 15, 16, 17, 18, 59, 60, 53, 54, 55, 56, 57, 58] (by decide +kernel) (by decide +kernel)
set_option maxRecDepth 20000 in
theorem gX3_largestFlower_X0_spreadOut : GoodIn wsX3_largestFlower (wsV RX3 140 RX0 yX0_spreadOut wsX0_spreadOut) := goodIn_app (goodIn_of _ (by decide +kernel)) ggX3_largestFlower_X0_spreadOut
set_option maxRecDepth 20000 in
theorem ggX3_largestFlower_X0_pick : GoodIn wsX3_largestFlower wsX0_pick := goodIn_r _ [22, 12, 23, 24, 25, 26, 27, 28, 29, 30, 10, 31, 32, 33, 34, 35, 36, 37, 38, 39, 40, 41, 42, 43, 44, 45, 46, 59, 60] (by decide +kernel) (by decide +kernel)
set_option maxRecDepth 20000 in
theorem gX3_largestFlower_X0_pick : GoodIn wsX3_largestFlower (wsV RX3 144 RX0 yX0_pick wsX0_pick) := goodIn_app (goodIn_of _ (by decide +kernel)) ggX3_largestFlower_X0_pick
theorem dX3_largestFlower_0 : decode cX3_largestFlower 0 = .ok (.aload_n 0, 1) := by decide +kernel
theorem dX3_largestFlower_1 : decode cX3_largestFlower 1 = .ok (.getfield 22, 3) := by decide +kernel
theorem dX3_largestFlower_4 : decode cX3_largestFlower 4 = .ok (.aload_n 0, 1) := by decide +kernel
theorem dX3_largestFlower_5 : decode cX3_largestFlower 5 = .ok (.getfield 10, 3) := by decide +kernel
theorem dX3_largestFlower_8 : decode cX3_largestFlower 8 = .ok (.invokevirtual 140, 3) := by decide +kernel
theorem dX3_largestFlower_11 : decode cX3_largestFlower 11 = .ok (.iconst 0, 1) := by decide +kernel
theorem dX3_largestFlower_12 : decode cX3_largestFlower 12 = .ok (.istore_n 1, 1) := by decide +kernel
theorem dX3_largestFlower_13 : decode cX3_largestFlower 13 = .ok (.iconst 0, 1) := by decide +kernel
theorem dX3_largestFlower_14 : decode cX3_largestFlower 14 = .ok (.istore_n 2, 1) := by decide +kernel
theorem dX3_largestFlower_15 : decode cX3_largestFlower 15 = .ok (.iload_n 2, 1) := by decide +kernel
theorem dX3_largestFlower_16 : decode cX3_largestFlower 16 = .ok (.aload_n 0, 1) := by decide +kernel
theorem dX3_largestFlower_17 : decode cX3_largestFlower 17 = .ok (.getfield 10, 3) := by decide +kernel
theorem dX3_largestFlower_20 : decode cX3_largestFlower 20 = .ok (.getfield 111, 3) := by decide +kernel
theorem dX3_largestFlower_23 : decode cX3_largestFlower 23 = .ok (.if_icmp .ge 42, 3) := by decide +kernel
theorem dX3_largestFlower_26 : decode cX3_largestFlower 26 = .ok (.iconst 0, 1) := by decide +kernel
theorem dX3_largestFlower_27 : decode cX3_largestFlower 27 = .ok (.istore_n 3, 1) := by decide +kernel
theorem dX3_largestFlower_28 : decode cX3_largestFlower 28 = .ok (.iload_n 3, 1) := by decide +kernel
theorem dX3_largestFlower_29 : decode cX3_largestFlower 29 = .ok (.aload_n 0, 1) := by decide +kernel
theorem dX3_largestFlower_30 : decode cX3_largestFlower 30 = .ok (.getfield 10, 3) := by decide +kernel
theorem dX3_largestFlower_33 : decode cX3_largestFlower 33 = .ok (.getfield 108, 3) := by decide +kernel
theorem dX3_largestFlower_36 : decode cX3_largestFlower 36 = .ok (.if_icmp .ge 23, 3) := by decide +kernel
theorem dX3_largestFlower_39 : decode cX3_largestFlower 39 = .ok (.iload_n 1, 1) := by decide +kernel
theorem dX3_largestFlower_40 : decode cX3_largestFlower 40 = .ok (.aload_n 0, 1) := by decide +kernel
theorem dX3_largestFlower_41 : decode cX3_largestFlower 41 = .ok (.getfield 22, 3) := by decide +kernel
theorem dX3_largestFlower_44 : decode cX3_largestFlower 44 = .ok (.iload_n 3, 1) := by decide +kernel
theorem dX3_largestFlower_45 : decode cX3_largestFlower 45 = .ok (.iload_n 2, 1) := by decide +kernel
theorem dX3_largestFlower_46 : decode cX3_largestFlower 46 = .ok (.invokevirtual 144, 3) := by decide +kernel
theorem dX3_largestFlower_49 : decode cX3_largestFlower 49 = .ok (.invokestatic 147, 3) := by decide +kernel
theorem dX3_largestFlower_52 : decode cX3_largestFlower 52 = .ok (.istore_n 1, 1) := by decide +kernel
theorem dX3_largestFlower_53 : decode cX3_largestFlower 53 = .ok (.iinc 3 1, 3) := by decide +kernel
theorem dX3_largestFlower_56 : decode cX3_largestFlower 56 = .ok (.goto (-28), 3) := by decide +kernel
theorem dX3_largestFlower_59 : decode cX3_largestFlower 59 = .ok (.iinc 2 1, 3) := by decide +kernel
theorem dX3_largestFlower_62 : decode cX3_largestFlower 62 = .ok (.goto (-47), 3) := by decide +kernel
theorem dX3_largestFlower_65 : decode cX3_largestFlower 65 = .ok (.iload_n 1, 1) := by decide +kernel
theorem dX3_largestFlower_66 : decode cX3_largestFlower 66 = .ok (.ireturn, 1) := by decide +kernel
set_option maxRecDepth 20000 in
theorem ggX3_flowerAt_X3_requireCell : GoodIn wsX3_flowerAt wsX3_requireCell := goodIn_ca (goodIn_r _ [7, 8, 9, 2, 10, 11, 12, 13, 14, 15, 16, 17, 18, 19, 20, 60, 61, 62, 63, 64, 65, 66, 67, 68, 69, 70, 71] (by decide +kernel) (by decide +kernel)) (goodIn_sub (fun _ h => List.mem_cons_of_mem _ (List.mem_append_right _ h)) (by decide +kernel))
set_option maxRecDepth 20000 in
theorem gX3_flowerAt_X3_requireCell : GoodIn wsX3_flowerAt (wsV RX3 45 RX3 yX3_requireCell wsX3_requireCell) := goodIn_app (goodIn_of _ (by decide +kernel)) ggX3_flowerAt_X3_requireCell
set_option maxRecDepth 20000 in
theorem ggX3_flowerAt_X0_spreadOut : GoodIn wsX3_flowerAt wsX0_spreadOut := goodIn_r _ [25, 26, 27, 28, 29, 13, 30, 31, 72, 73, 66, 67, 68, 69, 70, 71] (by decide +kernel) (by decide +kernel)
set_option maxRecDepth 20000 in
theorem gX3_flowerAt_X0_spreadOut : GoodIn wsX3_flowerAt (wsV RX3 140 RX0 yX0_spreadOut wsX0_spreadOut) := goodIn_app (goodIn_of _ (by decide +kernel)) ggX3_flowerAt_X0_spreadOut
set_option maxRecDepth 20000 in
theorem ggX3_flowerAt_X0_pick : GoodIn wsX3_flowerAt wsX0_pick := goodIn_r _ [35, 26, 36, 37, 38, 39, 40, 41, 42, 43, 24, 44, 45, 46, 47, 48, 49, 50, 51, 52, 53, 54, 55, 56, 57, 58, 59, 72, 73] (by decide +kernel) (by decide +kernel)
set_option maxRecDepth 20000 in
theorem gX3_flowerAt_X0_pick : GoodIn wsX3_flowerAt (wsV RX3 144 RX0 yX0_pick wsX0_pick) := goodIn_app (goodIn_of _ (by decide +kernel)) ggX3_flowerAt_X0_pick
theorem dX3_flowerAt_0 : decode cX3_flowerAt 0 = .ok (.aload_n 0, 1) := by decide +kernel
theorem dX3_flowerAt_1 : decode cX3_flowerAt 1 = .ok (.iload_n 1, 1) := by decide +kernel
theorem dX3_flowerAt_2 : decode cX3_flowerAt 2 = .ok (.iload_n 2, 1) := by decide +kernel
theorem dX3_flowerAt_3 : decode cX3_flowerAt 3 = .ok (.invokevirtual 45, 3) := by decide +kernel
theorem dX3_flowerAt_6 : decode cX3_flowerAt 6 = .ok (.aload_n 0, 1) := by decide +kernel
theorem dX3_flowerAt_7 : decode cX3_flowerAt 7 = .ok (.getfield 22, 3) := by decide +kernel
theorem dX3_flowerAt_10 : decode cX3_flowerAt 10 = .ok (.aload_n 0, 1) := by decide +kernel
theorem dX3_flowerAt_11 : decode cX3_flowerAt 11 = .ok (.getfield 10, 3) := by decide +kernel
theorem dX3_flowerAt_14 : decode cX3_flowerAt 14 = .ok (.invokevirtual 140, 3) := by decide +kernel
theorem dX3_flowerAt_17 : decode cX3_flowerAt 17 = .ok (.aload_n 0, 1) := by decide +kernel
theorem dX3_flowerAt_18 : decode cX3_flowerAt 18 = .ok (.getfield 22, 3) := by decide +kernel
theorem dX3_flowerAt_21 : decode cX3_flowerAt 21 = .ok (.iload_n 1, 1) := by decide +kernel
theorem dX3_flowerAt_22 : decode cX3_flowerAt 22 = .ok (.iload_n 2, 1) := by decide +kernel
theorem dX3_flowerAt_23 : decode cX3_flowerAt 23 = .ok (.invokevirtual 144, 3) := by decide +kernel
theorem dX3_flowerAt_26 : decode cX3_flowerAt 26 = .ok (.ireturn, 1) := by decide +kernel
set_option maxRecDepth 20000 in
theorem ggX3_isMirrored_X1_hasFrost : GoodIn wsX3_isMirrored wsX1_hasFrost := goodIn_r _ [6, 7, 8, 9, 5, 10, 11, 18, 19, 20, 21, 22, 23] (by decide +kernel) (by decide +kernel)
set_option maxRecDepth 20000 in
theorem gX3_isMirrored_X1_hasFrost : GoodIn wsX3_isMirrored (wsV RX3 61 RX1 yX1_hasFrost wsX1_hasFrost) := goodIn_app (goodIn_of _ (by decide +kernel)) ggX3_isMirrored_X1_hasFrost
theorem dX3_isMirrored_0 : decode cX3_isMirrored 0 = .ok (.iconst 0, 1) := by decide +kernel
theorem dX3_isMirrored_1 : decode cX3_isMirrored 1 = .ok (.istore_n 1, 1) := by decide +kernel
theorem dX3_isMirrored_2 : decode cX3_isMirrored 2 = .ok (.iload_n 1, 1) := by decide +kernel
theorem dX3_isMirrored_3 : decode cX3_isMirrored 3 = .ok (.aload_n 0, 1) := by decide +kernel
theorem dX3_isMirrored_4 : decode cX3_isMirrored 4 = .ok (.getfield 10, 3) := by decide +kernel
theorem dX3_isMirrored_7 : decode cX3_isMirrored 7 = .ok (.getfield 111, 3) := by decide +kernel
theorem dX3_isMirrored_10 : decode cX3_isMirrored 10 = .ok (.if_icmp .ge 61, 3) := by decide +kernel
theorem dX3_isMirrored_13 : decode cX3_isMirrored 13 = .ok (.iconst 0, 1) := by decide +kernel
theorem dX3_isMirrored_14 : decode cX3_isMirrored 14 = .ok (.istore_n 2, 1) := by decide +kernel
theorem dX3_isMirrored_15 : decode cX3_isMirrored 15 = .ok (.iload_n 2, 1) := by decide +kernel
theorem dX3_isMirrored_16 : decode cX3_isMirrored 16 = .ok (.aload_n 0, 1) := by decide +kernel
theorem dX3_isMirrored_17 : decode cX3_isMirrored 17 = .ok (.getfield 10, 3) := by decide +kernel
theorem dX3_isMirrored_20 : decode cX3_isMirrored 20 = .ok (.getfield 108, 3) := by decide +kernel
theorem dX3_isMirrored_23 : decode cX3_isMirrored 23 = .ok (.if_icmp .ge 42, 3) := by decide +kernel
theorem dX3_isMirrored_26 : decode cX3_isMirrored 26 = .ok (.aload_n 0, 1) := by decide +kernel
theorem dX3_isMirrored_27 : decode cX3_isMirrored 27 = .ok (.getfield 10, 3) := by decide +kernel
theorem dX3_isMirrored_30 : decode cX3_isMirrored 30 = .ok (.iload_n 2, 1) := by decide +kernel
theorem dX3_isMirrored_31 : decode cX3_isMirrored 31 = .ok (.iload_n 1, 1) := by decide +kernel
theorem dX3_isMirrored_32 : decode cX3_isMirrored 32 = .ok (.invokevirtual 61, 3) := by decide +kernel
theorem dX3_isMirrored_35 : decode cX3_isMirrored 35 = .ok (.aload_n 0, 1) := by decide +kernel
theorem dX3_isMirrored_36 : decode cX3_isMirrored 36 = .ok (.getfield 10, 3) := by decide +kernel
theorem dX3_isMirrored_39 : decode cX3_isMirrored 39 = .ok (.aload_n 0, 1) := by decide +kernel
theorem dX3_isMirrored_40 : decode cX3_isMirrored 40 = .ok (.getfield 10, 3) := by decide +kernel
theorem dX3_isMirrored_43 : decode cX3_isMirrored 43 = .ok (.getfield 108, 3) := by decide +kernel
theorem dX3_isMirrored_46 : decode cX3_isMirrored 46 = .ok (.iconst 1, 1) := by decide +kernel
theorem dX3_isMirrored_47 : decode cX3_isMirrored 47 = .ok (.isub, 1) := by decide +kernel
theorem dX3_isMirrored_48 : decode cX3_isMirrored 48 = .ok (.iload_n 2, 1) := by decide +kernel
theorem dX3_isMirrored_49 : decode cX3_isMirrored 49 = .ok (.isub, 1) := by decide +kernel
theorem dX3_isMirrored_50 : decode cX3_isMirrored 50 = .ok (.iload_n 1, 1) := by decide +kernel
theorem dX3_isMirrored_51 : decode cX3_isMirrored 51 = .ok (.invokevirtual 61, 3) := by decide +kernel
theorem dX3_isMirrored_54 : decode cX3_isMirrored 54 = .ok (.if_icmp .eq 5, 3) := by decide +kernel
theorem dX3_isMirrored_57 : decode cX3_isMirrored 57 = .ok (.iconst 0, 1) := by decide +kernel
theorem dX3_isMirrored_58 : decode cX3_isMirrored 58 = .ok (.ireturn, 1) := by decide +kernel
theorem dX3_isMirrored_59 : decode cX3_isMirrored 59 = .ok (.iinc 2 1, 3) := by decide +kernel
theorem dX3_isMirrored_62 : decode cX3_isMirrored 62 = .ok (.goto (-47), 3) := by decide +kernel
theorem dX3_isMirrored_65 : decode cX3_isMirrored 65 = .ok (.iinc 1 1, 3) := by decide +kernel
theorem dX3_isMirrored_68 : decode cX3_isMirrored 68 = .ok (.goto (-66), 3) := by decide +kernel
theorem dX3_isMirrored_71 : decode cX3_isMirrored 71 = .ok (.iconst 1, 1) := by decide +kernel
theorem dX3_isMirrored_72 : decode cX3_isMirrored 72 = .ok (.ireturn, 1) := by decide +kernel
set_option maxRecDepth 20000 in
theorem ggX3_frozenIn_X3_requireWithin : GoodIn wsX3_frozenIn wsX3_requireWithin := goodIn_ca (goodIn_r _ [5, 6, 7] (by decide +kernel) (by decide +kernel)) (goodIn_sub (fun _ h => List.mem_cons_of_mem _ (List.mem_append_right _ h)) (by decide +kernel))
set_option maxRecDepth 20000 in
theorem gX3_frozenIn_X3_requireWithin : GoodIn wsX3_frozenIn (va_wsS RX3 41 yX3_requireWithin wsX3_requireWithin) := goodIn_app (goodIn_of _ (by decide +kernel)) ggX3_frozenIn_X3_requireWithin
set_option maxRecDepth 20000 in
theorem ggX3_frozenIn_X3_frostBehind : GoodIn wsX3_frozenIn wsX3_frostBehind := goodIn_r _ [11, 12, 13, 14, 15, 16, 17, 18, 19, 20, 21, 22, 23, 24, 25, 26, 27, 28, 29, 30, 31, 32, 33, 34, 35, 36, 37, 38, 39, 40, 41, 42, 43, 44, 45, 46, 47, 48, 49, 50, 51, 52, 53, 54, 55, 56, 57, 58, 59, 60, 61, 62, 63, 64, 65, 66, 67, 68, 69, 70, 71, 72, 73, 74, 75, 76, 77, 78, 79, 80, 81, 82, 83, 84, 85, 86, 87, 88, 89, 90, 91, 92, 93, 94, 95, 96, 97, 98, 99, 100, 101, 102, 103, 104, 105, 106, 107, 108, 109, 110, 111, 112, 113, 114, 115, 116, 117, 118] (by decide +kernel) (by decide +kernel)
set_option maxRecDepth 20000 in
theorem gX3_frozenIn_X3_frostBehind : GoodIn wsX3_frozenIn (wsV RX3 152 RX3 yX3_frostBehind wsX3_frostBehind) := goodIn_app (goodIn_of _ (by decide +kernel)) ggX3_frozenIn_X3_frostBehind
theorem dX3_frozenIn_0 : decode cX3_frozenIn 0 = .ok (.iload_n 1, 1) := by decide +kernel
theorem dX3_frozenIn_1 : decode cX3_frozenIn 1 = .ok (.iconst 1, 1) := by decide +kernel
theorem dX3_frozenIn_2 : decode cX3_frozenIn 2 = .ok (.bipush 60, 2) := by decide +kernel
theorem dX3_frozenIn_4 : decode cX3_frozenIn 4 = .ok (.invokestatic 41, 3) := by decide +kernel
theorem dX3_frozenIn_7 : decode cX3_frozenIn 7 = .ok (.aload_n 0, 1) := by decide +kernel
theorem dX3_frozenIn_8 : decode cX3_frozenIn 8 = .ok (.iload_n 1, 1) := by decide +kernel
theorem dX3_frozenIn_9 : decode cX3_frozenIn 9 = .ok (.aload_n 0, 1) := by decide +kernel
theorem dX3_frozenIn_10 : decode cX3_frozenIn 10 = .ok (.getfield 88, 3) := by decide +kernel
theorem dX3_frozenIn_13 : decode cX3_frozenIn 13 = .ok (.invokevirtual 152, 3) := by decide +kernel
theorem dX3_frozenIn_16 : decode cX3_frozenIn 16 = .ok (.ireturn, 1) := by decide +kernel
set_option maxRecDepth 20000 in
theorem ggX3_comesAgainIn_X1_becomeLike : GoodIn wsX3_comesAgainIn wsX1_becomeLike := goodIn_r _ [9, 10, 11, 12, 13, 14, 15, 16, 17, 18, 19, 20, 21, 22, 100, 101, 102, 103, 104, 105] (by decide +kernel) (by decide +kernel)
set_option maxRecDepth 20000 in
theorem gX3_comesAgainIn_X1_becomeLike : GoodIn wsX3_comesAgainIn (wsV RX3 155 RX1 yX1_becomeLike wsX1_becomeLike) := goodIn_app (goodIn_of _ (by decide +kernel)) ggX3_comesAgainIn_X1_becomeLike
set_option maxRecDepth 20000 in
theorem ggX3_comesAgainIn_X2_freezesBy : GoodIn wsX3_comesAgainIn wsX2_freezesBy := goodIn_r _ [27, 28, 29, 30, 31, 26, 32, 33, 106, 107, 108] (by decide +kernel) (by decide +kernel)
set_option maxRecDepth 20000 in
theorem gX3_comesAgainIn_X2_freezesBy : GoodIn wsX3_comesAgainIn (wsV RX3 91 RX2 yX2_freezesBy wsX2_freezesBy) := goodIn_app (goodIn_of _ (by decide +kernel)) ggX3_comesAgainIn_X2_freezesBy
set_option maxRecDepth 20000 in
theorem ggX3_comesAgainIn_X2_staysBy : GoodIn wsX3_comesAgainIn wsX2_staysBy := goodIn_r _ [37, 38, 29, 30, 31, 26, 32, 33, 106, 107, 108] (by decide +kernel) (by decide +kernel)
set_option maxRecDepth 20000 in
theorem gX3_comesAgainIn_X2_staysBy : GoodIn wsX3_comesAgainIn (wsV RX3 95 RX2 yX2_staysBy wsX2_staysBy) := goodIn_app (goodIn_of _ (by decide +kernel)) ggX3_comesAgainIn_X2_staysBy
set_option maxRecDepth 20000 in
theorem ggX3_comesAgainIn_X1_step : GoodIn wsX3_comesAgainIn wsX1_step := goodIn_r _ [42, 11, 43, 44, 45, 46, 8, 47, 10, 48, 49, 50, 51, 12, 52, 53, 54, 55, 56, 57, 58, 59, 13, 60, 61, 62, 63, 64, 65, 66, 67, 68, 69, 70, 71, 72, 73, 74, 75, 76, 77, 78, 79, 80, 81, 22, 82, 83, 84, 85, 86, 87, 88, 89, 100, 101, 102, 103, 104, 105] (by decide +kernel) (by decide +kernel)
set_option maxRecDepth 20000 in
theorem gX3_comesAgainIn_X1_step : GoodIn wsX3_comesAgainIn (wsV RX3 98 RX1 yX1_step wsX1_step) := goodIn_app (goodIn_of _ (by decide +kernel)) ggX3_comesAgainIn_X1_step
set_option maxRecDepth 20000 in
theorem ggX3_comesAgainIn_X1_isLike : GoodIn wsX3_comesAgainIn wsX1_isLike := goodIn_r _ [93, 11, 10, 56, 57, 58, 8, 59, 13, 78, 79, 80, 81, 22, 100, 101, 102, 103, 104, 105] (by decide +kernel) (by decide +kernel)
set_option maxRecDepth 20000 in
theorem gX3_comesAgainIn_X1_isLike : GoodIn wsX3_comesAgainIn (wsV RX3 158 RX1 yX1_isLike wsX1_isLike) := goodIn_app (goodIn_of _ (by decide +kernel)) ggX3_comesAgainIn_X1_isLike
theorem dX3_comesAgainIn_0 : decode cX3_comesAgainIn 0 = .ok (.aload_n 0, 1) := by decide +kernel
theorem dX3_comesAgainIn_1 : decode cX3_comesAgainIn 1 = .ok (.getfield 16, 3) := by decide +kernel
theorem dX3_comesAgainIn_4 : decode cX3_comesAgainIn 4 = .ok (.aload_n 0, 1) := by decide +kernel
theorem dX3_comesAgainIn_5 : decode cX3_comesAgainIn 5 = .ok (.getfield 10, 3) := by decide +kernel
theorem dX3_comesAgainIn_8 : decode cX3_comesAgainIn 8 = .ok (.invokevirtual 155, 3) := by decide +kernel
theorem dX3_comesAgainIn_11 : decode cX3_comesAgainIn 11 = .ok (.iconst 1, 1) := by decide +kernel
theorem dX3_comesAgainIn_12 : decode cX3_comesAgainIn 12 = .ok (.istore_n 1, 1) := by decide +kernel
theorem dX3_comesAgainIn_13 : decode cX3_comesAgainIn 13 = .ok (.iload_n 1, 1) := by decide +kernel
theorem dX3_comesAgainIn_14 : decode cX3_comesAgainIn 14 = .ok (.bipush 40, 2) := by decide +kernel
theorem dX3_comesAgainIn_16 : decode cX3_comesAgainIn 16 = .ok (.if_icmp .gt 55, 3) := by decide +kernel
theorem dX3_comesAgainIn_19 : decode cX3_comesAgainIn 19 = .ok (.aload_n 0, 1) := by decide +kernel
theorem dX3_comesAgainIn_20 : decode cX3_comesAgainIn 20 = .ok (.getfield 16, 3) := by decide +kernel
theorem dX3_comesAgainIn_23 : decode cX3_comesAgainIn 23 = .ok (.aload_n 0, 1) := by decide +kernel
theorem dX3_comesAgainIn_24 : decode cX3_comesAgainIn 24 = .ok (.getfield 29, 3) := by decide +kernel
theorem dX3_comesAgainIn_27 : decode cX3_comesAgainIn 27 = .ok (.aload_n 0, 1) := by decide +kernel
theorem dX3_comesAgainIn_28 : decode cX3_comesAgainIn 28 = .ok (.getfield 88, 3) := by decide +kernel
theorem dX3_comesAgainIn_31 : decode cX3_comesAgainIn 31 = .ok (.invokevirtual 91, 3) := by decide +kernel
theorem dX3_comesAgainIn_34 : decode cX3_comesAgainIn 34 = .ok (.aload_n 0, 1) := by decide +kernel
theorem dX3_comesAgainIn_35 : decode cX3_comesAgainIn 35 = .ok (.getfield 29, 3) := by decide +kernel
theorem dX3_comesAgainIn_38 : decode cX3_comesAgainIn 38 = .ok (.aload_n 0, 1) := by decide +kernel
theorem dX3_comesAgainIn_39 : decode cX3_comesAgainIn 39 = .ok (.getfield 88, 3) := by decide +kernel
theorem dX3_comesAgainIn_42 : decode cX3_comesAgainIn 42 = .ok (.invokevirtual 95, 3) := by decide +kernel
theorem dX3_comesAgainIn_45 : decode cX3_comesAgainIn 45 = .ok (.invokevirtual 98, 3) := by decide +kernel
theorem dX3_comesAgainIn_48 : decode cX3_comesAgainIn 48 = .ok (.pop, 1) := by decide +kernel
theorem dX3_comesAgainIn_49 : decode cX3_comesAgainIn 49 = .ok (.aload_n 0, 1) := by decide +kernel
theorem dX3_comesAgainIn_50 : decode cX3_comesAgainIn 50 = .ok (.getfield 16, 3) := by decide +kernel
theorem dX3_comesAgainIn_53 : decode cX3_comesAgainIn 53 = .ok (.aload_n 0, 1) := by decide +kernel
theorem dX3_comesAgainIn_54 : decode cX3_comesAgainIn 54 = .ok (.getfield 10, 3) := by decide +kernel
theorem dX3_comesAgainIn_57 : decode cX3_comesAgainIn 57 = .ok (.invokevirtual 158, 3) := by decide +kernel
theorem dX3_comesAgainIn_60 : decode cX3_comesAgainIn 60 = .ok (.ifCond .eq 5, 3) := by decide +kernel
theorem dX3_comesAgainIn_63 : decode cX3_comesAgainIn 63 = .ok (.iload_n 1, 1) := by decide +kernel
theorem dX3_comesAgainIn_64 : decode cX3_comesAgainIn 64 = .ok (.ireturn, 1) := by decide +kernel
theorem dX3_comesAgainIn_65 : decode cX3_comesAgainIn 65 = .ok (.iinc 1 1, 3) := by decide +kernel
theorem dX3_comesAgainIn_68 : decode cX3_comesAgainIn 68 = .ok (.goto (-55), 3) := by decide +kernel
theorem dX3_comesAgainIn_71 : decode cX3_comesAgainIn 71 = .ok (.iconst (-1), 1) := by decide +kernel
theorem dX3_comesAgainIn_72 : decode cX3_comesAgainIn 72 = .ok (.ireturn, 1) := by decide +kernel
set_option maxRecDepth 20000 in
theorem ggX3_standsStillIn_X1_becomeLike : GoodIn wsX3_standsStillIn wsX1_becomeLike := goodIn_r _ [9, 10, 11, 12, 13, 14, 15, 16, 17, 18, 19, 20, 21, 22, 100, 101, 102, 103, 104, 105] (by decide +kernel) (by decide +kernel)
set_option maxRecDepth 20000 in
theorem gX3_standsStillIn_X1_becomeLike : GoodIn wsX3_standsStillIn (wsV RX3 155 RX1 yX1_becomeLike wsX1_becomeLike) := goodIn_app (goodIn_of _ (by decide +kernel)) ggX3_standsStillIn_X1_becomeLike
set_option maxRecDepth 20000 in
theorem ggX3_standsStillIn_X1_countMelted : GoodIn wsX3_standsStillIn wsX1_countMelted := goodIn_r _ [26, 22, 100, 101, 102, 103, 104, 105] (by decide +kernel) (by decide +kernel)
set_option maxRecDepth 20000 in
theorem gX3_standsStillIn_X1_countMelted : GoodIn wsX3_standsStillIn (wsV RX3 117 RX1 yX1_countMelted wsX1_countMelted) := goodIn_app (goodIn_of _ (by decide +kernel)) ggX3_standsStillIn_X1_countMelted
set_option maxRecDepth 20000 in
theorem ggX3_standsStillIn_X2_freezesBy : GoodIn wsX3_standsStillIn wsX2_freezesBy := goodIn_r _ [31, 32, 33, 34, 35, 30, 36, 37, 106, 107, 108] (by decide +kernel) (by decide +kernel)
set_option maxRecDepth 20000 in
theorem gX3_standsStillIn_X2_freezesBy : GoodIn wsX3_standsStillIn (wsV RX3 91 RX2 yX2_freezesBy wsX2_freezesBy) := goodIn_app (goodIn_of _ (by decide +kernel)) ggX3_standsStillIn_X2_freezesBy
set_option maxRecDepth 20000 in
theorem ggX3_standsStillIn_X2_staysBy : GoodIn wsX3_standsStillIn wsX2_staysBy := goodIn_r _ [41, 42, 33, 34, 35, 30, 36, 37, 106, 107, 108] (by decide +kernel) (by decide +kernel)
set_option maxRecDepth 20000 in
theorem gX3_standsStillIn_X2_staysBy : GoodIn wsX3_standsStillIn (wsV RX3 95 RX2 yX2_staysBy wsX2_staysBy) := goodIn_app (goodIn_of _ (by decide +kernel)) ggX3_standsStillIn_X2_staysBy
set_option maxRecDepth 20000 in
theorem ggX3_standsStillIn_X1_step : GoodIn wsX3_standsStillIn wsX1_step := goodIn_r _ [46, 11, 47, 48, 49, 50, 8, 51, 10, 52, 53, 54, 55, 12, 56, 57, 58, 59, 60, 61, 62, 63, 13, 64, 65, 66, 67, 68, 69, 70, 71, 72, 73, 74, 75, 76, 77, 78, 79, 80, 81, 82, 83, 84, 85, 22, 86, 87, 88, 89, 90, 91, 92, 93, 100, 101, 102, 103, 104, 105] (by decide +kernel) (by decide +kernel)
set_option maxRecDepth 20000 in
theorem gX3_standsStillIn_X1_step : GoodIn wsX3_standsStillIn (wsV RX3 98 RX1 yX1_step wsX1_step) := goodIn_app (goodIn_of _ (by decide +kernel)) ggX3_standsStillIn_X1_step
theorem dX3_standsStillIn_0 : decode cX3_standsStillIn 0 = .ok (.aload_n 0, 1) := by decide +kernel
theorem dX3_standsStillIn_1 : decode cX3_standsStillIn 1 = .ok (.getfield 16, 3) := by decide +kernel
theorem dX3_standsStillIn_4 : decode cX3_standsStillIn 4 = .ok (.aload_n 0, 1) := by decide +kernel
theorem dX3_standsStillIn_5 : decode cX3_standsStillIn 5 = .ok (.getfield 10, 3) := by decide +kernel
theorem dX3_standsStillIn_8 : decode cX3_standsStillIn 8 = .ok (.invokevirtual 155, 3) := by decide +kernel
theorem dX3_standsStillIn_11 : decode cX3_standsStillIn 11 = .ok (.iconst 0, 1) := by decide +kernel
theorem dX3_standsStillIn_12 : decode cX3_standsStillIn 12 = .ok (.istore_n 1, 1) := by decide +kernel
theorem dX3_standsStillIn_13 : decode cX3_standsStillIn 13 = .ok (.iload_n 1, 1) := by decide +kernel
theorem dX3_standsStillIn_14 : decode cX3_standsStillIn 14 = .ok (.bipush 40, 2) := by decide +kernel
theorem dX3_standsStillIn_16 : decode cX3_standsStillIn 16 = .ok (.if_icmp .gt 65, 3) := by decide +kernel
theorem dX3_standsStillIn_19 : decode cX3_standsStillIn 19 = .ok (.aload_n 0, 1) := by decide +kernel
theorem dX3_standsStillIn_20 : decode cX3_standsStillIn 20 = .ok (.getfield 16, 3) := by decide +kernel
theorem dX3_standsStillIn_23 : decode cX3_standsStillIn 23 = .ok (.invokevirtual 117, 3) := by decide +kernel
theorem dX3_standsStillIn_26 : decode cX3_standsStillIn 26 = .ok (.ifCond .ne 7, 3) := by decide +kernel
theorem dX3_standsStillIn_29 : decode cX3_standsStillIn 29 = .ok (.iconst 1, 1) := by decide +kernel
theorem dX3_standsStillIn_30 : decode cX3_standsStillIn 30 = .ok (.goto 4, 3) := by decide +kernel
theorem dX3_standsStillIn_33 : decode cX3_standsStillIn 33 = .ok (.iconst 0, 1) := by decide +kernel
theorem dX3_standsStillIn_34 : decode cX3_standsStillIn 34 = .ok (.istore_n 2, 1) := by decide +kernel
theorem dX3_standsStillIn_35 : decode cX3_standsStillIn 35 = .ok (.aload_n 0, 1) := by decide +kernel
theorem dX3_standsStillIn_36 : decode cX3_standsStillIn 36 = .ok (.getfield 16, 3) := by decide +kernel
theorem dX3_standsStillIn_39 : decode cX3_standsStillIn 39 = .ok (.aload_n 0, 1) := by decide +kernel
theorem dX3_standsStillIn_40 : decode cX3_standsStillIn 40 = .ok (.getfield 29, 3) := by decide +kernel
theorem dX3_standsStillIn_43 : decode cX3_standsStillIn 43 = .ok (.aload_n 0, 1) := by decide +kernel
theorem dX3_standsStillIn_44 : decode cX3_standsStillIn 44 = .ok (.getfield 88, 3) := by decide +kernel
theorem dX3_standsStillIn_47 : decode cX3_standsStillIn 47 = .ok (.invokevirtual 91, 3) := by decide +kernel
theorem dX3_standsStillIn_50 : decode cX3_standsStillIn 50 = .ok (.aload_n 0, 1) := by decide +kernel
theorem dX3_standsStillIn_51 : decode cX3_standsStillIn 51 = .ok (.getfield 29, 3) := by decide +kernel
theorem dX3_standsStillIn_54 : decode cX3_standsStillIn 54 = .ok (.aload_n 0, 1) := by decide +kernel
theorem dX3_standsStillIn_55 : decode cX3_standsStillIn 55 = .ok (.getfield 88, 3) := by decide +kernel
theorem dX3_standsStillIn_58 : decode cX3_standsStillIn 58 = .ok (.invokevirtual 95, 3) := by decide +kernel
theorem dX3_standsStillIn_61 : decode cX3_standsStillIn 61 = .ok (.invokevirtual 98, 3) := by decide +kernel
theorem dX3_standsStillIn_64 : decode cX3_standsStillIn 64 = .ok (.istore_n 3, 1) := by decide +kernel
theorem dX3_standsStillIn_65 : decode cX3_standsStillIn 65 = .ok (.iload_n 2, 1) := by decide +kernel
theorem dX3_standsStillIn_66 : decode cX3_standsStillIn 66 = .ok (.ifCond .eq 9, 3) := by decide +kernel
theorem dX3_standsStillIn_69 : decode cX3_standsStillIn 69 = .ok (.iload_n 3, 1) := by decide +kernel
theorem dX3_standsStillIn_70 : decode cX3_standsStillIn 70 = .ok (.ifCond .ne 5, 3) := by decide +kernel
theorem dX3_standsStillIn_73 : decode cX3_standsStillIn 73 = .ok (.iload_n 1, 1) := by decide +kernel
theorem dX3_standsStillIn_74 : decode cX3_standsStillIn 74 = .ok (.ireturn, 1) := by decide +kernel
theorem dX3_standsStillIn_75 : decode cX3_standsStillIn 75 = .ok (.iinc 1 1, 3) := by decide +kernel
theorem dX3_standsStillIn_78 : decode cX3_standsStillIn 78 = .ok (.goto (-65), 3) := by decide +kernel
theorem dX3_standsStillIn_81 : decode cX3_standsStillIn 81 = .ok (.iconst (-1), 1) := by decide +kernel
theorem dX3_standsStillIn_82 : decode cX3_standsStillIn 82 = .ok (.ireturn, 1) := by decide +kernel
set_option maxRecDepth 20000 in
theorem ggX3_peakIn_X3_requireWithin : GoodIn wsX3_peakIn wsX3_requireWithin := goodIn_ca (goodIn_r _ [8, 9, 10] (by decide +kernel) (by decide +kernel)) (goodIn_sub (fun _ h => List.mem_cons_of_mem _ (List.mem_append_right _ h)) (by decide +kernel))
set_option maxRecDepth 20000 in
theorem gX3_peakIn_X3_requireWithin : GoodIn wsX3_peakIn (va_wsS RX3 41 yX3_requireWithin wsX3_requireWithin) := goodIn_app (goodIn_of _ (by decide +kernel)) ggX3_peakIn_X3_requireWithin
set_option maxRecDepth 20000 in
theorem ggX3_peakIn_X1_becomeLike : GoodIn wsX3_peakIn wsX1_becomeLike := goodIn_r _ [15, 16, 17, 18, 19, 20, 21, 22, 23, 24, 25, 26, 27, 28, 106, 107, 108, 109, 110, 111] (by decide +kernel) (by decide +kernel)
set_option maxRecDepth 20000 in
theorem gX3_peakIn_X1_becomeLike : GoodIn wsX3_peakIn (wsV RX3 155 RX1 yX1_becomeLike wsX1_becomeLike) := goodIn_app (goodIn_of _ (by decide +kernel)) ggX3_peakIn_X1_becomeLike
set_option maxRecDepth 20000 in
theorem ggX3_peakIn_X1_countFrost : GoodIn wsX3_peakIn wsX1_countFrost := goodIn_r _ [32, 17, 33, 34, 35, 14, 36, 19, 37, 38, 39, 40, 41, 42, 43, 106, 107, 108, 109, 110, 111] (by decide +kernel) (by decide +kernel)
set_option maxRecDepth 20000 in
theorem gX3_peakIn_X1_countFrost : GoodIn wsX3_peakIn (wsV RX3 104 RX1 yX1_countFrost wsX1_countFrost) := goodIn_app (goodIn_of _ (by decide +kernel)) ggX3_peakIn_X1_countFrost
set_option maxRecDepth 20000 in
theorem ggX3_peakIn_X2_freezesBy : GoodIn wsX3_peakIn wsX2_freezesBy := goodIn_r _ [48, 49, 50, 51, 52, 47, 53, 54, 112, 113, 114] (by decide +kernel) (by decide +kernel)
set_option maxRecDepth 20000 in
theorem gX3_peakIn_X2_freezesBy : GoodIn wsX3_peakIn (wsV RX3 91 RX2 yX2_freezesBy wsX2_freezesBy) := goodIn_app (goodIn_of _ (by decide +kernel)) ggX3_peakIn_X2_freezesBy
set_option maxRecDepth 20000 in
theorem ggX3_peakIn_X2_staysBy : GoodIn wsX3_peakIn wsX2_staysBy := goodIn_r _ [58, 59, 50, 51, 52, 47, 53, 54, 112, 113, 114] (by decide +kernel) (by decide +kernel)
set_option maxRecDepth 20000 in
theorem gX3_peakIn_X2_staysBy : GoodIn wsX3_peakIn (wsV RX3 95 RX2 yX2_staysBy wsX2_staysBy) := goodIn_app (goodIn_of _ (by decide +kernel)) ggX3_peakIn_X2_staysBy
set_option maxRecDepth 20000 in
theorem ggX3_peakIn_X1_step : GoodIn wsX3_peakIn wsX1_step := goodIn_r _ [63, 17, 64, 65, 66, 67, 14, 68, 16, 69, 70, 71, 72, 18, 73, 74, 75, 76, 33, 34, 35, 36, 19, 77, 78, 79, 80, 81, 82, 83, 84, 85, 86, 87, 37, 38, 39, 40, 41, 42, 43, 88, 89, 90, 91, 28, 92, 93, 94, 95, 96, 97, 98, 99, 106, 107, 108, 109, 110, 111] (by decide +kernel) (by decide +kernel)
set_option maxRecDepth 20000 in
theorem gX3_peakIn_X1_step : GoodIn wsX3_peakIn (wsV RX3 98 RX1 yX1_step wsX1_step) := goodIn_app (goodIn_of _ (by decide +kernel)) ggX3_peakIn_X1_step
theorem dX3_peakIn_0 : decode cX3_peakIn 0 = .ok (.iload_n 1, 1) := by decide +kernel
theorem dX3_peakIn_1 : decode cX3_peakIn 1 = .ok (.iconst 1, 1) := by decide +kernel
theorem dX3_peakIn_2 : decode cX3_peakIn 2 = .ok (.bipush 60, 2) := by decide +kernel
theorem dX3_peakIn_4 : decode cX3_peakIn 4 = .ok (.invokestatic 41, 3) := by decide +kernel
theorem dX3_peakIn_7 : decode cX3_peakIn 7 = .ok (.aload_n 0, 1) := by decide +kernel
theorem dX3_peakIn_8 : decode cX3_peakIn 8 = .ok (.getfield 16, 3) := by decide +kernel
theorem dX3_peakIn_11 : decode cX3_peakIn 11 = .ok (.aload_n 0, 1) := by decide +kernel
theorem dX3_peakIn_12 : decode cX3_peakIn 12 = .ok (.getfield 10, 3) := by decide +kernel
theorem dX3_peakIn_15 : decode cX3_peakIn 15 = .ok (.invokevirtual 155, 3) := by decide +kernel
theorem dX3_peakIn_18 : decode cX3_peakIn 18 = .ok (.iconst 0, 1) := by decide +kernel
theorem dX3_peakIn_19 : decode cX3_peakIn 19 = .ok (.istore_n 2, 1) := by decide +kernel
theorem dX3_peakIn_20 : decode cX3_peakIn 20 = .ok (.aload_n 0, 1) := by decide +kernel
theorem dX3_peakIn_21 : decode cX3_peakIn 21 = .ok (.getfield 16, 3) := by decide +kernel
theorem dX3_peakIn_24 : decode cX3_peakIn 24 = .ok (.invokevirtual 104, 3) := by decide +kernel
theorem dX3_peakIn_27 : decode cX3_peakIn 27 = .ok (.istore_n 3, 1) := by decide +kernel
theorem dX3_peakIn_28 : decode cX3_peakIn 28 = .ok (.iconst 1, 1) := by decide +kernel
theorem dX3_peakIn_29 : decode cX3_peakIn 29 = .ok (.istore 4, 2) := by decide +kernel
theorem dX3_peakIn_31 : decode cX3_peakIn 31 = .ok (.iload 4, 2) := by decide +kernel
theorem dX3_peakIn_33 : decode cX3_peakIn 33 = .ok (.iload_n 1, 1) := by decide +kernel
theorem dX3_peakIn_34 : decode cX3_peakIn 34 = .ok (.if_icmp .gt 60, 3) := by decide +kernel
theorem dX3_peakIn_37 : decode cX3_peakIn 37 = .ok (.aload_n 0, 1) := by decide +kernel
theorem dX3_peakIn_38 : decode cX3_peakIn 38 = .ok (.getfield 16, 3) := by decide +kernel
theorem dX3_peakIn_41 : decode cX3_peakIn 41 = .ok (.aload_n 0, 1) := by decide +kernel
theorem dX3_peakIn_42 : decode cX3_peakIn 42 = .ok (.getfield 29, 3) := by decide +kernel
theorem dX3_peakIn_45 : decode cX3_peakIn 45 = .ok (.aload_n 0, 1) := by decide +kernel
theorem dX3_peakIn_46 : decode cX3_peakIn 46 = .ok (.getfield 88, 3) := by decide +kernel
theorem dX3_peakIn_49 : decode cX3_peakIn 49 = .ok (.invokevirtual 91, 3) := by decide +kernel
theorem dX3_peakIn_52 : decode cX3_peakIn 52 = .ok (.aload_n 0, 1) := by decide +kernel
theorem dX3_peakIn_53 : decode cX3_peakIn 53 = .ok (.getfield 29, 3) := by decide +kernel
theorem dX3_peakIn_56 : decode cX3_peakIn 56 = .ok (.aload_n 0, 1) := by decide +kernel
theorem dX3_peakIn_57 : decode cX3_peakIn 57 = .ok (.getfield 88, 3) := by decide +kernel
theorem dX3_peakIn_60 : decode cX3_peakIn 60 = .ok (.invokevirtual 95, 3) := by decide +kernel
theorem dX3_peakIn_63 : decode cX3_peakIn 63 = .ok (.invokevirtual 98, 3) := by decide +kernel
theorem dX3_peakIn_66 : decode cX3_peakIn 66 = .ok (.pop, 1) := by decide +kernel
theorem dX3_peakIn_67 : decode cX3_peakIn 67 = .ok (.aload_n 0, 1) := by decide +kernel
theorem dX3_peakIn_68 : decode cX3_peakIn 68 = .ok (.getfield 16, 3) := by decide +kernel
theorem dX3_peakIn_71 : decode cX3_peakIn 71 = .ok (.invokevirtual 104, 3) := by decide +kernel
theorem dX3_peakIn_74 : decode cX3_peakIn 74 = .ok (.istore 5, 2) := by decide +kernel
theorem dX3_peakIn_76 : decode cX3_peakIn 76 = .ok (.iload 5, 2) := by decide +kernel
theorem dX3_peakIn_78 : decode cX3_peakIn 78 = .ok (.iload_n 3, 1) := by decide +kernel
theorem dX3_peakIn_79 : decode cX3_peakIn 79 = .ok (.if_icmp .le 9, 3) := by decide +kernel
theorem dX3_peakIn_82 : decode cX3_peakIn 82 = .ok (.iload 5, 2) := by decide +kernel
theorem dX3_peakIn_84 : decode cX3_peakIn 84 = .ok (.istore_n 3, 1) := by decide +kernel
theorem dX3_peakIn_85 : decode cX3_peakIn 85 = .ok (.iload 4, 2) := by decide +kernel
theorem dX3_peakIn_87 : decode cX3_peakIn 87 = .ok (.istore_n 2, 1) := by decide +kernel
theorem dX3_peakIn_88 : decode cX3_peakIn 88 = .ok (.iinc 4 1, 3) := by decide +kernel
theorem dX3_peakIn_91 : decode cX3_peakIn 91 = .ok (.goto (-60), 3) := by decide +kernel
theorem dX3_peakIn_94 : decode cX3_peakIn 94 = .ok (.iload_n 2, 1) := by decide +kernel
theorem dX3_peakIn_95 : decode cX3_peakIn 95 = .ok (.ireturn, 1) := by decide +kernel
set_option maxRecDepth 20000 in
theorem ggX3_bestBreath_X3_requireWithin : GoodIn wsX3_bestBreath wsX3_requireWithin := goodIn_ca (goodIn_r _ [5, 6, 7] (by decide +kernel) (by decide +kernel)) (goodIn_sub (fun _ h => List.mem_cons_of_mem _ (List.mem_append_right _ h)) (by decide +kernel))
set_option maxRecDepth 20000 in
theorem gX3_bestBreath_X3_requireWithin : GoodIn wsX3_bestBreath (va_wsS RX3 41 yX3_requireWithin wsX3_requireWithin) := goodIn_app (goodIn_of _ (by decide +kernel)) ggX3_bestBreath_X3_requireWithin
set_option maxRecDepth 20000 in
theorem ggX3_bestBreath_X3_frostBehind : GoodIn wsX3_bestBreath wsX3_frostBehind := goodIn_r _ [11, 12, 13, 1, 14, 15, 16, 17, 18, 19, 20, 21, 22, 23, 24, 25, 26, 27, 28, 29, 30, 31, 32, 33, 34, 35, 36, 37, 38, 39, 40, 41, 42, 43, 44, 45, 46, 47, 48, 49, 50, 51, 52, 53, 54, 55, 56, 57, 58, 59, 60, 61, 62, 63, 64, 65, 66, 67, 68, 69, 70, 71, 72, 73, 74, 75, 76, 77, 78, 79, 80, 81, 82, 83, 84, 85, 86, 87, 88, 89, 90, 91, 92, 93, 94, 95, 96, 97, 98, 99, 100, 101, 102, 103, 104, 105, 106, 107, 108, 112, 113, 114, 115, 116, 117, 109, 110, 111] (by decide +kernel) (by decide +kernel)
set_option maxRecDepth 20000 in
theorem gX3_bestBreath_X3_frostBehind : GoodIn wsX3_bestBreath (wsV RX3 152 RX3 yX3_frostBehind wsX3_frostBehind) := goodIn_app (goodIn_of _ (by decide +kernel)) ggX3_bestBreath_X3_frostBehind
theorem dX3_bestBreath_0 : decode cX3_bestBreath 0 = .ok (.iload_n 1, 1) := by decide +kernel
theorem dX3_bestBreath_1 : decode cX3_bestBreath 1 = .ok (.iconst 1, 1) := by decide +kernel
theorem dX3_bestBreath_2 : decode cX3_bestBreath 2 = .ok (.bipush 20, 2) := by decide +kernel
theorem dX3_bestBreath_4 : decode cX3_bestBreath 4 = .ok (.invokestatic 41, 3) := by decide +kernel
theorem dX3_bestBreath_7 : decode cX3_bestBreath 7 = .ok (.iconst 0, 1) := by decide +kernel
theorem dX3_bestBreath_8 : decode cX3_bestBreath 8 = .ok (.istore_n 2, 1) := by decide +kernel
theorem dX3_bestBreath_9 : decode cX3_bestBreath 9 = .ok (.aload_n 0, 1) := by decide +kernel
theorem dX3_bestBreath_10 : decode cX3_bestBreath 10 = .ok (.iload_n 1, 1) := by decide +kernel
theorem dX3_bestBreath_11 : decode cX3_bestBreath 11 = .ok (.iload_n 2, 1) := by decide +kernel
theorem dX3_bestBreath_12 : decode cX3_bestBreath 12 = .ok (.invokevirtual 152, 3) := by decide +kernel
theorem dX3_bestBreath_15 : decode cX3_bestBreath 15 = .ok (.istore_n 3, 1) := by decide +kernel
theorem dX3_bestBreath_16 : decode cX3_bestBreath 16 = .ok (.iconst 1, 1) := by decide +kernel
theorem dX3_bestBreath_17 : decode cX3_bestBreath 17 = .ok (.istore 4, 2) := by decide +kernel
theorem dX3_bestBreath_19 : decode cX3_bestBreath 19 = .ok (.iload 4, 2) := by decide +kernel
theorem dX3_bestBreath_21 : decode cX3_bestBreath 21 = .ok (.aload_n 0, 1) := by decide +kernel
theorem dX3_bestBreath_22 : decode cX3_bestBreath 22 = .ok (.getfield 29, 3) := by decide +kernel
theorem dX3_bestBreath_25 : decode cX3_bestBreath 25 = .ok (.getfield 114, 3) := by decide +kernel
theorem dX3_bestBreath_28 : decode cX3_bestBreath 28 = .ok (.if_icmp .ge 30, 3) := by decide +kernel
theorem dX3_bestBreath_31 : decode cX3_bestBreath 31 = .ok (.aload_n 0, 1) := by decide +kernel
theorem dX3_bestBreath_32 : decode cX3_bestBreath 32 = .ok (.iload_n 1, 1) := by decide +kernel
theorem dX3_bestBreath_33 : decode cX3_bestBreath 33 = .ok (.iload 4, 2) := by decide +kernel
theorem dX3_bestBreath_35 : decode cX3_bestBreath 35 = .ok (.invokevirtual 152, 3) := by decide +kernel
theorem dX3_bestBreath_38 : decode cX3_bestBreath 38 = .ok (.istore 5, 2) := by decide +kernel
theorem dX3_bestBreath_40 : decode cX3_bestBreath 40 = .ok (.iload 5, 2) := by decide +kernel
theorem dX3_bestBreath_42 : decode cX3_bestBreath 42 = .ok (.iload_n 3, 1) := by decide +kernel
theorem dX3_bestBreath_43 : decode cX3_bestBreath 43 = .ok (.if_icmp .le 9, 3) := by decide +kernel
theorem dX3_bestBreath_46 : decode cX3_bestBreath 46 = .ok (.iload 5, 2) := by decide +kernel
theorem dX3_bestBreath_48 : decode cX3_bestBreath 48 = .ok (.istore_n 3, 1) := by decide +kernel
theorem dX3_bestBreath_49 : decode cX3_bestBreath 49 = .ok (.iload 4, 2) := by decide +kernel
theorem dX3_bestBreath_51 : decode cX3_bestBreath 51 = .ok (.istore_n 2, 1) := by decide +kernel
theorem dX3_bestBreath_52 : decode cX3_bestBreath 52 = .ok (.iinc 4 1, 3) := by decide +kernel
theorem dX3_bestBreath_55 : decode cX3_bestBreath 55 = .ok (.goto (-36), 3) := by decide +kernel
theorem dX3_bestBreath_58 : decode cX3_bestBreath 58 = .ok (.iload_n 2, 1) := by decide +kernel
theorem dX3_bestBreath_59 : decode cX3_bestBreath 59 = .ok (.ireturn, 1) := by decide +kernel
set_option maxRecDepth 20000 in
theorem ggX3_meanInRows_X1_countFrost : GoodIn wsX3_meanInRows wsX1_countFrost := goodIn_r _ [6, 7, 8, 9, 10, 5, 11, 12, 13, 14, 15, 16, 17, 18, 19, 26, 27, 28, 29, 30, 31] (by decide +kernel) (by decide +kernel)
set_option maxRecDepth 20000 in
theorem gX3_meanInRows_X1_countFrost : GoodIn wsX3_meanInRows (wsV RX3 104 RX1 yX1_countFrost wsX1_countFrost) := goodIn_app (goodIn_of _ (by decide +kernel)) ggX3_meanInRows_X1_countFrost
theorem dX3_meanInRows_0 : decode cX3_meanInRows 0 = .ok (.aload_n 0, 1) := by decide +kernel
theorem dX3_meanInRows_1 : decode cX3_meanInRows 1 = .ok (.getfield 10, 3) := by decide +kernel
theorem dX3_meanInRows_4 : decode cX3_meanInRows 4 = .ok (.getfield 111, 3) := by decide +kernel
theorem dX3_meanInRows_7 : decode cX3_meanInRows 7 = .ok (.istore_n 1, 1) := by decide +kernel
theorem dX3_meanInRows_8 : decode cX3_meanInRows 8 = .ok (.iload_n 1, 1) := by decide +kernel
theorem dX3_meanInRows_9 : decode cX3_meanInRows 9 = .ok (.ifCond .le 17, 3) := by decide +kernel
theorem dX3_meanInRows_12 : decode cX3_meanInRows 12 = .ok (.aload_n 0, 1) := by decide +kernel
theorem dX3_meanInRows_13 : decode cX3_meanInRows 13 = .ok (.getfield 10, 3) := by decide +kernel
theorem dX3_meanInRows_16 : decode cX3_meanInRows 16 = .ok (.invokevirtual 104, 3) := by decide +kernel
theorem dX3_meanInRows_19 : decode cX3_meanInRows 19 = .ok (.i2d, 1) := by decide +kernel
theorem dX3_meanInRows_20 : decode cX3_meanInRows 20 = .ok (.iload_n 1, 1) := by decide +kernel
theorem dX3_meanInRows_21 : decode cX3_meanInRows 21 = .ok (.i2d, 1) := by decide +kernel
theorem dX3_meanInRows_22 : decode cX3_meanInRows 22 = .ok (.ddiv, 1) := by decide +kernel
theorem dX3_meanInRows_23 : decode cX3_meanInRows 23 = .ok (.goto 4, 3) := by decide +kernel
theorem dX3_meanInRows_26 : decode cX3_meanInRows 26 = .ok (.dconst 0, 1) := by decide +kernel
theorem dX3_meanInRows_27 : decode cX3_meanInRows 27 = .ok (.dreturn, 1) := by decide +kernel
set_option maxRecDepth 20000 in
theorem ggX3_digest_X3_columns : GoodIn wsX3_digest wsX3_columns := goodIn_r _ [7, 2, 253, 254, 255, 256, 257, 258, 259, 260, 261, 262, 263, 264] (by decide +kernel) (by decide +kernel)
set_option maxRecDepth 20000 in
theorem gX3_digest_X3_columns : GoodIn wsX3_digest (wsV RX3 164 RX3 yX3_columns wsX3_columns) := goodIn_app (goodIn_of _ (by decide +kernel)) ggX3_digest_X3_columns
set_option maxRecDepth 20000 in
theorem ggX3_digest_X3_mixed : GoodIn wsX3_digest wsX3_mixed := goodIn_r _ [10, 11] (by decide +kernel) (by decide +kernel)
set_option maxRecDepth 20000 in
theorem gX3_digest_X3_mixed : GoodIn wsX3_digest (va_wsS RX3 166 yX3_mixed wsX3_mixed) := goodIn_app (goodIn_of _ (by decide +kernel)) ggX3_digest_X3_mixed
set_option maxRecDepth 20000 in
theorem ggX3_digest_X3_rows : GoodIn wsX3_digest wsX3_rows := goodIn_r _ [15, 2, 253, 254, 255, 256, 257, 258, 259, 260, 261, 262, 263, 264] (by decide +kernel) (by decide +kernel)
set_option maxRecDepth 20000 in
theorem gX3_digest_X3_rows : GoodIn wsX3_digest (wsV RX3 170 RX3 yX3_rows wsX3_rows) := goodIn_app (goodIn_of _ (by decide +kernel)) ggX3_digest_X3_rows
set_option maxRecDepth 20000 in
theorem ggX3_digest_X3_generation : GoodIn wsX3_digest wsX3_generation := goodIn_r _ [19, 20, 253, 254, 255, 256, 257, 258] (by decide +kernel) (by decide +kernel)
set_option maxRecDepth 20000 in
theorem gX3_digest_X3_generation : GoodIn wsX3_digest (wsV RX3 172 RX3 yX3_generation wsX3_generation) := goodIn_app (goodIn_of _ (by decide +kernel)) ggX3_digest_X3_generation
set_option maxRecDepth 20000 in
theorem ggX3_digest_X3_rules : GoodIn wsX3_digest wsX3_rules := goodIn_r _ [24, 25, 253, 254, 255, 256, 257, 258, 265, 266, 267] (by decide +kernel) (by decide +kernel)
set_option maxRecDepth 20000 in
theorem gX3_digest_X3_rules : GoodIn wsX3_digest (wsV RX3 174 RX3 yX3_rules wsX3_rules) := goodIn_app (goodIn_of _ (by decide +kernel)) ggX3_digest_X3_rules
set_option maxRecDepth 20000 in
theorem ggX3_digest_X3_breath : GoodIn wsX3_digest wsX3_breath := goodIn_r _ [29, 30, 253, 254, 255, 256, 257, 258] (by decide +kernel) (by decide +kernel)
set_option maxRecDepth 20000 in
theorem gX3_digest_X3_breath : GoodIn wsX3_digest (wsV RX3 177 RX3 yX3_breath wsX3_breath) := goodIn_app (goodIn_of _ (by decide +kernel)) ggX3_digest_X3_breath
set_option maxRecDepth 20000 in
theorem ggX3_digest_X3_frozen : GoodIn wsX3_digest wsX3_frozen := goodIn_r _ [34, 2, 35, 36, 37, 38, 39, 40, 41, 42, 43, 44, 45, 46, 47, 48, 49, 50, 51, 52, 253, 254, 255, 256, 257, 258, 259, 260, 261, 262, 263, 264] (by decide +kernel) (by decide +kernel)
set_option maxRecDepth 20000 in
theorem gX3_digest_X3_frozen : GoodIn wsX3_digest (wsV RX3 179 RX3 yX3_frozen wsX3_frozen) := goodIn_app (goodIn_of _ (by decide +kernel)) ggX3_digest_X3_frozen
set_option maxRecDepth 20000 in
theorem ggX3_digest_X3_melted : GoodIn wsX3_digest wsX3_melted := goodIn_r _ [56, 2, 57, 58, 59, 38, 60, 61, 253, 254, 255, 256, 257, 258, 259, 260, 261, 262, 263, 264] (by decide +kernel) (by decide +kernel)
set_option maxRecDepth 20000 in
theorem gX3_digest_X3_melted : GoodIn wsX3_digest (wsV RX3 182 RX3 yX3_melted wsX3_melted) := goodIn_app (goodIn_of _ (by decide +kernel)) ggX3_digest_X3_melted
set_option maxRecDepth 20000 in
theorem ggX3_digest_X3_flowers : GoodIn wsX3_digest wsX3_flowers := goodIn_r _ [65, 66, 2, 67, 68, 69, 70, 71, 72, 73, 42, 43, 38, 44, 45, 74, 75, 76, 77, 78, 79, 80, 81, 82, 83, 84, 85, 86, 87, 88, 89, 90, 91, 92, 93, 94, 95, 47, 48, 49, 50, 51, 52, 253, 254, 255, 256, 257, 258, 259, 260, 261, 262, 263, 264, 268, 269] (by decide +kernel) (by decide +kernel)
set_option maxRecDepth 20000 in
theorem gX3_digest_X3_flowers : GoodIn wsX3_digest (wsV RX3 185 RX3 yX3_flowers wsX3_flowers) := goodIn_app (goodIn_of _ (by decide +kernel)) ggX3_digest_X3_flowers
set_option maxRecDepth 20000 in
theorem ggX3_digest_X3_largestFlower : GoodIn wsX3_digest wsX3_largestFlower := goodIn_r _ [99, 66, 2, 100, 101, 102, 103, 67, 68, 69, 70, 71, 72, 73, 42, 43, 38, 44, 45, 74, 75, 76, 77, 78, 79, 80, 81, 82, 83, 84, 85, 86, 87, 88, 89, 90, 91, 92, 93, 94, 95, 47, 48, 49, 50, 51, 52, 253, 254, 255, 256, 257, 258, 259, 260, 261, 262, 263, 264, 268, 269] (by decide +kernel) (by decide +kernel)
set_option maxRecDepth 20000 in
theorem gX3_digest_X3_largestFlower : GoodIn wsX3_digest (wsV RX3 188 RX3 yX3_largestFlower wsX3_largestFlower) := goodIn_app (goodIn_of _ (by decide +kernel)) ggX3_digest_X3_largestFlower
set_option maxRecDepth 20000 in
theorem ggX3_digest_X3_isMirrored : GoodIn wsX3_digest wsX3_isMirrored := goodIn_r _ [107, 2, 108, 109, 110, 38, 111, 41, 42, 43, 44, 45, 253, 254, 255, 256, 257, 258, 259, 260, 261, 262, 263, 264] (by decide +kernel) (by decide +kernel)
set_option maxRecDepth 20000 in
theorem gX3_digest_X3_isMirrored : GoodIn wsX3_digest (wsV RX3 191 RX3 yX3_isMirrored wsX3_isMirrored) := goodIn_app (goodIn_of _ (by decide +kernel)) ggX3_digest_X3_isMirrored
set_option maxRecDepth 20000 in
theorem ggX3_digest_X3_asNumber : GoodIn wsX3_digest wsX3_asNumber := goodIn_r _ [114] (by decide +kernel) (by decide +kernel)
set_option maxRecDepth 20000 in
theorem gX3_digest_X3_asNumber : GoodIn wsX3_digest (va_wsS RX3 194 yX3_asNumber wsX3_asNumber) := goodIn_app (goodIn_of _ (by decide +kernel)) ggX3_digest_X3_asNumber
set_option maxRecDepth 20000 in
theorem ggX3_digest_X3_comesAgainIn : GoodIn wsX3_digest wsX3_comesAgainIn := goodIn_r _ [118, 119, 2, 25, 30, 120, 121, 122, 38, 123, 124, 40, 125, 45, 126, 127, 102, 128, 129, 130, 131, 132, 61, 133, 134, 135, 136, 137, 138, 139, 140, 141, 142, 143, 144, 145, 146, 147, 148, 149, 150, 151, 152, 153, 154, 155, 156, 157, 158, 159, 160, 161, 162, 163, 164, 165, 41, 42, 43, 44, 166, 167, 168, 169, 170, 109, 110, 111, 171, 172, 173, 46, 47, 48, 49, 50, 51, 52, 174, 175, 176, 177, 178, 179, 180, 181, 182, 183, 184, 185, 186, 187, 188, 189, 253, 254, 255, 256, 257, 258, 259, 260, 261, 262, 263, 264, 265, 266, 267] (by decide +kernel) (by decide +kernel)
set_option maxRecDepth 20000 in
theorem gX3_digest_X3_comesAgainIn : GoodIn wsX3_digest (wsV RX3 198 RX3 yX3_comesAgainIn wsX3_comesAgainIn) := goodIn_app (goodIn_of _ (by decide +kernel)) ggX3_digest_X3_comesAgainIn
set_option maxRecDepth 20000 in
theorem ggX3_digest_X3_standsStillIn : GoodIn wsX3_digest wsX3_standsStillIn := goodIn_r _ [193, 119, 2, 25, 30, 120, 121, 122, 38, 123, 124, 40, 125, 45, 126, 127, 102, 128, 129, 130, 131, 132, 61, 57, 58, 59, 60, 133, 134, 135, 136, 137, 138, 139, 140, 141, 142, 143, 144, 145, 146, 147, 148, 149, 150, 151, 152, 153, 154, 155, 156, 157, 158, 159, 160, 161, 162, 163, 164, 165, 41, 42, 43, 44, 166, 167, 168, 169, 170, 109, 110, 111, 171, 172, 173, 46, 47, 48, 49, 50, 51, 52, 174, 175, 176, 177, 178, 179, 180, 181, 182, 183, 184, 185, 253, 254, 255, 256, 257, 258, 259, 260, 261, 262, 263, 264, 265, 266, 267] (by decide +kernel) (by decide +kernel)
set_option maxRecDepth 20000 in
theorem gX3_digest_X3_standsStillIn : GoodIn wsX3_digest (wsV RX3 201 RX3 yX3_standsStillIn wsX3_standsStillIn) := goodIn_app (goodIn_of _ (by decide +kernel)) ggX3_digest_X3_standsStillIn
set_option maxRecDepth 20000 in
theorem ggX3_digest_X3_bestBreath : GoodIn wsX3_digest wsX3_bestBreath := goodIn_ca (goodIn_r _ [197, 25, 198, 199, 6, 200, 201, 202, 203, 204, 205, 206, 119, 2, 120, 121, 122, 38, 123, 124, 40, 125, 45, 126, 127, 102, 128, 129, 130, 131, 132, 61, 133, 134, 135, 136, 137, 138, 139, 140, 141, 142, 143, 144, 145, 146, 147, 148, 149, 150, 151, 152, 153, 154, 155, 156, 157, 158, 159, 160, 161, 162, 163, 164, 165, 41, 42, 43, 44, 166, 167, 168, 169, 170, 109, 110, 111, 171, 172, 173, 46, 47, 48, 49, 50, 51, 52, 174, 175, 176, 177, 178, 179, 180, 181, 182, 183, 184, 185, 35, 36, 37, 39, 253, 254, 255, 256, 257, 258, 265, 266, 267, 259, 260, 261, 262, 263, 264] (by decide +kernel) (by decide +kernel)) (goodIn_sub (fun _ h => List.mem_cons_of_mem _ (List.mem_append_left _ (List.mem_append_right _ h))) (by decide +kernel))
set_option maxRecDepth 20000 in
theorem gX3_digest_X3_bestBreath : GoodIn wsX3_digest (wsV RX3 204 RX3 yX3_bestBreath wsX3_bestBreath) := goodIn_app (goodIn_of _ (by decide +kernel)) ggX3_digest_X3_bestBreath
set_option maxRecDepth 20000 in
theorem ggX3_digest_X3_digestOfRow : GoodIn wsX3_digest wsX3_digestOfRow := goodIn_ca (goodIn_r _ [210, 2, 211, 212, 213, 6, 214, 215, 216, 217, 163, 164, 38, 165, 40, 218, 42, 43, 44, 45, 219, 47, 48, 49, 50, 51, 52, 8, 9, 10, 11, 220, 221, 222, 223, 224, 225, 226, 227, 228, 229, 230, 231, 124, 162, 108, 109, 110, 111, 41, 112, 113, 114, 232, 233, 234, 235, 236, 175, 176, 177, 61, 237, 238, 239, 240, 241, 242, 243, 244, 158, 159, 160, 161, 125, 166, 167, 168, 169, 171, 172, 173, 46, 245, 246, 247, 248, 25, 30, 133, 134, 135, 136, 137, 138, 139, 140, 141, 142, 143, 144, 145, 146, 147, 148, 249, 250, 251, 252, 154, 155, 156, 157, 170, 174, 253, 254, 255, 256, 257, 258, 259, 260, 261, 262, 263, 264, 265, 266, 267] (by decide +kernel) (by decide +kernel)) (goodIn_sub (fun _ h => List.mem_cons_of_mem _ (List.mem_append_right _ h)) (by decide +kernel))
set_option maxRecDepth 20000 in
theorem gX3_digest_X3_digestOfRow : GoodIn wsX3_digest (wsV RX3 207 RX3 yX3_digestOfRow wsX3_digestOfRow) := goodIn_app (goodIn_of _ (by decide +kernel)) ggX3_digest_X3_digestOfRow
theorem dX3_digest_0 : decode cX3_digest 0 = .ok (.ldc2_w 162, 3) := by decide +kernel
theorem dX3_digest_3 : decode cX3_digest 3 = .ok (.lstore_n 1, 1) := by decide +kernel
theorem dX3_digest_4 : decode cX3_digest 4 = .ok (.lload_n 1, 1) := by decide +kernel
theorem dX3_digest_5 : decode cX3_digest 5 = .ok (.aload_n 0, 1) := by decide +kernel
theorem dX3_digest_6 : decode cX3_digest 6 = .ok (.invokevirtual 164, 3) := by decide +kernel
theorem dX3_digest_9 : decode cX3_digest 9 = .ok (.i2l, 1) := by decide +kernel
theorem dX3_digest_10 : decode cX3_digest 10 = .ok (.invokestatic 166, 3) := by decide +kernel
theorem dX3_digest_13 : decode cX3_digest 13 = .ok (.lstore_n 1, 1) := by decide +kernel
theorem dX3_digest_14 : decode cX3_digest 14 = .ok (.lload_n 1, 1) := by decide +kernel
theorem dX3_digest_15 : decode cX3_digest 15 = .ok (.aload_n 0, 1) := by decide +kernel
theorem dX3_digest_16 : decode cX3_digest 16 = .ok (.invokevirtual 170, 3) := by decide +kernel
theorem dX3_digest_19 : decode cX3_digest 19 = .ok (.i2l, 1) := by decide +kernel
theorem dX3_digest_20 : decode cX3_digest 20 = .ok (.invokestatic 166, 3) := by decide +kernel
theorem dX3_digest_23 : decode cX3_digest 23 = .ok (.lstore_n 1, 1) := by decide +kernel
theorem dX3_digest_24 : decode cX3_digest 24 = .ok (.lload_n 1, 1) := by decide +kernel
theorem dX3_digest_25 : decode cX3_digest 25 = .ok (.aload_n 0, 1) := by decide +kernel
theorem dX3_digest_26 : decode cX3_digest 26 = .ok (.invokevirtual 172, 3) := by decide +kernel
theorem dX3_digest_29 : decode cX3_digest 29 = .ok (.i2l, 1) := by decide +kernel
theorem dX3_digest_30 : decode cX3_digest 30 = .ok (.invokestatic 166, 3) := by decide +kernel
theorem dX3_digest_33 : decode cX3_digest 33 = .ok (.lstore_n 1, 1) := by decide +kernel
theorem dX3_digest_34 : decode cX3_digest 34 = .ok (.lload_n 1, 1) := by decide +kernel
theorem dX3_digest_35 : decode cX3_digest 35 = .ok (.aload_n 0, 1) := by decide +kernel
theorem dX3_digest_36 : decode cX3_digest 36 = .ok (.invokevirtual 174, 3) := by decide +kernel
theorem dX3_digest_39 : decode cX3_digest 39 = .ok (.i2l, 1) := by decide +kernel
theorem dX3_digest_40 : decode cX3_digest 40 = .ok (.invokestatic 166, 3) := by decide +kernel
theorem dX3_digest_43 : decode cX3_digest 43 = .ok (.lstore_n 1, 1) := by decide +kernel
theorem dX3_digest_44 : decode cX3_digest 44 = .ok (.lload_n 1, 1) := by decide +kernel
theorem dX3_digest_45 : decode cX3_digest 45 = .ok (.aload_n 0, 1) := by decide +kernel
theorem dX3_digest_46 : decode cX3_digest 46 = .ok (.invokevirtual 177, 3) := by decide +kernel
theorem dX3_digest_49 : decode cX3_digest 49 = .ok (.i2l, 1) := by decide +kernel
theorem dX3_digest_50 : decode cX3_digest 50 = .ok (.invokestatic 166, 3) := by decide +kernel
theorem dX3_digest_53 : decode cX3_digest 53 = .ok (.lstore_n 1, 1) := by decide +kernel
theorem dX3_digest_54 : decode cX3_digest 54 = .ok (.lload_n 1, 1) := by decide +kernel
theorem dX3_digest_55 : decode cX3_digest 55 = .ok (.aload_n 0, 1) := by decide +kernel
theorem dX3_digest_56 : decode cX3_digest 56 = .ok (.invokevirtual 179, 3) := by decide +kernel
theorem dX3_digest_59 : decode cX3_digest 59 = .ok (.i2l, 1) := by decide +kernel
theorem dX3_digest_60 : decode cX3_digest 60 = .ok (.invokestatic 166, 3) := by decide +kernel
theorem dX3_digest_63 : decode cX3_digest 63 = .ok (.lstore_n 1, 1) := by decide +kernel
theorem dX3_digest_64 : decode cX3_digest 64 = .ok (.lload_n 1, 1) := by decide +kernel
theorem dX3_digest_65 : decode cX3_digest 65 = .ok (.aload_n 0, 1) := by decide +kernel
theorem dX3_digest_66 : decode cX3_digest 66 = .ok (.invokevirtual 182, 3) := by decide +kernel
theorem dX3_digest_69 : decode cX3_digest 69 = .ok (.i2l, 1) := by decide +kernel
theorem dX3_digest_70 : decode cX3_digest 70 = .ok (.invokestatic 166, 3) := by decide +kernel
theorem dX3_digest_73 : decode cX3_digest 73 = .ok (.lstore_n 1, 1) := by decide +kernel
theorem dX3_digest_74 : decode cX3_digest 74 = .ok (.lload_n 1, 1) := by decide +kernel
theorem dX3_digest_75 : decode cX3_digest 75 = .ok (.aload_n 0, 1) := by decide +kernel
theorem dX3_digest_76 : decode cX3_digest 76 = .ok (.invokevirtual 185, 3) := by decide +kernel
theorem dX3_digest_79 : decode cX3_digest 79 = .ok (.i2l, 1) := by decide +kernel
theorem dX3_digest_80 : decode cX3_digest 80 = .ok (.invokestatic 166, 3) := by decide +kernel
theorem dX3_digest_83 : decode cX3_digest 83 = .ok (.lstore_n 1, 1) := by decide +kernel
theorem dX3_digest_84 : decode cX3_digest 84 = .ok (.lload_n 1, 1) := by decide +kernel
theorem dX3_digest_85 : decode cX3_digest 85 = .ok (.aload_n 0, 1) := by decide +kernel
theorem dX3_digest_86 : decode cX3_digest 86 = .ok (.invokevirtual 188, 3) := by decide +kernel
theorem dX3_digest_89 : decode cX3_digest 89 = .ok (.i2l, 1) := by decide +kernel
theorem dX3_digest_90 : decode cX3_digest 90 = .ok (.invokestatic 166, 3) := by decide +kernel
theorem dX3_digest_93 : decode cX3_digest 93 = .ok (.lstore_n 1, 1) := by decide +kernel
theorem dX3_digest_94 : decode cX3_digest 94 = .ok (.lload_n 1, 1) := by decide +kernel
theorem dX3_digest_95 : decode cX3_digest 95 = .ok (.aload_n 0, 1) := by decide +kernel
theorem dX3_digest_96 : decode cX3_digest 96 = .ok (.invokevirtual 191, 3) := by decide +kernel
theorem dX3_digest_99 : decode cX3_digest 99 = .ok (.invokestatic 194, 3) := by decide +kernel
theorem dX3_digest_102 : decode cX3_digest 102 = .ok (.invokestatic 166, 3) := by decide +kernel
theorem dX3_digest_105 : decode cX3_digest 105 = .ok (.lstore_n 1, 1) := by decide +kernel
theorem dX3_digest_106 : decode cX3_digest 106 = .ok (.lload_n 1, 1) := by decide +kernel
theorem dX3_digest_107 : decode cX3_digest 107 = .ok (.aload_n 0, 1) := by decide +kernel
theorem dX3_digest_108 : decode cX3_digest 108 = .ok (.invokevirtual 198, 3) := by decide +kernel
theorem dX3_digest_111 : decode cX3_digest 111 = .ok (.i2l, 1) := by decide +kernel
theorem dX3_digest_112 : decode cX3_digest 112 = .ok (.invokestatic 166, 3) := by decide +kernel
theorem dX3_digest_115 : decode cX3_digest 115 = .ok (.lstore_n 1, 1) := by decide +kernel
theorem dX3_digest_116 : decode cX3_digest 116 = .ok (.lload_n 1, 1) := by decide +kernel
theorem dX3_digest_117 : decode cX3_digest 117 = .ok (.aload_n 0, 1) := by decide +kernel
theorem dX3_digest_118 : decode cX3_digest 118 = .ok (.invokevirtual 201, 3) := by decide +kernel
theorem dX3_digest_121 : decode cX3_digest 121 = .ok (.i2l, 1) := by decide +kernel
theorem dX3_digest_122 : decode cX3_digest 122 = .ok (.invokestatic 166, 3) := by decide +kernel
theorem dX3_digest_125 : decode cX3_digest 125 = .ok (.lstore_n 1, 1) := by decide +kernel
theorem dX3_digest_126 : decode cX3_digest 126 = .ok (.lload_n 1, 1) := by decide +kernel
theorem dX3_digest_127 : decode cX3_digest 127 = .ok (.aload_n 0, 1) := by decide +kernel
theorem dX3_digest_128 : decode cX3_digest 128 = .ok (.iconst 5, 1) := by decide +kernel
theorem dX3_digest_129 : decode cX3_digest 129 = .ok (.invokevirtual 204, 3) := by decide +kernel
theorem dX3_digest_132 : decode cX3_digest 132 = .ok (.i2l, 1) := by decide +kernel
theorem dX3_digest_133 : decode cX3_digest 133 = .ok (.invokestatic 166, 3) := by decide +kernel
theorem dX3_digest_136 : decode cX3_digest 136 = .ok (.lstore_n 1, 1) := by decide +kernel
theorem dX3_digest_137 : decode cX3_digest 137 = .ok (.iconst 0, 1) := by decide +kernel
theorem dX3_digest_138 : decode cX3_digest 138 = .ok (.istore_n 3, 1) := by decide +kernel
theorem dX3_digest_139 : decode cX3_digest 139 = .ok (.iload_n 3, 1) := by decide +kernel
theorem dX3_digest_140 : decode cX3_digest 140 = .ok (.aload_n 0, 1) := by decide +kernel
theorem dX3_digest_141 : decode cX3_digest 141 = .ok (.getfield 10, 3) := by decide +kernel
theorem dX3_digest_144 : decode cX3_digest 144 = .ok (.getfield 111, 3) := by decide +kernel
theorem dX3_digest_147 : decode cX3_digest 147 = .ok (.if_icmp .ge 16, 3) := by decide +kernel
theorem dX3_digest_150 : decode cX3_digest 150 = .ok (.aload_n 0, 1) := by decide +kernel
theorem dX3_digest_151 : decode cX3_digest 151 = .ok (.lload_n 1, 1) := by decide +kernel
theorem dX3_digest_152 : decode cX3_digest 152 = .ok (.iload_n 3, 1) := by decide +kernel
theorem dX3_digest_153 : decode cX3_digest 153 = .ok (.invokevirtual 207, 3) := by decide +kernel
theorem dX3_digest_156 : decode cX3_digest 156 = .ok (.lstore_n 1, 1) := by decide +kernel
theorem dX3_digest_157 : decode cX3_digest 157 = .ok (.iinc 3 1, 3) := by decide +kernel
theorem dX3_digest_160 : decode cX3_digest 160 = .ok (.goto (-21), 3) := by decide +kernel
theorem dX3_digest_163 : decode cX3_digest 163 = .ok (.lload_n 1, 1) := by decide +kernel
theorem dX3_digest_164 : decode cX3_digest 164 = .ok (.lreturn, 1) := by decide +kernel
set_option maxRecDepth 20000 in
theorem ggX3_digestOfRow_X3_frozenInRow : GoodIn wsX3_digestOfRow wsX3_frozenInRow := goodIn_ca (goodIn_r _ [6, 7, 8, 1, 9, 10, 11, 12, 13, 14, 15, 16, 17, 18, 19, 20, 21, 22, 23, 24, 25, 26, 115, 116, 117, 118, 119, 120, 121, 122, 123, 124, 125, 126] (by decide +kernel) (by decide +kernel)) (goodIn_sub (fun _ h => List.mem_cons_of_mem _ (List.mem_append_right _ h)) (by decide +kernel))
set_option maxRecDepth 20000 in
theorem gX3_digestOfRow_X3_frozenInRow : GoodIn wsX3_digestOfRow (wsV RX3 211 RX3 yX3_frozenInRow wsX3_frozenInRow) := goodIn_app (goodIn_of _ (by decide +kernel)) ggX3_digestOfRow_X3_frozenInRow
set_option maxRecDepth 20000 in
theorem ggX3_digestOfRow_X3_mixed : GoodIn wsX3_digestOfRow wsX3_mixed := goodIn_r _ [29, 30] (by decide +kernel) (by decide +kernel)
set_option maxRecDepth 20000 in
theorem gX3_digestOfRow_X3_mixed : GoodIn wsX3_digestOfRow (va_wsS RX3 166 yX3_mixed wsX3_mixed) := goodIn_app (goodIn_of _ (by decide +kernel)) ggX3_digestOfRow_X3_mixed
set_option maxRecDepth 20000 in
theorem ggX3_digestOfRow_X3_isFrozen : GoodIn wsX3_digestOfRow wsX3_isFrozen := goodIn_ca (goodIn_r _ [34, 1, 35, 36, 37, 5, 38, 7, 8, 39, 40, 41, 12, 42, 43, 44, 10, 11, 13, 14, 45, 46, 47, 48, 49, 16, 17, 18, 19, 115, 116, 117, 118, 119, 120, 121, 122, 123, 124, 125, 126] (by decide +kernel) (by decide +kernel)) (goodIn_sub (fun _ h => List.mem_cons_of_mem _ (List.mem_append_right _ h)) (by decide +kernel))
set_option maxRecDepth 20000 in
theorem gX3_digestOfRow_X3_isFrozen : GoodIn wsX3_digestOfRow (wsV RX3 214 RX3 yX3_isFrozen wsX3_isFrozen) := goodIn_app (goodIn_of _ (by decide +kernel)) ggX3_digestOfRow_X3_isFrozen
set_option maxRecDepth 20000 in
theorem ggX3_digestOfRow_X3_asNumber : GoodIn wsX3_digestOfRow wsX3_asNumber := goodIn_r _ [52] (by decide +kernel) (by decide +kernel)
set_option maxRecDepth 20000 in
theorem gX3_digestOfRow_X3_asNumber : GoodIn wsX3_digestOfRow (va_wsS RX3 194 yX3_asNumber wsX3_asNumber) := goodIn_app (goodIn_of _ (by decide +kernel)) ggX3_digestOfRow_X3_asNumber
set_option maxRecDepth 20000 in
theorem ggX3_digestOfRow_X3_meltedFor : GoodIn wsX3_digestOfRow wsX3_meltedFor := goodIn_ca (goodIn_r _ [56, 1, 35, 36, 37, 5, 38, 7, 8, 39, 40, 41, 12, 42, 43, 44, 10, 11, 13, 14, 57, 58, 59, 60, 61, 115, 116, 117, 118, 119, 120, 121, 122, 123, 124, 125, 126] (by decide +kernel) (by decide +kernel)) (goodIn_sub (fun _ h => List.mem_cons_of_mem _ (List.mem_append_right _ h)) (by decide +kernel))
set_option maxRecDepth 20000 in
theorem gX3_digestOfRow_X3_meltedFor : GoodIn wsX3_digestOfRow (wsV RX3 217 RX3 yX3_meltedFor wsX3_meltedFor) := goodIn_app (goodIn_of _ (by decide +kernel)) ggX3_digestOfRow_X3_meltedFor
set_option maxRecDepth 20000 in
theorem ggX3_digestOfRow_X3_around : GoodIn wsX3_digestOfRow wsX3_around := goodIn_ca (goodIn_r _ [65, 1, 35, 36, 37, 5, 38, 7, 8, 39, 40, 41, 12, 42, 43, 44, 10, 11, 13, 14, 66, 67, 68, 69, 70, 71, 72, 73, 74, 49, 16, 17, 18, 19, 75, 76, 77, 78, 79, 80, 81, 82, 21, 22, 23, 24, 25, 26, 115, 116, 117, 118, 119, 120, 121, 122, 123, 124, 125, 126] (by decide +kernel) (by decide +kernel)) (goodIn_sub (fun _ h => List.mem_cons_of_mem _ (List.mem_append_right _ h)) (by decide +kernel))
set_option maxRecDepth 20000 in
theorem gX3_digestOfRow_X3_around : GoodIn wsX3_digestOfRow (wsV RX3 220 RX3 yX3_around wsX3_around) := goodIn_app (goodIn_of _ (by decide +kernel)) ggX3_digestOfRow_X3_around
set_option maxRecDepth 20000 in
theorem ggX3_digestOfRow_X3_willFreeze : GoodIn wsX3_digestOfRow wsX3_willFreeze := goodIn_ca (goodIn_r _ [86, 1, 87, 88, 35, 36, 37, 5, 38, 7, 8, 39, 40, 41, 12, 42, 43, 44, 10, 11, 13, 14, 89, 90, 91, 92, 93, 94, 95, 96, 97, 98, 99, 100, 101, 102, 103, 104, 105, 106, 107, 108, 109, 110, 111, 112, 70, 71, 72, 73, 74, 49, 16, 17, 18, 19, 75, 76, 77, 78, 113, 46, 47, 48, 79, 80, 81, 82, 21, 22, 23, 24, 25, 26, 114, 58, 59, 60, 61, 115, 116, 117, 118, 119, 120, 121, 122, 123, 124, 125, 126, 127, 128, 129] (by decide +kernel) (by decide +kernel)) (goodIn_sub (fun _ h => List.mem_cons_of_mem _ (List.mem_append_right _ h)) (by decide +kernel))
set_option maxRecDepth 20000 in
theorem gX3_digestOfRow_X3_willFreeze : GoodIn wsX3_digestOfRow (wsV RX3 223 RX3 yX3_willFreeze wsX3_willFreeze) := goodIn_app (goodIn_of _ (by decide +kernel)) ggX3_digestOfRow_X3_willFreeze
theorem dX3_digestOfRow_0 : decode cX3_digestOfRow 0 = .ok (.lload_n 1, 1) := by decide +kernel
theorem dX3_digestOfRow_1 : decode cX3_digestOfRow 1 = .ok (.aload_n 0, 1) := by decide +kernel
theorem dX3_digestOfRow_2 : decode cX3_digestOfRow 2 = .ok (.iload_n 3, 1) := by decide +kernel
theorem dX3_digestOfRow_3 : decode cX3_digestOfRow 3 = .ok (.invokevirtual 211, 3) := by decide +kernel
theorem dX3_digestOfRow_6 : decode cX3_digestOfRow 6 = .ok (.i2l, 1) := by decide +kernel
theorem dX3_digestOfRow_7 : decode cX3_digestOfRow 7 = .ok (.invokestatic 166, 3) := by decide +kernel
theorem dX3_digestOfRow_10 : decode cX3_digestOfRow 10 = .ok (.lstore 4, 2) := by decide +kernel
theorem dX3_digestOfRow_12 : decode cX3_digestOfRow 12 = .ok (.iconst 0, 1) := by decide +kernel
theorem dX3_digestOfRow_13 : decode cX3_digestOfRow 13 = .ok (.istore 6, 2) := by decide +kernel
theorem dX3_digestOfRow_15 : decode cX3_digestOfRow 15 = .ok (.iload 6, 2) := by decide +kernel
theorem dX3_digestOfRow_17 : decode cX3_digestOfRow 17 = .ok (.aload_n 0, 1) := by decide +kernel
theorem dX3_digestOfRow_18 : decode cX3_digestOfRow 18 = .ok (.getfield 10, 3) := by decide +kernel
theorem dX3_digestOfRow_21 : decode cX3_digestOfRow 21 = .ok (.getfield 108, 3) := by decide +kernel
theorem dX3_digestOfRow_24 : decode cX3_digestOfRow 24 = .ok (.if_icmp .ge 73, 3) := by decide +kernel
theorem dX3_digestOfRow_27 : decode cX3_digestOfRow 27 = .ok (.lload 4, 2) := by decide +kernel
theorem dX3_digestOfRow_29 : decode cX3_digestOfRow 29 = .ok (.aload_n 0, 1) := by decide +kernel
theorem dX3_digestOfRow_30 : decode cX3_digestOfRow 30 = .ok (.iload 6, 2) := by decide +kernel
theorem dX3_digestOfRow_32 : decode cX3_digestOfRow 32 = .ok (.iload_n 3, 1) := by decide +kernel
theorem dX3_digestOfRow_33 : decode cX3_digestOfRow 33 = .ok (.invokevirtual 214, 3) := by decide +kernel
theorem dX3_digestOfRow_36 : decode cX3_digestOfRow 36 = .ok (.invokestatic 194, 3) := by decide +kernel
theorem dX3_digestOfRow_39 : decode cX3_digestOfRow 39 = .ok (.invokestatic 166, 3) := by decide +kernel
theorem dX3_digestOfRow_42 : decode cX3_digestOfRow 42 = .ok (.lstore 4, 2) := by decide +kernel
theorem dX3_digestOfRow_44 : decode cX3_digestOfRow 44 = .ok (.lload 4, 2) := by decide +kernel
theorem dX3_digestOfRow_46 : decode cX3_digestOfRow 46 = .ok (.aload_n 0, 1) := by decide +kernel
theorem dX3_digestOfRow_47 : decode cX3_digestOfRow 47 = .ok (.iload 6, 2) := by decide +kernel
theorem dX3_digestOfRow_49 : decode cX3_digestOfRow 49 = .ok (.iload_n 3, 1) := by decide +kernel
theorem dX3_digestOfRow_50 : decode cX3_digestOfRow 50 = .ok (.invokevirtual 217, 3) := by decide +kernel
theorem dX3_digestOfRow_53 : decode cX3_digestOfRow 53 = .ok (.i2l, 1) := by decide +kernel
theorem dX3_digestOfRow_54 : decode cX3_digestOfRow 54 = .ok (.invokestatic 166, 3) := by decide +kernel
theorem dX3_digestOfRow_57 : decode cX3_digestOfRow 57 = .ok (.lstore 4, 2) := by decide +kernel
theorem dX3_digestOfRow_59 : decode cX3_digestOfRow 59 = .ok (.lload 4, 2) := by decide +kernel
theorem dX3_digestOfRow_61 : decode cX3_digestOfRow 61 = .ok (.aload_n 0, 1) := by decide +kernel
theorem dX3_digestOfRow_62 : decode cX3_digestOfRow 62 = .ok (.iload 6, 2) := by decide +kernel
theorem dX3_digestOfRow_64 : decode cX3_digestOfRow 64 = .ok (.iload_n 3, 1) := by decide +kernel
theorem dX3_digestOfRow_65 : decode cX3_digestOfRow 65 = .ok (.invokevirtual 220, 3) := by decide +kernel
theorem dX3_digestOfRow_68 : decode cX3_digestOfRow 68 = .ok (.i2l, 1) := by decide +kernel
theorem dX3_digestOfRow_69 : decode cX3_digestOfRow 69 = .ok (.invokestatic 166, 3) := by decide +kernel
theorem dX3_digestOfRow_72 : decode cX3_digestOfRow 72 = .ok (.lstore 4, 2) := by decide +kernel
theorem dX3_digestOfRow_74 : decode cX3_digestOfRow 74 = .ok (.lload 4, 2) := by decide +kernel
theorem dX3_digestOfRow_76 : decode cX3_digestOfRow 76 = .ok (.aload_n 0, 1) := by decide +kernel
theorem dX3_digestOfRow_77 : decode cX3_digestOfRow 77 = .ok (.iload 6, 2) := by decide +kernel
theorem dX3_digestOfRow_79 : decode cX3_digestOfRow 79 = .ok (.iload_n 3, 1) := by decide +kernel
theorem dX3_digestOfRow_80 : decode cX3_digestOfRow 80 = .ok (.invokevirtual 223, 3) := by decide +kernel
theorem dX3_digestOfRow_83 : decode cX3_digestOfRow 83 = .ok (.invokestatic 194, 3) := by decide +kernel
theorem dX3_digestOfRow_86 : decode cX3_digestOfRow 86 = .ok (.invokestatic 166, 3) := by decide +kernel
theorem dX3_digestOfRow_89 : decode cX3_digestOfRow 89 = .ok (.lstore 4, 2) := by decide +kernel
theorem dX3_digestOfRow_91 : decode cX3_digestOfRow 91 = .ok (.iinc 6 1, 3) := by decide +kernel
theorem dX3_digestOfRow_94 : decode cX3_digestOfRow 94 = .ok (.goto (-79), 3) := by decide +kernel
theorem dX3_digestOfRow_97 : decode cX3_digestOfRow 97 = .ok (.lload 4, 2) := by decide +kernel
theorem dX3_digestOfRow_99 : decode cX3_digestOfRow 99 = .ok (.lreturn, 1) := by decide +kernel
theorem dX3_mixed_0 : decode cX3_mixed 0 = .ok (.lload_n 0, 1) := by decide +kernel
theorem dX3_mixed_1 : decode cX3_mixed 1 = .ok (.ldc2_w 226, 3) := by decide +kernel
theorem dX3_mixed_4 : decode cX3_mixed 4 = .ok (.lmul, 1) := by decide +kernel
theorem dX3_mixed_5 : decode cX3_mixed 5 = .ok (.lload_n 2, 1) := by decide +kernel
theorem dX3_mixed_6 : decode cX3_mixed 6 = .ok (.ladd, 1) := by decide +kernel
theorem dX3_mixed_7 : decode cX3_mixed 7 = .ok (.lreturn, 1) := by decide +kernel
theorem dX3_asNumber_0 : decode cX3_asNumber 0 = .ok (.iload_n 0, 1) := by decide +kernel
theorem dX3_asNumber_1 : decode cX3_asNumber 1 = .ok (.ifCond .eq 7, 3) := by decide +kernel
theorem dX3_asNumber_4 : decode cX3_asNumber 4 = .ok (.lconst 1, 1) := by decide +kernel
theorem dX3_asNumber_5 : decode cX3_asNumber 5 = .ok (.goto 4, 3) := by decide +kernel
theorem dX3_asNumber_8 : decode cX3_asNumber 8 = .ok (.lconst 0, 1) := by decide +kernel
theorem dX3_asNumber_9 : decode cX3_asNumber 9 = .ok (.lreturn, 1) := by decide +kernel
set_option maxRecDepth 20000 in
theorem ggX3_frostBehind_X1_becomeLike : GoodIn wsX3_frostBehind wsX1_becomeLike := goodIn_r _ [8, 9, 10, 11, 12, 13, 14, 15, 16, 17, 18, 19, 20, 21, 99, 100, 101, 102, 103, 104] (by decide +kernel) (by decide +kernel)
set_option maxRecDepth 20000 in
theorem gX3_frostBehind_X1_becomeLike : GoodIn wsX3_frostBehind (wsV RX3 155 RX1 yX1_becomeLike wsX1_becomeLike) := goodIn_app (goodIn_of _ (by decide +kernel)) ggX3_frostBehind_X1_becomeLike
set_option maxRecDepth 20000 in
theorem ggX3_frostBehind_X2_freezesBy : GoodIn wsX3_frostBehind wsX2_freezesBy := goodIn_r _ [26, 27, 28, 29, 30, 25, 31, 32, 105, 106, 107] (by decide +kernel) (by decide +kernel)
set_option maxRecDepth 20000 in
theorem gX3_frostBehind_X2_freezesBy : GoodIn wsX3_frostBehind (wsV RX3 91 RX2 yX2_freezesBy wsX2_freezesBy) := goodIn_app (goodIn_of _ (by decide +kernel)) ggX3_frostBehind_X2_freezesBy
set_option maxRecDepth 20000 in
theorem ggX3_frostBehind_X2_staysBy : GoodIn wsX3_frostBehind wsX2_staysBy := goodIn_r _ [36, 37, 28, 29, 30, 25, 31, 32, 105, 106, 107] (by decide +kernel) (by decide +kernel)
set_option maxRecDepth 20000 in
theorem gX3_frostBehind_X2_staysBy : GoodIn wsX3_frostBehind (wsV RX3 95 RX2 yX2_staysBy wsX2_staysBy) := goodIn_app (goodIn_of _ (by decide +kernel)) ggX3_frostBehind_X2_staysBy
set_option maxRecDepth 20000 in
theorem ggX3_frostBehind_X1_step : GoodIn wsX3_frostBehind wsX1_step := goodIn_r _ [41, 10, 42, 43, 44, 45, 7, 46, 9, 47, 48, 49, 50, 11, 51, 52, 53, 54, 55, 56, 57, 58, 12, 59, 60, 61, 62, 63, 64, 65, 66, 67, 68, 69, 70, 71, 72, 73, 74, 75, 76, 77, 78, 79, 80, 21, 81, 82, 83, 84, 85, 86, 87, 88, 99, 100, 101, 102, 103, 104] (by decide +kernel) (by decide +kernel)
set_option maxRecDepth 20000 in
theorem gX3_frostBehind_X1_step : GoodIn wsX3_frostBehind (wsV RX3 98 RX1 yX1_step wsX1_step) := goodIn_app (goodIn_of _ (by decide +kernel)) ggX3_frostBehind_X1_step
set_option maxRecDepth 20000 in
theorem ggX3_frostBehind_X1_countFrost : GoodIn wsX3_frostBehind wsX1_countFrost := goodIn_r _ [92, 10, 55, 56, 57, 7, 58, 12, 70, 71, 72, 73, 74, 75, 76, 99, 100, 101, 102, 103, 104] (by decide +kernel) (by decide +kernel)
set_option maxRecDepth 20000 in
theorem gX3_frostBehind_X1_countFrost : GoodIn wsX3_frostBehind (wsV RX3 104 RX1 yX1_countFrost wsX1_countFrost) := goodIn_app (goodIn_of _ (by decide +kernel)) ggX3_frostBehind_X1_countFrost
theorem dX3_frostBehind_0 : decode cX3_frostBehind 0 = .ok (.aload_n 0, 1) := by decide +kernel
theorem dX3_frostBehind_1 : decode cX3_frostBehind 1 = .ok (.getfield 16, 3) := by decide +kernel
theorem dX3_frostBehind_4 : decode cX3_frostBehind 4 = .ok (.aload_n 0, 1) := by decide +kernel
theorem dX3_frostBehind_5 : decode cX3_frostBehind 5 = .ok (.getfield 10, 3) := by decide +kernel
theorem dX3_frostBehind_8 : decode cX3_frostBehind 8 = .ok (.invokevirtual 155, 3) := by decide +kernel
theorem dX3_frostBehind_11 : decode cX3_frostBehind 11 = .ok (.iconst 0, 1) := by decide +kernel
theorem dX3_frostBehind_12 : decode cX3_frostBehind 12 = .ok (.istore_n 3, 1) := by decide +kernel
theorem dX3_frostBehind_13 : decode cX3_frostBehind 13 = .ok (.iload_n 3, 1) := by decide +kernel
theorem dX3_frostBehind_14 : decode cX3_frostBehind 14 = .ok (.iload_n 1, 1) := by decide +kernel
theorem dX3_frostBehind_15 : decode cX3_frostBehind 15 = .ok (.if_icmp .ge 33, 3) := by decide +kernel
theorem dX3_frostBehind_18 : decode cX3_frostBehind 18 = .ok (.aload_n 0, 1) := by decide +kernel
theorem dX3_frostBehind_19 : decode cX3_frostBehind 19 = .ok (.getfield 16, 3) := by decide +kernel
theorem dX3_frostBehind_22 : decode cX3_frostBehind 22 = .ok (.aload_n 0, 1) := by decide +kernel
theorem dX3_frostBehind_23 : decode cX3_frostBehind 23 = .ok (.getfield 29, 3) := by decide +kernel
theorem dX3_frostBehind_26 : decode cX3_frostBehind 26 = .ok (.iload_n 2, 1) := by decide +kernel
theorem dX3_frostBehind_27 : decode cX3_frostBehind 27 = .ok (.invokevirtual 91, 3) := by decide +kernel
theorem dX3_frostBehind_30 : decode cX3_frostBehind 30 = .ok (.aload_n 0, 1) := by decide +kernel
theorem dX3_frostBehind_31 : decode cX3_frostBehind 31 = .ok (.getfield 29, 3) := by decide +kernel
theorem dX3_frostBehind_34 : decode cX3_frostBehind 34 = .ok (.iload_n 2, 1) := by decide +kernel
theorem dX3_frostBehind_35 : decode cX3_frostBehind 35 = .ok (.invokevirtual 95, 3) := by decide +kernel
theorem dX3_frostBehind_38 : decode cX3_frostBehind 38 = .ok (.invokevirtual 98, 3) := by decide +kernel
theorem dX3_frostBehind_41 : decode cX3_frostBehind 41 = .ok (.pop, 1) := by decide +kernel
theorem dX3_frostBehind_42 : decode cX3_frostBehind 42 = .ok (.iinc 3 1, 3) := by decide +kernel
theorem dX3_frostBehind_45 : decode cX3_frostBehind 45 = .ok (.goto (-32), 3) := by decide +kernel
theorem dX3_frostBehind_48 : decode cX3_frostBehind 48 = .ok (.aload_n 0, 1) := by decide +kernel
theorem dX3_frostBehind_49 : decode cX3_frostBehind 49 = .ok (.getfield 16, 3) := by decide +kernel
theorem dX3_frostBehind_52 : decode cX3_frostBehind 52 = .ok (.invokevirtual 104, 3) := by decide +kernel
theorem dX3_frostBehind_55 : decode cX3_frostBehind 55 = .ok (.ireturn, 1) := by decide +kernel
set_option maxRecDepth 20000 in
theorem ggX3_requireCell_X1_hasCell : GoodIn wsX3_requireCell wsX1_hasCell := goodIn_r _ [8, 9, 10, 11, 12, 7, 13, 14, 21, 22, 23, 24, 25, 26] (by decide +kernel) (by decide +kernel)
set_option maxRecDepth 20000 in
theorem gX3_requireCell_X1_hasCell : GoodIn wsX3_requireCell (wsV RX3 228 RX1 yX1_hasCell wsX1_hasCell) := goodIn_app (goodIn_of _ (by decide +kernel)) ggX3_requireCell_X1_hasCell
theorem dX3_requireCell_0 : decode cX3_requireCell 0 = .ok (.aload_n 0, 1) := by decide +kernel
theorem dX3_requireCell_1 : decode cX3_requireCell 1 = .ok (.getfield 10, 3) := by decide +kernel
theorem dX3_requireCell_4 : decode cX3_requireCell 4 = .ok (.iload_n 1, 1) := by decide +kernel
theorem dX3_requireCell_5 : decode cX3_requireCell 5 = .ok (.iload_n 2, 1) := by decide +kernel
theorem dX3_requireCell_6 : decode cX3_requireCell 6 = .ok (.invokevirtual 228, 3) := by decide +kernel
theorem dX3_requireCell_9 : decode cX3_requireCell 9 = .ok (.ifCond .ne 13, 3) := by decide +kernel
theorem dX3_requireCell_12 : decode cX3_requireCell 12 = .ok (.new 83, 3) := by decide +kernel
theorem dX3_requireCell_15 : decode cX3_requireCell 15 = .ok (.dup, 1) := by decide +kernel
theorem dX3_requireCell_16 : decode cX3_requireCell 16 = .ok (.ldc 231, 2) := by decide +kernel
theorem dX3_requireCell_18 : decode cX3_requireCell 18 = .ok (.invokespecial 87, 3) := by decide +kernel
theorem dX3_requireCell_21 : decode cX3_requireCell 21 = .ok (.athrow, 1) := by decide +kernel
theorem dX3_requireCell_22 : decode cX3_requireCell 22 = .ok (.return_, 1) := by decide +kernel
theorem dX3_requireWithin_0 : decode cX3_requireWithin 0 = .ok (.iload_n 0, 1) := by decide +kernel
theorem dX3_requireWithin_1 : decode cX3_requireWithin 1 = .ok (.iload_n 1, 1) := by decide +kernel
theorem dX3_requireWithin_2 : decode cX3_requireWithin 2 = .ok (.if_icmp .lt 8, 3) := by decide +kernel
theorem dX3_requireWithin_5 : decode cX3_requireWithin 5 = .ok (.iload_n 0, 1) := by decide +kernel
theorem dX3_requireWithin_6 : decode cX3_requireWithin 6 = .ok (.iload_n 2, 1) := by decide +kernel
theorem dX3_requireWithin_7 : decode cX3_requireWithin 7 = .ok (.if_icmp .le 13, 3) := by decide +kernel
theorem dX3_requireWithin_10 : decode cX3_requireWithin 10 = .ok (.new 233, 3) := by decide +kernel
theorem dX3_requireWithin_13 : decode cX3_requireWithin 13 = .ok (.dup, 1) := by decide +kernel
theorem dX3_requireWithin_14 : decode cX3_requireWithin 14 = .ok (.ldc 235, 2) := by decide +kernel
theorem dX3_requireWithin_16 : decode cX3_requireWithin 16 = .ok (.invokespecial 237, 3) := by decide +kernel
theorem dX3_requireWithin_19 : decode cX3_requireWithin 19 = .ok (.athrow, 1) := by decide +kernel
theorem dX3_requireWithin_20 : decode cX3_requireWithin 20 = .ok (.return_, 1) := by decide +kernel
theorem dX4_init_0 : decode cX4_init 0 = .ok (.aload_n 0, 1) := by decide +kernel
theorem dX4_init_1 : decode cX4_init 1 = .ok (.invokespecial 1, 3) := by decide +kernel
theorem dX4_init_4 : decode cX4_init 4 = .ok (.aload_n 0, 1) := by decide +kernel
theorem dX4_init_5 : decode cX4_init 5 = .ok (.bipush 8, 2) := by decide +kernel
theorem dX4_init_7 : decode cX4_init 7 = .ok (.putfield 7, 3) := by decide +kernel
theorem dX4_init_10 : decode cX4_init 10 = .ok (.aload_n 0, 1) := by decide +kernel
theorem dX4_init_11 : decode cX4_init 11 = .ok (.bipush 8, 2) := by decide +kernel
theorem dX4_init_13 : decode cX4_init 13 = .ok (.putfield 13, 3) := by decide +kernel
theorem dX4_init_16 : decode cX4_init 16 = .ok (.aload_n 0, 1) := by decide +kernel
theorem dX4_init_17 : decode cX4_init 17 = .ok (.iconst 0, 1) := by decide +kernel
theorem dX4_init_18 : decode cX4_init 18 = .ok (.putfield 16, 3) := by decide +kernel
theorem dX4_init_21 : decode cX4_init 21 = .ok (.aload_n 0, 1) := by decide +kernel
theorem dX4_init_22 : decode cX4_init 22 = .ok (.iconst 1, 1) := by decide +kernel
theorem dX4_init_23 : decode cX4_init 23 = .ok (.putfield 19, 3) := by decide +kernel
theorem dX4_init_26 : decode cX4_init 26 = .ok (.aload_n 0, 1) := by decide +kernel
theorem dX4_init_27 : decode cX4_init 27 = .ok (.bipush 6, 2) := by decide +kernel
theorem dX4_init_29 : decode cX4_init 29 = .ok (.newarray .int, 2) := by decide +kernel
theorem dX4_init_31 : decode cX4_init 31 = .ok (.putfield 22, 3) := by decide +kernel
theorem dX4_init_34 : decode cX4_init 34 = .ok (.aload_n 0, 1) := by decide +kernel
theorem dX4_init_35 : decode cX4_init 35 = .ok (.bipush 6, 2) := by decide +kernel
theorem dX4_init_37 : decode cX4_init 37 = .ok (.newarray .int, 2) := by decide +kernel
theorem dX4_init_39 : decode cX4_init 39 = .ok (.putfield 26, 3) := by decide +kernel
theorem dX4_init_42 : decode cX4_init 42 = .ok (.aload_n 0, 1) := by decide +kernel
theorem dX4_init_43 : decode cX4_init 43 = .ok (.bipush 12, 2) := by decide +kernel
theorem dX4_init_45 : decode cX4_init 45 = .ok (.newarray .int, 2) := by decide +kernel
theorem dX4_init_47 : decode cX4_init 47 = .ok (.putfield 29, 3) := by decide +kernel
theorem dX4_init_50 : decode cX4_init 50 = .ok (.aload_n 0, 1) := by decide +kernel
theorem dX4_init_51 : decode cX4_init 51 = .ok (.sipush 144, 3) := by decide +kernel
theorem dX4_init_54 : decode cX4_init 54 = .ok (.newarray .int, 2) := by decide +kernel
theorem dX4_init_56 : decode cX4_init 56 = .ok (.putfield 32, 3) := by decide +kernel
theorem dX4_init_59 : decode cX4_init 59 = .ok (.aload_n 0, 1) := by decide +kernel
theorem dX4_init_60 : decode cX4_init 60 = .ok (.bipush 12, 2) := by decide +kernel
theorem dX4_init_62 : decode cX4_init 62 = .ok (.newarray .int, 2) := by decide +kernel
theorem dX4_init_64 : decode cX4_init 64 = .ok (.putfield 35, 3) := by decide +kernel
theorem dX4_init_67 : decode cX4_init 67 = .ok (.aload_n 0, 1) := by decide +kernel
theorem dX4_init_68 : decode cX4_init 68 = .ok (.sipush 144, 3) := by decide +kernel
theorem dX4_init_71 : decode cX4_init 71 = .ok (.newarray .int, 2) := by decide +kernel
theorem dX4_init_73 : decode cX4_init 73 = .ok (.putfield 38, 3) := by decide +kernel
theorem dX4_init_76 : decode cX4_init 76 = .ok (.aload_n 0, 1) := by decide +kernel
theorem dX4_init_77 : decode cX4_init 77 = .ok (.bipush 12, 2) := by decide +kernel
theorem dX4_init_79 : decode cX4_init 79 = .ok (.newarray .int, 2) := by decide +kernel
theorem dX4_init_81 : decode cX4_init 81 = .ok (.putfield 41, 3) := by decide +kernel
theorem dX4_init_84 : decode cX4_init 84 = .ok (.aload_n 0, 1) := by decide +kernel
theorem dX4_init_85 : decode cX4_init 85 = .ok (.iconst 4, 1) := by decide +kernel
theorem dX4_init_86 : decode cX4_init 86 = .ok (.newarray .int, 2) := by decide +kernel
theorem dX4_init_88 : decode cX4_init 88 = .ok (.putfield 44, 3) := by decide +kernel
theorem dX4_init_91 : decode cX4_init 91 = .ok (.aload_n 0, 1) := by decide +kernel
theorem dX4_init_92 : decode cX4_init 92 = .ok (.sipush 144, 3) := by decide +kernel
theorem dX4_init_95 : decode cX4_init 95 = .ok (.newarray .boolean, 2) := by decide +kernel
theorem dX4_init_97 : decode cX4_init 97 = .ok (.putfield 47, 3) := by decide +kernel
theorem dX4_init_100 : decode cX4_init 100 = .ok (.aload_n 0, 1) := by decide +kernel
theorem dX4_init_101 : decode cX4_init 101 = .ok (.getfield 22, 3) := by decide +kernel
theorem dX4_init_104 : decode cX4_init 104 = .ok (.iconst 0, 1) := by decide +kernel
theorem dX4_init_105 : decode cX4_init 105 = .ok (.bipush 8, 2) := by decide +kernel
theorem dX4_init_107 : decode cX4_init 107 = .ok (.iastore, 1) := by decide +kernel
theorem dX4_init_108 : decode cX4_init 108 = .ok (.aload_n 0, 1) := by decide +kernel
theorem dX4_init_109 : decode cX4_init 109 = .ok (.getfield 26, 3) := by decide +kernel
theorem dX4_init_112 : decode cX4_init 112 = .ok (.iconst 0, 1) := by decide +kernel
theorem dX4_init_113 : decode cX4_init 113 = .ok (.bipush 12, 2) := by decide +kernel
theorem dX4_init_115 : decode cX4_init 115 = .ok (.iastore, 1) := by decide +kernel
theorem dX4_init_116 : decode cX4_init 116 = .ok (.return_, 1) := by decide +kernel
theorem dX4_thrown_0 : decode cX4_thrown 0 = .ok (.aload_n 0, 1) := by decide +kernel
theorem dX4_thrown_1 : decode cX4_thrown 1 = .ok (.getfield 51, 3) := by decide +kernel
theorem dX4_thrown_4 : decode cX4_thrown 4 = .ok (.ireturn, 1) := by decide +kernel
theorem dX4_no_0 : decode cX4_no 0 = .ok (.aload_n 0, 1) := by decide +kernel
theorem dX4_no_1 : decode cX4_no 1 = .ok (.iload_n 1, 1) := by decide +kernel
theorem dX4_no_2 : decode cX4_no 2 = .ok (.putfield 51, 3) := by decide +kernel
theorem dX4_no_5 : decode cX4_no 5 = .ok (.iconst 0, 1) := by decide +kernel
theorem dX4_no_6 : decode cX4_no 6 = .ok (.ireturn, 1) := by decide +kernel
theorem dX4_isNot_0 : decode cX4_isNot 0 = .ok (.aload_n 0, 1) := by decide +kernel
theorem dX4_isNot_1 : decode cX4_isNot 1 = .ok (.iload_n 1, 1) := by decide +kernel
theorem dX4_isNot_2 : decode cX4_isNot 2 = .ok (.putfield 51, 3) := by decide +kernel
theorem dX4_isNot_5 : decode cX4_isNot 5 = .ok (.iconst 0, 1) := by decide +kernel
theorem dX4_isNot_6 : decode cX4_isNot 6 = .ok (.ireturn, 1) := by decide +kernel
theorem dX4_ok_0 : decode cX4_ok 0 = .ok (.aload_n 0, 1) := by decide +kernel
theorem dX4_ok_1 : decode cX4_ok 1 = .ok (.iconst 0, 1) := by decide +kernel
theorem dX4_ok_2 : decode cX4_ok 2 = .ok (.putfield 51, 3) := by decide +kernel
theorem dX4_ok_5 : decode cX4_ok 5 = .ok (.iload_n 1, 1) := by decide +kernel
theorem dX4_ok_6 : decode cX4_ok 6 = .ok (.ireturn, 1) := by decide +kernel
theorem dX4_isIn_0 : decode cX4_isIn 0 = .ok (.iload_n 0, 1) := by decide +kernel
theorem dX4_isIn_1 : decode cX4_isIn 1 = .ok (.iload_n 1, 1) := by decide +kernel
theorem dX4_isIn_2 : decode cX4_isIn 2 = .ok (.if_icmp .lt 12, 3) := by decide +kernel
theorem dX4_isIn_5 : decode cX4_isIn 5 = .ok (.iload_n 0, 1) := by decide +kernel
theorem dX4_isIn_6 : decode cX4_isIn 6 = .ok (.iload_n 2, 1) := by decide +kernel
theorem dX4_isIn_7 : decode cX4_isIn 7 = .ok (.if_icmp .gt 7, 3) := by decide +kernel
theorem dX4_isIn_10 : decode cX4_isIn 10 = .ok (.iconst 1, 1) := by decide +kernel
theorem dX4_isIn_11 : decode cX4_isIn 11 = .ok (.goto 4, 3) := by decide +kernel
theorem dX4_isIn_14 : decode cX4_isIn 14 = .ok (.iconst 0, 1) := by decide +kernel
theorem dX4_isIn_15 : decode cX4_isIn 15 = .ok (.ireturn, 1) := by decide +kernel
set_option maxRecDepth 20000 in
theorem ggX4_isCell_X4_isIn : GoodIn wsX4_isCell wsX4_isIn := goodIn_r _ [6] (by decide +kernel) (by decide +kernel)
set_option maxRecDepth 20000 in
theorem gX4_isCell_X4_isIn : GoodIn wsX4_isCell (va_wsS RX4 54 yX4_isIn wsX4_isIn) := goodIn_app (goodIn_of _ (by decide +kernel)) ggX4_isCell_X4_isIn
theorem dX4_isCell_0 : decode cX4_isCell 0 = .ok (.iload_n 1, 1) := by decide +kernel
theorem dX4_isCell_1 : decode cX4_isCell 1 = .ok (.iconst 0, 1) := by decide +kernel
theorem dX4_isCell_2 : decode cX4_isCell 2 = .ok (.aload_n 0, 1) := by decide +kernel
theorem dX4_isCell_3 : decode cX4_isCell 3 = .ok (.getfield 7, 3) := by decide +kernel
theorem dX4_isCell_6 : decode cX4_isCell 6 = .ok (.iconst 1, 1) := by decide +kernel
theorem dX4_isCell_7 : decode cX4_isCell 7 = .ok (.isub, 1) := by decide +kernel
theorem dX4_isCell_8 : decode cX4_isCell 8 = .ok (.invokestatic 54, 3) := by decide +kernel
theorem dX4_isCell_11 : decode cX4_isCell 11 = .ok (.ifCond .eq 21, 3) := by decide +kernel
theorem dX4_isCell_14 : decode cX4_isCell 14 = .ok (.iload_n 2, 1) := by decide +kernel
theorem dX4_isCell_15 : decode cX4_isCell 15 = .ok (.iconst 0, 1) := by decide +kernel
theorem dX4_isCell_16 : decode cX4_isCell 16 = .ok (.aload_n 0, 1) := by decide +kernel
theorem dX4_isCell_17 : decode cX4_isCell 17 = .ok (.getfield 13, 3) := by decide +kernel
theorem dX4_isCell_20 : decode cX4_isCell 20 = .ok (.iconst 1, 1) := by decide +kernel
theorem dX4_isCell_21 : decode cX4_isCell 21 = .ok (.isub, 1) := by decide +kernel
theorem dX4_isCell_22 : decode cX4_isCell 22 = .ok (.invokestatic 54, 3) := by decide +kernel
theorem dX4_isCell_25 : decode cX4_isCell 25 = .ok (.ifCond .eq 7, 3) := by decide +kernel
theorem dX4_isCell_28 : decode cX4_isCell 28 = .ok (.iconst 1, 1) := by decide +kernel
theorem dX4_isCell_29 : decode cX4_isCell 29 = .ok (.goto 4, 3) := by decide +kernel
theorem dX4_isCell_32 : decode cX4_isCell 32 = .ok (.iconst 0, 1) := by decide +kernel
theorem dX4_isCell_33 : decode cX4_isCell 33 = .ok (.ireturn, 1) := by decide +kernel
theorem dX4_is_0 : decode cX4_is 0 = .ok (.aload_n 0, 1) := by decide +kernel
theorem dX4_is_1 : decode cX4_is 1 = .ok (.getfield 29, 3) := by decide +kernel
theorem dX4_is_4 : decode cX4_is 4 = .ok (.iload_n 2, 1) := by decide +kernel
theorem dX4_is_5 : decode cX4_is 5 = .ok (.iaload, 1) := by decide +kernel
theorem dX4_is_6 : decode cX4_is 6 = .ok (.iload_n 1, 1) := by decide +kernel
theorem dX4_is_7 : decode cX4_is 7 = .ok (.ishr, 1) := by decide +kernel
theorem dX4_is_8 : decode cX4_is 8 = .ok (.iconst 1, 1) := by decide +kernel
theorem dX4_is_9 : decode cX4_is 9 = .ok (.iand, 1) := by decide +kernel
theorem dX4_is_10 : decode cX4_is 10 = .ok (.iconst 1, 1) := by decide +kernel
theorem dX4_is_11 : decode cX4_is 11 = .ok (.if_icmp .ne 7, 3) := by decide +kernel
theorem dX4_is_14 : decode cX4_is 14 = .ok (.iconst 1, 1) := by decide +kernel
theorem dX4_is_15 : decode cX4_is 15 = .ok (.goto 4, 3) := by decide +kernel
theorem dX4_is_18 : decode cX4_is 18 = .ok (.iconst 0, 1) := by decide +kernel
theorem dX4_is_19 : decode cX4_is 19 = .ok (.ireturn, 1) := by decide +kernel
theorem dX4_full_0 : decode cX4_full 0 = .ok (.iconst 1, 1) := by decide +kernel
theorem dX4_full_1 : decode cX4_full 1 = .ok (.aload_n 0, 1) := by decide +kernel
theorem dX4_full_2 : decode cX4_full 2 = .ok (.getfield 7, 3) := by decide +kernel
theorem dX4_full_5 : decode cX4_full 5 = .ok (.ishl, 1) := by decide +kernel
theorem dX4_full_6 : decode cX4_full 6 = .ok (.iconst 1, 1) := by decide +kernel
theorem dX4_full_7 : decode cX4_full 7 = .ok (.isub, 1) := by decide +kernel
theorem dX4_full_8 : decode cX4_full 8 = .ok (.ireturn, 1) := by decide +kernel
theorem dX4_wide_0 : decode cX4_wide 0 = .ok (.iload_n 1, 1) := by decide +kernel
theorem dX4_wide_1 : decode cX4_wide 1 = .ok (.ifCond .lt 11, 3) := by decide +kernel
theorem dX4_wide_4 : decode cX4_wide 4 = .ok (.iload_n 1, 1) := by decide +kernel
theorem dX4_wide_5 : decode cX4_wide 5 = .ok (.aload_n 0, 1) := by decide +kernel
theorem dX4_wide_6 : decode cX4_wide 6 = .ok (.getfield 13, 3) := by decide +kernel
theorem dX4_wide_9 : decode cX4_wide 9 = .ok (.if_icmp .lt 7, 3) := by decide +kernel
theorem dX4_wide_12 : decode cX4_wide 12 = .ok (.iconst 1, 1) := by decide +kernel
theorem dX4_wide_13 : decode cX4_wide 13 = .ok (.goto 4, 3) := by decide +kernel
theorem dX4_wide_16 : decode cX4_wide 16 = .ok (.iconst 0, 1) := by decide +kernel
theorem dX4_wide_17 : decode cX4_wide 17 = .ok (.istore_n 2, 1) := by decide +kernel
theorem dX4_wide_18 : decode cX4_wide 18 = .ok (.iload_n 2, 1) := by decide +kernel
theorem dX4_wide_19 : decode cX4_wide 19 = .ok (.ifCond .eq 34, 3) := by decide +kernel
theorem dX4_wide_22 : decode cX4_wide 22 = .ok (.aload_n 0, 1) := by decide +kernel
theorem dX4_wide_23 : decode cX4_wide 23 = .ok (.getfield 16, 3) := by decide +kernel
theorem dX4_wide_26 : decode cX4_wide 26 = .ok (.iconst 2, 1) := by decide +kernel
theorem dX4_wide_27 : decode cX4_wide 27 = .ok (.if_icmp .eq 26, 3) := by decide +kernel
theorem dX4_wide_30 : decode cX4_wide 30 = .ok (.aload_n 0, 1) := by decide +kernel
theorem dX4_wide_31 : decode cX4_wide 31 = .ok (.getfield 16, 3) := by decide +kernel
theorem dX4_wide_34 : decode cX4_wide 34 = .ok (.iconst 1, 1) := by decide +kernel
theorem dX4_wide_35 : decode cX4_wide 35 = .ok (.if_icmp .ne 16, 3) := by decide +kernel
theorem dX4_wide_38 : decode cX4_wide 38 = .ok (.iconst 1, 1) := by decide +kernel
theorem dX4_wide_39 : decode cX4_wide 39 = .ok (.aload_n 0, 1) := by decide +kernel
theorem dX4_wide_40 : decode cX4_wide 40 = .ok (.getfield 7, 3) := by decide +kernel
theorem dX4_wide_43 : decode cX4_wide 43 = .ok (.iconst 2, 1) := by decide +kernel
theorem dX4_wide_44 : decode cX4_wide 44 = .ok (.iadd, 1) := by decide +kernel
theorem dX4_wide_45 : decode cX4_wide 45 = .ok (.ishl, 1) := by decide +kernel
theorem dX4_wide_46 : decode cX4_wide 46 = .ok (.iconst 1, 1) := by decide +kernel
theorem dX4_wide_47 : decode cX4_wide 47 = .ok (.isub, 1) := by decide +kernel
theorem dX4_wide_48 : decode cX4_wide 48 = .ok (.goto 4, 3) := by decide +kernel
theorem dX4_wide_51 : decode cX4_wide 51 = .ok (.iconst 0, 1) := by decide +kernel
theorem dX4_wide_52 : decode cX4_wide 52 = .ok (.ireturn, 1) := by decide +kernel
theorem dX4_wide_53 : decode cX4_wide 53 = .ok (.aload_n 0, 1) := by decide +kernel
theorem dX4_wide_54 : decode cX4_wide 54 = .ok (.getfield 29, 3) := by decide +kernel
theorem dX4_wide_57 : decode cX4_wide 57 = .ok (.iload_n 1, 1) := by decide +kernel
theorem dX4_wide_58 : decode cX4_wide 58 = .ok (.aload_n 0, 1) := by decide +kernel
theorem dX4_wide_59 : decode cX4_wide 59 = .ok (.getfield 13, 3) := by decide +kernel
theorem dX4_wide_62 : decode cX4_wide 62 = .ok (.iadd, 1) := by decide +kernel
theorem dX4_wide_63 : decode cX4_wide 63 = .ok (.aload_n 0, 1) := by decide +kernel
theorem dX4_wide_64 : decode cX4_wide 64 = .ok (.getfield 13, 3) := by decide +kernel
theorem dX4_wide_67 : decode cX4_wide 67 = .ok (.irem, 1) := by decide +kernel
theorem dX4_wide_68 : decode cX4_wide 68 = .ok (.iaload, 1) := by decide +kernel
theorem dX4_wide_69 : decode cX4_wide 69 = .ok (.istore_n 3, 1) := by decide +kernel
theorem dX4_wide_70 : decode cX4_wide 70 = .ok (.iload_n 3, 1) := by decide +kernel
theorem dX4_wide_71 : decode cX4_wide 71 = .ok (.iconst 1, 1) := by decide +kernel
theorem dX4_wide_72 : decode cX4_wide 72 = .ok (.ishl, 1) := by decide +kernel
theorem dX4_wide_73 : decode cX4_wide 73 = .ok (.istore 4, 2) := by decide +kernel
theorem dX4_wide_75 : decode cX4_wide 75 = .ok (.aload_n 0, 1) := by decide +kernel
theorem dX4_wide_76 : decode cX4_wide 76 = .ok (.getfield 16, 3) := by decide +kernel
theorem dX4_wide_79 : decode cX4_wide 79 = .ok (.iconst 1, 1) := by decide +kernel
theorem dX4_wide_80 : decode cX4_wide 80 = .ok (.if_icmp .ne 17, 3) := by decide +kernel
theorem dX4_wide_83 : decode cX4_wide 83 = .ok (.iload 4, 2) := by decide +kernel
theorem dX4_wide_85 : decode cX4_wide 85 = .ok (.iconst 1, 1) := by decide +kernel
theorem dX4_wide_86 : decode cX4_wide 86 = .ok (.ior, 1) := by decide +kernel
theorem dX4_wide_87 : decode cX4_wide 87 = .ok (.iconst 1, 1) := by decide +kernel
theorem dX4_wide_88 : decode cX4_wide 88 = .ok (.aload_n 0, 1) := by decide +kernel
theorem dX4_wide_89 : decode cX4_wide 89 = .ok (.getfield 7, 3) := by decide +kernel
theorem dX4_wide_92 : decode cX4_wide 92 = .ok (.iconst 1, 1) := by decide +kernel
theorem dX4_wide_93 : decode cX4_wide 93 = .ok (.iadd, 1) := by decide +kernel
theorem dX4_wide_94 : decode cX4_wide 94 = .ok (.ishl, 1) := by decide +kernel
theorem dX4_wide_95 : decode cX4_wide 95 = .ok (.ior, 1) := by decide +kernel
theorem dX4_wide_96 : decode cX4_wide 96 = .ok (.ireturn, 1) := by decide +kernel
theorem dX4_wide_97 : decode cX4_wide 97 = .ok (.aload_n 0, 1) := by decide +kernel
theorem dX4_wide_98 : decode cX4_wide 98 = .ok (.getfield 16, 3) := by decide +kernel
theorem dX4_wide_101 : decode cX4_wide 101 = .ok (.iconst 2, 1) := by decide +kernel
theorem dX4_wide_102 : decode cX4_wide 102 = .ok (.if_icmp .ne 26, 3) := by decide +kernel
theorem dX4_wide_105 : decode cX4_wide 105 = .ok (.iload 4, 2) := by decide +kernel
theorem dX4_wide_107 : decode cX4_wide 107 = .ok (.iload_n 3, 1) := by decide +kernel
theorem dX4_wide_108 : decode cX4_wide 108 = .ok (.aload_n 0, 1) := by decide +kernel
theorem dX4_wide_109 : decode cX4_wide 109 = .ok (.getfield 7, 3) := by decide +kernel
theorem dX4_wide_112 : decode cX4_wide 112 = .ok (.iconst 1, 1) := by decide +kernel
theorem dX4_wide_113 : decode cX4_wide 113 = .ok (.isub, 1) := by decide +kernel
theorem dX4_wide_114 : decode cX4_wide 114 = .ok (.ishr, 1) := by decide +kernel
theorem dX4_wide_115 : decode cX4_wide 115 = .ok (.ior, 1) := by decide +kernel
theorem dX4_wide_116 : decode cX4_wide 116 = .ok (.iload_n 3, 1) := by decide +kernel
theorem dX4_wide_117 : decode cX4_wide 117 = .ok (.iconst 1, 1) := by decide +kernel
theorem dX4_wide_118 : decode cX4_wide 118 = .ok (.iand, 1) := by decide +kernel
theorem dX4_wide_119 : decode cX4_wide 119 = .ok (.aload_n 0, 1) := by decide +kernel
theorem dX4_wide_120 : decode cX4_wide 120 = .ok (.getfield 7, 3) := by decide +kernel
theorem dX4_wide_123 : decode cX4_wide 123 = .ok (.iconst 1, 1) := by decide +kernel
theorem dX4_wide_124 : decode cX4_wide 124 = .ok (.iadd, 1) := by decide +kernel
theorem dX4_wide_125 : decode cX4_wide 125 = .ok (.ishl, 1) := by decide +kernel
theorem dX4_wide_126 : decode cX4_wide 126 = .ok (.ior, 1) := by decide +kernel
theorem dX4_wide_127 : decode cX4_wide 127 = .ok (.ireturn, 1) := by decide +kernel
theorem dX4_wide_128 : decode cX4_wide 128 = .ok (.iload 4, 2) := by decide +kernel
theorem dX4_wide_130 : decode cX4_wide 130 = .ok (.ireturn, 1) := by decide +kernel
theorem dX4_add_0 : decode cX4_add 0 = .ok (.iload_n 1, 1) := by decide +kernel
theorem dX4_add_1 : decode cX4_add 1 = .ok (.istore_n 2, 1) := by decide +kernel
theorem dX4_add_2 : decode cX4_add 2 = .ok (.iconst 0, 1) := by decide +kernel
theorem dX4_add_3 : decode cX4_add 3 = .ok (.istore_n 3, 1) := by decide +kernel
theorem dX4_add_4 : decode cX4_add 4 = .ok (.iload_n 3, 1) := by decide +kernel
theorem dX4_add_5 : decode cX4_add 5 = .ok (.iconst 4, 1) := by decide +kernel
theorem dX4_add_6 : decode cX4_add 6 = .ok (.if_icmp .ge 32, 3) := by decide +kernel
theorem dX4_add_9 : decode cX4_add 9 = .ok (.aload_n 0, 1) := by decide +kernel
theorem dX4_add_10 : decode cX4_add 10 = .ok (.getfield 44, 3) := by decide +kernel
theorem dX4_add_13 : decode cX4_add 13 = .ok (.iload_n 3, 1) := by decide +kernel
theorem dX4_add_14 : decode cX4_add 14 = .ok (.iaload, 1) := by decide +kernel
theorem dX4_add_15 : decode cX4_add 15 = .ok (.iload_n 2, 1) := by decide +kernel
theorem dX4_add_16 : decode cX4_add 16 = .ok (.iand, 1) := by decide +kernel
theorem dX4_add_17 : decode cX4_add 17 = .ok (.istore 4, 2) := by decide +kernel
theorem dX4_add_19 : decode cX4_add 19 = .ok (.aload_n 0, 1) := by decide +kernel
theorem dX4_add_20 : decode cX4_add 20 = .ok (.getfield 44, 3) := by decide +kernel
theorem dX4_add_23 : decode cX4_add 23 = .ok (.iload_n 3, 1) := by decide +kernel
theorem dX4_add_24 : decode cX4_add 24 = .ok (.dup2, 1) := by decide +kernel
theorem dX4_add_25 : decode cX4_add 25 = .ok (.iaload, 1) := by decide +kernel
theorem dX4_add_26 : decode cX4_add 26 = .ok (.iload_n 2, 1) := by decide +kernel
theorem dX4_add_27 : decode cX4_add 27 = .ok (.ixor, 1) := by decide +kernel
theorem dX4_add_28 : decode cX4_add 28 = .ok (.iastore, 1) := by decide +kernel
theorem dX4_add_29 : decode cX4_add 29 = .ok (.iload 4, 2) := by decide +kernel
theorem dX4_add_31 : decode cX4_add 31 = .ok (.istore_n 2, 1) := by decide +kernel
theorem dX4_add_32 : decode cX4_add 32 = .ok (.iinc 3 1, 3) := by decide +kernel
theorem dX4_add_35 : decode cX4_add 35 = .ok (.goto (-31), 3) := by decide +kernel
theorem dX4_add_38 : decode cX4_add 38 = .ok (.return_, 1) := by decide +kernel
set_option maxRecDepth 20000 in
theorem ggX4_count_X4_wide : GoodIn wsX4_count wsX4_wide := goodIn_r _ [6, 7, 8, 9, 10, 19, 20, 21, 22, 23, 24, 25, 26, 27, 28, 29, 30, 31, 32, 33, 34] (by decide +kernel) (by decide +kernel)
set_option maxRecDepth 20000 in
theorem gX4_count_X4_wide : GoodIn wsX4_count (wsV RX4 58 RX4 yX4_wide wsX4_wide) := goodIn_app (goodIn_of _ (by decide +kernel)) ggX4_count_X4_wide
set_option maxRecDepth 20000 in
theorem ggX4_count_X4_full : GoodIn wsX4_count wsX4_full := goodIn_r _ [14, 9, 19, 20, 21, 22, 23, 24, 25, 26, 27, 28, 29, 30, 31, 32, 33, 34] (by decide +kernel) (by decide +kernel)
set_option maxRecDepth 20000 in
theorem gX4_count_X4_full : GoodIn wsX4_count (wsV RX4 62 RX4 yX4_full wsX4_full) := goodIn_app (goodIn_of _ (by decide +kernel)) ggX4_count_X4_full
set_option maxRecDepth 20000 in
theorem ggX4_count_X4_add : GoodIn wsX4_count wsX4_add := goodIn_r _ [18, 1, 19, 20, 21, 22, 23, 24, 25, 26, 27, 28, 29, 30, 31, 32, 33, 34] (by decide +kernel) (by decide +kernel)
set_option maxRecDepth 20000 in
theorem gX4_count_X4_add : GoodIn wsX4_count (wsV RX4 66 RX4 yX4_add wsX4_add) := goodIn_app (goodIn_of _ (by decide +kernel)) ggX4_count_X4_add
theorem dX4_count_0 : decode cX4_count 0 = .ok (.iconst 0, 1) := by decide +kernel
theorem dX4_count_1 : decode cX4_count 1 = .ok (.istore_n 2, 1) := by decide +kernel
theorem dX4_count_2 : decode cX4_count 2 = .ok (.iload_n 2, 1) := by decide +kernel
theorem dX4_count_3 : decode cX4_count 3 = .ok (.iconst 4, 1) := by decide +kernel
theorem dX4_count_4 : decode cX4_count 4 = .ok (.if_icmp .ge 16, 3) := by decide +kernel
theorem dX4_count_7 : decode cX4_count 7 = .ok (.aload_n 0, 1) := by decide +kernel
theorem dX4_count_8 : decode cX4_count 8 = .ok (.getfield 44, 3) := by decide +kernel
theorem dX4_count_11 : decode cX4_count 11 = .ok (.iload_n 2, 1) := by decide +kernel
theorem dX4_count_12 : decode cX4_count 12 = .ok (.iconst 0, 1) := by decide +kernel
theorem dX4_count_13 : decode cX4_count 13 = .ok (.iastore, 1) := by decide +kernel
theorem dX4_count_14 : decode cX4_count 14 = .ok (.iinc 2 1, 3) := by decide +kernel
theorem dX4_count_17 : decode cX4_count 17 = .ok (.goto (-15), 3) := by decide +kernel
theorem dX4_count_20 : decode cX4_count 20 = .ok (.iconst (-1), 1) := by decide +kernel
theorem dX4_count_21 : decode cX4_count 21 = .ok (.istore_n 2, 1) := by decide +kernel
theorem dX4_count_22 : decode cX4_count 22 = .ok (.iload_n 2, 1) := by decide +kernel
theorem dX4_count_23 : decode cX4_count 23 = .ok (.iconst 2, 1) := by decide +kernel
theorem dX4_count_24 : decode cX4_count 24 = .ok (.if_icmp .ge 55, 3) := by decide +kernel
theorem dX4_count_27 : decode cX4_count 27 = .ok (.aload_n 0, 1) := by decide +kernel
theorem dX4_count_28 : decode cX4_count 28 = .ok (.iload_n 1, 1) := by decide +kernel
theorem dX4_count_29 : decode cX4_count 29 = .ok (.iload_n 2, 1) := by decide +kernel
theorem dX4_count_30 : decode cX4_count 30 = .ok (.iadd, 1) := by decide +kernel
theorem dX4_count_31 : decode cX4_count 31 = .ok (.invokevirtual 58, 3) := by decide +kernel
theorem dX4_count_34 : decode cX4_count 34 = .ok (.istore_n 3, 1) := by decide +kernel
theorem dX4_count_35 : decode cX4_count 35 = .ok (.aload_n 0, 1) := by decide +kernel
theorem dX4_count_36 : decode cX4_count 36 = .ok (.iload_n 3, 1) := by decide +kernel
theorem dX4_count_37 : decode cX4_count 37 = .ok (.aload_n 0, 1) := by decide +kernel
theorem dX4_count_38 : decode cX4_count 38 = .ok (.invokevirtual 62, 3) := by decide +kernel
theorem dX4_count_41 : decode cX4_count 41 = .ok (.iand, 1) := by decide +kernel
theorem dX4_count_42 : decode cX4_count 42 = .ok (.invokevirtual 66, 3) := by decide +kernel
theorem dX4_count_45 : decode cX4_count 45 = .ok (.aload_n 0, 1) := by decide +kernel
theorem dX4_count_46 : decode cX4_count 46 = .ok (.iload_n 3, 1) := by decide +kernel
theorem dX4_count_47 : decode cX4_count 47 = .ok (.iconst 2, 1) := by decide +kernel
theorem dX4_count_48 : decode cX4_count 48 = .ok (.ishr, 1) := by decide +kernel
theorem dX4_count_49 : decode cX4_count 49 = .ok (.aload_n 0, 1) := by decide +kernel
theorem dX4_count_50 : decode cX4_count 50 = .ok (.invokevirtual 62, 3) := by decide +kernel
theorem dX4_count_53 : decode cX4_count 53 = .ok (.iand, 1) := by decide +kernel
theorem dX4_count_54 : decode cX4_count 54 = .ok (.invokevirtual 66, 3) := by decide +kernel
theorem dX4_count_57 : decode cX4_count 57 = .ok (.iload_n 2, 1) := by decide +kernel
theorem dX4_count_58 : decode cX4_count 58 = .ok (.ifCond .eq 15, 3) := by decide +kernel
theorem dX4_count_61 : decode cX4_count 61 = .ok (.aload_n 0, 1) := by decide +kernel
theorem dX4_count_62 : decode cX4_count 62 = .ok (.iload_n 3, 1) := by decide +kernel
theorem dX4_count_63 : decode cX4_count 63 = .ok (.iconst 1, 1) := by decide +kernel
theorem dX4_count_64 : decode cX4_count 64 = .ok (.ishr, 1) := by decide +kernel
theorem dX4_count_65 : decode cX4_count 65 = .ok (.aload_n 0, 1) := by decide +kernel
theorem dX4_count_66 : decode cX4_count 66 = .ok (.invokevirtual 62, 3) := by decide +kernel
theorem dX4_count_69 : decode cX4_count 69 = .ok (.iand, 1) := by decide +kernel
theorem dX4_count_70 : decode cX4_count 70 = .ok (.invokevirtual 66, 3) := by decide +kernel
theorem dX4_count_73 : decode cX4_count 73 = .ok (.iinc 2 1, 3) := by decide +kernel
theorem dX4_count_76 : decode cX4_count 76 = .ok (.goto (-54), 3) := by decide +kernel
theorem dX4_count_79 : decode cX4_count 79 = .ok (.return_, 1) := by decide +kernel
theorem dX4_counted_0 : decode cX4_counted 0 = .ok (.iconst 0, 1) := by decide +kernel
theorem dX4_counted_1 : decode cX4_counted 1 = .ok (.istore_n 2, 1) := by decide +kernel
theorem dX4_counted_2 : decode cX4_counted 2 = .ok (.iconst 0, 1) := by decide +kernel
theorem dX4_counted_3 : decode cX4_counted 3 = .ok (.istore_n 3, 1) := by decide +kernel
theorem dX4_counted_4 : decode cX4_counted 4 = .ok (.iload_n 3, 1) := by decide +kernel
theorem dX4_counted_5 : decode cX4_counted 5 = .ok (.iconst 4, 1) := by decide +kernel
theorem dX4_counted_6 : decode cX4_counted 6 = .ok (.if_icmp .ge 24, 3) := by decide +kernel
theorem dX4_counted_9 : decode cX4_counted 9 = .ok (.iload_n 2, 1) := by decide +kernel
theorem dX4_counted_10 : decode cX4_counted 10 = .ok (.aload_n 0, 1) := by decide +kernel
theorem dX4_counted_11 : decode cX4_counted 11 = .ok (.getfield 44, 3) := by decide +kernel
theorem dX4_counted_14 : decode cX4_counted 14 = .ok (.iload_n 3, 1) := by decide +kernel
theorem dX4_counted_15 : decode cX4_counted 15 = .ok (.iaload, 1) := by decide +kernel
theorem dX4_counted_16 : decode cX4_counted 16 = .ok (.iload_n 1, 1) := by decide +kernel
theorem dX4_counted_17 : decode cX4_counted 17 = .ok (.ishr, 1) := by decide +kernel
theorem dX4_counted_18 : decode cX4_counted 18 = .ok (.iconst 1, 1) := by decide +kernel
theorem dX4_counted_19 : decode cX4_counted 19 = .ok (.iand, 1) := by decide +kernel
theorem dX4_counted_20 : decode cX4_counted 20 = .ok (.iload_n 3, 1) := by decide +kernel
theorem dX4_counted_21 : decode cX4_counted 21 = .ok (.ishl, 1) := by decide +kernel
theorem dX4_counted_22 : decode cX4_counted 22 = .ok (.ior, 1) := by decide +kernel
theorem dX4_counted_23 : decode cX4_counted 23 = .ok (.istore_n 2, 1) := by decide +kernel
theorem dX4_counted_24 : decode cX4_counted 24 = .ok (.iinc 3 1, 3) := by decide +kernel
theorem dX4_counted_27 : decode cX4_counted 27 = .ok (.goto (-23), 3) := by decide +kernel
theorem dX4_counted_30 : decode cX4_counted 30 = .ok (.iload_n 2, 1) := by decide +kernel
theorem dX4_counted_31 : decode cX4_counted 31 = .ok (.ireturn, 1) := by decide +kernel
set_option maxRecDepth 20000 in
theorem ggX4_grown_X4_count : GoodIn wsX4_grown wsX4_count := goodIn_r _ [10, 11, 12, 13, 14, 9, 15, 16, 17, 1, 18, 19, 20, 21, 22, 23, 24, 25, 26, 35, 36, 37, 38, 39, 40, 41, 42, 43, 44, 45, 46, 47, 48, 49, 50] (by decide +kernel) (by decide +kernel)
set_option maxRecDepth 20000 in
theorem gX4_grown_X4_count : GoodIn wsX4_grown (wsV RX4 70 RX4 yX4_count wsX4_count) := goodIn_app (goodIn_of _ (by decide +kernel)) ggX4_grown_X4_count
set_option maxRecDepth 20000 in
theorem ggX4_grown_X4_is : GoodIn wsX4_grown wsX4_is := goodIn_r _ [30, 18, 35, 36, 37, 38, 39, 40, 41, 42, 43, 44, 45, 46, 47, 48, 49, 50] (by decide +kernel) (by decide +kernel)
set_option maxRecDepth 20000 in
theorem gX4_grown_X4_is : GoodIn wsX4_grown (wsV RX4 73 RX4 yX4_is wsX4_is) := goodIn_app (goodIn_of _ (by decide +kernel)) ggX4_grown_X4_is
set_option maxRecDepth 20000 in
theorem ggX4_grown_X4_counted : GoodIn wsX4_grown wsX4_counted := goodIn_r _ [34, 11, 35, 36, 37, 38, 39, 40, 41, 42, 43, 44, 45, 46, 47, 48, 49, 50] (by decide +kernel) (by decide +kernel)
set_option maxRecDepth 20000 in
theorem gX4_grown_X4_counted : GoodIn wsX4_grown (wsV RX4 80 RX4 yX4_counted wsX4_counted) := goodIn_app (goodIn_of _ (by decide +kernel)) ggX4_grown_X4_counted
theorem dX4_grown_0 : decode cX4_grown 0 = .ok (.aload_n 0, 1) := by decide +kernel
theorem dX4_grown_1 : decode cX4_grown 1 = .ok (.iload_n 1, 1) := by decide +kernel
theorem dX4_grown_2 : decode cX4_grown 2 = .ok (.invokevirtual 70, 3) := by decide +kernel
theorem dX4_grown_5 : decode cX4_grown 5 = .ok (.iconst 0, 1) := by decide +kernel
theorem dX4_grown_6 : decode cX4_grown 6 = .ok (.istore_n 2, 1) := by decide +kernel
theorem dX4_grown_7 : decode cX4_grown 7 = .ok (.iconst 0, 1) := by decide +kernel
theorem dX4_grown_8 : decode cX4_grown 8 = .ok (.istore_n 3, 1) := by decide +kernel
theorem dX4_grown_9 : decode cX4_grown 9 = .ok (.iload_n 3, 1) := by decide +kernel
theorem dX4_grown_10 : decode cX4_grown 10 = .ok (.aload_n 0, 1) := by decide +kernel
theorem dX4_grown_11 : decode cX4_grown 11 = .ok (.getfield 7, 3) := by decide +kernel
theorem dX4_grown_14 : decode cX4_grown 14 = .ok (.if_icmp .ge 91, 3) := by decide +kernel
theorem dX4_grown_17 : decode cX4_grown 17 = .ok (.aload_n 0, 1) := by decide +kernel
theorem dX4_grown_18 : decode cX4_grown 18 = .ok (.iload_n 3, 1) := by decide +kernel
theorem dX4_grown_19 : decode cX4_grown 19 = .ok (.iload_n 1, 1) := by decide +kernel
theorem dX4_grown_20 : decode cX4_grown 20 = .ok (.invokevirtual 73, 3) := by decide +kernel
theorem dX4_grown_23 : decode cX4_grown 23 = .ok (.ifCond .eq 15, 3) := by decide +kernel
theorem dX4_grown_26 : decode cX4_grown 26 = .ok (.aload_n 0, 1) := by decide +kernel
theorem dX4_grown_27 : decode cX4_grown 27 = .ok (.getfield 26, 3) := by decide +kernel
theorem dX4_grown_30 : decode cX4_grown 30 = .ok (.aload_n 0, 1) := by decide +kernel
theorem dX4_grown_31 : decode cX4_grown 31 = .ok (.getfield 77, 3) := by decide +kernel
theorem dX4_grown_34 : decode cX4_grown 34 = .ok (.iaload, 1) := by decide +kernel
theorem dX4_grown_35 : decode cX4_grown 35 = .ok (.goto 12, 3) := by decide +kernel
theorem dX4_grown_38 : decode cX4_grown 38 = .ok (.aload_n 0, 1) := by decide +kernel
theorem dX4_grown_39 : decode cX4_grown 39 = .ok (.getfield 22, 3) := by decide +kernel
theorem dX4_grown_42 : decode cX4_grown 42 = .ok (.aload_n 0, 1) := by decide +kernel
theorem dX4_grown_43 : decode cX4_grown 43 = .ok (.getfield 77, 3) := by decide +kernel
theorem dX4_grown_46 : decode cX4_grown 46 = .ok (.iaload, 1) := by decide +kernel
theorem dX4_grown_47 : decode cX4_grown 47 = .ok (.istore 4, 2) := by decide +kernel
theorem dX4_grown_49 : decode cX4_grown 49 = .ok (.aload_n 0, 1) := by decide +kernel
theorem dX4_grown_50 : decode cX4_grown 50 = .ok (.getfield 32, 3) := by decide +kernel
theorem dX4_grown_53 : decode cX4_grown 53 = .ok (.bipush 12, 2) := by decide +kernel
theorem dX4_grown_55 : decode cX4_grown 55 = .ok (.iload_n 1, 1) := by decide +kernel
theorem dX4_grown_56 : decode cX4_grown 56 = .ok (.imul, 1) := by decide +kernel
theorem dX4_grown_57 : decode cX4_grown 57 = .ok (.iload_n 3, 1) := by decide +kernel
theorem dX4_grown_58 : decode cX4_grown 58 = .ok (.iadd, 1) := by decide +kernel
theorem dX4_grown_59 : decode cX4_grown 59 = .ok (.iaload, 1) := by decide +kernel
theorem dX4_grown_60 : decode cX4_grown 60 = .ok (.ifCond .ne 21, 3) := by decide +kernel
theorem dX4_grown_63 : decode cX4_grown 63 = .ok (.iload 4, 2) := by decide +kernel
theorem dX4_grown_65 : decode cX4_grown 65 = .ok (.aload_n 0, 1) := by decide +kernel
theorem dX4_grown_66 : decode cX4_grown 66 = .ok (.iload_n 3, 1) := by decide +kernel
theorem dX4_grown_67 : decode cX4_grown 67 = .ok (.invokevirtual 80, 3) := by decide +kernel
theorem dX4_grown_70 : decode cX4_grown 70 = .ok (.ishr, 1) := by decide +kernel
theorem dX4_grown_71 : decode cX4_grown 71 = .ok (.iconst 1, 1) := by decide +kernel
theorem dX4_grown_72 : decode cX4_grown 72 = .ok (.iand, 1) := by decide +kernel
theorem dX4_grown_73 : decode cX4_grown 73 = .ok (.iconst 1, 1) := by decide +kernel
theorem dX4_grown_74 : decode cX4_grown 74 = .ok (.if_icmp .ne 7, 3) := by decide +kernel
theorem dX4_grown_77 : decode cX4_grown 77 = .ok (.iconst 1, 1) := by decide +kernel
theorem dX4_grown_78 : decode cX4_grown 78 = .ok (.goto 4, 3) := by decide +kernel
theorem dX4_grown_81 : decode cX4_grown 81 = .ok (.iconst 0, 1) := by decide +kernel
theorem dX4_grown_82 : decode cX4_grown 82 = .ok (.istore 5, 2) := by decide +kernel
theorem dX4_grown_84 : decode cX4_grown 84 = .ok (.iload_n 2, 1) := by decide +kernel
theorem dX4_grown_85 : decode cX4_grown 85 = .ok (.iload 5, 2) := by decide +kernel
theorem dX4_grown_87 : decode cX4_grown 87 = .ok (.ifCond .eq 9, 3) := by decide +kernel
theorem dX4_grown_90 : decode cX4_grown 90 = .ok (.iconst 1, 1) := by decide +kernel
theorem dX4_grown_91 : decode cX4_grown 91 = .ok (.iload_n 3, 1) := by decide +kernel
theorem dX4_grown_92 : decode cX4_grown 92 = .ok (.ishl, 1) := by decide +kernel
theorem dX4_grown_93 : decode cX4_grown 93 = .ok (.goto 4, 3) := by decide +kernel
theorem dX4_grown_96 : decode cX4_grown 96 = .ok (.iconst 0, 1) := by decide +kernel
theorem dX4_grown_97 : decode cX4_grown 97 = .ok (.ior, 1) := by decide +kernel
theorem dX4_grown_98 : decode cX4_grown 98 = .ok (.istore_n 2, 1) := by decide +kernel
theorem dX4_grown_99 : decode cX4_grown 99 = .ok (.iinc 3 1, 3) := by decide +kernel
theorem dX4_grown_102 : decode cX4_grown 102 = .ok (.goto (-93), 3) := by decide +kernel
theorem dX4_grown_105 : decode cX4_grown 105 = .ok (.iload_n 2, 1) := by decide +kernel
theorem dX4_grown_106 : decode cX4_grown 106 = .ok (.ireturn, 1) := by decide +kernel
set_option maxRecDepth 20000 in
theorem ggX4_growOn_X4_grown : GoodIn wsX4_growOn wsX4_grown := goodIn_r _ [17, 18, 19, 20, 21, 8, 22, 23, 24, 16, 25, 26, 27, 28, 29, 30, 1, 31, 3, 32, 33, 34, 35, 36, 37, 38, 39, 40, 41, 42, 43, 44, 45, 46, 47, 48, 49, 50, 51, 52, 53, 54, 55, 56, 57, 58, 59, 60, 61, 62, 63] (by decide +kernel) (by decide +kernel)
set_option maxRecDepth 20000 in
theorem gX4_growOn_X4_grown : GoodIn wsX4_growOn (wsV RX4 83 RX4 yX4_grown wsX4_grown) := goodIn_app (goodIn_of _ (by decide +kernel)) ggX4_growOn_X4_grown
theorem dX4_growOn_0 : decode cX4_growOn 0 = .ok (.iconst 0, 1) := by decide +kernel
theorem dX4_growOn_1 : decode cX4_growOn 1 = .ok (.istore_n 1, 1) := by decide +kernel
theorem dX4_growOn_2 : decode cX4_growOn 2 = .ok (.iload_n 1, 1) := by decide +kernel
theorem dX4_growOn_3 : decode cX4_growOn 3 = .ok (.aload_n 0, 1) := by decide +kernel
theorem dX4_growOn_4 : decode cX4_growOn 4 = .ok (.getfield 13, 3) := by decide +kernel
theorem dX4_growOn_7 : decode cX4_growOn 7 = .ok (.if_icmp .ge 20, 3) := by decide +kernel
theorem dX4_growOn_10 : decode cX4_growOn 10 = .ok (.aload_n 0, 1) := by decide +kernel
theorem dX4_growOn_11 : decode cX4_growOn 11 = .ok (.getfield 41, 3) := by decide +kernel
theorem dX4_growOn_14 : decode cX4_growOn 14 = .ok (.iload_n 1, 1) := by decide +kernel
theorem dX4_growOn_15 : decode cX4_growOn 15 = .ok (.aload_n 0, 1) := by decide +kernel
theorem dX4_growOn_16 : decode cX4_growOn 16 = .ok (.iload_n 1, 1) := by decide +kernel
theorem dX4_growOn_17 : decode cX4_growOn 17 = .ok (.invokevirtual 83, 3) := by decide +kernel
theorem dX4_growOn_20 : decode cX4_growOn 20 = .ok (.iastore, 1) := by decide +kernel
theorem dX4_growOn_21 : decode cX4_growOn 21 = .ok (.iinc 1 1, 3) := by decide +kernel
theorem dX4_growOn_24 : decode cX4_growOn 24 = .ok (.goto (-22), 3) := by decide +kernel
theorem dX4_growOn_27 : decode cX4_growOn 27 = .ok (.aload_n 0, 1) := by decide +kernel
theorem dX4_growOn_28 : decode cX4_growOn 28 = .ok (.getfield 41, 3) := by decide +kernel
theorem dX4_growOn_31 : decode cX4_growOn 31 = .ok (.iconst 0, 1) := by decide +kernel
theorem dX4_growOn_32 : decode cX4_growOn 32 = .ok (.aload_n 0, 1) := by decide +kernel
theorem dX4_growOn_33 : decode cX4_growOn 33 = .ok (.getfield 29, 3) := by decide +kernel
theorem dX4_growOn_36 : decode cX4_growOn 36 = .ok (.iconst 0, 1) := by decide +kernel
theorem dX4_growOn_37 : decode cX4_growOn 37 = .ok (.aload_n 0, 1) := by decide +kernel
theorem dX4_growOn_38 : decode cX4_growOn 38 = .ok (.getfield 13, 3) := by decide +kernel
theorem dX4_growOn_41 : decode cX4_growOn 41 = .ok (.invokestatic 86, 3) := by decide +kernel
theorem dX4_growOn_44 : decode cX4_growOn 44 = .ok (.iconst 0, 1) := by decide +kernel
theorem dX4_growOn_45 : decode cX4_growOn 45 = .ok (.istore_n 1, 1) := by decide +kernel
theorem dX4_growOn_46 : decode cX4_growOn 46 = .ok (.iload_n 1, 1) := by decide +kernel
theorem dX4_growOn_47 : decode cX4_growOn 47 = .ok (.sipush 144, 3) := by decide +kernel
theorem dX4_growOn_50 : decode cX4_growOn 50 = .ok (.if_icmp .ge 27, 3) := by decide +kernel
theorem dX4_growOn_53 : decode cX4_growOn 53 = .ok (.aload_n 0, 1) := by decide +kernel
theorem dX4_growOn_54 : decode cX4_growOn 54 = .ok (.getfield 32, 3) := by decide +kernel
theorem dX4_growOn_57 : decode cX4_growOn 57 = .ok (.iload_n 1, 1) := by decide +kernel
theorem dX4_growOn_58 : decode cX4_growOn 58 = .ok (.iconst 0, 1) := by decide +kernel
theorem dX4_growOn_59 : decode cX4_growOn 59 = .ok (.aload_n 0, 1) := by decide +kernel
theorem dX4_growOn_60 : decode cX4_growOn 60 = .ok (.getfield 32, 3) := by decide +kernel
theorem dX4_growOn_63 : decode cX4_growOn 63 = .ok (.iload_n 1, 1) := by decide +kernel
theorem dX4_growOn_64 : decode cX4_growOn 64 = .ok (.iaload, 1) := by decide +kernel
theorem dX4_growOn_65 : decode cX4_growOn 65 = .ok (.iconst 1, 1) := by decide +kernel
theorem dX4_growOn_66 : decode cX4_growOn 66 = .ok (.isub, 1) := by decide +kernel
theorem dX4_growOn_67 : decode cX4_growOn 67 = .ok (.invokestatic 92, 3) := by decide +kernel
theorem dX4_growOn_70 : decode cX4_growOn 70 = .ok (.iastore, 1) := by decide +kernel
theorem dX4_growOn_71 : decode cX4_growOn 71 = .ok (.iinc 1 1, 3) := by decide +kernel
theorem dX4_growOn_74 : decode cX4_growOn 74 = .ok (.goto (-28), 3) := by decide +kernel
theorem dX4_growOn_77 : decode cX4_growOn 77 = .ok (.return_, 1) := by decide +kernel
theorem dX4_keep_0 : decode cX4_keep 0 = .ok (.aload_n 0, 1) := by decide +kernel
theorem dX4_keep_1 : decode cX4_keep 1 = .ok (.getfield 29, 3) := by decide +kernel
theorem dX4_keep_4 : decode cX4_keep 4 = .ok (.iconst 0, 1) := by decide +kernel
theorem dX4_keep_5 : decode cX4_keep 5 = .ok (.aload_n 0, 1) := by decide +kernel
theorem dX4_keep_6 : decode cX4_keep 6 = .ok (.getfield 35, 3) := by decide +kernel
theorem dX4_keep_9 : decode cX4_keep 9 = .ok (.iconst 0, 1) := by decide +kernel
theorem dX4_keep_10 : decode cX4_keep 10 = .ok (.bipush 12, 2) := by decide +kernel
theorem dX4_keep_12 : decode cX4_keep 12 = .ok (.invokestatic 86, 3) := by decide +kernel
theorem dX4_keep_15 : decode cX4_keep 15 = .ok (.aload_n 0, 1) := by decide +kernel
theorem dX4_keep_16 : decode cX4_keep 16 = .ok (.getfield 32, 3) := by decide +kernel
theorem dX4_keep_19 : decode cX4_keep 19 = .ok (.iconst 0, 1) := by decide +kernel
theorem dX4_keep_20 : decode cX4_keep 20 = .ok (.aload_n 0, 1) := by decide +kernel
theorem dX4_keep_21 : decode cX4_keep 21 = .ok (.getfield 38, 3) := by decide +kernel
theorem dX4_keep_24 : decode cX4_keep 24 = .ok (.iconst 0, 1) := by decide +kernel
theorem dX4_keep_25 : decode cX4_keep 25 = .ok (.sipush 144, 3) := by decide +kernel
theorem dX4_keep_28 : decode cX4_keep 28 = .ok (.invokestatic 86, 3) := by decide +kernel
theorem dX4_keep_31 : decode cX4_keep 31 = .ok (.return_, 1) := by decide +kernel
theorem dX4_bringBack_0 : decode cX4_bringBack 0 = .ok (.aload_n 0, 1) := by decide +kernel
theorem dX4_bringBack_1 : decode cX4_bringBack 1 = .ok (.getfield 35, 3) := by decide +kernel
theorem dX4_bringBack_4 : decode cX4_bringBack 4 = .ok (.iconst 0, 1) := by decide +kernel
theorem dX4_bringBack_5 : decode cX4_bringBack 5 = .ok (.aload_n 0, 1) := by decide +kernel
theorem dX4_bringBack_6 : decode cX4_bringBack 6 = .ok (.getfield 29, 3) := by decide +kernel
theorem dX4_bringBack_9 : decode cX4_bringBack 9 = .ok (.iconst 0, 1) := by decide +kernel
theorem dX4_bringBack_10 : decode cX4_bringBack 10 = .ok (.bipush 12, 2) := by decide +kernel
theorem dX4_bringBack_12 : decode cX4_bringBack 12 = .ok (.invokestatic 86, 3) := by decide +kernel
theorem dX4_bringBack_15 : decode cX4_bringBack 15 = .ok (.aload_n 0, 1) := by decide +kernel
theorem dX4_bringBack_16 : decode cX4_bringBack 16 = .ok (.getfield 38, 3) := by decide +kernel
theorem dX4_bringBack_19 : decode cX4_bringBack 19 = .ok (.iconst 0, 1) := by decide +kernel
theorem dX4_bringBack_20 : decode cX4_bringBack 20 = .ok (.aload_n 0, 1) := by decide +kernel
theorem dX4_bringBack_21 : decode cX4_bringBack 21 = .ok (.getfield 32, 3) := by decide +kernel
theorem dX4_bringBack_24 : decode cX4_bringBack 24 = .ok (.iconst 0, 1) := by decide +kernel
theorem dX4_bringBack_25 : decode cX4_bringBack 25 = .ok (.sipush 144, 3) := by decide +kernel
theorem dX4_bringBack_28 : decode cX4_bringBack 28 = .ok (.invokestatic 86, 3) := by decide +kernel
theorem dX4_bringBack_31 : decode cX4_bringBack 31 = .ok (.return_, 1) := by decide +kernel
set_option maxRecDepth 20000 in
theorem ggX4_all_J6_bitCount_0f7a4 : GoodIn wsX4_all wsJ6_bitCount_0f7a4 := goodIn_r _ [6, 7, 8, 9] (by decide +kernel) (by decide +kernel)
set_option maxRecDepth 20000 in
theorem gX4_all_J6_bitCount_0f7a4 : GoodIn wsX4_all (va_wsS RX4 98 yJ6_bitCount_0f7a4 wsJ6_bitCount_0f7a4) := goodIn_app (goodIn_of _ (by decide +kernel)) ggX4_all_J6_bitCount_0f7a4
theorem dX4_all_0 : decode cX4_all 0 = .ok (.iconst 0, 1) := by decide +kernel
theorem dX4_all_1 : decode cX4_all 1 = .ok (.istore_n 1, 1) := by decide +kernel
theorem dX4_all_2 : decode cX4_all 2 = .ok (.iconst 0, 1) := by decide +kernel
theorem dX4_all_3 : decode cX4_all 3 = .ok (.istore_n 2, 1) := by decide +kernel
theorem dX4_all_4 : decode cX4_all 4 = .ok (.iload_n 2, 1) := by decide +kernel
theorem dX4_all_5 : decode cX4_all 5 = .ok (.aload_n 0, 1) := by decide +kernel
theorem dX4_all_6 : decode cX4_all 6 = .ok (.getfield 13, 3) := by decide +kernel
theorem dX4_all_9 : decode cX4_all 9 = .ok (.if_icmp .ge 21, 3) := by decide +kernel
theorem dX4_all_12 : decode cX4_all 12 = .ok (.iload_n 1, 1) := by decide +kernel
theorem dX4_all_13 : decode cX4_all 13 = .ok (.aload_n 0, 1) := by decide +kernel
theorem dX4_all_14 : decode cX4_all 14 = .ok (.getfield 29, 3) := by decide +kernel
theorem dX4_all_17 : decode cX4_all 17 = .ok (.iload_n 2, 1) := by decide +kernel
theorem dX4_all_18 : decode cX4_all 18 = .ok (.iaload, 1) := by decide +kernel
theorem dX4_all_19 : decode cX4_all 19 = .ok (.invokestatic 98, 3) := by decide +kernel
theorem dX4_all_22 : decode cX4_all 22 = .ok (.iadd, 1) := by decide +kernel
theorem dX4_all_23 : decode cX4_all 23 = .ok (.istore_n 1, 1) := by decide +kernel
theorem dX4_all_24 : decode cX4_all 24 = .ok (.iinc 2 1, 3) := by decide +kernel
theorem dX4_all_27 : decode cX4_all 27 = .ok (.goto (-23), 3) := by decide +kernel
theorem dX4_all_30 : decode cX4_all 30 = .ok (.iload_n 1, 1) := by decide +kernel
theorem dX4_all_31 : decode cX4_all 31 = .ok (.ireturn, 1) := by decide +kernel
theorem dX4_manyMelted_0 : decode cX4_manyMelted 0 = .ok (.iconst 0, 1) := by decide +kernel
theorem dX4_manyMelted_1 : decode cX4_manyMelted 1 = .ok (.istore_n 1, 1) := by decide +kernel
theorem dX4_manyMelted_2 : decode cX4_manyMelted 2 = .ok (.iconst 0, 1) := by decide +kernel
theorem dX4_manyMelted_3 : decode cX4_manyMelted 3 = .ok (.istore_n 2, 1) := by decide +kernel
theorem dX4_manyMelted_4 : decode cX4_manyMelted 4 = .ok (.iload_n 2, 1) := by decide +kernel
theorem dX4_manyMelted_5 : decode cX4_manyMelted 5 = .ok (.sipush 144, 3) := by decide +kernel
theorem dX4_manyMelted_8 : decode cX4_manyMelted 8 = .ok (.if_icmp .ge 26, 3) := by decide +kernel
theorem dX4_manyMelted_11 : decode cX4_manyMelted 11 = .ok (.iload_n 1, 1) := by decide +kernel
theorem dX4_manyMelted_12 : decode cX4_manyMelted 12 = .ok (.aload_n 0, 1) := by decide +kernel
theorem dX4_manyMelted_13 : decode cX4_manyMelted 13 = .ok (.getfield 32, 3) := by decide +kernel
theorem dX4_manyMelted_16 : decode cX4_manyMelted 16 = .ok (.iload_n 2, 1) := by decide +kernel
theorem dX4_manyMelted_17 : decode cX4_manyMelted 17 = .ok (.iaload, 1) := by decide +kernel
theorem dX4_manyMelted_18 : decode cX4_manyMelted 18 = .ok (.ifCond .le 7, 3) := by decide +kernel
theorem dX4_manyMelted_21 : decode cX4_manyMelted 21 = .ok (.iconst 1, 1) := by decide +kernel
theorem dX4_manyMelted_22 : decode cX4_manyMelted 22 = .ok (.goto 4, 3) := by decide +kernel
theorem dX4_manyMelted_25 : decode cX4_manyMelted 25 = .ok (.iconst 0, 1) := by decide +kernel
theorem dX4_manyMelted_26 : decode cX4_manyMelted 26 = .ok (.iadd, 1) := by decide +kernel
theorem dX4_manyMelted_27 : decode cX4_manyMelted 27 = .ok (.istore_n 1, 1) := by decide +kernel
theorem dX4_manyMelted_28 : decode cX4_manyMelted 28 = .ok (.iinc 2 1, 3) := by decide +kernel
theorem dX4_manyMelted_31 : decode cX4_manyMelted 31 = .ok (.goto (-27), 3) := by decide +kernel
theorem dX4_manyMelted_34 : decode cX4_manyMelted 34 = .ok (.iload_n 1, 1) := by decide +kernel
theorem dX4_manyMelted_35 : decode cX4_manyMelted 35 = .ok (.ireturn, 1) := by decide +kernel
set_option maxRecDepth 20000 in
theorem ggX4_lay_X4_isIn : GoodIn wsX4_lay wsX4_isIn := goodIn_r _ [9] (by decide +kernel) (by decide +kernel)
set_option maxRecDepth 20000 in
theorem gX4_lay_X4_isIn : GoodIn wsX4_lay (va_wsS RX4 54 yX4_isIn wsX4_isIn) := goodIn_app (goodIn_of _ (by decide +kernel)) ggX4_lay_X4_isIn
set_option maxRecDepth 20000 in
theorem ggX4_lay_X4_no : GoodIn wsX4_lay wsX4_no := goodIn_r _ [13, 1, 14, 15, 16, 17, 18, 19, 20, 21, 22, 23, 24, 25, 26, 27, 28, 29] (by decide +kernel) (by decide +kernel)
set_option maxRecDepth 20000 in
theorem gX4_lay_X4_no : GoodIn wsX4_lay (wsV RX4 103 RX4 yX4_no wsX4_no) := goodIn_app (goodIn_of _ (by decide +kernel)) ggX4_lay_X4_no
theorem dX4_lay_0 : decode cX4_lay 0 = .ok (.aload_n 0, 1) := by decide +kernel
theorem dX4_lay_1 : decode cX4_lay 1 = .ok (.iconst 0, 1) := by decide +kernel
theorem dX4_lay_2 : decode cX4_lay 2 = .ok (.putfield 51, 3) := by decide +kernel
theorem dX4_lay_5 : decode cX4_lay 5 = .ok (.iload_n 1, 1) := by decide +kernel
theorem dX4_lay_6 : decode cX4_lay 6 = .ok (.iconst 3, 1) := by decide +kernel
theorem dX4_lay_7 : decode cX4_lay 7 = .ok (.bipush 12, 2) := by decide +kernel
theorem dX4_lay_9 : decode cX4_lay 9 = .ok (.invokestatic 54, 3) := by decide +kernel
theorem dX4_lay_12 : decode cX4_lay 12 = .ok (.ifCond .eq 13, 3) := by decide +kernel
theorem dX4_lay_15 : decode cX4_lay 15 = .ok (.iload_n 2, 1) := by decide +kernel
theorem dX4_lay_16 : decode cX4_lay 16 = .ok (.iconst 3, 1) := by decide +kernel
theorem dX4_lay_17 : decode cX4_lay 17 = .ok (.bipush 12, 2) := by decide +kernel
theorem dX4_lay_19 : decode cX4_lay 19 = .ok (.invokestatic 54, 3) := by decide +kernel
theorem dX4_lay_22 : decode cX4_lay 22 = .ok (.ifCond .ne 9, 3) := by decide +kernel
theorem dX4_lay_25 : decode cX4_lay 25 = .ok (.aload_n 0, 1) := by decide +kernel
theorem dX4_lay_26 : decode cX4_lay 26 = .ok (.iconst 1, 1) := by decide +kernel
theorem dX4_lay_27 : decode cX4_lay 27 = .ok (.invokevirtual 103, 3) := by decide +kernel
theorem dX4_lay_30 : decode cX4_lay 30 = .ok (.ireturn, 1) := by decide +kernel
theorem dX4_lay_31 : decode cX4_lay 31 = .ok (.aload_n 0, 1) := by decide +kernel
theorem dX4_lay_32 : decode cX4_lay 32 = .ok (.iload_n 1, 1) := by decide +kernel
theorem dX4_lay_33 : decode cX4_lay 33 = .ok (.putfield 7, 3) := by decide +kernel
theorem dX4_lay_36 : decode cX4_lay 36 = .ok (.aload_n 0, 1) := by decide +kernel
theorem dX4_lay_37 : decode cX4_lay 37 = .ok (.iload_n 2, 1) := by decide +kernel
theorem dX4_lay_38 : decode cX4_lay 38 = .ok (.putfield 13, 3) := by decide +kernel
theorem dX4_lay_41 : decode cX4_lay 41 = .ok (.iconst 0, 1) := by decide +kernel
theorem dX4_lay_42 : decode cX4_lay 42 = .ok (.istore_n 3, 1) := by decide +kernel
theorem dX4_lay_43 : decode cX4_lay 43 = .ok (.iload_n 3, 1) := by decide +kernel
theorem dX4_lay_44 : decode cX4_lay 44 = .ok (.bipush 12, 2) := by decide +kernel
theorem dX4_lay_46 : decode cX4_lay 46 = .ok (.if_icmp .ge 16, 3) := by decide +kernel
theorem dX4_lay_49 : decode cX4_lay 49 = .ok (.aload_n 0, 1) := by decide +kernel
theorem dX4_lay_50 : decode cX4_lay 50 = .ok (.getfield 29, 3) := by decide +kernel
theorem dX4_lay_53 : decode cX4_lay 53 = .ok (.iload_n 3, 1) := by decide +kernel
theorem dX4_lay_54 : decode cX4_lay 54 = .ok (.iconst 0, 1) := by decide +kernel
theorem dX4_lay_55 : decode cX4_lay 55 = .ok (.iastore, 1) := by decide +kernel
theorem dX4_lay_56 : decode cX4_lay 56 = .ok (.iinc 3 1, 3) := by decide +kernel
theorem dX4_lay_59 : decode cX4_lay 59 = .ok (.goto (-16), 3) := by decide +kernel
theorem dX4_lay_62 : decode cX4_lay 62 = .ok (.iconst 0, 1) := by decide +kernel
theorem dX4_lay_63 : decode cX4_lay 63 = .ok (.istore_n 3, 1) := by decide +kernel
theorem dX4_lay_64 : decode cX4_lay 64 = .ok (.iload_n 3, 1) := by decide +kernel
theorem dX4_lay_65 : decode cX4_lay 65 = .ok (.sipush 144, 3) := by decide +kernel
theorem dX4_lay_68 : decode cX4_lay 68 = .ok (.if_icmp .ge 16, 3) := by decide +kernel
theorem dX4_lay_71 : decode cX4_lay 71 = .ok (.aload_n 0, 1) := by decide +kernel
theorem dX4_lay_72 : decode cX4_lay 72 = .ok (.getfield 32, 3) := by decide +kernel
theorem dX4_lay_75 : decode cX4_lay 75 = .ok (.iload_n 3, 1) := by decide +kernel
theorem dX4_lay_76 : decode cX4_lay 76 = .ok (.iconst 0, 1) := by decide +kernel
theorem dX4_lay_77 : decode cX4_lay 77 = .ok (.iastore, 1) := by decide +kernel
theorem dX4_lay_78 : decode cX4_lay 78 = .ok (.iinc 3 1, 3) := by decide +kernel
theorem dX4_lay_81 : decode cX4_lay 81 = .ok (.goto (-17), 3) := by decide +kernel
theorem dX4_lay_84 : decode cX4_lay 84 = .ok (.aload_n 0, 1) := by decide +kernel
theorem dX4_lay_85 : decode cX4_lay 85 = .ok (.getfield 7, 3) := by decide +kernel
theorem dX4_lay_88 : decode cX4_lay 88 = .ok (.aload_n 0, 1) := by decide +kernel
theorem dX4_lay_89 : decode cX4_lay 89 = .ok (.getfield 13, 3) := by decide +kernel
theorem dX4_lay_92 : decode cX4_lay 92 = .ok (.imul, 1) := by decide +kernel
theorem dX4_lay_93 : decode cX4_lay 93 = .ok (.ireturn, 1) := by decide +kernel
set_option maxRecDepth 20000 in
theorem ggX4_turn_X4_isCell : GoodIn wsX4_turn wsX4_isCell := goodIn_r _ [8, 9, 10, 11, 12, 7, 13, 22, 23, 24, 25, 26, 27, 28, 29, 30, 31, 32, 33, 34, 35, 36, 37] (by decide +kernel) (by decide +kernel)
set_option maxRecDepth 20000 in
theorem gX4_turn_X4_isCell : GoodIn wsX4_turn (wsV RX4 106 RX4 yX4_isCell wsX4_isCell) := goodIn_app (goodIn_of _ (by decide +kernel)) ggX4_turn_X4_isCell
set_option maxRecDepth 20000 in
theorem ggX4_turn_X4_isNot : GoodIn wsX4_turn wsX4_isNot := goodIn_r _ [17, 1, 22, 23, 24, 25, 26, 27, 28, 29, 30, 31, 32, 33, 34, 35, 36, 37] (by decide +kernel) (by decide +kernel)
set_option maxRecDepth 20000 in
theorem gX4_turn_X4_isNot : GoodIn wsX4_turn (wsV RX4 109 RX4 yX4_isNot wsX4_isNot) := goodIn_app (goodIn_of _ (by decide +kernel)) ggX4_turn_X4_isNot
set_option maxRecDepth 20000 in
theorem ggX4_turn_X4_is : GoodIn wsX4_turn wsX4_is := goodIn_r _ [21, 3, 22, 23, 24, 25, 26, 27, 28, 29, 30, 31, 32, 33, 34, 35, 36, 37] (by decide +kernel) (by decide +kernel)
set_option maxRecDepth 20000 in
theorem gX4_turn_X4_is : GoodIn wsX4_turn (wsV RX4 73 RX4 yX4_is wsX4_is) := goodIn_app (goodIn_of _ (by decide +kernel)) ggX4_turn_X4_is
theorem dX4_turn_0 : decode cX4_turn 0 = .ok (.aload_n 0, 1) := by decide +kernel
theorem dX4_turn_1 : decode cX4_turn 1 = .ok (.iconst 0, 1) := by decide +kernel
theorem dX4_turn_2 : decode cX4_turn 2 = .ok (.putfield 51, 3) := by decide +kernel
theorem dX4_turn_5 : decode cX4_turn 5 = .ok (.aload_n 0, 1) := by decide +kernel
theorem dX4_turn_6 : decode cX4_turn 6 = .ok (.iload_n 1, 1) := by decide +kernel
theorem dX4_turn_7 : decode cX4_turn 7 = .ok (.iload_n 2, 1) := by decide +kernel
theorem dX4_turn_8 : decode cX4_turn 8 = .ok (.invokevirtual 106, 3) := by decide +kernel
theorem dX4_turn_11 : decode cX4_turn 11 = .ok (.ifCond .ne 9, 3) := by decide +kernel
theorem dX4_turn_14 : decode cX4_turn 14 = .ok (.aload_n 0, 1) := by decide +kernel
theorem dX4_turn_15 : decode cX4_turn 15 = .ok (.iconst 1, 1) := by decide +kernel
theorem dX4_turn_16 : decode cX4_turn 16 = .ok (.invokevirtual 109, 3) := by decide +kernel
theorem dX4_turn_19 : decode cX4_turn 19 = .ok (.ireturn, 1) := by decide +kernel
theorem dX4_turn_20 : decode cX4_turn 20 = .ok (.aload_n 0, 1) := by decide +kernel
theorem dX4_turn_21 : decode cX4_turn 21 = .ok (.getfield 32, 3) := by decide +kernel
theorem dX4_turn_24 : decode cX4_turn 24 = .ok (.bipush 12, 2) := by decide +kernel
theorem dX4_turn_26 : decode cX4_turn 26 = .ok (.iload_n 2, 1) := by decide +kernel
theorem dX4_turn_27 : decode cX4_turn 27 = .ok (.imul, 1) := by decide +kernel
theorem dX4_turn_28 : decode cX4_turn 28 = .ok (.iload_n 1, 1) := by decide +kernel
theorem dX4_turn_29 : decode cX4_turn 29 = .ok (.iadd, 1) := by decide +kernel
theorem dX4_turn_30 : decode cX4_turn 30 = .ok (.iaload, 1) := by decide +kernel
theorem dX4_turn_31 : decode cX4_turn 31 = .ok (.ifCond .le 9, 3) := by decide +kernel
theorem dX4_turn_34 : decode cX4_turn 34 = .ok (.aload_n 0, 1) := by decide +kernel
theorem dX4_turn_35 : decode cX4_turn 35 = .ok (.iconst 2, 1) := by decide +kernel
theorem dX4_turn_36 : decode cX4_turn 36 = .ok (.invokevirtual 109, 3) := by decide +kernel
theorem dX4_turn_39 : decode cX4_turn 39 = .ok (.ireturn, 1) := by decide +kernel
theorem dX4_turn_40 : decode cX4_turn 40 = .ok (.aload_n 0, 1) := by decide +kernel
theorem dX4_turn_41 : decode cX4_turn 41 = .ok (.getfield 29, 3) := by decide +kernel
theorem dX4_turn_44 : decode cX4_turn 44 = .ok (.iload_n 2, 1) := by decide +kernel
theorem dX4_turn_45 : decode cX4_turn 45 = .ok (.dup2, 1) := by decide +kernel
theorem dX4_turn_46 : decode cX4_turn 46 = .ok (.iaload, 1) := by decide +kernel
theorem dX4_turn_47 : decode cX4_turn 47 = .ok (.iconst 1, 1) := by decide +kernel
theorem dX4_turn_48 : decode cX4_turn 48 = .ok (.iload_n 1, 1) := by decide +kernel
theorem dX4_turn_49 : decode cX4_turn 49 = .ok (.ishl, 1) := by decide +kernel
theorem dX4_turn_50 : decode cX4_turn 50 = .ok (.ixor, 1) := by decide +kernel
theorem dX4_turn_51 : decode cX4_turn 51 = .ok (.iastore, 1) := by decide +kernel
theorem dX4_turn_52 : decode cX4_turn 52 = .ok (.aload_n 0, 1) := by decide +kernel
theorem dX4_turn_53 : decode cX4_turn 53 = .ok (.iload_n 1, 1) := by decide +kernel
theorem dX4_turn_54 : decode cX4_turn 54 = .ok (.iload_n 2, 1) := by decide +kernel
theorem dX4_turn_55 : decode cX4_turn 55 = .ok (.invokevirtual 73, 3) := by decide +kernel
theorem dX4_turn_58 : decode cX4_turn 58 = .ok (.ireturn, 1) := by decide +kernel
set_option maxRecDepth 20000 in
theorem ggX4_melt_X4_isCell : GoodIn wsX4_melt wsX4_isCell := goodIn_r _ [7, 8, 9, 10, 11, 6, 12, 17, 18, 19, 20, 21, 22, 23, 24, 25, 26, 27, 28, 29, 30, 31, 32] (by decide +kernel) (by decide +kernel)
set_option maxRecDepth 20000 in
theorem gX4_melt_X4_isCell : GoodIn wsX4_melt (wsV RX4 106 RX4 yX4_isCell wsX4_isCell) := goodIn_app (goodIn_of _ (by decide +kernel)) ggX4_melt_X4_isCell
set_option maxRecDepth 20000 in
theorem ggX4_melt_X4_is : GoodIn wsX4_melt wsX4_is := goodIn_r _ [16, 1, 17, 18, 19, 20, 21, 22, 23, 24, 25, 26, 27, 28, 29, 30, 31, 32] (by decide +kernel) (by decide +kernel)
set_option maxRecDepth 20000 in
theorem gX4_melt_X4_is : GoodIn wsX4_melt (wsV RX4 73 RX4 yX4_is wsX4_is) := goodIn_app (goodIn_of _ (by decide +kernel)) ggX4_melt_X4_is
theorem dX4_melt_0 : decode cX4_melt 0 = .ok (.aload_n 0, 1) := by decide +kernel
theorem dX4_melt_1 : decode cX4_melt 1 = .ok (.iload_n 1, 1) := by decide +kernel
theorem dX4_melt_2 : decode cX4_melt 2 = .ok (.iload_n 2, 1) := by decide +kernel
theorem dX4_melt_3 : decode cX4_melt 3 = .ok (.invokevirtual 106, 3) := by decide +kernel
theorem dX4_melt_6 : decode cX4_melt 6 = .ok (.ifCond .ne 5, 3) := by decide +kernel
theorem dX4_melt_9 : decode cX4_melt 9 = .ok (.iconst 0, 1) := by decide +kernel
theorem dX4_melt_10 : decode cX4_melt 10 = .ok (.ireturn, 1) := by decide +kernel
theorem dX4_melt_11 : decode cX4_melt 11 = .ok (.aload_n 0, 1) := by decide +kernel
theorem dX4_melt_12 : decode cX4_melt 12 = .ok (.iload_n 1, 1) := by decide +kernel
theorem dX4_melt_13 : decode cX4_melt 13 = .ok (.iload_n 2, 1) := by decide +kernel
theorem dX4_melt_14 : decode cX4_melt 14 = .ok (.invokevirtual 73, 3) := by decide +kernel
theorem dX4_melt_17 : decode cX4_melt 17 = .ok (.ifCond .eq 7, 3) := by decide +kernel
theorem dX4_melt_20 : decode cX4_melt 20 = .ok (.iconst 1, 1) := by decide +kernel
theorem dX4_melt_21 : decode cX4_melt 21 = .ok (.goto 4, 3) := by decide +kernel
theorem dX4_melt_24 : decode cX4_melt 24 = .ok (.iconst 0, 1) := by decide +kernel
theorem dX4_melt_25 : decode cX4_melt 25 = .ok (.istore 4, 2) := by decide +kernel
theorem dX4_melt_27 : decode cX4_melt 27 = .ok (.aload_n 0, 1) := by decide +kernel
theorem dX4_melt_28 : decode cX4_melt 28 = .ok (.getfield 29, 3) := by decide +kernel
theorem dX4_melt_31 : decode cX4_melt 31 = .ok (.iload_n 2, 1) := by decide +kernel
theorem dX4_melt_32 : decode cX4_melt 32 = .ok (.dup2, 1) := by decide +kernel
theorem dX4_melt_33 : decode cX4_melt 33 = .ok (.iaload, 1) := by decide +kernel
theorem dX4_melt_34 : decode cX4_melt 34 = .ok (.iconst 1, 1) := by decide +kernel
theorem dX4_melt_35 : decode cX4_melt 35 = .ok (.iload_n 1, 1) := by decide +kernel
theorem dX4_melt_36 : decode cX4_melt 36 = .ok (.ishl, 1) := by decide +kernel
theorem dX4_melt_37 : decode cX4_melt 37 = .ok (.iconst (-1), 1) := by decide +kernel
theorem dX4_melt_38 : decode cX4_melt 38 = .ok (.ixor, 1) := by decide +kernel
theorem dX4_melt_39 : decode cX4_melt 39 = .ok (.iand, 1) := by decide +kernel
theorem dX4_melt_40 : decode cX4_melt 40 = .ok (.iastore, 1) := by decide +kernel
theorem dX4_melt_41 : decode cX4_melt 41 = .ok (.aload_n 0, 1) := by decide +kernel
theorem dX4_melt_42 : decode cX4_melt 42 = .ok (.getfield 32, 3) := by decide +kernel
theorem dX4_melt_45 : decode cX4_melt 45 = .ok (.bipush 12, 2) := by decide +kernel
theorem dX4_melt_47 : decode cX4_melt 47 = .ok (.iload_n 2, 1) := by decide +kernel
theorem dX4_melt_48 : decode cX4_melt 48 = .ok (.imul, 1) := by decide +kernel
theorem dX4_melt_49 : decode cX4_melt 49 = .ok (.iload_n 1, 1) := by decide +kernel
theorem dX4_melt_50 : decode cX4_melt 50 = .ok (.iadd, 1) := by decide +kernel
theorem dX4_melt_51 : decode cX4_melt 51 = .ok (.iload_n 3, 1) := by decide +kernel
theorem dX4_melt_52 : decode cX4_melt 52 = .ok (.iastore, 1) := by decide +kernel
theorem dX4_melt_53 : decode cX4_melt 53 = .ok (.iload 4, 2) := by decide +kernel
theorem dX4_melt_55 : decode cX4_melt 55 = .ok (.ireturn, 1) := by decide +kernel
set_option maxRecDepth 20000 in
theorem ggX4_press_X4_isCell : GoodIn wsX4_press wsX4_isCell := goodIn_r _ [6, 7, 8, 9, 10, 5, 11, 26, 27, 28, 29, 30, 31, 32, 33, 34, 35, 36, 37, 38, 39, 40, 41] (by decide +kernel) (by decide +kernel)
set_option maxRecDepth 20000 in
theorem gX4_press_X4_isCell : GoodIn wsX4_press (wsV RX4 106 RX4 yX4_isCell wsX4_isCell) := goodIn_app (goodIn_of _ (by decide +kernel)) ggX4_press_X4_isCell
set_option maxRecDepth 20000 in
theorem ggX4_press_X4_no : GoodIn wsX4_press wsX4_no := goodIn_r _ [15, 1, 26, 27, 28, 29, 30, 31, 32, 33, 34, 35, 36, 37, 38, 39, 40, 41] (by decide +kernel) (by decide +kernel)
set_option maxRecDepth 20000 in
theorem gX4_press_X4_no : GoodIn wsX4_press (wsV RX4 103 RX4 yX4_no wsX4_no) := goodIn_app (goodIn_of _ (by decide +kernel)) ggX4_press_X4_no
set_option maxRecDepth 20000 in
theorem ggX4_press_X4_isIn : GoodIn wsX4_press wsX4_isIn := goodIn_r _ [11] (by decide +kernel) (by decide +kernel)
set_option maxRecDepth 20000 in
theorem gX4_press_X4_isIn : GoodIn wsX4_press (va_wsS RX4 54 yX4_isIn wsX4_isIn) := goodIn_app (goodIn_of _ (by decide +kernel)) ggX4_press_X4_isIn
set_option maxRecDepth 20000 in
theorem ggX4_press_X4_melt : GoodIn wsX4_press wsX4_melt := goodIn_r _ [19, 20, 21, 2, 3, 4, 5, 6, 7, 8, 9, 10, 11, 22, 23, 24, 25, 26, 27, 28, 29, 30, 31, 32, 33, 34, 35, 36, 37, 38, 39, 40, 41] (by decide +kernel) (by decide +kernel)
set_option maxRecDepth 20000 in
theorem gX4_press_X4_melt : GoodIn wsX4_press (wsV RX4 113 RX4 yX4_melt wsX4_melt) := goodIn_app (goodIn_of _ (by decide +kernel)) ggX4_press_X4_melt
theorem dX4_press_0 : decode cX4_press 0 = .ok (.aload_n 0, 1) := by decide +kernel
theorem dX4_press_1 : decode cX4_press 1 = .ok (.iconst 0, 1) := by decide +kernel
theorem dX4_press_2 : decode cX4_press 2 = .ok (.putfield 51, 3) := by decide +kernel
theorem dX4_press_5 : decode cX4_press 5 = .ok (.aload_n 0, 1) := by decide +kernel
theorem dX4_press_6 : decode cX4_press 6 = .ok (.iload_n 1, 1) := by decide +kernel
theorem dX4_press_7 : decode cX4_press 7 = .ok (.iload_n 2, 1) := by decide +kernel
theorem dX4_press_8 : decode cX4_press 8 = .ok (.invokevirtual 106, 3) := by decide +kernel
theorem dX4_press_11 : decode cX4_press 11 = .ok (.ifCond .ne 9, 3) := by decide +kernel
theorem dX4_press_14 : decode cX4_press 14 = .ok (.aload_n 0, 1) := by decide +kernel
theorem dX4_press_15 : decode cX4_press 15 = .ok (.iconst 1, 1) := by decide +kernel
theorem dX4_press_16 : decode cX4_press 16 = .ok (.invokevirtual 103, 3) := by decide +kernel
theorem dX4_press_19 : decode cX4_press 19 = .ok (.ireturn, 1) := by decide +kernel
theorem dX4_press_20 : decode cX4_press 20 = .ok (.iload_n 3, 1) := by decide +kernel
theorem dX4_press_21 : decode cX4_press 21 = .ok (.iconst 1, 1) := by decide +kernel
theorem dX4_press_22 : decode cX4_press 22 = .ok (.bipush 9, 2) := by decide +kernel
theorem dX4_press_24 : decode cX4_press 24 = .ok (.invokestatic 54, 3) := by decide +kernel
theorem dX4_press_27 : decode cX4_press 27 = .ok (.ifCond .ne 9, 3) := by decide +kernel
theorem dX4_press_30 : decode cX4_press 30 = .ok (.aload_n 0, 1) := by decide +kernel
theorem dX4_press_31 : decode cX4_press 31 = .ok (.iconst 2, 1) := by decide +kernel
theorem dX4_press_32 : decode cX4_press 32 = .ok (.invokevirtual 103, 3) := by decide +kernel
theorem dX4_press_35 : decode cX4_press 35 = .ok (.ireturn, 1) := by decide +kernel
theorem dX4_press_36 : decode cX4_press 36 = .ok (.aload_n 0, 1) := by decide +kernel
theorem dX4_press_37 : decode cX4_press 37 = .ok (.iload_n 1, 1) := by decide +kernel
theorem dX4_press_38 : decode cX4_press 38 = .ok (.iload_n 2, 1) := by decide +kernel
theorem dX4_press_39 : decode cX4_press 39 = .ok (.iload_n 3, 1) := by decide +kernel
theorem dX4_press_40 : decode cX4_press 40 = .ok (.invokevirtual 113, 3) := by decide +kernel
theorem dX4_press_43 : decode cX4_press 43 = .ok (.aload_n 0, 1) := by decide +kernel
theorem dX4_press_44 : decode cX4_press 44 = .ok (.iload_n 1, 1) := by decide +kernel
theorem dX4_press_45 : decode cX4_press 45 = .ok (.iconst 1, 1) := by decide +kernel
theorem dX4_press_46 : decode cX4_press 46 = .ok (.isub, 1) := by decide +kernel
theorem dX4_press_47 : decode cX4_press 47 = .ok (.iload_n 2, 1) := by decide +kernel
theorem dX4_press_48 : decode cX4_press 48 = .ok (.iload_n 3, 1) := by decide +kernel
theorem dX4_press_49 : decode cX4_press 49 = .ok (.invokevirtual 113, 3) := by decide +kernel
theorem dX4_press_52 : decode cX4_press 52 = .ok (.iadd, 1) := by decide +kernel
theorem dX4_press_53 : decode cX4_press 53 = .ok (.aload_n 0, 1) := by decide +kernel
theorem dX4_press_54 : decode cX4_press 54 = .ok (.iload_n 1, 1) := by decide +kernel
theorem dX4_press_55 : decode cX4_press 55 = .ok (.iconst 1, 1) := by decide +kernel
theorem dX4_press_56 : decode cX4_press 56 = .ok (.iadd, 1) := by decide +kernel
theorem dX4_press_57 : decode cX4_press 57 = .ok (.iload_n 2, 1) := by decide +kernel
theorem dX4_press_58 : decode cX4_press 58 = .ok (.iload_n 3, 1) := by decide +kernel
theorem dX4_press_59 : decode cX4_press 59 = .ok (.invokevirtual 113, 3) := by decide +kernel
theorem dX4_press_62 : decode cX4_press 62 = .ok (.iadd, 1) := by decide +kernel
theorem dX4_press_63 : decode cX4_press 63 = .ok (.aload_n 0, 1) := by decide +kernel
theorem dX4_press_64 : decode cX4_press 64 = .ok (.iload_n 1, 1) := by decide +kernel
theorem dX4_press_65 : decode cX4_press 65 = .ok (.iload_n 2, 1) := by decide +kernel
theorem dX4_press_66 : decode cX4_press 66 = .ok (.iconst 1, 1) := by decide +kernel
theorem dX4_press_67 : decode cX4_press 67 = .ok (.isub, 1) := by decide +kernel
theorem dX4_press_68 : decode cX4_press 68 = .ok (.iload_n 3, 1) := by decide +kernel
theorem dX4_press_69 : decode cX4_press 69 = .ok (.invokevirtual 113, 3) := by decide +kernel
theorem dX4_press_72 : decode cX4_press 72 = .ok (.iadd, 1) := by decide +kernel
theorem dX4_press_73 : decode cX4_press 73 = .ok (.aload_n 0, 1) := by decide +kernel
theorem dX4_press_74 : decode cX4_press 74 = .ok (.iload_n 1, 1) := by decide +kernel
theorem dX4_press_75 : decode cX4_press 75 = .ok (.iload_n 2, 1) := by decide +kernel
theorem dX4_press_76 : decode cX4_press 76 = .ok (.iconst 1, 1) := by decide +kernel
theorem dX4_press_77 : decode cX4_press 77 = .ok (.iadd, 1) := by decide +kernel
theorem dX4_press_78 : decode cX4_press 78 = .ok (.iload_n 3, 1) := by decide +kernel
theorem dX4_press_79 : decode cX4_press 79 = .ok (.invokevirtual 113, 3) := by decide +kernel
theorem dX4_press_82 : decode cX4_press 82 = .ok (.iadd, 1) := by decide +kernel
theorem dX4_press_83 : decode cX4_press 83 = .ok (.ireturn, 1) := by decide +kernel
set_option maxRecDepth 20000 in
theorem ggX4_setFrame_X4_isIn : GoodIn wsX4_setFrame wsX4_isIn := goodIn_r _ [6] (by decide +kernel) (by decide +kernel)
set_option maxRecDepth 20000 in
theorem gX4_setFrame_X4_isIn : GoodIn wsX4_setFrame (va_wsS RX4 54 yX4_isIn wsX4_isIn) := goodIn_app (goodIn_of _ (by decide +kernel)) ggX4_setFrame_X4_isIn
set_option maxRecDepth 20000 in
theorem ggX4_setFrame_X4_no : GoodIn wsX4_setFrame wsX4_no := goodIn_r _ [10, 1, 11, 12, 13, 14, 15, 16, 17, 18, 19, 20, 21, 22, 23, 24, 25, 26] (by decide +kernel) (by decide +kernel)
set_option maxRecDepth 20000 in
theorem gX4_setFrame_X4_no : GoodIn wsX4_setFrame (wsV RX4 103 RX4 yX4_no wsX4_no) := goodIn_app (goodIn_of _ (by decide +kernel)) ggX4_setFrame_X4_no
theorem dX4_setFrame_0 : decode cX4_setFrame 0 = .ok (.aload_n 0, 1) := by decide +kernel
theorem dX4_setFrame_1 : decode cX4_setFrame 1 = .ok (.iconst 0, 1) := by decide +kernel
theorem dX4_setFrame_2 : decode cX4_setFrame 2 = .ok (.putfield 51, 3) := by decide +kernel
theorem dX4_setFrame_5 : decode cX4_setFrame 5 = .ok (.iload_n 1, 1) := by decide +kernel
theorem dX4_setFrame_6 : decode cX4_setFrame 6 = .ok (.iconst 0, 1) := by decide +kernel
theorem dX4_setFrame_7 : decode cX4_setFrame 7 = .ok (.iconst 2, 1) := by decide +kernel
theorem dX4_setFrame_8 : decode cX4_setFrame 8 = .ok (.invokestatic 54, 3) := by decide +kernel
theorem dX4_setFrame_11 : decode cX4_setFrame 11 = .ok (.ifCond .ne 9, 3) := by decide +kernel
theorem dX4_setFrame_14 : decode cX4_setFrame 14 = .ok (.aload_n 0, 1) := by decide +kernel
theorem dX4_setFrame_15 : decode cX4_setFrame 15 = .ok (.iconst 1, 1) := by decide +kernel
theorem dX4_setFrame_16 : decode cX4_setFrame 16 = .ok (.invokevirtual 103, 3) := by decide +kernel
theorem dX4_setFrame_19 : decode cX4_setFrame 19 = .ok (.ireturn, 1) := by decide +kernel
theorem dX4_setFrame_20 : decode cX4_setFrame 20 = .ok (.aload_n 0, 1) := by decide +kernel
theorem dX4_setFrame_21 : decode cX4_setFrame 21 = .ok (.getfield 16, 3) := by decide +kernel
theorem dX4_setFrame_24 : decode cX4_setFrame 24 = .ok (.istore_n 2, 1) := by decide +kernel
theorem dX4_setFrame_25 : decode cX4_setFrame 25 = .ok (.aload_n 0, 1) := by decide +kernel
theorem dX4_setFrame_26 : decode cX4_setFrame 26 = .ok (.iload_n 1, 1) := by decide +kernel
theorem dX4_setFrame_27 : decode cX4_setFrame 27 = .ok (.putfield 16, 3) := by decide +kernel
theorem dX4_setFrame_30 : decode cX4_setFrame 30 = .ok (.iload_n 2, 1) := by decide +kernel
theorem dX4_setFrame_31 : decode cX4_setFrame 31 = .ok (.ireturn, 1) := by decide +kernel
set_option maxRecDepth 20000 in
theorem ggX4_addRule_X4_isIn : GoodIn wsX4_addRule wsX4_isIn := goodIn_r _ [8] (by decide +kernel) (by decide +kernel)
set_option maxRecDepth 20000 in
theorem gX4_addRule_X4_isIn : GoodIn wsX4_addRule (va_wsS RX4 54 yX4_isIn wsX4_isIn) := goodIn_app (goodIn_of _ (by decide +kernel)) ggX4_addRule_X4_isIn
set_option maxRecDepth 20000 in
theorem ggX4_addRule_X4_no : GoodIn wsX4_addRule wsX4_no := goodIn_r _ [12, 1, 13, 14, 15, 16, 17, 18, 19, 20, 21, 22, 23, 24, 25, 26, 27, 28] (by decide +kernel) (by decide +kernel)
set_option maxRecDepth 20000 in
theorem gX4_addRule_X4_no : GoodIn wsX4_addRule (wsV RX4 103 RX4 yX4_no wsX4_no) := goodIn_app (goodIn_of _ (by decide +kernel)) ggX4_addRule_X4_no
theorem dX4_addRule_0 : decode cX4_addRule 0 = .ok (.aload_n 0, 1) := by decide +kernel
theorem dX4_addRule_1 : decode cX4_addRule 1 = .ok (.iconst 0, 1) := by decide +kernel
theorem dX4_addRule_2 : decode cX4_addRule 2 = .ok (.putfield 51, 3) := by decide +kernel
theorem dX4_addRule_5 : decode cX4_addRule 5 = .ok (.iload_n 1, 1) := by decide +kernel
theorem dX4_addRule_6 : decode cX4_addRule 6 = .ok (.iconst 0, 1) := by decide +kernel
theorem dX4_addRule_7 : decode cX4_addRule 7 = .ok (.sipush 511, 3) := by decide +kernel
theorem dX4_addRule_10 : decode cX4_addRule 10 = .ok (.invokestatic 54, 3) := by decide +kernel
theorem dX4_addRule_13 : decode cX4_addRule 13 = .ok (.ifCond .eq 14, 3) := by decide +kernel
theorem dX4_addRule_16 : decode cX4_addRule 16 = .ok (.iload_n 2, 1) := by decide +kernel
theorem dX4_addRule_17 : decode cX4_addRule 17 = .ok (.iconst 0, 1) := by decide +kernel
theorem dX4_addRule_18 : decode cX4_addRule 18 = .ok (.sipush 511, 3) := by decide +kernel
theorem dX4_addRule_21 : decode cX4_addRule 21 = .ok (.invokestatic 54, 3) := by decide +kernel
theorem dX4_addRule_24 : decode cX4_addRule 24 = .ok (.ifCond .ne 9, 3) := by decide +kernel
theorem dX4_addRule_27 : decode cX4_addRule 27 = .ok (.aload_n 0, 1) := by decide +kernel
theorem dX4_addRule_28 : decode cX4_addRule 28 = .ok (.iconst 1, 1) := by decide +kernel
theorem dX4_addRule_29 : decode cX4_addRule 29 = .ok (.invokevirtual 103, 3) := by decide +kernel
theorem dX4_addRule_32 : decode cX4_addRule 32 = .ok (.ireturn, 1) := by decide +kernel
theorem dX4_addRule_33 : decode cX4_addRule 33 = .ok (.aload_n 0, 1) := by decide +kernel
theorem dX4_addRule_34 : decode cX4_addRule 34 = .ok (.getfield 19, 3) := by decide +kernel
theorem dX4_addRule_37 : decode cX4_addRule 37 = .ok (.bipush 6, 2) := by decide +kernel
theorem dX4_addRule_39 : decode cX4_addRule 39 = .ok (.if_icmp .ne 9, 3) := by decide +kernel
theorem dX4_addRule_42 : decode cX4_addRule 42 = .ok (.aload_n 0, 1) := by decide +kernel
theorem dX4_addRule_43 : decode cX4_addRule 43 = .ok (.iconst 2, 1) := by decide +kernel
theorem dX4_addRule_44 : decode cX4_addRule 44 = .ok (.invokevirtual 103, 3) := by decide +kernel
theorem dX4_addRule_47 : decode cX4_addRule 47 = .ok (.ireturn, 1) := by decide +kernel
theorem dX4_addRule_48 : decode cX4_addRule 48 = .ok (.aload_n 0, 1) := by decide +kernel
theorem dX4_addRule_49 : decode cX4_addRule 49 = .ok (.getfield 22, 3) := by decide +kernel
theorem dX4_addRule_52 : decode cX4_addRule 52 = .ok (.aload_n 0, 1) := by decide +kernel
theorem dX4_addRule_53 : decode cX4_addRule 53 = .ok (.getfield 19, 3) := by decide +kernel
theorem dX4_addRule_56 : decode cX4_addRule 56 = .ok (.iload_n 1, 1) := by decide +kernel
theorem dX4_addRule_57 : decode cX4_addRule 57 = .ok (.iastore, 1) := by decide +kernel
theorem dX4_addRule_58 : decode cX4_addRule 58 = .ok (.aload_n 0, 1) := by decide +kernel
theorem dX4_addRule_59 : decode cX4_addRule 59 = .ok (.getfield 26, 3) := by decide +kernel
theorem dX4_addRule_62 : decode cX4_addRule 62 = .ok (.aload_n 0, 1) := by decide +kernel
theorem dX4_addRule_63 : decode cX4_addRule 63 = .ok (.getfield 19, 3) := by decide +kernel
theorem dX4_addRule_66 : decode cX4_addRule 66 = .ok (.iload_n 2, 1) := by decide +kernel
theorem dX4_addRule_67 : decode cX4_addRule 67 = .ok (.iastore, 1) := by decide +kernel
theorem dX4_addRule_68 : decode cX4_addRule 68 = .ok (.aload_n 0, 1) := by decide +kernel
theorem dX4_addRule_69 : decode cX4_addRule 69 = .ok (.dup, 1) := by decide +kernel
theorem dX4_addRule_70 : decode cX4_addRule 70 = .ok (.getfield 19, 3) := by decide +kernel
theorem dX4_addRule_73 : decode cX4_addRule 73 = .ok (.iconst 1, 1) := by decide +kernel
theorem dX4_addRule_74 : decode cX4_addRule 74 = .ok (.iadd, 1) := by decide +kernel
theorem dX4_addRule_75 : decode cX4_addRule 75 = .ok (.putfield 19, 3) := by decide +kernel
theorem dX4_addRule_78 : decode cX4_addRule 78 = .ok (.aload_n 0, 1) := by decide +kernel
theorem dX4_addRule_79 : decode cX4_addRule 79 = .ok (.getfield 19, 3) := by decide +kernel
theorem dX4_addRule_82 : decode cX4_addRule 82 = .ok (.iconst 1, 1) := by decide +kernel
theorem dX4_addRule_83 : decode cX4_addRule 83 = .ok (.isub, 1) := by decide +kernel
theorem dX4_addRule_84 : decode cX4_addRule 84 = .ok (.ireturn, 1) := by decide +kernel
set_option maxRecDepth 20000 in
theorem ggX4_breathe_X4_isIn : GoodIn wsX4_breathe wsX4_isIn := goodIn_r _ [7] (by decide +kernel) (by decide +kernel)
set_option maxRecDepth 20000 in
theorem gX4_breathe_X4_isIn : GoodIn wsX4_breathe (va_wsS RX4 54 yX4_isIn wsX4_isIn) := goodIn_app (goodIn_of _ (by decide +kernel)) ggX4_breathe_X4_isIn
set_option maxRecDepth 20000 in
theorem ggX4_breathe_X4_no : GoodIn wsX4_breathe wsX4_no := goodIn_r _ [11, 1, 12, 13, 14, 15, 16, 17, 18, 19, 20, 21, 22, 23, 24, 25, 26, 27] (by decide +kernel) (by decide +kernel)
set_option maxRecDepth 20000 in
theorem gX4_breathe_X4_no : GoodIn wsX4_breathe (wsV RX4 103 RX4 yX4_no wsX4_no) := goodIn_app (goodIn_of _ (by decide +kernel)) ggX4_breathe_X4_no
theorem dX4_breathe_0 : decode cX4_breathe 0 = .ok (.aload_n 0, 1) := by decide +kernel
theorem dX4_breathe_1 : decode cX4_breathe 1 = .ok (.iconst 0, 1) := by decide +kernel
theorem dX4_breathe_2 : decode cX4_breathe 2 = .ok (.putfield 51, 3) := by decide +kernel
theorem dX4_breathe_5 : decode cX4_breathe 5 = .ok (.iload_n 1, 1) := by decide +kernel
theorem dX4_breathe_6 : decode cX4_breathe 6 = .ok (.iconst 0, 1) := by decide +kernel
theorem dX4_breathe_7 : decode cX4_breathe 7 = .ok (.aload_n 0, 1) := by decide +kernel
theorem dX4_breathe_8 : decode cX4_breathe 8 = .ok (.getfield 19, 3) := by decide +kernel
theorem dX4_breathe_11 : decode cX4_breathe 11 = .ok (.iconst 1, 1) := by decide +kernel
theorem dX4_breathe_12 : decode cX4_breathe 12 = .ok (.isub, 1) := by decide +kernel
theorem dX4_breathe_13 : decode cX4_breathe 13 = .ok (.invokestatic 54, 3) := by decide +kernel
theorem dX4_breathe_16 : decode cX4_breathe 16 = .ok (.ifCond .ne 9, 3) := by decide +kernel
theorem dX4_breathe_19 : decode cX4_breathe 19 = .ok (.aload_n 0, 1) := by decide +kernel
theorem dX4_breathe_20 : decode cX4_breathe 20 = .ok (.iconst 1, 1) := by decide +kernel
theorem dX4_breathe_21 : decode cX4_breathe 21 = .ok (.invokevirtual 103, 3) := by decide +kernel
theorem dX4_breathe_24 : decode cX4_breathe 24 = .ok (.ireturn, 1) := by decide +kernel
theorem dX4_breathe_25 : decode cX4_breathe 25 = .ok (.aload_n 0, 1) := by decide +kernel
theorem dX4_breathe_26 : decode cX4_breathe 26 = .ok (.getfield 77, 3) := by decide +kernel
theorem dX4_breathe_29 : decode cX4_breathe 29 = .ok (.istore_n 2, 1) := by decide +kernel
theorem dX4_breathe_30 : decode cX4_breathe 30 = .ok (.aload_n 0, 1) := by decide +kernel
theorem dX4_breathe_31 : decode cX4_breathe 31 = .ok (.iload_n 1, 1) := by decide +kernel
theorem dX4_breathe_32 : decode cX4_breathe 32 = .ok (.putfield 77, 3) := by decide +kernel
theorem dX4_breathe_35 : decode cX4_breathe 35 = .ok (.iload_n 2, 1) := by decide +kernel
theorem dX4_breathe_36 : decode cX4_breathe 36 = .ok (.ireturn, 1) := by decide +kernel
set_option maxRecDepth 20000 in
theorem ggX4_grow_X4_isIn : GoodIn wsX4_grow wsX4_isIn := goodIn_r _ [6] (by decide +kernel) (by decide +kernel)
set_option maxRecDepth 20000 in
theorem gX4_grow_X4_isIn : GoodIn wsX4_grow (va_wsS RX4 54 yX4_isIn wsX4_isIn) := goodIn_app (goodIn_of _ (by decide +kernel)) ggX4_grow_X4_isIn
set_option maxRecDepth 20000 in
theorem ggX4_grow_X4_no : GoodIn wsX4_grow wsX4_no := goodIn_r _ [10, 1, 72, 73, 74, 75, 76, 77, 78, 79, 80, 81, 82, 83, 84, 85, 86, 87] (by decide +kernel) (by decide +kernel)
set_option maxRecDepth 20000 in
theorem gX4_grow_X4_no : GoodIn wsX4_grow (wsV RX4 103 RX4 yX4_no wsX4_no) := goodIn_app (goodIn_of _ (by decide +kernel)) ggX4_grow_X4_no
set_option maxRecDepth 20000 in
theorem ggX4_grow_X4_growOn : GoodIn wsX4_grow wsX4_growOn := goodIn_r _ [14, 15, 16, 17, 18, 19, 20, 21, 22, 23, 24, 25, 26, 27, 28, 29, 5, 30, 31, 32, 33, 34, 35, 36, 37, 38, 39, 40, 41, 42, 43, 44, 45, 46, 47, 48, 49, 50, 51, 52, 53, 54, 55, 56, 57, 58, 59, 60, 72, 73, 74, 75, 76, 77, 78, 79, 80, 81, 82, 83, 84, 85, 86, 87] (by decide +kernel) (by decide +kernel)
set_option maxRecDepth 20000 in
theorem gX4_grow_X4_growOn : GoodIn wsX4_grow (wsV RX4 116 RX4 yX4_growOn wsX4_growOn) := goodIn_app (goodIn_of _ (by decide +kernel)) ggX4_grow_X4_growOn
set_option maxRecDepth 20000 in
theorem ggX4_grow_X4_all : GoodIn wsX4_grow wsX4_all := goodIn_r _ [64, 15, 17, 65, 66, 67, 68, 69, 70, 71, 72, 73, 74, 75, 76, 77, 78, 79, 80, 81, 82, 83, 84, 85, 86, 87] (by decide +kernel) (by decide +kernel)
set_option maxRecDepth 20000 in
theorem gX4_grow_X4_all : GoodIn wsX4_grow (wsV RX4 122 RX4 yX4_all wsX4_all) := goodIn_app (goodIn_of _ (by decide +kernel)) ggX4_grow_X4_all
theorem dX4_grow_0 : decode cX4_grow 0 = .ok (.aload_n 0, 1) := by decide +kernel
theorem dX4_grow_1 : decode cX4_grow 1 = .ok (.iconst 0, 1) := by decide +kernel
theorem dX4_grow_2 : decode cX4_grow 2 = .ok (.putfield 51, 3) := by decide +kernel
theorem dX4_grow_5 : decode cX4_grow 5 = .ok (.iload_n 1, 1) := by decide +kernel
theorem dX4_grow_6 : decode cX4_grow 6 = .ok (.iconst 1, 1) := by decide +kernel
theorem dX4_grow_7 : decode cX4_grow 7 = .ok (.bipush 60, 2) := by decide +kernel
theorem dX4_grow_9 : decode cX4_grow 9 = .ok (.invokestatic 54, 3) := by decide +kernel
theorem dX4_grow_12 : decode cX4_grow 12 = .ok (.ifCond .ne 9, 3) := by decide +kernel
theorem dX4_grow_15 : decode cX4_grow 15 = .ok (.aload_n 0, 1) := by decide +kernel
theorem dX4_grow_16 : decode cX4_grow 16 = .ok (.iconst 1, 1) := by decide +kernel
theorem dX4_grow_17 : decode cX4_grow 17 = .ok (.invokevirtual 103, 3) := by decide +kernel
theorem dX4_grow_20 : decode cX4_grow 20 = .ok (.ireturn, 1) := by decide +kernel
theorem dX4_grow_21 : decode cX4_grow 21 = .ok (.iconst 0, 1) := by decide +kernel
theorem dX4_grow_22 : decode cX4_grow 22 = .ok (.istore_n 2, 1) := by decide +kernel
theorem dX4_grow_23 : decode cX4_grow 23 = .ok (.iload_n 2, 1) := by decide +kernel
theorem dX4_grow_24 : decode cX4_grow 24 = .ok (.iload_n 1, 1) := by decide +kernel
theorem dX4_grow_25 : decode cX4_grow 25 = .ok (.if_icmp .ge 13, 3) := by decide +kernel
theorem dX4_grow_28 : decode cX4_grow 28 = .ok (.aload_n 0, 1) := by decide +kernel
theorem dX4_grow_29 : decode cX4_grow 29 = .ok (.invokevirtual 116, 3) := by decide +kernel
theorem dX4_grow_32 : decode cX4_grow 32 = .ok (.iinc 2 1, 3) := by decide +kernel
theorem dX4_grow_35 : decode cX4_grow 35 = .ok (.goto (-12), 3) := by decide +kernel
theorem dX4_grow_38 : decode cX4_grow 38 = .ok (.aload_n 0, 1) := by decide +kernel
theorem dX4_grow_39 : decode cX4_grow 39 = .ok (.dup, 1) := by decide +kernel
theorem dX4_grow_40 : decode cX4_grow 40 = .ok (.getfield 119, 3) := by decide +kernel
theorem dX4_grow_43 : decode cX4_grow 43 = .ok (.iload_n 1, 1) := by decide +kernel
theorem dX4_grow_44 : decode cX4_grow 44 = .ok (.iadd, 1) := by decide +kernel
theorem dX4_grow_45 : decode cX4_grow 45 = .ok (.putfield 119, 3) := by decide +kernel
theorem dX4_grow_48 : decode cX4_grow 48 = .ok (.aload_n 0, 1) := by decide +kernel
theorem dX4_grow_49 : decode cX4_grow 49 = .ok (.invokevirtual 122, 3) := by decide +kernel
theorem dX4_grow_52 : decode cX4_grow 52 = .ok (.ireturn, 1) := by decide +kernel
set_option maxRecDepth 20000 in
theorem ggX4_columns_X4_ok : GoodIn wsX4_columns wsX4_ok := goodIn_r _ [6, 7, 8, 9, 10, 11, 12, 13, 14, 15, 16, 17, 18, 19, 20, 21, 22, 23] (by decide +kernel) (by decide +kernel)
set_option maxRecDepth 20000 in
theorem gX4_columns_X4_ok : GoodIn wsX4_columns (wsV RX4 125 RX4 yX4_ok wsX4_ok) := goodIn_app (goodIn_of _ (by decide +kernel)) ggX4_columns_X4_ok
theorem dX4_columns_0 : decode cX4_columns 0 = .ok (.aload_n 0, 1) := by decide +kernel
theorem dX4_columns_1 : decode cX4_columns 1 = .ok (.aload_n 0, 1) := by decide +kernel
theorem dX4_columns_2 : decode cX4_columns 2 = .ok (.getfield 7, 3) := by decide +kernel
theorem dX4_columns_5 : decode cX4_columns 5 = .ok (.invokevirtual 125, 3) := by decide +kernel
theorem dX4_columns_8 : decode cX4_columns 8 = .ok (.ireturn, 1) := by decide +kernel
set_option maxRecDepth 20000 in
theorem ggX4_rows_X4_ok : GoodIn wsX4_rows wsX4_ok := goodIn_r _ [6, 7, 8, 9, 10, 11, 12, 13, 14, 15, 16, 17, 18, 19, 20, 21, 22, 23] (by decide +kernel) (by decide +kernel)
set_option maxRecDepth 20000 in
theorem gX4_rows_X4_ok : GoodIn wsX4_rows (wsV RX4 125 RX4 yX4_ok wsX4_ok) := goodIn_app (goodIn_of _ (by decide +kernel)) ggX4_rows_X4_ok
theorem dX4_rows_0 : decode cX4_rows 0 = .ok (.aload_n 0, 1) := by decide +kernel
theorem dX4_rows_1 : decode cX4_rows 1 = .ok (.aload_n 0, 1) := by decide +kernel
theorem dX4_rows_2 : decode cX4_rows 2 = .ok (.getfield 13, 3) := by decide +kernel
theorem dX4_rows_5 : decode cX4_rows 5 = .ok (.invokevirtual 125, 3) := by decide +kernel
theorem dX4_rows_8 : decode cX4_rows 8 = .ok (.ireturn, 1) := by decide +kernel
set_option maxRecDepth 20000 in
theorem ggX4_generation_X4_ok : GoodIn wsX4_generation wsX4_ok := goodIn_r _ [6, 7, 8, 9, 10, 11, 12, 13, 14, 15, 16, 17, 18, 19, 20, 21, 22, 23] (by decide +kernel) (by decide +kernel)
set_option maxRecDepth 20000 in
theorem gX4_generation_X4_ok : GoodIn wsX4_generation (wsV RX4 125 RX4 yX4_ok wsX4_ok) := goodIn_app (goodIn_of _ (by decide +kernel)) ggX4_generation_X4_ok
theorem dX4_generation_0 : decode cX4_generation 0 = .ok (.aload_n 0, 1) := by decide +kernel
theorem dX4_generation_1 : decode cX4_generation 1 = .ok (.aload_n 0, 1) := by decide +kernel
theorem dX4_generation_2 : decode cX4_generation 2 = .ok (.getfield 119, 3) := by decide +kernel
theorem dX4_generation_5 : decode cX4_generation 5 = .ok (.invokevirtual 125, 3) := by decide +kernel
theorem dX4_generation_8 : decode cX4_generation 8 = .ok (.ireturn, 1) := by decide +kernel
set_option maxRecDepth 20000 in
theorem ggX4_rules_X4_ok : GoodIn wsX4_rules wsX4_ok := goodIn_r _ [6, 7, 8, 9, 10, 11, 12, 13, 14, 15, 16, 17, 18, 19, 20, 21, 22, 23] (by decide +kernel) (by decide +kernel)
set_option maxRecDepth 20000 in
theorem gX4_rules_X4_ok : GoodIn wsX4_rules (wsV RX4 125 RX4 yX4_ok wsX4_ok) := goodIn_app (goodIn_of _ (by decide +kernel)) ggX4_rules_X4_ok
theorem dX4_rules_0 : decode cX4_rules 0 = .ok (.aload_n 0, 1) := by decide +kernel
theorem dX4_rules_1 : decode cX4_rules 1 = .ok (.aload_n 0, 1) := by decide +kernel
theorem dX4_rules_2 : decode cX4_rules 2 = .ok (.getfield 19, 3) := by decide +kernel
theorem dX4_rules_5 : decode cX4_rules 5 = .ok (.invokevirtual 125, 3) := by decide +kernel
theorem dX4_rules_8 : decode cX4_rules 8 = .ok (.ireturn, 1) := by decide +kernel
set_option maxRecDepth 20000 in
theorem ggX4_breath_X4_ok : GoodIn wsX4_breath wsX4_ok := goodIn_r _ [6, 7, 8, 9, 10, 11, 12, 13, 14, 15, 16, 17, 18, 19, 20, 21, 22, 23] (by decide +kernel) (by decide +kernel)
set_option maxRecDepth 20000 in
theorem gX4_breath_X4_ok : GoodIn wsX4_breath (wsV RX4 125 RX4 yX4_ok wsX4_ok) := goodIn_app (goodIn_of _ (by decide +kernel)) ggX4_breath_X4_ok
theorem dX4_breath_0 : decode cX4_breath 0 = .ok (.aload_n 0, 1) := by decide +kernel
theorem dX4_breath_1 : decode cX4_breath 1 = .ok (.aload_n 0, 1) := by decide +kernel
theorem dX4_breath_2 : decode cX4_breath 2 = .ok (.getfield 77, 3) := by decide +kernel
theorem dX4_breath_5 : decode cX4_breath 5 = .ok (.invokevirtual 125, 3) := by decide +kernel
theorem dX4_breath_8 : decode cX4_breath 8 = .ok (.ireturn, 1) := by decide +kernel
set_option maxRecDepth 20000 in
theorem ggX4_frozen_X4_all : GoodIn wsX4_frozen wsX4_all := goodIn_r _ [5, 6, 7, 8, 9, 10, 11, 12, 13, 14, 20, 21, 22, 23, 24, 25, 26, 27, 28, 29, 30, 31, 32, 33, 34, 35] (by decide +kernel) (by decide +kernel)
set_option maxRecDepth 20000 in
theorem gX4_frozen_X4_all : GoodIn wsX4_frozen (wsV RX4 122 RX4 yX4_all wsX4_all) := goodIn_app (goodIn_of _ (by decide +kernel)) ggX4_frozen_X4_all
set_option maxRecDepth 20000 in
theorem ggX4_frozen_X4_ok : GoodIn wsX4_frozen wsX4_ok := goodIn_r _ [18, 19, 20, 21, 22, 23, 24, 25, 26, 27, 28, 29, 30, 31, 32, 33, 34, 35] (by decide +kernel) (by decide +kernel)
set_option maxRecDepth 20000 in
theorem gX4_frozen_X4_ok : GoodIn wsX4_frozen (wsV RX4 125 RX4 yX4_ok wsX4_ok) := goodIn_app (goodIn_of _ (by decide +kernel)) ggX4_frozen_X4_ok
theorem dX4_frozen_0 : decode cX4_frozen 0 = .ok (.aload_n 0, 1) := by decide +kernel
theorem dX4_frozen_1 : decode cX4_frozen 1 = .ok (.aload_n 0, 1) := by decide +kernel
theorem dX4_frozen_2 : decode cX4_frozen 2 = .ok (.invokevirtual 122, 3) := by decide +kernel
theorem dX4_frozen_5 : decode cX4_frozen 5 = .ok (.invokevirtual 125, 3) := by decide +kernel
theorem dX4_frozen_8 : decode cX4_frozen 8 = .ok (.ireturn, 1) := by decide +kernel
set_option maxRecDepth 20000 in
theorem ggX4_melted_X4_manyMelted : GoodIn wsX4_melted wsX4_manyMelted := goodIn_r _ [5, 6, 12, 13, 14, 15, 16, 17, 18, 19, 20, 21, 22, 23, 24, 25, 26, 27] (by decide +kernel) (by decide +kernel)
set_option maxRecDepth 20000 in
theorem gX4_melted_X4_manyMelted : GoodIn wsX4_melted (wsV RX4 128 RX4 yX4_manyMelted wsX4_manyMelted) := goodIn_app (goodIn_of _ (by decide +kernel)) ggX4_melted_X4_manyMelted
set_option maxRecDepth 20000 in
theorem ggX4_melted_X4_ok : GoodIn wsX4_melted wsX4_ok := goodIn_r _ [10, 11, 12, 13, 14, 15, 16, 17, 18, 19, 20, 21, 22, 23, 24, 25, 26, 27] (by decide +kernel) (by decide +kernel)
set_option maxRecDepth 20000 in
theorem gX4_melted_X4_ok : GoodIn wsX4_melted (wsV RX4 125 RX4 yX4_ok wsX4_ok) := goodIn_app (goodIn_of _ (by decide +kernel)) ggX4_melted_X4_ok
theorem dX4_melted_0 : decode cX4_melted 0 = .ok (.aload_n 0, 1) := by decide +kernel
theorem dX4_melted_1 : decode cX4_melted 1 = .ok (.aload_n 0, 1) := by decide +kernel
theorem dX4_melted_2 : decode cX4_melted 2 = .ok (.invokevirtual 128, 3) := by decide +kernel
theorem dX4_melted_5 : decode cX4_melted 5 = .ok (.invokevirtual 125, 3) := by decide +kernel
theorem dX4_melted_8 : decode cX4_melted 8 = .ok (.ireturn, 1) := by decide +kernel
set_option maxRecDepth 20000 in
theorem ggX4_isFrozen_X4_isCell : GoodIn wsX4_isFrozen wsX4_isCell := goodIn_r _ [6, 7, 8, 9, 10, 5, 11, 21, 22, 23, 24, 25, 26, 27, 28, 29, 30, 31, 32, 33, 34, 35, 36] (by decide +kernel) (by decide +kernel)
set_option maxRecDepth 20000 in
theorem gX4_isFrozen_X4_isCell : GoodIn wsX4_isFrozen (wsV RX4 106 RX4 yX4_isCell wsX4_isCell) := goodIn_app (goodIn_of _ (by decide +kernel)) ggX4_isFrozen_X4_isCell
set_option maxRecDepth 20000 in
theorem ggX4_isFrozen_X4_is : GoodIn wsX4_isFrozen wsX4_is := goodIn_r _ [15, 16, 21, 22, 23, 24, 25, 26, 27, 28, 29, 30, 31, 32, 33, 34, 35, 36] (by decide +kernel) (by decide +kernel)
set_option maxRecDepth 20000 in
theorem gX4_isFrozen_X4_is : GoodIn wsX4_isFrozen (wsV RX4 73 RX4 yX4_is wsX4_is) := goodIn_app (goodIn_of _ (by decide +kernel)) ggX4_isFrozen_X4_is
set_option maxRecDepth 20000 in
theorem ggX4_isFrozen_X4_isNot : GoodIn wsX4_isFrozen wsX4_isNot := goodIn_r _ [20, 1, 21, 22, 23, 24, 25, 26, 27, 28, 29, 30, 31, 32, 33, 34, 35, 36] (by decide +kernel) (by decide +kernel)
set_option maxRecDepth 20000 in
theorem gX4_isFrozen_X4_isNot : GoodIn wsX4_isFrozen (wsV RX4 109 RX4 yX4_isNot wsX4_isNot) := goodIn_app (goodIn_of _ (by decide +kernel)) ggX4_isFrozen_X4_isNot
theorem dX4_isFrozen_0 : decode cX4_isFrozen 0 = .ok (.aload_n 0, 1) := by decide +kernel
theorem dX4_isFrozen_1 : decode cX4_isFrozen 1 = .ok (.iconst 0, 1) := by decide +kernel
theorem dX4_isFrozen_2 : decode cX4_isFrozen 2 = .ok (.putfield 51, 3) := by decide +kernel
theorem dX4_isFrozen_5 : decode cX4_isFrozen 5 = .ok (.aload_n 0, 1) := by decide +kernel
theorem dX4_isFrozen_6 : decode cX4_isFrozen 6 = .ok (.iload_n 1, 1) := by decide +kernel
theorem dX4_isFrozen_7 : decode cX4_isFrozen 7 = .ok (.iload_n 2, 1) := by decide +kernel
theorem dX4_isFrozen_8 : decode cX4_isFrozen 8 = .ok (.invokevirtual 106, 3) := by decide +kernel
theorem dX4_isFrozen_11 : decode cX4_isFrozen 11 = .ok (.ifCond .eq 12, 3) := by decide +kernel
theorem dX4_isFrozen_14 : decode cX4_isFrozen 14 = .ok (.aload_n 0, 1) := by decide +kernel
theorem dX4_isFrozen_15 : decode cX4_isFrozen 15 = .ok (.iload_n 1, 1) := by decide +kernel
theorem dX4_isFrozen_16 : decode cX4_isFrozen 16 = .ok (.iload_n 2, 1) := by decide +kernel
theorem dX4_isFrozen_17 : decode cX4_isFrozen 17 = .ok (.invokevirtual 73, 3) := by decide +kernel
theorem dX4_isFrozen_20 : decode cX4_isFrozen 20 = .ok (.goto 8, 3) := by decide +kernel
theorem dX4_isFrozen_23 : decode cX4_isFrozen 23 = .ok (.aload_n 0, 1) := by decide +kernel
theorem dX4_isFrozen_24 : decode cX4_isFrozen 24 = .ok (.iconst 1, 1) := by decide +kernel
theorem dX4_isFrozen_25 : decode cX4_isFrozen 25 = .ok (.invokevirtual 109, 3) := by decide +kernel
theorem dX4_isFrozen_28 : decode cX4_isFrozen 28 = .ok (.ireturn, 1) := by decide +kernel
set_option maxRecDepth 20000 in
theorem ggX4_meltedFor_X4_isCell : GoodIn wsX4_meltedFor wsX4_isCell := goodIn_r _ [7, 8, 9, 10, 11, 6, 12, 17, 18, 19, 20, 21, 22, 23, 24, 25, 26, 27, 28, 29, 30, 31, 32] (by decide +kernel) (by decide +kernel)
set_option maxRecDepth 20000 in
theorem gX4_meltedFor_X4_isCell : GoodIn wsX4_meltedFor (wsV RX4 106 RX4 yX4_isCell wsX4_isCell) := goodIn_app (goodIn_of _ (by decide +kernel)) ggX4_meltedFor_X4_isCell
set_option maxRecDepth 20000 in
theorem ggX4_meltedFor_X4_no : GoodIn wsX4_meltedFor wsX4_no := goodIn_r _ [16, 1, 17, 18, 19, 20, 21, 22, 23, 24, 25, 26, 27, 28, 29, 30, 31, 32] (by decide +kernel) (by decide +kernel)
set_option maxRecDepth 20000 in
theorem gX4_meltedFor_X4_no : GoodIn wsX4_meltedFor (wsV RX4 103 RX4 yX4_no wsX4_no) := goodIn_app (goodIn_of _ (by decide +kernel)) ggX4_meltedFor_X4_no
theorem dX4_meltedFor_0 : decode cX4_meltedFor 0 = .ok (.aload_n 0, 1) := by decide +kernel
theorem dX4_meltedFor_1 : decode cX4_meltedFor 1 = .ok (.iconst 0, 1) := by decide +kernel
theorem dX4_meltedFor_2 : decode cX4_meltedFor 2 = .ok (.putfield 51, 3) := by decide +kernel
theorem dX4_meltedFor_5 : decode cX4_meltedFor 5 = .ok (.aload_n 0, 1) := by decide +kernel
theorem dX4_meltedFor_6 : decode cX4_meltedFor 6 = .ok (.iload_n 1, 1) := by decide +kernel
theorem dX4_meltedFor_7 : decode cX4_meltedFor 7 = .ok (.iload_n 2, 1) := by decide +kernel
theorem dX4_meltedFor_8 : decode cX4_meltedFor 8 = .ok (.invokevirtual 106, 3) := by decide +kernel
theorem dX4_meltedFor_11 : decode cX4_meltedFor 11 = .ok (.ifCond .eq 17, 3) := by decide +kernel
theorem dX4_meltedFor_14 : decode cX4_meltedFor 14 = .ok (.aload_n 0, 1) := by decide +kernel
theorem dX4_meltedFor_15 : decode cX4_meltedFor 15 = .ok (.getfield 32, 3) := by decide +kernel
theorem dX4_meltedFor_18 : decode cX4_meltedFor 18 = .ok (.bipush 12, 2) := by decide +kernel
theorem dX4_meltedFor_20 : decode cX4_meltedFor 20 = .ok (.iload_n 2, 1) := by decide +kernel
theorem dX4_meltedFor_21 : decode cX4_meltedFor 21 = .ok (.imul, 1) := by decide +kernel
theorem dX4_meltedFor_22 : decode cX4_meltedFor 22 = .ok (.iload_n 1, 1) := by decide +kernel
theorem dX4_meltedFor_23 : decode cX4_meltedFor 23 = .ok (.iadd, 1) := by decide +kernel
theorem dX4_meltedFor_24 : decode cX4_meltedFor 24 = .ok (.iaload, 1) := by decide +kernel
theorem dX4_meltedFor_25 : decode cX4_meltedFor 25 = .ok (.goto 8, 3) := by decide +kernel
theorem dX4_meltedFor_28 : decode cX4_meltedFor 28 = .ok (.aload_n 0, 1) := by decide +kernel
theorem dX4_meltedFor_29 : decode cX4_meltedFor 29 = .ok (.iconst 1, 1) := by decide +kernel
theorem dX4_meltedFor_30 : decode cX4_meltedFor 30 = .ok (.invokevirtual 103, 3) := by decide +kernel
theorem dX4_meltedFor_33 : decode cX4_meltedFor 33 = .ok (.ireturn, 1) := by decide +kernel
set_option maxRecDepth 20000 in
theorem ggX4_around_X4_isCell : GoodIn wsX4_around wsX4_isCell := goodIn_r _ [6, 7, 8, 9, 10, 5, 11, 39, 40, 41, 42, 43, 44, 45, 46, 47, 48, 49, 50, 51, 52, 53, 54] (by decide +kernel) (by decide +kernel)
set_option maxRecDepth 20000 in
theorem gX4_around_X4_isCell : GoodIn wsX4_around (wsV RX4 106 RX4 yX4_isCell wsX4_isCell) := goodIn_app (goodIn_of _ (by decide +kernel)) ggX4_around_X4_isCell
set_option maxRecDepth 20000 in
theorem ggX4_around_X4_no : GoodIn wsX4_around wsX4_no := goodIn_r _ [15, 1, 39, 40, 41, 42, 43, 44, 45, 46, 47, 48, 49, 50, 51, 52, 53, 54] (by decide +kernel) (by decide +kernel)
set_option maxRecDepth 20000 in
theorem gX4_around_X4_no : GoodIn wsX4_around (wsV RX4 103 RX4 yX4_no wsX4_no) := goodIn_app (goodIn_of _ (by decide +kernel)) ggX4_around_X4_no
set_option maxRecDepth 20000 in
theorem ggX4_around_X4_count : GoodIn wsX4_around wsX4_count := goodIn_r _ [19, 20, 21, 22, 23, 5, 24, 8, 25, 7, 26, 27, 28, 29, 30, 31, 32, 33, 34, 39, 40, 41, 42, 43, 44, 45, 46, 47, 48, 49, 50, 51, 52, 53, 54] (by decide +kernel) (by decide +kernel)
set_option maxRecDepth 20000 in
theorem gX4_around_X4_count : GoodIn wsX4_around (wsV RX4 70 RX4 yX4_count wsX4_count) := goodIn_app (goodIn_of _ (by decide +kernel)) ggX4_around_X4_count
set_option maxRecDepth 20000 in
theorem ggX4_around_X4_counted : GoodIn wsX4_around wsX4_counted := goodIn_r _ [38, 20, 39, 40, 41, 42, 43, 44, 45, 46, 47, 48, 49, 50, 51, 52, 53, 54] (by decide +kernel) (by decide +kernel)
set_option maxRecDepth 20000 in
theorem gX4_around_X4_counted : GoodIn wsX4_around (wsV RX4 80 RX4 yX4_counted wsX4_counted) := goodIn_app (goodIn_of _ (by decide +kernel)) ggX4_around_X4_counted
theorem dX4_around_0 : decode cX4_around 0 = .ok (.aload_n 0, 1) := by decide +kernel
theorem dX4_around_1 : decode cX4_around 1 = .ok (.iconst 0, 1) := by decide +kernel
theorem dX4_around_2 : decode cX4_around 2 = .ok (.putfield 51, 3) := by decide +kernel
theorem dX4_around_5 : decode cX4_around 5 = .ok (.aload_n 0, 1) := by decide +kernel
theorem dX4_around_6 : decode cX4_around 6 = .ok (.iload_n 1, 1) := by decide +kernel
theorem dX4_around_7 : decode cX4_around 7 = .ok (.iload_n 2, 1) := by decide +kernel
theorem dX4_around_8 : decode cX4_around 8 = .ok (.invokevirtual 106, 3) := by decide +kernel
theorem dX4_around_11 : decode cX4_around 11 = .ok (.ifCond .ne 9, 3) := by decide +kernel
theorem dX4_around_14 : decode cX4_around 14 = .ok (.aload_n 0, 1) := by decide +kernel
theorem dX4_around_15 : decode cX4_around 15 = .ok (.iconst 1, 1) := by decide +kernel
theorem dX4_around_16 : decode cX4_around 16 = .ok (.invokevirtual 103, 3) := by decide +kernel
theorem dX4_around_19 : decode cX4_around 19 = .ok (.ireturn, 1) := by decide +kernel
theorem dX4_around_20 : decode cX4_around 20 = .ok (.aload_n 0, 1) := by decide +kernel
theorem dX4_around_21 : decode cX4_around 21 = .ok (.iload_n 2, 1) := by decide +kernel
theorem dX4_around_22 : decode cX4_around 22 = .ok (.invokevirtual 70, 3) := by decide +kernel
theorem dX4_around_25 : decode cX4_around 25 = .ok (.aload_n 0, 1) := by decide +kernel
theorem dX4_around_26 : decode cX4_around 26 = .ok (.iload_n 1, 1) := by decide +kernel
theorem dX4_around_27 : decode cX4_around 27 = .ok (.invokevirtual 80, 3) := by decide +kernel
theorem dX4_around_30 : decode cX4_around 30 = .ok (.ireturn, 1) := by decide +kernel
set_option maxRecDepth 20000 in
theorem ggX4_willFreeze_X4_isCell : GoodIn wsX4_willFreeze wsX4_isCell := goodIn_r _ [6, 7, 8, 9, 10, 5, 11, 51, 52, 53, 54, 55, 56, 57, 58, 59, 60, 61, 62, 63, 64, 65, 66] (by decide +kernel) (by decide +kernel)
set_option maxRecDepth 20000 in
theorem gX4_willFreeze_X4_isCell : GoodIn wsX4_willFreeze (wsV RX4 106 RX4 yX4_isCell wsX4_isCell) := goodIn_app (goodIn_of _ (by decide +kernel)) ggX4_willFreeze_X4_isCell
set_option maxRecDepth 20000 in
theorem ggX4_willFreeze_X4_grown : GoodIn wsX4_willFreeze wsX4_grown := goodIn_r _ [15, 7, 16, 17, 18, 19, 20, 21, 22, 5, 23, 24, 25, 26, 27, 28, 8, 29, 30, 31, 32, 33, 34, 35, 36, 37, 38, 39, 40, 41, 42, 43, 44, 45, 46, 51, 52, 53, 54, 55, 56, 57, 58, 59, 60, 61, 62, 63, 64, 65, 66] (by decide +kernel) (by decide +kernel)
set_option maxRecDepth 20000 in
theorem gX4_willFreeze_X4_grown : GoodIn wsX4_willFreeze (wsV RX4 83 RX4 yX4_grown wsX4_grown) := goodIn_app (goodIn_of _ (by decide +kernel)) ggX4_willFreeze_X4_grown
set_option maxRecDepth 20000 in
theorem ggX4_willFreeze_X4_isNot : GoodIn wsX4_willFreeze wsX4_isNot := goodIn_r _ [50, 1, 51, 52, 53, 54, 55, 56, 57, 58, 59, 60, 61, 62, 63, 64, 65, 66] (by decide +kernel) (by decide +kernel)
set_option maxRecDepth 20000 in
theorem gX4_willFreeze_X4_isNot : GoodIn wsX4_willFreeze (wsV RX4 109 RX4 yX4_isNot wsX4_isNot) := goodIn_app (goodIn_of _ (by decide +kernel)) ggX4_willFreeze_X4_isNot
theorem dX4_willFreeze_0 : decode cX4_willFreeze 0 = .ok (.aload_n 0, 1) := by decide +kernel
theorem dX4_willFreeze_1 : decode cX4_willFreeze 1 = .ok (.iconst 0, 1) := by decide +kernel
theorem dX4_willFreeze_2 : decode cX4_willFreeze 2 = .ok (.putfield 51, 3) := by decide +kernel
theorem dX4_willFreeze_5 : decode cX4_willFreeze 5 = .ok (.aload_n 0, 1) := by decide +kernel
theorem dX4_willFreeze_6 : decode cX4_willFreeze 6 = .ok (.iload_n 1, 1) := by decide +kernel
theorem dX4_willFreeze_7 : decode cX4_willFreeze 7 = .ok (.iload_n 2, 1) := by decide +kernel
theorem dX4_willFreeze_8 : decode cX4_willFreeze 8 = .ok (.invokevirtual 106, 3) := by decide +kernel
theorem dX4_willFreeze_11 : decode cX4_willFreeze 11 = .ok (.ifCond .eq 24, 3) := by decide +kernel
theorem dX4_willFreeze_14 : decode cX4_willFreeze 14 = .ok (.aload_n 0, 1) := by decide +kernel
theorem dX4_willFreeze_15 : decode cX4_willFreeze 15 = .ok (.iload_n 2, 1) := by decide +kernel
theorem dX4_willFreeze_16 : decode cX4_willFreeze 16 = .ok (.invokevirtual 83, 3) := by decide +kernel
theorem dX4_willFreeze_19 : decode cX4_willFreeze 19 = .ok (.iload_n 1, 1) := by decide +kernel
theorem dX4_willFreeze_20 : decode cX4_willFreeze 20 = .ok (.ishr, 1) := by decide +kernel
theorem dX4_willFreeze_21 : decode cX4_willFreeze 21 = .ok (.iconst 1, 1) := by decide +kernel
theorem dX4_willFreeze_22 : decode cX4_willFreeze 22 = .ok (.iand, 1) := by decide +kernel
theorem dX4_willFreeze_23 : decode cX4_willFreeze 23 = .ok (.iconst 1, 1) := by decide +kernel
theorem dX4_willFreeze_24 : decode cX4_willFreeze 24 = .ok (.if_icmp .ne 7, 3) := by decide +kernel
theorem dX4_willFreeze_27 : decode cX4_willFreeze 27 = .ok (.iconst 1, 1) := by decide +kernel
theorem dX4_willFreeze_28 : decode cX4_willFreeze 28 = .ok (.goto 12, 3) := by decide +kernel
theorem dX4_willFreeze_31 : decode cX4_willFreeze 31 = .ok (.iconst 0, 1) := by decide +kernel
theorem dX4_willFreeze_32 : decode cX4_willFreeze 32 = .ok (.goto 8, 3) := by decide +kernel
theorem dX4_willFreeze_35 : decode cX4_willFreeze 35 = .ok (.aload_n 0, 1) := by decide +kernel
theorem dX4_willFreeze_36 : decode cX4_willFreeze 36 = .ok (.iconst 1, 1) := by decide +kernel
theorem dX4_willFreeze_37 : decode cX4_willFreeze 37 = .ok (.invokevirtual 109, 3) := by decide +kernel
theorem dX4_willFreeze_40 : decode cX4_willFreeze 40 = .ok (.ireturn, 1) := by decide +kernel
set_option maxRecDepth 20000 in
theorem ggX4_frozenInRow_X4_isIn : GoodIn wsX4_frozenInRow wsX4_isIn := goodIn_r _ [7] (by decide +kernel) (by decide +kernel)
set_option maxRecDepth 20000 in
theorem gX4_frozenInRow_X4_isIn : GoodIn wsX4_frozenInRow (va_wsS RX4 54 yX4_isIn wsX4_isIn) := goodIn_app (goodIn_of _ (by decide +kernel)) ggX4_frozenInRow_X4_isIn
set_option maxRecDepth 20000 in
theorem ggX4_frozenInRow_J6_bitCount_0f7a4 : GoodIn wsX4_frozenInRow wsJ6_bitCount_0f7a4 := goodIn_r _ [11, 12, 13, 14] (by decide +kernel) (by decide +kernel)
set_option maxRecDepth 20000 in
theorem gX4_frozenInRow_J6_bitCount_0f7a4 : GoodIn wsX4_frozenInRow (va_wsS RX4 98 yJ6_bitCount_0f7a4 wsJ6_bitCount_0f7a4) := goodIn_app (goodIn_of _ (by decide +kernel)) ggX4_frozenInRow_J6_bitCount_0f7a4
set_option maxRecDepth 20000 in
theorem ggX4_frozenInRow_X4_no : GoodIn wsX4_frozenInRow wsX4_no := goodIn_r _ [18, 1, 19, 20, 21, 22, 23, 24, 25, 26, 27, 28, 29, 30, 31, 32, 33, 34] (by decide +kernel) (by decide +kernel)
set_option maxRecDepth 20000 in
theorem gX4_frozenInRow_X4_no : GoodIn wsX4_frozenInRow (wsV RX4 103 RX4 yX4_no wsX4_no) := goodIn_app (goodIn_of _ (by decide +kernel)) ggX4_frozenInRow_X4_no
theorem dX4_frozenInRow_0 : decode cX4_frozenInRow 0 = .ok (.aload_n 0, 1) := by decide +kernel
theorem dX4_frozenInRow_1 : decode cX4_frozenInRow 1 = .ok (.iconst 0, 1) := by decide +kernel
theorem dX4_frozenInRow_2 : decode cX4_frozenInRow 2 = .ok (.putfield 51, 3) := by decide +kernel
theorem dX4_frozenInRow_5 : decode cX4_frozenInRow 5 = .ok (.iload_n 1, 1) := by decide +kernel
theorem dX4_frozenInRow_6 : decode cX4_frozenInRow 6 = .ok (.iconst 0, 1) := by decide +kernel
theorem dX4_frozenInRow_7 : decode cX4_frozenInRow 7 = .ok (.aload_n 0, 1) := by decide +kernel
theorem dX4_frozenInRow_8 : decode cX4_frozenInRow 8 = .ok (.getfield 13, 3) := by decide +kernel
theorem dX4_frozenInRow_11 : decode cX4_frozenInRow 11 = .ok (.iconst 1, 1) := by decide +kernel
theorem dX4_frozenInRow_12 : decode cX4_frozenInRow 12 = .ok (.isub, 1) := by decide +kernel
theorem dX4_frozenInRow_13 : decode cX4_frozenInRow 13 = .ok (.invokestatic 54, 3) := by decide +kernel
theorem dX4_frozenInRow_16 : decode cX4_frozenInRow 16 = .ok (.ifCond .eq 15, 3) := by decide +kernel
theorem dX4_frozenInRow_19 : decode cX4_frozenInRow 19 = .ok (.aload_n 0, 1) := by decide +kernel
theorem dX4_frozenInRow_20 : decode cX4_frozenInRow 20 = .ok (.getfield 29, 3) := by decide +kernel
theorem dX4_frozenInRow_23 : decode cX4_frozenInRow 23 = .ok (.iload_n 1, 1) := by decide +kernel
theorem dX4_frozenInRow_24 : decode cX4_frozenInRow 24 = .ok (.iaload, 1) := by decide +kernel
theorem dX4_frozenInRow_25 : decode cX4_frozenInRow 25 = .ok (.invokestatic 98, 3) := by decide +kernel
theorem dX4_frozenInRow_28 : decode cX4_frozenInRow 28 = .ok (.goto 8, 3) := by decide +kernel
theorem dX4_frozenInRow_31 : decode cX4_frozenInRow 31 = .ok (.aload_n 0, 1) := by decide +kernel
theorem dX4_frozenInRow_32 : decode cX4_frozenInRow 32 = .ok (.iconst 1, 1) := by decide +kernel
theorem dX4_frozenInRow_33 : decode cX4_frozenInRow 33 = .ok (.invokevirtual 103, 3) := by decide +kernel
theorem dX4_frozenInRow_36 : decode cX4_frozenInRow 36 = .ok (.ireturn, 1) := by decide +kernel
set_option maxRecDepth 20000 in
theorem ggX4_spread_J6_bitCount_0f7a4 : GoodIn wsX4_spread wsJ6_bitCount_0f7a4 := goodIn_r _ [7, 8, 9, 10] (by decide +kernel) (by decide +kernel)
set_option maxRecDepth 20000 in
theorem gX4_spread_J6_bitCount_0f7a4 : GoodIn wsX4_spread (va_wsS RX4 98 yJ6_bitCount_0f7a4 wsJ6_bitCount_0f7a4) := goodIn_app (goodIn_of _ (by decide +kernel)) ggX4_spread_J6_bitCount_0f7a4
theorem dX4_spread_0 : decode cX4_spread 0 = .ok (.iconst 0, 1) := by decide +kernel
theorem dX4_spread_1 : decode cX4_spread 1 = .ok (.istore_n 3, 1) := by decide +kernel
theorem dX4_spread_2 : decode cX4_spread 2 = .ok (.iload_n 3, 1) := by decide +kernel
theorem dX4_spread_3 : decode cX4_spread 3 = .ok (.aload_n 0, 1) := by decide +kernel
theorem dX4_spread_4 : decode cX4_spread 4 = .ok (.getfield 13, 3) := by decide +kernel
theorem dX4_spread_7 : decode cX4_spread 7 = .ok (.if_icmp .ge 34, 3) := by decide +kernel
theorem dX4_spread_10 : decode cX4_spread 10 = .ok (.aload_n 0, 1) := by decide +kernel
theorem dX4_spread_11 : decode cX4_spread 11 = .ok (.getfield 41, 3) := by decide +kernel
theorem dX4_spread_14 : decode cX4_spread 14 = .ok (.iload_n 3, 1) := by decide +kernel
theorem dX4_spread_15 : decode cX4_spread 15 = .ok (.iload_n 3, 1) := by decide +kernel
theorem dX4_spread_16 : decode cX4_spread 16 = .ok (.iload_n 2, 1) := by decide +kernel
theorem dX4_spread_17 : decode cX4_spread 17 = .ok (.if_icmp .ne 16, 3) := by decide +kernel
theorem dX4_spread_20 : decode cX4_spread 20 = .ok (.iconst 1, 1) := by decide +kernel
theorem dX4_spread_21 : decode cX4_spread 21 = .ok (.iload_n 1, 1) := by decide +kernel
theorem dX4_spread_22 : decode cX4_spread 22 = .ok (.ishl, 1) := by decide +kernel
theorem dX4_spread_23 : decode cX4_spread 23 = .ok (.aload_n 0, 1) := by decide +kernel
theorem dX4_spread_24 : decode cX4_spread 24 = .ok (.getfield 29, 3) := by decide +kernel
theorem dX4_spread_27 : decode cX4_spread 27 = .ok (.iload_n 3, 1) := by decide +kernel
theorem dX4_spread_28 : decode cX4_spread 28 = .ok (.iaload, 1) := by decide +kernel
theorem dX4_spread_29 : decode cX4_spread 29 = .ok (.iand, 1) := by decide +kernel
theorem dX4_spread_30 : decode cX4_spread 30 = .ok (.goto 4, 3) := by decide +kernel
theorem dX4_spread_33 : decode cX4_spread 33 = .ok (.iconst 0, 1) := by decide +kernel
theorem dX4_spread_34 : decode cX4_spread 34 = .ok (.iastore, 1) := by decide +kernel
theorem dX4_spread_35 : decode cX4_spread 35 = .ok (.iinc 3 1, 3) := by decide +kernel
theorem dX4_spread_38 : decode cX4_spread 38 = .ok (.goto (-36), 3) := by decide +kernel
theorem dX4_spread_41 : decode cX4_spread 41 = .ok (.iconst 1, 1) := by decide +kernel
theorem dX4_spread_42 : decode cX4_spread 42 = .ok (.istore_n 3, 1) := by decide +kernel
theorem dX4_spread_43 : decode cX4_spread 43 = .ok (.iload_n 3, 1) := by decide +kernel
theorem dX4_spread_44 : decode cX4_spread 44 = .ok (.ifCond .eq 140, 3) := by decide +kernel
theorem dX4_spread_47 : decode cX4_spread 47 = .ok (.iconst 0, 1) := by decide +kernel
theorem dX4_spread_48 : decode cX4_spread 48 = .ok (.istore_n 3, 1) := by decide +kernel
theorem dX4_spread_49 : decode cX4_spread 49 = .ok (.iconst 0, 1) := by decide +kernel
theorem dX4_spread_50 : decode cX4_spread 50 = .ok (.istore 4, 2) := by decide +kernel
theorem dX4_spread_52 : decode cX4_spread 52 = .ok (.iload 4, 2) := by decide +kernel
theorem dX4_spread_54 : decode cX4_spread 54 = .ok (.aload_n 0, 1) := by decide +kernel
theorem dX4_spread_55 : decode cX4_spread 55 = .ok (.getfield 13, 3) := by decide +kernel
theorem dX4_spread_58 : decode cX4_spread 58 = .ok (.if_icmp .ge 123, 3) := by decide +kernel
theorem dX4_spread_61 : decode cX4_spread 61 = .ok (.aload_n 0, 1) := by decide +kernel
theorem dX4_spread_62 : decode cX4_spread 62 = .ok (.getfield 41, 3) := by decide +kernel
theorem dX4_spread_65 : decode cX4_spread 65 = .ok (.iload 4, 2) := by decide +kernel
theorem dX4_spread_67 : decode cX4_spread 67 = .ok (.iaload, 1) := by decide +kernel
theorem dX4_spread_68 : decode cX4_spread 68 = .ok (.aload_n 0, 1) := by decide +kernel
theorem dX4_spread_69 : decode cX4_spread 69 = .ok (.getfield 41, 3) := by decide +kernel
theorem dX4_spread_72 : decode cX4_spread 72 = .ok (.iload 4, 2) := by decide +kernel
theorem dX4_spread_74 : decode cX4_spread 74 = .ok (.iaload, 1) := by decide +kernel
theorem dX4_spread_75 : decode cX4_spread 75 = .ok (.iconst 1, 1) := by decide +kernel
theorem dX4_spread_76 : decode cX4_spread 76 = .ok (.ishl, 1) := by decide +kernel
theorem dX4_spread_77 : decode cX4_spread 77 = .ok (.ior, 1) := by decide +kernel
theorem dX4_spread_78 : decode cX4_spread 78 = .ok (.aload_n 0, 1) := by decide +kernel
theorem dX4_spread_79 : decode cX4_spread 79 = .ok (.getfield 41, 3) := by decide +kernel
theorem dX4_spread_82 : decode cX4_spread 82 = .ok (.iload 4, 2) := by decide +kernel
theorem dX4_spread_84 : decode cX4_spread 84 = .ok (.iaload, 1) := by decide +kernel
theorem dX4_spread_85 : decode cX4_spread 85 = .ok (.iconst 1, 1) := by decide +kernel
theorem dX4_spread_86 : decode cX4_spread 86 = .ok (.ishr, 1) := by decide +kernel
theorem dX4_spread_87 : decode cX4_spread 87 = .ok (.ior, 1) := by decide +kernel
theorem dX4_spread_88 : decode cX4_spread 88 = .ok (.iload 4, 2) := by decide +kernel
theorem dX4_spread_90 : decode cX4_spread 90 = .ok (.ifCond .le 15, 3) := by decide +kernel
theorem dX4_spread_93 : decode cX4_spread 93 = .ok (.aload_n 0, 1) := by decide +kernel
theorem dX4_spread_94 : decode cX4_spread 94 = .ok (.getfield 41, 3) := by decide +kernel
theorem dX4_spread_97 : decode cX4_spread 97 = .ok (.iload 4, 2) := by decide +kernel
theorem dX4_spread_99 : decode cX4_spread 99 = .ok (.iconst 1, 1) := by decide +kernel
theorem dX4_spread_100 : decode cX4_spread 100 = .ok (.isub, 1) := by decide +kernel
theorem dX4_spread_101 : decode cX4_spread 101 = .ok (.iaload, 1) := by decide +kernel
theorem dX4_spread_102 : decode cX4_spread 102 = .ok (.goto 4, 3) := by decide +kernel
theorem dX4_spread_105 : decode cX4_spread 105 = .ok (.iconst 0, 1) := by decide +kernel
theorem dX4_spread_106 : decode cX4_spread 106 = .ok (.ior, 1) := by decide +kernel
theorem dX4_spread_107 : decode cX4_spread 107 = .ok (.iload 4, 2) := by decide +kernel
theorem dX4_spread_109 : decode cX4_spread 109 = .ok (.iconst 1, 1) := by decide +kernel
theorem dX4_spread_110 : decode cX4_spread 110 = .ok (.iadd, 1) := by decide +kernel
theorem dX4_spread_111 : decode cX4_spread 111 = .ok (.aload_n 0, 1) := by decide +kernel
theorem dX4_spread_112 : decode cX4_spread 112 = .ok (.getfield 13, 3) := by decide +kernel
theorem dX4_spread_115 : decode cX4_spread 115 = .ok (.if_icmp .ge 15, 3) := by decide +kernel
theorem dX4_spread_118 : decode cX4_spread 118 = .ok (.aload_n 0, 1) := by decide +kernel
theorem dX4_spread_119 : decode cX4_spread 119 = .ok (.getfield 41, 3) := by decide +kernel
theorem dX4_spread_122 : decode cX4_spread 122 = .ok (.iload 4, 2) := by decide +kernel
theorem dX4_spread_124 : decode cX4_spread 124 = .ok (.iconst 1, 1) := by decide +kernel
theorem dX4_spread_125 : decode cX4_spread 125 = .ok (.iadd, 1) := by decide +kernel
theorem dX4_spread_126 : decode cX4_spread 126 = .ok (.iaload, 1) := by decide +kernel
theorem dX4_spread_127 : decode cX4_spread 127 = .ok (.goto 4, 3) := by decide +kernel
theorem dX4_spread_130 : decode cX4_spread 130 = .ok (.iconst 0, 1) := by decide +kernel
theorem dX4_spread_131 : decode cX4_spread 131 = .ok (.ior, 1) := by decide +kernel
theorem dX4_spread_132 : decode cX4_spread 132 = .ok (.istore 5, 2) := by decide +kernel
theorem dX4_spread_134 : decode cX4_spread 134 = .ok (.iload 5, 2) := by decide +kernel
theorem dX4_spread_136 : decode cX4_spread 136 = .ok (.aload_n 0, 1) := by decide +kernel
theorem dX4_spread_137 : decode cX4_spread 137 = .ok (.getfield 29, 3) := by decide +kernel
theorem dX4_spread_140 : decode cX4_spread 140 = .ok (.iload 4, 2) := by decide +kernel
theorem dX4_spread_142 : decode cX4_spread 142 = .ok (.iaload, 1) := by decide +kernel
theorem dX4_spread_143 : decode cX4_spread 143 = .ok (.iand, 1) := by decide +kernel
theorem dX4_spread_144 : decode cX4_spread 144 = .ok (.istore 5, 2) := by decide +kernel
theorem dX4_spread_146 : decode cX4_spread 146 = .ok (.iload_n 3, 1) := by decide +kernel
theorem dX4_spread_147 : decode cX4_spread 147 = .ok (.iload 5, 2) := by decide +kernel
theorem dX4_spread_149 : decode cX4_spread 149 = .ok (.aload_n 0, 1) := by decide +kernel
theorem dX4_spread_150 : decode cX4_spread 150 = .ok (.getfield 41, 3) := by decide +kernel
theorem dX4_spread_153 : decode cX4_spread 153 = .ok (.iload 4, 2) := by decide +kernel
theorem dX4_spread_155 : decode cX4_spread 155 = .ok (.iaload, 1) := by decide +kernel
theorem dX4_spread_156 : decode cX4_spread 156 = .ok (.if_icmp .eq 7, 3) := by decide +kernel
theorem dX4_spread_159 : decode cX4_spread 159 = .ok (.iconst 1, 1) := by decide +kernel
theorem dX4_spread_160 : decode cX4_spread 160 = .ok (.goto 4, 3) := by decide +kernel
theorem dX4_spread_163 : decode cX4_spread 163 = .ok (.iconst 0, 1) := by decide +kernel
theorem dX4_spread_164 : decode cX4_spread 164 = .ok (.ior, 1) := by decide +kernel
theorem dX4_spread_165 : decode cX4_spread 165 = .ok (.istore_n 3, 1) := by decide +kernel
theorem dX4_spread_166 : decode cX4_spread 166 = .ok (.aload_n 0, 1) := by decide +kernel
theorem dX4_spread_167 : decode cX4_spread 167 = .ok (.getfield 41, 3) := by decide +kernel
theorem dX4_spread_170 : decode cX4_spread 170 = .ok (.iload 4, 2) := by decide +kernel
theorem dX4_spread_172 : decode cX4_spread 172 = .ok (.iload 5, 2) := by decide +kernel
theorem dX4_spread_174 : decode cX4_spread 174 = .ok (.iastore, 1) := by decide +kernel
theorem dX4_spread_175 : decode cX4_spread 175 = .ok (.iinc 4 1, 3) := by decide +kernel
theorem dX4_spread_178 : decode cX4_spread 178 = .ok (.goto (-126), 3) := by decide +kernel
theorem dX4_spread_181 : decode cX4_spread 181 = .ok (.goto (-138), 3) := by decide +kernel
theorem dX4_spread_184 : decode cX4_spread 184 = .ok (.iconst 0, 1) := by decide +kernel
theorem dX4_spread_185 : decode cX4_spread 185 = .ok (.istore 4, 2) := by decide +kernel
theorem dX4_spread_187 : decode cX4_spread 187 = .ok (.iconst 0, 1) := by decide +kernel
theorem dX4_spread_188 : decode cX4_spread 188 = .ok (.istore 5, 2) := by decide +kernel
theorem dX4_spread_190 : decode cX4_spread 190 = .ok (.iload 5, 2) := by decide +kernel
theorem dX4_spread_192 : decode cX4_spread 192 = .ok (.aload_n 0, 1) := by decide +kernel
theorem dX4_spread_193 : decode cX4_spread 193 = .ok (.getfield 13, 3) := by decide +kernel
theorem dX4_spread_196 : decode cX4_spread 196 = .ok (.if_icmp .ge 24, 3) := by decide +kernel
theorem dX4_spread_199 : decode cX4_spread 199 = .ok (.iload 4, 2) := by decide +kernel
theorem dX4_spread_201 : decode cX4_spread 201 = .ok (.aload_n 0, 1) := by decide +kernel
theorem dX4_spread_202 : decode cX4_spread 202 = .ok (.getfield 41, 3) := by decide +kernel
theorem dX4_spread_205 : decode cX4_spread 205 = .ok (.iload 5, 2) := by decide +kernel
theorem dX4_spread_207 : decode cX4_spread 207 = .ok (.iaload, 1) := by decide +kernel
theorem dX4_spread_208 : decode cX4_spread 208 = .ok (.invokestatic 98, 3) := by decide +kernel
theorem dX4_spread_211 : decode cX4_spread 211 = .ok (.iadd, 1) := by decide +kernel
theorem dX4_spread_212 : decode cX4_spread 212 = .ok (.istore 4, 2) := by decide +kernel
theorem dX4_spread_214 : decode cX4_spread 214 = .ok (.iinc 5 1, 3) := by decide +kernel
theorem dX4_spread_217 : decode cX4_spread 217 = .ok (.goto (-27), 3) := by decide +kernel
theorem dX4_spread_220 : decode cX4_spread 220 = .ok (.iload 4, 2) := by decide +kernel
theorem dX4_spread_222 : decode cX4_spread 222 = .ok (.ireturn, 1) := by decide +kernel
set_option maxRecDepth 20000 in
theorem ggX4_flowers_X4_is : GoodIn wsX4_flowers wsX4_is := goodIn_r _ [13, 14, 26, 27, 28, 29, 30, 31, 32, 33, 34, 35, 36, 37, 38, 39, 40, 41] (by decide +kernel) (by decide +kernel)
set_option maxRecDepth 20000 in
theorem gX4_flowers_X4_is : GoodIn wsX4_flowers (wsV RX4 73 RX4 yX4_is wsX4_is) := goodIn_app (goodIn_of _ (by decide +kernel)) ggX4_flowers_X4_is
set_option maxRecDepth 20000 in
theorem ggX4_flowers_X4_spread : GoodIn wsX4_flowers wsX4_spread := goodIn_r _ [18, 2, 8, 14, 19, 20, 21, 22, 23, 24, 25, 26, 27, 28, 29, 30, 31, 32, 33, 34, 35, 36, 37, 38, 39, 40, 41] (by decide +kernel) (by decide +kernel)
set_option maxRecDepth 20000 in
theorem gX4_flowers_X4_spread : GoodIn wsX4_flowers (wsV RX4 131 RX4 yX4_spread wsX4_spread) := goodIn_app (goodIn_of _ (by decide +kernel)) ggX4_flowers_X4_spread
theorem dX4_flowers_0 : decode cX4_flowers 0 = .ok (.iconst 0, 1) := by decide +kernel
theorem dX4_flowers_1 : decode cX4_flowers 1 = .ok (.istore_n 2, 1) := by decide +kernel
theorem dX4_flowers_2 : decode cX4_flowers 2 = .ok (.iconst 0, 1) := by decide +kernel
theorem dX4_flowers_3 : decode cX4_flowers 3 = .ok (.istore_n 3, 1) := by decide +kernel
theorem dX4_flowers_4 : decode cX4_flowers 4 = .ok (.iconst 0, 1) := by decide +kernel
theorem dX4_flowers_5 : decode cX4_flowers 5 = .ok (.istore 4, 2) := by decide +kernel
theorem dX4_flowers_7 : decode cX4_flowers 7 = .ok (.iload 4, 2) := by decide +kernel
theorem dX4_flowers_9 : decode cX4_flowers 9 = .ok (.sipush 144, 3) := by decide +kernel
theorem dX4_flowers_12 : decode cX4_flowers 12 = .ok (.if_icmp .ge 17, 3) := by decide +kernel
theorem dX4_flowers_15 : decode cX4_flowers 15 = .ok (.aload_n 0, 1) := by decide +kernel
theorem dX4_flowers_16 : decode cX4_flowers 16 = .ok (.getfield 47, 3) := by decide +kernel
theorem dX4_flowers_19 : decode cX4_flowers 19 = .ok (.iload 4, 2) := by decide +kernel
theorem dX4_flowers_21 : decode cX4_flowers 21 = .ok (.iconst 0, 1) := by decide +kernel
theorem dX4_flowers_22 : decode cX4_flowers 22 = .ok (.bastore, 1) := by decide +kernel
theorem dX4_flowers_23 : decode cX4_flowers 23 = .ok (.iinc 4 1, 3) := by decide +kernel
theorem dX4_flowers_26 : decode cX4_flowers 26 = .ok (.goto (-19), 3) := by decide +kernel
theorem dX4_flowers_29 : decode cX4_flowers 29 = .ok (.iconst 0, 1) := by decide +kernel
theorem dX4_flowers_30 : decode cX4_flowers 30 = .ok (.istore 4, 2) := by decide +kernel
theorem dX4_flowers_32 : decode cX4_flowers 32 = .ok (.iload 4, 2) := by decide +kernel
theorem dX4_flowers_34 : decode cX4_flowers 34 = .ok (.aload_n 0, 1) := by decide +kernel
theorem dX4_flowers_35 : decode cX4_flowers 35 = .ok (.getfield 13, 3) := by decide +kernel
theorem dX4_flowers_38 : decode cX4_flowers 38 = .ok (.if_icmp .ge 139, 3) := by decide +kernel
theorem dX4_flowers_41 : decode cX4_flowers 41 = .ok (.iconst 0, 1) := by decide +kernel
theorem dX4_flowers_42 : decode cX4_flowers 42 = .ok (.istore 5, 2) := by decide +kernel
theorem dX4_flowers_44 : decode cX4_flowers 44 = .ok (.iload 5, 2) := by decide +kernel
theorem dX4_flowers_46 : decode cX4_flowers 46 = .ok (.aload_n 0, 1) := by decide +kernel
theorem dX4_flowers_47 : decode cX4_flowers 47 = .ok (.getfield 7, 3) := by decide +kernel
theorem dX4_flowers_50 : decode cX4_flowers 50 = .ok (.if_icmp .ge 121, 3) := by decide +kernel
theorem dX4_flowers_53 : decode cX4_flowers 53 = .ok (.aload_n 0, 1) := by decide +kernel
theorem dX4_flowers_54 : decode cX4_flowers 54 = .ok (.iload 5, 2) := by decide +kernel
theorem dX4_flowers_56 : decode cX4_flowers 56 = .ok (.iload 4, 2) := by decide +kernel
theorem dX4_flowers_58 : decode cX4_flowers 58 = .ok (.invokevirtual 73, 3) := by decide +kernel
theorem dX4_flowers_61 : decode cX4_flowers 61 = .ok (.ifCond .eq 104, 3) := by decide +kernel
theorem dX4_flowers_64 : decode cX4_flowers 64 = .ok (.aload_n 0, 1) := by decide +kernel
theorem dX4_flowers_65 : decode cX4_flowers 65 = .ok (.getfield 47, 3) := by decide +kernel
theorem dX4_flowers_68 : decode cX4_flowers 68 = .ok (.bipush 12, 2) := by decide +kernel
theorem dX4_flowers_70 : decode cX4_flowers 70 = .ok (.iload 4, 2) := by decide +kernel
theorem dX4_flowers_72 : decode cX4_flowers 72 = .ok (.imul, 1) := by decide +kernel
theorem dX4_flowers_73 : decode cX4_flowers 73 = .ok (.iload 5, 2) := by decide +kernel
theorem dX4_flowers_75 : decode cX4_flowers 75 = .ok (.iadd, 1) := by decide +kernel
theorem dX4_flowers_76 : decode cX4_flowers 76 = .ok (.baload, 1) := by decide +kernel
theorem dX4_flowers_77 : decode cX4_flowers 77 = .ok (.ifCond .eq 6, 3) := by decide +kernel
theorem dX4_flowers_80 : decode cX4_flowers 80 = .ok (.goto 85, 3) := by decide +kernel
theorem dX4_flowers_83 : decode cX4_flowers 83 = .ok (.iinc 2 1, 3) := by decide +kernel
theorem dX4_flowers_86 : decode cX4_flowers 86 = .ok (.iload_n 3, 1) := by decide +kernel
theorem dX4_flowers_87 : decode cX4_flowers 87 = .ok (.aload_n 0, 1) := by decide +kernel
theorem dX4_flowers_88 : decode cX4_flowers 88 = .ok (.iload 5, 2) := by decide +kernel
theorem dX4_flowers_90 : decode cX4_flowers 90 = .ok (.iload 4, 2) := by decide +kernel
theorem dX4_flowers_92 : decode cX4_flowers 92 = .ok (.invokevirtual 131, 3) := by decide +kernel
theorem dX4_flowers_95 : decode cX4_flowers 95 = .ok (.invokestatic 92, 3) := by decide +kernel
theorem dX4_flowers_98 : decode cX4_flowers 98 = .ok (.istore_n 3, 1) := by decide +kernel
theorem dX4_flowers_99 : decode cX4_flowers 99 = .ok (.iconst 0, 1) := by decide +kernel
theorem dX4_flowers_100 : decode cX4_flowers 100 = .ok (.istore 6, 2) := by decide +kernel
theorem dX4_flowers_102 : decode cX4_flowers 102 = .ok (.iload 6, 2) := by decide +kernel
theorem dX4_flowers_104 : decode cX4_flowers 104 = .ok (.aload_n 0, 1) := by decide +kernel
theorem dX4_flowers_105 : decode cX4_flowers 105 = .ok (.getfield 13, 3) := by decide +kernel
theorem dX4_flowers_108 : decode cX4_flowers 108 = .ok (.if_icmp .ge 57, 3) := by decide +kernel
theorem dX4_flowers_111 : decode cX4_flowers 111 = .ok (.iconst 0, 1) := by decide +kernel
theorem dX4_flowers_112 : decode cX4_flowers 112 = .ok (.istore 7, 2) := by decide +kernel
theorem dX4_flowers_114 : decode cX4_flowers 114 = .ok (.iload 7, 2) := by decide +kernel
theorem dX4_flowers_116 : decode cX4_flowers 116 = .ok (.aload_n 0, 1) := by decide +kernel
theorem dX4_flowers_117 : decode cX4_flowers 117 = .ok (.getfield 7, 3) := by decide +kernel
theorem dX4_flowers_120 : decode cX4_flowers 120 = .ok (.if_icmp .ge 39, 3) := by decide +kernel
theorem dX4_flowers_123 : decode cX4_flowers 123 = .ok (.aload_n 0, 1) := by decide +kernel
theorem dX4_flowers_124 : decode cX4_flowers 124 = .ok (.getfield 41, 3) := by decide +kernel
theorem dX4_flowers_127 : decode cX4_flowers 127 = .ok (.iload 6, 2) := by decide +kernel
theorem dX4_flowers_129 : decode cX4_flowers 129 = .ok (.iaload, 1) := by decide +kernel
theorem dX4_flowers_130 : decode cX4_flowers 130 = .ok (.iload 7, 2) := by decide +kernel
theorem dX4_flowers_132 : decode cX4_flowers 132 = .ok (.ishr, 1) := by decide +kernel
theorem dX4_flowers_133 : decode cX4_flowers 133 = .ok (.iconst 1, 1) := by decide +kernel
theorem dX4_flowers_134 : decode cX4_flowers 134 = .ok (.iand, 1) := by decide +kernel
theorem dX4_flowers_135 : decode cX4_flowers 135 = .ok (.iconst 1, 1) := by decide +kernel
theorem dX4_flowers_136 : decode cX4_flowers 136 = .ok (.if_icmp .ne 17, 3) := by decide +kernel
theorem dX4_flowers_139 : decode cX4_flowers 139 = .ok (.aload_n 0, 1) := by decide +kernel
theorem dX4_flowers_140 : decode cX4_flowers 140 = .ok (.getfield 47, 3) := by decide +kernel
theorem dX4_flowers_143 : decode cX4_flowers 143 = .ok (.bipush 12, 2) := by decide +kernel
theorem dX4_flowers_145 : decode cX4_flowers 145 = .ok (.iload 6, 2) := by decide +kernel
theorem dX4_flowers_147 : decode cX4_flowers 147 = .ok (.imul, 1) := by decide +kernel
theorem dX4_flowers_148 : decode cX4_flowers 148 = .ok (.iload 7, 2) := by decide +kernel
theorem dX4_flowers_150 : decode cX4_flowers 150 = .ok (.iadd, 1) := by decide +kernel
theorem dX4_flowers_151 : decode cX4_flowers 151 = .ok (.iconst 1, 1) := by decide +kernel
theorem dX4_flowers_152 : decode cX4_flowers 152 = .ok (.bastore, 1) := by decide +kernel
theorem dX4_flowers_153 : decode cX4_flowers 153 = .ok (.iinc 7 1, 3) := by decide +kernel
theorem dX4_flowers_156 : decode cX4_flowers 156 = .ok (.goto (-42), 3) := by decide +kernel
theorem dX4_flowers_159 : decode cX4_flowers 159 = .ok (.iinc 6 1, 3) := by decide +kernel
theorem dX4_flowers_162 : decode cX4_flowers 162 = .ok (.goto (-60), 3) := by decide +kernel
theorem dX4_flowers_165 : decode cX4_flowers 165 = .ok (.iinc 5 1, 3) := by decide +kernel
theorem dX4_flowers_168 : decode cX4_flowers 168 = .ok (.goto (-124), 3) := by decide +kernel
theorem dX4_flowers_171 : decode cX4_flowers 171 = .ok (.iinc 4 1, 3) := by decide +kernel
theorem dX4_flowers_174 : decode cX4_flowers 174 = .ok (.goto (-142), 3) := by decide +kernel
theorem dX4_flowers_177 : decode cX4_flowers 177 = .ok (.iload_n 1, 1) := by decide +kernel
theorem dX4_flowers_178 : decode cX4_flowers 178 = .ok (.ifCond .eq 7, 3) := by decide +kernel
theorem dX4_flowers_181 : decode cX4_flowers 181 = .ok (.iload_n 3, 1) := by decide +kernel
theorem dX4_flowers_182 : decode cX4_flowers 182 = .ok (.goto 4, 3) := by decide +kernel
theorem dX4_flowers_185 : decode cX4_flowers 185 = .ok (.iload_n 2, 1) := by decide +kernel
theorem dX4_flowers_186 : decode cX4_flowers 186 = .ok (.ireturn, 1) := by decide +kernel
set_option maxRecDepth 20000 in
theorem ggX4_flowers__X4_flowers : GoodIn wsX4_flowers_ wsX4_flowers := goodIn_r _ [5, 6, 7, 8, 9, 10, 11, 12, 13, 14, 15, 16, 4, 17, 18, 19, 20, 21, 22, 23, 24, 25, 26, 27, 28, 29, 35, 36, 37, 38, 39, 40, 41, 42, 43, 44, 45, 46, 47, 48, 49, 50] (by decide +kernel) (by decide +kernel)
set_option maxRecDepth 20000 in
theorem gX4_flowers__X4_flowers : GoodIn wsX4_flowers_ (wsV RX4 134 RX4 yX4_flowers wsX4_flowers) := goodIn_app (goodIn_of _ (by decide +kernel)) ggX4_flowers__X4_flowers
set_option maxRecDepth 20000 in
theorem ggX4_flowers__X4_ok : GoodIn wsX4_flowers_ wsX4_ok := goodIn_r _ [33, 34, 35, 36, 37, 38, 39, 40, 41, 42, 43, 44, 45, 46, 47, 48, 49, 50] (by decide +kernel) (by decide +kernel)
set_option maxRecDepth 20000 in
theorem gX4_flowers__X4_ok : GoodIn wsX4_flowers_ (wsV RX4 125 RX4 yX4_ok wsX4_ok) := goodIn_app (goodIn_of _ (by decide +kernel)) ggX4_flowers__X4_ok
theorem dX4_flowers__0 : decode cX4_flowers_ 0 = .ok (.aload_n 0, 1) := by decide +kernel
theorem dX4_flowers__1 : decode cX4_flowers_ 1 = .ok (.aload_n 0, 1) := by decide +kernel
theorem dX4_flowers__2 : decode cX4_flowers_ 2 = .ok (.iconst 0, 1) := by decide +kernel
theorem dX4_flowers__3 : decode cX4_flowers_ 3 = .ok (.invokevirtual 134, 3) := by decide +kernel
theorem dX4_flowers__6 : decode cX4_flowers_ 6 = .ok (.invokevirtual 125, 3) := by decide +kernel
theorem dX4_flowers__9 : decode cX4_flowers_ 9 = .ok (.ireturn, 1) := by decide +kernel
set_option maxRecDepth 20000 in
theorem ggX4_largestFlower_X4_flowers : GoodIn wsX4_largestFlower wsX4_flowers := goodIn_r _ [5, 6, 7, 8, 9, 10, 11, 12, 13, 14, 15, 16, 4, 17, 18, 19, 20, 21, 22, 23, 24, 25, 26, 27, 28, 29, 35, 36, 37, 38, 39, 40, 41, 42, 43, 44, 45, 46, 47, 48, 49, 50] (by decide +kernel) (by decide +kernel)
set_option maxRecDepth 20000 in
theorem gX4_largestFlower_X4_flowers : GoodIn wsX4_largestFlower (wsV RX4 134 RX4 yX4_flowers wsX4_flowers) := goodIn_app (goodIn_of _ (by decide +kernel)) ggX4_largestFlower_X4_flowers
set_option maxRecDepth 20000 in
theorem ggX4_largestFlower_X4_ok : GoodIn wsX4_largestFlower wsX4_ok := goodIn_r _ [33, 34, 35, 36, 37, 38, 39, 40, 41, 42, 43, 44, 45, 46, 47, 48, 49, 50] (by decide +kernel) (by decide +kernel)
set_option maxRecDepth 20000 in
theorem gX4_largestFlower_X4_ok : GoodIn wsX4_largestFlower (wsV RX4 125 RX4 yX4_ok wsX4_ok) := goodIn_app (goodIn_of _ (by decide +kernel)) ggX4_largestFlower_X4_ok
theorem dX4_largestFlower_0 : decode cX4_largestFlower 0 = .ok (.aload_n 0, 1) := by decide +kernel
theorem dX4_largestFlower_1 : decode cX4_largestFlower 1 = .ok (.aload_n 0, 1) := by decide +kernel
theorem dX4_largestFlower_2 : decode cX4_largestFlower 2 = .ok (.iconst 1, 1) := by decide +kernel
theorem dX4_largestFlower_3 : decode cX4_largestFlower 3 = .ok (.invokevirtual 134, 3) := by decide +kernel
theorem dX4_largestFlower_6 : decode cX4_largestFlower 6 = .ok (.invokevirtual 125, 3) := by decide +kernel
theorem dX4_largestFlower_9 : decode cX4_largestFlower 9 = .ok (.ireturn, 1) := by decide +kernel
set_option maxRecDepth 20000 in
theorem ggX4_flowerAt_X4_isCell : GoodIn wsX4_flowerAt wsX4_isCell := goodIn_r _ [6, 7, 8, 9, 10, 5, 11, 29, 30, 31, 32, 33, 34, 35, 36, 37, 38, 39, 40, 41, 42, 43, 44] (by decide +kernel) (by decide +kernel)
set_option maxRecDepth 20000 in
theorem gX4_flowerAt_X4_isCell : GoodIn wsX4_flowerAt (wsV RX4 106 RX4 yX4_isCell wsX4_isCell) := goodIn_app (goodIn_of _ (by decide +kernel)) ggX4_flowerAt_X4_isCell
set_option maxRecDepth 20000 in
theorem ggX4_flowerAt_X4_spread : GoodIn wsX4_flowerAt wsX4_spread := goodIn_r _ [15, 8, 16, 17, 18, 19, 20, 21, 22, 23, 24, 29, 30, 31, 32, 33, 34, 35, 36, 37, 38, 39, 40, 41, 42, 43, 44] (by decide +kernel) (by decide +kernel)
set_option maxRecDepth 20000 in
theorem gX4_flowerAt_X4_spread : GoodIn wsX4_flowerAt (wsV RX4 131 RX4 yX4_spread wsX4_spread) := goodIn_app (goodIn_of _ (by decide +kernel)) ggX4_flowerAt_X4_spread
set_option maxRecDepth 20000 in
theorem ggX4_flowerAt_X4_no : GoodIn wsX4_flowerAt wsX4_no := goodIn_r _ [28, 1, 29, 30, 31, 32, 33, 34, 35, 36, 37, 38, 39, 40, 41, 42, 43, 44] (by decide +kernel) (by decide +kernel)
set_option maxRecDepth 20000 in
theorem gX4_flowerAt_X4_no : GoodIn wsX4_flowerAt (wsV RX4 103 RX4 yX4_no wsX4_no) := goodIn_app (goodIn_of _ (by decide +kernel)) ggX4_flowerAt_X4_no
theorem dX4_flowerAt_0 : decode cX4_flowerAt 0 = .ok (.aload_n 0, 1) := by decide +kernel
theorem dX4_flowerAt_1 : decode cX4_flowerAt 1 = .ok (.iconst 0, 1) := by decide +kernel
theorem dX4_flowerAt_2 : decode cX4_flowerAt 2 = .ok (.putfield 51, 3) := by decide +kernel
theorem dX4_flowerAt_5 : decode cX4_flowerAt 5 = .ok (.aload_n 0, 1) := by decide +kernel
theorem dX4_flowerAt_6 : decode cX4_flowerAt 6 = .ok (.iload_n 1, 1) := by decide +kernel
theorem dX4_flowerAt_7 : decode cX4_flowerAt 7 = .ok (.iload_n 2, 1) := by decide +kernel
theorem dX4_flowerAt_8 : decode cX4_flowerAt 8 = .ok (.invokevirtual 106, 3) := by decide +kernel
theorem dX4_flowerAt_11 : decode cX4_flowerAt 11 = .ok (.ifCond .eq 12, 3) := by decide +kernel
theorem dX4_flowerAt_14 : decode cX4_flowerAt 14 = .ok (.aload_n 0, 1) := by decide +kernel
theorem dX4_flowerAt_15 : decode cX4_flowerAt 15 = .ok (.iload_n 1, 1) := by decide +kernel
theorem dX4_flowerAt_16 : decode cX4_flowerAt 16 = .ok (.iload_n 2, 1) := by decide +kernel
theorem dX4_flowerAt_17 : decode cX4_flowerAt 17 = .ok (.invokevirtual 131, 3) := by decide +kernel
theorem dX4_flowerAt_20 : decode cX4_flowerAt 20 = .ok (.goto 8, 3) := by decide +kernel
theorem dX4_flowerAt_23 : decode cX4_flowerAt 23 = .ok (.aload_n 0, 1) := by decide +kernel
theorem dX4_flowerAt_24 : decode cX4_flowerAt 24 = .ok (.iconst 1, 1) := by decide +kernel
theorem dX4_flowerAt_25 : decode cX4_flowerAt 25 = .ok (.invokevirtual 103, 3) := by decide +kernel
theorem dX4_flowerAt_28 : decode cX4_flowerAt 28 = .ok (.ireturn, 1) := by decide +kernel
set_option maxRecDepth 20000 in
theorem ggX4_mirrored_X4_is : GoodIn wsX4_mirrored wsX4_is := goodIn_r _ [7, 8, 9, 10, 11, 12, 13, 14, 15, 16, 17, 18, 19, 20, 21, 22, 23, 24] (by decide +kernel) (by decide +kernel)
set_option maxRecDepth 20000 in
theorem gX4_mirrored_X4_is : GoodIn wsX4_mirrored (wsV RX4 73 RX4 yX4_is wsX4_is) := goodIn_app (goodIn_of _ (by decide +kernel)) ggX4_mirrored_X4_is
theorem dX4_mirrored_0 : decode cX4_mirrored 0 = .ok (.iconst 0, 1) := by decide +kernel
theorem dX4_mirrored_1 : decode cX4_mirrored 1 = .ok (.istore_n 1, 1) := by decide +kernel
theorem dX4_mirrored_2 : decode cX4_mirrored 2 = .ok (.iload_n 1, 1) := by decide +kernel
theorem dX4_mirrored_3 : decode cX4_mirrored 3 = .ok (.aload_n 0, 1) := by decide +kernel
theorem dX4_mirrored_4 : decode cX4_mirrored 4 = .ok (.getfield 13, 3) := by decide +kernel
theorem dX4_mirrored_7 : decode cX4_mirrored 7 = .ok (.if_icmp .ge 49, 3) := by decide +kernel
theorem dX4_mirrored_10 : decode cX4_mirrored 10 = .ok (.iconst 0, 1) := by decide +kernel
theorem dX4_mirrored_11 : decode cX4_mirrored 11 = .ok (.istore_n 2, 1) := by decide +kernel
theorem dX4_mirrored_12 : decode cX4_mirrored 12 = .ok (.iload_n 2, 1) := by decide +kernel
theorem dX4_mirrored_13 : decode cX4_mirrored 13 = .ok (.aload_n 0, 1) := by decide +kernel
theorem dX4_mirrored_14 : decode cX4_mirrored 14 = .ok (.getfield 7, 3) := by decide +kernel
theorem dX4_mirrored_17 : decode cX4_mirrored 17 = .ok (.if_icmp .ge 33, 3) := by decide +kernel
theorem dX4_mirrored_20 : decode cX4_mirrored 20 = .ok (.aload_n 0, 1) := by decide +kernel
theorem dX4_mirrored_21 : decode cX4_mirrored 21 = .ok (.iload_n 2, 1) := by decide +kernel
theorem dX4_mirrored_22 : decode cX4_mirrored 22 = .ok (.iload_n 1, 1) := by decide +kernel
theorem dX4_mirrored_23 : decode cX4_mirrored 23 = .ok (.invokevirtual 73, 3) := by decide +kernel
theorem dX4_mirrored_26 : decode cX4_mirrored 26 = .ok (.aload_n 0, 1) := by decide +kernel
theorem dX4_mirrored_27 : decode cX4_mirrored 27 = .ok (.aload_n 0, 1) := by decide +kernel
theorem dX4_mirrored_28 : decode cX4_mirrored 28 = .ok (.getfield 7, 3) := by decide +kernel
theorem dX4_mirrored_31 : decode cX4_mirrored 31 = .ok (.iconst 1, 1) := by decide +kernel
theorem dX4_mirrored_32 : decode cX4_mirrored 32 = .ok (.isub, 1) := by decide +kernel
theorem dX4_mirrored_33 : decode cX4_mirrored 33 = .ok (.iload_n 2, 1) := by decide +kernel
theorem dX4_mirrored_34 : decode cX4_mirrored 34 = .ok (.isub, 1) := by decide +kernel
theorem dX4_mirrored_35 : decode cX4_mirrored 35 = .ok (.iload_n 1, 1) := by decide +kernel
theorem dX4_mirrored_36 : decode cX4_mirrored 36 = .ok (.invokevirtual 73, 3) := by decide +kernel
theorem dX4_mirrored_39 : decode cX4_mirrored 39 = .ok (.if_icmp .eq 5, 3) := by decide +kernel
theorem dX4_mirrored_42 : decode cX4_mirrored 42 = .ok (.iconst 0, 1) := by decide +kernel
theorem dX4_mirrored_43 : decode cX4_mirrored 43 = .ok (.ireturn, 1) := by decide +kernel
theorem dX4_mirrored_44 : decode cX4_mirrored 44 = .ok (.iinc 2 1, 3) := by decide +kernel
theorem dX4_mirrored_47 : decode cX4_mirrored 47 = .ok (.goto (-35), 3) := by decide +kernel
theorem dX4_mirrored_50 : decode cX4_mirrored 50 = .ok (.iinc 1 1, 3) := by decide +kernel
theorem dX4_mirrored_53 : decode cX4_mirrored 53 = .ok (.goto (-51), 3) := by decide +kernel
theorem dX4_mirrored_56 : decode cX4_mirrored 56 = .ok (.iconst 1, 1) := by decide +kernel
theorem dX4_mirrored_57 : decode cX4_mirrored 57 = .ok (.ireturn, 1) := by decide +kernel
set_option maxRecDepth 20000 in
theorem ggX4_isMirrored_X4_mirrored : GoodIn wsX4_isMirrored wsX4_mirrored := goodIn_r _ [6, 7, 8, 9, 10, 11, 5, 12, 13, 14, 15, 16, 17, 18, 19, 20, 21, 22, 23, 24, 25, 26, 27, 28, 29] (by decide +kernel) (by decide +kernel)
set_option maxRecDepth 20000 in
theorem gX4_isMirrored_X4_mirrored : GoodIn wsX4_isMirrored (wsV RX4 138 RX4 yX4_mirrored wsX4_mirrored) := goodIn_app (goodIn_of _ (by decide +kernel)) ggX4_isMirrored_X4_mirrored
theorem dX4_isMirrored_0 : decode cX4_isMirrored 0 = .ok (.aload_n 0, 1) := by decide +kernel
theorem dX4_isMirrored_1 : decode cX4_isMirrored 1 = .ok (.iconst 0, 1) := by decide +kernel
theorem dX4_isMirrored_2 : decode cX4_isMirrored 2 = .ok (.putfield 51, 3) := by decide +kernel
theorem dX4_isMirrored_5 : decode cX4_isMirrored 5 = .ok (.aload_n 0, 1) := by decide +kernel
theorem dX4_isMirrored_6 : decode cX4_isMirrored 6 = .ok (.invokevirtual 138, 3) := by decide +kernel
theorem dX4_isMirrored_9 : decode cX4_isMirrored 9 = .ok (.ireturn, 1) := by decide +kernel
set_option maxRecDepth 20000 in
theorem ggX4_behind_X4_keep : GoodIn wsX4_behind wsX4_keep := goodIn_r _ [5, 6, 7, 8, 9, 10, 11, 12, 13, 73, 74, 75, 76, 77, 78, 79, 80, 81, 82, 83, 84, 85, 86, 87, 88] (by decide +kernel) (by decide +kernel)
set_option maxRecDepth 20000 in
theorem gX4_behind_X4_keep : GoodIn wsX4_behind (wsV RX4 142 RX4 yX4_keep wsX4_keep) := goodIn_app (goodIn_of _ (by decide +kernel)) ggX4_behind_X4_keep
set_option maxRecDepth 20000 in
theorem ggX4_behind_X4_growOn : GoodIn wsX4_behind wsX4_growOn := goodIn_r _ [17, 18, 19, 6, 8, 9, 10, 11, 12, 20, 21, 22, 23, 24, 25, 26, 4, 27, 28, 29, 30, 31, 32, 33, 34, 35, 36, 37, 38, 39, 40, 41, 42, 43, 44, 45, 46, 47, 48, 49, 50, 51, 52, 53, 54, 55, 56, 57, 73, 74, 75, 76, 77, 78, 79, 80, 81, 82, 83, 84, 85, 86, 87, 88] (by decide +kernel) (by decide +kernel)
set_option maxRecDepth 20000 in
theorem gX4_behind_X4_growOn : GoodIn wsX4_behind (wsV RX4 116 RX4 yX4_growOn wsX4_growOn) := goodIn_app (goodIn_of _ (by decide +kernel)) ggX4_behind_X4_growOn
set_option maxRecDepth 20000 in
theorem ggX4_behind_X4_all : GoodIn wsX4_behind wsX4_all := goodIn_r _ [61, 18, 6, 62, 63, 64, 65, 66, 67, 68, 73, 74, 75, 76, 77, 78, 79, 80, 81, 82, 83, 84, 85, 86, 87, 88] (by decide +kernel) (by decide +kernel)
set_option maxRecDepth 20000 in
theorem gX4_behind_X4_all : GoodIn wsX4_behind (wsV RX4 122 RX4 yX4_all wsX4_all) := goodIn_app (goodIn_of _ (by decide +kernel)) ggX4_behind_X4_all
set_option maxRecDepth 20000 in
theorem ggX4_behind_X4_bringBack : GoodIn wsX4_behind wsX4_bringBack := goodIn_r _ [72, 7, 6, 8, 9, 10, 11, 13, 12, 73, 74, 75, 76, 77, 78, 79, 80, 81, 82, 83, 84, 85, 86, 87, 88] (by decide +kernel) (by decide +kernel)
set_option maxRecDepth 20000 in
theorem gX4_behind_X4_bringBack : GoodIn wsX4_behind (wsV RX4 145 RX4 yX4_bringBack wsX4_bringBack) := goodIn_app (goodIn_of _ (by decide +kernel)) ggX4_behind_X4_bringBack
theorem dX4_behind_0 : decode cX4_behind 0 = .ok (.aload_n 0, 1) := by decide +kernel
theorem dX4_behind_1 : decode cX4_behind 1 = .ok (.invokevirtual 142, 3) := by decide +kernel
theorem dX4_behind_4 : decode cX4_behind 4 = .ok (.iconst 0, 1) := by decide +kernel
theorem dX4_behind_5 : decode cX4_behind 5 = .ok (.istore_n 2, 1) := by decide +kernel
theorem dX4_behind_6 : decode cX4_behind 6 = .ok (.iload_n 2, 1) := by decide +kernel
theorem dX4_behind_7 : decode cX4_behind 7 = .ok (.iload_n 1, 1) := by decide +kernel
theorem dX4_behind_8 : decode cX4_behind 8 = .ok (.if_icmp .ge 13, 3) := by decide +kernel
theorem dX4_behind_11 : decode cX4_behind 11 = .ok (.aload_n 0, 1) := by decide +kernel
theorem dX4_behind_12 : decode cX4_behind 12 = .ok (.invokevirtual 116, 3) := by decide +kernel
theorem dX4_behind_15 : decode cX4_behind 15 = .ok (.iinc 2 1, 3) := by decide +kernel
theorem dX4_behind_18 : decode cX4_behind 18 = .ok (.goto (-12), 3) := by decide +kernel
theorem dX4_behind_21 : decode cX4_behind 21 = .ok (.aload_n 0, 1) := by decide +kernel
theorem dX4_behind_22 : decode cX4_behind 22 = .ok (.invokevirtual 122, 3) := by decide +kernel
theorem dX4_behind_25 : decode cX4_behind 25 = .ok (.istore_n 2, 1) := by decide +kernel
theorem dX4_behind_26 : decode cX4_behind 26 = .ok (.aload_n 0, 1) := by decide +kernel
theorem dX4_behind_27 : decode cX4_behind 27 = .ok (.invokevirtual 145, 3) := by decide +kernel
theorem dX4_behind_30 : decode cX4_behind 30 = .ok (.iload_n 2, 1) := by decide +kernel
theorem dX4_behind_31 : decode cX4_behind 31 = .ok (.ireturn, 1) := by decide +kernel
set_option maxRecDepth 20000 in
theorem ggX4_frozenIn_X4_isIn : GoodIn wsX4_frozenIn wsX4_isIn := goodIn_r _ [5] (by decide +kernel) (by decide +kernel)
set_option maxRecDepth 20000 in
theorem gX4_frozenIn_X4_isIn : GoodIn wsX4_frozenIn (va_wsS RX4 54 yX4_isIn wsX4_isIn) := goodIn_app (goodIn_of _ (by decide +kernel)) ggX4_frozenIn_X4_isIn
set_option maxRecDepth 20000 in
theorem ggX4_frozenIn_X4_behind : GoodIn wsX4_frozenIn wsX4_behind := goodIn_r _ [9, 10, 11, 12, 4, 13, 14, 15, 16, 17, 18, 19, 20, 21, 22, 23, 24, 25, 26, 27, 28, 29, 30, 31, 32, 33, 34, 35, 36, 37, 38, 39, 40, 41, 42, 43, 44, 45, 46, 47, 48, 49, 50, 51, 52, 53, 54, 55, 56, 57, 58, 59, 60, 61, 62, 63, 64, 65, 66, 67, 68, 69, 70, 71, 72, 73, 74, 75, 76, 77, 78, 79, 80, 85, 86, 87, 88, 89, 90, 91, 92, 93, 94, 95, 96, 97, 98, 99, 100] (by decide +kernel) (by decide +kernel)
set_option maxRecDepth 20000 in
theorem gX4_frozenIn_X4_behind : GoodIn wsX4_frozenIn (wsV RX4 148 RX4 yX4_behind wsX4_behind) := goodIn_app (goodIn_of _ (by decide +kernel)) ggX4_frozenIn_X4_behind
set_option maxRecDepth 20000 in
theorem ggX4_frozenIn_X4_no : GoodIn wsX4_frozenIn wsX4_no := goodIn_r _ [84, 1, 85, 86, 87, 88, 89, 90, 91, 92, 93, 94, 95, 96, 97, 98, 99, 100] (by decide +kernel) (by decide +kernel)
set_option maxRecDepth 20000 in
theorem gX4_frozenIn_X4_no : GoodIn wsX4_frozenIn (wsV RX4 103 RX4 yX4_no wsX4_no) := goodIn_app (goodIn_of _ (by decide +kernel)) ggX4_frozenIn_X4_no
theorem dX4_frozenIn_0 : decode cX4_frozenIn 0 = .ok (.aload_n 0, 1) := by decide +kernel
theorem dX4_frozenIn_1 : decode cX4_frozenIn 1 = .ok (.iconst 0, 1) := by decide +kernel
theorem dX4_frozenIn_2 : decode cX4_frozenIn 2 = .ok (.putfield 51, 3) := by decide +kernel
theorem dX4_frozenIn_5 : decode cX4_frozenIn 5 = .ok (.iload_n 1, 1) := by decide +kernel
theorem dX4_frozenIn_6 : decode cX4_frozenIn 6 = .ok (.iconst 1, 1) := by decide +kernel
theorem dX4_frozenIn_7 : decode cX4_frozenIn 7 = .ok (.bipush 60, 2) := by decide +kernel
theorem dX4_frozenIn_9 : decode cX4_frozenIn 9 = .ok (.invokestatic 54, 3) := by decide +kernel
theorem dX4_frozenIn_12 : decode cX4_frozenIn 12 = .ok (.ifCond .eq 11, 3) := by decide +kernel
theorem dX4_frozenIn_15 : decode cX4_frozenIn 15 = .ok (.aload_n 0, 1) := by decide +kernel
theorem dX4_frozenIn_16 : decode cX4_frozenIn 16 = .ok (.iload_n 1, 1) := by decide +kernel
theorem dX4_frozenIn_17 : decode cX4_frozenIn 17 = .ok (.invokevirtual 148, 3) := by decide +kernel
theorem dX4_frozenIn_20 : decode cX4_frozenIn 20 = .ok (.goto 8, 3) := by decide +kernel
theorem dX4_frozenIn_23 : decode cX4_frozenIn 23 = .ok (.aload_n 0, 1) := by decide +kernel
theorem dX4_frozenIn_24 : decode cX4_frozenIn 24 = .ok (.iconst 1, 1) := by decide +kernel
theorem dX4_frozenIn_25 : decode cX4_frozenIn 25 = .ok (.invokevirtual 103, 3) := by decide +kernel
theorem dX4_frozenIn_28 : decode cX4_frozenIn 28 = .ok (.ireturn, 1) := by decide +kernel
theorem dX4_isAsKept_0 : decode cX4_isAsKept 0 = .ok (.iconst 0, 1) := by decide +kernel
theorem dX4_isAsKept_1 : decode cX4_isAsKept 1 = .ok (.istore_n 1, 1) := by decide +kernel
theorem dX4_isAsKept_2 : decode cX4_isAsKept 2 = .ok (.iload_n 1, 1) := by decide +kernel
theorem dX4_isAsKept_3 : decode cX4_isAsKept 3 = .ok (.aload_n 0, 1) := by decide +kernel
theorem dX4_isAsKept_4 : decode cX4_isAsKept 4 = .ok (.getfield 13, 3) := by decide +kernel
theorem dX4_isAsKept_7 : decode cX4_isAsKept 7 = .ok (.if_icmp .ge 26, 3) := by decide +kernel
theorem dX4_isAsKept_10 : decode cX4_isAsKept 10 = .ok (.aload_n 0, 1) := by decide +kernel
theorem dX4_isAsKept_11 : decode cX4_isAsKept 11 = .ok (.getfield 29, 3) := by decide +kernel
theorem dX4_isAsKept_14 : decode cX4_isAsKept 14 = .ok (.iload_n 1, 1) := by decide +kernel
theorem dX4_isAsKept_15 : decode cX4_isAsKept 15 = .ok (.iaload, 1) := by decide +kernel
theorem dX4_isAsKept_16 : decode cX4_isAsKept 16 = .ok (.aload_n 0, 1) := by decide +kernel
theorem dX4_isAsKept_17 : decode cX4_isAsKept 17 = .ok (.getfield 35, 3) := by decide +kernel
theorem dX4_isAsKept_20 : decode cX4_isAsKept 20 = .ok (.iload_n 1, 1) := by decide +kernel
theorem dX4_isAsKept_21 : decode cX4_isAsKept 21 = .ok (.iaload, 1) := by decide +kernel
theorem dX4_isAsKept_22 : decode cX4_isAsKept 22 = .ok (.if_icmp .eq 5, 3) := by decide +kernel
theorem dX4_isAsKept_25 : decode cX4_isAsKept 25 = .ok (.iconst 0, 1) := by decide +kernel
theorem dX4_isAsKept_26 : decode cX4_isAsKept 26 = .ok (.ireturn, 1) := by decide +kernel
theorem dX4_isAsKept_27 : decode cX4_isAsKept 27 = .ok (.iinc 1 1, 3) := by decide +kernel
theorem dX4_isAsKept_30 : decode cX4_isAsKept 30 = .ok (.goto (-28), 3) := by decide +kernel
theorem dX4_isAsKept_33 : decode cX4_isAsKept 33 = .ok (.iconst 0, 1) := by decide +kernel
theorem dX4_isAsKept_34 : decode cX4_isAsKept 34 = .ok (.istore_n 1, 1) := by decide +kernel
theorem dX4_isAsKept_35 : decode cX4_isAsKept 35 = .ok (.iload_n 1, 1) := by decide +kernel
theorem dX4_isAsKept_36 : decode cX4_isAsKept 36 = .ok (.sipush 144, 3) := by decide +kernel
theorem dX4_isAsKept_39 : decode cX4_isAsKept 39 = .ok (.if_icmp .ge 26, 3) := by decide +kernel
theorem dX4_isAsKept_42 : decode cX4_isAsKept 42 = .ok (.aload_n 0, 1) := by decide +kernel
theorem dX4_isAsKept_43 : decode cX4_isAsKept 43 = .ok (.getfield 32, 3) := by decide +kernel
theorem dX4_isAsKept_46 : decode cX4_isAsKept 46 = .ok (.iload_n 1, 1) := by decide +kernel
theorem dX4_isAsKept_47 : decode cX4_isAsKept 47 = .ok (.iaload, 1) := by decide +kernel
theorem dX4_isAsKept_48 : decode cX4_isAsKept 48 = .ok (.aload_n 0, 1) := by decide +kernel
theorem dX4_isAsKept_49 : decode cX4_isAsKept 49 = .ok (.getfield 38, 3) := by decide +kernel
theorem dX4_isAsKept_52 : decode cX4_isAsKept 52 = .ok (.iload_n 1, 1) := by decide +kernel
theorem dX4_isAsKept_53 : decode cX4_isAsKept 53 = .ok (.iaload, 1) := by decide +kernel
theorem dX4_isAsKept_54 : decode cX4_isAsKept 54 = .ok (.if_icmp .eq 5, 3) := by decide +kernel
theorem dX4_isAsKept_57 : decode cX4_isAsKept 57 = .ok (.iconst 0, 1) := by decide +kernel
theorem dX4_isAsKept_58 : decode cX4_isAsKept 58 = .ok (.ireturn, 1) := by decide +kernel
theorem dX4_isAsKept_59 : decode cX4_isAsKept 59 = .ok (.iinc 1 1, 3) := by decide +kernel
theorem dX4_isAsKept_62 : decode cX4_isAsKept 62 = .ok (.goto (-27), 3) := by decide +kernel
theorem dX4_isAsKept_65 : decode cX4_isAsKept 65 = .ok (.iconst 1, 1) := by decide +kernel
theorem dX4_isAsKept_66 : decode cX4_isAsKept 66 = .ok (.ireturn, 1) := by decide +kernel
set_option maxRecDepth 20000 in
theorem ggX4_again_X4_keep : GoodIn wsX4_again wsX4_keep := goodIn_r _ [5, 6, 7, 8, 9, 10, 11, 12, 13, 66, 67, 68, 69, 70, 71, 72, 73, 74, 75, 76, 77, 78, 79, 80, 81] (by decide +kernel) (by decide +kernel)
set_option maxRecDepth 20000 in
theorem gX4_again_X4_keep : GoodIn wsX4_again (wsV RX4 142 RX4 yX4_keep wsX4_keep) := goodIn_app (goodIn_of _ (by decide +kernel)) ggX4_again_X4_keep
set_option maxRecDepth 20000 in
theorem ggX4_again_X4_growOn : GoodIn wsX4_again wsX4_growOn := goodIn_r _ [17, 18, 19, 6, 8, 9, 10, 11, 12, 20, 21, 22, 23, 24, 25, 26, 4, 27, 28, 29, 30, 31, 32, 33, 34, 35, 36, 37, 38, 39, 40, 41, 42, 43, 44, 45, 46, 47, 48, 49, 50, 51, 52, 53, 54, 55, 56, 57, 66, 67, 68, 69, 70, 71, 72, 73, 74, 75, 76, 77, 78, 79, 80, 81] (by decide +kernel) (by decide +kernel)
set_option maxRecDepth 20000 in
theorem gX4_again_X4_growOn : GoodIn wsX4_again (wsV RX4 116 RX4 yX4_growOn wsX4_growOn) := goodIn_app (goodIn_of _ (by decide +kernel)) ggX4_again_X4_growOn
set_option maxRecDepth 20000 in
theorem ggX4_again_X4_isAsKept : GoodIn wsX4_again wsX4_isAsKept := goodIn_r _ [61, 18, 6, 7, 12, 13, 66, 67, 68, 69, 70, 71, 72, 73, 74, 75, 76, 77, 78, 79, 80, 81] (by decide +kernel) (by decide +kernel)
set_option maxRecDepth 20000 in
theorem gX4_again_X4_isAsKept : GoodIn wsX4_again (wsV RX4 151 RX4 yX4_isAsKept wsX4_isAsKept) := goodIn_app (goodIn_of _ (by decide +kernel)) ggX4_again_X4_isAsKept
set_option maxRecDepth 20000 in
theorem ggX4_again_X4_bringBack : GoodIn wsX4_again wsX4_bringBack := goodIn_r _ [65, 7, 6, 8, 9, 10, 11, 13, 12, 66, 67, 68, 69, 70, 71, 72, 73, 74, 75, 76, 77, 78, 79, 80, 81] (by decide +kernel) (by decide +kernel)
set_option maxRecDepth 20000 in
theorem gX4_again_X4_bringBack : GoodIn wsX4_again (wsV RX4 145 RX4 yX4_bringBack wsX4_bringBack) := goodIn_app (goodIn_of _ (by decide +kernel)) ggX4_again_X4_bringBack
theorem dX4_again_0 : decode cX4_again 0 = .ok (.aload_n 0, 1) := by decide +kernel
theorem dX4_again_1 : decode cX4_again 1 = .ok (.invokevirtual 142, 3) := by decide +kernel
theorem dX4_again_4 : decode cX4_again 4 = .ok (.iconst (-1), 1) := by decide +kernel
theorem dX4_again_5 : decode cX4_again 5 = .ok (.istore_n 1, 1) := by decide +kernel
theorem dX4_again_6 : decode cX4_again 6 = .ok (.iconst 1, 1) := by decide +kernel
theorem dX4_again_7 : decode cX4_again 7 = .ok (.istore_n 2, 1) := by decide +kernel
theorem dX4_again_8 : decode cX4_again 8 = .ok (.iload_n 2, 1) := by decide +kernel
theorem dX4_again_9 : decode cX4_again 9 = .ok (.bipush 40, 2) := by decide +kernel
theorem dX4_again_11 : decode cX4_again 11 = .ok (.if_icmp .gt 27, 3) := by decide +kernel
theorem dX4_again_14 : decode cX4_again 14 = .ok (.iload_n 1, 1) := by decide +kernel
theorem dX4_again_15 : decode cX4_again 15 = .ok (.iconst (-1), 1) := by decide +kernel
theorem dX4_again_16 : decode cX4_again 16 = .ok (.if_icmp .ne 22, 3) := by decide +kernel
theorem dX4_again_19 : decode cX4_again 19 = .ok (.aload_n 0, 1) := by decide +kernel
theorem dX4_again_20 : decode cX4_again 20 = .ok (.invokevirtual 116, 3) := by decide +kernel
theorem dX4_again_23 : decode cX4_again 23 = .ok (.aload_n 0, 1) := by decide +kernel
theorem dX4_again_24 : decode cX4_again 24 = .ok (.invokevirtual 151, 3) := by decide +kernel
theorem dX4_again_27 : decode cX4_again 27 = .ok (.ifCond .eq 5, 3) := by decide +kernel
theorem dX4_again_30 : decode cX4_again 30 = .ok (.iload_n 2, 1) := by decide +kernel
theorem dX4_again_31 : decode cX4_again 31 = .ok (.istore_n 1, 1) := by decide +kernel
theorem dX4_again_32 : decode cX4_again 32 = .ok (.iinc 2 1, 3) := by decide +kernel
theorem dX4_again_35 : decode cX4_again 35 = .ok (.goto (-27), 3) := by decide +kernel
theorem dX4_again_38 : decode cX4_again 38 = .ok (.aload_n 0, 1) := by decide +kernel
theorem dX4_again_39 : decode cX4_again 39 = .ok (.invokevirtual 145, 3) := by decide +kernel
theorem dX4_again_42 : decode cX4_again 42 = .ok (.iload_n 1, 1) := by decide +kernel
theorem dX4_again_43 : decode cX4_again 43 = .ok (.ireturn, 1) := by decide +kernel
set_option maxRecDepth 20000 in
theorem ggX4_comesAgainIn_X4_again : GoodIn wsX4_comesAgainIn wsX4_again := goodIn_r _ [5, 6, 7, 8, 4, 9, 10, 11, 12, 13, 14, 15, 16, 17, 18, 19, 20, 21, 22, 23, 24, 25, 26, 27, 28, 29, 30, 31, 32, 33, 34, 35, 36, 37, 38, 39, 40, 41, 42, 43, 44, 45, 46, 47, 48, 49, 50, 51, 52, 53, 54, 55, 56, 57, 58, 59, 60, 61, 62, 63, 64, 65, 66, 67, 68, 69, 75, 76, 77, 78, 79, 80, 81, 82, 83, 84, 85, 86, 87, 88, 89, 90] (by decide +kernel) (by decide +kernel)
set_option maxRecDepth 20000 in
theorem gX4_comesAgainIn_X4_again : GoodIn wsX4_comesAgainIn (wsV RX4 154 RX4 yX4_again wsX4_again) := goodIn_app (goodIn_of _ (by decide +kernel)) ggX4_comesAgainIn_X4_again
set_option maxRecDepth 20000 in
theorem ggX4_comesAgainIn_X4_ok : GoodIn wsX4_comesAgainIn wsX4_ok := goodIn_r _ [73, 74, 75, 76, 77, 78, 79, 80, 81, 82, 83, 84, 85, 86, 87, 88, 89, 90] (by decide +kernel) (by decide +kernel)
set_option maxRecDepth 20000 in
theorem gX4_comesAgainIn_X4_ok : GoodIn wsX4_comesAgainIn (wsV RX4 125 RX4 yX4_ok wsX4_ok) := goodIn_app (goodIn_of _ (by decide +kernel)) ggX4_comesAgainIn_X4_ok
theorem dX4_comesAgainIn_0 : decode cX4_comesAgainIn 0 = .ok (.aload_n 0, 1) := by decide +kernel
theorem dX4_comesAgainIn_1 : decode cX4_comesAgainIn 1 = .ok (.aload_n 0, 1) := by decide +kernel
theorem dX4_comesAgainIn_2 : decode cX4_comesAgainIn 2 = .ok (.invokevirtual 154, 3) := by decide +kernel
theorem dX4_comesAgainIn_5 : decode cX4_comesAgainIn 5 = .ok (.invokevirtual 125, 3) := by decide +kernel
theorem dX4_comesAgainIn_8 : decode cX4_comesAgainIn 8 = .ok (.ireturn, 1) := by decide +kernel
set_option maxRecDepth 20000 in
theorem ggX4_isStill_X4_manyMelted : GoodIn wsX4_isStill wsX4_manyMelted := goodIn_r _ [7, 8, 43, 44, 45, 46, 47, 48, 49, 50, 51, 52, 53, 54, 55, 56, 57, 58] (by decide +kernel) (by decide +kernel)
set_option maxRecDepth 20000 in
theorem gX4_isStill_X4_manyMelted : GoodIn wsX4_isStill (wsV RX4 128 RX4 yX4_manyMelted wsX4_manyMelted) := goodIn_app (goodIn_of _ (by decide +kernel)) ggX4_isStill_X4_manyMelted
set_option maxRecDepth 20000 in
theorem ggX4_isStill_X4_grown : GoodIn wsX4_isStill wsX4_grown := goodIn_r _ [12, 13, 14, 15, 16, 8, 17, 18, 19, 6, 20, 21, 22, 23, 24, 25, 1, 26, 2, 27, 28, 29, 30, 31, 32, 33, 34, 35, 36, 37, 38, 39, 40, 41, 42, 43, 44, 45, 46, 47, 48, 49, 50, 51, 52, 53, 54, 55, 56, 57, 58] (by decide +kernel) (by decide +kernel)
set_option maxRecDepth 20000 in
theorem gX4_isStill_X4_grown : GoodIn wsX4_isStill (wsV RX4 83 RX4 yX4_grown wsX4_grown) := goodIn_app (goodIn_of _ (by decide +kernel)) ggX4_isStill_X4_grown
theorem dX4_isStill_0 : decode cX4_isStill 0 = .ok (.aload_n 0, 1) := by decide +kernel
theorem dX4_isStill_1 : decode cX4_isStill 1 = .ok (.invokevirtual 128, 3) := by decide +kernel
theorem dX4_isStill_4 : decode cX4_isStill 4 = .ok (.ifCond .le 5, 3) := by decide +kernel
theorem dX4_isStill_7 : decode cX4_isStill 7 = .ok (.iconst 0, 1) := by decide +kernel
theorem dX4_isStill_8 : decode cX4_isStill 8 = .ok (.ireturn, 1) := by decide +kernel
theorem dX4_isStill_9 : decode cX4_isStill 9 = .ok (.iconst 0, 1) := by decide +kernel
theorem dX4_isStill_10 : decode cX4_isStill 10 = .ok (.istore_n 1, 1) := by decide +kernel
theorem dX4_isStill_11 : decode cX4_isStill 11 = .ok (.iload_n 1, 1) := by decide +kernel
theorem dX4_isStill_12 : decode cX4_isStill 12 = .ok (.aload_n 0, 1) := by decide +kernel
theorem dX4_isStill_13 : decode cX4_isStill 13 = .ok (.getfield 13, 3) := by decide +kernel
theorem dX4_isStill_16 : decode cX4_isStill 16 = .ok (.if_icmp .ge 25, 3) := by decide +kernel
theorem dX4_isStill_19 : decode cX4_isStill 19 = .ok (.aload_n 0, 1) := by decide +kernel
theorem dX4_isStill_20 : decode cX4_isStill 20 = .ok (.iload_n 1, 1) := by decide +kernel
theorem dX4_isStill_21 : decode cX4_isStill 21 = .ok (.invokevirtual 83, 3) := by decide +kernel
theorem dX4_isStill_24 : decode cX4_isStill 24 = .ok (.aload_n 0, 1) := by decide +kernel
theorem dX4_isStill_25 : decode cX4_isStill 25 = .ok (.getfield 29, 3) := by decide +kernel
theorem dX4_isStill_28 : decode cX4_isStill 28 = .ok (.iload_n 1, 1) := by decide +kernel
theorem dX4_isStill_29 : decode cX4_isStill 29 = .ok (.iaload, 1) := by decide +kernel
theorem dX4_isStill_30 : decode cX4_isStill 30 = .ok (.if_icmp .eq 5, 3) := by decide +kernel
theorem dX4_isStill_33 : decode cX4_isStill 33 = .ok (.iconst 0, 1) := by decide +kernel
theorem dX4_isStill_34 : decode cX4_isStill 34 = .ok (.ireturn, 1) := by decide +kernel
theorem dX4_isStill_35 : decode cX4_isStill 35 = .ok (.iinc 1 1, 3) := by decide +kernel
theorem dX4_isStill_38 : decode cX4_isStill 38 = .ok (.goto (-27), 3) := by decide +kernel
theorem dX4_isStill_41 : decode cX4_isStill 41 = .ok (.iconst 1, 1) := by decide +kernel
theorem dX4_isStill_42 : decode cX4_isStill 42 = .ok (.ireturn, 1) := by decide +kernel
set_option maxRecDepth 20000 in
theorem ggX4_still_X4_keep : GoodIn wsX4_still wsX4_keep := goodIn_r _ [5, 6, 7, 8, 9, 10, 11, 12, 13, 70, 71, 72, 73, 74, 75, 76, 77, 78, 79, 80, 81, 82, 83, 84, 85] (by decide +kernel) (by decide +kernel)
set_option maxRecDepth 20000 in
theorem gX4_still_X4_keep : GoodIn wsX4_still (wsV RX4 142 RX4 yX4_keep wsX4_keep) := goodIn_app (goodIn_of _ (by decide +kernel)) ggX4_still_X4_keep
set_option maxRecDepth 20000 in
theorem ggX4_still_X4_isStill : GoodIn wsX4_still wsX4_isStill := goodIn_r _ [17, 18, 6, 19, 20, 21, 4, 22, 12, 23, 24, 25, 26, 27, 28, 29, 30, 31, 32, 33, 34, 35, 36, 37, 38, 39, 40, 41, 42, 43, 44, 45, 46, 47, 48, 49, 50, 51, 52, 53, 54, 55, 56, 70, 71, 72, 73, 74, 75, 76, 77, 78, 79, 80, 81, 82, 83, 84, 85] (by decide +kernel) (by decide +kernel)
set_option maxRecDepth 20000 in
theorem gX4_still_X4_isStill : GoodIn wsX4_still (wsV RX4 157 RX4 yX4_isStill wsX4_isStill) := goodIn_app (goodIn_of _ (by decide +kernel)) ggX4_still_X4_isStill
set_option maxRecDepth 20000 in
theorem ggX4_still_X4_growOn : GoodIn wsX4_still wsX4_growOn := goodIn_r _ [60, 18, 61, 6, 8, 9, 10, 11, 12, 62, 63, 64, 65, 23, 24, 25, 4, 26, 27, 28, 29, 30, 31, 32, 33, 34, 35, 36, 37, 38, 39, 40, 41, 42, 43, 44, 45, 46, 47, 48, 49, 50, 51, 52, 53, 54, 55, 56, 70, 71, 72, 73, 74, 75, 76, 77, 78, 79, 80, 81, 82, 83, 84, 85] (by decide +kernel) (by decide +kernel)
set_option maxRecDepth 20000 in
theorem gX4_still_X4_growOn : GoodIn wsX4_still (wsV RX4 116 RX4 yX4_growOn wsX4_growOn) := goodIn_app (goodIn_of _ (by decide +kernel)) ggX4_still_X4_growOn
set_option maxRecDepth 20000 in
theorem ggX4_still_X4_bringBack : GoodIn wsX4_still wsX4_bringBack := goodIn_r _ [69, 7, 6, 8, 9, 10, 11, 13, 12, 70, 71, 72, 73, 74, 75, 76, 77, 78, 79, 80, 81, 82, 83, 84, 85] (by decide +kernel) (by decide +kernel)
set_option maxRecDepth 20000 in
theorem gX4_still_X4_bringBack : GoodIn wsX4_still (wsV RX4 145 RX4 yX4_bringBack wsX4_bringBack) := goodIn_app (goodIn_of _ (by decide +kernel)) ggX4_still_X4_bringBack
theorem dX4_still_0 : decode cX4_still 0 = .ok (.aload_n 0, 1) := by decide +kernel
theorem dX4_still_1 : decode cX4_still 1 = .ok (.invokevirtual 142, 3) := by decide +kernel
theorem dX4_still_4 : decode cX4_still 4 = .ok (.iconst (-1), 1) := by decide +kernel
theorem dX4_still_5 : decode cX4_still 5 = .ok (.istore_n 1, 1) := by decide +kernel
theorem dX4_still_6 : decode cX4_still 6 = .ok (.iconst 0, 1) := by decide +kernel
theorem dX4_still_7 : decode cX4_still 7 = .ok (.istore_n 2, 1) := by decide +kernel
theorem dX4_still_8 : decode cX4_still 8 = .ok (.iload_n 2, 1) := by decide +kernel
theorem dX4_still_9 : decode cX4_still 9 = .ok (.bipush 40, 2) := by decide +kernel
theorem dX4_still_11 : decode cX4_still 11 = .ok (.if_icmp .gt 27, 3) := by decide +kernel
theorem dX4_still_14 : decode cX4_still 14 = .ok (.iload_n 1, 1) := by decide +kernel
theorem dX4_still_15 : decode cX4_still 15 = .ok (.iconst (-1), 1) := by decide +kernel
theorem dX4_still_16 : decode cX4_still 16 = .ok (.if_icmp .ne 22, 3) := by decide +kernel
theorem dX4_still_19 : decode cX4_still 19 = .ok (.aload_n 0, 1) := by decide +kernel
theorem dX4_still_20 : decode cX4_still 20 = .ok (.invokevirtual 157, 3) := by decide +kernel
theorem dX4_still_23 : decode cX4_still 23 = .ok (.ifCond .eq 5, 3) := by decide +kernel
theorem dX4_still_26 : decode cX4_still 26 = .ok (.iload_n 2, 1) := by decide +kernel
theorem dX4_still_27 : decode cX4_still 27 = .ok (.istore_n 1, 1) := by decide +kernel
theorem dX4_still_28 : decode cX4_still 28 = .ok (.aload_n 0, 1) := by decide +kernel
theorem dX4_still_29 : decode cX4_still 29 = .ok (.invokevirtual 116, 3) := by decide +kernel
theorem dX4_still_32 : decode cX4_still 32 = .ok (.iinc 2 1, 3) := by decide +kernel
theorem dX4_still_35 : decode cX4_still 35 = .ok (.goto (-27), 3) := by decide +kernel
theorem dX4_still_38 : decode cX4_still 38 = .ok (.aload_n 0, 1) := by decide +kernel
theorem dX4_still_39 : decode cX4_still 39 = .ok (.invokevirtual 145, 3) := by decide +kernel
theorem dX4_still_42 : decode cX4_still 42 = .ok (.iload_n 1, 1) := by decide +kernel
theorem dX4_still_43 : decode cX4_still 43 = .ok (.ireturn, 1) := by decide +kernel
set_option maxRecDepth 20000 in
theorem ggX4_standsStillIn_X4_still : GoodIn wsX4_standsStillIn wsX4_still := goodIn_r _ [5, 6, 7, 8, 4, 9, 10, 11, 12, 13, 14, 15, 16, 17, 18, 19, 20, 21, 22, 23, 24, 25, 26, 27, 28, 29, 30, 31, 32, 33, 34, 35, 36, 37, 38, 39, 40, 41, 42, 43, 44, 45, 46, 47, 48, 49, 50, 51, 52, 53, 54, 55, 56, 57, 58, 59, 60, 61, 62, 63, 64, 65, 66, 67, 68, 69, 70, 71, 72, 73, 79, 80, 81, 82, 83, 84, 85, 86, 87, 88, 89, 90, 91, 92, 93, 94] (by decide +kernel) (by decide +kernel)
set_option maxRecDepth 20000 in
theorem gX4_standsStillIn_X4_still : GoodIn wsX4_standsStillIn (wsV RX4 160 RX4 yX4_still wsX4_still) := goodIn_app (goodIn_of _ (by decide +kernel)) ggX4_standsStillIn_X4_still
set_option maxRecDepth 20000 in
theorem ggX4_standsStillIn_X4_ok : GoodIn wsX4_standsStillIn wsX4_ok := goodIn_r _ [77, 78, 79, 80, 81, 82, 83, 84, 85, 86, 87, 88, 89, 90, 91, 92, 93, 94] (by decide +kernel) (by decide +kernel)
set_option maxRecDepth 20000 in
theorem gX4_standsStillIn_X4_ok : GoodIn wsX4_standsStillIn (wsV RX4 125 RX4 yX4_ok wsX4_ok) := goodIn_app (goodIn_of _ (by decide +kernel)) ggX4_standsStillIn_X4_ok
theorem dX4_standsStillIn_0 : decode cX4_standsStillIn 0 = .ok (.aload_n 0, 1) := by decide +kernel
theorem dX4_standsStillIn_1 : decode cX4_standsStillIn 1 = .ok (.aload_n 0, 1) := by decide +kernel
theorem dX4_standsStillIn_2 : decode cX4_standsStillIn 2 = .ok (.invokevirtual 160, 3) := by decide +kernel
theorem dX4_standsStillIn_5 : decode cX4_standsStillIn 5 = .ok (.invokevirtual 125, 3) := by decide +kernel
theorem dX4_standsStillIn_8 : decode cX4_standsStillIn 8 = .ok (.ireturn, 1) := by decide +kernel
set_option maxRecDepth 20000 in
theorem ggX4_peakIn_X4_isIn : GoodIn wsX4_peakIn wsX4_isIn := goodIn_r _ [5] (by decide +kernel) (by decide +kernel)
set_option maxRecDepth 20000 in
theorem gX4_peakIn_X4_isIn : GoodIn wsX4_peakIn (va_wsS RX4 54 yX4_isIn wsX4_isIn) := goodIn_app (goodIn_of _ (by decide +kernel)) ggX4_peakIn_X4_isIn
set_option maxRecDepth 20000 in
theorem ggX4_peakIn_X4_no : GoodIn wsX4_peakIn wsX4_no := goodIn_r _ [9, 1, 81, 82, 83, 84, 85, 86, 87, 88, 89, 90, 91, 92, 93, 94, 95, 96] (by decide +kernel) (by decide +kernel)
set_option maxRecDepth 20000 in
theorem gX4_peakIn_X4_no : GoodIn wsX4_peakIn (wsV RX4 103 RX4 yX4_no wsX4_no) := goodIn_app (goodIn_of _ (by decide +kernel)) ggX4_peakIn_X4_no
set_option maxRecDepth 20000 in
theorem ggX4_peakIn_X4_keep : GoodIn wsX4_peakIn wsX4_keep := goodIn_r _ [13, 14, 15, 16, 17, 18, 19, 20, 21, 81, 82, 83, 84, 85, 86, 87, 88, 89, 90, 91, 92, 93, 94, 95, 96] (by decide +kernel) (by decide +kernel)
set_option maxRecDepth 20000 in
theorem gX4_peakIn_X4_keep : GoodIn wsX4_peakIn (wsV RX4 142 RX4 yX4_keep wsX4_keep) := goodIn_app (goodIn_of _ (by decide +kernel)) ggX4_peakIn_X4_keep
set_option maxRecDepth 20000 in
theorem ggX4_peakIn_X4_all : GoodIn wsX4_peakIn wsX4_all := goodIn_r _ [25, 26, 14, 27, 28, 29, 30, 31, 32, 33, 81, 82, 83, 84, 85, 86, 87, 88, 89, 90, 91, 92, 93, 94, 95, 96] (by decide +kernel) (by decide +kernel)
set_option maxRecDepth 20000 in
theorem gX4_peakIn_X4_all : GoodIn wsX4_peakIn (wsV RX4 122 RX4 yX4_all wsX4_all) := goodIn_app (goodIn_of _ (by decide +kernel)) ggX4_peakIn_X4_all
set_option maxRecDepth 20000 in
theorem ggX4_peakIn_X4_growOn : GoodIn wsX4_peakIn wsX4_growOn := goodIn_r _ [37, 26, 38, 14, 16, 17, 18, 19, 20, 39, 40, 41, 42, 43, 44, 45, 4, 46, 47, 48, 49, 50, 51, 52, 53, 54, 55, 56, 57, 58, 59, 60, 61, 62, 63, 64, 65, 66, 67, 68, 69, 70, 71, 72, 73, 74, 75, 76, 81, 82, 83, 84, 85, 86, 87, 88, 89, 90, 91, 92, 93, 94, 95, 96] (by decide +kernel) (by decide +kernel)
set_option maxRecDepth 20000 in
theorem gX4_peakIn_X4_growOn : GoodIn wsX4_peakIn (wsV RX4 116 RX4 yX4_growOn wsX4_growOn) := goodIn_app (goodIn_of _ (by decide +kernel)) ggX4_peakIn_X4_growOn
set_option maxRecDepth 20000 in
theorem ggX4_peakIn_X4_bringBack : GoodIn wsX4_peakIn wsX4_bringBack := goodIn_r _ [80, 15, 14, 16, 17, 18, 19, 21, 20, 81, 82, 83, 84, 85, 86, 87, 88, 89, 90, 91, 92, 93, 94, 95, 96] (by decide +kernel) (by decide +kernel)
set_option maxRecDepth 20000 in
theorem gX4_peakIn_X4_bringBack : GoodIn wsX4_peakIn (wsV RX4 145 RX4 yX4_bringBack wsX4_bringBack) := goodIn_app (goodIn_of _ (by decide +kernel)) ggX4_peakIn_X4_bringBack
theorem dX4_peakIn_0 : decode cX4_peakIn 0 = .ok (.aload_n 0, 1) := by decide +kernel
theorem dX4_peakIn_1 : decode cX4_peakIn 1 = .ok (.iconst 0, 1) := by decide +kernel
theorem dX4_peakIn_2 : decode cX4_peakIn 2 = .ok (.putfield 51, 3) := by decide +kernel
theorem dX4_peakIn_5 : decode cX4_peakIn 5 = .ok (.iload_n 1, 1) := by decide +kernel
theorem dX4_peakIn_6 : decode cX4_peakIn 6 = .ok (.iconst 1, 1) := by decide +kernel
theorem dX4_peakIn_7 : decode cX4_peakIn 7 = .ok (.bipush 60, 2) := by decide +kernel
theorem dX4_peakIn_9 : decode cX4_peakIn 9 = .ok (.invokestatic 54, 3) := by decide +kernel
theorem dX4_peakIn_12 : decode cX4_peakIn 12 = .ok (.ifCond .ne 9, 3) := by decide +kernel
theorem dX4_peakIn_15 : decode cX4_peakIn 15 = .ok (.aload_n 0, 1) := by decide +kernel
theorem dX4_peakIn_16 : decode cX4_peakIn 16 = .ok (.iconst 1, 1) := by decide +kernel
theorem dX4_peakIn_17 : decode cX4_peakIn 17 = .ok (.invokevirtual 103, 3) := by decide +kernel
theorem dX4_peakIn_20 : decode cX4_peakIn 20 = .ok (.ireturn, 1) := by decide +kernel
theorem dX4_peakIn_21 : decode cX4_peakIn 21 = .ok (.aload_n 0, 1) := by decide +kernel
theorem dX4_peakIn_22 : decode cX4_peakIn 22 = .ok (.invokevirtual 142, 3) := by decide +kernel
theorem dX4_peakIn_25 : decode cX4_peakIn 25 = .ok (.iconst 0, 1) := by decide +kernel
theorem dX4_peakIn_26 : decode cX4_peakIn 26 = .ok (.istore_n 2, 1) := by decide +kernel
theorem dX4_peakIn_27 : decode cX4_peakIn 27 = .ok (.aload_n 0, 1) := by decide +kernel
theorem dX4_peakIn_28 : decode cX4_peakIn 28 = .ok (.invokevirtual 122, 3) := by decide +kernel
theorem dX4_peakIn_31 : decode cX4_peakIn 31 = .ok (.istore_n 3, 1) := by decide +kernel
theorem dX4_peakIn_32 : decode cX4_peakIn 32 = .ok (.iconst 1, 1) := by decide +kernel
theorem dX4_peakIn_33 : decode cX4_peakIn 33 = .ok (.istore 4, 2) := by decide +kernel
theorem dX4_peakIn_35 : decode cX4_peakIn 35 = .ok (.iload 4, 2) := by decide +kernel
theorem dX4_peakIn_37 : decode cX4_peakIn 37 = .ok (.iload_n 1, 1) := by decide +kernel
theorem dX4_peakIn_38 : decode cX4_peakIn 38 = .ok (.if_icmp .gt 32, 3) := by decide +kernel
theorem dX4_peakIn_41 : decode cX4_peakIn 41 = .ok (.aload_n 0, 1) := by decide +kernel
theorem dX4_peakIn_42 : decode cX4_peakIn 42 = .ok (.invokevirtual 116, 3) := by decide +kernel
theorem dX4_peakIn_45 : decode cX4_peakIn 45 = .ok (.aload_n 0, 1) := by decide +kernel
theorem dX4_peakIn_46 : decode cX4_peakIn 46 = .ok (.invokevirtual 122, 3) := by decide +kernel
theorem dX4_peakIn_49 : decode cX4_peakIn 49 = .ok (.iload_n 3, 1) := by decide +kernel
theorem dX4_peakIn_50 : decode cX4_peakIn 50 = .ok (.if_icmp .gt 6, 3) := by decide +kernel
theorem dX4_peakIn_53 : decode cX4_peakIn 53 = .ok (.goto 11, 3) := by decide +kernel
theorem dX4_peakIn_56 : decode cX4_peakIn 56 = .ok (.iload 4, 2) := by decide +kernel
theorem dX4_peakIn_58 : decode cX4_peakIn 58 = .ok (.istore_n 2, 1) := by decide +kernel
theorem dX4_peakIn_59 : decode cX4_peakIn 59 = .ok (.aload_n 0, 1) := by decide +kernel
theorem dX4_peakIn_60 : decode cX4_peakIn 60 = .ok (.invokevirtual 122, 3) := by decide +kernel
theorem dX4_peakIn_63 : decode cX4_peakIn 63 = .ok (.istore_n 3, 1) := by decide +kernel
theorem dX4_peakIn_64 : decode cX4_peakIn 64 = .ok (.iinc 4 1, 3) := by decide +kernel
theorem dX4_peakIn_67 : decode cX4_peakIn 67 = .ok (.goto (-32), 3) := by decide +kernel
theorem dX4_peakIn_70 : decode cX4_peakIn 70 = .ok (.aload_n 0, 1) := by decide +kernel
theorem dX4_peakIn_71 : decode cX4_peakIn 71 = .ok (.invokevirtual 145, 3) := by decide +kernel
theorem dX4_peakIn_74 : decode cX4_peakIn 74 = .ok (.iload_n 2, 1) := by decide +kernel
theorem dX4_peakIn_75 : decode cX4_peakIn 75 = .ok (.ireturn, 1) := by decide +kernel
set_option maxRecDepth 20000 in
theorem ggX4_best_X4_behind : GoodIn wsX4_best wsX4_behind := goodIn_r _ [7, 8, 9, 10, 6, 11, 12, 13, 14, 15, 16, 17, 18, 19, 20, 21, 22, 23, 24, 25, 26, 27, 28, 29, 30, 31, 32, 33, 34, 35, 1, 36, 37, 38, 39, 40, 41, 42, 43, 44, 45, 46, 47, 48, 49, 50, 51, 52, 53, 54, 55, 56, 57, 58, 59, 60, 61, 62, 63, 64, 65, 66, 67, 68, 69, 70, 71, 72, 73, 74, 75, 76, 77, 78, 79, 80, 81, 82, 83, 84, 85, 86, 87, 88, 89, 90, 91, 92, 93] (by decide +kernel) (by decide +kernel)
set_option maxRecDepth 20000 in
theorem gX4_best_X4_behind : GoodIn wsX4_best (wsV RX4 148 RX4 yX4_behind wsX4_behind) := goodIn_app (goodIn_of _ (by decide +kernel)) ggX4_best_X4_behind
theorem dX4_best_0 : decode cX4_best 0 = .ok (.aload_n 0, 1) := by decide +kernel
theorem dX4_best_1 : decode cX4_best 1 = .ok (.getfield 77, 3) := by decide +kernel
theorem dX4_best_4 : decode cX4_best 4 = .ok (.istore_n 2, 1) := by decide +kernel
theorem dX4_best_5 : decode cX4_best 5 = .ok (.iconst (-1), 1) := by decide +kernel
theorem dX4_best_6 : decode cX4_best 6 = .ok (.istore_n 3, 1) := by decide +kernel
theorem dX4_best_7 : decode cX4_best 7 = .ok (.iconst (-1), 1) := by decide +kernel
theorem dX4_best_8 : decode cX4_best 8 = .ok (.istore 4, 2) := by decide +kernel
theorem dX4_best_10 : decode cX4_best 10 = .ok (.iconst 0, 1) := by decide +kernel
theorem dX4_best_11 : decode cX4_best 11 = .ok (.istore 5, 2) := by decide +kernel
theorem dX4_best_13 : decode cX4_best 13 = .ok (.iload 5, 2) := by decide +kernel
theorem dX4_best_15 : decode cX4_best 15 = .ok (.aload_n 0, 1) := by decide +kernel
theorem dX4_best_16 : decode cX4_best 16 = .ok (.getfield 19, 3) := by decide +kernel
theorem dX4_best_19 : decode cX4_best 19 = .ok (.if_icmp .ge 39, 3) := by decide +kernel
theorem dX4_best_22 : decode cX4_best 22 = .ok (.aload_n 0, 1) := by decide +kernel
theorem dX4_best_23 : decode cX4_best 23 = .ok (.iload 5, 2) := by decide +kernel
theorem dX4_best_25 : decode cX4_best 25 = .ok (.putfield 77, 3) := by decide +kernel
theorem dX4_best_28 : decode cX4_best 28 = .ok (.aload_n 0, 1) := by decide +kernel
theorem dX4_best_29 : decode cX4_best 29 = .ok (.iload_n 1, 1) := by decide +kernel
theorem dX4_best_30 : decode cX4_best 30 = .ok (.invokevirtual 148, 3) := by decide +kernel
theorem dX4_best_33 : decode cX4_best 33 = .ok (.istore 6, 2) := by decide +kernel
theorem dX4_best_35 : decode cX4_best 35 = .ok (.iload 6, 2) := by decide +kernel
theorem dX4_best_37 : decode cX4_best 37 = .ok (.iload 4, 2) := by decide +kernel
theorem dX4_best_39 : decode cX4_best 39 = .ok (.if_icmp .gt 6, 3) := by decide +kernel
theorem dX4_best_42 : decode cX4_best 42 = .ok (.goto 10, 3) := by decide +kernel
theorem dX4_best_45 : decode cX4_best 45 = .ok (.iload 5, 2) := by decide +kernel
theorem dX4_best_47 : decode cX4_best 47 = .ok (.istore_n 3, 1) := by decide +kernel
theorem dX4_best_48 : decode cX4_best 48 = .ok (.iload 6, 2) := by decide +kernel
theorem dX4_best_50 : decode cX4_best 50 = .ok (.istore 4, 2) := by decide +kernel
theorem dX4_best_52 : decode cX4_best 52 = .ok (.iinc 5 1, 3) := by decide +kernel
theorem dX4_best_55 : decode cX4_best 55 = .ok (.goto (-42), 3) := by decide +kernel
theorem dX4_best_58 : decode cX4_best 58 = .ok (.aload_n 0, 1) := by decide +kernel
theorem dX4_best_59 : decode cX4_best 59 = .ok (.iload_n 2, 1) := by decide +kernel
theorem dX4_best_60 : decode cX4_best 60 = .ok (.putfield 77, 3) := by decide +kernel
theorem dX4_best_63 : decode cX4_best 63 = .ok (.iload_n 3, 1) := by decide +kernel
theorem dX4_best_64 : decode cX4_best 64 = .ok (.ireturn, 1) := by decide +kernel
set_option maxRecDepth 20000 in
theorem ggX4_bestBreath_X4_isIn : GoodIn wsX4_bestBreath wsX4_isIn := goodIn_r _ [5] (by decide +kernel) (by decide +kernel)
set_option maxRecDepth 20000 in
theorem gX4_bestBreath_X4_isIn : GoodIn wsX4_bestBreath (va_wsS RX4 54 yX4_isIn wsX4_isIn) := goodIn_app (goodIn_of _ (by decide +kernel)) ggX4_bestBreath_X4_isIn
set_option maxRecDepth 20000 in
theorem ggX4_bestBreath_X4_best : GoodIn wsX4_bestBreath wsX4_best := goodIn_r _ [9, 10, 11, 12, 13, 14, 4, 15, 16, 17, 18, 19, 20, 21, 22, 23, 24, 25, 26, 27, 28, 29, 30, 31, 32, 33, 34, 35, 36, 37, 38, 39, 40, 41, 42, 43, 44, 45, 46, 47, 48, 49, 50, 51, 52, 53, 54, 55, 56, 57, 58, 59, 60, 61, 62, 63, 64, 65, 66, 67, 68, 69, 70, 71, 72, 73, 74, 75, 76, 77, 78, 79, 80, 81, 82, 83, 84, 85, 90, 91, 92, 93, 94, 95, 96, 97, 98, 99, 100, 101, 102, 103, 104, 105] (by decide +kernel) (by decide +kernel)
set_option maxRecDepth 20000 in
theorem gX4_bestBreath_X4_best : GoodIn wsX4_bestBreath (wsV RX4 163 RX4 yX4_best wsX4_best) := goodIn_app (goodIn_of _ (by decide +kernel)) ggX4_bestBreath_X4_best
set_option maxRecDepth 20000 in
theorem ggX4_bestBreath_X4_no : GoodIn wsX4_bestBreath wsX4_no := goodIn_r _ [89, 1, 90, 91, 92, 93, 94, 95, 96, 97, 98, 99, 100, 101, 102, 103, 104, 105] (by decide +kernel) (by decide +kernel)
set_option maxRecDepth 20000 in
theorem gX4_bestBreath_X4_no : GoodIn wsX4_bestBreath (wsV RX4 103 RX4 yX4_no wsX4_no) := goodIn_app (goodIn_of _ (by decide +kernel)) ggX4_bestBreath_X4_no
theorem dX4_bestBreath_0 : decode cX4_bestBreath 0 = .ok (.aload_n 0, 1) := by decide +kernel
theorem dX4_bestBreath_1 : decode cX4_bestBreath 1 = .ok (.iconst 0, 1) := by decide +kernel
theorem dX4_bestBreath_2 : decode cX4_bestBreath 2 = .ok (.putfield 51, 3) := by decide +kernel
theorem dX4_bestBreath_5 : decode cX4_bestBreath 5 = .ok (.iload_n 1, 1) := by decide +kernel
theorem dX4_bestBreath_6 : decode cX4_bestBreath 6 = .ok (.iconst 1, 1) := by decide +kernel
theorem dX4_bestBreath_7 : decode cX4_bestBreath 7 = .ok (.bipush 20, 2) := by decide +kernel
theorem dX4_bestBreath_9 : decode cX4_bestBreath 9 = .ok (.invokestatic 54, 3) := by decide +kernel
theorem dX4_bestBreath_12 : decode cX4_bestBreath 12 = .ok (.ifCond .eq 11, 3) := by decide +kernel
theorem dX4_bestBreath_15 : decode cX4_bestBreath 15 = .ok (.aload_n 0, 1) := by decide +kernel
theorem dX4_bestBreath_16 : decode cX4_bestBreath 16 = .ok (.iload_n 1, 1) := by decide +kernel
theorem dX4_bestBreath_17 : decode cX4_bestBreath 17 = .ok (.invokevirtual 163, 3) := by decide +kernel
theorem dX4_bestBreath_20 : decode cX4_bestBreath 20 = .ok (.goto 8, 3) := by decide +kernel
theorem dX4_bestBreath_23 : decode cX4_bestBreath 23 = .ok (.aload_n 0, 1) := by decide +kernel
theorem dX4_bestBreath_24 : decode cX4_bestBreath 24 = .ok (.iconst 1, 1) := by decide +kernel
theorem dX4_bestBreath_25 : decode cX4_bestBreath 25 = .ok (.invokevirtual 103, 3) := by decide +kernel
theorem dX4_bestBreath_28 : decode cX4_bestBreath 28 = .ok (.ireturn, 1) := by decide +kernel
set_option maxRecDepth 20000 in
theorem ggX4_meanInRows_X4_all : GoodIn wsX4_meanInRows wsX4_all := goodIn_r _ [7, 2, 8, 9, 10, 11, 12, 13, 14, 15, 16, 17, 18, 19, 20, 21, 22, 23, 24, 25, 26, 27, 28, 29, 30, 31] (by decide +kernel) (by decide +kernel)
set_option maxRecDepth 20000 in
theorem gX4_meanInRows_X4_all : GoodIn wsX4_meanInRows (wsV RX4 122 RX4 yX4_all wsX4_all) := goodIn_app (goodIn_of _ (by decide +kernel)) ggX4_meanInRows_X4_all
theorem dX4_meanInRows_0 : decode cX4_meanInRows 0 = .ok (.aload_n 0, 1) := by decide +kernel
theorem dX4_meanInRows_1 : decode cX4_meanInRows 1 = .ok (.iconst 0, 1) := by decide +kernel
theorem dX4_meanInRows_2 : decode cX4_meanInRows 2 = .ok (.putfield 51, 3) := by decide +kernel
theorem dX4_meanInRows_5 : decode cX4_meanInRows 5 = .ok (.aload_n 0, 1) := by decide +kernel
theorem dX4_meanInRows_6 : decode cX4_meanInRows 6 = .ok (.invokevirtual 122, 3) := by decide +kernel
theorem dX4_meanInRows_9 : decode cX4_meanInRows 9 = .ok (.i2d, 1) := by decide +kernel
theorem dX4_meanInRows_10 : decode cX4_meanInRows 10 = .ok (.aload_n 0, 1) := by decide +kernel
theorem dX4_meanInRows_11 : decode cX4_meanInRows 11 = .ok (.getfield 13, 3) := by decide +kernel
theorem dX4_meanInRows_14 : decode cX4_meanInRows 14 = .ok (.i2d, 1) := by decide +kernel
theorem dX4_meanInRows_15 : decode cX4_meanInRows 15 = .ok (.ddiv, 1) := by decide +kernel
theorem dX4_meanInRows_16 : decode cX4_meanInRows 16 = .ok (.dreturn, 1) := by decide +kernel
set_option maxRecDepth 20000 in
theorem ggX4_digest_X4_all : GoodIn wsX4_digest wsX4_all := goodIn_r _ [16, 4, 10, 17, 18, 19, 20, 21, 22, 23, 120, 121, 122, 123, 124, 125, 126, 127, 128, 129, 130, 131, 132, 133, 134, 135] (by decide +kernel) (by decide +kernel)
set_option maxRecDepth 20000 in
theorem gX4_digest_X4_all : GoodIn wsX4_digest (wsV RX4 122 RX4 yX4_all wsX4_all) := goodIn_app (goodIn_of _ (by decide +kernel)) ggX4_digest_X4_all
set_option maxRecDepth 20000 in
theorem ggX4_digest_X4_manyMelted : GoodIn wsX4_digest wsX4_manyMelted := goodIn_r _ [27, 11, 120, 121, 122, 123, 124, 125, 126, 127, 128, 129, 130, 131, 132, 133, 134, 135] (by decide +kernel) (by decide +kernel)
set_option maxRecDepth 20000 in
theorem gX4_digest_X4_manyMelted : GoodIn wsX4_digest (wsV RX4 128 RX4 yX4_manyMelted wsX4_manyMelted) := goodIn_app (goodIn_of _ (by decide +kernel)) ggX4_digest_X4_manyMelted
set_option maxRecDepth 20000 in
theorem ggX4_digest_X4_flowers : GoodIn wsX4_digest wsX4_flowers := goodIn_r _ [31, 32, 4, 3, 33, 34, 35, 36, 37, 38, 39, 40, 15, 41, 10, 42, 43, 44, 45, 17, 18, 19, 20, 21, 22, 23, 120, 121, 122, 123, 124, 125, 126, 127, 128, 129, 130, 131, 132, 133, 134, 135] (by decide +kernel) (by decide +kernel)
set_option maxRecDepth 20000 in
theorem gX4_digest_X4_flowers : GoodIn wsX4_digest (wsV RX4 134 RX4 yX4_flowers wsX4_flowers) := goodIn_app (goodIn_of _ (by decide +kernel)) ggX4_digest_X4_flowers
set_option maxRecDepth 20000 in
theorem ggX4_digest_X4_mirrored : GoodIn wsX4_digest wsX4_mirrored := goodIn_r _ [49, 4, 3, 38, 39, 40, 15, 41, 10, 120, 121, 122, 123, 124, 125, 126, 127, 128, 129, 130, 131, 132, 133, 134, 135] (by decide +kernel) (by decide +kernel)
set_option maxRecDepth 20000 in
theorem gX4_digest_X4_mirrored : GoodIn wsX4_digest (wsV RX4 138 RX4 yX4_mirrored wsX4_mirrored) := goodIn_app (goodIn_of _ (by decide +kernel)) ggX4_digest_X4_mirrored
set_option maxRecDepth 20000 in
theorem ggX4_digest_X4_again : GoodIn wsX4_digest wsX4_again := goodIn_r _ [53, 54, 55, 56, 15, 57, 10, 58, 59, 60, 61, 62, 11, 63, 64, 65, 66, 67, 4, 37, 33, 34, 35, 36, 68, 69, 70, 71, 3, 72, 7, 73, 74, 75, 76, 77, 78, 79, 80, 81, 82, 83, 84, 85, 86, 87, 88, 89, 90, 91, 38, 39, 40, 41, 92, 93, 94, 95, 96, 97, 98, 99, 100, 101, 102, 103, 120, 121, 122, 123, 124, 125, 126, 127, 128, 129, 130, 131, 132, 133, 134, 135] (by decide +kernel) (by decide +kernel)
set_option maxRecDepth 20000 in
theorem gX4_digest_X4_again : GoodIn wsX4_digest (wsV RX4 154 RX4 yX4_again wsX4_again) := goodIn_app (goodIn_of _ (by decide +kernel)) ggX4_digest_X4_again
set_option maxRecDepth 20000 in
theorem ggX4_digest_X4_still : GoodIn wsX4_digest wsX4_still := goodIn_r _ [107, 54, 55, 56, 15, 57, 10, 58, 59, 60, 61, 62, 11, 63, 108, 109, 110, 111, 4, 24, 25, 26, 27, 68, 69, 70, 71, 3, 72, 7, 73, 74, 75, 76, 77, 78, 79, 80, 81, 82, 83, 84, 85, 86, 87, 88, 89, 90, 91, 38, 39, 40, 41, 92, 93, 94, 95, 64, 65, 66, 67, 37, 33, 34, 35, 36, 100, 101, 102, 103, 120, 121, 122, 123, 124, 125, 126, 127, 128, 129, 130, 131, 132, 133, 134, 135] (by decide +kernel) (by decide +kernel)
set_option maxRecDepth 20000 in
theorem gX4_digest_X4_still : GoodIn wsX4_digest (wsV RX4 160 RX4 yX4_still wsX4_still) := goodIn_app (goodIn_of _ (by decide +kernel)) ggX4_digest_X4_still
set_option maxRecDepth 20000 in
theorem ggX4_digest_X4_best : GoodIn wsX4_digest wsX4_best := goodIn_r _ [115, 7, 6, 116, 117, 118, 15, 119, 54, 55, 56, 57, 10, 58, 59, 60, 61, 62, 11, 63, 64, 65, 66, 67, 4, 37, 33, 34, 35, 36, 68, 69, 70, 71, 3, 72, 73, 74, 75, 76, 77, 78, 79, 80, 81, 82, 83, 84, 85, 86, 87, 88, 89, 90, 91, 38, 39, 40, 41, 92, 93, 94, 95, 12, 13, 14, 16, 17, 18, 19, 20, 21, 22, 23, 100, 101, 102, 103, 120, 121, 122, 123, 124, 125, 126, 127, 128, 129, 130, 131, 132, 133, 134, 135] (by decide +kernel) (by decide +kernel)
set_option maxRecDepth 20000 in
theorem gX4_digest_X4_best : GoodIn wsX4_digest (wsV RX4 163 RX4 yX4_best wsX4_best) := goodIn_app (goodIn_of _ (by decide +kernel)) ggX4_digest_X4_best
set_option maxRecDepth 20000 in
theorem ggX4_digest_J6_bitCount_0f7a4 : GoodIn wsX4_digest wsJ6_bitCount_0f7a4 := goodIn_r _ [20, 21, 22, 23] (by decide +kernel) (by decide +kernel)
set_option maxRecDepth 20000 in
theorem gX4_digest_J6_bitCount_0f7a4 : GoodIn wsX4_digest (va_wsS RX4 98 yJ6_bitCount_0f7a4 wsJ6_bitCount_0f7a4) := goodIn_app (goodIn_of _ (by decide +kernel)) ggX4_digest_J6_bitCount_0f7a4
set_option maxRecDepth 20000 in
theorem ggX4_digest_X4_grown : GoodIn wsX4_digest wsX4_grown := goodIn_r _ [71, 3, 72, 7, 73, 11, 74, 75, 76, 15, 77, 78, 79, 80, 81, 82, 4, 83, 10, 84, 85, 86, 87, 88, 89, 90, 91, 38, 39, 40, 41, 92, 93, 94, 95, 120, 121, 122, 123, 124, 125, 126, 127, 128, 129, 130, 131, 132, 133, 134, 135] (by decide +kernel) (by decide +kernel)
set_option maxRecDepth 20000 in
theorem gX4_digest_X4_grown : GoodIn wsX4_digest (wsV RX4 83 RX4 yX4_grown wsX4_grown) := goodIn_app (goodIn_of _ (by decide +kernel)) ggX4_digest_X4_grown
set_option maxRecDepth 20000 in
theorem ggX4_digest_X4_is : GoodIn wsX4_digest wsX4_is := goodIn_r _ [41, 10, 120, 121, 122, 123, 124, 125, 126, 127, 128, 129, 130, 131, 132, 133, 134, 135] (by decide +kernel) (by decide +kernel)
set_option maxRecDepth 20000 in
theorem gX4_digest_X4_is : GoodIn wsX4_digest (wsV RX4 73 RX4 yX4_is wsX4_is) := goodIn_app (goodIn_of _ (by decide +kernel)) ggX4_digest_X4_is
set_option maxRecDepth 20000 in
theorem ggX4_digest_X4_counted : GoodIn wsX4_digest wsX4_counted := goodIn_r _ [95, 78, 120, 121, 122, 123, 124, 125, 126, 127, 128, 129, 130, 131, 132, 133, 134, 135] (by decide +kernel) (by decide +kernel)
set_option maxRecDepth 20000 in
theorem gX4_digest_X4_counted : GoodIn wsX4_digest (wsV RX4 80 RX4 yX4_counted wsX4_counted) := goodIn_app (goodIn_of _ (by decide +kernel)) ggX4_digest_X4_counted
theorem dX4_digest_0 : decode cX4_digest 0 = .ok (.aload_n 0, 1) := by decide +kernel
theorem dX4_digest_1 : decode cX4_digest 1 = .ok (.iconst 0, 1) := by decide +kernel
theorem dX4_digest_2 : decode cX4_digest 2 = .ok (.putfield 51, 3) := by decide +kernel
theorem dX4_digest_5 : decode cX4_digest 5 = .ok (.bipush 13, 2) := by decide +kernel
theorem dX4_digest_7 : decode cX4_digest 7 = .ok (.newarray .int, 2) := by decide +kernel
theorem dX4_digest_9 : decode cX4_digest 9 = .ok (.dup, 1) := by decide +kernel
theorem dX4_digest_10 : decode cX4_digest 10 = .ok (.iconst 0, 1) := by decide +kernel
theorem dX4_digest_11 : decode cX4_digest 11 = .ok (.aload_n 0, 1) := by decide +kernel
theorem dX4_digest_12 : decode cX4_digest 12 = .ok (.getfield 7, 3) := by decide +kernel
theorem dX4_digest_15 : decode cX4_digest 15 = .ok (.iastore, 1) := by decide +kernel
theorem dX4_digest_16 : decode cX4_digest 16 = .ok (.dup, 1) := by decide +kernel
theorem dX4_digest_17 : decode cX4_digest 17 = .ok (.iconst 1, 1) := by decide +kernel
theorem dX4_digest_18 : decode cX4_digest 18 = .ok (.aload_n 0, 1) := by decide +kernel
theorem dX4_digest_19 : decode cX4_digest 19 = .ok (.getfield 13, 3) := by decide +kernel
theorem dX4_digest_22 : decode cX4_digest 22 = .ok (.iastore, 1) := by decide +kernel
theorem dX4_digest_23 : decode cX4_digest 23 = .ok (.dup, 1) := by decide +kernel
theorem dX4_digest_24 : decode cX4_digest 24 = .ok (.iconst 2, 1) := by decide +kernel
theorem dX4_digest_25 : decode cX4_digest 25 = .ok (.aload_n 0, 1) := by decide +kernel
theorem dX4_digest_26 : decode cX4_digest 26 = .ok (.getfield 119, 3) := by decide +kernel
theorem dX4_digest_29 : decode cX4_digest 29 = .ok (.iastore, 1) := by decide +kernel
theorem dX4_digest_30 : decode cX4_digest 30 = .ok (.dup, 1) := by decide +kernel
theorem dX4_digest_31 : decode cX4_digest 31 = .ok (.iconst 3, 1) := by decide +kernel
theorem dX4_digest_32 : decode cX4_digest 32 = .ok (.aload_n 0, 1) := by decide +kernel
theorem dX4_digest_33 : decode cX4_digest 33 = .ok (.getfield 19, 3) := by decide +kernel
theorem dX4_digest_36 : decode cX4_digest 36 = .ok (.iastore, 1) := by decide +kernel
theorem dX4_digest_37 : decode cX4_digest 37 = .ok (.dup, 1) := by decide +kernel
theorem dX4_digest_38 : decode cX4_digest 38 = .ok (.iconst 4, 1) := by decide +kernel
theorem dX4_digest_39 : decode cX4_digest 39 = .ok (.aload_n 0, 1) := by decide +kernel
theorem dX4_digest_40 : decode cX4_digest 40 = .ok (.getfield 77, 3) := by decide +kernel
theorem dX4_digest_43 : decode cX4_digest 43 = .ok (.iastore, 1) := by decide +kernel
theorem dX4_digest_44 : decode cX4_digest 44 = .ok (.dup, 1) := by decide +kernel
theorem dX4_digest_45 : decode cX4_digest 45 = .ok (.iconst 5, 1) := by decide +kernel
theorem dX4_digest_46 : decode cX4_digest 46 = .ok (.aload_n 0, 1) := by decide +kernel
theorem dX4_digest_47 : decode cX4_digest 47 = .ok (.invokevirtual 122, 3) := by decide +kernel
theorem dX4_digest_50 : decode cX4_digest 50 = .ok (.iastore, 1) := by decide +kernel
theorem dX4_digest_51 : decode cX4_digest 51 = .ok (.dup, 1) := by decide +kernel
theorem dX4_digest_52 : decode cX4_digest 52 = .ok (.bipush 6, 2) := by decide +kernel
theorem dX4_digest_54 : decode cX4_digest 54 = .ok (.aload_n 0, 1) := by decide +kernel
theorem dX4_digest_55 : decode cX4_digest 55 = .ok (.invokevirtual 128, 3) := by decide +kernel
theorem dX4_digest_58 : decode cX4_digest 58 = .ok (.iastore, 1) := by decide +kernel
theorem dX4_digest_59 : decode cX4_digest 59 = .ok (.dup, 1) := by decide +kernel
theorem dX4_digest_60 : decode cX4_digest 60 = .ok (.bipush 7, 2) := by decide +kernel
theorem dX4_digest_62 : decode cX4_digest 62 = .ok (.aload_n 0, 1) := by decide +kernel
theorem dX4_digest_63 : decode cX4_digest 63 = .ok (.iconst 0, 1) := by decide +kernel
theorem dX4_digest_64 : decode cX4_digest 64 = .ok (.invokevirtual 134, 3) := by decide +kernel
theorem dX4_digest_67 : decode cX4_digest 67 = .ok (.iastore, 1) := by decide +kernel
theorem dX4_digest_68 : decode cX4_digest 68 = .ok (.dup, 1) := by decide +kernel
theorem dX4_digest_69 : decode cX4_digest 69 = .ok (.bipush 8, 2) := by decide +kernel
theorem dX4_digest_71 : decode cX4_digest 71 = .ok (.aload_n 0, 1) := by decide +kernel
theorem dX4_digest_72 : decode cX4_digest 72 = .ok (.iconst 1, 1) := by decide +kernel
theorem dX4_digest_73 : decode cX4_digest 73 = .ok (.invokevirtual 134, 3) := by decide +kernel
theorem dX4_digest_76 : decode cX4_digest 76 = .ok (.iastore, 1) := by decide +kernel
theorem dX4_digest_77 : decode cX4_digest 77 = .ok (.dup, 1) := by decide +kernel
theorem dX4_digest_78 : decode cX4_digest 78 = .ok (.bipush 9, 2) := by decide +kernel
theorem dX4_digest_80 : decode cX4_digest 80 = .ok (.aload_n 0, 1) := by decide +kernel
theorem dX4_digest_81 : decode cX4_digest 81 = .ok (.invokevirtual 138, 3) := by decide +kernel
theorem dX4_digest_84 : decode cX4_digest 84 = .ok (.ifCond .eq 7, 3) := by decide +kernel
theorem dX4_digest_87 : decode cX4_digest 87 = .ok (.iconst 1, 1) := by decide +kernel
theorem dX4_digest_88 : decode cX4_digest 88 = .ok (.goto 4, 3) := by decide +kernel
theorem dX4_digest_91 : decode cX4_digest 91 = .ok (.iconst 0, 1) := by decide +kernel
theorem dX4_digest_92 : decode cX4_digest 92 = .ok (.iastore, 1) := by decide +kernel
theorem dX4_digest_93 : decode cX4_digest 93 = .ok (.dup, 1) := by decide +kernel
theorem dX4_digest_94 : decode cX4_digest 94 = .ok (.bipush 10, 2) := by decide +kernel
theorem dX4_digest_96 : decode cX4_digest 96 = .ok (.aload_n 0, 1) := by decide +kernel
theorem dX4_digest_97 : decode cX4_digest 97 = .ok (.invokevirtual 154, 3) := by decide +kernel
theorem dX4_digest_100 : decode cX4_digest 100 = .ok (.iastore, 1) := by decide +kernel
theorem dX4_digest_101 : decode cX4_digest 101 = .ok (.dup, 1) := by decide +kernel
theorem dX4_digest_102 : decode cX4_digest 102 = .ok (.bipush 11, 2) := by decide +kernel
theorem dX4_digest_104 : decode cX4_digest 104 = .ok (.aload_n 0, 1) := by decide +kernel
theorem dX4_digest_105 : decode cX4_digest 105 = .ok (.invokevirtual 160, 3) := by decide +kernel
theorem dX4_digest_108 : decode cX4_digest 108 = .ok (.iastore, 1) := by decide +kernel
theorem dX4_digest_109 : decode cX4_digest 109 = .ok (.dup, 1) := by decide +kernel
theorem dX4_digest_110 : decode cX4_digest 110 = .ok (.bipush 12, 2) := by decide +kernel
theorem dX4_digest_112 : decode cX4_digest 112 = .ok (.aload_n 0, 1) := by decide +kernel
theorem dX4_digest_113 : decode cX4_digest 113 = .ok (.iconst 5, 1) := by decide +kernel
theorem dX4_digest_114 : decode cX4_digest 114 = .ok (.invokevirtual 163, 3) := by decide +kernel
theorem dX4_digest_117 : decode cX4_digest 117 = .ok (.iastore, 1) := by decide +kernel
theorem dX4_digest_118 : decode cX4_digest 118 = .ok (.astore_n 1, 1) := by decide +kernel
theorem dX4_digest_119 : decode cX4_digest 119 = .ok (.ldc2_w 166, 3) := by decide +kernel
theorem dX4_digest_122 : decode cX4_digest 122 = .ok (.lstore_n 2, 1) := by decide +kernel
theorem dX4_digest_123 : decode cX4_digest 123 = .ok (.aload_n 1, 1) := by decide +kernel
theorem dX4_digest_124 : decode cX4_digest 124 = .ok (.astore 4, 2) := by decide +kernel
theorem dX4_digest_126 : decode cX4_digest 126 = .ok (.aload 4, 2) := by decide +kernel
theorem dX4_digest_128 : decode cX4_digest 128 = .ok (.arraylength, 1) := by decide +kernel
theorem dX4_digest_129 : decode cX4_digest 129 = .ok (.istore 5, 2) := by decide +kernel
theorem dX4_digest_131 : decode cX4_digest 131 = .ok (.iconst 0, 1) := by decide +kernel
theorem dX4_digest_132 : decode cX4_digest 132 = .ok (.istore 6, 2) := by decide +kernel
theorem dX4_digest_134 : decode cX4_digest 134 = .ok (.iload 6, 2) := by decide +kernel
theorem dX4_digest_136 : decode cX4_digest 136 = .ok (.iload 5, 2) := by decide +kernel
theorem dX4_digest_138 : decode cX4_digest 138 = .ok (.if_icmp .ge 26, 3) := by decide +kernel
theorem dX4_digest_141 : decode cX4_digest 141 = .ok (.aload 4, 2) := by decide +kernel
theorem dX4_digest_143 : decode cX4_digest 143 = .ok (.iload 6, 2) := by decide +kernel
theorem dX4_digest_145 : decode cX4_digest 145 = .ok (.iaload, 1) := by decide +kernel
theorem dX4_digest_146 : decode cX4_digest 146 = .ok (.istore 7, 2) := by decide +kernel
theorem dX4_digest_148 : decode cX4_digest 148 = .ok (.lload_n 2, 1) := by decide +kernel
theorem dX4_digest_149 : decode cX4_digest 149 = .ok (.ldc2_w 168, 3) := by decide +kernel
theorem dX4_digest_152 : decode cX4_digest 152 = .ok (.lmul, 1) := by decide +kernel
theorem dX4_digest_153 : decode cX4_digest 153 = .ok (.iload 7, 2) := by decide +kernel
theorem dX4_digest_155 : decode cX4_digest 155 = .ok (.i2l, 1) := by decide +kernel
theorem dX4_digest_156 : decode cX4_digest 156 = .ok (.ladd, 1) := by decide +kernel
theorem dX4_digest_157 : decode cX4_digest 157 = .ok (.lstore_n 2, 1) := by decide +kernel
theorem dX4_digest_158 : decode cX4_digest 158 = .ok (.iinc 6 1, 3) := by decide +kernel
theorem dX4_digest_161 : decode cX4_digest 161 = .ok (.goto (-27), 3) := by decide +kernel
theorem dX4_digest_164 : decode cX4_digest 164 = .ok (.iconst 0, 1) := by decide +kernel
theorem dX4_digest_165 : decode cX4_digest 165 = .ok (.istore 4, 2) := by decide +kernel
theorem dX4_digest_167 : decode cX4_digest 167 = .ok (.iload 4, 2) := by decide +kernel
theorem dX4_digest_169 : decode cX4_digest 169 = .ok (.aload_n 0, 1) := by decide +kernel
theorem dX4_digest_170 : decode cX4_digest 170 = .ok (.getfield 13, 3) := by decide +kernel
theorem dX4_digest_173 : decode cX4_digest 173 = .ok (.if_icmp .ge 123, 3) := by decide +kernel
theorem dX4_digest_176 : decode cX4_digest 176 = .ok (.lload_n 2, 1) := by decide +kernel
theorem dX4_digest_177 : decode cX4_digest 177 = .ok (.ldc2_w 168, 3) := by decide +kernel
theorem dX4_digest_180 : decode cX4_digest 180 = .ok (.lmul, 1) := by decide +kernel
theorem dX4_digest_181 : decode cX4_digest 181 = .ok (.aload_n 0, 1) := by decide +kernel
theorem dX4_digest_182 : decode cX4_digest 182 = .ok (.getfield 29, 3) := by decide +kernel
theorem dX4_digest_185 : decode cX4_digest 185 = .ok (.iload 4, 2) := by decide +kernel
theorem dX4_digest_187 : decode cX4_digest 187 = .ok (.iaload, 1) := by decide +kernel
theorem dX4_digest_188 : decode cX4_digest 188 = .ok (.invokestatic 98, 3) := by decide +kernel
theorem dX4_digest_191 : decode cX4_digest 191 = .ok (.i2l, 1) := by decide +kernel
theorem dX4_digest_192 : decode cX4_digest 192 = .ok (.ladd, 1) := by decide +kernel
theorem dX4_digest_193 : decode cX4_digest 193 = .ok (.lstore_n 2, 1) := by decide +kernel
theorem dX4_digest_194 : decode cX4_digest 194 = .ok (.aload_n 0, 1) := by decide +kernel
theorem dX4_digest_195 : decode cX4_digest 195 = .ok (.iload 4, 2) := by decide +kernel
theorem dX4_digest_197 : decode cX4_digest 197 = .ok (.invokevirtual 83, 3) := by decide +kernel
theorem dX4_digest_200 : decode cX4_digest 200 = .ok (.istore 5, 2) := by decide +kernel
theorem dX4_digest_202 : decode cX4_digest 202 = .ok (.iconst 0, 1) := by decide +kernel
theorem dX4_digest_203 : decode cX4_digest 203 = .ok (.istore 6, 2) := by decide +kernel
theorem dX4_digest_205 : decode cX4_digest 205 = .ok (.iload 6, 2) := by decide +kernel
theorem dX4_digest_207 : decode cX4_digest 207 = .ok (.aload_n 0, 1) := by decide +kernel
theorem dX4_digest_208 : decode cX4_digest 208 = .ok (.getfield 7, 3) := by decide +kernel
theorem dX4_digest_211 : decode cX4_digest 211 = .ok (.if_icmp .ge 79, 3) := by decide +kernel
theorem dX4_digest_214 : decode cX4_digest 214 = .ok (.lload_n 2, 1) := by decide +kernel
theorem dX4_digest_215 : decode cX4_digest 215 = .ok (.ldc2_w 168, 3) := by decide +kernel
theorem dX4_digest_218 : decode cX4_digest 218 = .ok (.lmul, 1) := by decide +kernel
theorem dX4_digest_219 : decode cX4_digest 219 = .ok (.aload_n 0, 1) := by decide +kernel
theorem dX4_digest_220 : decode cX4_digest 220 = .ok (.iload 6, 2) := by decide +kernel
theorem dX4_digest_222 : decode cX4_digest 222 = .ok (.iload 4, 2) := by decide +kernel
theorem dX4_digest_224 : decode cX4_digest 224 = .ok (.invokevirtual 73, 3) := by decide +kernel
theorem dX4_digest_227 : decode cX4_digest 227 = .ok (.ifCond .eq 7, 3) := by decide +kernel
theorem dX4_digest_230 : decode cX4_digest 230 = .ok (.iconst 1, 1) := by decide +kernel
theorem dX4_digest_231 : decode cX4_digest 231 = .ok (.goto 4, 3) := by decide +kernel
theorem dX4_digest_234 : decode cX4_digest 234 = .ok (.iconst 0, 1) := by decide +kernel
theorem dX4_digest_235 : decode cX4_digest 235 = .ok (.i2l, 1) := by decide +kernel
theorem dX4_digest_236 : decode cX4_digest 236 = .ok (.ladd, 1) := by decide +kernel
theorem dX4_digest_237 : decode cX4_digest 237 = .ok (.ldc2_w 168, 3) := by decide +kernel
theorem dX4_digest_240 : decode cX4_digest 240 = .ok (.lmul, 1) := by decide +kernel
theorem dX4_digest_241 : decode cX4_digest 241 = .ok (.aload_n 0, 1) := by decide +kernel
theorem dX4_digest_242 : decode cX4_digest 242 = .ok (.getfield 32, 3) := by decide +kernel
theorem dX4_digest_245 : decode cX4_digest 245 = .ok (.bipush 12, 2) := by decide +kernel
theorem dX4_digest_247 : decode cX4_digest 247 = .ok (.iload 4, 2) := by decide +kernel
theorem dX4_digest_249 : decode cX4_digest 249 = .ok (.imul, 1) := by decide +kernel
theorem dX4_digest_250 : decode cX4_digest 250 = .ok (.iload 6, 2) := by decide +kernel
theorem dX4_digest_252 : decode cX4_digest 252 = .ok (.iadd, 1) := by decide +kernel
theorem dX4_digest_253 : decode cX4_digest 253 = .ok (.iaload, 1) := by decide +kernel
theorem dX4_digest_254 : decode cX4_digest 254 = .ok (.i2l, 1) := by decide +kernel
theorem dX4_digest_255 : decode cX4_digest 255 = .ok (.ladd, 1) := by decide +kernel
theorem dX4_digest_256 : decode cX4_digest 256 = .ok (.lstore_n 2, 1) := by decide +kernel
theorem dX4_digest_257 : decode cX4_digest 257 = .ok (.lload_n 2, 1) := by decide +kernel
theorem dX4_digest_258 : decode cX4_digest 258 = .ok (.ldc2_w 168, 3) := by decide +kernel
theorem dX4_digest_261 : decode cX4_digest 261 = .ok (.lmul, 1) := by decide +kernel
theorem dX4_digest_262 : decode cX4_digest 262 = .ok (.aload_n 0, 1) := by decide +kernel
theorem dX4_digest_263 : decode cX4_digest 263 = .ok (.iload 6, 2) := by decide +kernel
theorem dX4_digest_265 : decode cX4_digest 265 = .ok (.invokevirtual 80, 3) := by decide +kernel
theorem dX4_digest_268 : decode cX4_digest 268 = .ok (.i2l, 1) := by decide +kernel
theorem dX4_digest_269 : decode cX4_digest 269 = .ok (.ladd, 1) := by decide +kernel
theorem dX4_digest_270 : decode cX4_digest 270 = .ok (.ldc2_w 168, 3) := by decide +kernel
theorem dX4_digest_273 : decode cX4_digest 273 = .ok (.lmul, 1) := by decide +kernel
theorem dX4_digest_274 : decode cX4_digest 274 = .ok (.iload 5, 2) := by decide +kernel
theorem dX4_digest_276 : decode cX4_digest 276 = .ok (.iload 6, 2) := by decide +kernel
theorem dX4_digest_278 : decode cX4_digest 278 = .ok (.ishr, 1) := by decide +kernel
theorem dX4_digest_279 : decode cX4_digest 279 = .ok (.iconst 1, 1) := by decide +kernel
theorem dX4_digest_280 : decode cX4_digest 280 = .ok (.iand, 1) := by decide +kernel
theorem dX4_digest_281 : decode cX4_digest 281 = .ok (.i2l, 1) := by decide +kernel
theorem dX4_digest_282 : decode cX4_digest 282 = .ok (.ladd, 1) := by decide +kernel
theorem dX4_digest_283 : decode cX4_digest 283 = .ok (.lstore_n 2, 1) := by decide +kernel
theorem dX4_digest_284 : decode cX4_digest 284 = .ok (.iinc 6 1, 3) := by decide +kernel
theorem dX4_digest_287 : decode cX4_digest 287 = .ok (.goto (-82), 3) := by decide +kernel
theorem dX4_digest_290 : decode cX4_digest 290 = .ok (.iinc 4 1, 3) := by decide +kernel
theorem dX4_digest_293 : decode cX4_digest 293 = .ok (.goto (-126), 3) := by decide +kernel
theorem dX4_digest_296 : decode cX4_digest 296 = .ok (.lload_n 2, 1) := by decide +kernel
theorem dX4_digest_297 : decode cX4_digest 297 = .ok (.lreturn, 1) := by decide +kernel
theorem dJ6_bitCount_0f7a4_0 : decode cJ6_bitCount_0f7a4 0 = .ok (.iload_n 0, 1) := by decide +kernel
theorem dJ6_bitCount_0f7a4_1 : decode cJ6_bitCount_0f7a4 1 = .ok (.iload_n 0, 1) := by decide +kernel
theorem dJ6_bitCount_0f7a4_2 : decode cJ6_bitCount_0f7a4 2 = .ok (.iconst 1, 1) := by decide +kernel
theorem dJ6_bitCount_0f7a4_3 : decode cJ6_bitCount_0f7a4 3 = .ok (.iushr, 1) := by decide +kernel
theorem dJ6_bitCount_0f7a4_4 : decode cJ6_bitCount_0f7a4 4 = .ok (.ldc_w 265, 3) := by decide +kernel
theorem dJ6_bitCount_0f7a4_7 : decode cJ6_bitCount_0f7a4 7 = .ok (.iand, 1) := by decide +kernel
theorem dJ6_bitCount_0f7a4_8 : decode cJ6_bitCount_0f7a4 8 = .ok (.isub, 1) := by decide +kernel
theorem dJ6_bitCount_0f7a4_9 : decode cJ6_bitCount_0f7a4 9 = .ok (.istore_n 0, 1) := by decide +kernel
theorem dJ6_bitCount_0f7a4_10 : decode cJ6_bitCount_0f7a4 10 = .ok (.iload_n 0, 1) := by decide +kernel
theorem dJ6_bitCount_0f7a4_11 : decode cJ6_bitCount_0f7a4 11 = .ok (.ldc_w 266, 3) := by decide +kernel
theorem dJ6_bitCount_0f7a4_14 : decode cJ6_bitCount_0f7a4 14 = .ok (.iand, 1) := by decide +kernel
theorem dJ6_bitCount_0f7a4_15 : decode cJ6_bitCount_0f7a4 15 = .ok (.iload_n 0, 1) := by decide +kernel
theorem dJ6_bitCount_0f7a4_16 : decode cJ6_bitCount_0f7a4 16 = .ok (.iconst 2, 1) := by decide +kernel
theorem dJ6_bitCount_0f7a4_17 : decode cJ6_bitCount_0f7a4 17 = .ok (.iushr, 1) := by decide +kernel
theorem dJ6_bitCount_0f7a4_18 : decode cJ6_bitCount_0f7a4 18 = .ok (.ldc_w 266, 3) := by decide +kernel
theorem dJ6_bitCount_0f7a4_21 : decode cJ6_bitCount_0f7a4 21 = .ok (.iand, 1) := by decide +kernel
theorem dJ6_bitCount_0f7a4_22 : decode cJ6_bitCount_0f7a4 22 = .ok (.iadd, 1) := by decide +kernel
theorem dJ6_bitCount_0f7a4_23 : decode cJ6_bitCount_0f7a4 23 = .ok (.istore_n 0, 1) := by decide +kernel
theorem dJ6_bitCount_0f7a4_24 : decode cJ6_bitCount_0f7a4 24 = .ok (.iload_n 0, 1) := by decide +kernel
theorem dJ6_bitCount_0f7a4_25 : decode cJ6_bitCount_0f7a4 25 = .ok (.iload_n 0, 1) := by decide +kernel
theorem dJ6_bitCount_0f7a4_26 : decode cJ6_bitCount_0f7a4 26 = .ok (.iconst 4, 1) := by decide +kernel
theorem dJ6_bitCount_0f7a4_27 : decode cJ6_bitCount_0f7a4 27 = .ok (.iushr, 1) := by decide +kernel
theorem dJ6_bitCount_0f7a4_28 : decode cJ6_bitCount_0f7a4 28 = .ok (.iadd, 1) := by decide +kernel
theorem dJ6_bitCount_0f7a4_29 : decode cJ6_bitCount_0f7a4 29 = .ok (.ldc_w 267, 3) := by decide +kernel
theorem dJ6_bitCount_0f7a4_32 : decode cJ6_bitCount_0f7a4 32 = .ok (.iand, 1) := by decide +kernel
theorem dJ6_bitCount_0f7a4_33 : decode cJ6_bitCount_0f7a4 33 = .ok (.istore_n 0, 1) := by decide +kernel
theorem dJ6_bitCount_0f7a4_34 : decode cJ6_bitCount_0f7a4 34 = .ok (.iload_n 0, 1) := by decide +kernel
theorem dJ6_bitCount_0f7a4_35 : decode cJ6_bitCount_0f7a4 35 = .ok (.iload_n 0, 1) := by decide +kernel
theorem dJ6_bitCount_0f7a4_36 : decode cJ6_bitCount_0f7a4 36 = .ok (.bipush 8, 2) := by decide +kernel
theorem dJ6_bitCount_0f7a4_38 : decode cJ6_bitCount_0f7a4 38 = .ok (.iushr, 1) := by decide +kernel
theorem dJ6_bitCount_0f7a4_39 : decode cJ6_bitCount_0f7a4 39 = .ok (.iadd, 1) := by decide +kernel
theorem dJ6_bitCount_0f7a4_40 : decode cJ6_bitCount_0f7a4 40 = .ok (.istore_n 0, 1) := by decide +kernel
theorem dJ6_bitCount_0f7a4_41 : decode cJ6_bitCount_0f7a4 41 = .ok (.iload_n 0, 1) := by decide +kernel
theorem dJ6_bitCount_0f7a4_42 : decode cJ6_bitCount_0f7a4 42 = .ok (.iload_n 0, 1) := by decide +kernel
theorem dJ6_bitCount_0f7a4_43 : decode cJ6_bitCount_0f7a4 43 = .ok (.bipush 16, 2) := by decide +kernel
theorem dJ6_bitCount_0f7a4_45 : decode cJ6_bitCount_0f7a4 45 = .ok (.iushr, 1) := by decide +kernel
theorem dJ6_bitCount_0f7a4_46 : decode cJ6_bitCount_0f7a4 46 = .ok (.iadd, 1) := by decide +kernel
theorem dJ6_bitCount_0f7a4_47 : decode cJ6_bitCount_0f7a4 47 = .ok (.istore_n 0, 1) := by decide +kernel
theorem dJ6_bitCount_0f7a4_48 : decode cJ6_bitCount_0f7a4 48 = .ok (.iload_n 0, 1) := by decide +kernel
theorem dJ6_bitCount_0f7a4_49 : decode cJ6_bitCount_0f7a4 49 = .ok (.bipush 63, 2) := by decide +kernel
theorem dJ6_bitCount_0f7a4_51 : decode cJ6_bitCount_0f7a4 51 = .ok (.iand, 1) := by decide +kernel
theorem dJ6_bitCount_0f7a4_52 : decode cJ6_bitCount_0f7a4 52 = .ok (.ireturn, 1) := by decide +kernel
theorem dJ9_max_7cf53_0 : decode cJ9_max_7cf53 0 = .ok (.iload_n 0, 1) := by decide +kernel
theorem dJ9_max_7cf53_1 : decode cJ9_max_7cf53 1 = .ok (.iload_n 1, 1) := by decide +kernel
theorem dJ9_max_7cf53_2 : decode cJ9_max_7cf53 2 = .ok (.if_icmp .lt 7, 3) := by decide +kernel
theorem dJ9_max_7cf53_5 : decode cJ9_max_7cf53 5 = .ok (.iload_n 0, 1) := by decide +kernel
theorem dJ9_max_7cf53_6 : decode cJ9_max_7cf53 6 = .ok (.goto 4, 3) := by decide +kernel
theorem dJ9_max_7cf53_9 : decode cJ9_max_7cf53 9 = .ok (.iload_n 1, 1) := by decide +kernel
theorem dJ9_max_7cf53_10 : decode cJ9_max_7cf53 10 = .ok (.ireturn, 1) := by decide +kernel
theorem dJ9_min_7cf53_0 : decode cJ9_min_7cf53 0 = .ok (.iload_n 0, 1) := by decide +kernel
theorem dJ9_min_7cf53_1 : decode cJ9_min_7cf53 1 = .ok (.iload_n 1, 1) := by decide +kernel
theorem dJ9_min_7cf53_2 : decode cJ9_min_7cf53 2 = .ok (.if_icmp .gt 7, 3) := by decide +kernel
theorem dJ9_min_7cf53_5 : decode cJ9_min_7cf53 5 = .ok (.iload_n 0, 1) := by decide +kernel
theorem dJ9_min_7cf53_6 : decode cJ9_min_7cf53 6 = .ok (.goto 4, 3) := by decide +kernel
theorem dJ9_min_7cf53_9 : decode cJ9_min_7cf53 9 = .ok (.iload_n 1, 1) := by decide +kernel
theorem dJ9_min_7cf53_10 : decode cJ9_min_7cf53 10 = .ok (.ireturn, 1) := by decide +kernel
theorem dJ7_fill_53178_0 : decode cJ7_fill_53178 0 = .ok (.iconst 0, 1) := by decide +kernel
theorem dJ7_fill_53178_1 : decode cJ7_fill_53178 1 = .ok (.istore_n 2, 1) := by decide +kernel
theorem dJ7_fill_53178_2 : decode cJ7_fill_53178 2 = .ok (.aload_n 0, 1) := by decide +kernel
theorem dJ7_fill_53178_3 : decode cJ7_fill_53178 3 = .ok (.arraylength, 1) := by decide +kernel
theorem dJ7_fill_53178_4 : decode cJ7_fill_53178 4 = .ok (.istore_n 3, 1) := by decide +kernel
theorem dJ7_fill_53178_5 : decode cJ7_fill_53178 5 = .ok (.iload_n 2, 1) := by decide +kernel
theorem dJ7_fill_53178_6 : decode cJ7_fill_53178 6 = .ok (.iload_n 3, 1) := by decide +kernel
theorem dJ7_fill_53178_7 : decode cJ7_fill_53178 7 = .ok (.if_icmp .ge 13, 3) := by decide +kernel
theorem dJ7_fill_53178_10 : decode cJ7_fill_53178 10 = .ok (.aload_n 0, 1) := by decide +kernel
theorem dJ7_fill_53178_11 : decode cJ7_fill_53178 11 = .ok (.iload_n 2, 1) := by decide +kernel
theorem dJ7_fill_53178_12 : decode cJ7_fill_53178 12 = .ok (.iload_n 1, 1) := by decide +kernel
theorem dJ7_fill_53178_13 : decode cJ7_fill_53178 13 = .ok (.iastore, 1) := by decide +kernel
theorem dJ7_fill_53178_14 : decode cJ7_fill_53178 14 = .ok (.iinc 2 1, 3) := by decide +kernel
theorem dJ7_fill_53178_17 : decode cJ7_fill_53178 17 = .ok (.goto (-12), 3) := by decide +kernel
theorem dJ7_fill_53178_20 : decode cJ7_fill_53178 20 = .ok (.return_, 1) := by decide +kernel
set_option maxRecDepth 20000 in
theorem ggL_lay_X3_lay : GoodIn wsL_lay wsX3_lay := goodIn_ca (goodIn_r _ [6, 7, 8, 9, 5, 10, 11, 12, 13, 14, 15, 16, 17, 18, 19, 20, 21, 22, 23, 24, 25, 26, 27, 28, 29, 30, 31, 32, 33, 34, 35, 36, 37] (by decide +kernel) (by decide +kernel)) (goodIn_sub (fun _ h => List.mem_cons_of_mem _ (List.mem_append_right _ h)) (by decide +kernel))
set_option maxRecDepth 20000 in
theorem gL_lay_X3_lay : GoodIn wsL_lay (wsV RL 7 RX3 yX3_lay wsX3_lay) := goodIn_app (goodIn_of _ (by decide +kernel)) ggL_lay_X3_lay
theorem dL_lay_0 : decode cL_lay 0 = .ok (.aload_n 3, 1) := by decide +kernel
theorem dL_lay_1 : decode cL_lay 1 = .ok (.iconst 0, 1) := by decide +kernel
theorem dL_lay_2 : decode cL_lay 2 = .ok (.aload_n 0, 1) := by decide +kernel
theorem dL_lay_3 : decode cL_lay 3 = .ok (.iload_n 1, 1) := by decide +kernel
theorem dL_lay_4 : decode cL_lay 4 = .ok (.iload_n 2, 1) := by decide +kernel
theorem dL_lay_5 : decode cL_lay 5 = .ok (.invokevirtual 7, 3) := by decide +kernel
theorem dL_lay_8 : decode cL_lay 8 = .ok (.i2l, 1) := by decide +kernel
theorem dL_lay_9 : decode cL_lay 9 = .ok (.lastore, 1) := by decide +kernel
theorem dL_lay_10 : decode cL_lay 10 = .ok (.goto 7, 3) := by decide +kernel
theorem dL_lay_13 : decode cL_lay 13 = .ok (.astore 4, 2) := by decide +kernel
theorem dL_lay_15 : decode cL_lay 15 = .ok (.iconst 1, 1) := by decide +kernel
theorem dL_lay_16 : decode cL_lay 16 = .ok (.ireturn, 1) := by decide +kernel
theorem dL_lay_17 : decode cL_lay 17 = .ok (.iconst 0, 1) := by decide +kernel
theorem dL_lay_18 : decode cL_lay 18 = .ok (.ireturn, 1) := by decide +kernel
set_option maxRecDepth 20000 in
theorem ggL_turn_X3_turn : GoodIn wsL_turn wsX3_turn := goodIn_ca (goodIn_ca (goodIn_r _ [7, 8, 9, 10, 11, 12, 13, 6, 14, 15, 16, 17, 18, 19, 20, 21, 22, 23, 24, 25, 26, 27, 28, 29, 30, 31, 32, 33, 34, 35, 36, 37, 38, 39, 40, 41, 42, 43, 44, 45, 46, 47, 48, 49, 50, 51, 52, 53, 54, 55, 56, 57, 58] (by decide +kernel) (by decide +kernel)) (goodIn_sub (fun _ h => List.mem_cons_of_mem _ (List.mem_append_left _ (List.mem_append_right _ h))) (by decide +kernel))) (goodIn_sub (fun _ h => List.mem_cons_of_mem _ (List.mem_append_right _ h)) (by decide +kernel))
set_option maxRecDepth 20000 in
theorem gL_turn_X3_turn : GoodIn wsL_turn (wsV RL 15 RX3 yX3_turn wsX3_turn) := goodIn_app (goodIn_of _ (by decide +kernel)) ggL_turn_X3_turn
theorem dL_turn_0 : decode cL_turn 0 = .ok (.aload_n 3, 1) := by decide +kernel
theorem dL_turn_1 : decode cL_turn 1 = .ok (.iconst 0, 1) := by decide +kernel
theorem dL_turn_2 : decode cL_turn 2 = .ok (.aload_n 0, 1) := by decide +kernel
theorem dL_turn_3 : decode cL_turn 3 = .ok (.iload_n 1, 1) := by decide +kernel
theorem dL_turn_4 : decode cL_turn 4 = .ok (.iload_n 2, 1) := by decide +kernel
theorem dL_turn_5 : decode cL_turn 5 = .ok (.invokevirtual 15, 3) := by decide +kernel
theorem dL_turn_8 : decode cL_turn 8 = .ok (.ifCond .eq 7, 3) := by decide +kernel
theorem dL_turn_11 : decode cL_turn 11 = .ok (.lconst 1, 1) := by decide +kernel
theorem dL_turn_12 : decode cL_turn 12 = .ok (.goto 4, 3) := by decide +kernel
theorem dL_turn_15 : decode cL_turn 15 = .ok (.lconst 0, 1) := by decide +kernel
theorem dL_turn_16 : decode cL_turn 16 = .ok (.lastore, 1) := by decide +kernel
theorem dL_turn_17 : decode cL_turn 17 = .ok (.goto 11, 3) := by decide +kernel
theorem dL_turn_20 : decode cL_turn 20 = .ok (.astore 4, 2) := by decide +kernel
theorem dL_turn_22 : decode cL_turn 22 = .ok (.iconst 1, 1) := by decide +kernel
theorem dL_turn_23 : decode cL_turn 23 = .ok (.ireturn, 1) := by decide +kernel
theorem dL_turn_24 : decode cL_turn 24 = .ok (.astore 4, 2) := by decide +kernel
theorem dL_turn_26 : decode cL_turn 26 = .ok (.iconst 2, 1) := by decide +kernel
theorem dL_turn_27 : decode cL_turn 27 = .ok (.ireturn, 1) := by decide +kernel
theorem dL_turn_28 : decode cL_turn 28 = .ok (.iconst 0, 1) := by decide +kernel
theorem dL_turn_29 : decode cL_turn 29 = .ok (.ireturn, 1) := by decide +kernel
set_option maxRecDepth 20000 in
theorem ggL_press_X3_press : GoodIn wsL_press wsX3_press := goodIn_ca (goodIn_ca (goodIn_r _ [7, 8, 9, 10, 11, 6, 12, 13, 14, 15, 16, 17, 18, 19, 20, 21, 22, 23, 24, 25, 26, 27, 28, 29, 30, 31, 32, 33, 34, 35, 36, 37, 38, 39, 40, 41, 42, 43, 44, 45, 46, 47, 48, 49, 50, 51, 52, 53, 54, 55, 56, 57, 58, 59, 60, 61] (by decide +kernel) (by decide +kernel)) (goodIn_sub (fun _ h => List.mem_cons_of_mem _ (List.mem_append_left _ (List.mem_append_right _ h))) (by decide +kernel))) (goodIn_sub (fun _ h => List.mem_cons_of_mem _ (List.mem_append_right _ h)) (by decide +kernel))
set_option maxRecDepth 20000 in
theorem gL_press_X3_press : GoodIn wsL_press (wsV RL 23 RX3 yX3_press wsX3_press) := goodIn_app (goodIn_of _ (by decide +kernel)) ggL_press_X3_press
theorem dL_press_0 : decode cL_press 0 = .ok (.aload 4, 2) := by decide +kernel
theorem dL_press_2 : decode cL_press 2 = .ok (.iconst 0, 1) := by decide +kernel
theorem dL_press_3 : decode cL_press 3 = .ok (.aload_n 0, 1) := by decide +kernel
theorem dL_press_4 : decode cL_press 4 = .ok (.iload_n 1, 1) := by decide +kernel
theorem dL_press_5 : decode cL_press 5 = .ok (.iload_n 2, 1) := by decide +kernel
theorem dL_press_6 : decode cL_press 6 = .ok (.iload_n 3, 1) := by decide +kernel
theorem dL_press_7 : decode cL_press 7 = .ok (.invokevirtual 23, 3) := by decide +kernel
theorem dL_press_10 : decode cL_press 10 = .ok (.i2l, 1) := by decide +kernel
theorem dL_press_11 : decode cL_press 11 = .ok (.lastore, 1) := by decide +kernel
theorem dL_press_12 : decode cL_press 12 = .ok (.goto 11, 3) := by decide +kernel
theorem dL_press_15 : decode cL_press 15 = .ok (.astore 5, 2) := by decide +kernel
theorem dL_press_17 : decode cL_press 17 = .ok (.iconst 1, 1) := by decide +kernel
theorem dL_press_18 : decode cL_press 18 = .ok (.ireturn, 1) := by decide +kernel
theorem dL_press_19 : decode cL_press 19 = .ok (.astore 5, 2) := by decide +kernel
theorem dL_press_21 : decode cL_press 21 = .ok (.iconst 2, 1) := by decide +kernel
theorem dL_press_22 : decode cL_press 22 = .ok (.ireturn, 1) := by decide +kernel
theorem dL_press_23 : decode cL_press 23 = .ok (.iconst 0, 1) := by decide +kernel
theorem dL_press_24 : decode cL_press 24 = .ok (.ireturn, 1) := by decide +kernel
set_option maxRecDepth 20000 in
theorem ggL_setFrame_X3_setFrame : GoodIn wsL_setFrame wsX3_setFrame := goodIn_ca (goodIn_r _ [6, 7, 8, 9, 5, 10, 11, 12, 13, 14, 15, 16, 17, 18, 19, 20, 21, 22, 23, 24] (by decide +kernel) (by decide +kernel)) (goodIn_sub (fun _ h => List.mem_cons_of_mem _ (List.mem_append_right _ h)) (by decide +kernel))
set_option maxRecDepth 20000 in
theorem gL_setFrame_X3_setFrame : GoodIn wsL_setFrame (wsV RL 27 RX3 yX3_setFrame wsX3_setFrame) := goodIn_app (goodIn_of _ (by decide +kernel)) ggL_setFrame_X3_setFrame
theorem dL_setFrame_0 : decode cL_setFrame 0 = .ok (.aload_n 2, 1) := by decide +kernel
theorem dL_setFrame_1 : decode cL_setFrame 1 = .ok (.iconst 0, 1) := by decide +kernel
theorem dL_setFrame_2 : decode cL_setFrame 2 = .ok (.aload_n 0, 1) := by decide +kernel
theorem dL_setFrame_3 : decode cL_setFrame 3 = .ok (.iload_n 1, 1) := by decide +kernel
theorem dL_setFrame_4 : decode cL_setFrame 4 = .ok (.invokevirtual 27, 3) := by decide +kernel
theorem dL_setFrame_7 : decode cL_setFrame 7 = .ok (.i2l, 1) := by decide +kernel
theorem dL_setFrame_8 : decode cL_setFrame 8 = .ok (.lastore, 1) := by decide +kernel
theorem dL_setFrame_9 : decode cL_setFrame 9 = .ok (.goto 6, 3) := by decide +kernel
theorem dL_setFrame_12 : decode cL_setFrame 12 = .ok (.astore_n 3, 1) := by decide +kernel
theorem dL_setFrame_13 : decode cL_setFrame 13 = .ok (.iconst 1, 1) := by decide +kernel
theorem dL_setFrame_14 : decode cL_setFrame 14 = .ok (.ireturn, 1) := by decide +kernel
theorem dL_setFrame_15 : decode cL_setFrame 15 = .ok (.iconst 0, 1) := by decide +kernel
theorem dL_setFrame_16 : decode cL_setFrame 16 = .ok (.ireturn, 1) := by decide +kernel
set_option maxRecDepth 20000 in
theorem ggL_addRule_X3_addRule : GoodIn wsL_addRule wsX3_addRule := goodIn_ca (goodIn_ca (goodIn_r _ [7, 8, 9, 10, 11, 12, 6, 13, 14, 15, 16, 17, 18, 19, 20, 21, 22, 23, 24, 25, 26, 27, 28, 29, 30, 31, 32, 33, 34, 35, 36] (by decide +kernel) (by decide +kernel)) (goodIn_sub (fun _ h => List.mem_cons_of_mem _ (List.mem_append_left _ (List.mem_append_right _ h))) (by decide +kernel))) (goodIn_sub (fun _ h => List.mem_cons_of_mem _ (List.mem_append_right _ h)) (by decide +kernel))
set_option maxRecDepth 20000 in
theorem gL_addRule_X3_addRule : GoodIn wsL_addRule (wsV RL 31 RX3 yX3_addRule wsX3_addRule) := goodIn_app (goodIn_of _ (by decide +kernel)) ggL_addRule_X3_addRule
theorem dL_addRule_0 : decode cL_addRule 0 = .ok (.aload_n 3, 1) := by decide +kernel
theorem dL_addRule_1 : decode cL_addRule 1 = .ok (.iconst 0, 1) := by decide +kernel
theorem dL_addRule_2 : decode cL_addRule 2 = .ok (.aload_n 0, 1) := by decide +kernel
theorem dL_addRule_3 : decode cL_addRule 3 = .ok (.iload_n 1, 1) := by decide +kernel
theorem dL_addRule_4 : decode cL_addRule 4 = .ok (.iload_n 2, 1) := by decide +kernel
theorem dL_addRule_5 : decode cL_addRule 5 = .ok (.invokevirtual 31, 3) := by decide +kernel
theorem dL_addRule_8 : decode cL_addRule 8 = .ok (.i2l, 1) := by decide +kernel
theorem dL_addRule_9 : decode cL_addRule 9 = .ok (.lastore, 1) := by decide +kernel
theorem dL_addRule_10 : decode cL_addRule 10 = .ok (.goto 11, 3) := by decide +kernel
theorem dL_addRule_13 : decode cL_addRule 13 = .ok (.astore 4, 2) := by decide +kernel
theorem dL_addRule_15 : decode cL_addRule 15 = .ok (.iconst 1, 1) := by decide +kernel
theorem dL_addRule_16 : decode cL_addRule 16 = .ok (.ireturn, 1) := by decide +kernel
theorem dL_addRule_17 : decode cL_addRule 17 = .ok (.astore 4, 2) := by decide +kernel
theorem dL_addRule_19 : decode cL_addRule 19 = .ok (.iconst 2, 1) := by decide +kernel
theorem dL_addRule_20 : decode cL_addRule 20 = .ok (.ireturn, 1) := by decide +kernel
theorem dL_addRule_21 : decode cL_addRule 21 = .ok (.iconst 0, 1) := by decide +kernel
theorem dL_addRule_22 : decode cL_addRule 22 = .ok (.ireturn, 1) := by decide +kernel
set_option maxRecDepth 20000 in
theorem ggL_breathe_X3_breathe : GoodIn wsL_breathe wsX3_breathe := goodIn_ca (goodIn_r _ [6, 7, 8, 9, 10, 11, 12, 13, 14, 15, 16, 17, 18, 19, 20, 21, 22, 23, 24, 25] (by decide +kernel) (by decide +kernel)) (goodIn_sub (fun _ h => List.mem_cons_of_mem _ (List.mem_append_right _ h)) (by decide +kernel))
set_option maxRecDepth 20000 in
theorem gL_breathe_X3_breathe : GoodIn wsL_breathe (wsV RL 34 RX3 yX3_breathe wsX3_breathe) := goodIn_app (goodIn_of _ (by decide +kernel)) ggL_breathe_X3_breathe
theorem dL_breathe_0 : decode cL_breathe 0 = .ok (.aload_n 2, 1) := by decide +kernel
theorem dL_breathe_1 : decode cL_breathe 1 = .ok (.iconst 0, 1) := by decide +kernel
theorem dL_breathe_2 : decode cL_breathe 2 = .ok (.aload_n 0, 1) := by decide +kernel
theorem dL_breathe_3 : decode cL_breathe 3 = .ok (.iload_n 1, 1) := by decide +kernel
theorem dL_breathe_4 : decode cL_breathe 4 = .ok (.invokevirtual 34, 3) := by decide +kernel
theorem dL_breathe_7 : decode cL_breathe 7 = .ok (.i2l, 1) := by decide +kernel
theorem dL_breathe_8 : decode cL_breathe 8 = .ok (.lastore, 1) := by decide +kernel
theorem dL_breathe_9 : decode cL_breathe 9 = .ok (.goto 6, 3) := by decide +kernel
theorem dL_breathe_12 : decode cL_breathe 12 = .ok (.astore_n 3, 1) := by decide +kernel
theorem dL_breathe_13 : decode cL_breathe 13 = .ok (.iconst 1, 1) := by decide +kernel
theorem dL_breathe_14 : decode cL_breathe 14 = .ok (.ireturn, 1) := by decide +kernel
theorem dL_breathe_15 : decode cL_breathe 15 = .ok (.iconst 0, 1) := by decide +kernel
theorem dL_breathe_16 : decode cL_breathe 16 = .ok (.ireturn, 1) := by decide +kernel
set_option maxRecDepth 20000 in
theorem ggL_grow_X3_grow : GoodIn wsL_grow wsX3_grow := goodIn_ca (goodIn_r _ [6, 7, 8, 9, 10, 11, 12, 5, 13, 14, 15, 16, 17, 18, 19, 20, 21, 22, 23, 24, 25, 26, 27, 28, 29, 30, 31, 32, 33, 34, 35, 36, 37, 38, 39, 40, 41, 42, 43, 44, 45, 46, 47, 48, 49, 50, 51, 52, 53, 54, 55, 56, 57, 58, 59, 60, 61, 62, 63, 64, 65, 66, 67, 68, 69, 70, 71, 72, 73, 74, 75, 76, 77, 78, 79, 80, 81, 82, 83, 84, 85, 86, 87, 88, 89, 90, 91, 92, 93, 94, 95, 96, 97, 98, 99, 100, 101, 102, 103, 104, 105, 106, 107] (by decide +kernel) (by decide +kernel)) (goodIn_sub (fun _ h => List.mem_cons_of_mem _ (List.mem_append_right _ h)) (by decide +kernel))
set_option maxRecDepth 20000 in
theorem gL_grow_X3_grow : GoodIn wsL_grow (wsV RL 37 RX3 yX3_grow wsX3_grow) := goodIn_app (goodIn_of _ (by decide +kernel)) ggL_grow_X3_grow
theorem dL_grow_0 : decode cL_grow 0 = .ok (.aload_n 2, 1) := by decide +kernel
theorem dL_grow_1 : decode cL_grow 1 = .ok (.iconst 0, 1) := by decide +kernel
theorem dL_grow_2 : decode cL_grow 2 = .ok (.aload_n 0, 1) := by decide +kernel
theorem dL_grow_3 : decode cL_grow 3 = .ok (.iload_n 1, 1) := by decide +kernel
theorem dL_grow_4 : decode cL_grow 4 = .ok (.invokevirtual 37, 3) := by decide +kernel
theorem dL_grow_7 : decode cL_grow 7 = .ok (.i2l, 1) := by decide +kernel
theorem dL_grow_8 : decode cL_grow 8 = .ok (.lastore, 1) := by decide +kernel
theorem dL_grow_9 : decode cL_grow 9 = .ok (.goto 6, 3) := by decide +kernel
theorem dL_grow_12 : decode cL_grow 12 = .ok (.astore_n 3, 1) := by decide +kernel
theorem dL_grow_13 : decode cL_grow 13 = .ok (.iconst 1, 1) := by decide +kernel
theorem dL_grow_14 : decode cL_grow 14 = .ok (.ireturn, 1) := by decide +kernel
theorem dL_grow_15 : decode cL_grow 15 = .ok (.iconst 0, 1) := by decide +kernel
theorem dL_grow_16 : decode cL_grow 16 = .ok (.ireturn, 1) := by decide +kernel
set_option maxRecDepth 20000 in
theorem ggL_isFrozen_X3_isFrozen : GoodIn wsL_isFrozen wsX3_isFrozen := goodIn_ca (goodIn_r _ [6, 7, 8, 9, 10, 5, 11, 12, 13, 14, 15, 16, 17, 18, 19, 20, 21, 22, 23, 24, 25, 26, 27, 28, 29, 30, 31, 32, 33, 34, 35, 36, 37, 38, 39, 40, 41, 42, 43, 44, 45] (by decide +kernel) (by decide +kernel)) (goodIn_sub (fun _ h => List.mem_cons_of_mem _ (List.mem_append_right _ h)) (by decide +kernel))
set_option maxRecDepth 20000 in
theorem gL_isFrozen_X3_isFrozen : GoodIn wsL_isFrozen (wsV RL 40 RX3 yX3_isFrozen wsX3_isFrozen) := goodIn_app (goodIn_of _ (by decide +kernel)) ggL_isFrozen_X3_isFrozen
theorem dL_isFrozen_0 : decode cL_isFrozen 0 = .ok (.aload_n 3, 1) := by decide +kernel
theorem dL_isFrozen_1 : decode cL_isFrozen 1 = .ok (.iconst 0, 1) := by decide +kernel
theorem dL_isFrozen_2 : decode cL_isFrozen 2 = .ok (.aload_n 0, 1) := by decide +kernel
theorem dL_isFrozen_3 : decode cL_isFrozen 3 = .ok (.iload_n 1, 1) := by decide +kernel
theorem dL_isFrozen_4 : decode cL_isFrozen 4 = .ok (.iload_n 2, 1) := by decide +kernel
theorem dL_isFrozen_5 : decode cL_isFrozen 5 = .ok (.invokevirtual 40, 3) := by decide +kernel
theorem dL_isFrozen_8 : decode cL_isFrozen 8 = .ok (.ifCond .eq 7, 3) := by decide +kernel
theorem dL_isFrozen_11 : decode cL_isFrozen 11 = .ok (.lconst 1, 1) := by decide +kernel
theorem dL_isFrozen_12 : decode cL_isFrozen 12 = .ok (.goto 4, 3) := by decide +kernel
theorem dL_isFrozen_15 : decode cL_isFrozen 15 = .ok (.lconst 0, 1) := by decide +kernel
theorem dL_isFrozen_16 : decode cL_isFrozen 16 = .ok (.lastore, 1) := by decide +kernel
theorem dL_isFrozen_17 : decode cL_isFrozen 17 = .ok (.goto 7, 3) := by decide +kernel
theorem dL_isFrozen_20 : decode cL_isFrozen 20 = .ok (.astore 4, 2) := by decide +kernel
theorem dL_isFrozen_22 : decode cL_isFrozen 22 = .ok (.iconst 1, 1) := by decide +kernel
theorem dL_isFrozen_23 : decode cL_isFrozen 23 = .ok (.ireturn, 1) := by decide +kernel
theorem dL_isFrozen_24 : decode cL_isFrozen 24 = .ok (.iconst 0, 1) := by decide +kernel
theorem dL_isFrozen_25 : decode cL_isFrozen 25 = .ok (.ireturn, 1) := by decide +kernel
set_option maxRecDepth 20000 in
theorem ggL_meltedFor_X3_meltedFor : GoodIn wsL_meltedFor wsX3_meltedFor := goodIn_ca (goodIn_r _ [6, 7, 8, 9, 10, 5, 11, 12, 13, 14, 15, 16, 17, 18, 19, 20, 21, 22, 23, 24, 25, 26, 27, 28, 29, 30, 31, 32, 33, 34, 35, 36, 37, 38, 39, 40, 41] (by decide +kernel) (by decide +kernel)) (goodIn_sub (fun _ h => List.mem_cons_of_mem _ (List.mem_append_right _ h)) (by decide +kernel))
set_option maxRecDepth 20000 in
theorem gL_meltedFor_X3_meltedFor : GoodIn wsL_meltedFor (wsV RL 43 RX3 yX3_meltedFor wsX3_meltedFor) := goodIn_app (goodIn_of _ (by decide +kernel)) ggL_meltedFor_X3_meltedFor
theorem dL_meltedFor_0 : decode cL_meltedFor 0 = .ok (.aload_n 3, 1) := by decide +kernel
theorem dL_meltedFor_1 : decode cL_meltedFor 1 = .ok (.iconst 0, 1) := by decide +kernel
theorem dL_meltedFor_2 : decode cL_meltedFor 2 = .ok (.aload_n 0, 1) := by decide +kernel
theorem dL_meltedFor_3 : decode cL_meltedFor 3 = .ok (.iload_n 1, 1) := by decide +kernel
theorem dL_meltedFor_4 : decode cL_meltedFor 4 = .ok (.iload_n 2, 1) := by decide +kernel
theorem dL_meltedFor_5 : decode cL_meltedFor 5 = .ok (.invokevirtual 43, 3) := by decide +kernel
theorem dL_meltedFor_8 : decode cL_meltedFor 8 = .ok (.i2l, 1) := by decide +kernel
theorem dL_meltedFor_9 : decode cL_meltedFor 9 = .ok (.lastore, 1) := by decide +kernel
theorem dL_meltedFor_10 : decode cL_meltedFor 10 = .ok (.goto 7, 3) := by decide +kernel
theorem dL_meltedFor_13 : decode cL_meltedFor 13 = .ok (.astore 4, 2) := by decide +kernel
theorem dL_meltedFor_15 : decode cL_meltedFor 15 = .ok (.iconst 1, 1) := by decide +kernel
theorem dL_meltedFor_16 : decode cL_meltedFor 16 = .ok (.ireturn, 1) := by decide +kernel
theorem dL_meltedFor_17 : decode cL_meltedFor 17 = .ok (.iconst 0, 1) := by decide +kernel
theorem dL_meltedFor_18 : decode cL_meltedFor 18 = .ok (.ireturn, 1) := by decide +kernel
set_option maxRecDepth 20000 in
theorem ggL_around_X3_around : GoodIn wsL_around wsX3_around := goodIn_ca (goodIn_r _ [6, 7, 8, 9, 10, 5, 11, 12, 13, 14, 15, 16, 17, 18, 19, 20, 21, 22, 23, 24, 25, 26, 27, 28, 29, 30, 31, 32, 33, 34, 35, 36, 37, 38, 39, 40, 41, 42, 43, 44, 45, 46, 47, 48, 49, 50, 51, 52, 53, 54, 55, 56, 57, 58, 59, 60, 61, 62, 63, 64] (by decide +kernel) (by decide +kernel)) (goodIn_sub (fun _ h => List.mem_cons_of_mem _ (List.mem_append_right _ h)) (by decide +kernel))
set_option maxRecDepth 20000 in
theorem gL_around_X3_around : GoodIn wsL_around (wsV RL 46 RX3 yX3_around wsX3_around) := goodIn_app (goodIn_of _ (by decide +kernel)) ggL_around_X3_around
theorem dL_around_0 : decode cL_around 0 = .ok (.aload_n 3, 1) := by decide +kernel
theorem dL_around_1 : decode cL_around 1 = .ok (.iconst 0, 1) := by decide +kernel
theorem dL_around_2 : decode cL_around 2 = .ok (.aload_n 0, 1) := by decide +kernel
theorem dL_around_3 : decode cL_around 3 = .ok (.iload_n 1, 1) := by decide +kernel
theorem dL_around_4 : decode cL_around 4 = .ok (.iload_n 2, 1) := by decide +kernel
theorem dL_around_5 : decode cL_around 5 = .ok (.invokevirtual 46, 3) := by decide +kernel
theorem dL_around_8 : decode cL_around 8 = .ok (.i2l, 1) := by decide +kernel
theorem dL_around_9 : decode cL_around 9 = .ok (.lastore, 1) := by decide +kernel
theorem dL_around_10 : decode cL_around 10 = .ok (.goto 7, 3) := by decide +kernel
theorem dL_around_13 : decode cL_around 13 = .ok (.astore 4, 2) := by decide +kernel
theorem dL_around_15 : decode cL_around 15 = .ok (.iconst 1, 1) := by decide +kernel
theorem dL_around_16 : decode cL_around 16 = .ok (.ireturn, 1) := by decide +kernel
theorem dL_around_17 : decode cL_around 17 = .ok (.iconst 0, 1) := by decide +kernel
theorem dL_around_18 : decode cL_around 18 = .ok (.ireturn, 1) := by decide +kernel
set_option maxRecDepth 20000 in
theorem ggL_willFreeze_X3_willFreeze : GoodIn wsL_willFreeze wsX3_willFreeze := goodIn_ca (goodIn_r _ [6, 7, 8, 9, 10, 11, 12, 5, 13, 14, 15, 16, 17, 18, 19, 20, 21, 22, 23, 24, 25, 26, 27, 28, 29, 30, 31, 32, 33, 34, 35, 36, 37, 38, 39, 40, 41, 42, 43, 44, 45, 46, 47, 48, 49, 50, 51, 52, 53, 54, 55, 56, 57, 58, 59, 60, 61, 62, 63, 64, 65, 66, 67, 68, 69, 70, 71, 72, 73, 74, 75, 76, 77, 78, 79, 80, 81, 82, 83, 84, 85, 86, 87, 88, 89, 90, 91, 92, 93, 94, 95, 96, 97, 98] (by decide +kernel) (by decide +kernel)) (goodIn_sub (fun _ h => List.mem_cons_of_mem _ (List.mem_append_right _ h)) (by decide +kernel))
set_option maxRecDepth 20000 in
theorem gL_willFreeze_X3_willFreeze : GoodIn wsL_willFreeze (wsV RL 49 RX3 yX3_willFreeze wsX3_willFreeze) := goodIn_app (goodIn_of _ (by decide +kernel)) ggL_willFreeze_X3_willFreeze
theorem dL_willFreeze_0 : decode cL_willFreeze 0 = .ok (.aload_n 3, 1) := by decide +kernel
theorem dL_willFreeze_1 : decode cL_willFreeze 1 = .ok (.iconst 0, 1) := by decide +kernel
theorem dL_willFreeze_2 : decode cL_willFreeze 2 = .ok (.aload_n 0, 1) := by decide +kernel
theorem dL_willFreeze_3 : decode cL_willFreeze 3 = .ok (.iload_n 1, 1) := by decide +kernel
theorem dL_willFreeze_4 : decode cL_willFreeze 4 = .ok (.iload_n 2, 1) := by decide +kernel
theorem dL_willFreeze_5 : decode cL_willFreeze 5 = .ok (.invokevirtual 49, 3) := by decide +kernel
theorem dL_willFreeze_8 : decode cL_willFreeze 8 = .ok (.ifCond .eq 7, 3) := by decide +kernel
theorem dL_willFreeze_11 : decode cL_willFreeze 11 = .ok (.lconst 1, 1) := by decide +kernel
theorem dL_willFreeze_12 : decode cL_willFreeze 12 = .ok (.goto 4, 3) := by decide +kernel
theorem dL_willFreeze_15 : decode cL_willFreeze 15 = .ok (.lconst 0, 1) := by decide +kernel
theorem dL_willFreeze_16 : decode cL_willFreeze 16 = .ok (.lastore, 1) := by decide +kernel
theorem dL_willFreeze_17 : decode cL_willFreeze 17 = .ok (.goto 7, 3) := by decide +kernel
theorem dL_willFreeze_20 : decode cL_willFreeze 20 = .ok (.astore 4, 2) := by decide +kernel
theorem dL_willFreeze_22 : decode cL_willFreeze 22 = .ok (.iconst 1, 1) := by decide +kernel
theorem dL_willFreeze_23 : decode cL_willFreeze 23 = .ok (.ireturn, 1) := by decide +kernel
theorem dL_willFreeze_24 : decode cL_willFreeze 24 = .ok (.iconst 0, 1) := by decide +kernel
theorem dL_willFreeze_25 : decode cL_willFreeze 25 = .ok (.ireturn, 1) := by decide +kernel
set_option maxRecDepth 20000 in
theorem ggL_frozenInRow_X3_frozenInRow : GoodIn wsL_frozenInRow wsX3_frozenInRow := goodIn_ca (goodIn_r _ [6, 7, 8, 9, 10, 11, 12, 13, 14, 15, 16, 17, 18, 19, 20, 21, 22, 23, 24, 25, 26, 27, 28, 29, 30, 31, 32, 33, 34, 35, 36, 37, 38, 39] (by decide +kernel) (by decide +kernel)) (goodIn_sub (fun _ h => List.mem_cons_of_mem _ (List.mem_append_right _ h)) (by decide +kernel))
set_option maxRecDepth 20000 in
theorem gL_frozenInRow_X3_frozenInRow : GoodIn wsL_frozenInRow (wsV RL 52 RX3 yX3_frozenInRow wsX3_frozenInRow) := goodIn_app (goodIn_of _ (by decide +kernel)) ggL_frozenInRow_X3_frozenInRow
theorem dL_frozenInRow_0 : decode cL_frozenInRow 0 = .ok (.aload_n 2, 1) := by decide +kernel
theorem dL_frozenInRow_1 : decode cL_frozenInRow 1 = .ok (.iconst 0, 1) := by decide +kernel
theorem dL_frozenInRow_2 : decode cL_frozenInRow 2 = .ok (.aload_n 0, 1) := by decide +kernel
theorem dL_frozenInRow_3 : decode cL_frozenInRow 3 = .ok (.iload_n 1, 1) := by decide +kernel
theorem dL_frozenInRow_4 : decode cL_frozenInRow 4 = .ok (.invokevirtual 52, 3) := by decide +kernel
theorem dL_frozenInRow_7 : decode cL_frozenInRow 7 = .ok (.i2l, 1) := by decide +kernel
theorem dL_frozenInRow_8 : decode cL_frozenInRow 8 = .ok (.lastore, 1) := by decide +kernel
theorem dL_frozenInRow_9 : decode cL_frozenInRow 9 = .ok (.goto 6, 3) := by decide +kernel
theorem dL_frozenInRow_12 : decode cL_frozenInRow 12 = .ok (.astore_n 3, 1) := by decide +kernel
theorem dL_frozenInRow_13 : decode cL_frozenInRow 13 = .ok (.iconst 1, 1) := by decide +kernel
theorem dL_frozenInRow_14 : decode cL_frozenInRow 14 = .ok (.ireturn, 1) := by decide +kernel
theorem dL_frozenInRow_15 : decode cL_frozenInRow 15 = .ok (.iconst 0, 1) := by decide +kernel
theorem dL_frozenInRow_16 : decode cL_frozenInRow 16 = .ok (.ireturn, 1) := by decide +kernel
set_option maxRecDepth 20000 in
theorem ggL_flowerAt_X3_flowerAt : GoodIn wsL_flowerAt wsX3_flowerAt := goodIn_ca (goodIn_r _ [6, 7, 8, 9, 10, 11, 5, 12, 13, 14, 15, 16, 17, 18, 19, 20, 21, 22, 23, 24, 25, 26, 27, 28, 29, 30, 31, 32, 33, 34, 35, 36, 37, 38, 39, 40, 41, 42, 43, 44, 45, 46, 47, 48, 49, 50, 51, 52, 53, 54, 55, 56, 57, 58, 59, 60, 61, 62, 63, 64, 65, 66, 67, 68, 69, 70, 71, 72, 73, 74, 75, 76, 77, 78] (by decide +kernel) (by decide +kernel)) (goodIn_sub (fun _ h => List.mem_cons_of_mem _ (List.mem_append_right _ h)) (by decide +kernel))
set_option maxRecDepth 20000 in
theorem gL_flowerAt_X3_flowerAt : GoodIn wsL_flowerAt (wsV RL 55 RX3 yX3_flowerAt wsX3_flowerAt) := goodIn_app (goodIn_of _ (by decide +kernel)) ggL_flowerAt_X3_flowerAt
theorem dL_flowerAt_0 : decode cL_flowerAt 0 = .ok (.aload_n 3, 1) := by decide +kernel
theorem dL_flowerAt_1 : decode cL_flowerAt 1 = .ok (.iconst 0, 1) := by decide +kernel
theorem dL_flowerAt_2 : decode cL_flowerAt 2 = .ok (.aload_n 0, 1) := by decide +kernel
theorem dL_flowerAt_3 : decode cL_flowerAt 3 = .ok (.iload_n 1, 1) := by decide +kernel
theorem dL_flowerAt_4 : decode cL_flowerAt 4 = .ok (.iload_n 2, 1) := by decide +kernel
theorem dL_flowerAt_5 : decode cL_flowerAt 5 = .ok (.invokevirtual 55, 3) := by decide +kernel
theorem dL_flowerAt_8 : decode cL_flowerAt 8 = .ok (.i2l, 1) := by decide +kernel
theorem dL_flowerAt_9 : decode cL_flowerAt 9 = .ok (.lastore, 1) := by decide +kernel
theorem dL_flowerAt_10 : decode cL_flowerAt 10 = .ok (.goto 7, 3) := by decide +kernel
theorem dL_flowerAt_13 : decode cL_flowerAt 13 = .ok (.astore 4, 2) := by decide +kernel
theorem dL_flowerAt_15 : decode cL_flowerAt 15 = .ok (.iconst 1, 1) := by decide +kernel
theorem dL_flowerAt_16 : decode cL_flowerAt 16 = .ok (.ireturn, 1) := by decide +kernel
theorem dL_flowerAt_17 : decode cL_flowerAt 17 = .ok (.iconst 0, 1) := by decide +kernel
theorem dL_flowerAt_18 : decode cL_flowerAt 18 = .ok (.ireturn, 1) := by decide +kernel
set_option maxRecDepth 20000 in
theorem ggL_frozenIn_X3_frozenIn : GoodIn wsL_frozenIn wsX3_frozenIn := goodIn_ca (goodIn_r _ [6, 7, 8, 9, 5, 10, 11, 12, 13, 14, 15, 16, 17, 18, 19, 20, 21, 22, 23, 24, 25, 26, 27, 28, 29, 30, 31, 32, 33, 34, 35, 36, 37, 38, 39, 40, 41, 42, 43, 44, 45, 46, 47, 48, 49, 50, 51, 52, 53, 54, 55, 56, 57, 58, 59, 60, 61, 62, 63, 64, 65, 66, 67, 68, 69, 70, 71, 72, 73, 74, 75, 76, 77, 78, 79, 80, 81, 82, 83, 84, 85, 86, 87, 88, 89, 90, 91, 92, 93, 94, 95, 96, 97, 98, 99, 100, 101, 102, 103, 104, 105, 106, 107, 108, 109, 110, 111, 112, 113, 114, 115, 116, 117, 118, 119, 120, 121, 122, 123] (by decide +kernel) (by decide +kernel)) (goodIn_sub (fun _ h => List.mem_cons_of_mem _ (List.mem_append_right _ h)) (by decide +kernel))
set_option maxRecDepth 20000 in
theorem gL_frozenIn_X3_frozenIn : GoodIn wsL_frozenIn (wsV RL 58 RX3 yX3_frozenIn wsX3_frozenIn) := goodIn_app (goodIn_of _ (by decide +kernel)) ggL_frozenIn_X3_frozenIn
theorem dL_frozenIn_0 : decode cL_frozenIn 0 = .ok (.aload_n 2, 1) := by decide +kernel
theorem dL_frozenIn_1 : decode cL_frozenIn 1 = .ok (.iconst 0, 1) := by decide +kernel
theorem dL_frozenIn_2 : decode cL_frozenIn 2 = .ok (.aload_n 0, 1) := by decide +kernel
theorem dL_frozenIn_3 : decode cL_frozenIn 3 = .ok (.iload_n 1, 1) := by decide +kernel
theorem dL_frozenIn_4 : decode cL_frozenIn 4 = .ok (.invokevirtual 58, 3) := by decide +kernel
theorem dL_frozenIn_7 : decode cL_frozenIn 7 = .ok (.i2l, 1) := by decide +kernel
theorem dL_frozenIn_8 : decode cL_frozenIn 8 = .ok (.lastore, 1) := by decide +kernel
theorem dL_frozenIn_9 : decode cL_frozenIn 9 = .ok (.goto 6, 3) := by decide +kernel
theorem dL_frozenIn_12 : decode cL_frozenIn 12 = .ok (.astore_n 3, 1) := by decide +kernel
theorem dL_frozenIn_13 : decode cL_frozenIn 13 = .ok (.iconst 1, 1) := by decide +kernel
theorem dL_frozenIn_14 : decode cL_frozenIn 14 = .ok (.ireturn, 1) := by decide +kernel
theorem dL_frozenIn_15 : decode cL_frozenIn 15 = .ok (.iconst 0, 1) := by decide +kernel
theorem dL_frozenIn_16 : decode cL_frozenIn 16 = .ok (.ireturn, 1) := by decide +kernel
set_option maxRecDepth 20000 in
theorem ggL_peakIn_X3_peakIn : GoodIn wsL_peakIn wsX3_peakIn := goodIn_ca (goodIn_r _ [6, 7, 8, 9, 10, 11, 12, 5, 13, 14, 15, 16, 17, 18, 19, 20, 21, 22, 23, 24, 25, 26, 27, 28, 29, 30, 31, 32, 33, 34, 35, 36, 37, 38, 39, 40, 41, 42, 43, 44, 45, 46, 47, 48, 49, 50, 51, 52, 53, 54, 55, 56, 57, 58, 59, 60, 61, 62, 63, 64, 65, 66, 67, 68, 69, 70, 71, 72, 73, 74, 75, 76, 77, 78, 79, 80, 81, 82, 83, 84, 85, 86, 87, 88, 89, 90, 91, 92, 93, 94, 95, 96, 97, 98, 99, 100, 101, 102, 103, 104, 105, 106, 107, 108, 109, 110, 111, 112, 113, 114, 115, 116, 117, 118, 119] (by decide +kernel) (by decide +kernel)) (goodIn_sub (fun _ h => List.mem_cons_of_mem _ (List.mem_append_right _ h)) (by decide +kernel))
set_option maxRecDepth 20000 in
theorem gL_peakIn_X3_peakIn : GoodIn wsL_peakIn (wsV RL 61 RX3 yX3_peakIn wsX3_peakIn) := goodIn_app (goodIn_of _ (by decide +kernel)) ggL_peakIn_X3_peakIn
theorem dL_peakIn_0 : decode cL_peakIn 0 = .ok (.aload_n 2, 1) := by decide +kernel
theorem dL_peakIn_1 : decode cL_peakIn 1 = .ok (.iconst 0, 1) := by decide +kernel
theorem dL_peakIn_2 : decode cL_peakIn 2 = .ok (.aload_n 0, 1) := by decide +kernel
theorem dL_peakIn_3 : decode cL_peakIn 3 = .ok (.iload_n 1, 1) := by decide +kernel
theorem dL_peakIn_4 : decode cL_peakIn 4 = .ok (.invokevirtual 61, 3) := by decide +kernel
theorem dL_peakIn_7 : decode cL_peakIn 7 = .ok (.i2l, 1) := by decide +kernel
theorem dL_peakIn_8 : decode cL_peakIn 8 = .ok (.lastore, 1) := by decide +kernel
theorem dL_peakIn_9 : decode cL_peakIn 9 = .ok (.goto 6, 3) := by decide +kernel
theorem dL_peakIn_12 : decode cL_peakIn 12 = .ok (.astore_n 3, 1) := by decide +kernel
theorem dL_peakIn_13 : decode cL_peakIn 13 = .ok (.iconst 1, 1) := by decide +kernel
theorem dL_peakIn_14 : decode cL_peakIn 14 = .ok (.ireturn, 1) := by decide +kernel
theorem dL_peakIn_15 : decode cL_peakIn 15 = .ok (.iconst 0, 1) := by decide +kernel
theorem dL_peakIn_16 : decode cL_peakIn 16 = .ok (.ireturn, 1) := by decide +kernel
set_option maxRecDepth 20000 in
theorem ggL_bestBreath_X3_bestBreath : GoodIn wsL_bestBreath wsX3_bestBreath := goodIn_ca (goodIn_r _ [6, 7, 8, 9, 5, 10, 11, 12, 13, 14, 15, 16, 17, 18, 19, 20, 21, 22, 23, 24, 25, 26, 27, 28, 29, 30, 31, 32, 33, 34, 35, 36, 37, 38, 39, 40, 41, 42, 43, 44, 45, 46, 47, 48, 49, 50, 51, 52, 53, 54, 55, 56, 57, 58, 59, 60, 61, 62, 63, 64, 65, 66, 67, 68, 69, 70, 71, 72, 73, 74, 75, 76, 77, 78, 79, 80, 81, 82, 83, 84, 85, 86, 87, 88, 89, 90, 91, 92, 93, 94, 95, 96, 97, 98, 99, 100, 101, 102, 103, 104, 105, 106, 107, 108, 109, 110, 111, 112, 113, 114, 115, 116, 117, 118, 119, 120, 121, 122] (by decide +kernel) (by decide +kernel)) (goodIn_sub (fun _ h => List.mem_cons_of_mem _ (List.mem_append_right _ h)) (by decide +kernel))
set_option maxRecDepth 20000 in
theorem gL_bestBreath_X3_bestBreath : GoodIn wsL_bestBreath (wsV RL 64 RX3 yX3_bestBreath wsX3_bestBreath) := goodIn_app (goodIn_of _ (by decide +kernel)) ggL_bestBreath_X3_bestBreath
theorem dL_bestBreath_0 : decode cL_bestBreath 0 = .ok (.aload_n 2, 1) := by decide +kernel
theorem dL_bestBreath_1 : decode cL_bestBreath 1 = .ok (.iconst 0, 1) := by decide +kernel
theorem dL_bestBreath_2 : decode cL_bestBreath 2 = .ok (.aload_n 0, 1) := by decide +kernel
theorem dL_bestBreath_3 : decode cL_bestBreath 3 = .ok (.iload_n 1, 1) := by decide +kernel
theorem dL_bestBreath_4 : decode cL_bestBreath 4 = .ok (.invokevirtual 64, 3) := by decide +kernel
theorem dL_bestBreath_7 : decode cL_bestBreath 7 = .ok (.i2l, 1) := by decide +kernel
theorem dL_bestBreath_8 : decode cL_bestBreath 8 = .ok (.lastore, 1) := by decide +kernel
theorem dL_bestBreath_9 : decode cL_bestBreath 9 = .ok (.goto 6, 3) := by decide +kernel
theorem dL_bestBreath_12 : decode cL_bestBreath 12 = .ok (.astore_n 3, 1) := by decide +kernel
theorem dL_bestBreath_13 : decode cL_bestBreath 13 = .ok (.iconst 1, 1) := by decide +kernel
theorem dL_bestBreath_14 : decode cL_bestBreath 14 = .ok (.ireturn, 1) := by decide +kernel
theorem dL_bestBreath_15 : decode cL_bestBreath 15 = .ok (.iconst 0, 1) := by decide +kernel
theorem dL_bestBreath_16 : decode cL_bestBreath 16 = .ok (.ireturn, 1) := by decide +kernel
set_option maxRecDepth 20000 in
theorem ggL_law_X3_init : GoodIn wsL_law wsX3_init := goodIn_r _ [9, 10, 11, 12, 13, 14, 15, 16, 17, 18, 19, 20, 21, 22, 23, 24, 25, 26, 27, 28, 29, 30, 31, 32, 33, 34, 35, 36, 37, 38, 39, 40, 41, 42, 43, 44, 45, 46, 47, 48, 49, 50, 51, 52, 53, 54, 55, 56, 57, 703, 704, 705, 706, 707, 708, 681, 682, 683, 684, 685, 686, 709, 710, 711, 712, 713] (by decide +kernel) (by decide +kernel)
set_option maxRecDepth 20000 in
theorem gL_law_X3_init : GoodIn wsL_law (wsX3_init) := ggL_law_X3_init
set_option maxRecDepth 20000 in
theorem ggL_law_X4_init : GoodIn wsL_law wsX4_init := goodIn_r _ [60, 61, 11, 12, 62, 63, 64, 65, 29, 66, 67, 68, 69, 70, 71, 72, 73, 74, 75, 687, 688, 689, 690, 691, 692, 693, 694, 695, 696, 697, 698, 699, 700, 701, 702] (by decide +kernel) (by decide +kernel)
set_option maxRecDepth 20000 in
theorem gL_law_X4_init : GoodIn wsL_law (wsX4_init) := ggL_law_X4_init
set_option maxRecDepth 20000 in
theorem ggL_law_L_lay : GoodIn wsL_law wsL_lay := goodIn_ca (goodIn_r _ [79, 80, 81, 82, 83, 2, 84, 16, 85, 86, 87, 88, 89, 43, 44, 45, 15, 46, 47, 48, 30, 32, 49, 50, 51, 52, 681, 682, 683, 684, 685, 686, 703, 704, 705, 706, 707, 708] (by decide +kernel) (by decide +kernel)) (goodIn_sub (fun _ h => List.mem_append_left _ (List.mem_append_left _ (List.mem_append_right _ h))) (by decide +kernel))
set_option maxRecDepth 20000 in
theorem gL_law_L_lay : GoodIn wsL_law (va_wsS RL 71 yL_lay wsL_lay) := goodIn_app (goodIn_of _ (by decide +kernel)) ggL_law_L_lay
set_option maxRecDepth 20000 in
theorem ggL_law_X4_lay : GoodIn wsL_law wsX4_lay := goodIn_r _ [93, 94, 62, 63, 68, 69, 95, 96, 5, 97, 98, 99, 100, 101, 687, 688, 689, 690, 691, 692, 693, 694, 695, 696, 697, 698, 699, 700, 701, 702] (by decide +kernel) (by decide +kernel)
set_option maxRecDepth 20000 in
theorem gL_law_X4_lay : GoodIn wsL_law (wsV RL 76 RX4 yX4_lay wsX4_lay) := goodIn_app (goodIn_of _ (by decide +kernel)) ggL_law_X4_lay
set_option maxRecDepth 20000 in
theorem ggL_law_X4_thrown : GoodIn wsL_law wsX4_thrown := goodIn_r _ [105, 94, 687, 688, 689, 690, 691, 692, 693, 694, 695, 696, 697, 698, 699, 700, 701, 702] (by decide +kernel) (by decide +kernel)
set_option maxRecDepth 20000 in
theorem gL_law_X4_thrown : GoodIn wsL_law (wsV RL 77 RX4 yX4_thrown wsX4_thrown) := goodIn_app (goodIn_of _ (by decide +kernel)) ggL_law_X4_thrown
set_option maxRecDepth 20000 in
theorem ggL_law_L_turn : GoodIn wsL_law wsL_turn := goodIn_ca (goodIn_ca (goodIn_r _ [108, 109, 110, 111, 112, 113, 2, 114, 115, 116, 16, 117, 118, 119, 120, 121, 122, 123, 124, 125, 15, 126, 47, 127, 128, 129, 130, 48, 131, 132, 133, 134, 32, 135, 136, 137, 138, 30, 139, 140, 141, 142, 143, 144, 145, 146, 147, 681, 682, 683, 684, 685, 686, 703, 704, 705, 706, 707, 708] (by decide +kernel) (by decide +kernel)) (goodIn_sub (fun _ h => List.mem_append_left _ (List.mem_append_right _ h)) (by decide +kernel))) (goodIn_sub (fun _ h => List.mem_append_right _ h) (by decide +kernel))
set_option maxRecDepth 20000 in
theorem gL_law_L_turn : GoodIn wsL_law (va_wsS RL 81 yL_turn wsL_turn) := goodIn_app (goodIn_of _ (by decide +kernel)) ggL_law_L_turn
set_option maxRecDepth 20000 in
theorem ggL_law_X4_turn : GoodIn wsL_law wsX4_turn := goodIn_r _ [151, 94, 69, 68, 152, 153, 154, 5, 155, 62, 63, 95, 96, 97, 156, 157, 158, 159, 160, 161, 162, 163, 687, 688, 689, 690, 691, 692, 693, 694, 695, 696, 697, 698, 699, 700, 701, 702] (by decide +kernel) (by decide +kernel)
set_option maxRecDepth 20000 in
theorem gL_law_X4_turn : GoodIn wsL_law (wsV RL 83 RX4 yX4_turn wsX4_turn) := goodIn_app (goodIn_of _ (by decide +kernel)) ggL_law_X4_turn
set_option maxRecDepth 20000 in
theorem ggL_law_L_press : GoodIn wsL_law wsL_press := goodIn_ca (goodIn_ca (goodIn_r _ [166, 109, 80, 167, 168, 169, 2, 170, 16, 117, 118, 119, 120, 121, 122, 123, 124, 125, 15, 126, 47, 127, 128, 129, 130, 48, 85, 86, 87, 88, 89, 171, 172, 173, 174, 32, 139, 175, 141, 142, 143, 144, 145, 146, 147, 30, 176, 136, 137, 138, 681, 682, 683, 684, 685, 686, 703, 704, 705, 706, 707, 708] (by decide +kernel) (by decide +kernel)) (goodIn_sub (fun _ h => List.mem_append_right _ h) (by decide +kernel))) (goodIn_sub (fun _ h => List.mem_append_left _ (List.mem_append_left _ (List.mem_append_right _ h))) (by decide +kernel))
set_option maxRecDepth 20000 in
theorem gL_law_L_press : GoodIn wsL_law (va_wsS RL 84 yL_press wsL_press) := goodIn_app (goodIn_of _ (by decide +kernel)) ggL_law_L_press
set_option maxRecDepth 20000 in
theorem ggL_law_X4_press : GoodIn wsL_law wsX4_press := goodIn_r _ [180, 94, 152, 153, 154, 5, 155, 62, 63, 95, 96, 97, 98, 99, 100, 101, 181, 182, 183, 184, 68, 69, 160, 161, 162, 163, 687, 688, 689, 690, 691, 692, 693, 694, 695, 696, 697, 698, 699, 700, 701, 702] (by decide +kernel) (by decide +kernel)
set_option maxRecDepth 20000 in
theorem gL_law_X4_press : GoodIn wsL_law (wsV RL 87 RX4 yX4_press wsX4_press) := goodIn_app (goodIn_of _ (by decide +kernel)) ggL_law_X4_press
set_option maxRecDepth 20000 in
theorem ggL_law_L_setFrame : GoodIn wsL_law wsL_setFrame := goodIn_ca (goodIn_r _ [187, 80, 188, 189, 190, 2, 191, 16, 85, 86, 87, 88, 89, 681, 682, 683, 684, 685, 686, 703, 704, 705, 706, 707, 708] (by decide +kernel) (by decide +kernel)) (goodIn_sub (fun _ h => List.mem_append_left _ (List.mem_append_left _ (List.mem_append_right _ h))) (by decide +kernel))
set_option maxRecDepth 20000 in
theorem gL_law_L_setFrame : GoodIn wsL_law (va_wsS RL 88 yL_setFrame wsL_setFrame) := goodIn_app (goodIn_of _ (by decide +kernel)) ggL_law_L_setFrame
set_option maxRecDepth 20000 in
theorem ggL_law_X4_setFrame : GoodIn wsL_law wsX4_setFrame := goodIn_r _ [195, 94, 64, 95, 96, 5, 97, 98, 99, 100, 101, 687, 688, 689, 690, 691, 692, 693, 694, 695, 696, 697, 698, 699, 700, 701, 702] (by decide +kernel) (by decide +kernel)
set_option maxRecDepth 20000 in
theorem gL_law_X4_setFrame : GoodIn wsL_law (wsV RL 91 RX4 yX4_setFrame wsX4_setFrame) := goodIn_app (goodIn_of _ (by decide +kernel)) ggL_law_X4_setFrame
set_option maxRecDepth 20000 in
theorem ggL_law_L_addRule : GoodIn wsL_law wsL_addRule := goodIn_ca (goodIn_ca (goodIn_r _ [198, 80, 110, 199, 200, 201, 2, 202, 115, 116, 25, 85, 86, 87, 88, 89, 203, 204, 205, 24, 206, 57, 53, 54, 55, 56, 41, 42, 681, 682, 683, 684, 685, 686, 711, 712, 713] (by decide +kernel) (by decide +kernel)) (goodIn_sub (fun _ h => List.mem_append_left _ (List.mem_append_right _ h)) (by decide +kernel))) (goodIn_sub (fun _ h => List.mem_append_left _ (List.mem_append_left _ (List.mem_append_right _ h))) (by decide +kernel))
set_option maxRecDepth 20000 in
theorem gL_law_L_addRule : GoodIn wsL_law (va_wsS RL 92 yL_addRule wsL_addRule) := goodIn_app (goodIn_of _ (by decide +kernel)) ggL_law_L_addRule
set_option maxRecDepth 20000 in
theorem ggL_law_X4_addRule : GoodIn wsL_law wsX4_addRule := goodIn_r _ [210, 94, 65, 66, 67, 95, 96, 5, 97, 98, 99, 100, 101, 687, 688, 689, 690, 691, 692, 693, 694, 695, 696, 697, 698, 699, 700, 701, 702] (by decide +kernel) (by decide +kernel)
set_option maxRecDepth 20000 in
theorem gL_law_X4_addRule : GoodIn wsL_law (wsV RL 94 RX4 yX4_addRule wsX4_addRule) := goodIn_app (goodIn_of _ (by decide +kernel)) ggL_law_X4_addRule
set_option maxRecDepth 20000 in
theorem ggL_law_L_breathe : GoodIn wsL_law wsL_breathe := goodIn_ca (goodIn_r _ [213, 109, 214, 215, 216, 2, 217, 121, 122, 25, 218, 219, 220, 221, 24, 222, 57, 681, 682, 683, 684, 685, 686, 711, 712, 713] (by decide +kernel) (by decide +kernel)) (goodIn_sub (fun _ h => List.mem_append_right _ h) (by decide +kernel))
set_option maxRecDepth 20000 in
theorem gL_law_L_breathe : GoodIn wsL_law (va_wsS RL 95 yL_breathe wsL_breathe) := goodIn_app (goodIn_of _ (by decide +kernel)) ggL_law_L_breathe
set_option maxRecDepth 20000 in
theorem ggL_law_X4_breathe : GoodIn wsL_law wsX4_breathe := goodIn_r _ [226, 94, 65, 227, 95, 96, 5, 97, 98, 99, 100, 101, 687, 688, 689, 690, 691, 692, 693, 694, 695, 696, 697, 698, 699, 700, 701, 702] (by decide +kernel) (by decide +kernel)
set_option maxRecDepth 20000 in
theorem gL_law_X4_breathe : GoodIn wsL_law (wsV RL 97 RX4 yX4_breathe wsX4_breathe) := goodIn_app (goodIn_of _ (by decide +kernel)) ggL_law_X4_breathe
set_option maxRecDepth 20000 in
theorem ggL_law_L_grow : GoodIn wsL_law wsL_grow := goodIn_ca (goodIn_r _ [230, 80, 231, 232, 233, 2, 234, 16, 25, 218, 235, 85, 86, 87, 88, 89, 236, 237, 238, 24, 239, 41, 240, 220, 221, 222, 57, 241, 242, 243, 244, 42, 245, 246, 247, 15, 248, 48, 31, 249, 250, 251, 252, 47, 253, 254, 255, 256, 257, 127, 128, 129, 130, 144, 145, 146, 147, 30, 258, 259, 260, 261, 175, 141, 142, 143, 262, 263, 264, 265, 266, 267, 268, 269, 270, 271, 272, 132, 133, 134, 32, 273, 274, 275, 276, 277, 278, 279, 280, 281, 282, 283, 284, 681, 682, 683, 684, 685, 686, 711, 712, 713, 703, 704, 705, 706, 707, 708] (by decide +kernel) (by decide +kernel)) (goodIn_sub (fun _ h => List.mem_append_left _ (List.mem_append_left _ (List.mem_append_right _ h))) (by decide +kernel))
set_option maxRecDepth 20000 in
theorem gL_law_L_grow : GoodIn wsL_law (va_wsS RL 98 yL_grow wsL_grow) := goodIn_app (goodIn_of _ (by decide +kernel)) ggL_law_L_grow
set_option maxRecDepth 20000 in
theorem ggL_law_X4_grow : GoodIn wsL_law wsX4_grow := goodIn_r _ [288, 94, 289, 95, 96, 5, 97, 98, 99, 100, 101, 290, 291, 292, 293, 63, 72, 68, 294, 295, 296, 297, 69, 298, 299, 300, 301, 302, 303, 304, 305, 62, 67, 227, 66, 306, 307, 308, 309, 73, 310, 311, 312, 313, 64, 314, 315, 316, 317, 318, 319, 320, 321, 160, 161, 162, 163, 322, 323, 324, 325, 326, 327, 328, 329, 330, 266, 267, 268, 269, 270, 271, 687, 688, 689, 690, 691, 692, 693, 694, 695, 696, 697, 698, 699, 700, 701, 702] (by decide +kernel) (by decide +kernel)
set_option maxRecDepth 20000 in
theorem gL_law_X4_grow : GoodIn wsL_law (wsV RL 100 RX4 yX4_grow wsX4_grow) := goodIn_app (goodIn_of _ (by decide +kernel)) ggL_law_X4_grow
set_option maxRecDepth 20000 in
theorem ggL_law_X3_columns : GoodIn wsL_law wsX3_columns := goodIn_r _ [334, 16, 681, 682, 683, 684, 685, 686, 703, 704, 705, 706, 707, 708] (by decide +kernel) (by decide +kernel)
set_option maxRecDepth 20000 in
theorem gL_law_X3_columns : GoodIn wsL_law (wsV RL 101 RX3 yX3_columns wsX3_columns) := goodIn_app (goodIn_of _ (by decide +kernel)) ggL_law_X3_columns
set_option maxRecDepth 20000 in
theorem ggL_law_X4_columns : GoodIn wsL_law wsX4_columns := goodIn_r _ [338, 62, 339, 340, 341, 5, 342, 94, 687, 688, 689, 690, 691, 692, 693, 694, 695, 696, 697, 698, 699, 700, 701, 702] (by decide +kernel) (by decide +kernel)
set_option maxRecDepth 20000 in
theorem gL_law_X4_columns : GoodIn wsL_law (wsV RL 104 RX4 yX4_columns wsX4_columns) := goodIn_app (goodIn_of _ (by decide +kernel)) ggL_law_X4_columns
set_option maxRecDepth 20000 in
theorem ggL_law_X3_rows : GoodIn wsL_law wsX3_rows := goodIn_r _ [346, 16, 681, 682, 683, 684, 685, 686, 703, 704, 705, 706, 707, 708] (by decide +kernel) (by decide +kernel)
set_option maxRecDepth 20000 in
theorem gL_law_X3_rows : GoodIn wsL_law (wsV RL 105 RX3 yX3_rows wsX3_rows) := goodIn_app (goodIn_of _ (by decide +kernel)) ggL_law_X3_rows
set_option maxRecDepth 20000 in
theorem ggL_law_X4_rows : GoodIn wsL_law wsX4_rows := goodIn_r _ [350, 63, 339, 340, 341, 5, 342, 94, 687, 688, 689, 690, 691, 692, 693, 694, 695, 696, 697, 698, 699, 700, 701, 702] (by decide +kernel) (by decide +kernel)
set_option maxRecDepth 20000 in
theorem gL_law_X4_rows : GoodIn wsL_law (wsV RL 108 RX4 yX4_rows wsX4_rows) := goodIn_app (goodIn_of _ (by decide +kernel)) ggL_law_X4_rows
set_option maxRecDepth 20000 in
theorem ggL_law_X3_generation : GoodIn wsL_law wsX3_generation := goodIn_r _ [354, 235, 681, 682, 683, 684, 685, 686] (by decide +kernel) (by decide +kernel)
set_option maxRecDepth 20000 in
theorem gL_law_X3_generation : GoodIn wsL_law (wsV RL 109 RX3 yX3_generation wsX3_generation) := goodIn_app (goodIn_of _ (by decide +kernel)) ggL_law_X3_generation
set_option maxRecDepth 20000 in
theorem ggL_law_X4_generation : GoodIn wsL_law wsX4_generation := goodIn_r _ [358, 289, 339, 340, 341, 5, 342, 94, 687, 688, 689, 690, 691, 692, 693, 694, 695, 696, 697, 698, 699, 700, 701, 702] (by decide +kernel) (by decide +kernel)
set_option maxRecDepth 20000 in
theorem gL_law_X4_generation : GoodIn wsL_law (wsV RL 112 RX4 yX4_generation wsX4_generation) := goodIn_app (goodIn_of _ (by decide +kernel)) ggL_law_X4_generation
set_option maxRecDepth 20000 in
theorem ggL_law_X3_rules : GoodIn wsL_law wsX3_rules := goodIn_r _ [362, 25, 681, 682, 683, 684, 685, 686, 711, 712, 713] (by decide +kernel) (by decide +kernel)
set_option maxRecDepth 20000 in
theorem gL_law_X3_rules : GoodIn wsL_law (wsV RL 113 RX3 yX3_rules wsX3_rules) := goodIn_app (goodIn_of _ (by decide +kernel)) ggL_law_X3_rules
set_option maxRecDepth 20000 in
theorem ggL_law_X4_rules : GoodIn wsL_law wsX4_rules := goodIn_r _ [366, 65, 339, 340, 341, 5, 342, 94, 687, 688, 689, 690, 691, 692, 693, 694, 695, 696, 697, 698, 699, 700, 701, 702] (by decide +kernel) (by decide +kernel)
set_option maxRecDepth 20000 in
theorem gL_law_X4_rules : GoodIn wsL_law (wsV RL 116 RX4 yX4_rules wsX4_rules) := goodIn_app (goodIn_of _ (by decide +kernel)) ggL_law_X4_rules
set_option maxRecDepth 20000 in
theorem ggL_law_X3_breath : GoodIn wsL_law wsX3_breath := goodIn_r _ [370, 218, 681, 682, 683, 684, 685, 686] (by decide +kernel) (by decide +kernel)
set_option maxRecDepth 20000 in
theorem gL_law_X3_breath : GoodIn wsL_law (wsV RL 117 RX3 yX3_breath wsX3_breath) := goodIn_app (goodIn_of _ (by decide +kernel)) ggL_law_X3_breath
set_option maxRecDepth 20000 in
theorem ggL_law_X4_breath : GoodIn wsL_law wsX4_breath := goodIn_r _ [374, 227, 339, 340, 341, 5, 342, 94, 687, 688, 689, 690, 691, 692, 693, 694, 695, 696, 697, 698, 699, 700, 701, 702] (by decide +kernel) (by decide +kernel)
set_option maxRecDepth 20000 in
theorem gL_law_X4_breath : GoodIn wsL_law (wsV RL 120 RX4 yX4_breath wsX4_breath) := goodIn_app (goodIn_of _ (by decide +kernel)) ggL_law_X4_breath
set_option maxRecDepth 20000 in
theorem ggL_law_X3_frozen : GoodIn wsL_law wsX3_frozen := goodIn_r _ [378, 16, 281, 282, 283, 15, 284, 48, 144, 145, 146, 147, 30, 265, 266, 267, 268, 269, 270, 271, 681, 682, 683, 684, 685, 686, 703, 704, 705, 706, 707, 708] (by decide +kernel) (by decide +kernel)
set_option maxRecDepth 20000 in
theorem gL_law_X3_frozen : GoodIn wsL_law (wsV RL 121 RX3 yX3_frozen wsX3_frozen) := goodIn_app (goodIn_of _ (by decide +kernel)) ggL_law_X3_frozen
set_option maxRecDepth 20000 in
theorem ggL_law_X4_frozen : GoodIn wsL_law wsX4_frozen := goodIn_r _ [382, 326, 327, 328, 5, 329, 63, 68, 330, 266, 267, 268, 269, 270, 271, 339, 340, 341, 342, 94, 687, 688, 689, 690, 691, 692, 693, 694, 695, 696, 697, 698, 699, 700, 701, 702] (by decide +kernel) (by decide +kernel)
set_option maxRecDepth 20000 in
theorem gL_law_X4_frozen : GoodIn wsL_law (wsV RL 124 RX4 yX4_frozen wsX4_frozen) := goodIn_app (goodIn_of _ (by decide +kernel)) ggL_law_X4_frozen
set_option maxRecDepth 20000 in
theorem ggL_law_X3_melted : GoodIn wsL_law wsX3_melted := goodIn_r _ [386, 16, 387, 388, 389, 15, 390, 32, 681, 682, 683, 684, 685, 686, 703, 704, 705, 706, 707, 708] (by decide +kernel) (by decide +kernel)
set_option maxRecDepth 20000 in
theorem gL_law_X3_melted : GoodIn wsL_law (wsV RL 125 RX3 yX3_melted wsX3_melted) := goodIn_app (goodIn_of _ (by decide +kernel)) ggL_law_X3_melted
set_option maxRecDepth 20000 in
theorem ggL_law_X4_melted : GoodIn wsL_law wsX4_melted := goodIn_r _ [394, 395, 396, 397, 5, 398, 69, 339, 340, 341, 342, 94, 687, 688, 689, 690, 691, 692, 693, 694, 695, 696, 697, 698, 699, 700, 701, 702] (by decide +kernel) (by decide +kernel)
set_option maxRecDepth 20000 in
theorem gL_law_X4_melted : GoodIn wsL_law (wsV RL 128 RX4 yX4_melted wsX4_melted) := goodIn_app (goodIn_of _ (by decide +kernel)) ggL_law_X4_melted
set_option maxRecDepth 20000 in
theorem ggL_law_L_isFrozen : GoodIn wsL_law wsL_isFrozen := goodIn_ca (goodIn_r _ [401, 109, 402, 403, 404, 2, 405, 16, 117, 118, 119, 120, 121, 122, 123, 124, 125, 15, 126, 47, 127, 128, 129, 130, 48, 140, 141, 142, 143, 144, 145, 146, 147, 30, 681, 682, 683, 684, 685, 686, 703, 704, 705, 706, 707, 708] (by decide +kernel) (by decide +kernel)) (goodIn_sub (fun _ h => List.mem_append_right _ h) (by decide +kernel))
set_option maxRecDepth 20000 in
theorem gL_law_L_isFrozen : GoodIn wsL_law (va_wsS RL 129 yL_isFrozen wsL_isFrozen) := goodIn_app (goodIn_of _ (by decide +kernel)) ggL_law_L_isFrozen
set_option maxRecDepth 20000 in
theorem ggL_law_X4_isFrozen : GoodIn wsL_law wsX4_isFrozen := goodIn_r _ [409, 94, 152, 153, 154, 5, 155, 62, 63, 95, 96, 97, 160, 161, 162, 163, 68, 156, 157, 158, 159, 687, 688, 689, 690, 691, 692, 693, 694, 695, 696, 697, 698, 699, 700, 701, 702] (by decide +kernel) (by decide +kernel)
set_option maxRecDepth 20000 in
theorem gL_law_X4_isFrozen : GoodIn wsL_law (wsV RL 131 RX4 yX4_isFrozen wsX4_isFrozen) := goodIn_app (goodIn_of _ (by decide +kernel)) ggL_law_X4_isFrozen
set_option maxRecDepth 20000 in
theorem ggL_law_L_meltedFor : GoodIn wsL_law wsL_meltedFor := goodIn_ca (goodIn_r _ [412, 109, 413, 414, 415, 2, 416, 16, 117, 118, 119, 120, 121, 122, 123, 124, 125, 15, 126, 47, 127, 128, 129, 130, 48, 131, 132, 133, 134, 32, 681, 682, 683, 684, 685, 686, 703, 704, 705, 706, 707, 708] (by decide +kernel) (by decide +kernel)) (goodIn_sub (fun _ h => List.mem_append_right _ h) (by decide +kernel))
set_option maxRecDepth 20000 in
theorem gL_law_L_meltedFor : GoodIn wsL_law (va_wsS RL 132 yL_meltedFor wsL_meltedFor) := goodIn_app (goodIn_of _ (by decide +kernel)) ggL_law_L_meltedFor
set_option maxRecDepth 20000 in
theorem ggL_law_X4_meltedFor : GoodIn wsL_law wsX4_meltedFor := goodIn_r _ [420, 94, 69, 152, 153, 154, 5, 155, 62, 63, 95, 96, 97, 98, 99, 100, 101, 687, 688, 689, 690, 691, 692, 693, 694, 695, 696, 697, 698, 699, 700, 701, 702] (by decide +kernel) (by decide +kernel)
set_option maxRecDepth 20000 in
theorem gL_law_X4_meltedFor : GoodIn wsL_law (wsV RL 134 RX4 yX4_meltedFor wsX4_meltedFor) := goodIn_app (goodIn_of _ (by decide +kernel)) ggL_law_X4_meltedFor
set_option maxRecDepth 20000 in
theorem ggL_law_L_around : GoodIn wsL_law wsL_around := goodIn_ca (goodIn_r _ [423, 109, 424, 425, 426, 2, 427, 16, 117, 118, 119, 120, 121, 122, 123, 124, 125, 15, 126, 47, 127, 128, 129, 130, 48, 428, 429, 430, 431, 253, 254, 255, 256, 257, 144, 145, 146, 147, 30, 258, 259, 260, 261, 262, 263, 264, 265, 266, 267, 268, 269, 270, 271, 681, 682, 683, 684, 685, 686, 703, 704, 705, 706, 707, 708] (by decide +kernel) (by decide +kernel)) (goodIn_sub (fun _ h => List.mem_append_right _ h) (by decide +kernel))
set_option maxRecDepth 20000 in
theorem gL_law_L_around : GoodIn wsL_law (va_wsS RL 135 yL_around wsL_around) := goodIn_app (goodIn_of _ (by decide +kernel)) ggL_law_L_around
set_option maxRecDepth 20000 in
theorem ggL_law_X4_around : GoodIn wsL_law wsX4_around := goodIn_r _ [435, 94, 152, 153, 154, 5, 155, 62, 63, 95, 96, 97, 98, 99, 100, 101, 306, 307, 308, 309, 73, 310, 311, 312, 313, 64, 68, 314, 315, 316, 317, 318, 319, 320, 321, 322, 323, 324, 325, 687, 688, 689, 690, 691, 692, 693, 694, 695, 696, 697, 698, 699, 700, 701, 702] (by decide +kernel) (by decide +kernel)
set_option maxRecDepth 20000 in
theorem gL_law_X4_around : GoodIn wsL_law (wsV RL 137 RX4 yX4_around wsX4_around) := goodIn_app (goodIn_of _ (by decide +kernel)) ggL_law_X4_around
set_option maxRecDepth 20000 in
theorem ggL_law_L_willFreeze : GoodIn wsL_law wsL_willFreeze := goodIn_ca (goodIn_r _ [438, 109, 439, 440, 441, 2, 442, 16, 25, 218, 117, 118, 119, 120, 121, 122, 123, 124, 125, 15, 126, 47, 127, 128, 129, 130, 48, 236, 237, 238, 24, 239, 41, 240, 220, 221, 222, 57, 241, 242, 243, 244, 42, 443, 444, 445, 446, 249, 250, 251, 252, 253, 254, 255, 256, 257, 144, 145, 146, 147, 30, 258, 259, 260, 261, 175, 141, 142, 143, 262, 263, 264, 265, 266, 267, 268, 269, 270, 271, 272, 132, 133, 134, 32, 681, 682, 683, 684, 685, 686, 703, 704, 705, 706, 707, 708, 711, 712, 713] (by decide +kernel) (by decide +kernel)) (goodIn_sub (fun _ h => List.mem_append_right _ h) (by decide +kernel))
set_option maxRecDepth 20000 in
theorem gL_law_L_willFreeze : GoodIn wsL_law (va_wsS RL 138 yL_willFreeze wsL_willFreeze) := goodIn_app (goodIn_of _ (by decide +kernel)) ggL_law_L_willFreeze
set_option maxRecDepth 20000 in
theorem ggL_law_X4_willFreeze : GoodIn wsL_law wsX4_willFreeze := goodIn_r _ [450, 94, 152, 153, 154, 5, 155, 62, 63, 95, 96, 97, 302, 303, 304, 305, 67, 227, 66, 69, 306, 307, 308, 309, 73, 310, 311, 312, 313, 64, 68, 314, 315, 316, 317, 318, 319, 320, 321, 160, 161, 162, 163, 322, 323, 324, 325, 156, 157, 158, 159, 687, 688, 689, 690, 691, 692, 693, 694, 695, 696, 697, 698, 699, 700, 701, 702] (by decide +kernel) (by decide +kernel)
set_option maxRecDepth 20000 in
theorem gL_law_X4_willFreeze : GoodIn wsL_law (wsV RL 140 RX4 yX4_willFreeze wsX4_willFreeze) := goodIn_app (goodIn_of _ (by decide +kernel)) ggL_law_X4_willFreeze
set_option maxRecDepth 20000 in
theorem ggL_law_L_frozenInRow : GoodIn wsL_law wsL_frozenInRow := goodIn_ca (goodIn_r _ [453, 109, 454, 455, 456, 2, 457, 121, 122, 16, 458, 128, 129, 15, 130, 48, 459, 145, 146, 147, 30, 460, 266, 267, 268, 269, 270, 271, 681, 682, 683, 684, 685, 686, 703, 704, 705, 706, 707, 708] (by decide +kernel) (by decide +kernel)) (goodIn_sub (fun _ h => List.mem_append_right _ h) (by decide +kernel))
set_option maxRecDepth 20000 in
theorem gL_law_L_frozenInRow : GoodIn wsL_law (va_wsS RL 141 yL_frozenInRow wsL_frozenInRow) := goodIn_app (goodIn_of _ (by decide +kernel)) ggL_law_L_frozenInRow
set_option maxRecDepth 20000 in
theorem ggL_law_X4_frozenInRow : GoodIn wsL_law wsX4_frozenInRow := goodIn_r _ [464, 94, 63, 68, 95, 96, 5, 97, 330, 266, 267, 268, 269, 270, 271, 98, 99, 100, 101, 687, 688, 689, 690, 691, 692, 693, 694, 695, 696, 697, 698, 699, 700, 701, 702] (by decide +kernel) (by decide +kernel)
set_option maxRecDepth 20000 in
theorem gL_law_X4_frozenInRow : GoodIn wsL_law (wsV RL 143 RX4 yX4_frozenInRow wsX4_frozenInRow) := goodIn_app (goodIn_of _ (by decide +kernel)) ggL_law_X4_frozenInRow
set_option maxRecDepth 20000 in
theorem ggL_law_X3_flowers : GoodIn wsL_law wsX3_flowers := goodIn_r _ [468, 21, 16, 469, 470, 471, 20, 472, 36, 473, 145, 146, 15, 147, 30, 474, 475, 476, 477, 37, 478, 50, 51, 52, 479, 480, 481, 482, 483, 484, 485, 486, 487, 488, 489, 490, 491, 266, 267, 268, 269, 270, 271, 681, 682, 683, 684, 685, 686, 703, 704, 705, 706, 707, 708, 709, 710] (by decide +kernel) (by decide +kernel)
set_option maxRecDepth 20000 in
theorem gL_law_X3_flowers : GoodIn wsL_law (wsV RL 144 RX3 yX3_flowers wsX3_flowers) := goodIn_app (goodIn_of _ (by decide +kernel)) ggL_law_X3_flowers
set_option maxRecDepth 20000 in
theorem ggL_law_X4_flowers_ : GoodIn wsL_law wsX4_flowers_ := goodIn_r _ [495, 496, 497, 498, 5, 499, 75, 63, 62, 298, 299, 300, 301, 72, 160, 161, 162, 163, 68, 500, 501, 502, 503, 330, 266, 267, 268, 269, 270, 271, 339, 340, 341, 342, 94, 687, 688, 689, 690, 691, 692, 693, 694, 695, 696, 697, 698, 699, 700, 701, 702] (by decide +kernel) (by decide +kernel)
set_option maxRecDepth 20000 in
theorem gL_law_X4_flowers_ : GoodIn wsL_law (wsV RL 147 RX4 yX4_flowers_ wsX4_flowers_) := goodIn_app (goodIn_of _ (by decide +kernel)) ggL_law_X4_flowers_
set_option maxRecDepth 20000 in
theorem ggL_law_X3_largestFlower : GoodIn wsL_law wsX3_largestFlower := goodIn_r _ [507, 21, 16, 508, 299, 300, 301, 469, 470, 471, 20, 472, 36, 473, 145, 146, 15, 147, 30, 474, 475, 476, 477, 37, 478, 50, 51, 52, 479, 480, 481, 482, 483, 484, 485, 486, 487, 488, 489, 490, 491, 266, 267, 268, 269, 270, 271, 681, 682, 683, 684, 685, 686, 703, 704, 705, 706, 707, 708, 709, 710] (by decide +kernel) (by decide +kernel)
set_option maxRecDepth 20000 in
theorem gL_law_X3_largestFlower : GoodIn wsL_law (wsV RL 148 RX3 yX3_largestFlower wsX3_largestFlower) := goodIn_app (goodIn_of _ (by decide +kernel)) ggL_law_X3_largestFlower
set_option maxRecDepth 20000 in
theorem ggL_law_X4_largestFlower : GoodIn wsL_law wsX4_largestFlower := goodIn_r _ [512, 496, 497, 498, 5, 499, 75, 63, 62, 298, 299, 300, 301, 72, 160, 161, 162, 163, 68, 500, 501, 502, 503, 330, 266, 267, 268, 269, 270, 271, 339, 340, 341, 342, 94, 687, 688, 689, 690, 691, 692, 693, 694, 695, 696, 697, 698, 699, 700, 701, 702] (by decide +kernel) (by decide +kernel)
set_option maxRecDepth 20000 in
theorem gL_law_X4_largestFlower : GoodIn wsL_law (wsV RL 151 RX4 yX4_largestFlower wsX4_largestFlower) := goodIn_app (goodIn_of _ (by decide +kernel)) ggL_law_X4_largestFlower
set_option maxRecDepth 20000 in
theorem ggL_law_L_flowerAt : GoodIn wsL_law wsL_flowerAt := goodIn_ca (goodIn_r _ [515, 109, 516, 517, 518, 2, 519, 21, 16, 117, 118, 119, 120, 121, 122, 123, 124, 125, 15, 126, 47, 127, 128, 129, 130, 48, 469, 470, 471, 20, 472, 36, 473, 145, 146, 147, 30, 474, 475, 476, 477, 37, 478, 50, 51, 52, 479, 480, 481, 482, 483, 484, 485, 486, 487, 488, 489, 490, 491, 266, 267, 268, 269, 270, 271, 681, 682, 683, 684, 685, 686, 703, 704, 705, 706, 707, 708, 709, 710] (by decide +kernel) (by decide +kernel)) (goodIn_sub (fun _ h => List.mem_append_right _ h) (by decide +kernel))
set_option maxRecDepth 20000 in
theorem gL_law_L_flowerAt : GoodIn wsL_law (va_wsS RL 152 yL_flowerAt wsL_flowerAt) := goodIn_app (goodIn_of _ (by decide +kernel)) ggL_law_L_flowerAt
set_option maxRecDepth 20000 in
theorem ggL_law_X4_flowerAt : GoodIn wsL_law wsX4_flowerAt := goodIn_r _ [523, 94, 152, 153, 154, 5, 155, 62, 63, 95, 96, 97, 500, 501, 502, 503, 72, 68, 330, 266, 267, 268, 269, 270, 271, 98, 99, 100, 101, 687, 688, 689, 690, 691, 692, 693, 694, 695, 696, 697, 698, 699, 700, 701, 702] (by decide +kernel) (by decide +kernel)
set_option maxRecDepth 20000 in
theorem gL_law_X4_flowerAt : GoodIn wsL_law (wsV RL 154 RX4 yX4_flowerAt wsX4_flowerAt) := goodIn_app (goodIn_of _ (by decide +kernel)) ggL_law_X4_flowerAt
set_option maxRecDepth 20000 in
theorem ggL_law_X3_isMirrored : GoodIn wsL_law wsX3_isMirrored := goodIn_r _ [527, 16, 140, 141, 142, 15, 143, 144, 145, 146, 147, 30, 681, 682, 683, 684, 685, 686, 703, 704, 705, 706, 707, 708] (by decide +kernel) (by decide +kernel)
set_option maxRecDepth 20000 in
theorem gL_law_X3_isMirrored : GoodIn wsL_law (wsV RL 155 RX3 yX3_isMirrored wsX3_isMirrored) := goodIn_app (goodIn_of _ (by decide +kernel)) ggL_law_X3_isMirrored
set_option maxRecDepth 20000 in
theorem ggL_law_X4_isMirrored : GoodIn wsL_law wsX4_isMirrored := goodIn_r _ [531, 94, 532, 533, 534, 5, 535, 63, 62, 160, 161, 162, 163, 68, 687, 688, 689, 690, 691, 692, 693, 694, 695, 696, 697, 698, 699, 700, 701, 702] (by decide +kernel) (by decide +kernel)
set_option maxRecDepth 20000 in
theorem gL_law_X4_isMirrored : GoodIn wsL_law (wsV RL 159 RX4 yX4_isMirrored wsX4_isMirrored) := goodIn_app (goodIn_of _ (by decide +kernel)) ggL_law_X4_isMirrored
set_option maxRecDepth 20000 in
theorem ggL_law_L_frozenIn : GoodIn wsL_law wsL_frozenIn := goodIn_ca (goodIn_r _ [538, 80, 539, 540, 541, 2, 542, 218, 85, 86, 87, 88, 89, 543, 544, 545, 546, 17, 16, 25, 547, 548, 549, 15, 550, 47, 48, 257, 30, 551, 552, 300, 553, 554, 295, 296, 297, 32, 236, 237, 238, 24, 239, 41, 240, 220, 221, 222, 57, 241, 242, 243, 244, 42, 245, 246, 247, 248, 31, 249, 250, 251, 252, 253, 254, 255, 256, 127, 128, 129, 130, 144, 145, 146, 147, 258, 259, 260, 261, 175, 141, 142, 143, 262, 263, 264, 265, 266, 267, 268, 269, 270, 271, 272, 132, 133, 134, 273, 274, 275, 276, 277, 278, 279, 280, 281, 282, 283, 284, 681, 682, 683, 684, 685, 686, 703, 704, 705, 706, 707, 708, 711, 712, 713] (by decide +kernel) (by decide +kernel)) (goodIn_sub (fun _ h => List.mem_append_left _ (List.mem_append_left _ (List.mem_append_right _ h))) (by decide +kernel))
set_option maxRecDepth 20000 in
theorem gL_law_L_frozenIn : GoodIn wsL_law (va_wsS RL 160 yL_frozenIn wsL_frozenIn) := goodIn_app (goodIn_of _ (by decide +kernel)) ggL_law_L_frozenIn
set_option maxRecDepth 20000 in
theorem ggL_law_X4_frozenIn : GoodIn wsL_law wsX4_frozenIn := goodIn_r _ [558, 94, 95, 96, 5, 97, 559, 560, 561, 562, 563, 564, 565, 566, 68, 70, 294, 295, 296, 297, 69, 71, 290, 291, 292, 293, 63, 72, 298, 299, 300, 301, 302, 303, 304, 305, 62, 67, 227, 66, 306, 307, 308, 309, 73, 310, 311, 312, 313, 64, 314, 315, 316, 317, 318, 319, 320, 321, 160, 161, 162, 163, 322, 323, 324, 325, 326, 327, 328, 329, 330, 266, 267, 268, 269, 270, 271, 567, 568, 569, 570, 98, 99, 100, 101, 687, 688, 689, 690, 691, 692, 693, 694, 695, 696, 697, 698, 699, 700, 701, 702] (by decide +kernel) (by decide +kernel)
set_option maxRecDepth 20000 in
theorem gL_law_X4_frozenIn : GoodIn wsL_law (wsV RL 162 RX4 yX4_frozenIn wsX4_frozenIn) := goodIn_app (goodIn_of _ (by decide +kernel)) ggL_law_X4_frozenIn
set_option maxRecDepth 20000 in
theorem ggL_law_X3_comesAgainIn : GoodIn wsL_law wsX3_comesAgainIn := goodIn_r _ [574, 17, 16, 25, 218, 547, 548, 549, 15, 550, 47, 48, 257, 30, 551, 552, 300, 553, 554, 295, 296, 297, 32, 236, 237, 238, 24, 239, 41, 240, 220, 221, 222, 57, 241, 242, 243, 244, 42, 245, 246, 247, 248, 31, 249, 250, 251, 252, 253, 254, 255, 256, 127, 128, 129, 130, 144, 145, 146, 147, 258, 259, 260, 261, 175, 141, 142, 143, 262, 263, 264, 265, 266, 267, 268, 269, 270, 271, 272, 132, 133, 134, 273, 274, 275, 276, 277, 278, 279, 280, 575, 576, 577, 578, 681, 682, 683, 684, 685, 686, 703, 704, 705, 706, 707, 708, 711, 712, 713] (by decide +kernel) (by decide +kernel)
set_option maxRecDepth 20000 in
theorem gL_law_X3_comesAgainIn : GoodIn wsL_law (wsV RL 163 RX3 yX3_comesAgainIn wsX3_comesAgainIn) := goodIn_app (goodIn_of _ (by decide +kernel)) ggL_law_X3_comesAgainIn
set_option maxRecDepth 20000 in
theorem ggL_law_X4_comesAgainIn : GoodIn wsL_law wsX4_comesAgainIn := goodIn_r _ [582, 583, 584, 585, 5, 586, 563, 564, 565, 566, 68, 70, 294, 295, 296, 297, 69, 71, 290, 291, 292, 293, 63, 72, 298, 299, 300, 301, 302, 303, 304, 305, 62, 67, 227, 66, 306, 307, 308, 309, 73, 310, 311, 312, 313, 64, 314, 315, 316, 317, 318, 319, 320, 321, 160, 161, 162, 163, 322, 323, 324, 325, 587, 588, 589, 590, 567, 568, 569, 570, 339, 340, 341, 342, 94, 687, 688, 689, 690, 691, 692, 693, 694, 695, 696, 697, 698, 699, 700, 701, 702] (by decide +kernel) (by decide +kernel)
set_option maxRecDepth 20000 in
theorem gL_law_X4_comesAgainIn : GoodIn wsL_law (wsV RL 166 RX4 yX4_comesAgainIn wsX4_comesAgainIn) := goodIn_app (goodIn_of _ (by decide +kernel)) ggL_law_X4_comesAgainIn
set_option maxRecDepth 20000 in
theorem ggL_law_X3_standsStillIn : GoodIn wsL_law wsX3_standsStillIn := goodIn_r _ [594, 17, 16, 25, 218, 547, 548, 549, 15, 550, 47, 48, 257, 30, 551, 552, 300, 553, 554, 295, 296, 297, 32, 387, 388, 389, 390, 236, 237, 238, 24, 239, 41, 240, 220, 221, 222, 57, 241, 242, 243, 244, 42, 245, 246, 247, 248, 31, 249, 250, 251, 252, 253, 254, 255, 256, 127, 128, 129, 130, 144, 145, 146, 147, 258, 259, 260, 261, 175, 141, 142, 143, 262, 263, 264, 265, 266, 267, 268, 269, 270, 271, 272, 132, 133, 134, 273, 274, 275, 276, 277, 278, 279, 280, 681, 682, 683, 684, 685, 686, 703, 704, 705, 706, 707, 708, 711, 712, 713] (by decide +kernel) (by decide +kernel)
set_option maxRecDepth 20000 in
theorem gL_law_X3_standsStillIn : GoodIn wsL_law (wsV RL 167 RX3 yX3_standsStillIn wsX3_standsStillIn) := goodIn_app (goodIn_of _ (by decide +kernel)) ggL_law_X3_standsStillIn
set_option maxRecDepth 20000 in
theorem ggL_law_X4_standsStillIn : GoodIn wsL_law wsX4_standsStillIn := goodIn_r _ [598, 599, 600, 601, 5, 602, 563, 564, 565, 566, 68, 70, 294, 295, 296, 297, 69, 71, 603, 604, 605, 606, 63, 395, 396, 397, 398, 302, 303, 304, 305, 62, 67, 227, 66, 306, 307, 308, 309, 73, 310, 311, 312, 313, 64, 314, 315, 316, 317, 318, 319, 320, 321, 160, 161, 162, 163, 322, 323, 324, 325, 290, 291, 292, 293, 72, 298, 299, 300, 301, 567, 568, 569, 570, 339, 340, 341, 342, 94, 687, 688, 689, 690, 691, 692, 693, 694, 695, 696, 697, 698, 699, 700, 701, 702] (by decide +kernel) (by decide +kernel)
set_option maxRecDepth 20000 in
theorem gL_law_X4_standsStillIn : GoodIn wsL_law (wsV RL 170 RX4 yX4_standsStillIn wsX4_standsStillIn) := goodIn_app (goodIn_of _ (by decide +kernel)) ggL_law_X4_standsStillIn
set_option maxRecDepth 20000 in
theorem ggL_law_L_peakIn : GoodIn wsL_law wsL_peakIn := goodIn_ca (goodIn_r _ [609, 80, 610, 611, 612, 2, 613, 17, 16, 25, 218, 85, 86, 87, 88, 89, 547, 548, 549, 15, 550, 47, 48, 257, 30, 551, 552, 300, 553, 554, 295, 296, 297, 32, 281, 282, 283, 284, 144, 145, 146, 147, 265, 266, 267, 268, 269, 270, 271, 236, 237, 238, 24, 239, 41, 240, 220, 221, 222, 57, 241, 242, 243, 244, 42, 245, 246, 247, 248, 31, 249, 250, 251, 252, 253, 254, 255, 256, 127, 128, 129, 130, 258, 259, 260, 261, 175, 141, 142, 143, 262, 263, 264, 272, 132, 133, 134, 273, 274, 275, 276, 277, 278, 279, 280, 681, 682, 683, 684, 685, 686, 703, 704, 705, 706, 707, 708, 711, 712, 713] (by decide +kernel) (by decide +kernel)) (goodIn_sub (fun _ h => List.mem_append_left _ (List.mem_append_left _ (List.mem_append_right _ h))) (by decide +kernel))
set_option maxRecDepth 20000 in
theorem gL_law_L_peakIn : GoodIn wsL_law (va_wsS RL 171 yL_peakIn wsL_peakIn) := goodIn_app (goodIn_of _ (by decide +kernel)) ggL_law_L_peakIn
set_option maxRecDepth 20000 in
theorem ggL_law_X4_peakIn : GoodIn wsL_law wsX4_peakIn := goodIn_r _ [617, 94, 95, 96, 5, 97, 98, 99, 100, 101, 563, 564, 565, 566, 68, 70, 294, 295, 296, 297, 69, 71, 326, 327, 328, 329, 63, 330, 266, 267, 268, 269, 270, 271, 290, 291, 292, 293, 72, 298, 299, 300, 301, 302, 303, 304, 305, 62, 67, 227, 66, 306, 307, 308, 309, 73, 310, 311, 312, 313, 64, 314, 315, 316, 317, 318, 319, 320, 321, 160, 161, 162, 163, 322, 323, 324, 325, 567, 568, 569, 570, 687, 688, 689, 690, 691, 692, 693, 694, 695, 696, 697, 698, 699, 700, 701, 702] (by decide +kernel) (by decide +kernel)
set_option maxRecDepth 20000 in
theorem gL_law_X4_peakIn : GoodIn wsL_law (wsV RL 173 RX4 yX4_peakIn wsX4_peakIn) := goodIn_app (goodIn_of _ (by decide +kernel)) ggL_law_X4_peakIn
set_option maxRecDepth 20000 in
theorem ggL_law_L_bestBreath : GoodIn wsL_law wsL_bestBreath := goodIn_ca (goodIn_r _ [620, 80, 621, 622, 623, 2, 624, 25, 85, 86, 87, 88, 89, 543, 544, 545, 546, 17, 16, 547, 548, 549, 15, 550, 47, 48, 257, 30, 551, 552, 300, 553, 554, 295, 296, 297, 32, 236, 237, 238, 24, 239, 41, 240, 220, 221, 222, 57, 241, 242, 243, 244, 42, 245, 246, 247, 248, 31, 249, 250, 251, 252, 253, 254, 255, 256, 127, 128, 129, 130, 144, 145, 146, 147, 258, 259, 260, 261, 175, 141, 142, 143, 262, 263, 264, 265, 266, 267, 268, 269, 270, 271, 272, 132, 133, 134, 273, 274, 275, 276, 277, 278, 279, 280, 281, 282, 283, 284, 681, 682, 683, 684, 685, 686, 711, 712, 713, 703, 704, 705, 706, 707, 708] (by decide +kernel) (by decide +kernel)) (goodIn_sub (fun _ h => List.mem_append_left _ (List.mem_append_left _ (List.mem_append_right _ h))) (by decide +kernel))
set_option maxRecDepth 20000 in
theorem gL_law_L_bestBreath : GoodIn wsL_law (va_wsS RL 174 yL_bestBreath wsL_bestBreath) := goodIn_app (goodIn_of _ (by decide +kernel)) ggL_law_L_bestBreath
set_option maxRecDepth 20000 in
theorem ggL_law_X4_bestBreath : GoodIn wsL_law wsX4_bestBreath := goodIn_r _ [628, 94, 95, 96, 5, 97, 629, 630, 631, 632, 227, 65, 559, 560, 561, 562, 563, 564, 565, 566, 68, 70, 294, 295, 296, 297, 69, 71, 290, 291, 292, 293, 63, 72, 298, 299, 300, 301, 302, 303, 304, 305, 62, 67, 66, 306, 307, 308, 309, 73, 310, 311, 312, 313, 64, 314, 315, 316, 317, 318, 319, 320, 321, 160, 161, 162, 163, 322, 323, 324, 325, 326, 327, 328, 329, 330, 266, 267, 268, 269, 270, 271, 567, 568, 569, 570, 98, 99, 100, 101, 687, 688, 689, 690, 691, 692, 693, 694, 695, 696, 697, 698, 699, 700, 701, 702] (by decide +kernel) (by decide +kernel)
set_option maxRecDepth 20000 in
theorem gL_law_X4_bestBreath : GoodIn wsL_law (wsV RL 176 RX4 yX4_bestBreath wsX4_bestBreath) := goodIn_app (goodIn_of _ (by decide +kernel)) ggL_law_X4_bestBreath
set_option maxRecDepth 20000 in
theorem ggL_law_X3_meanInRows : GoodIn wsL_law wsX3_meanInRows := goodIn_r _ [636, 16, 281, 282, 283, 15, 284, 48, 144, 145, 146, 147, 30, 265, 266, 267, 268, 269, 270, 271, 681, 682, 683, 684, 685, 686, 703, 704, 705, 706, 707, 708] (by decide +kernel) (by decide +kernel)
set_option maxRecDepth 20000 in
theorem gL_law_X3_meanInRows : GoodIn wsL_law (wsV RL 177 RX3 yX3_meanInRows wsX3_meanInRows) := goodIn_app (goodIn_of _ (by decide +kernel)) ggL_law_X3_meanInRows
set_option maxRecDepth 20000 in
theorem ggL_law_X4_meanInRows : GoodIn wsL_law wsX4_meanInRows := goodIn_r _ [640, 94, 63, 326, 327, 328, 5, 329, 68, 330, 266, 267, 268, 269, 270, 271, 687, 688, 689, 690, 691, 692, 693, 694, 695, 696, 697, 698, 699, 700, 701, 702] (by decide +kernel) (by decide +kernel)
set_option maxRecDepth 20000 in
theorem gL_law_X4_meanInRows : GoodIn wsL_law (wsV RL 181 RX4 yX4_meanInRows wsX4_meanInRows) := goodIn_app (goodIn_of _ (by decide +kernel)) ggL_law_X4_meanInRows
set_option maxRecDepth 20000 in
theorem ggL_law_X3_digest : GoodIn wsL_law wsX3_digest := goodIn_ca (goodIn_ca (goodIn_r _ [644, 645, 16, 646, 332, 333, 2, 334, 647, 648, 649, 650, 651, 344, 345, 346, 652, 352, 353, 354, 235, 653, 360, 361, 362, 25, 654, 368, 369, 370, 218, 655, 376, 377, 378, 281, 282, 283, 15, 284, 48, 144, 145, 146, 147, 30, 265, 266, 267, 268, 269, 270, 271, 656, 384, 385, 386, 387, 388, 389, 390, 32, 657, 466, 467, 468, 21, 469, 470, 471, 20, 472, 36, 473, 474, 475, 476, 477, 37, 478, 50, 51, 52, 479, 480, 481, 482, 483, 484, 485, 486, 487, 488, 489, 490, 491, 658, 505, 506, 507, 508, 299, 300, 301, 659, 525, 526, 527, 140, 141, 142, 143, 660, 661, 662, 663, 572, 573, 574, 17, 547, 548, 549, 550, 47, 257, 551, 552, 553, 554, 295, 296, 297, 236, 237, 238, 24, 239, 41, 240, 220, 221, 222, 57, 241, 242, 243, 244, 42, 245, 246, 247, 248, 31, 249, 250, 251, 252, 253, 254, 255, 256, 127, 128, 129, 130, 258, 259, 260, 261, 175, 262, 263, 264, 272, 132, 133, 134, 273, 274, 275, 276, 277, 278, 279, 280, 575, 576, 577, 578, 664, 592, 593, 594, 665, 622, 623, 624, 85, 86, 87, 88, 89, 543, 544, 545, 546, 666, 667, 668, 669, 670, 455, 456, 457, 121, 122, 458, 459, 460, 671, 403, 404, 405, 117, 118, 119, 120, 123, 124, 125, 126, 672, 414, 415, 416, 131, 673, 425, 426, 427, 428, 429, 430, 431, 674, 440, 441, 442, 443, 444, 445, 446, 681, 682, 683, 684, 685, 686, 703, 704, 705, 706, 707, 708, 711, 712, 713, 709, 710] (by decide +kernel) (by decide +kernel)) (goodIn_sub (fun _ h => List.mem_append_left _ (List.mem_append_left _ (List.mem_append_right _ h))) (by decide +kernel))) (goodIn_sub (fun _ h => List.mem_append_right _ h) (by decide +kernel))
set_option maxRecDepth 20000 in
theorem gL_law_X3_digest : GoodIn wsL_law (wsV RL 182 RX3 yX3_digest wsX3_digest) := goodIn_app (goodIn_of _ (by decide +kernel)) ggL_law_X3_digest
set_option maxRecDepth 20000 in
theorem ggL_law_X4_digest : GoodIn wsL_law wsX4_digest := goodIn_r _ [678, 94, 29, 62, 63, 289, 65, 227, 679, 680, 68, 69, 326, 327, 328, 5, 329, 330, 266, 267, 268, 269, 270, 271, 395, 396, 397, 398, 496, 497, 498, 499, 75, 298, 299, 300, 301, 72, 160, 161, 162, 163, 500, 501, 502, 503, 532, 533, 534, 535, 583, 584, 585, 586, 563, 564, 565, 566, 70, 294, 295, 296, 297, 71, 290, 291, 292, 293, 302, 303, 304, 305, 67, 66, 306, 307, 308, 309, 73, 310, 311, 312, 313, 64, 314, 315, 316, 317, 318, 319, 320, 321, 322, 323, 324, 325, 587, 588, 589, 590, 567, 568, 569, 570, 599, 600, 601, 602, 603, 604, 605, 606, 629, 630, 631, 632, 559, 560, 561, 562, 687, 688, 689, 690, 691, 692, 693, 694, 695, 696, 697, 698, 699, 700, 701, 702] (by decide +kernel) (by decide +kernel)
set_option maxRecDepth 20000 in
theorem gL_law_X4_digest : GoodIn wsL_law (wsV RL 186 RX4 yX4_digest wsX4_digest) := goodIn_app (goodIn_of _ (by decide +kernel)) ggL_law_X4_digest
theorem dL_law_0 : decode cL_law 0 = .ok (.new 8, 3) := by decide +kernel
theorem dL_law_3 : decode cL_law 3 = .ok (.dup, 1) := by decide +kernel
theorem dL_law_4 : decode cL_law 4 = .ok (.invokespecial 67, 3) := by decide +kernel
theorem dL_law_7 : decode cL_law 7 = .ok (.astore_n 1, 1) := by decide +kernel
theorem dL_law_8 : decode cL_law 8 = .ok (.new 68, 3) := by decide +kernel
theorem dL_law_11 : decode cL_law 11 = .ok (.dup, 1) := by decide +kernel
theorem dL_law_12 : decode cL_law 12 = .ok (.invokespecial 70, 3) := by decide +kernel
theorem dL_law_15 : decode cL_law 15 = .ok (.astore_n 2, 1) := by decide +kernel
theorem dL_law_16 : decode cL_law 16 = .ok (.iconst 1, 1) := by decide +kernel
theorem dL_law_17 : decode cL_law 17 = .ok (.newarray .long, 2) := by decide +kernel
theorem dL_law_19 : decode cL_law 19 = .ok (.astore_n 3, 1) := by decide +kernel
theorem dL_law_20 : decode cL_law 20 = .ok (.iconst 0, 1) := by decide +kernel
theorem dL_law_21 : decode cL_law 21 = .ok (.istore 4, 2) := by decide +kernel
theorem dL_law_23 : decode cL_law 23 = .ok (.iload 4, 2) := by decide +kernel
theorem dL_law_25 : decode cL_law 25 = .ok (.aload_n 0, 1) := by decide +kernel
theorem dL_law_26 : decode cL_law 26 = .ok (.arraylength, 1) := by decide +kernel
theorem dL_law_27 : decode cL_law 27 = .ok (.iconst 4, 1) := by decide +kernel
theorem dL_law_28 : decode cL_law 28 = .ok (.isub, 1) := by decide +kernel
theorem dL_law_29 : decode cL_law 29 = .ok (.if_icmp .gt 1397, 3) := by decide +kernel
theorem dL_law_32 : decode cL_law 32 = .ok (.aload_n 0, 1) := by decide +kernel
theorem dL_law_33 : decode cL_law 33 = .ok (.iload 4, 2) := by decide +kernel
theorem dL_law_35 : decode cL_law 35 = .ok (.iaload, 1) := by decide +kernel
theorem dL_law_36 : decode cL_law 36 = .ok (.bipush 31, 2) := by decide +kernel
theorem dL_law_38 : decode cL_law 38 = .ok (.iand, 1) := by decide +kernel
theorem dL_law_39 : decode cL_law 39 = .ok (.tableswitch 1381 0 29 #[133, 201, 276, 356, 412, 480, 536, 592, 605, 618, 631, 644, 657, 670, 683, 758, 826, 894, 969, 1025, 1038, 1051, 1119, 1132, 1188, 1201, 1214, 1270, 1326, 1367], 133) := by decide +kernel
theorem dL_law_172 : decode cL_law 172 = .ok (.aload_n 1, 1) := by decide +kernel
theorem dL_law_173 : decode cL_law 173 = .ok (.aload_n 0, 1) := by decide +kernel
theorem dL_law_174 : decode cL_law 174 = .ok (.iload 4, 2) := by decide +kernel
theorem dL_law_176 : decode cL_law 176 = .ok (.iconst 1, 1) := by decide +kernel
theorem dL_law_177 : decode cL_law 177 = .ok (.iadd, 1) := by decide +kernel
theorem dL_law_178 : decode cL_law 178 = .ok (.iaload, 1) := by decide +kernel
theorem dL_law_179 : decode cL_law 179 = .ok (.aload_n 0, 1) := by decide +kernel
theorem dL_law_180 : decode cL_law 180 = .ok (.iload 4, 2) := by decide +kernel
theorem dL_law_182 : decode cL_law 182 = .ok (.iconst 2, 1) := by decide +kernel
theorem dL_law_183 : decode cL_law 183 = .ok (.iadd, 1) := by decide +kernel
theorem dL_law_184 : decode cL_law 184 = .ok (.iaload, 1) := by decide +kernel
theorem dL_law_185 : decode cL_law 185 = .ok (.aload_n 3, 1) := by decide +kernel
theorem dL_law_186 : decode cL_law 186 = .ok (.invokestatic 71, 3) := by decide +kernel
theorem dL_law_189 : decode cL_law 189 = .ok (.istore 5, 2) := by decide +kernel
theorem dL_law_191 : decode cL_law 191 = .ok (.aload_n 2, 1) := by decide +kernel
theorem dL_law_192 : decode cL_law 192 = .ok (.aload_n 0, 1) := by decide +kernel
theorem dL_law_193 : decode cL_law 193 = .ok (.iload 4, 2) := by decide +kernel
theorem dL_law_195 : decode cL_law 195 = .ok (.iconst 1, 1) := by decide +kernel
theorem dL_law_196 : decode cL_law 196 = .ok (.iadd, 1) := by decide +kernel
theorem dL_law_197 : decode cL_law 197 = .ok (.iaload, 1) := by decide +kernel
theorem dL_law_198 : decode cL_law 198 = .ok (.aload_n 0, 1) := by decide +kernel
theorem dL_law_199 : decode cL_law 199 = .ok (.iload 4, 2) := by decide +kernel
theorem dL_law_201 : decode cL_law 201 = .ok (.iconst 2, 1) := by decide +kernel
theorem dL_law_202 : decode cL_law 202 = .ok (.iadd, 1) := by decide +kernel
theorem dL_law_203 : decode cL_law 203 = .ok (.iaload, 1) := by decide +kernel
theorem dL_law_204 : decode cL_law 204 = .ok (.invokevirtual 76, 3) := by decide +kernel
theorem dL_law_207 : decode cL_law 207 = .ok (.istore 6, 2) := by decide +kernel
theorem dL_law_209 : decode cL_law 209 = .ok (.aload_n 2, 1) := by decide +kernel
theorem dL_law_210 : decode cL_law 210 = .ok (.invokevirtual 77, 3) := by decide +kernel
theorem dL_law_213 : decode cL_law 213 = .ok (.iload 5, 2) := by decide +kernel
theorem dL_law_215 : decode cL_law 215 = .ok (.if_icmp .eq 5, 3) := by decide +kernel
theorem dL_law_218 : decode cL_law 218 = .ok (.iconst 0, 1) := by decide +kernel
theorem dL_law_219 : decode cL_law 219 = .ok (.ireturn, 1) := by decide +kernel
theorem dL_law_220 : decode cL_law 220 = .ok (.iload 5, 2) := by decide +kernel
theorem dL_law_222 : decode cL_law 222 = .ok (.ifCond .ne 15, 3) := by decide +kernel
theorem dL_law_225 : decode cL_law 225 = .ok (.aload_n 3, 1) := by decide +kernel
theorem dL_law_226 : decode cL_law 226 = .ok (.iconst 0, 1) := by decide +kernel
theorem dL_law_227 : decode cL_law 227 = .ok (.laload, 1) := by decide +kernel
theorem dL_law_228 : decode cL_law 228 = .ok (.iload 6, 2) := by decide +kernel
theorem dL_law_230 : decode cL_law 230 = .ok (.i2l, 1) := by decide +kernel
theorem dL_law_231 : decode cL_law 231 = .ok (.lcmp, 1) := by decide +kernel
theorem dL_law_232 : decode cL_law 232 = .ok (.ifCond .eq 5, 3) := by decide +kernel
theorem dL_law_235 : decode cL_law 235 = .ok (.iconst 0, 1) := by decide +kernel
theorem dL_law_236 : decode cL_law 236 = .ok (.ireturn, 1) := by decide +kernel
theorem dL_law_237 : decode cL_law 237 = .ok (.goto 1183, 3) := by decide +kernel
theorem dL_law_240 : decode cL_law 240 = .ok (.aload_n 1, 1) := by decide +kernel
theorem dL_law_241 : decode cL_law 241 = .ok (.aload_n 0, 1) := by decide +kernel
theorem dL_law_242 : decode cL_law 242 = .ok (.iload 4, 2) := by decide +kernel
theorem dL_law_244 : decode cL_law 244 = .ok (.iconst 1, 1) := by decide +kernel
theorem dL_law_245 : decode cL_law 245 = .ok (.iadd, 1) := by decide +kernel
theorem dL_law_246 : decode cL_law 246 = .ok (.iaload, 1) := by decide +kernel
theorem dL_law_247 : decode cL_law 247 = .ok (.aload_n 0, 1) := by decide +kernel
theorem dL_law_248 : decode cL_law 248 = .ok (.iload 4, 2) := by decide +kernel
theorem dL_law_250 : decode cL_law 250 = .ok (.iconst 2, 1) := by decide +kernel
theorem dL_law_251 : decode cL_law 251 = .ok (.iadd, 1) := by decide +kernel
theorem dL_law_252 : decode cL_law 252 = .ok (.iaload, 1) := by decide +kernel
theorem dL_law_253 : decode cL_law 253 = .ok (.aload_n 3, 1) := by decide +kernel
theorem dL_law_254 : decode cL_law 254 = .ok (.invokestatic 81, 3) := by decide +kernel
theorem dL_law_257 : decode cL_law 257 = .ok (.istore 5, 2) := by decide +kernel
theorem dL_law_259 : decode cL_law 259 = .ok (.aload_n 2, 1) := by decide +kernel
theorem dL_law_260 : decode cL_law 260 = .ok (.aload_n 0, 1) := by decide +kernel
theorem dL_law_261 : decode cL_law 261 = .ok (.iload 4, 2) := by decide +kernel
theorem dL_law_263 : decode cL_law 263 = .ok (.iconst 1, 1) := by decide +kernel
theorem dL_law_264 : decode cL_law 264 = .ok (.iadd, 1) := by decide +kernel
theorem dL_law_265 : decode cL_law 265 = .ok (.iaload, 1) := by decide +kernel
theorem dL_law_266 : decode cL_law 266 = .ok (.aload_n 0, 1) := by decide +kernel
theorem dL_law_267 : decode cL_law 267 = .ok (.iload 4, 2) := by decide +kernel
theorem dL_law_269 : decode cL_law 269 = .ok (.iconst 2, 1) := by decide +kernel
theorem dL_law_270 : decode cL_law 270 = .ok (.iadd, 1) := by decide +kernel
theorem dL_law_271 : decode cL_law 271 = .ok (.iaload, 1) := by decide +kernel
theorem dL_law_272 : decode cL_law 272 = .ok (.invokevirtual 83, 3) := by decide +kernel
theorem dL_law_275 : decode cL_law 275 = .ok (.istore 6, 2) := by decide +kernel
theorem dL_law_277 : decode cL_law 277 = .ok (.aload_n 2, 1) := by decide +kernel
theorem dL_law_278 : decode cL_law 278 = .ok (.invokevirtual 77, 3) := by decide +kernel
theorem dL_law_281 : decode cL_law 281 = .ok (.iload 5, 2) := by decide +kernel
theorem dL_law_283 : decode cL_law 283 = .ok (.if_icmp .eq 5, 3) := by decide +kernel
theorem dL_law_286 : decode cL_law 286 = .ok (.iconst 0, 1) := by decide +kernel
theorem dL_law_287 : decode cL_law 287 = .ok (.ireturn, 1) := by decide +kernel
theorem dL_law_288 : decode cL_law 288 = .ok (.iload 5, 2) := by decide +kernel
theorem dL_law_290 : decode cL_law 290 = .ok (.ifCond .ne 22, 3) := by decide +kernel
theorem dL_law_293 : decode cL_law 293 = .ok (.aload_n 3, 1) := by decide +kernel
theorem dL_law_294 : decode cL_law 294 = .ok (.iconst 0, 1) := by decide +kernel
theorem dL_law_295 : decode cL_law 295 = .ok (.laload, 1) := by decide +kernel
theorem dL_law_296 : decode cL_law 296 = .ok (.iload 6, 2) := by decide +kernel
theorem dL_law_298 : decode cL_law 298 = .ok (.ifCond .eq 7, 3) := by decide +kernel
theorem dL_law_301 : decode cL_law 301 = .ok (.lconst 1, 1) := by decide +kernel
theorem dL_law_302 : decode cL_law 302 = .ok (.goto 4, 3) := by decide +kernel
theorem dL_law_305 : decode cL_law 305 = .ok (.lconst 0, 1) := by decide +kernel
theorem dL_law_306 : decode cL_law 306 = .ok (.lcmp, 1) := by decide +kernel
theorem dL_law_307 : decode cL_law 307 = .ok (.ifCond .eq 5, 3) := by decide +kernel
theorem dL_law_310 : decode cL_law 310 = .ok (.iconst 0, 1) := by decide +kernel
theorem dL_law_311 : decode cL_law 311 = .ok (.ireturn, 1) := by decide +kernel
theorem dL_law_312 : decode cL_law 312 = .ok (.goto 1108, 3) := by decide +kernel
theorem dL_law_315 : decode cL_law 315 = .ok (.aload_n 1, 1) := by decide +kernel
theorem dL_law_316 : decode cL_law 316 = .ok (.aload_n 0, 1) := by decide +kernel
theorem dL_law_317 : decode cL_law 317 = .ok (.iload 4, 2) := by decide +kernel
theorem dL_law_319 : decode cL_law 319 = .ok (.iconst 1, 1) := by decide +kernel
theorem dL_law_320 : decode cL_law 320 = .ok (.iadd, 1) := by decide +kernel
theorem dL_law_321 : decode cL_law 321 = .ok (.iaload, 1) := by decide +kernel
theorem dL_law_322 : decode cL_law 322 = .ok (.aload_n 0, 1) := by decide +kernel
theorem dL_law_323 : decode cL_law 323 = .ok (.iload 4, 2) := by decide +kernel
theorem dL_law_325 : decode cL_law 325 = .ok (.iconst 2, 1) := by decide +kernel
theorem dL_law_326 : decode cL_law 326 = .ok (.iadd, 1) := by decide +kernel
theorem dL_law_327 : decode cL_law 327 = .ok (.iaload, 1) := by decide +kernel
theorem dL_law_328 : decode cL_law 328 = .ok (.aload_n 0, 1) := by decide +kernel
theorem dL_law_329 : decode cL_law 329 = .ok (.iload 4, 2) := by decide +kernel
theorem dL_law_331 : decode cL_law 331 = .ok (.iconst 3, 1) := by decide +kernel
theorem dL_law_332 : decode cL_law 332 = .ok (.iadd, 1) := by decide +kernel
theorem dL_law_333 : decode cL_law 333 = .ok (.iaload, 1) := by decide +kernel
theorem dL_law_334 : decode cL_law 334 = .ok (.aload_n 3, 1) := by decide +kernel
theorem dL_law_335 : decode cL_law 335 = .ok (.invokestatic 84, 3) := by decide +kernel
theorem dL_law_338 : decode cL_law 338 = .ok (.istore 5, 2) := by decide +kernel
theorem dL_law_340 : decode cL_law 340 = .ok (.aload_n 2, 1) := by decide +kernel
theorem dL_law_341 : decode cL_law 341 = .ok (.aload_n 0, 1) := by decide +kernel
theorem dL_law_342 : decode cL_law 342 = .ok (.iload 4, 2) := by decide +kernel
theorem dL_law_344 : decode cL_law 344 = .ok (.iconst 1, 1) := by decide +kernel
theorem dL_law_345 : decode cL_law 345 = .ok (.iadd, 1) := by decide +kernel
theorem dL_law_346 : decode cL_law 346 = .ok (.iaload, 1) := by decide +kernel
theorem dL_law_347 : decode cL_law 347 = .ok (.aload_n 0, 1) := by decide +kernel
theorem dL_law_348 : decode cL_law 348 = .ok (.iload 4, 2) := by decide +kernel
theorem dL_law_350 : decode cL_law 350 = .ok (.iconst 2, 1) := by decide +kernel
theorem dL_law_351 : decode cL_law 351 = .ok (.iadd, 1) := by decide +kernel
theorem dL_law_352 : decode cL_law 352 = .ok (.iaload, 1) := by decide +kernel
theorem dL_law_353 : decode cL_law 353 = .ok (.aload_n 0, 1) := by decide +kernel
theorem dL_law_354 : decode cL_law 354 = .ok (.iload 4, 2) := by decide +kernel
theorem dL_law_356 : decode cL_law 356 = .ok (.iconst 3, 1) := by decide +kernel
theorem dL_law_357 : decode cL_law 357 = .ok (.iadd, 1) := by decide +kernel
theorem dL_law_358 : decode cL_law 358 = .ok (.iaload, 1) := by decide +kernel
theorem dL_law_359 : decode cL_law 359 = .ok (.invokevirtual 87, 3) := by decide +kernel
theorem dL_law_362 : decode cL_law 362 = .ok (.istore 6, 2) := by decide +kernel
theorem dL_law_364 : decode cL_law 364 = .ok (.aload_n 2, 1) := by decide +kernel
theorem dL_law_365 : decode cL_law 365 = .ok (.invokevirtual 77, 3) := by decide +kernel
theorem dL_law_368 : decode cL_law 368 = .ok (.iload 5, 2) := by decide +kernel
theorem dL_law_370 : decode cL_law 370 = .ok (.if_icmp .eq 5, 3) := by decide +kernel
theorem dL_law_373 : decode cL_law 373 = .ok (.iconst 0, 1) := by decide +kernel
theorem dL_law_374 : decode cL_law 374 = .ok (.ireturn, 1) := by decide +kernel
theorem dL_law_375 : decode cL_law 375 = .ok (.iload 5, 2) := by decide +kernel
theorem dL_law_377 : decode cL_law 377 = .ok (.ifCond .ne 15, 3) := by decide +kernel
theorem dL_law_380 : decode cL_law 380 = .ok (.aload_n 3, 1) := by decide +kernel
theorem dL_law_381 : decode cL_law 381 = .ok (.iconst 0, 1) := by decide +kernel
theorem dL_law_382 : decode cL_law 382 = .ok (.laload, 1) := by decide +kernel
theorem dL_law_383 : decode cL_law 383 = .ok (.iload 6, 2) := by decide +kernel
theorem dL_law_385 : decode cL_law 385 = .ok (.i2l, 1) := by decide +kernel
theorem dL_law_386 : decode cL_law 386 = .ok (.lcmp, 1) := by decide +kernel
theorem dL_law_387 : decode cL_law 387 = .ok (.ifCond .eq 5, 3) := by decide +kernel
theorem dL_law_390 : decode cL_law 390 = .ok (.iconst 0, 1) := by decide +kernel
theorem dL_law_391 : decode cL_law 391 = .ok (.ireturn, 1) := by decide +kernel
theorem dL_law_392 : decode cL_law 392 = .ok (.goto 1028, 3) := by decide +kernel
theorem dL_law_395 : decode cL_law 395 = .ok (.aload_n 1, 1) := by decide +kernel
theorem dL_law_396 : decode cL_law 396 = .ok (.aload_n 0, 1) := by decide +kernel
theorem dL_law_397 : decode cL_law 397 = .ok (.iload 4, 2) := by decide +kernel
theorem dL_law_399 : decode cL_law 399 = .ok (.iconst 1, 1) := by decide +kernel
theorem dL_law_400 : decode cL_law 400 = .ok (.iadd, 1) := by decide +kernel
theorem dL_law_401 : decode cL_law 401 = .ok (.iaload, 1) := by decide +kernel
theorem dL_law_402 : decode cL_law 402 = .ok (.aload_n 3, 1) := by decide +kernel
theorem dL_law_403 : decode cL_law 403 = .ok (.invokestatic 88, 3) := by decide +kernel
theorem dL_law_406 : decode cL_law 406 = .ok (.istore 5, 2) := by decide +kernel
theorem dL_law_408 : decode cL_law 408 = .ok (.aload_n 2, 1) := by decide +kernel
theorem dL_law_409 : decode cL_law 409 = .ok (.aload_n 0, 1) := by decide +kernel
theorem dL_law_410 : decode cL_law 410 = .ok (.iload 4, 2) := by decide +kernel
theorem dL_law_412 : decode cL_law 412 = .ok (.iconst 1, 1) := by decide +kernel
theorem dL_law_413 : decode cL_law 413 = .ok (.iadd, 1) := by decide +kernel
theorem dL_law_414 : decode cL_law 414 = .ok (.iaload, 1) := by decide +kernel
theorem dL_law_415 : decode cL_law 415 = .ok (.invokevirtual 91, 3) := by decide +kernel
theorem dL_law_418 : decode cL_law 418 = .ok (.istore 6, 2) := by decide +kernel
theorem dL_law_420 : decode cL_law 420 = .ok (.aload_n 2, 1) := by decide +kernel
theorem dL_law_421 : decode cL_law 421 = .ok (.invokevirtual 77, 3) := by decide +kernel
theorem dL_law_424 : decode cL_law 424 = .ok (.iload 5, 2) := by decide +kernel
theorem dL_law_426 : decode cL_law 426 = .ok (.if_icmp .eq 5, 3) := by decide +kernel
theorem dL_law_429 : decode cL_law 429 = .ok (.iconst 0, 1) := by decide +kernel
theorem dL_law_430 : decode cL_law 430 = .ok (.ireturn, 1) := by decide +kernel
theorem dL_law_431 : decode cL_law 431 = .ok (.iload 5, 2) := by decide +kernel
theorem dL_law_433 : decode cL_law 433 = .ok (.ifCond .ne 15, 3) := by decide +kernel
theorem dL_law_436 : decode cL_law 436 = .ok (.aload_n 3, 1) := by decide +kernel
theorem dL_law_437 : decode cL_law 437 = .ok (.iconst 0, 1) := by decide +kernel
theorem dL_law_438 : decode cL_law 438 = .ok (.laload, 1) := by decide +kernel
theorem dL_law_439 : decode cL_law 439 = .ok (.iload 6, 2) := by decide +kernel
theorem dL_law_441 : decode cL_law 441 = .ok (.i2l, 1) := by decide +kernel
theorem dL_law_442 : decode cL_law 442 = .ok (.lcmp, 1) := by decide +kernel
theorem dL_law_443 : decode cL_law 443 = .ok (.ifCond .eq 5, 3) := by decide +kernel
theorem dL_law_446 : decode cL_law 446 = .ok (.iconst 0, 1) := by decide +kernel
theorem dL_law_447 : decode cL_law 447 = .ok (.ireturn, 1) := by decide +kernel
theorem dL_law_448 : decode cL_law 448 = .ok (.goto 972, 3) := by decide +kernel
theorem dL_law_451 : decode cL_law 451 = .ok (.aload_n 1, 1) := by decide +kernel
theorem dL_law_452 : decode cL_law 452 = .ok (.aload_n 0, 1) := by decide +kernel
theorem dL_law_453 : decode cL_law 453 = .ok (.iload 4, 2) := by decide +kernel
theorem dL_law_455 : decode cL_law 455 = .ok (.iconst 1, 1) := by decide +kernel
theorem dL_law_456 : decode cL_law 456 = .ok (.iadd, 1) := by decide +kernel
theorem dL_law_457 : decode cL_law 457 = .ok (.iaload, 1) := by decide +kernel
theorem dL_law_458 : decode cL_law 458 = .ok (.aload_n 0, 1) := by decide +kernel
theorem dL_law_459 : decode cL_law 459 = .ok (.iload 4, 2) := by decide +kernel
theorem dL_law_461 : decode cL_law 461 = .ok (.iconst 2, 1) := by decide +kernel
theorem dL_law_462 : decode cL_law 462 = .ok (.iadd, 1) := by decide +kernel
theorem dL_law_463 : decode cL_law 463 = .ok (.iaload, 1) := by decide +kernel
theorem dL_law_464 : decode cL_law 464 = .ok (.aload_n 3, 1) := by decide +kernel
theorem dL_law_465 : decode cL_law 465 = .ok (.invokestatic 92, 3) := by decide +kernel
theorem dL_law_468 : decode cL_law 468 = .ok (.istore 5, 2) := by decide +kernel
theorem dL_law_470 : decode cL_law 470 = .ok (.aload_n 2, 1) := by decide +kernel
theorem dL_law_471 : decode cL_law 471 = .ok (.aload_n 0, 1) := by decide +kernel
theorem dL_law_472 : decode cL_law 472 = .ok (.iload 4, 2) := by decide +kernel
theorem dL_law_474 : decode cL_law 474 = .ok (.iconst 1, 1) := by decide +kernel
theorem dL_law_475 : decode cL_law 475 = .ok (.iadd, 1) := by decide +kernel
theorem dL_law_476 : decode cL_law 476 = .ok (.iaload, 1) := by decide +kernel
theorem dL_law_477 : decode cL_law 477 = .ok (.aload_n 0, 1) := by decide +kernel
theorem dL_law_478 : decode cL_law 478 = .ok (.iload 4, 2) := by decide +kernel
theorem dL_law_480 : decode cL_law 480 = .ok (.iconst 2, 1) := by decide +kernel
theorem dL_law_481 : decode cL_law 481 = .ok (.iadd, 1) := by decide +kernel
theorem dL_law_482 : decode cL_law 482 = .ok (.iaload, 1) := by decide +kernel
theorem dL_law_483 : decode cL_law 483 = .ok (.invokevirtual 94, 3) := by decide +kernel
theorem dL_law_486 : decode cL_law 486 = .ok (.istore 6, 2) := by decide +kernel
theorem dL_law_488 : decode cL_law 488 = .ok (.aload_n 2, 1) := by decide +kernel
theorem dL_law_489 : decode cL_law 489 = .ok (.invokevirtual 77, 3) := by decide +kernel
theorem dL_law_492 : decode cL_law 492 = .ok (.iload 5, 2) := by decide +kernel
theorem dL_law_494 : decode cL_law 494 = .ok (.if_icmp .eq 5, 3) := by decide +kernel
theorem dL_law_497 : decode cL_law 497 = .ok (.iconst 0, 1) := by decide +kernel
theorem dL_law_498 : decode cL_law 498 = .ok (.ireturn, 1) := by decide +kernel
theorem dL_law_499 : decode cL_law 499 = .ok (.iload 5, 2) := by decide +kernel
theorem dL_law_501 : decode cL_law 501 = .ok (.ifCond .ne 15, 3) := by decide +kernel
theorem dL_law_504 : decode cL_law 504 = .ok (.aload_n 3, 1) := by decide +kernel
theorem dL_law_505 : decode cL_law 505 = .ok (.iconst 0, 1) := by decide +kernel
theorem dL_law_506 : decode cL_law 506 = .ok (.laload, 1) := by decide +kernel
theorem dL_law_507 : decode cL_law 507 = .ok (.iload 6, 2) := by decide +kernel
theorem dL_law_509 : decode cL_law 509 = .ok (.i2l, 1) := by decide +kernel
theorem dL_law_510 : decode cL_law 510 = .ok (.lcmp, 1) := by decide +kernel
theorem dL_law_511 : decode cL_law 511 = .ok (.ifCond .eq 5, 3) := by decide +kernel
theorem dL_law_514 : decode cL_law 514 = .ok (.iconst 0, 1) := by decide +kernel
theorem dL_law_515 : decode cL_law 515 = .ok (.ireturn, 1) := by decide +kernel
theorem dL_law_516 : decode cL_law 516 = .ok (.goto 904, 3) := by decide +kernel
theorem dL_law_519 : decode cL_law 519 = .ok (.aload_n 1, 1) := by decide +kernel
theorem dL_law_520 : decode cL_law 520 = .ok (.aload_n 0, 1) := by decide +kernel
theorem dL_law_521 : decode cL_law 521 = .ok (.iload 4, 2) := by decide +kernel
theorem dL_law_523 : decode cL_law 523 = .ok (.iconst 1, 1) := by decide +kernel
theorem dL_law_524 : decode cL_law 524 = .ok (.iadd, 1) := by decide +kernel
theorem dL_law_525 : decode cL_law 525 = .ok (.iaload, 1) := by decide +kernel
theorem dL_law_526 : decode cL_law 526 = .ok (.aload_n 3, 1) := by decide +kernel
theorem dL_law_527 : decode cL_law 527 = .ok (.invokestatic 95, 3) := by decide +kernel
theorem dL_law_530 : decode cL_law 530 = .ok (.istore 5, 2) := by decide +kernel
theorem dL_law_532 : decode cL_law 532 = .ok (.aload_n 2, 1) := by decide +kernel
theorem dL_law_533 : decode cL_law 533 = .ok (.aload_n 0, 1) := by decide +kernel
theorem dL_law_534 : decode cL_law 534 = .ok (.iload 4, 2) := by decide +kernel
theorem dL_law_536 : decode cL_law 536 = .ok (.iconst 1, 1) := by decide +kernel
theorem dL_law_537 : decode cL_law 537 = .ok (.iadd, 1) := by decide +kernel
theorem dL_law_538 : decode cL_law 538 = .ok (.iaload, 1) := by decide +kernel
theorem dL_law_539 : decode cL_law 539 = .ok (.invokevirtual 97, 3) := by decide +kernel
theorem dL_law_542 : decode cL_law 542 = .ok (.istore 6, 2) := by decide +kernel
theorem dL_law_544 : decode cL_law 544 = .ok (.aload_n 2, 1) := by decide +kernel
theorem dL_law_545 : decode cL_law 545 = .ok (.invokevirtual 77, 3) := by decide +kernel
theorem dL_law_548 : decode cL_law 548 = .ok (.iload 5, 2) := by decide +kernel
theorem dL_law_550 : decode cL_law 550 = .ok (.if_icmp .eq 5, 3) := by decide +kernel
theorem dL_law_553 : decode cL_law 553 = .ok (.iconst 0, 1) := by decide +kernel
theorem dL_law_554 : decode cL_law 554 = .ok (.ireturn, 1) := by decide +kernel
theorem dL_law_555 : decode cL_law 555 = .ok (.iload 5, 2) := by decide +kernel
theorem dL_law_557 : decode cL_law 557 = .ok (.ifCond .ne 15, 3) := by decide +kernel
theorem dL_law_560 : decode cL_law 560 = .ok (.aload_n 3, 1) := by decide +kernel
theorem dL_law_561 : decode cL_law 561 = .ok (.iconst 0, 1) := by decide +kernel
theorem dL_law_562 : decode cL_law 562 = .ok (.laload, 1) := by decide +kernel
theorem dL_law_563 : decode cL_law 563 = .ok (.iload 6, 2) := by decide +kernel
theorem dL_law_565 : decode cL_law 565 = .ok (.i2l, 1) := by decide +kernel
theorem dL_law_566 : decode cL_law 566 = .ok (.lcmp, 1) := by decide +kernel
theorem dL_law_567 : decode cL_law 567 = .ok (.ifCond .eq 5, 3) := by decide +kernel
theorem dL_law_570 : decode cL_law 570 = .ok (.iconst 0, 1) := by decide +kernel
theorem dL_law_571 : decode cL_law 571 = .ok (.ireturn, 1) := by decide +kernel
theorem dL_law_572 : decode cL_law 572 = .ok (.goto 848, 3) := by decide +kernel
theorem dL_law_575 : decode cL_law 575 = .ok (.aload_n 1, 1) := by decide +kernel
theorem dL_law_576 : decode cL_law 576 = .ok (.aload_n 0, 1) := by decide +kernel
theorem dL_law_577 : decode cL_law 577 = .ok (.iload 4, 2) := by decide +kernel
theorem dL_law_579 : decode cL_law 579 = .ok (.iconst 1, 1) := by decide +kernel
theorem dL_law_580 : decode cL_law 580 = .ok (.iadd, 1) := by decide +kernel
theorem dL_law_581 : decode cL_law 581 = .ok (.iaload, 1) := by decide +kernel
theorem dL_law_582 : decode cL_law 582 = .ok (.aload_n 3, 1) := by decide +kernel
theorem dL_law_583 : decode cL_law 583 = .ok (.invokestatic 98, 3) := by decide +kernel
theorem dL_law_586 : decode cL_law 586 = .ok (.istore 5, 2) := by decide +kernel
theorem dL_law_588 : decode cL_law 588 = .ok (.aload_n 2, 1) := by decide +kernel
theorem dL_law_589 : decode cL_law 589 = .ok (.aload_n 0, 1) := by decide +kernel
theorem dL_law_590 : decode cL_law 590 = .ok (.iload 4, 2) := by decide +kernel
theorem dL_law_592 : decode cL_law 592 = .ok (.iconst 1, 1) := by decide +kernel
theorem dL_law_593 : decode cL_law 593 = .ok (.iadd, 1) := by decide +kernel
theorem dL_law_594 : decode cL_law 594 = .ok (.iaload, 1) := by decide +kernel
theorem dL_law_595 : decode cL_law 595 = .ok (.invokevirtual 100, 3) := by decide +kernel
theorem dL_law_598 : decode cL_law 598 = .ok (.istore 6, 2) := by decide +kernel
theorem dL_law_600 : decode cL_law 600 = .ok (.aload_n 2, 1) := by decide +kernel
theorem dL_law_601 : decode cL_law 601 = .ok (.invokevirtual 77, 3) := by decide +kernel
theorem dL_law_604 : decode cL_law 604 = .ok (.iload 5, 2) := by decide +kernel
theorem dL_law_606 : decode cL_law 606 = .ok (.if_icmp .eq 5, 3) := by decide +kernel
theorem dL_law_609 : decode cL_law 609 = .ok (.iconst 0, 1) := by decide +kernel
theorem dL_law_610 : decode cL_law 610 = .ok (.ireturn, 1) := by decide +kernel
theorem dL_law_611 : decode cL_law 611 = .ok (.iload 5, 2) := by decide +kernel
theorem dL_law_613 : decode cL_law 613 = .ok (.ifCond .ne 15, 3) := by decide +kernel
theorem dL_law_616 : decode cL_law 616 = .ok (.aload_n 3, 1) := by decide +kernel
theorem dL_law_617 : decode cL_law 617 = .ok (.iconst 0, 1) := by decide +kernel
theorem dL_law_618 : decode cL_law 618 = .ok (.laload, 1) := by decide +kernel
theorem dL_law_619 : decode cL_law 619 = .ok (.iload 6, 2) := by decide +kernel
theorem dL_law_621 : decode cL_law 621 = .ok (.i2l, 1) := by decide +kernel
theorem dL_law_622 : decode cL_law 622 = .ok (.lcmp, 1) := by decide +kernel
theorem dL_law_623 : decode cL_law 623 = .ok (.ifCond .eq 5, 3) := by decide +kernel
theorem dL_law_626 : decode cL_law 626 = .ok (.iconst 0, 1) := by decide +kernel
theorem dL_law_627 : decode cL_law 627 = .ok (.ireturn, 1) := by decide +kernel
theorem dL_law_628 : decode cL_law 628 = .ok (.goto 792, 3) := by decide +kernel
theorem dL_law_631 : decode cL_law 631 = .ok (.aload_n 1, 1) := by decide +kernel
theorem dL_law_632 : decode cL_law 632 = .ok (.invokevirtual 101, 3) := by decide +kernel
theorem dL_law_635 : decode cL_law 635 = .ok (.aload_n 2, 1) := by decide +kernel
theorem dL_law_636 : decode cL_law 636 = .ok (.invokevirtual 104, 3) := by decide +kernel
theorem dL_law_639 : decode cL_law 639 = .ok (.if_icmp .eq 781, 3) := by decide +kernel
theorem dL_law_642 : decode cL_law 642 = .ok (.iconst 0, 1) := by decide +kernel
theorem dL_law_643 : decode cL_law 643 = .ok (.ireturn, 1) := by decide +kernel
theorem dL_law_644 : decode cL_law 644 = .ok (.aload_n 1, 1) := by decide +kernel
theorem dL_law_645 : decode cL_law 645 = .ok (.invokevirtual 105, 3) := by decide +kernel
theorem dL_law_648 : decode cL_law 648 = .ok (.aload_n 2, 1) := by decide +kernel
theorem dL_law_649 : decode cL_law 649 = .ok (.invokevirtual 108, 3) := by decide +kernel
theorem dL_law_652 : decode cL_law 652 = .ok (.if_icmp .eq 768, 3) := by decide +kernel
theorem dL_law_655 : decode cL_law 655 = .ok (.iconst 0, 1) := by decide +kernel
theorem dL_law_656 : decode cL_law 656 = .ok (.ireturn, 1) := by decide +kernel
theorem dL_law_657 : decode cL_law 657 = .ok (.aload_n 1, 1) := by decide +kernel
theorem dL_law_658 : decode cL_law 658 = .ok (.invokevirtual 109, 3) := by decide +kernel
theorem dL_law_661 : decode cL_law 661 = .ok (.aload_n 2, 1) := by decide +kernel
theorem dL_law_662 : decode cL_law 662 = .ok (.invokevirtual 112, 3) := by decide +kernel
theorem dL_law_665 : decode cL_law 665 = .ok (.if_icmp .eq 755, 3) := by decide +kernel
theorem dL_law_668 : decode cL_law 668 = .ok (.iconst 0, 1) := by decide +kernel
theorem dL_law_669 : decode cL_law 669 = .ok (.ireturn, 1) := by decide +kernel
theorem dL_law_670 : decode cL_law 670 = .ok (.aload_n 1, 1) := by decide +kernel
theorem dL_law_671 : decode cL_law 671 = .ok (.invokevirtual 113, 3) := by decide +kernel
theorem dL_law_674 : decode cL_law 674 = .ok (.aload_n 2, 1) := by decide +kernel
theorem dL_law_675 : decode cL_law 675 = .ok (.invokevirtual 116, 3) := by decide +kernel
theorem dL_law_678 : decode cL_law 678 = .ok (.if_icmp .eq 742, 3) := by decide +kernel
theorem dL_law_681 : decode cL_law 681 = .ok (.iconst 0, 1) := by decide +kernel
theorem dL_law_682 : decode cL_law 682 = .ok (.ireturn, 1) := by decide +kernel
theorem dL_law_683 : decode cL_law 683 = .ok (.aload_n 1, 1) := by decide +kernel
theorem dL_law_684 : decode cL_law 684 = .ok (.invokevirtual 117, 3) := by decide +kernel
theorem dL_law_687 : decode cL_law 687 = .ok (.aload_n 2, 1) := by decide +kernel
theorem dL_law_688 : decode cL_law 688 = .ok (.invokevirtual 120, 3) := by decide +kernel
theorem dL_law_691 : decode cL_law 691 = .ok (.if_icmp .eq 729, 3) := by decide +kernel
theorem dL_law_694 : decode cL_law 694 = .ok (.iconst 0, 1) := by decide +kernel
theorem dL_law_695 : decode cL_law 695 = .ok (.ireturn, 1) := by decide +kernel
theorem dL_law_696 : decode cL_law 696 = .ok (.aload_n 1, 1) := by decide +kernel
theorem dL_law_697 : decode cL_law 697 = .ok (.invokevirtual 121, 3) := by decide +kernel
theorem dL_law_700 : decode cL_law 700 = .ok (.aload_n 2, 1) := by decide +kernel
theorem dL_law_701 : decode cL_law 701 = .ok (.invokevirtual 124, 3) := by decide +kernel
theorem dL_law_704 : decode cL_law 704 = .ok (.if_icmp .eq 716, 3) := by decide +kernel
theorem dL_law_707 : decode cL_law 707 = .ok (.iconst 0, 1) := by decide +kernel
theorem dL_law_708 : decode cL_law 708 = .ok (.ireturn, 1) := by decide +kernel
theorem dL_law_709 : decode cL_law 709 = .ok (.aload_n 1, 1) := by decide +kernel
theorem dL_law_710 : decode cL_law 710 = .ok (.invokevirtual 125, 3) := by decide +kernel
theorem dL_law_713 : decode cL_law 713 = .ok (.aload_n 2, 1) := by decide +kernel
theorem dL_law_714 : decode cL_law 714 = .ok (.invokevirtual 128, 3) := by decide +kernel
theorem dL_law_717 : decode cL_law 717 = .ok (.if_icmp .eq 703, 3) := by decide +kernel
theorem dL_law_720 : decode cL_law 720 = .ok (.iconst 0, 1) := by decide +kernel
theorem dL_law_721 : decode cL_law 721 = .ok (.ireturn, 1) := by decide +kernel
theorem dL_law_722 : decode cL_law 722 = .ok (.aload_n 1, 1) := by decide +kernel
theorem dL_law_723 : decode cL_law 723 = .ok (.aload_n 0, 1) := by decide +kernel
theorem dL_law_724 : decode cL_law 724 = .ok (.iload 4, 2) := by decide +kernel
theorem dL_law_726 : decode cL_law 726 = .ok (.iconst 1, 1) := by decide +kernel
theorem dL_law_727 : decode cL_law 727 = .ok (.iadd, 1) := by decide +kernel
theorem dL_law_728 : decode cL_law 728 = .ok (.iaload, 1) := by decide +kernel
theorem dL_law_729 : decode cL_law 729 = .ok (.aload_n 0, 1) := by decide +kernel
theorem dL_law_730 : decode cL_law 730 = .ok (.iload 4, 2) := by decide +kernel
theorem dL_law_732 : decode cL_law 732 = .ok (.iconst 2, 1) := by decide +kernel
theorem dL_law_733 : decode cL_law 733 = .ok (.iadd, 1) := by decide +kernel
theorem dL_law_734 : decode cL_law 734 = .ok (.iaload, 1) := by decide +kernel
theorem dL_law_735 : decode cL_law 735 = .ok (.aload_n 3, 1) := by decide +kernel
theorem dL_law_736 : decode cL_law 736 = .ok (.invokestatic 129, 3) := by decide +kernel
theorem dL_law_739 : decode cL_law 739 = .ok (.istore 5, 2) := by decide +kernel
theorem dL_law_741 : decode cL_law 741 = .ok (.aload_n 2, 1) := by decide +kernel
theorem dL_law_742 : decode cL_law 742 = .ok (.aload_n 0, 1) := by decide +kernel
theorem dL_law_743 : decode cL_law 743 = .ok (.iload 4, 2) := by decide +kernel
theorem dL_law_745 : decode cL_law 745 = .ok (.iconst 1, 1) := by decide +kernel
theorem dL_law_746 : decode cL_law 746 = .ok (.iadd, 1) := by decide +kernel
theorem dL_law_747 : decode cL_law 747 = .ok (.iaload, 1) := by decide +kernel
theorem dL_law_748 : decode cL_law 748 = .ok (.aload_n 0, 1) := by decide +kernel
theorem dL_law_749 : decode cL_law 749 = .ok (.iload 4, 2) := by decide +kernel
theorem dL_law_751 : decode cL_law 751 = .ok (.iconst 2, 1) := by decide +kernel
theorem dL_law_752 : decode cL_law 752 = .ok (.iadd, 1) := by decide +kernel
theorem dL_law_753 : decode cL_law 753 = .ok (.iaload, 1) := by decide +kernel
theorem dL_law_754 : decode cL_law 754 = .ok (.invokevirtual 131, 3) := by decide +kernel
theorem dL_law_757 : decode cL_law 757 = .ok (.istore 6, 2) := by decide +kernel
theorem dL_law_759 : decode cL_law 759 = .ok (.aload_n 2, 1) := by decide +kernel
theorem dL_law_760 : decode cL_law 760 = .ok (.invokevirtual 77, 3) := by decide +kernel
theorem dL_law_763 : decode cL_law 763 = .ok (.iload 5, 2) := by decide +kernel
theorem dL_law_765 : decode cL_law 765 = .ok (.if_icmp .eq 5, 3) := by decide +kernel
theorem dL_law_768 : decode cL_law 768 = .ok (.iconst 0, 1) := by decide +kernel
theorem dL_law_769 : decode cL_law 769 = .ok (.ireturn, 1) := by decide +kernel
theorem dL_law_770 : decode cL_law 770 = .ok (.iload 5, 2) := by decide +kernel
theorem dL_law_772 : decode cL_law 772 = .ok (.ifCond .ne 22, 3) := by decide +kernel
theorem dL_law_775 : decode cL_law 775 = .ok (.aload_n 3, 1) := by decide +kernel
theorem dL_law_776 : decode cL_law 776 = .ok (.iconst 0, 1) := by decide +kernel
theorem dL_law_777 : decode cL_law 777 = .ok (.laload, 1) := by decide +kernel
theorem dL_law_778 : decode cL_law 778 = .ok (.iload 6, 2) := by decide +kernel
theorem dL_law_780 : decode cL_law 780 = .ok (.ifCond .eq 7, 3) := by decide +kernel
theorem dL_law_783 : decode cL_law 783 = .ok (.lconst 1, 1) := by decide +kernel
theorem dL_law_784 : decode cL_law 784 = .ok (.goto 4, 3) := by decide +kernel
theorem dL_law_787 : decode cL_law 787 = .ok (.lconst 0, 1) := by decide +kernel
theorem dL_law_788 : decode cL_law 788 = .ok (.lcmp, 1) := by decide +kernel
theorem dL_law_789 : decode cL_law 789 = .ok (.ifCond .eq 5, 3) := by decide +kernel
theorem dL_law_792 : decode cL_law 792 = .ok (.iconst 0, 1) := by decide +kernel
theorem dL_law_793 : decode cL_law 793 = .ok (.ireturn, 1) := by decide +kernel
theorem dL_law_794 : decode cL_law 794 = .ok (.goto 626, 3) := by decide +kernel
theorem dL_law_797 : decode cL_law 797 = .ok (.aload_n 1, 1) := by decide +kernel
theorem dL_law_798 : decode cL_law 798 = .ok (.aload_n 0, 1) := by decide +kernel
theorem dL_law_799 : decode cL_law 799 = .ok (.iload 4, 2) := by decide +kernel
theorem dL_law_801 : decode cL_law 801 = .ok (.iconst 1, 1) := by decide +kernel
theorem dL_law_802 : decode cL_law 802 = .ok (.iadd, 1) := by decide +kernel
theorem dL_law_803 : decode cL_law 803 = .ok (.iaload, 1) := by decide +kernel
theorem dL_law_804 : decode cL_law 804 = .ok (.aload_n 0, 1) := by decide +kernel
theorem dL_law_805 : decode cL_law 805 = .ok (.iload 4, 2) := by decide +kernel
theorem dL_law_807 : decode cL_law 807 = .ok (.iconst 2, 1) := by decide +kernel
theorem dL_law_808 : decode cL_law 808 = .ok (.iadd, 1) := by decide +kernel
theorem dL_law_809 : decode cL_law 809 = .ok (.iaload, 1) := by decide +kernel
theorem dL_law_810 : decode cL_law 810 = .ok (.aload_n 3, 1) := by decide +kernel
theorem dL_law_811 : decode cL_law 811 = .ok (.invokestatic 132, 3) := by decide +kernel
theorem dL_law_814 : decode cL_law 814 = .ok (.istore 5, 2) := by decide +kernel
theorem dL_law_816 : decode cL_law 816 = .ok (.aload_n 2, 1) := by decide +kernel
theorem dL_law_817 : decode cL_law 817 = .ok (.aload_n 0, 1) := by decide +kernel
theorem dL_law_818 : decode cL_law 818 = .ok (.iload 4, 2) := by decide +kernel
theorem dL_law_820 : decode cL_law 820 = .ok (.iconst 1, 1) := by decide +kernel
theorem dL_law_821 : decode cL_law 821 = .ok (.iadd, 1) := by decide +kernel
theorem dL_law_822 : decode cL_law 822 = .ok (.iaload, 1) := by decide +kernel
theorem dL_law_823 : decode cL_law 823 = .ok (.aload_n 0, 1) := by decide +kernel
theorem dL_law_824 : decode cL_law 824 = .ok (.iload 4, 2) := by decide +kernel
theorem dL_law_826 : decode cL_law 826 = .ok (.iconst 2, 1) := by decide +kernel
theorem dL_law_827 : decode cL_law 827 = .ok (.iadd, 1) := by decide +kernel
theorem dL_law_828 : decode cL_law 828 = .ok (.iaload, 1) := by decide +kernel
theorem dL_law_829 : decode cL_law 829 = .ok (.invokevirtual 134, 3) := by decide +kernel
theorem dL_law_832 : decode cL_law 832 = .ok (.istore 6, 2) := by decide +kernel
theorem dL_law_834 : decode cL_law 834 = .ok (.aload_n 2, 1) := by decide +kernel
theorem dL_law_835 : decode cL_law 835 = .ok (.invokevirtual 77, 3) := by decide +kernel
theorem dL_law_838 : decode cL_law 838 = .ok (.iload 5, 2) := by decide +kernel
theorem dL_law_840 : decode cL_law 840 = .ok (.if_icmp .eq 5, 3) := by decide +kernel
theorem dL_law_843 : decode cL_law 843 = .ok (.iconst 0, 1) := by decide +kernel
theorem dL_law_844 : decode cL_law 844 = .ok (.ireturn, 1) := by decide +kernel
theorem dL_law_845 : decode cL_law 845 = .ok (.iload 5, 2) := by decide +kernel
theorem dL_law_847 : decode cL_law 847 = .ok (.ifCond .ne 15, 3) := by decide +kernel
theorem dL_law_850 : decode cL_law 850 = .ok (.aload_n 3, 1) := by decide +kernel
theorem dL_law_851 : decode cL_law 851 = .ok (.iconst 0, 1) := by decide +kernel
theorem dL_law_852 : decode cL_law 852 = .ok (.laload, 1) := by decide +kernel
theorem dL_law_853 : decode cL_law 853 = .ok (.iload 6, 2) := by decide +kernel
theorem dL_law_855 : decode cL_law 855 = .ok (.i2l, 1) := by decide +kernel
theorem dL_law_856 : decode cL_law 856 = .ok (.lcmp, 1) := by decide +kernel
theorem dL_law_857 : decode cL_law 857 = .ok (.ifCond .eq 5, 3) := by decide +kernel
theorem dL_law_860 : decode cL_law 860 = .ok (.iconst 0, 1) := by decide +kernel
theorem dL_law_861 : decode cL_law 861 = .ok (.ireturn, 1) := by decide +kernel
theorem dL_law_862 : decode cL_law 862 = .ok (.goto 558, 3) := by decide +kernel
theorem dL_law_865 : decode cL_law 865 = .ok (.aload_n 1, 1) := by decide +kernel
theorem dL_law_866 : decode cL_law 866 = .ok (.aload_n 0, 1) := by decide +kernel
theorem dL_law_867 : decode cL_law 867 = .ok (.iload 4, 2) := by decide +kernel
theorem dL_law_869 : decode cL_law 869 = .ok (.iconst 1, 1) := by decide +kernel
theorem dL_law_870 : decode cL_law 870 = .ok (.iadd, 1) := by decide +kernel
theorem dL_law_871 : decode cL_law 871 = .ok (.iaload, 1) := by decide +kernel
theorem dL_law_872 : decode cL_law 872 = .ok (.aload_n 0, 1) := by decide +kernel
theorem dL_law_873 : decode cL_law 873 = .ok (.iload 4, 2) := by decide +kernel
theorem dL_law_875 : decode cL_law 875 = .ok (.iconst 2, 1) := by decide +kernel
theorem dL_law_876 : decode cL_law 876 = .ok (.iadd, 1) := by decide +kernel
theorem dL_law_877 : decode cL_law 877 = .ok (.iaload, 1) := by decide +kernel
theorem dL_law_878 : decode cL_law 878 = .ok (.aload_n 3, 1) := by decide +kernel
theorem dL_law_879 : decode cL_law 879 = .ok (.invokestatic 135, 3) := by decide +kernel
theorem dL_law_882 : decode cL_law 882 = .ok (.istore 5, 2) := by decide +kernel
theorem dL_law_884 : decode cL_law 884 = .ok (.aload_n 2, 1) := by decide +kernel
theorem dL_law_885 : decode cL_law 885 = .ok (.aload_n 0, 1) := by decide +kernel
theorem dL_law_886 : decode cL_law 886 = .ok (.iload 4, 2) := by decide +kernel
theorem dL_law_888 : decode cL_law 888 = .ok (.iconst 1, 1) := by decide +kernel
theorem dL_law_889 : decode cL_law 889 = .ok (.iadd, 1) := by decide +kernel
theorem dL_law_890 : decode cL_law 890 = .ok (.iaload, 1) := by decide +kernel
theorem dL_law_891 : decode cL_law 891 = .ok (.aload_n 0, 1) := by decide +kernel
theorem dL_law_892 : decode cL_law 892 = .ok (.iload 4, 2) := by decide +kernel
theorem dL_law_894 : decode cL_law 894 = .ok (.iconst 2, 1) := by decide +kernel
theorem dL_law_895 : decode cL_law 895 = .ok (.iadd, 1) := by decide +kernel
theorem dL_law_896 : decode cL_law 896 = .ok (.iaload, 1) := by decide +kernel
theorem dL_law_897 : decode cL_law 897 = .ok (.invokevirtual 137, 3) := by decide +kernel
theorem dL_law_900 : decode cL_law 900 = .ok (.istore 6, 2) := by decide +kernel
theorem dL_law_902 : decode cL_law 902 = .ok (.aload_n 2, 1) := by decide +kernel
theorem dL_law_903 : decode cL_law 903 = .ok (.invokevirtual 77, 3) := by decide +kernel
theorem dL_law_906 : decode cL_law 906 = .ok (.iload 5, 2) := by decide +kernel
theorem dL_law_908 : decode cL_law 908 = .ok (.if_icmp .eq 5, 3) := by decide +kernel
theorem dL_law_911 : decode cL_law 911 = .ok (.iconst 0, 1) := by decide +kernel
theorem dL_law_912 : decode cL_law 912 = .ok (.ireturn, 1) := by decide +kernel
theorem dL_law_913 : decode cL_law 913 = .ok (.iload 5, 2) := by decide +kernel
theorem dL_law_915 : decode cL_law 915 = .ok (.ifCond .ne 15, 3) := by decide +kernel
theorem dL_law_918 : decode cL_law 918 = .ok (.aload_n 3, 1) := by decide +kernel
theorem dL_law_919 : decode cL_law 919 = .ok (.iconst 0, 1) := by decide +kernel
theorem dL_law_920 : decode cL_law 920 = .ok (.laload, 1) := by decide +kernel
theorem dL_law_921 : decode cL_law 921 = .ok (.iload 6, 2) := by decide +kernel
theorem dL_law_923 : decode cL_law 923 = .ok (.i2l, 1) := by decide +kernel
theorem dL_law_924 : decode cL_law 924 = .ok (.lcmp, 1) := by decide +kernel
theorem dL_law_925 : decode cL_law 925 = .ok (.ifCond .eq 5, 3) := by decide +kernel
theorem dL_law_928 : decode cL_law 928 = .ok (.iconst 0, 1) := by decide +kernel
theorem dL_law_929 : decode cL_law 929 = .ok (.ireturn, 1) := by decide +kernel
theorem dL_law_930 : decode cL_law 930 = .ok (.goto 490, 3) := by decide +kernel
theorem dL_law_933 : decode cL_law 933 = .ok (.aload_n 1, 1) := by decide +kernel
theorem dL_law_934 : decode cL_law 934 = .ok (.aload_n 0, 1) := by decide +kernel
theorem dL_law_935 : decode cL_law 935 = .ok (.iload 4, 2) := by decide +kernel
theorem dL_law_937 : decode cL_law 937 = .ok (.iconst 1, 1) := by decide +kernel
theorem dL_law_938 : decode cL_law 938 = .ok (.iadd, 1) := by decide +kernel
theorem dL_law_939 : decode cL_law 939 = .ok (.iaload, 1) := by decide +kernel
theorem dL_law_940 : decode cL_law 940 = .ok (.aload_n 0, 1) := by decide +kernel
theorem dL_law_941 : decode cL_law 941 = .ok (.iload 4, 2) := by decide +kernel
theorem dL_law_943 : decode cL_law 943 = .ok (.iconst 2, 1) := by decide +kernel
theorem dL_law_944 : decode cL_law 944 = .ok (.iadd, 1) := by decide +kernel
theorem dL_law_945 : decode cL_law 945 = .ok (.iaload, 1) := by decide +kernel
theorem dL_law_946 : decode cL_law 946 = .ok (.aload_n 3, 1) := by decide +kernel
theorem dL_law_947 : decode cL_law 947 = .ok (.invokestatic 138, 3) := by decide +kernel
theorem dL_law_950 : decode cL_law 950 = .ok (.istore 5, 2) := by decide +kernel
theorem dL_law_952 : decode cL_law 952 = .ok (.aload_n 2, 1) := by decide +kernel
theorem dL_law_953 : decode cL_law 953 = .ok (.aload_n 0, 1) := by decide +kernel
theorem dL_law_954 : decode cL_law 954 = .ok (.iload 4, 2) := by decide +kernel
theorem dL_law_956 : decode cL_law 956 = .ok (.iconst 1, 1) := by decide +kernel
theorem dL_law_957 : decode cL_law 957 = .ok (.iadd, 1) := by decide +kernel
theorem dL_law_958 : decode cL_law 958 = .ok (.iaload, 1) := by decide +kernel
theorem dL_law_959 : decode cL_law 959 = .ok (.aload_n 0, 1) := by decide +kernel
theorem dL_law_960 : decode cL_law 960 = .ok (.iload 4, 2) := by decide +kernel
theorem dL_law_962 : decode cL_law 962 = .ok (.iconst 2, 1) := by decide +kernel
theorem dL_law_963 : decode cL_law 963 = .ok (.iadd, 1) := by decide +kernel
theorem dL_law_964 : decode cL_law 964 = .ok (.iaload, 1) := by decide +kernel
theorem dL_law_965 : decode cL_law 965 = .ok (.invokevirtual 140, 3) := by decide +kernel
theorem dL_law_968 : decode cL_law 968 = .ok (.istore 6, 2) := by decide +kernel
theorem dL_law_970 : decode cL_law 970 = .ok (.aload_n 2, 1) := by decide +kernel
theorem dL_law_971 : decode cL_law 971 = .ok (.invokevirtual 77, 3) := by decide +kernel
theorem dL_law_974 : decode cL_law 974 = .ok (.iload 5, 2) := by decide +kernel
theorem dL_law_976 : decode cL_law 976 = .ok (.if_icmp .eq 5, 3) := by decide +kernel
theorem dL_law_979 : decode cL_law 979 = .ok (.iconst 0, 1) := by decide +kernel
theorem dL_law_980 : decode cL_law 980 = .ok (.ireturn, 1) := by decide +kernel
theorem dL_law_981 : decode cL_law 981 = .ok (.iload 5, 2) := by decide +kernel
theorem dL_law_983 : decode cL_law 983 = .ok (.ifCond .ne 22, 3) := by decide +kernel
theorem dL_law_986 : decode cL_law 986 = .ok (.aload_n 3, 1) := by decide +kernel
theorem dL_law_987 : decode cL_law 987 = .ok (.iconst 0, 1) := by decide +kernel
theorem dL_law_988 : decode cL_law 988 = .ok (.laload, 1) := by decide +kernel
theorem dL_law_989 : decode cL_law 989 = .ok (.iload 6, 2) := by decide +kernel
theorem dL_law_991 : decode cL_law 991 = .ok (.ifCond .eq 7, 3) := by decide +kernel
theorem dL_law_994 : decode cL_law 994 = .ok (.lconst 1, 1) := by decide +kernel
theorem dL_law_995 : decode cL_law 995 = .ok (.goto 4, 3) := by decide +kernel
theorem dL_law_998 : decode cL_law 998 = .ok (.lconst 0, 1) := by decide +kernel
theorem dL_law_999 : decode cL_law 999 = .ok (.lcmp, 1) := by decide +kernel
theorem dL_law_1000 : decode cL_law 1000 = .ok (.ifCond .eq 5, 3) := by decide +kernel
theorem dL_law_1003 : decode cL_law 1003 = .ok (.iconst 0, 1) := by decide +kernel
theorem dL_law_1004 : decode cL_law 1004 = .ok (.ireturn, 1) := by decide +kernel
theorem dL_law_1005 : decode cL_law 1005 = .ok (.goto 415, 3) := by decide +kernel
theorem dL_law_1008 : decode cL_law 1008 = .ok (.aload_n 1, 1) := by decide +kernel
theorem dL_law_1009 : decode cL_law 1009 = .ok (.aload_n 0, 1) := by decide +kernel
theorem dL_law_1010 : decode cL_law 1010 = .ok (.iload 4, 2) := by decide +kernel
theorem dL_law_1012 : decode cL_law 1012 = .ok (.iconst 1, 1) := by decide +kernel
theorem dL_law_1013 : decode cL_law 1013 = .ok (.iadd, 1) := by decide +kernel
theorem dL_law_1014 : decode cL_law 1014 = .ok (.iaload, 1) := by decide +kernel
theorem dL_law_1015 : decode cL_law 1015 = .ok (.aload_n 3, 1) := by decide +kernel
theorem dL_law_1016 : decode cL_law 1016 = .ok (.invokestatic 141, 3) := by decide +kernel
theorem dL_law_1019 : decode cL_law 1019 = .ok (.istore 5, 2) := by decide +kernel
theorem dL_law_1021 : decode cL_law 1021 = .ok (.aload_n 2, 1) := by decide +kernel
theorem dL_law_1022 : decode cL_law 1022 = .ok (.aload_n 0, 1) := by decide +kernel
theorem dL_law_1023 : decode cL_law 1023 = .ok (.iload 4, 2) := by decide +kernel
theorem dL_law_1025 : decode cL_law 1025 = .ok (.iconst 1, 1) := by decide +kernel
theorem dL_law_1026 : decode cL_law 1026 = .ok (.iadd, 1) := by decide +kernel
theorem dL_law_1027 : decode cL_law 1027 = .ok (.iaload, 1) := by decide +kernel
theorem dL_law_1028 : decode cL_law 1028 = .ok (.invokevirtual 143, 3) := by decide +kernel
theorem dL_law_1031 : decode cL_law 1031 = .ok (.istore 6, 2) := by decide +kernel
theorem dL_law_1033 : decode cL_law 1033 = .ok (.aload_n 2, 1) := by decide +kernel
theorem dL_law_1034 : decode cL_law 1034 = .ok (.invokevirtual 77, 3) := by decide +kernel
theorem dL_law_1037 : decode cL_law 1037 = .ok (.iload 5, 2) := by decide +kernel
theorem dL_law_1039 : decode cL_law 1039 = .ok (.if_icmp .eq 5, 3) := by decide +kernel
theorem dL_law_1042 : decode cL_law 1042 = .ok (.iconst 0, 1) := by decide +kernel
theorem dL_law_1043 : decode cL_law 1043 = .ok (.ireturn, 1) := by decide +kernel
theorem dL_law_1044 : decode cL_law 1044 = .ok (.iload 5, 2) := by decide +kernel
theorem dL_law_1046 : decode cL_law 1046 = .ok (.ifCond .ne 15, 3) := by decide +kernel
theorem dL_law_1049 : decode cL_law 1049 = .ok (.aload_n 3, 1) := by decide +kernel
theorem dL_law_1050 : decode cL_law 1050 = .ok (.iconst 0, 1) := by decide +kernel
theorem dL_law_1051 : decode cL_law 1051 = .ok (.laload, 1) := by decide +kernel
theorem dL_law_1052 : decode cL_law 1052 = .ok (.iload 6, 2) := by decide +kernel
theorem dL_law_1054 : decode cL_law 1054 = .ok (.i2l, 1) := by decide +kernel
theorem dL_law_1055 : decode cL_law 1055 = .ok (.lcmp, 1) := by decide +kernel
theorem dL_law_1056 : decode cL_law 1056 = .ok (.ifCond .eq 5, 3) := by decide +kernel
theorem dL_law_1059 : decode cL_law 1059 = .ok (.iconst 0, 1) := by decide +kernel
theorem dL_law_1060 : decode cL_law 1060 = .ok (.ireturn, 1) := by decide +kernel
theorem dL_law_1061 : decode cL_law 1061 = .ok (.goto 359, 3) := by decide +kernel
theorem dL_law_1064 : decode cL_law 1064 = .ok (.aload_n 1, 1) := by decide +kernel
theorem dL_law_1065 : decode cL_law 1065 = .ok (.invokevirtual 144, 3) := by decide +kernel
theorem dL_law_1068 : decode cL_law 1068 = .ok (.aload_n 2, 1) := by decide +kernel
theorem dL_law_1069 : decode cL_law 1069 = .ok (.invokevirtual 147, 3) := by decide +kernel
theorem dL_law_1072 : decode cL_law 1072 = .ok (.if_icmp .eq 348, 3) := by decide +kernel
theorem dL_law_1075 : decode cL_law 1075 = .ok (.iconst 0, 1) := by decide +kernel
theorem dL_law_1076 : decode cL_law 1076 = .ok (.ireturn, 1) := by decide +kernel
theorem dL_law_1077 : decode cL_law 1077 = .ok (.aload_n 1, 1) := by decide +kernel
theorem dL_law_1078 : decode cL_law 1078 = .ok (.invokevirtual 148, 3) := by decide +kernel
theorem dL_law_1081 : decode cL_law 1081 = .ok (.aload_n 2, 1) := by decide +kernel
theorem dL_law_1082 : decode cL_law 1082 = .ok (.invokevirtual 151, 3) := by decide +kernel
theorem dL_law_1085 : decode cL_law 1085 = .ok (.if_icmp .eq 335, 3) := by decide +kernel
theorem dL_law_1088 : decode cL_law 1088 = .ok (.iconst 0, 1) := by decide +kernel
theorem dL_law_1089 : decode cL_law 1089 = .ok (.ireturn, 1) := by decide +kernel
theorem dL_law_1090 : decode cL_law 1090 = .ok (.aload_n 1, 1) := by decide +kernel
theorem dL_law_1091 : decode cL_law 1091 = .ok (.aload_n 0, 1) := by decide +kernel
theorem dL_law_1092 : decode cL_law 1092 = .ok (.iload 4, 2) := by decide +kernel
theorem dL_law_1094 : decode cL_law 1094 = .ok (.iconst 1, 1) := by decide +kernel
theorem dL_law_1095 : decode cL_law 1095 = .ok (.iadd, 1) := by decide +kernel
theorem dL_law_1096 : decode cL_law 1096 = .ok (.iaload, 1) := by decide +kernel
theorem dL_law_1097 : decode cL_law 1097 = .ok (.aload_n 0, 1) := by decide +kernel
theorem dL_law_1098 : decode cL_law 1098 = .ok (.iload 4, 2) := by decide +kernel
theorem dL_law_1100 : decode cL_law 1100 = .ok (.iconst 2, 1) := by decide +kernel
theorem dL_law_1101 : decode cL_law 1101 = .ok (.iadd, 1) := by decide +kernel
theorem dL_law_1102 : decode cL_law 1102 = .ok (.iaload, 1) := by decide +kernel
theorem dL_law_1103 : decode cL_law 1103 = .ok (.aload_n 3, 1) := by decide +kernel
theorem dL_law_1104 : decode cL_law 1104 = .ok (.invokestatic 152, 3) := by decide +kernel
theorem dL_law_1107 : decode cL_law 1107 = .ok (.istore 5, 2) := by decide +kernel
theorem dL_law_1109 : decode cL_law 1109 = .ok (.aload_n 2, 1) := by decide +kernel
theorem dL_law_1110 : decode cL_law 1110 = .ok (.aload_n 0, 1) := by decide +kernel
theorem dL_law_1111 : decode cL_law 1111 = .ok (.iload 4, 2) := by decide +kernel
theorem dL_law_1113 : decode cL_law 1113 = .ok (.iconst 1, 1) := by decide +kernel
theorem dL_law_1114 : decode cL_law 1114 = .ok (.iadd, 1) := by decide +kernel
theorem dL_law_1115 : decode cL_law 1115 = .ok (.iaload, 1) := by decide +kernel
theorem dL_law_1116 : decode cL_law 1116 = .ok (.aload_n 0, 1) := by decide +kernel
theorem dL_law_1117 : decode cL_law 1117 = .ok (.iload 4, 2) := by decide +kernel
theorem dL_law_1119 : decode cL_law 1119 = .ok (.iconst 2, 1) := by decide +kernel
theorem dL_law_1120 : decode cL_law 1120 = .ok (.iadd, 1) := by decide +kernel
theorem dL_law_1121 : decode cL_law 1121 = .ok (.iaload, 1) := by decide +kernel
theorem dL_law_1122 : decode cL_law 1122 = .ok (.invokevirtual 154, 3) := by decide +kernel
theorem dL_law_1125 : decode cL_law 1125 = .ok (.istore 6, 2) := by decide +kernel
theorem dL_law_1127 : decode cL_law 1127 = .ok (.aload_n 2, 1) := by decide +kernel
theorem dL_law_1128 : decode cL_law 1128 = .ok (.invokevirtual 77, 3) := by decide +kernel
theorem dL_law_1131 : decode cL_law 1131 = .ok (.iload 5, 2) := by decide +kernel
theorem dL_law_1133 : decode cL_law 1133 = .ok (.if_icmp .eq 5, 3) := by decide +kernel
theorem dL_law_1136 : decode cL_law 1136 = .ok (.iconst 0, 1) := by decide +kernel
theorem dL_law_1137 : decode cL_law 1137 = .ok (.ireturn, 1) := by decide +kernel
theorem dL_law_1138 : decode cL_law 1138 = .ok (.iload 5, 2) := by decide +kernel
theorem dL_law_1140 : decode cL_law 1140 = .ok (.ifCond .ne 15, 3) := by decide +kernel
theorem dL_law_1143 : decode cL_law 1143 = .ok (.aload_n 3, 1) := by decide +kernel
theorem dL_law_1144 : decode cL_law 1144 = .ok (.iconst 0, 1) := by decide +kernel
theorem dL_law_1145 : decode cL_law 1145 = .ok (.laload, 1) := by decide +kernel
theorem dL_law_1146 : decode cL_law 1146 = .ok (.iload 6, 2) := by decide +kernel
theorem dL_law_1148 : decode cL_law 1148 = .ok (.i2l, 1) := by decide +kernel
theorem dL_law_1149 : decode cL_law 1149 = .ok (.lcmp, 1) := by decide +kernel
theorem dL_law_1150 : decode cL_law 1150 = .ok (.ifCond .eq 5, 3) := by decide +kernel
theorem dL_law_1153 : decode cL_law 1153 = .ok (.iconst 0, 1) := by decide +kernel
theorem dL_law_1154 : decode cL_law 1154 = .ok (.ireturn, 1) := by decide +kernel
theorem dL_law_1155 : decode cL_law 1155 = .ok (.goto 265, 3) := by decide +kernel
theorem dL_law_1158 : decode cL_law 1158 = .ok (.aload_n 1, 1) := by decide +kernel
theorem dL_law_1159 : decode cL_law 1159 = .ok (.invokevirtual 155, 3) := by decide +kernel
theorem dL_law_1162 : decode cL_law 1162 = .ok (.aload_n 2, 1) := by decide +kernel
theorem dL_law_1163 : decode cL_law 1163 = .ok (.invokevirtual 159, 3) := by decide +kernel
theorem dL_law_1166 : decode cL_law 1166 = .ok (.if_icmp .eq 254, 3) := by decide +kernel
theorem dL_law_1169 : decode cL_law 1169 = .ok (.iconst 0, 1) := by decide +kernel
theorem dL_law_1170 : decode cL_law 1170 = .ok (.ireturn, 1) := by decide +kernel
theorem dL_law_1171 : decode cL_law 1171 = .ok (.aload_n 1, 1) := by decide +kernel
theorem dL_law_1172 : decode cL_law 1172 = .ok (.aload_n 0, 1) := by decide +kernel
theorem dL_law_1173 : decode cL_law 1173 = .ok (.iload 4, 2) := by decide +kernel
theorem dL_law_1175 : decode cL_law 1175 = .ok (.iconst 1, 1) := by decide +kernel
theorem dL_law_1176 : decode cL_law 1176 = .ok (.iadd, 1) := by decide +kernel
theorem dL_law_1177 : decode cL_law 1177 = .ok (.iaload, 1) := by decide +kernel
theorem dL_law_1178 : decode cL_law 1178 = .ok (.aload_n 3, 1) := by decide +kernel
theorem dL_law_1179 : decode cL_law 1179 = .ok (.invokestatic 160, 3) := by decide +kernel
theorem dL_law_1182 : decode cL_law 1182 = .ok (.istore 5, 2) := by decide +kernel
theorem dL_law_1184 : decode cL_law 1184 = .ok (.aload_n 2, 1) := by decide +kernel
theorem dL_law_1185 : decode cL_law 1185 = .ok (.aload_n 0, 1) := by decide +kernel
theorem dL_law_1186 : decode cL_law 1186 = .ok (.iload 4, 2) := by decide +kernel
theorem dL_law_1188 : decode cL_law 1188 = .ok (.iconst 1, 1) := by decide +kernel
theorem dL_law_1189 : decode cL_law 1189 = .ok (.iadd, 1) := by decide +kernel
theorem dL_law_1190 : decode cL_law 1190 = .ok (.iaload, 1) := by decide +kernel
theorem dL_law_1191 : decode cL_law 1191 = .ok (.invokevirtual 162, 3) := by decide +kernel
theorem dL_law_1194 : decode cL_law 1194 = .ok (.istore 6, 2) := by decide +kernel
theorem dL_law_1196 : decode cL_law 1196 = .ok (.aload_n 2, 1) := by decide +kernel
theorem dL_law_1197 : decode cL_law 1197 = .ok (.invokevirtual 77, 3) := by decide +kernel
theorem dL_law_1200 : decode cL_law 1200 = .ok (.iload 5, 2) := by decide +kernel
theorem dL_law_1202 : decode cL_law 1202 = .ok (.if_icmp .eq 5, 3) := by decide +kernel
theorem dL_law_1205 : decode cL_law 1205 = .ok (.iconst 0, 1) := by decide +kernel
theorem dL_law_1206 : decode cL_law 1206 = .ok (.ireturn, 1) := by decide +kernel
theorem dL_law_1207 : decode cL_law 1207 = .ok (.iload 5, 2) := by decide +kernel
theorem dL_law_1209 : decode cL_law 1209 = .ok (.ifCond .ne 15, 3) := by decide +kernel
theorem dL_law_1212 : decode cL_law 1212 = .ok (.aload_n 3, 1) := by decide +kernel
theorem dL_law_1213 : decode cL_law 1213 = .ok (.iconst 0, 1) := by decide +kernel
theorem dL_law_1214 : decode cL_law 1214 = .ok (.laload, 1) := by decide +kernel
theorem dL_law_1215 : decode cL_law 1215 = .ok (.iload 6, 2) := by decide +kernel
theorem dL_law_1217 : decode cL_law 1217 = .ok (.i2l, 1) := by decide +kernel
theorem dL_law_1218 : decode cL_law 1218 = .ok (.lcmp, 1) := by decide +kernel
theorem dL_law_1219 : decode cL_law 1219 = .ok (.ifCond .eq 5, 3) := by decide +kernel
theorem dL_law_1222 : decode cL_law 1222 = .ok (.iconst 0, 1) := by decide +kernel
theorem dL_law_1223 : decode cL_law 1223 = .ok (.ireturn, 1) := by decide +kernel
theorem dL_law_1224 : decode cL_law 1224 = .ok (.goto 196, 3) := by decide +kernel
theorem dL_law_1227 : decode cL_law 1227 = .ok (.aload_n 1, 1) := by decide +kernel
theorem dL_law_1228 : decode cL_law 1228 = .ok (.invokevirtual 163, 3) := by decide +kernel
theorem dL_law_1231 : decode cL_law 1231 = .ok (.aload_n 2, 1) := by decide +kernel
theorem dL_law_1232 : decode cL_law 1232 = .ok (.invokevirtual 166, 3) := by decide +kernel
theorem dL_law_1235 : decode cL_law 1235 = .ok (.if_icmp .eq 185, 3) := by decide +kernel
theorem dL_law_1238 : decode cL_law 1238 = .ok (.iconst 0, 1) := by decide +kernel
theorem dL_law_1239 : decode cL_law 1239 = .ok (.ireturn, 1) := by decide +kernel
theorem dL_law_1240 : decode cL_law 1240 = .ok (.aload_n 1, 1) := by decide +kernel
theorem dL_law_1241 : decode cL_law 1241 = .ok (.invokevirtual 167, 3) := by decide +kernel
theorem dL_law_1244 : decode cL_law 1244 = .ok (.aload_n 2, 1) := by decide +kernel
theorem dL_law_1245 : decode cL_law 1245 = .ok (.invokevirtual 170, 3) := by decide +kernel
theorem dL_law_1248 : decode cL_law 1248 = .ok (.if_icmp .eq 172, 3) := by decide +kernel
theorem dL_law_1251 : decode cL_law 1251 = .ok (.iconst 0, 1) := by decide +kernel
theorem dL_law_1252 : decode cL_law 1252 = .ok (.ireturn, 1) := by decide +kernel
theorem dL_law_1253 : decode cL_law 1253 = .ok (.aload_n 1, 1) := by decide +kernel
theorem dL_law_1254 : decode cL_law 1254 = .ok (.aload_n 0, 1) := by decide +kernel
theorem dL_law_1255 : decode cL_law 1255 = .ok (.iload 4, 2) := by decide +kernel
theorem dL_law_1257 : decode cL_law 1257 = .ok (.iconst 1, 1) := by decide +kernel
theorem dL_law_1258 : decode cL_law 1258 = .ok (.iadd, 1) := by decide +kernel
theorem dL_law_1259 : decode cL_law 1259 = .ok (.iaload, 1) := by decide +kernel
theorem dL_law_1260 : decode cL_law 1260 = .ok (.aload_n 3, 1) := by decide +kernel
theorem dL_law_1261 : decode cL_law 1261 = .ok (.invokestatic 171, 3) := by decide +kernel
theorem dL_law_1264 : decode cL_law 1264 = .ok (.istore 5, 2) := by decide +kernel
theorem dL_law_1266 : decode cL_law 1266 = .ok (.aload_n 2, 1) := by decide +kernel
theorem dL_law_1267 : decode cL_law 1267 = .ok (.aload_n 0, 1) := by decide +kernel
theorem dL_law_1268 : decode cL_law 1268 = .ok (.iload 4, 2) := by decide +kernel
theorem dL_law_1270 : decode cL_law 1270 = .ok (.iconst 1, 1) := by decide +kernel
theorem dL_law_1271 : decode cL_law 1271 = .ok (.iadd, 1) := by decide +kernel
theorem dL_law_1272 : decode cL_law 1272 = .ok (.iaload, 1) := by decide +kernel
theorem dL_law_1273 : decode cL_law 1273 = .ok (.invokevirtual 173, 3) := by decide +kernel
theorem dL_law_1276 : decode cL_law 1276 = .ok (.istore 6, 2) := by decide +kernel
theorem dL_law_1278 : decode cL_law 1278 = .ok (.aload_n 2, 1) := by decide +kernel
theorem dL_law_1279 : decode cL_law 1279 = .ok (.invokevirtual 77, 3) := by decide +kernel
theorem dL_law_1282 : decode cL_law 1282 = .ok (.iload 5, 2) := by decide +kernel
theorem dL_law_1284 : decode cL_law 1284 = .ok (.if_icmp .eq 5, 3) := by decide +kernel
theorem dL_law_1287 : decode cL_law 1287 = .ok (.iconst 0, 1) := by decide +kernel
theorem dL_law_1288 : decode cL_law 1288 = .ok (.ireturn, 1) := by decide +kernel
theorem dL_law_1289 : decode cL_law 1289 = .ok (.iload 5, 2) := by decide +kernel
theorem dL_law_1291 : decode cL_law 1291 = .ok (.ifCond .ne 15, 3) := by decide +kernel
theorem dL_law_1294 : decode cL_law 1294 = .ok (.aload_n 3, 1) := by decide +kernel
theorem dL_law_1295 : decode cL_law 1295 = .ok (.iconst 0, 1) := by decide +kernel
theorem dL_law_1296 : decode cL_law 1296 = .ok (.laload, 1) := by decide +kernel
theorem dL_law_1297 : decode cL_law 1297 = .ok (.iload 6, 2) := by decide +kernel
theorem dL_law_1299 : decode cL_law 1299 = .ok (.i2l, 1) := by decide +kernel
theorem dL_law_1300 : decode cL_law 1300 = .ok (.lcmp, 1) := by decide +kernel
theorem dL_law_1301 : decode cL_law 1301 = .ok (.ifCond .eq 5, 3) := by decide +kernel
theorem dL_law_1304 : decode cL_law 1304 = .ok (.iconst 0, 1) := by decide +kernel
theorem dL_law_1305 : decode cL_law 1305 = .ok (.ireturn, 1) := by decide +kernel
theorem dL_law_1306 : decode cL_law 1306 = .ok (.goto 114, 3) := by decide +kernel
theorem dL_law_1309 : decode cL_law 1309 = .ok (.aload_n 1, 1) := by decide +kernel
theorem dL_law_1310 : decode cL_law 1310 = .ok (.aload_n 0, 1) := by decide +kernel
theorem dL_law_1311 : decode cL_law 1311 = .ok (.iload 4, 2) := by decide +kernel
theorem dL_law_1313 : decode cL_law 1313 = .ok (.iconst 1, 1) := by decide +kernel
theorem dL_law_1314 : decode cL_law 1314 = .ok (.iadd, 1) := by decide +kernel
theorem dL_law_1315 : decode cL_law 1315 = .ok (.iaload, 1) := by decide +kernel
theorem dL_law_1316 : decode cL_law 1316 = .ok (.aload_n 3, 1) := by decide +kernel
theorem dL_law_1317 : decode cL_law 1317 = .ok (.invokestatic 174, 3) := by decide +kernel
theorem dL_law_1320 : decode cL_law 1320 = .ok (.istore 5, 2) := by decide +kernel
theorem dL_law_1322 : decode cL_law 1322 = .ok (.aload_n 2, 1) := by decide +kernel
theorem dL_law_1323 : decode cL_law 1323 = .ok (.aload_n 0, 1) := by decide +kernel
theorem dL_law_1324 : decode cL_law 1324 = .ok (.iload 4, 2) := by decide +kernel
theorem dL_law_1326 : decode cL_law 1326 = .ok (.iconst 1, 1) := by decide +kernel
theorem dL_law_1327 : decode cL_law 1327 = .ok (.iadd, 1) := by decide +kernel
theorem dL_law_1328 : decode cL_law 1328 = .ok (.iaload, 1) := by decide +kernel
theorem dL_law_1329 : decode cL_law 1329 = .ok (.invokevirtual 176, 3) := by decide +kernel
theorem dL_law_1332 : decode cL_law 1332 = .ok (.istore 6, 2) := by decide +kernel
theorem dL_law_1334 : decode cL_law 1334 = .ok (.aload_n 2, 1) := by decide +kernel
theorem dL_law_1335 : decode cL_law 1335 = .ok (.invokevirtual 77, 3) := by decide +kernel
theorem dL_law_1338 : decode cL_law 1338 = .ok (.iload 5, 2) := by decide +kernel
theorem dL_law_1340 : decode cL_law 1340 = .ok (.if_icmp .eq 5, 3) := by decide +kernel
theorem dL_law_1343 : decode cL_law 1343 = .ok (.iconst 0, 1) := by decide +kernel
theorem dL_law_1344 : decode cL_law 1344 = .ok (.ireturn, 1) := by decide +kernel
theorem dL_law_1345 : decode cL_law 1345 = .ok (.iload 5, 2) := by decide +kernel
theorem dL_law_1347 : decode cL_law 1347 = .ok (.ifCond .ne 15, 3) := by decide +kernel
theorem dL_law_1350 : decode cL_law 1350 = .ok (.aload_n 3, 1) := by decide +kernel
theorem dL_law_1351 : decode cL_law 1351 = .ok (.iconst 0, 1) := by decide +kernel
theorem dL_law_1352 : decode cL_law 1352 = .ok (.laload, 1) := by decide +kernel
theorem dL_law_1353 : decode cL_law 1353 = .ok (.iload 6, 2) := by decide +kernel
theorem dL_law_1355 : decode cL_law 1355 = .ok (.i2l, 1) := by decide +kernel
theorem dL_law_1356 : decode cL_law 1356 = .ok (.lcmp, 1) := by decide +kernel
theorem dL_law_1357 : decode cL_law 1357 = .ok (.ifCond .eq 5, 3) := by decide +kernel
theorem dL_law_1360 : decode cL_law 1360 = .ok (.iconst 0, 1) := by decide +kernel
theorem dL_law_1361 : decode cL_law 1361 = .ok (.ireturn, 1) := by decide +kernel
theorem dL_law_1362 : decode cL_law 1362 = .ok (.goto 58, 3) := by decide +kernel
theorem dL_law_1365 : decode cL_law 1365 = .ok (.aload_n 1, 1) := by decide +kernel
theorem dL_law_1366 : decode cL_law 1366 = .ok (.invokevirtual 177, 3) := by decide +kernel
theorem dL_law_1369 : decode cL_law 1369 = .ok (.dstore 5, 2) := by decide +kernel
theorem dL_law_1371 : decode cL_law 1371 = .ok (.aload_n 2, 1) := by decide +kernel
theorem dL_law_1372 : decode cL_law 1372 = .ok (.invokevirtual 181, 3) := by decide +kernel
theorem dL_law_1375 : decode cL_law 1375 = .ok (.dstore 7, 2) := by decide +kernel
theorem dL_law_1377 : decode cL_law 1377 = .ok (.dload 5, 2) := by decide +kernel
theorem dL_law_1379 : decode cL_law 1379 = .ok (.dload 7, 2) := by decide +kernel
theorem dL_law_1381 : decode cL_law 1381 = .ok (.dcmp .l, 1) := by decide +kernel
theorem dL_law_1382 : decode cL_law 1382 = .ok (.ifCond .eq 21, 3) := by decide +kernel
theorem dL_law_1385 : decode cL_law 1385 = .ok (.dload 5, 2) := by decide +kernel
theorem dL_law_1387 : decode cL_law 1387 = .ok (.dload 5, 2) := by decide +kernel
theorem dL_law_1389 : decode cL_law 1389 = .ok (.dcmp .l, 1) := by decide +kernel
theorem dL_law_1390 : decode cL_law 1390 = .ok (.ifCond .eq 11, 3) := by decide +kernel
theorem dL_law_1393 : decode cL_law 1393 = .ok (.dload 7, 2) := by decide +kernel
theorem dL_law_1395 : decode cL_law 1395 = .ok (.dload 7, 2) := by decide +kernel
theorem dL_law_1397 : decode cL_law 1397 = .ok (.dcmp .l, 1) := by decide +kernel
theorem dL_law_1398 : decode cL_law 1398 = .ok (.ifCond .ne 5, 3) := by decide +kernel
theorem dL_law_1401 : decode cL_law 1401 = .ok (.iconst 0, 1) := by decide +kernel
theorem dL_law_1402 : decode cL_law 1402 = .ok (.ireturn, 1) := by decide +kernel
theorem dL_law_1403 : decode cL_law 1403 = .ok (.goto 17, 3) := by decide +kernel
theorem dL_law_1406 : decode cL_law 1406 = .ok (.aload_n 1, 1) := by decide +kernel
theorem dL_law_1407 : decode cL_law 1407 = .ok (.invokevirtual 182, 3) := by decide +kernel
theorem dL_law_1410 : decode cL_law 1410 = .ok (.aload_n 2, 1) := by decide +kernel
theorem dL_law_1411 : decode cL_law 1411 = .ok (.invokevirtual 186, 3) := by decide +kernel
theorem dL_law_1414 : decode cL_law 1414 = .ok (.lcmp, 1) := by decide +kernel
theorem dL_law_1415 : decode cL_law 1415 = .ok (.ifCond .eq 5, 3) := by decide +kernel
theorem dL_law_1418 : decode cL_law 1418 = .ok (.iconst 0, 1) := by decide +kernel
theorem dL_law_1419 : decode cL_law 1419 = .ok (.ireturn, 1) := by decide +kernel
theorem dL_law_1420 : decode cL_law 1420 = .ok (.iinc 4 4, 3) := by decide +kernel
theorem dL_law_1423 : decode cL_law 1423 = .ok (.goto (-1400), 3) := by decide +kernel
theorem dL_law_1426 : decode cL_law 1426 = .ok (.iconst 1, 1) := by decide +kernel
theorem dL_law_1427 : decode cL_law 1427 = .ok (.ireturn, 1) := by decide +kernel
abbrev vwCl : List vw_C := [(RX0, TX0, 2), (RX1, TX1, 6), (RX2, TX2, 3), (RX3, TX3, 6), (RX4, TX4, 16)]
/-! ===== END printed: names ===== -/
