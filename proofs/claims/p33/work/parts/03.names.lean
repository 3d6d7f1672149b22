/-! ===== BEGIN printed: names, fields, word lists, decode rows ===== -/
def RX0 : String := "FrostPane$FlowerPicker"
def TX0 : u_T := fun k => match k with
  | 0 => ("FrostPane$FlowerPicker", "left", "[I", true)
  | _ => ("FrostPane$FlowerPicker", "flower", "[I", true)
def tyX0 : Nat → FieldType := fun k => match k with
  | 0 => .array .int
  | _ => .array .int
abbrev wsX00 : List Cond := u_ws RX0 TX0 2
theorem nmX0 : ∀ a, a < 2 → ∀ b, b < 2 → a ≠ b → (TX0 a).2.1 ≠ (TX0 b).2.1 := by decide +kernel
theorem tyX0_ok : ∀ k, k < 2 → parseFieldDescriptor (TX0 k).2.2.1 = some (tyX0 k) := by decide +kernel
abbrev cX0_init : ByteArray := prog_2_method_1_code
def yX0_init : MethodName := ⟨RX0, "<init>", "()V"⟩
abbrev cX0_spreadOut : ByteArray := prog_2_method_2_code
def yX0_spreadOut : MethodName := ⟨RX0, "spreadOut", "(LFrostPane$Pane;)V"⟩
abbrev cX0_pick : ByteArray := prog_2_method_3_code
def yX0_pick : MethodName := ⟨RX0, "pick", "(II)I"⟩
abbrev cX0_widen : ByteArray := prog_2_method_4_code
def yX0_widen : MethodName := ⟨RX0, "widen", "()Z"⟩
abbrev cX0_flowerIn : ByteArray := prog_2_method_5_code
def yX0_flowerIn : MethodName := ⟨RX0, "flowerIn", "(I)I"⟩
abbrev cX0_takeAway : ByteArray := prog_2_method_6_code
def yX0_takeAway : MethodName := ⟨RX0, "takeAway", "()I"⟩
def RX1 : String := "FrostPane$Pane"
def TX1 : u_T := fun k => match k with
  | 0 => ("FrostPane$Pane", "frost", "[I", true)
  | 1 => ("FrostPane$Pane", "frostNext", "[I", true)
  | 2 => ("FrostPane$Pane", "melts", "[I", true)
  | 3 => ("FrostPane$Pane", "columns", "I", false)
  | 4 => ("FrostPane$Pane", "rows", "I", false)
  | _ => ("FrostPane$Pane", "frame", "I", false)
def tyX1 : Nat → FieldType := fun k => match k with
  | 0 => .array .int
  | 1 => .array .int
  | 2 => .array .int
  | 3 => .int
  | 4 => .int
  | _ => .int
abbrev wsX10 : List Cond := u_ws RX1 TX1 6
theorem nmX1 : ∀ a, a < 6 → ∀ b, b < 6 → a ≠ b → (TX1 a).2.1 ≠ (TX1 b).2.1 := by decide +kernel
theorem tyX1_ok : ∀ k, k < 6 → parseFieldDescriptor (TX1 k).2.2.1 = some (tyX1 k) := by decide +kernel
abbrev cX1_init : ByteArray := prog_3_method_1_code
def yX1_init : MethodName := ⟨RX1, "<init>", "()V"⟩
abbrev cX1_layClear : ByteArray := prog_3_method_2_code
def yX1_layClear : MethodName := ⟨RX1, "layClear", "(II)V"⟩
abbrev cX1_becomeLike : ByteArray := prog_3_method_3_code
def yX1_becomeLike : MethodName := ⟨RX1, "becomeLike", "(LFrostPane$Pane;)V"⟩
abbrev cX1_isLike : ByteArray := prog_3_method_4_code
def yX1_isLike : MethodName := ⟨RX1, "isLike", "(LFrostPane$Pane;)Z"⟩
abbrev cX1_hasRow : ByteArray := prog_3_method_5_code
def yX1_hasRow : MethodName := ⟨RX1, "hasRow", "(I)Z"⟩
abbrev cX1_hasCell : ByteArray := prog_3_method_6_code
def yX1_hasCell : MethodName := ⟨RX1, "hasCell", "(II)Z"⟩
abbrev cX1_bitsOf : ByteArray := prog_3_method_7_code
def yX1_bitsOf : MethodName := ⟨RX1, "bitsOf", "(I)I"⟩
abbrev cX1_hasFrost : ByteArray := prog_3_method_8_code
def yX1_hasFrost : MethodName := ⟨RX1, "hasFrost", "(II)Z"⟩
abbrev cX1_meltOf : ByteArray := prog_3_method_9_code
def yX1_meltOf : MethodName := ⟨RX1, "meltOf", "(II)I"⟩
abbrev cX1_flip : ByteArray := prog_3_method_10_code
def yX1_flip : MethodName := ⟨RX1, "flip", "(II)V"⟩
abbrev cX1_melt : ByteArray := prog_3_method_11_code
def yX1_melt : MethodName := ⟨RX1, "melt", "(III)I"⟩
abbrev cX1_countFrost : ByteArray := prog_3_method_12_code
def yX1_countFrost : MethodName := ⟨RX1, "countFrost", "()I"⟩
abbrev cX1_countMelted : ByteArray := prog_3_method_13_code
def yX1_countMelted : MethodName := ⟨RX1, "countMelted", "()I"⟩
abbrev cX1_countAround : ByteArray := prog_3_method_14_code
def yX1_countAround : MethodName := ⟨RX1, "countAround", "(II)I"⟩
abbrev cX1_isFrozenNext : ByteArray := prog_3_method_15_code
def yX1_isFrozenNext : MethodName := ⟨RX1, "isFrozenNext", "(IIII)Z"⟩
abbrev cX1_step : ByteArray := prog_3_method_16_code
def yX1_step : MethodName := ⟨RX1, "step", "(II)Z"⟩
abbrev cX1_meltLess : ByteArray := prog_3_method_17_code
def yX1_meltLess : MethodName := ⟨RX1, "meltLess", "()V"⟩
abbrev cX1_takeNext : ByteArray := prog_3_method_18_code
def yX1_takeNext : MethodName := ⟨RX1, "takeNext", "()Z"⟩
abbrev cX1_grownRow : ByteArray := prog_3_method_19_code
def yX1_grownRow : MethodName := ⟨RX1, "grownRow", "(III)I"⟩
abbrev cX1_countIn : ByteArray := prog_3_method_20_code
def yX1_countIn : MethodName := ⟨RX1, "countIn", "(IIII)I"⟩
abbrev cX1_framed : ByteArray := prog_3_method_21_code
def yX1_framed : MethodName := ⟨RX1, "framed", "(I)I"⟩
abbrev cX1_withSides : ByteArray := prog_3_method_22_code
def yX1_withSides : MethodName := ⟨RX1, "withSides", "(I)I"⟩
def RX2 : String := "FrostPane$RuleBook"
def TX2 : u_T := fun k => match k with
  | 0 => ("FrostPane$RuleBook", "freezes", "[I", true)
  | 1 => ("FrostPane$RuleBook", "stays", "[I", true)
  | _ => ("FrostPane$RuleBook", "count", "I", false)
def tyX2 : Nat → FieldType := fun k => match k with
  | 0 => .array .int
  | 1 => .array .int
  | _ => .int
abbrev wsX20 : List Cond := u_ws RX2 TX2 3
theorem nmX2 : ∀ a, a < 3 → ∀ b, b < 3 → a ≠ b → (TX2 a).2.1 ≠ (TX2 b).2.1 := by decide +kernel
theorem tyX2_ok : ∀ k, k < 3 → parseFieldDescriptor (TX2 k).2.2.1 = some (tyX2 k) := by decide +kernel
abbrev cX2_init : ByteArray := prog_4_method_1_code
def yX2_init : MethodName := ⟨RX2, "<init>", "()V"⟩
abbrev cX2_isFull : ByteArray := prog_4_method_2_code
def yX2_isFull : MethodName := ⟨RX2, "isFull", "()Z"⟩
abbrev cX2_has : ByteArray := prog_4_method_3_code
def yX2_has : MethodName := ⟨RX2, "has", "(I)Z"⟩
abbrev cX2_append : ByteArray := prog_4_method_4_code
def yX2_append : MethodName := ⟨RX2, "append", "(II)I"⟩
abbrev cX2_freezesBy : ByteArray := prog_4_method_5_code
def yX2_freezesBy : MethodName := ⟨RX2, "freezesBy", "(I)I"⟩
abbrev cX2_staysBy : ByteArray := prog_4_method_6_code
def yX2_staysBy : MethodName := ⟨RX2, "staysBy", "(I)I"⟩
def RX3 : String := "FrostPane"
def TX3 : u_T := fun k => match k with
  | 0 => ("FrostPane", "now", "LFrostPane$Pane;", true)
  | 1 => ("FrostPane", "ahead", "LFrostPane$Pane;", true)
  | 2 => ("FrostPane", "picker", "LFrostPane$FlowerPicker;", true)
  | 3 => ("FrostPane", "book", "LFrostPane$RuleBook;", true)
  | 4 => ("FrostPane", "breath", "I", false)
  | _ => ("FrostPane", "generation", "I", false)
def tyX3 : Nat → FieldType := fun k => match k with
  | 0 => .object "FrostPane$Pane"
  | 1 => .object "FrostPane$Pane"
  | 2 => .object "FrostPane$FlowerPicker"
  | 3 => .object "FrostPane$RuleBook"
  | 4 => .int
  | _ => .int
abbrev wsX30 : List Cond := u_ws RX3 TX3 6
theorem nmX3 : ∀ a, a < 6 → ∀ b, b < 6 → a ≠ b → (TX3 a).2.1 ≠ (TX3 b).2.1 := by decide +kernel
theorem tyX3_ok : ∀ k, k < 6 → parseFieldDescriptor (TX3 k).2.2.1 = some (tyX3 k) := by decide +kernel
abbrev cX3_init : ByteArray := prog_1_method_1_code
def yX3_init : MethodName := ⟨RX3, "<init>", "()V"⟩
abbrev cX3_lay : ByteArray := prog_1_method_2_code
def yX3_lay : MethodName := ⟨RX3, "lay", "(II)I"⟩
abbrev cX3_turn : ByteArray := prog_1_method_3_code
def yX3_turn : MethodName := ⟨RX3, "turn", "(II)Z"⟩
abbrev cX3_press : ByteArray := prog_1_method_4_code
def yX3_press : MethodName := ⟨RX3, "press", "(III)I"⟩
abbrev cX3_setFrame : ByteArray := prog_1_method_5_code
def yX3_setFrame : MethodName := ⟨RX3, "setFrame", "(I)I"⟩
abbrev cX3_addRule : ByteArray := prog_1_method_6_code
def yX3_addRule : MethodName := ⟨RX3, "addRule", "(II)I"⟩
abbrev cX3_breathe : ByteArray := prog_1_method_7_code
def yX3_breathe : MethodName := ⟨RX3, "breathe", "(I)I"⟩
abbrev cX3_grow : ByteArray := prog_1_method_8_code
def yX3_grow : MethodName := ⟨RX3, "grow", "(I)I"⟩
abbrev cX3_columns : ByteArray := prog_1_method_9_code
def yX3_columns : MethodName := ⟨RX3, "columns", "()I"⟩
abbrev cX3_rows : ByteArray := prog_1_method_10_code
def yX3_rows : MethodName := ⟨RX3, "rows", "()I"⟩
abbrev cX3_generation : ByteArray := prog_1_method_11_code
def yX3_generation : MethodName := ⟨RX3, "generation", "()I"⟩
abbrev cX3_rules : ByteArray := prog_1_method_12_code
def yX3_rules : MethodName := ⟨RX3, "rules", "()I"⟩
abbrev cX3_breath : ByteArray := prog_1_method_13_code
def yX3_breath : MethodName := ⟨RX3, "breath", "()I"⟩
abbrev cX3_frozen : ByteArray := prog_1_method_14_code
def yX3_frozen : MethodName := ⟨RX3, "frozen", "()I"⟩
abbrev cX3_melted : ByteArray := prog_1_method_15_code
def yX3_melted : MethodName := ⟨RX3, "melted", "()I"⟩
abbrev cX3_isFrozen : ByteArray := prog_1_method_16_code
def yX3_isFrozen : MethodName := ⟨RX3, "isFrozen", "(II)Z"⟩
abbrev cX3_meltedFor : ByteArray := prog_1_method_17_code
def yX3_meltedFor : MethodName := ⟨RX3, "meltedFor", "(II)I"⟩
abbrev cX3_around : ByteArray := prog_1_method_18_code
def yX3_around : MethodName := ⟨RX3, "around", "(II)I"⟩
abbrev cX3_willFreeze : ByteArray := prog_1_method_19_code
def yX3_willFreeze : MethodName := ⟨RX3, "willFreeze", "(II)Z"⟩
abbrev cX3_frozenInRow : ByteArray := prog_1_method_20_code
def yX3_frozenInRow : MethodName := ⟨RX3, "frozenInRow", "(I)I"⟩
abbrev cX3_flowers : ByteArray := prog_1_method_21_code
def yX3_flowers : MethodName := ⟨RX3, "flowers", "()I"⟩
abbrev cX3_largestFlower : ByteArray := prog_1_method_22_code
def yX3_largestFlower : MethodName := ⟨RX3, "largestFlower", "()I"⟩
abbrev cX3_flowerAt : ByteArray := prog_1_method_23_code
def yX3_flowerAt : MethodName := ⟨RX3, "flowerAt", "(II)I"⟩
abbrev cX3_isMirrored : ByteArray := prog_1_method_24_code
def yX3_isMirrored : MethodName := ⟨RX3, "isMirrored", "()Z"⟩
abbrev cX3_comesAgainIn : ByteArray := prog_1_method_26_code
def yX3_comesAgainIn : MethodName := ⟨RX3, "comesAgainIn", "()I"⟩
abbrev cX3_standsStillIn : ByteArray := prog_1_method_27_code
def yX3_standsStillIn : MethodName := ⟨RX3, "standsStillIn", "()I"⟩
abbrev cX3_peakIn : ByteArray := prog_1_method_28_code
def yX3_peakIn : MethodName := ⟨RX3, "peakIn", "(I)I"⟩
abbrev cX3_bestBreath : ByteArray := prog_1_method_29_code
def yX3_bestBreath : MethodName := ⟨RX3, "bestBreath", "(I)I"⟩
abbrev cX3_meanInRows : ByteArray := prog_1_method_30_code
def yX3_meanInRows : MethodName := ⟨RX3, "meanInRows", "()D"⟩
abbrev cX3_digest : ByteArray := prog_1_method_31_code
def yX3_digest : MethodName := ⟨RX3, "digest", "()J"⟩
abbrev cX3_digestOfRow : ByteArray := prog_1_method_32_code
def yX3_digestOfRow : MethodName := ⟨RX3, "digestOfRow", "(JI)J"⟩
abbrev cX3_mixed : ByteArray := prog_1_method_33_code
def yX3_mixed : MethodName := ⟨RX3, "mixed", "(JJ)J"⟩
abbrev cX3_asNumber : ByteArray := prog_1_method_34_code
def yX3_asNumber : MethodName := ⟨RX3, "asNumber", "(Z)J"⟩
abbrev cX3_frostBehind : ByteArray := prog_1_method_35_code
def yX3_frostBehind : MethodName := ⟨RX3, "frostBehind", "(II)I"⟩
abbrev cX3_requireCell : ByteArray := prog_1_method_36_code
def yX3_requireCell : MethodName := ⟨RX3, "requireCell", "(II)V"⟩
abbrev cX3_requireWithin : ByteArray := prog_1_method_37_code
def yX3_requireWithin : MethodName := ⟨RX3, "requireWithin", "(III)V"⟩
def RX4 : String := "FrostPaneLaw$Sim"
def TX4 : u_T := fun k => match k with
  | 0 => ("FrostPaneLaw$Sim", "ice", "[[Z", false)
  | 1 => ("FrostPaneLaw$Sim", "melt", "[[I", false)
  | 2 => ("FrostPaneLaw$Sim", "frame", "I", false)
  | 3 => ("FrostPaneLaw$Sim", "generation", "I", false)
  | 4 => ("FrostPaneLaw$Sim", "breath", "I", false)
  | _ => ("FrostPaneLaw$Sim", "rules", "[[I", false)
def tyX4 : Nat → FieldType := fun k => match k with
  | 0 => .array (.array .boolean)
  | 1 => .array (.array .int)
  | 2 => .int
  | 3 => .int
  | 4 => .int
  | _ => .array (.array .int)
abbrev wsX40 : List Cond := u_ws RX4 TX4 6
theorem nmX4 : ∀ a, a < 6 → ∀ b, b < 6 → a ≠ b → (TX4 a).2.1 ≠ (TX4 b).2.1 := by decide +kernel
theorem tyX4_ok : ∀ k, k < 6 → parseFieldDescriptor (TX4 k).2.2.1 = some (tyX4 k) := by decide +kernel
abbrev cX4_init : ByteArray := prog_6_method_1_code
def yX4_init : MethodName := ⟨RX4, "<init>", "()V"⟩
abbrev cX4_with : ByteArray := prog_6_method_2_code
def yX4_with : MethodName := ⟨RX4, "with", "([[I[I)[[I"⟩
abbrev cX4_copy : ByteArray := prog_6_method_3_code
def yX4_copy : MethodName := ⟨RX4, "copy", "()LFrostPaneLaw$Sim;"⟩
abbrev cX4_lay : ByteArray := prog_6_method_4_code
def yX4_lay : MethodName := ⟨RX4, "lay", "(II)V"⟩
abbrev cX4_isCell : ByteArray := prog_6_method_5_code
def yX4_isCell : MethodName := ⟨RX4, "isCell", "(II)Z"⟩
abbrev cX4_around : ByteArray := prog_6_method_6_code
def yX4_around : MethodName := ⟨RX4, "around", "(II)I"⟩
abbrev cX4_will : ByteArray := prog_6_method_7_code
def yX4_will : MethodName := ⟨RX4, "will", "(II)Z"⟩
abbrev cX4_grow : ByteArray := prog_6_method_8_code
def yX4_grow : MethodName := ⟨RX4, "grow", "()V"⟩
abbrev cX4_frozen : ByteArray := prog_6_method_9_code
def yX4_frozen : MethodName := ⟨RX4, "frozen", "()I"⟩
abbrev cX4_melted : ByteArray := prog_6_method_10_code
def yX4_melted : MethodName := ⟨RX4, "melted", "()I"⟩
abbrev cX4_press : ByteArray := prog_6_method_11_code
def yX4_press : MethodName := ⟨RX4, "press", "(III)I"⟩
abbrev cX4_isLike : ByteArray := prog_6_method_12_code
def yX4_isLike : MethodName := ⟨RX4, "isLike", "(LFrostPaneLaw$Sim;)Z"⟩
abbrev cX4_flowers : ByteArray := prog_6_method_13_code
def yX4_flowers : MethodName := ⟨RX4, "flowers", "()[[I"⟩
abbrev cX4_isSame : ByteArray := prog_6_method_14_code
def yX4_isSame : MethodName := ⟨RX4, "isSame", "(LFrostPane;)Z"⟩
def RX5 : String := "FrostPaneModel"
def TX5 : u_T := fun k => match k with
  | _ => ("", "", "", false)
def tyX5 : Nat → FieldType := fun k => match k with
  | _ => .int
abbrev wsX50 : List Cond := u_ws RX5 TX5 0
theorem nmX5 : ∀ a, a < 0 → ∀ b, b < 0 → a ≠ b → (TX5 a).2.1 ≠ (TX5 b).2.1 := by decide +kernel
theorem tyX5_ok : ∀ k, k < 0 → parseFieldDescriptor (TX5 k).2.2.1 = some (tyX5 k) := by decide +kernel
def RJx145de : String := "java/io/Serializable"
def TJx145de : u_T := fun k => match k with
  | _ => ("", "", "", false)
def tyJx145de : Nat → FieldType := fun k => match k with
  | _ => .int
abbrev wsJx145de0 : List Cond := u_ws RJx145de TJx145de 0
theorem nmJx145de : ∀ a, a < 0 → ∀ b, b < 0 → a ≠ b → (TJx145de a).2.1 ≠ (TJx145de b).2.1 := by decide +kernel
theorem tyJx145de_ok : ∀ k, k < 0 → parseFieldDescriptor (TJx145de k).2.2.1 = some (tyJx145de k) := by decide +kernel
def RJx8e188 : String := "java/lang/Cloneable"
def TJx8e188 : u_T := fun k => match k with
  | _ => ("", "", "", false)
def tyJx8e188 : Nat → FieldType := fun k => match k with
  | _ => .int
abbrev wsJx8e1880 : List Cond := u_ws RJx8e188 TJx8e188 0
theorem nmJx8e188 : ∀ a, a < 0 → ∀ b, b < 0 → a ≠ b → (TJx8e188 a).2.1 ≠ (TJx8e188 b).2.1 := by decide +kernel
theorem tyJx8e188_ok : ∀ k, k < 0 → parseFieldDescriptor (TJx8e188 k).2.2.1 = some (tyJx8e188 k) := by decide +kernel
def RJ6 : String := "java/lang/Integer"
def TJ6 : u_T := fun k => match k with
  | _ => ("", "", "", false)
def tyJ6 : Nat → FieldType := fun k => match k with
  | _ => .int
abbrev wsJ60 : List Cond := u_ws RJ6 TJ6 0
theorem nmJ6 : ∀ a, a < 0 → ∀ b, b < 0 → a ≠ b → (TJ6 a).2.1 ≠ (TJ6 b).2.1 := by decide +kernel
theorem tyJ6_ok : ∀ k, k < 0 → parseFieldDescriptor (TJ6 k).2.2.1 = some (tyJ6 k) := by decide +kernel
abbrev cJ6_bitCount_0f7a4 : ByteArray := prog_13_method_49_code
def yJ6_bitCount_0f7a4 : MethodName := ⟨RJ6, "bitCount", "(I)I"⟩
def RJ9 : String := "java/lang/Math"
def TJ9 : u_T := fun k => match k with
  | _ => ("", "", "", false)
def tyJ9 : Nat → FieldType := fun k => match k with
  | _ => .int
abbrev wsJ90 : List Cond := u_ws RJ9 TJ9 0
theorem nmJ9 : ∀ a, a < 0 → ∀ b, b < 0 → a ≠ b → (TJ9 a).2.1 ≠ (TJ9 b).2.1 := by decide +kernel
theorem tyJ9_ok : ∀ k, k < 0 → parseFieldDescriptor (TJ9 k).2.2.1 = some (tyJ9 k) := by decide +kernel
abbrev cJ9_abs_0f7a4 : ByteArray := prog_14_method_59_code
def yJ9_abs_0f7a4 : MethodName := ⟨RJ9, "abs", "(I)I"⟩
abbrev cJ9_max_7cf53 : ByteArray := prog_14_method_65_code
def yJ9_max_7cf53 : MethodName := ⟨RJ9, "max", "(II)I"⟩
abbrev cJ9_min_7cf53 : ByteArray := prog_14_method_69_code
def yJ9_min_7cf53 : MethodName := ⟨RJ9, "min", "(II)I"⟩
def RJ0 : String := "java/lang/String"
def TJ0 : u_T := fun k => match k with
  | _ => ("", "", "", false)
def tyJ0 : Nat → FieldType := fun k => match k with
  | _ => .int
abbrev wsJ00 : List Cond := u_ws RJ0 TJ0 0
theorem nmJ0 : ∀ a, a < 0 → ∀ b, b < 0 → a ≠ b → (TJ0 a).2.1 ≠ (TJ0 b).2.1 := by decide +kernel
theorem tyJ0_ok : ∀ k, k < 0 → parseFieldDescriptor (TJ0 k).2.2.1 = some (tyJ0 k) := by decide +kernel
def RJ10 : String := "java/lang/System"
def TJ10 : u_T := fun k => match k with
  | _ => ("", "", "", false)
def tyJ10 : Nat → FieldType := fun k => match k with
  | _ => .int
abbrev wsJ100 : List Cond := u_ws RJ10 TJ10 0
theorem nmJ10 : ∀ a, a < 0 → ∀ b, b < 0 → a ≠ b → (TJ10 a).2.1 ≠ (TJ10 b).2.1 := by decide +kernel
theorem tyJ10_ok : ∀ k, k < 0 → parseFieldDescriptor (TJ10 k).2.2.1 = some (tyJ10 k) := by decide +kernel
def RJ7 : String := "java/util/Arrays"
def TJ7 : u_T := fun k => match k with
  | _ => ("", "", "", false)
def tyJ7 : Nat → FieldType := fun k => match k with
  | _ => .int
abbrev wsJ70 : List Cond := u_ws RJ7 TJ7 0
theorem nmJ7 : ∀ a, a < 0 → ∀ b, b < 0 → a ≠ b → (TJ7 a).2.1 ≠ (TJ7 b).2.1 := by decide +kernel
theorem tyJ7_ok : ∀ k, k < 0 → parseFieldDescriptor (TJ7 k).2.2.1 = some (tyJ7 k) := by decide +kernel
abbrev cJ7_fill_53178 : ByteArray := prog_19_method_103_code
def yJ7_fill_53178 : MethodName := ⟨RJ7, "fill", "([II)V"⟩
def RL : String := "FrostPaneLaw"
abbrev cL_below : ByteArray := method_2_code
def yL_below : MethodName := ⟨RL, "below", "(II)I"⟩
abbrev cL_cell : ByteArray := method_3_code
def yL_cell : MethodName := ⟨RL, "cell", "([II)I"⟩
abbrev cL_act : ByteArray := method_4_code
def yL_act : MethodName := ⟨RL, "act", "(LFrostPane;LFrostPaneLaw$Sim;I)Z"⟩
abbrev cL_build : ByteArray := method_5_code
def yL_build : MethodName := ⟨RL, "build", "(LFrostPane;[I)LFrostPaneLaw$Sim;"⟩
abbrev cL_law : ByteArray := code
def yL_law : MethodName := ⟨RL, "law", "([I)Z"⟩
abbrev cL_behind : ByteArray := method_7_code
def yL_behind : MethodName := ⟨RL, "behind", "(LFrostPaneLaw$Sim;II)LFrostPaneLaw$Sim;"⟩
def wsX0_init : List Cond := .code yX0_init cX0_init 1 none :: ([.methodLink RX0 3 objectInit, .instanceMethod objectInit, .code objectInit ⟨#[0xb1]⟩ 1 none, .arrayClass .int, .fieldLink RX0 9 "FrostPane$FlowerPicker" "left" "[I", .fieldLink RX0 15 "FrostPane$FlowerPicker" "flower" "[I"] ++ wsX00)
def wsX1_bitsOf : List Cond := .code yX1_bitsOf cX1_bitsOf 2 (some .int) :: ([.fieldLink RX1 9 "FrostPane$Pane" "frost" "[I"] ++ wsX10)
def wsX0_spreadOut : List Cond := .code yX0_spreadOut cX0_spreadOut 3 none :: ([.fieldLink RX0 9 "FrostPane$FlowerPicker" "left" "[I", .methodLink RX0 18 yX1_bitsOf, .instanceMethod yX1_bitsOf, .selects RX1 yX1_bitsOf yX1_bitsOf, .initialized RX1, .code yX1_bitsOf cX1_bitsOf 2 (some .int), .fieldLink RX1 9 "FrostPane$Pane" "frost" "[I"] ++ wsX00 ++ wsX10)
def wsJ7_fill_53178 : List Cond := .code yJ7_fill_53178 cJ7_fill_53178 4 none :: ([])
def wsX0_flowerIn : List Cond := .code yX0_flowerIn cX0_flowerIn 2 (some .int) :: ([.fieldLink RX0 15 "FrostPane$FlowerPicker" "flower" "[I"] ++ wsX00)
def wsX0_widen : List Cond := .code yX0_widen cX0_widen 5 (some .boolean) :: ([.fieldLink RX0 15 "FrostPane$FlowerPicker" "flower" "[I", .fieldLink RX0 9 "FrostPane$FlowerPicker" "left" "[I", .methodLink RX0 38 yX0_flowerIn, .instanceMethod yX0_flowerIn, .selects RX0 yX0_flowerIn yX0_flowerIn, .initialized RX0, .code yX0_flowerIn cX0_flowerIn 2 (some .int)] ++ wsX00)
def wsJ6_bitCount_0f7a4 : List Cond := .code yJ6_bitCount_0f7a4 cJ6_bitCount_0f7a4 1 (some .int) :: ([.constant RJ6 265 (1431655765), .constant RJ6 266 (858993459), .constant RJ6 267 (252645135)])
def wsX0_takeAway : List Cond := .code yX0_takeAway cX0_takeAway 3 (some .int) :: ([.fieldLink RX0 15 "FrostPane$FlowerPicker" "flower" "[I", .fieldLink RX0 9 "FrostPane$FlowerPicker" "left" "[I", .methodLink RX0 41 yJ6_bitCount_0f7a4, .static yJ6_bitCount_0f7a4, .initialized RJ6, .code yJ6_bitCount_0f7a4 cJ6_bitCount_0f7a4 1 (some .int), .constant RJ6 265 (1431655765), .constant RJ6 266 (858993459), .constant RJ6 267 (252645135)] ++ wsX00)
def wsX0_pick_r1 : List Cond := [Cond.fieldLink RX0 9 "FrostPane$FlowerPicker" "left" "[I", Cond.fieldLink RX0 15 "FrostPane$FlowerPicker" "flower" "[I", Cond.methodLink RX0 24 yJ7_fill_53178, Cond.static yJ7_fill_53178, Cond.initialized RJ7, Cond.code yJ7_fill_53178 cJ7_fill_53178 4 none, Cond.methodLink RX0 30 yX0_widen, Cond.instanceMethod yX0_widen, Cond.selects RX0 yX0_widen yX0_widen, Cond.initialized RX0, Cond.code yX0_widen cX0_widen 5 (some .boolean), Cond.methodLink RX0 38 yX0_flowerIn, Cond.instanceMethod yX0_flowerIn, Cond.selects RX0 yX0_flowerIn yX0_flowerIn, Cond.code yX0_flowerIn cX0_flowerIn 2 (some .int), Cond.methodLink RX0 34 yX0_takeAway, Cond.instanceMethod yX0_takeAway, Cond.selects RX0 yX0_takeAway yX0_takeAway, Cond.code yX0_takeAway cX0_takeAway 3 (some .int), Cond.methodLink RX0 41 yJ6_bitCount_0f7a4, Cond.static yJ6_bitCount_0f7a4, Cond.initialized RJ6, Cond.code yJ6_bitCount_0f7a4 cJ6_bitCount_0f7a4 1 (some .int), Cond.constant RJ6 265 (1431655765)]
def wsX0_pick_r2 : List Cond := [Cond.constant RJ6 266 (858993459), Cond.constant RJ6 267 (252645135)]
def wsX0_pick : List Cond := .code yX0_pick cX0_pick 4 (some .int) :: ((wsX0_pick_r1 ++ wsX0_pick_r2) ++ wsX00)
def wsX1_init : List Cond := .code yX1_init cX1_init 1 none :: ([.methodLink RX1 3 objectInit, .instanceMethod objectInit, .code objectInit ⟨#[0xb1]⟩ 1 none, .arrayClass .int, .fieldLink RX1 9 "FrostPane$Pane" "frost" "[I", .fieldLink RX1 15 "FrostPane$Pane" "frostNext" "[I", .fieldLink RX1 18 "FrostPane$Pane" "melts" "[I"] ++ wsX10)
def wsX1_layClear : List Cond := .code yX1_layClear cX1_layClear 3 none :: ([.fieldLink RX1 21 "FrostPane$Pane" "columns" "I", .fieldLink RX1 25 "FrostPane$Pane" "rows" "I", .fieldLink RX1 9 "FrostPane$Pane" "frost" "[I", .fieldLink RX1 18 "FrostPane$Pane" "melts" "[I", .methodLink RX1 28 yJ7_fill_53178, .static yJ7_fill_53178, .initialized RJ7, .code yJ7_fill_53178 cJ7_fill_53178 4 none] ++ wsX10)
def wsX1_becomeLike : List Cond := .code yX1_becomeLike cX1_becomeLike 2 none :: ([.fieldLink RX1 21 "FrostPane$Pane" "columns" "I", .fieldLink RX1 25 "FrostPane$Pane" "rows" "I", .fieldLink RX1 34 "FrostPane$Pane" "frame" "I", .fieldLink RX1 9 "FrostPane$Pane" "frost" "[I", .methodLink RX1 37 Lib.Math.min.name, .static Lib.Math.min.name, .initialized "java/lang/Math", .code Lib.Math.min.name Lib.Math.min.code 2 (some .int), .methodLink RX1 43 arraycopyName, .native arraycopyName, .static arraycopyName, .initialized "java/lang/System", .fieldLink RX1 18 "FrostPane$Pane" "melts" "[I"] ++ wsX10)
def wsX1_meltOf : List Cond := .code yX1_meltOf cX1_meltOf 4 (some .int) :: ([.fieldLink RX1 18 "FrostPane$Pane" "melts" "[I"] ++ wsX10)
def wsX1_isLike : List Cond := .code yX1_isLike cX1_isLike 4 (some .boolean) :: ([.fieldLink RX1 25 "FrostPane$Pane" "rows" "I", .fieldLink RX1 21 "FrostPane$Pane" "columns" "I", .methodLink RX1 49 yX1_bitsOf, .instanceMethod yX1_bitsOf, .selects RX1 yX1_bitsOf yX1_bitsOf, .initialized RX1, .code yX1_bitsOf cX1_bitsOf 2 (some .int), .fieldLink RX1 9 "FrostPane$Pane" "frost" "[I", .methodLink RX1 53 yX1_meltOf, .instanceMethod yX1_meltOf, .selects RX1 yX1_meltOf yX1_meltOf, .code yX1_meltOf cX1_meltOf 4 (some .int), .fieldLink RX1 18 "FrostPane$Pane" "melts" "[I"] ++ wsX10)
def wsX1_hasRow : List Cond := .code yX1_hasRow cX1_hasRow 2 (some .boolean) :: ([.fieldLink RX1 25 "FrostPane$Pane" "rows" "I"] ++ wsX10)
def wsX1_hasCell : List Cond := .code yX1_hasCell cX1_hasCell 3 (some .boolean) :: ([.fieldLink RX1 21 "FrostPane$Pane" "columns" "I", .methodLink RX1 56 yX1_hasRow, .instanceMethod yX1_hasRow, .selects RX1 yX1_hasRow yX1_hasRow, .initialized RX1, .code yX1_hasRow cX1_hasRow 2 (some .boolean), .fieldLink RX1 25 "FrostPane$Pane" "rows" "I"] ++ wsX10)
def wsX1_hasFrost : List Cond := .code yX1_hasFrost cX1_hasFrost 3 (some .boolean) :: ([.methodLink RX1 49 yX1_bitsOf, .instanceMethod yX1_bitsOf, .selects RX1 yX1_bitsOf yX1_bitsOf, .initialized RX1, .code yX1_bitsOf cX1_bitsOf 2 (some .int), .fieldLink RX1 9 "FrostPane$Pane" "frost" "[I"] ++ wsX10)
def wsX1_flip : List Cond := .code yX1_flip cX1_flip 3 none :: ([.fieldLink RX1 9 "FrostPane$Pane" "frost" "[I", .methodLink RX1 60 yX1_hasCell, .instanceMethod yX1_hasCell, .selects RX1 yX1_hasCell yX1_hasCell, .initialized RX1, .code yX1_hasCell cX1_hasCell 3 (some .boolean), .fieldLink RX1 21 "FrostPane$Pane" "columns" "I", .methodLink RX1 56 yX1_hasRow, .instanceMethod yX1_hasRow, .selects RX1 yX1_hasRow yX1_hasRow, .code yX1_hasRow cX1_hasRow 2 (some .boolean), .fieldLink RX1 25 "FrostPane$Pane" "rows" "I"] ++ wsX10)
def wsX1_melt_r1 : List Cond := [Cond.fieldLink RX1 18 "FrostPane$Pane" "melts" "[I", Cond.methodLink RX1 60 yX1_hasCell, Cond.instanceMethod yX1_hasCell, Cond.selects RX1 yX1_hasCell yX1_hasCell, Cond.initialized RX1, Cond.code yX1_hasCell cX1_hasCell 3 (some .boolean), Cond.fieldLink RX1 21 "FrostPane$Pane" "columns" "I", Cond.methodLink RX1 56 yX1_hasRow, Cond.instanceMethod yX1_hasRow, Cond.selects RX1 yX1_hasRow yX1_hasRow, Cond.code yX1_hasRow cX1_hasRow 2 (some .boolean), Cond.fieldLink RX1 25 "FrostPane$Pane" "rows" "I", Cond.methodLink RX1 64 yX1_hasFrost, Cond.instanceMethod yX1_hasFrost, Cond.selects RX1 yX1_hasFrost yX1_hasFrost, Cond.code yX1_hasFrost cX1_hasFrost 3 (some .boolean), Cond.methodLink RX1 49 yX1_bitsOf, Cond.instanceMethod yX1_bitsOf, Cond.selects RX1 yX1_bitsOf yX1_bitsOf, Cond.code yX1_bitsOf cX1_bitsOf 2 (some .int), Cond.fieldLink RX1 9 "FrostPane$Pane" "frost" "[I", Cond.methodLink RX1 67 yX1_flip, Cond.instanceMethod yX1_flip, Cond.selects RX1 yX1_flip yX1_flip]
def wsX1_melt_r2 : List Cond := [Cond.code yX1_flip cX1_flip 3 none]
def wsX1_melt : List Cond := .code yX1_melt cX1_melt 6 (some .int) :: ((wsX1_melt_r1 ++ wsX1_melt_r2) ++ wsX10)
def wsX1_countFrost : List Cond := .code yX1_countFrost cX1_countFrost 3 (some .int) :: ([.fieldLink RX1 25 "FrostPane$Pane" "rows" "I", .methodLink RX1 49 yX1_bitsOf, .instanceMethod yX1_bitsOf, .selects RX1 yX1_bitsOf yX1_bitsOf, .initialized RX1, .code yX1_bitsOf cX1_bitsOf 2 (some .int), .fieldLink RX1 9 "FrostPane$Pane" "frost" "[I", .methodLink RX1 71 yJ6_bitCount_0f7a4, .static yJ6_bitCount_0f7a4, .initialized RJ6, .code yJ6_bitCount_0f7a4 cJ6_bitCount_0f7a4 1 (some .int), .constant RJ6 265 (1431655765), .constant RJ6 266 (858993459), .constant RJ6 267 (252645135)] ++ wsX10)
def wsX1_countMelted : List Cond := .code yX1_countMelted cX1_countMelted 3 (some .int) :: ([.fieldLink RX1 18 "FrostPane$Pane" "melts" "[I"] ++ wsX10)
def wsX1_withSides : List Cond := .code yX1_withSides cX1_withSides 4 (some .int) :: ([.fieldLink RX1 34 "FrostPane$Pane" "frame" "I", .fieldLink RX1 21 "FrostPane$Pane" "columns" "I"] ++ wsX10)
def wsX1_framed : List Cond := .code yX1_framed cX1_framed 2 (some .int) :: ([.fieldLink RX1 34 "FrostPane$Pane" "frame" "I", .fieldLink RX1 25 "FrostPane$Pane" "rows" "I", .methodLink RX1 56 yX1_hasRow, .instanceMethod yX1_hasRow, .selects RX1 yX1_hasRow yX1_hasRow, .initialized RX1, .code yX1_hasRow cX1_hasRow 2 (some .boolean), .methodLink RX1 49 yX1_bitsOf, .instanceMethod yX1_bitsOf, .selects RX1 yX1_bitsOf yX1_bitsOf, .code yX1_bitsOf cX1_bitsOf 2 (some .int), .fieldLink RX1 9 "FrostPane$Pane" "frost" "[I", .methodLink RX1 94 yX1_withSides, .instanceMethod yX1_withSides, .selects RX1 yX1_withSides yX1_withSides, .code yX1_withSides cX1_withSides 4 (some .int), .fieldLink RX1 21 "FrostPane$Pane" "columns" "I"] ++ wsX10)
def wsX1_countIn : List Cond := .code yX1_countIn cX1_countIn 4 (some .int) :: ([.methodLink RX1 71 yJ6_bitCount_0f7a4, .static yJ6_bitCount_0f7a4, .initialized RJ6, .code yJ6_bitCount_0f7a4 cJ6_bitCount_0f7a4 1 (some .int), .constant RJ6 265 (1431655765), .constant RJ6 266 (858993459), .constant RJ6 267 (252645135)])
def wsX1_countAround_r1 : List Cond := [Cond.methodLink RX1 76 yX1_framed, Cond.instanceMethod yX1_framed, Cond.selects RX1 yX1_framed yX1_framed, Cond.initialized RX1, Cond.code yX1_framed cX1_framed 2 (some .int), Cond.fieldLink RX1 34 "FrostPane$Pane" "frame" "I", Cond.fieldLink RX1 25 "FrostPane$Pane" "rows" "I", Cond.methodLink RX1 56 yX1_hasRow, Cond.instanceMethod yX1_hasRow, Cond.selects RX1 yX1_hasRow yX1_hasRow, Cond.code yX1_hasRow cX1_hasRow 2 (some .boolean), Cond.methodLink RX1 49 yX1_bitsOf, Cond.instanceMethod yX1_bitsOf, Cond.selects RX1 yX1_bitsOf yX1_bitsOf, Cond.code yX1_bitsOf cX1_bitsOf 2 (some .int), Cond.fieldLink RX1 9 "FrostPane$Pane" "frost" "[I", Cond.methodLink RX1 94 yX1_withSides, Cond.instanceMethod yX1_withSides, Cond.selects RX1 yX1_withSides yX1_withSides, Cond.code yX1_withSides cX1_withSides 4 (some .int), Cond.fieldLink RX1 21 "FrostPane$Pane" "columns" "I", Cond.methodLink RX1 79 yX1_countIn, Cond.static yX1_countIn, Cond.code yX1_countIn cX1_countIn 4 (some .int)]
def wsX1_countAround_r2 : List Cond := [Cond.methodLink RX1 71 yJ6_bitCount_0f7a4, Cond.static yJ6_bitCount_0f7a4, Cond.initialized RJ6, Cond.code yJ6_bitCount_0f7a4 cJ6_bitCount_0f7a4 1 (some .int), Cond.constant RJ6 265 (1431655765), Cond.constant RJ6 266 (858993459), Cond.constant RJ6 267 (252645135)]
def wsX1_countAround : List Cond := .code yX1_countAround cX1_countAround 3 (some .int) :: ((wsX1_countAround_r1 ++ wsX1_countAround_r2) ++ wsX10)
def wsX1_grownRow_r1 : List Cond := [Cond.fieldLink RX1 21 "FrostPane$Pane" "columns" "I", Cond.methodLink RX1 76 yX1_framed, Cond.instanceMethod yX1_framed, Cond.selects RX1 yX1_framed yX1_framed, Cond.initialized RX1, Cond.code yX1_framed cX1_framed 2 (some .int), Cond.fieldLink RX1 34 "FrostPane$Pane" "frame" "I", Cond.fieldLink RX1 25 "FrostPane$Pane" "rows" "I", Cond.methodLink RX1 56 yX1_hasRow, Cond.instanceMethod yX1_hasRow, Cond.selects RX1 yX1_hasRow yX1_hasRow, Cond.code yX1_hasRow cX1_hasRow 2 (some .boolean), Cond.methodLink RX1 49 yX1_bitsOf, Cond.instanceMethod yX1_bitsOf, Cond.selects RX1 yX1_bitsOf yX1_bitsOf, Cond.code yX1_bitsOf cX1_bitsOf 2 (some .int), Cond.fieldLink RX1 9 "FrostPane$Pane" "frost" "[I", Cond.methodLink RX1 94 yX1_withSides, Cond.instanceMethod yX1_withSides, Cond.selects RX1 yX1_withSides yX1_withSides, Cond.code yX1_withSides cX1_withSides 4 (some .int), Cond.methodLink RX1 64 yX1_hasFrost, Cond.instanceMethod yX1_hasFrost, Cond.selects RX1 yX1_hasFrost yX1_hasFrost]
def wsX1_grownRow_r2 : List Cond := [Cond.code yX1_hasFrost cX1_hasFrost 3 (some .boolean), Cond.methodLink RX1 79 yX1_countIn, Cond.static yX1_countIn, Cond.code yX1_countIn cX1_countIn 4 (some .int), Cond.methodLink RX1 71 yJ6_bitCount_0f7a4, Cond.static yJ6_bitCount_0f7a4, Cond.initialized RJ6, Cond.code yJ6_bitCount_0f7a4 cJ6_bitCount_0f7a4 1 (some .int), Cond.constant RJ6 265 (1431655765), Cond.constant RJ6 266 (858993459), Cond.constant RJ6 267 (252645135), Cond.methodLink RX1 53 yX1_meltOf, Cond.instanceMethod yX1_meltOf, Cond.selects RX1 yX1_meltOf yX1_meltOf, Cond.code yX1_meltOf cX1_meltOf 4 (some .int), Cond.fieldLink RX1 18 "FrostPane$Pane" "melts" "[I"]
def wsX1_grownRow : List Cond := .code yX1_grownRow cX1_grownRow 11 (some .int) :: ((wsX1_grownRow_r1 ++ wsX1_grownRow_r2) ++ wsX10)
def wsX1_isFrozenNext_r1 : List Cond := [Cond.methodLink RX1 83 yX1_grownRow, Cond.instanceMethod yX1_grownRow, Cond.selects RX1 yX1_grownRow yX1_grownRow, Cond.initialized RX1, Cond.code yX1_grownRow cX1_grownRow 11 (some .int), Cond.fieldLink RX1 21 "FrostPane$Pane" "columns" "I", Cond.methodLink RX1 76 yX1_framed, Cond.instanceMethod yX1_framed, Cond.selects RX1 yX1_framed yX1_framed, Cond.code yX1_framed cX1_framed 2 (some .int), Cond.fieldLink RX1 34 "FrostPane$Pane" "frame" "I", Cond.fieldLink RX1 25 "FrostPane$Pane" "rows" "I", Cond.methodLink RX1 56 yX1_hasRow, Cond.instanceMethod yX1_hasRow, Cond.selects RX1 yX1_hasRow yX1_hasRow, Cond.code yX1_hasRow cX1_hasRow 2 (some .boolean), Cond.methodLink RX1 49 yX1_bitsOf, Cond.instanceMethod yX1_bitsOf, Cond.selects RX1 yX1_bitsOf yX1_bitsOf, Cond.code yX1_bitsOf cX1_bitsOf 2 (some .int), Cond.fieldLink RX1 9 "FrostPane$Pane" "frost" "[I", Cond.methodLink RX1 94 yX1_withSides, Cond.instanceMethod yX1_withSides, Cond.selects RX1 yX1_withSides yX1_withSides]
def wsX1_isFrozenNext_r2 : List Cond := [Cond.code yX1_withSides cX1_withSides 4 (some .int), Cond.methodLink RX1 64 yX1_hasFrost, Cond.instanceMethod yX1_hasFrost, Cond.selects RX1 yX1_hasFrost yX1_hasFrost, Cond.code yX1_hasFrost cX1_hasFrost 3 (some .boolean), Cond.methodLink RX1 79 yX1_countIn, Cond.static yX1_countIn, Cond.code yX1_countIn cX1_countIn 4 (some .int), Cond.methodLink RX1 71 yJ6_bitCount_0f7a4, Cond.static yJ6_bitCount_0f7a4, Cond.initialized RJ6, Cond.code yJ6_bitCount_0f7a4 cJ6_bitCount_0f7a4 1 (some .int), Cond.constant RJ6 265 (1431655765), Cond.constant RJ6 266 (858993459), Cond.constant RJ6 267 (252645135), Cond.methodLink RX1 53 yX1_meltOf, Cond.instanceMethod yX1_meltOf, Cond.selects RX1 yX1_meltOf yX1_meltOf, Cond.code yX1_meltOf cX1_meltOf 4 (some .int), Cond.fieldLink RX1 18 "FrostPane$Pane" "melts" "[I"]
def wsX1_isFrozenNext : List Cond := .code yX1_isFrozenNext cX1_isFrozenNext 5 (some .boolean) :: ((wsX1_isFrozenNext_r1 ++ wsX1_isFrozenNext_r2) ++ wsX10)
def wsX1_meltLess : List Cond := .code yX1_meltLess cX1_meltLess 2 none :: ([.fieldLink RX1 18 "FrostPane$Pane" "melts" "[I"] ++ wsX10)
def wsX1_takeNext : List Cond := .code yX1_takeNext cX1_takeNext 3 (some .boolean) :: ([.fieldLink RX1 25 "FrostPane$Pane" "rows" "I", .fieldLink RX1 15 "FrostPane$Pane" "frostNext" "[I", .fieldLink RX1 9 "FrostPane$Pane" "frost" "[I"] ++ wsX10)
def wsX1_step_r1 : List Cond := [Cond.fieldLink RX1 25 "FrostPane$Pane" "rows" "I", Cond.fieldLink RX1 15 "FrostPane$Pane" "frostNext" "[I", Cond.methodLink RX1 83 yX1_grownRow, Cond.instanceMethod yX1_grownRow, Cond.selects RX1 yX1_grownRow yX1_grownRow, Cond.initialized RX1, Cond.code yX1_grownRow cX1_grownRow 11 (some .int), Cond.fieldLink RX1 21 "FrostPane$Pane" "columns" "I", Cond.methodLink RX1 76 yX1_framed, Cond.instanceMethod yX1_framed, Cond.selects RX1 yX1_framed yX1_framed, Cond.code yX1_framed cX1_framed 2 (some .int), Cond.fieldLink RX1 34 "FrostPane$Pane" "frame" "I", Cond.methodLink RX1 56 yX1_hasRow, Cond.instanceMethod yX1_hasRow, Cond.selects RX1 yX1_hasRow yX1_hasRow, Cond.code yX1_hasRow cX1_hasRow 2 (some .boolean), Cond.methodLink RX1 49 yX1_bitsOf, Cond.instanceMethod yX1_bitsOf, Cond.selects RX1 yX1_bitsOf yX1_bitsOf, Cond.code yX1_bitsOf cX1_bitsOf 2 (some .int), Cond.fieldLink RX1 9 "FrostPane$Pane" "frost" "[I", Cond.methodLink RX1 94 yX1_withSides, Cond.instanceMethod yX1_withSides]
def wsX1_step_r2 : List Cond := [Cond.selects RX1 yX1_withSides yX1_withSides, Cond.code yX1_withSides cX1_withSides 4 (some .int), Cond.methodLink RX1 64 yX1_hasFrost, Cond.instanceMethod yX1_hasFrost, Cond.selects RX1 yX1_hasFrost yX1_hasFrost, Cond.code yX1_hasFrost cX1_hasFrost 3 (some .boolean), Cond.methodLink RX1 79 yX1_countIn, Cond.static yX1_countIn, Cond.code yX1_countIn cX1_countIn 4 (some .int), Cond.methodLink RX1 71 yJ6_bitCount_0f7a4, Cond.static yJ6_bitCount_0f7a4, Cond.initialized RJ6, Cond.code yJ6_bitCount_0f7a4 cJ6_bitCount_0f7a4 1 (some .int), Cond.constant RJ6 265 (1431655765), Cond.constant RJ6 266 (858993459), Cond.constant RJ6 267 (252645135), Cond.methodLink RX1 53 yX1_meltOf, Cond.instanceMethod yX1_meltOf, Cond.selects RX1 yX1_meltOf yX1_meltOf, Cond.code yX1_meltOf cX1_meltOf 4 (some .int), Cond.fieldLink RX1 18 "FrostPane$Pane" "melts" "[I", Cond.methodLink RX1 87 yX1_meltLess, Cond.instanceMethod yX1_meltLess, Cond.selects RX1 yX1_meltLess yX1_meltLess]
def wsX1_step_r3 : List Cond := [Cond.code yX1_meltLess cX1_meltLess 2 none, Cond.methodLink RX1 90 yX1_takeNext, Cond.instanceMethod yX1_takeNext, Cond.selects RX1 yX1_takeNext yX1_takeNext, Cond.code yX1_takeNext cX1_takeNext 3 (some .boolean)]
def wsX1_step : List Cond := .code yX1_step cX1_step 4 (some .boolean) :: ((wsX1_step_r1 ++ (wsX1_step_r2 ++ wsX1_step_r3)) ++ wsX10)
def wsX2_init : List Cond := .code yX2_init cX2_init 1 none :: ([.methodLink RX2 3 objectInit, .instanceMethod objectInit, .code objectInit ⟨#[0xb1]⟩ 1 none, .arrayClass .int, .fieldLink RX2 9 "FrostPane$RuleBook" "freezes" "[I", .fieldLink RX2 15 "FrostPane$RuleBook" "stays" "[I"] ++ wsX20)
def wsX2_isFull : List Cond := .code yX2_isFull cX2_isFull 1 (some .boolean) :: ([.fieldLink RX2 18 "FrostPane$RuleBook" "count" "I"] ++ wsX20)
def wsX2_has : List Cond := .code yX2_has cX2_has 2 (some .boolean) :: ([.fieldLink RX2 18 "FrostPane$RuleBook" "count" "I"] ++ wsX20)
def wsX2_append : List Cond := .code yX2_append cX2_append 4 (some .int) :: ([.fieldLink RX2 18 "FrostPane$RuleBook" "count" "I", .fieldLink RX2 9 "FrostPane$RuleBook" "freezes" "[I", .fieldLink RX2 15 "FrostPane$RuleBook" "stays" "[I"] ++ wsX20)
def wsX2_freezesBy : List Cond := .code yX2_freezesBy cX2_freezesBy 2 (some .int) :: ([.fieldLink RX2 9 "FrostPane$RuleBook" "freezes" "[I", .methodLink RX2 22 yX2_has, .instanceMethod yX2_has, .selects RX2 yX2_has yX2_has, .initialized RX2, .code yX2_has cX2_has 2 (some .boolean), .fieldLink RX2 18 "FrostPane$RuleBook" "count" "I"] ++ wsX20)
def wsX2_staysBy : List Cond := .code yX2_staysBy cX2_staysBy 2 (some .int) :: ([.fieldLink RX2 15 "FrostPane$RuleBook" "stays" "[I", .methodLink RX2 22 yX2_has, .instanceMethod yX2_has, .selects RX2 yX2_has yX2_has, .initialized RX2, .code yX2_has cX2_has 2 (some .boolean), .fieldLink RX2 18 "FrostPane$RuleBook" "count" "I"] ++ wsX20)
def wsX3_init_r1 : List Cond := [Cond.methodLink RX3 1 objectInit, Cond.instanceMethod objectInit, Cond.code objectInit ⟨#[0xb1]⟩ 1 none, Cond.classLink RX3 7 RX1, Cond.instantiable RX1 6, Cond.initialized RX1, Cond.fieldLink RX3 10 "FrostPane" "now" "LFrostPane$Pane;", Cond.fieldLink RX3 16 "FrostPane" "ahead" "LFrostPane$Pane;", Cond.classLink RX3 19 RX0, Cond.instantiable RX0 2, Cond.initialized RX0, Cond.fieldLink RX3 22 "FrostPane" "picker" "LFrostPane$FlowerPicker;", Cond.classLink RX3 26 RX2, Cond.instantiable RX2 3, Cond.initialized RX2, Cond.fieldLink RX3 29 "FrostPane" "book" "LFrostPane$RuleBook;", Cond.instanceMethod yX1_init, Cond.code yX1_init cX1_init 1 none, Cond.methodLink RX1 3 objectInit, Cond.arrayClass .int, Cond.fieldLink RX1 9 "FrostPane$Pane" "frost" "[I", Cond.fieldLink RX1 15 "FrostPane$Pane" "frostNext" "[I", Cond.fieldLink RX1 18 "FrostPane$Pane" "melts" "[I", Cond.instanceMethod yX0_init]
def wsX3_init_r2 : List Cond := [Cond.code yX0_init cX0_init 1 none, Cond.methodLink RX0 3 objectInit, Cond.fieldLink RX0 9 "FrostPane$FlowerPicker" "left" "[I", Cond.fieldLink RX0 15 "FrostPane$FlowerPicker" "flower" "[I", Cond.instanceMethod yX2_init, Cond.code yX2_init cX2_init 1 none, Cond.methodLink RX2 3 objectInit, Cond.fieldLink RX2 9 "FrostPane$RuleBook" "freezes" "[I", Cond.fieldLink RX2 15 "FrostPane$RuleBook" "stays" "[I", Cond.methodLink RX3 33 yX1_layClear, Cond.instanceMethod yX1_layClear, Cond.selects RX1 yX1_layClear yX1_layClear, Cond.code yX1_layClear cX1_layClear 3 none, Cond.fieldLink RX1 21 "FrostPane$Pane" "columns" "I", Cond.fieldLink RX1 25 "FrostPane$Pane" "rows" "I", Cond.methodLink RX1 28 yJ7_fill_53178, Cond.static yJ7_fill_53178, Cond.initialized RJ7, Cond.code yJ7_fill_53178 cJ7_fill_53178 4 none, Cond.methodLink RX3 37 yX2_append, Cond.instanceMethod yX2_append, Cond.selects RX2 yX2_append yX2_append, Cond.code yX2_append cX2_append 4 (some .int), Cond.fieldLink RX2 18 "FrostPane$RuleBook" "count" "I"]
def wsX3_init : List Cond := .code yX3_init cX3_init 1 none :: ((wsX3_init_r1 ++ wsX3_init_r2) ++ wsX10 ++ wsX30 ++ wsX00 ++ wsX20)
def wsX3_requireWithin : List Cond := .code yX3_requireWithin cX3_requireWithin 3 none :: ([.classLink RX3 233 "java/lang/IllegalArgumentException", .initialized "java/lang/IllegalArgumentException"] ++ (vx_atS RX3 237 "java/lang/IllegalArgumentException" ["java/lang/RuntimeException", "java/lang/Exception"]).filter goodWord)
def wsX3_lay : List Cond := .code yX3_lay cX3_lay 3 (some .int) :: ([.fieldLink RX3 10 "FrostPane" "now" "LFrostPane$Pane;", .methodLink RX3 41 yX3_requireWithin, .static yX3_requireWithin, .initialized RX3, .code yX3_requireWithin cX3_requireWithin 3 none, .classLink RX3 233 "java/lang/IllegalArgumentException", .initialized "java/lang/IllegalArgumentException", .methodLink RX3 33 yX1_layClear, .instanceMethod yX1_layClear, .selects RX1 yX1_layClear yX1_layClear, .initialized RX1, .code yX1_layClear cX1_layClear 3 none, .fieldLink RX1 21 "FrostPane$Pane" "columns" "I", .fieldLink RX1 25 "FrostPane$Pane" "rows" "I", .fieldLink RX1 9 "FrostPane$Pane" "frost" "[I", .fieldLink RX1 18 "FrostPane$Pane" "melts" "[I", .methodLink RX1 28 yJ7_fill_53178, .static yJ7_fill_53178, .initialized RJ7, .code yJ7_fill_53178 cJ7_fill_53178 4 none] ++ wsX30 ++ wsX10 ++ (vx_atS RX3 237 "java/lang/IllegalArgumentException" ["java/lang/RuntimeException", "java/lang/Exception"]).filter goodWord)
def wsX3_requireCell : List Cond := .code yX3_requireCell cX3_requireCell 3 none :: ([.classLink RX3 83 "java/lang/IndexOutOfBoundsException", .initialized "java/lang/IndexOutOfBoundsException", .fieldLink RX3 10 "FrostPane" "now" "LFrostPane$Pane;", .methodLink RX3 228 yX1_hasCell, .instanceMethod yX1_hasCell, .selects RX1 yX1_hasCell yX1_hasCell, .initialized RX1, .code yX1_hasCell cX1_hasCell 3 (some .boolean), .fieldLink RX1 21 "FrostPane$Pane" "columns" "I", .methodLink RX1 56 yX1_hasRow, .instanceMethod yX1_hasRow, .selects RX1 yX1_hasRow yX1_hasRow, .code yX1_hasRow cX1_hasRow 2 (some .boolean), .fieldLink RX1 25 "FrostPane$Pane" "rows" "I"] ++ wsX30 ++ wsX10 ++ (vx_atS RX3 87 "java/lang/IndexOutOfBoundsException" ["java/lang/RuntimeException", "java/lang/Exception"]).filter goodWord)
def wsX3_turn_r1 : List Cond := [Cond.classLink RX3 51 "java/lang/IllegalStateException", Cond.initialized "java/lang/IllegalStateException", Cond.fieldLink RX3 10 "FrostPane" "now" "LFrostPane$Pane;", Cond.methodLink RX3 45 yX3_requireCell, Cond.instanceMethod yX3_requireCell, Cond.selects RX3 yX3_requireCell yX3_requireCell, Cond.initialized RX3, Cond.code yX3_requireCell cX3_requireCell 3 none, Cond.classLink RX3 83 "java/lang/IndexOutOfBoundsException", Cond.initialized "java/lang/IndexOutOfBoundsException", Cond.methodLink RX3 228 yX1_hasCell, Cond.instanceMethod yX1_hasCell, Cond.selects RX1 yX1_hasCell yX1_hasCell, Cond.initialized RX1, Cond.code yX1_hasCell cX1_hasCell 3 (some .boolean), Cond.fieldLink RX1 21 "FrostPane$Pane" "columns" "I", Cond.methodLink RX1 56 yX1_hasRow, Cond.instanceMethod yX1_hasRow, Cond.selects RX1 yX1_hasRow yX1_hasRow, Cond.code yX1_hasRow cX1_hasRow 2 (some .boolean), Cond.fieldLink RX1 25 "FrostPane$Pane" "rows" "I", Cond.methodLink RX3 48 yX1_meltOf, Cond.instanceMethod yX1_meltOf, Cond.selects RX1 yX1_meltOf yX1_meltOf]
def wsX3_turn_r2 : List Cond := [Cond.code yX1_meltOf cX1_meltOf 4 (some .int), Cond.fieldLink RX1 18 "FrostPane$Pane" "melts" "[I", Cond.methodLink RX3 58 yX1_flip, Cond.instanceMethod yX1_flip, Cond.selects RX1 yX1_flip yX1_flip, Cond.code yX1_flip cX1_flip 3 none, Cond.fieldLink RX1 9 "FrostPane$Pane" "frost" "[I", Cond.methodLink RX1 60 yX1_hasCell, Cond.methodLink RX3 61 yX1_hasFrost, Cond.instanceMethod yX1_hasFrost, Cond.selects RX1 yX1_hasFrost yX1_hasFrost, Cond.code yX1_hasFrost cX1_hasFrost 3 (some .boolean), Cond.methodLink RX1 49 yX1_bitsOf, Cond.instanceMethod yX1_bitsOf, Cond.selects RX1 yX1_bitsOf yX1_bitsOf, Cond.code yX1_bitsOf cX1_bitsOf 2 (some .int)]
def wsX3_turn : List Cond := .code yX3_turn cX3_turn 3 (some .boolean) :: ((wsX3_turn_r1 ++ wsX3_turn_r2) ++ wsX30 ++ wsX10 ++ (vx_atS RX3 55 "java/lang/IllegalStateException" ["java/lang/RuntimeException", "java/lang/Exception"]).filter goodWord ++ (vx_atS RX3 87 "java/lang/IndexOutOfBoundsException" ["java/lang/RuntimeException", "java/lang/Exception"]).filter goodWord)
def wsX3_press_r1 : List Cond := [Cond.fieldLink RX3 10 "FrostPane" "now" "LFrostPane$Pane;", Cond.methodLink RX3 45 yX3_requireCell, Cond.instanceMethod yX3_requireCell, Cond.selects RX3 yX3_requireCell yX3_requireCell, Cond.initialized RX3, Cond.code yX3_requireCell cX3_requireCell 3 none, Cond.classLink RX3 83 "java/lang/IndexOutOfBoundsException", Cond.initialized "java/lang/IndexOutOfBoundsException", Cond.methodLink RX3 228 yX1_hasCell, Cond.instanceMethod yX1_hasCell, Cond.selects RX1 yX1_hasCell yX1_hasCell, Cond.initialized RX1, Cond.code yX1_hasCell cX1_hasCell 3 (some .boolean), Cond.fieldLink RX1 21 "FrostPane$Pane" "columns" "I", Cond.methodLink RX1 56 yX1_hasRow, Cond.instanceMethod yX1_hasRow, Cond.selects RX1 yX1_hasRow yX1_hasRow, Cond.code yX1_hasRow cX1_hasRow 2 (some .boolean), Cond.fieldLink RX1 25 "FrostPane$Pane" "rows" "I", Cond.methodLink RX3 41 yX3_requireWithin, Cond.static yX3_requireWithin, Cond.code yX3_requireWithin cX3_requireWithin 3 none, Cond.classLink RX3 233 "java/lang/IllegalArgumentException", Cond.initialized "java/lang/IllegalArgumentException"]
def wsX3_press_r2 : List Cond := [Cond.methodLink RX3 65 yX1_melt, Cond.instanceMethod yX1_melt, Cond.selects RX1 yX1_melt yX1_melt, Cond.code yX1_melt cX1_melt 6 (some .int), Cond.fieldLink RX1 18 "FrostPane$Pane" "melts" "[I", Cond.methodLink RX1 60 yX1_hasCell, Cond.methodLink RX1 64 yX1_hasFrost, Cond.instanceMethod yX1_hasFrost, Cond.selects RX1 yX1_hasFrost yX1_hasFrost, Cond.code yX1_hasFrost cX1_hasFrost 3 (some .boolean), Cond.methodLink RX1 49 yX1_bitsOf, Cond.instanceMethod yX1_bitsOf, Cond.selects RX1 yX1_bitsOf yX1_bitsOf, Cond.code yX1_bitsOf cX1_bitsOf 2 (some .int), Cond.fieldLink RX1 9 "FrostPane$Pane" "frost" "[I", Cond.methodLink RX1 67 yX1_flip, Cond.instanceMethod yX1_flip, Cond.selects RX1 yX1_flip yX1_flip, Cond.code yX1_flip cX1_flip 3 none]
def wsX3_press : List Cond := .code yX3_press cX3_press 4 (some .int) :: ((wsX3_press_r1 ++ wsX3_press_r2) ++ wsX30 ++ wsX10 ++ (vx_atS RX3 87 "java/lang/IndexOutOfBoundsException" ["java/lang/RuntimeException", "java/lang/Exception"]).filter goodWord ++ (vx_atS RX3 237 "java/lang/IllegalArgumentException" ["java/lang/RuntimeException", "java/lang/Exception"]).filter goodWord)
def wsX3_setFrame : List Cond := .code yX3_setFrame cX3_setFrame 3 (some .int) :: ([.fieldLink RX3 10 "FrostPane" "now" "LFrostPane$Pane;", .methodLink RX3 41 yX3_requireWithin, .static yX3_requireWithin, .initialized RX3, .code yX3_requireWithin cX3_requireWithin 3 none, .classLink RX3 233 "java/lang/IllegalArgumentException", .initialized "java/lang/IllegalArgumentException"] ++ wsX30 ++ wsX10 ++ (vx_atS RX3 237 "java/lang/IllegalArgumentException" ["java/lang/RuntimeException", "java/lang/Exception"]).filter goodWord)
def wsX3_addRule : List Cond := .code yX3_addRule cX3_addRule 3 (some .int) :: ([.classLink RX3 51 "java/lang/IllegalStateException", .initialized "java/lang/IllegalStateException", .fieldLink RX3 29 "FrostPane" "book" "LFrostPane$RuleBook;", .methodLink RX3 41 yX3_requireWithin, .static yX3_requireWithin, .initialized RX3, .code yX3_requireWithin cX3_requireWithin 3 none, .classLink RX3 233 "java/lang/IllegalArgumentException", .initialized "java/lang/IllegalArgumentException", .methodLink RX3 73 yX2_isFull, .instanceMethod yX2_isFull, .selects RX2 yX2_isFull yX2_isFull, .initialized RX2, .code yX2_isFull cX2_isFull 1 (some .boolean), .fieldLink RX2 18 "FrostPane$RuleBook" "count" "I", .methodLink RX3 37 yX2_append, .instanceMethod yX2_append, .selects RX2 yX2_append yX2_append, .code yX2_append cX2_append 4 (some .int), .fieldLink RX2 9 "FrostPane$RuleBook" "freezes" "[I", .fieldLink RX2 15 "FrostPane$RuleBook" "stays" "[I"] ++ wsX30 ++ wsX20 ++ (vx_atS RX3 55 "java/lang/IllegalStateException" ["java/lang/RuntimeException", "java/lang/Exception"]).filter goodWord ++ (vx_atS RX3 237 "java/lang/IllegalArgumentException" ["java/lang/RuntimeException", "java/lang/Exception"]).filter goodWord)
def wsX3_breathe : List Cond := .code yX3_breathe cX3_breathe 3 (some .int) :: ([.classLink RX3 83 "java/lang/IndexOutOfBoundsException", .initialized "java/lang/IndexOutOfBoundsException", .fieldLink RX3 29 "FrostPane" "book" "LFrostPane$RuleBook;", .fieldLink RX3 88 "FrostPane" "breath" "I", .methodLink RX3 79 yX2_has, .instanceMethod yX2_has, .selects RX2 yX2_has yX2_has, .initialized RX2, .code yX2_has cX2_has 2 (some .boolean), .fieldLink RX2 18 "FrostPane$RuleBook" "count" "I"] ++ wsX30 ++ wsX20 ++ (vx_atS RX3 87 "java/lang/IndexOutOfBoundsException" ["java/lang/RuntimeException", "java/lang/Exception"]).filter goodWord)
def wsX3_grow_r1 : List Cond := [Cond.fieldLink RX3 10 "FrostPane" "now" "LFrostPane$Pane;", Cond.fieldLink RX3 29 "FrostPane" "book" "LFrostPane$RuleBook;", Cond.fieldLink RX3 88 "FrostPane" "breath" "I", Cond.fieldLink RX3 101 "FrostPane" "generation" "I", Cond.methodLink RX3 41 yX3_requireWithin, Cond.static yX3_requireWithin, Cond.initialized RX3, Cond.code yX3_requireWithin cX3_requireWithin 3 none, Cond.classLink RX3 233 "java/lang/IllegalArgumentException", Cond.initialized "java/lang/IllegalArgumentException", Cond.methodLink RX3 91 yX2_freezesBy, Cond.instanceMethod yX2_freezesBy, Cond.selects RX2 yX2_freezesBy yX2_freezesBy, Cond.initialized RX2, Cond.code yX2_freezesBy cX2_freezesBy 2 (some .int), Cond.fieldLink RX2 9 "FrostPane$RuleBook" "freezes" "[I", Cond.methodLink RX2 22 yX2_has, Cond.instanceMethod yX2_has, Cond.selects RX2 yX2_has yX2_has, Cond.code yX2_has cX2_has 2 (some .boolean), Cond.fieldLink RX2 18 "FrostPane$RuleBook" "count" "I", Cond.methodLink RX3 95 yX2_staysBy, Cond.instanceMethod yX2_staysBy, Cond.selects RX2 yX2_staysBy yX2_staysBy]
def wsX3_grow_r2 : List Cond := [Cond.code yX2_staysBy cX2_staysBy 2 (some .int), Cond.fieldLink RX2 15 "FrostPane$RuleBook" "stays" "[I", Cond.methodLink RX3 98 yX1_step, Cond.instanceMethod yX1_step, Cond.selects RX1 yX1_step yX1_step, Cond.initialized RX1, Cond.code yX1_step cX1_step 4 (some .boolean), Cond.fieldLink RX1 25 "FrostPane$Pane" "rows" "I", Cond.fieldLink RX1 15 "FrostPane$Pane" "frostNext" "[I", Cond.methodLink RX1 83 yX1_grownRow, Cond.instanceMethod yX1_grownRow, Cond.selects RX1 yX1_grownRow yX1_grownRow, Cond.code yX1_grownRow cX1_grownRow 11 (some .int), Cond.fieldLink RX1 21 "FrostPane$Pane" "columns" "I", Cond.methodLink RX1 76 yX1_framed, Cond.instanceMethod yX1_framed, Cond.selects RX1 yX1_framed yX1_framed, Cond.code yX1_framed cX1_framed 2 (some .int), Cond.fieldLink RX1 34 "FrostPane$Pane" "frame" "I", Cond.methodLink RX1 56 yX1_hasRow, Cond.instanceMethod yX1_hasRow, Cond.selects RX1 yX1_hasRow yX1_hasRow, Cond.code yX1_hasRow cX1_hasRow 2 (some .boolean), Cond.methodLink RX1 49 yX1_bitsOf]
def wsX3_grow_r3 : List Cond := [Cond.instanceMethod yX1_bitsOf, Cond.selects RX1 yX1_bitsOf yX1_bitsOf, Cond.code yX1_bitsOf cX1_bitsOf 2 (some .int), Cond.fieldLink RX1 9 "FrostPane$Pane" "frost" "[I", Cond.methodLink RX1 94 yX1_withSides, Cond.instanceMethod yX1_withSides, Cond.selects RX1 yX1_withSides yX1_withSides, Cond.code yX1_withSides cX1_withSides 4 (some .int), Cond.methodLink RX1 64 yX1_hasFrost, Cond.instanceMethod yX1_hasFrost, Cond.selects RX1 yX1_hasFrost yX1_hasFrost, Cond.code yX1_hasFrost cX1_hasFrost 3 (some .boolean), Cond.methodLink RX1 79 yX1_countIn, Cond.static yX1_countIn, Cond.code yX1_countIn cX1_countIn 4 (some .int), Cond.methodLink RX1 71 yJ6_bitCount_0f7a4, Cond.static yJ6_bitCount_0f7a4, Cond.initialized RJ6, Cond.code yJ6_bitCount_0f7a4 cJ6_bitCount_0f7a4 1 (some .int), Cond.constant RJ6 265 (1431655765), Cond.constant RJ6 266 (858993459), Cond.constant RJ6 267 (252645135), Cond.methodLink RX1 53 yX1_meltOf, Cond.instanceMethod yX1_meltOf]
def wsX3_grow_r4 : List Cond := [Cond.selects RX1 yX1_meltOf yX1_meltOf, Cond.code yX1_meltOf cX1_meltOf 4 (some .int), Cond.fieldLink RX1 18 "FrostPane$Pane" "melts" "[I", Cond.methodLink RX1 87 yX1_meltLess, Cond.instanceMethod yX1_meltLess, Cond.selects RX1 yX1_meltLess yX1_meltLess, Cond.code yX1_meltLess cX1_meltLess 2 none, Cond.methodLink RX1 90 yX1_takeNext, Cond.instanceMethod yX1_takeNext, Cond.selects RX1 yX1_takeNext yX1_takeNext, Cond.code yX1_takeNext cX1_takeNext 3 (some .boolean), Cond.methodLink RX3 104 yX1_countFrost, Cond.instanceMethod yX1_countFrost, Cond.selects RX1 yX1_countFrost yX1_countFrost, Cond.code yX1_countFrost cX1_countFrost 3 (some .int)]
def wsX3_grow : List Cond := .code yX3_grow cX3_grow 3 (some .int) :: ((wsX3_grow_r1 ++ (wsX3_grow_r2 ++ (wsX3_grow_r3 ++ wsX3_grow_r4))) ++ wsX30 ++ wsX20 ++ wsX10 ++ (vx_atS RX3 237 "java/lang/IllegalArgumentException" ["java/lang/RuntimeException", "java/lang/Exception"]).filter goodWord)
def wsX3_columns : List Cond := .code yX3_columns cX3_columns 1 (some .int) :: ([.fieldLink RX3 10 "FrostPane" "now" "LFrostPane$Pane;"] ++ wsX30 ++ wsX10)
def wsX3_rows : List Cond := .code yX3_rows cX3_rows 1 (some .int) :: ([.fieldLink RX3 10 "FrostPane" "now" "LFrostPane$Pane;"] ++ wsX30 ++ wsX10)
def wsX3_generation : List Cond := .code yX3_generation cX3_generation 1 (some .int) :: ([.fieldLink RX3 101 "FrostPane" "generation" "I"] ++ wsX30)
def wsX3_rules : List Cond := .code yX3_rules cX3_rules 1 (some .int) :: ([.fieldLink RX3 29 "FrostPane" "book" "LFrostPane$RuleBook;"] ++ wsX30 ++ wsX20)
def wsX3_breath : List Cond := .code yX3_breath cX3_breath 1 (some .int) :: ([.fieldLink RX3 88 "FrostPane" "breath" "I"] ++ wsX30)
def wsX3_frozen : List Cond := .code yX3_frozen cX3_frozen 1 (some .int) :: ([.fieldLink RX3 10 "FrostPane" "now" "LFrostPane$Pane;", .methodLink RX3 104 yX1_countFrost, .instanceMethod yX1_countFrost, .selects RX1 yX1_countFrost yX1_countFrost, .initialized RX1, .code yX1_countFrost cX1_countFrost 3 (some .int), .fieldLink RX1 25 "FrostPane$Pane" "rows" "I", .methodLink RX1 49 yX1_bitsOf, .instanceMethod yX1_bitsOf, .selects RX1 yX1_bitsOf yX1_bitsOf, .code yX1_bitsOf cX1_bitsOf 2 (some .int), .fieldLink RX1 9 "FrostPane$Pane" "frost" "[I", .methodLink RX1 71 yJ6_bitCount_0f7a4, .static yJ6_bitCount_0f7a4, .initialized RJ6, .code yJ6_bitCount_0f7a4 cJ6_bitCount_0f7a4 1 (some .int), .constant RJ6 265 (1431655765), .constant RJ6 266 (858993459), .constant RJ6 267 (252645135)] ++ wsX30 ++ wsX10)
def wsX3_melted : List Cond := .code yX3_melted cX3_melted 1 (some .int) :: ([.fieldLink RX3 10 "FrostPane" "now" "LFrostPane$Pane;", .methodLink RX3 117 yX1_countMelted, .instanceMethod yX1_countMelted, .selects RX1 yX1_countMelted yX1_countMelted, .initialized RX1, .code yX1_countMelted cX1_countMelted 3 (some .int), .fieldLink RX1 18 "FrostPane$Pane" "melts" "[I"] ++ wsX30 ++ wsX10)
def wsX3_isFrozen_r1 : List Cond := [Cond.fieldLink RX3 10 "FrostPane" "now" "LFrostPane$Pane;", Cond.methodLink RX3 45 yX3_requireCell, Cond.instanceMethod yX3_requireCell, Cond.selects RX3 yX3_requireCell yX3_requireCell, Cond.initialized RX3, Cond.code yX3_requireCell cX3_requireCell 3 none, Cond.classLink RX3 83 "java/lang/IndexOutOfBoundsException", Cond.initialized "java/lang/IndexOutOfBoundsException", Cond.methodLink RX3 228 yX1_hasCell, Cond.instanceMethod yX1_hasCell, Cond.selects RX1 yX1_hasCell yX1_hasCell, Cond.initialized RX1, Cond.code yX1_hasCell cX1_hasCell 3 (some .boolean), Cond.fieldLink RX1 21 "FrostPane$Pane" "columns" "I", Cond.methodLink RX1 56 yX1_hasRow, Cond.instanceMethod yX1_hasRow, Cond.selects RX1 yX1_hasRow yX1_hasRow, Cond.code yX1_hasRow cX1_hasRow 2 (some .boolean), Cond.fieldLink RX1 25 "FrostPane$Pane" "rows" "I", Cond.methodLink RX3 61 yX1_hasFrost, Cond.instanceMethod yX1_hasFrost, Cond.selects RX1 yX1_hasFrost yX1_hasFrost, Cond.code yX1_hasFrost cX1_hasFrost 3 (some .boolean), Cond.methodLink RX1 49 yX1_bitsOf]
def wsX3_isFrozen_r2 : List Cond := [Cond.instanceMethod yX1_bitsOf, Cond.selects RX1 yX1_bitsOf yX1_bitsOf, Cond.code yX1_bitsOf cX1_bitsOf 2 (some .int), Cond.fieldLink RX1 9 "FrostPane$Pane" "frost" "[I"]
def wsX3_isFrozen : List Cond := .code yX3_isFrozen cX3_isFrozen 3 (some .boolean) :: ((wsX3_isFrozen_r1 ++ wsX3_isFrozen_r2) ++ wsX30 ++ wsX10 ++ (vx_atS RX3 87 "java/lang/IndexOutOfBoundsException" ["java/lang/RuntimeException", "java/lang/Exception"]).filter goodWord)
def wsX3_meltedFor : List Cond := .code yX3_meltedFor cX3_meltedFor 3 (some .int) :: ([.fieldLink RX3 10 "FrostPane" "now" "LFrostPane$Pane;", .methodLink RX3 45 yX3_requireCell, .instanceMethod yX3_requireCell, .selects RX3 yX3_requireCell yX3_requireCell, .initialized RX3, .code yX3_requireCell cX3_requireCell 3 none, .classLink RX3 83 "java/lang/IndexOutOfBoundsException", .initialized "java/lang/IndexOutOfBoundsException", .methodLink RX3 228 yX1_hasCell, .instanceMethod yX1_hasCell, .selects RX1 yX1_hasCell yX1_hasCell, .initialized RX1, .code yX1_hasCell cX1_hasCell 3 (some .boolean), .fieldLink RX1 21 "FrostPane$Pane" "columns" "I", .methodLink RX1 56 yX1_hasRow, .instanceMethod yX1_hasRow, .selects RX1 yX1_hasRow yX1_hasRow, .code yX1_hasRow cX1_hasRow 2 (some .boolean), .fieldLink RX1 25 "FrostPane$Pane" "rows" "I", .methodLink RX3 48 yX1_meltOf, .instanceMethod yX1_meltOf, .selects RX1 yX1_meltOf yX1_meltOf, .code yX1_meltOf cX1_meltOf 4 (some .int), .fieldLink RX1 18 "FrostPane$Pane" "melts" "[I"] ++ wsX30 ++ wsX10 ++ (vx_atS RX3 87 "java/lang/IndexOutOfBoundsException" ["java/lang/RuntimeException", "java/lang/Exception"]).filter goodWord)
def wsX3_around_r1 : List Cond := [Cond.fieldLink RX3 10 "FrostPane" "now" "LFrostPane$Pane;", Cond.methodLink RX3 45 yX3_requireCell, Cond.instanceMethod yX3_requireCell, Cond.selects RX3 yX3_requireCell yX3_requireCell, Cond.initialized RX3, Cond.code yX3_requireCell cX3_requireCell 3 none, Cond.classLink RX3 83 "java/lang/IndexOutOfBoundsException", Cond.initialized "java/lang/IndexOutOfBoundsException", Cond.methodLink RX3 228 yX1_hasCell, Cond.instanceMethod yX1_hasCell, Cond.selects RX1 yX1_hasCell yX1_hasCell, Cond.initialized RX1, Cond.code yX1_hasCell cX1_hasCell 3 (some .boolean), Cond.fieldLink RX1 21 "FrostPane$Pane" "columns" "I", Cond.methodLink RX1 56 yX1_hasRow, Cond.instanceMethod yX1_hasRow, Cond.selects RX1 yX1_hasRow yX1_hasRow, Cond.code yX1_hasRow cX1_hasRow 2 (some .boolean), Cond.fieldLink RX1 25 "FrostPane$Pane" "rows" "I", Cond.methodLink RX3 120 yX1_countAround, Cond.instanceMethod yX1_countAround, Cond.selects RX1 yX1_countAround yX1_countAround, Cond.code yX1_countAround cX1_countAround 3 (some .int), Cond.methodLink RX1 76 yX1_framed]
def wsX3_around_r2 : List Cond := [Cond.instanceMethod yX1_framed, Cond.selects RX1 yX1_framed yX1_framed, Cond.code yX1_framed cX1_framed 2 (some .int), Cond.fieldLink RX1 34 "FrostPane$Pane" "frame" "I", Cond.methodLink RX1 49 yX1_bitsOf, Cond.instanceMethod yX1_bitsOf, Cond.selects RX1 yX1_bitsOf yX1_bitsOf, Cond.code yX1_bitsOf cX1_bitsOf 2 (some .int), Cond.fieldLink RX1 9 "FrostPane$Pane" "frost" "[I", Cond.methodLink RX1 94 yX1_withSides, Cond.instanceMethod yX1_withSides, Cond.selects RX1 yX1_withSides yX1_withSides, Cond.code yX1_withSides cX1_withSides 4 (some .int), Cond.methodLink RX1 79 yX1_countIn, Cond.static yX1_countIn, Cond.code yX1_countIn cX1_countIn 4 (some .int), Cond.methodLink RX1 71 yJ6_bitCount_0f7a4, Cond.static yJ6_bitCount_0f7a4, Cond.initialized RJ6, Cond.code yJ6_bitCount_0f7a4 cJ6_bitCount_0f7a4 1 (some .int), Cond.constant RJ6 265 (1431655765), Cond.constant RJ6 266 (858993459), Cond.constant RJ6 267 (252645135)]
def wsX3_around : List Cond := .code yX3_around cX3_around 3 (some .int) :: ((wsX3_around_r1 ++ wsX3_around_r2) ++ wsX30 ++ wsX10 ++ (vx_atS RX3 87 "java/lang/IndexOutOfBoundsException" ["java/lang/RuntimeException", "java/lang/Exception"]).filter goodWord)
def wsX3_willFreeze_r1 : List Cond := [Cond.fieldLink RX3 10 "FrostPane" "now" "LFrostPane$Pane;", Cond.fieldLink RX3 29 "FrostPane" "book" "LFrostPane$RuleBook;", Cond.fieldLink RX3 88 "FrostPane" "breath" "I", Cond.methodLink RX3 45 yX3_requireCell, Cond.instanceMethod yX3_requireCell, Cond.selects RX3 yX3_requireCell yX3_requireCell, Cond.initialized RX3, Cond.code yX3_requireCell cX3_requireCell 3 none, Cond.classLink RX3 83 "java/lang/IndexOutOfBoundsException", Cond.initialized "java/lang/IndexOutOfBoundsException", Cond.methodLink RX3 228 yX1_hasCell, Cond.instanceMethod yX1_hasCell, Cond.selects RX1 yX1_hasCell yX1_hasCell, Cond.initialized RX1, Cond.code yX1_hasCell cX1_hasCell 3 (some .boolean), Cond.fieldLink RX1 21 "FrostPane$Pane" "columns" "I", Cond.methodLink RX1 56 yX1_hasRow, Cond.instanceMethod yX1_hasRow, Cond.selects RX1 yX1_hasRow yX1_hasRow, Cond.code yX1_hasRow cX1_hasRow 2 (some .boolean), Cond.fieldLink RX1 25 "FrostPane$Pane" "rows" "I", Cond.methodLink RX3 91 yX2_freezesBy, Cond.instanceMethod yX2_freezesBy, Cond.selects RX2 yX2_freezesBy yX2_freezesBy]
def wsX3_willFreeze_r2 : List Cond := [Cond.initialized RX2, Cond.code yX2_freezesBy cX2_freezesBy 2 (some .int), Cond.fieldLink RX2 9 "FrostPane$RuleBook" "freezes" "[I", Cond.methodLink RX2 22 yX2_has, Cond.instanceMethod yX2_has, Cond.selects RX2 yX2_has yX2_has, Cond.code yX2_has cX2_has 2 (some .boolean), Cond.fieldLink RX2 18 "FrostPane$RuleBook" "count" "I", Cond.methodLink RX3 95 yX2_staysBy, Cond.instanceMethod yX2_staysBy, Cond.selects RX2 yX2_staysBy yX2_staysBy, Cond.code yX2_staysBy cX2_staysBy 2 (some .int), Cond.fieldLink RX2 15 "FrostPane$RuleBook" "stays" "[I", Cond.methodLink RX3 123 yX1_isFrozenNext, Cond.instanceMethod yX1_isFrozenNext, Cond.selects RX1 yX1_isFrozenNext yX1_isFrozenNext, Cond.code yX1_isFrozenNext cX1_isFrozenNext 5 (some .boolean), Cond.methodLink RX1 83 yX1_grownRow, Cond.instanceMethod yX1_grownRow, Cond.selects RX1 yX1_grownRow yX1_grownRow, Cond.code yX1_grownRow cX1_grownRow 11 (some .int), Cond.methodLink RX1 76 yX1_framed, Cond.instanceMethod yX1_framed, Cond.selects RX1 yX1_framed yX1_framed]
def wsX3_willFreeze_r3 : List Cond := [Cond.code yX1_framed cX1_framed 2 (some .int), Cond.fieldLink RX1 34 "FrostPane$Pane" "frame" "I", Cond.methodLink RX1 49 yX1_bitsOf, Cond.instanceMethod yX1_bitsOf, Cond.selects RX1 yX1_bitsOf yX1_bitsOf, Cond.code yX1_bitsOf cX1_bitsOf 2 (some .int), Cond.fieldLink RX1 9 "FrostPane$Pane" "frost" "[I", Cond.methodLink RX1 94 yX1_withSides, Cond.instanceMethod yX1_withSides, Cond.selects RX1 yX1_withSides yX1_withSides, Cond.code yX1_withSides cX1_withSides 4 (some .int), Cond.methodLink RX1 64 yX1_hasFrost, Cond.instanceMethod yX1_hasFrost, Cond.selects RX1 yX1_hasFrost yX1_hasFrost, Cond.code yX1_hasFrost cX1_hasFrost 3 (some .boolean), Cond.methodLink RX1 79 yX1_countIn, Cond.static yX1_countIn, Cond.code yX1_countIn cX1_countIn 4 (some .int), Cond.methodLink RX1 71 yJ6_bitCount_0f7a4, Cond.static yJ6_bitCount_0f7a4, Cond.initialized RJ6, Cond.code yJ6_bitCount_0f7a4 cJ6_bitCount_0f7a4 1 (some .int), Cond.constant RJ6 265 (1431655765), Cond.constant RJ6 266 (858993459)]
def wsX3_willFreeze_r4 : List Cond := [Cond.constant RJ6 267 (252645135), Cond.methodLink RX1 53 yX1_meltOf, Cond.instanceMethod yX1_meltOf, Cond.selects RX1 yX1_meltOf yX1_meltOf, Cond.code yX1_meltOf cX1_meltOf 4 (some .int), Cond.fieldLink RX1 18 "FrostPane$Pane" "melts" "[I"]
def wsX3_willFreeze : List Cond := .code yX3_willFreeze cX3_willFreeze 3 (some .boolean) :: ((wsX3_willFreeze_r1 ++ (wsX3_willFreeze_r2 ++ (wsX3_willFreeze_r3 ++ wsX3_willFreeze_r4))) ++ wsX30 ++ wsX10 ++ wsX20 ++ (vx_atS RX3 87 "java/lang/IndexOutOfBoundsException" ["java/lang/RuntimeException", "java/lang/Exception"]).filter goodWord)
def wsX3_frozenInRow : List Cond := .code yX3_frozenInRow cX3_frozenInRow 2 (some .int) :: ([.classLink RX3 83 "java/lang/IndexOutOfBoundsException", .initialized "java/lang/IndexOutOfBoundsException", .fieldLink RX3 10 "FrostPane" "now" "LFrostPane$Pane;", .methodLink RX3 127 yX1_hasRow, .instanceMethod yX1_hasRow, .selects RX1 yX1_hasRow yX1_hasRow, .initialized RX1, .code yX1_hasRow cX1_hasRow 2 (some .boolean), .fieldLink RX1 25 "FrostPane$Pane" "rows" "I", .methodLink RX3 132 yX1_bitsOf, .instanceMethod yX1_bitsOf, .selects RX1 yX1_bitsOf yX1_bitsOf, .code yX1_bitsOf cX1_bitsOf 2 (some .int), .fieldLink RX1 9 "FrostPane$Pane" "frost" "[I", .methodLink RX3 135 yJ6_bitCount_0f7a4, .static yJ6_bitCount_0f7a4, .initialized RJ6, .code yJ6_bitCount_0f7a4 cJ6_bitCount_0f7a4 1 (some .int), .constant RJ6 265 (1431655765), .constant RJ6 266 (858993459), .constant RJ6 267 (252645135)] ++ wsX30 ++ wsX10 ++ (vx_atS RX3 87 "java/lang/IndexOutOfBoundsException" ["java/lang/RuntimeException", "java/lang/Exception"]).filter goodWord)
def wsX3_flowers_r1 : List Cond := [Cond.fieldLink RX3 22 "FrostPane" "picker" "LFrostPane$FlowerPicker;", Cond.fieldLink RX3 10 "FrostPane" "now" "LFrostPane$Pane;", Cond.methodLink RX3 140 yX0_spreadOut, Cond.instanceMethod yX0_spreadOut, Cond.selects RX0 yX0_spreadOut yX0_spreadOut, Cond.initialized RX0, Cond.code yX0_spreadOut cX0_spreadOut 3 none, Cond.fieldLink RX0 9 "FrostPane$FlowerPicker" "left" "[I", Cond.methodLink RX0 18 yX1_bitsOf, Cond.instanceMethod yX1_bitsOf, Cond.selects RX1 yX1_bitsOf yX1_bitsOf, Cond.initialized RX1, Cond.code yX1_bitsOf cX1_bitsOf 2 (some .int), Cond.fieldLink RX1 9 "FrostPane$Pane" "frost" "[I", Cond.methodLink RX3 144 yX0_pick, Cond.instanceMethod yX0_pick, Cond.selects RX0 yX0_pick yX0_pick, Cond.code yX0_pick cX0_pick 4 (some .int), Cond.fieldLink RX0 15 "FrostPane$FlowerPicker" "flower" "[I", Cond.methodLink RX0 24 yJ7_fill_53178, Cond.static yJ7_fill_53178, Cond.initialized RJ7, Cond.code yJ7_fill_53178 cJ7_fill_53178 4 none, Cond.methodLink RX0 30 yX0_widen]
def wsX3_flowers_r2 : List Cond := [Cond.instanceMethod yX0_widen, Cond.selects RX0 yX0_widen yX0_widen, Cond.code yX0_widen cX0_widen 5 (some .boolean), Cond.methodLink RX0 38 yX0_flowerIn, Cond.instanceMethod yX0_flowerIn, Cond.selects RX0 yX0_flowerIn yX0_flowerIn, Cond.code yX0_flowerIn cX0_flowerIn 2 (some .int), Cond.methodLink RX0 34 yX0_takeAway, Cond.instanceMethod yX0_takeAway, Cond.selects RX0 yX0_takeAway yX0_takeAway, Cond.code yX0_takeAway cX0_takeAway 3 (some .int), Cond.methodLink RX0 41 yJ6_bitCount_0f7a4, Cond.static yJ6_bitCount_0f7a4, Cond.initialized RJ6, Cond.code yJ6_bitCount_0f7a4 cJ6_bitCount_0f7a4 1 (some .int), Cond.constant RJ6 265 (1431655765), Cond.constant RJ6 266 (858993459), Cond.constant RJ6 267 (252645135)]
def wsX3_flowers : List Cond := .code yX3_flowers cX3_flowers 4 (some .int) :: ((wsX3_flowers_r1 ++ wsX3_flowers_r2) ++ wsX30 ++ wsX10 ++ wsX00)
def wsX3_largestFlower_r1 : List Cond := [Cond.fieldLink RX3 22 "FrostPane" "picker" "LFrostPane$FlowerPicker;", Cond.fieldLink RX3 10 "FrostPane" "now" "LFrostPane$Pane;", Cond.methodLink RX3 147 Lib.Math.max.name, Cond.static Lib.Math.max.name, Cond.initialized "java/lang/Math", Cond.code Lib.Math.max.name Lib.Math.max.code 2 (some .int), Cond.methodLink RX3 140 yX0_spreadOut, Cond.instanceMethod yX0_spreadOut, Cond.selects RX0 yX0_spreadOut yX0_spreadOut, Cond.initialized RX0, Cond.code yX0_spreadOut cX0_spreadOut 3 none, Cond.fieldLink RX0 9 "FrostPane$FlowerPicker" "left" "[I", Cond.methodLink RX0 18 yX1_bitsOf, Cond.instanceMethod yX1_bitsOf, Cond.selects RX1 yX1_bitsOf yX1_bitsOf, Cond.initialized RX1, Cond.code yX1_bitsOf cX1_bitsOf 2 (some .int), Cond.fieldLink RX1 9 "FrostPane$Pane" "frost" "[I", Cond.methodLink RX3 144 yX0_pick, Cond.instanceMethod yX0_pick, Cond.selects RX0 yX0_pick yX0_pick, Cond.code yX0_pick cX0_pick 4 (some .int), Cond.fieldLink RX0 15 "FrostPane$FlowerPicker" "flower" "[I", Cond.methodLink RX0 24 yJ7_fill_53178]
def wsX3_largestFlower_r2 : List Cond := [Cond.static yJ7_fill_53178, Cond.initialized RJ7, Cond.code yJ7_fill_53178 cJ7_fill_53178 4 none, Cond.methodLink RX0 30 yX0_widen, Cond.instanceMethod yX0_widen, Cond.selects RX0 yX0_widen yX0_widen, Cond.code yX0_widen cX0_widen 5 (some .boolean), Cond.methodLink RX0 38 yX0_flowerIn, Cond.instanceMethod yX0_flowerIn, Cond.selects RX0 yX0_flowerIn yX0_flowerIn, Cond.code yX0_flowerIn cX0_flowerIn 2 (some .int), Cond.methodLink RX0 34 yX0_takeAway, Cond.instanceMethod yX0_takeAway, Cond.selects RX0 yX0_takeAway yX0_takeAway, Cond.code yX0_takeAway cX0_takeAway 3 (some .int), Cond.methodLink RX0 41 yJ6_bitCount_0f7a4, Cond.static yJ6_bitCount_0f7a4, Cond.initialized RJ6, Cond.code yJ6_bitCount_0f7a4 cJ6_bitCount_0f7a4 1 (some .int), Cond.constant RJ6 265 (1431655765), Cond.constant RJ6 266 (858993459), Cond.constant RJ6 267 (252645135)]
def wsX3_largestFlower : List Cond := .code yX3_largestFlower cX3_largestFlower 4 (some .int) :: ((wsX3_largestFlower_r1 ++ wsX3_largestFlower_r2) ++ wsX30 ++ wsX10 ++ wsX00)
def wsX3_flowerAt_r1 : List Cond := [Cond.fieldLink RX3 22 "FrostPane" "picker" "LFrostPane$FlowerPicker;", Cond.fieldLink RX3 10 "FrostPane" "now" "LFrostPane$Pane;", Cond.methodLink RX3 45 yX3_requireCell, Cond.instanceMethod yX3_requireCell, Cond.selects RX3 yX3_requireCell yX3_requireCell, Cond.initialized RX3, Cond.code yX3_requireCell cX3_requireCell 3 none, Cond.classLink RX3 83 "java/lang/IndexOutOfBoundsException", Cond.initialized "java/lang/IndexOutOfBoundsException", Cond.methodLink RX3 228 yX1_hasCell, Cond.instanceMethod yX1_hasCell, Cond.selects RX1 yX1_hasCell yX1_hasCell, Cond.initialized RX1, Cond.code yX1_hasCell cX1_hasCell 3 (some .boolean), Cond.fieldLink RX1 21 "FrostPane$Pane" "columns" "I", Cond.methodLink RX1 56 yX1_hasRow, Cond.instanceMethod yX1_hasRow, Cond.selects RX1 yX1_hasRow yX1_hasRow, Cond.code yX1_hasRow cX1_hasRow 2 (some .boolean), Cond.fieldLink RX1 25 "FrostPane$Pane" "rows" "I", Cond.methodLink RX3 140 yX0_spreadOut, Cond.instanceMethod yX0_spreadOut, Cond.selects RX0 yX0_spreadOut yX0_spreadOut, Cond.initialized RX0]
def wsX3_flowerAt_r2 : List Cond := [Cond.code yX0_spreadOut cX0_spreadOut 3 none, Cond.fieldLink RX0 9 "FrostPane$FlowerPicker" "left" "[I", Cond.methodLink RX0 18 yX1_bitsOf, Cond.instanceMethod yX1_bitsOf, Cond.selects RX1 yX1_bitsOf yX1_bitsOf, Cond.code yX1_bitsOf cX1_bitsOf 2 (some .int), Cond.fieldLink RX1 9 "FrostPane$Pane" "frost" "[I", Cond.methodLink RX3 144 yX0_pick, Cond.instanceMethod yX0_pick, Cond.selects RX0 yX0_pick yX0_pick, Cond.code yX0_pick cX0_pick 4 (some .int), Cond.fieldLink RX0 15 "FrostPane$FlowerPicker" "flower" "[I", Cond.methodLink RX0 24 yJ7_fill_53178, Cond.static yJ7_fill_53178, Cond.initialized RJ7, Cond.code yJ7_fill_53178 cJ7_fill_53178 4 none, Cond.methodLink RX0 30 yX0_widen, Cond.instanceMethod yX0_widen, Cond.selects RX0 yX0_widen yX0_widen, Cond.code yX0_widen cX0_widen 5 (some .boolean), Cond.methodLink RX0 38 yX0_flowerIn, Cond.instanceMethod yX0_flowerIn, Cond.selects RX0 yX0_flowerIn yX0_flowerIn, Cond.code yX0_flowerIn cX0_flowerIn 2 (some .int)]
def wsX3_flowerAt_r3 : List Cond := [Cond.methodLink RX0 34 yX0_takeAway, Cond.instanceMethod yX0_takeAway, Cond.selects RX0 yX0_takeAway yX0_takeAway, Cond.code yX0_takeAway cX0_takeAway 3 (some .int), Cond.methodLink RX0 41 yJ6_bitCount_0f7a4, Cond.static yJ6_bitCount_0f7a4, Cond.initialized RJ6, Cond.code yJ6_bitCount_0f7a4 cJ6_bitCount_0f7a4 1 (some .int), Cond.constant RJ6 265 (1431655765), Cond.constant RJ6 266 (858993459), Cond.constant RJ6 267 (252645135)]
def wsX3_flowerAt : List Cond := .code yX3_flowerAt cX3_flowerAt 3 (some .int) :: ((wsX3_flowerAt_r1 ++ (wsX3_flowerAt_r2 ++ wsX3_flowerAt_r3)) ++ wsX30 ++ wsX10 ++ wsX00 ++ (vx_atS RX3 87 "java/lang/IndexOutOfBoundsException" ["java/lang/RuntimeException", "java/lang/Exception"]).filter goodWord)
def wsX3_isMirrored : List Cond := .code yX3_isMirrored cX3_isMirrored 3 (some .boolean) :: ([.fieldLink RX3 10 "FrostPane" "now" "LFrostPane$Pane;", .methodLink RX3 61 yX1_hasFrost, .instanceMethod yX1_hasFrost, .selects RX1 yX1_hasFrost yX1_hasFrost, .initialized RX1, .code yX1_hasFrost cX1_hasFrost 3 (some .boolean), .methodLink RX1 49 yX1_bitsOf, .instanceMethod yX1_bitsOf, .selects RX1 yX1_bitsOf yX1_bitsOf, .code yX1_bitsOf cX1_bitsOf 2 (some .int), .fieldLink RX1 9 "FrostPane$Pane" "frost" "[I"] ++ wsX30 ++ wsX10)
def wsX3_comesAgainIn_r1 : List Cond := [Cond.fieldLink RX3 16 "FrostPane" "ahead" "LFrostPane$Pane;", Cond.fieldLink RX3 10 "FrostPane" "now" "LFrostPane$Pane;", Cond.fieldLink RX3 29 "FrostPane" "book" "LFrostPane$RuleBook;", Cond.fieldLink RX3 88 "FrostPane" "breath" "I", Cond.methodLink RX3 155 yX1_becomeLike, Cond.instanceMethod yX1_becomeLike, Cond.selects RX1 yX1_becomeLike yX1_becomeLike, Cond.initialized RX1, Cond.code yX1_becomeLike cX1_becomeLike 2 none, Cond.fieldLink RX1 21 "FrostPane$Pane" "columns" "I", Cond.fieldLink RX1 25 "FrostPane$Pane" "rows" "I", Cond.fieldLink RX1 34 "FrostPane$Pane" "frame" "I", Cond.fieldLink RX1 9 "FrostPane$Pane" "frost" "[I", Cond.methodLink RX1 37 Lib.Math.min.name, Cond.static Lib.Math.min.name, Cond.initialized "java/lang/Math", Cond.code Lib.Math.min.name Lib.Math.min.code 2 (some .int), Cond.methodLink RX1 43 arraycopyName, Cond.native arraycopyName, Cond.static arraycopyName, Cond.initialized "java/lang/System", Cond.fieldLink RX1 18 "FrostPane$Pane" "melts" "[I", Cond.methodLink RX3 91 yX2_freezesBy, Cond.instanceMethod yX2_freezesBy]
def wsX3_comesAgainIn_r2 : List Cond := [Cond.selects RX2 yX2_freezesBy yX2_freezesBy, Cond.initialized RX2, Cond.code yX2_freezesBy cX2_freezesBy 2 (some .int), Cond.fieldLink RX2 9 "FrostPane$RuleBook" "freezes" "[I", Cond.methodLink RX2 22 yX2_has, Cond.instanceMethod yX2_has, Cond.selects RX2 yX2_has yX2_has, Cond.code yX2_has cX2_has 2 (some .boolean), Cond.fieldLink RX2 18 "FrostPane$RuleBook" "count" "I", Cond.methodLink RX3 95 yX2_staysBy, Cond.instanceMethod yX2_staysBy, Cond.selects RX2 yX2_staysBy yX2_staysBy, Cond.code yX2_staysBy cX2_staysBy 2 (some .int), Cond.fieldLink RX2 15 "FrostPane$RuleBook" "stays" "[I", Cond.methodLink RX3 98 yX1_step, Cond.instanceMethod yX1_step, Cond.selects RX1 yX1_step yX1_step, Cond.code yX1_step cX1_step 4 (some .boolean), Cond.fieldLink RX1 15 "FrostPane$Pane" "frostNext" "[I", Cond.methodLink RX1 83 yX1_grownRow, Cond.instanceMethod yX1_grownRow, Cond.selects RX1 yX1_grownRow yX1_grownRow, Cond.code yX1_grownRow cX1_grownRow 11 (some .int), Cond.methodLink RX1 76 yX1_framed]
def wsX3_comesAgainIn_r3 : List Cond := [Cond.instanceMethod yX1_framed, Cond.selects RX1 yX1_framed yX1_framed, Cond.code yX1_framed cX1_framed 2 (some .int), Cond.methodLink RX1 56 yX1_hasRow, Cond.instanceMethod yX1_hasRow, Cond.selects RX1 yX1_hasRow yX1_hasRow, Cond.code yX1_hasRow cX1_hasRow 2 (some .boolean), Cond.methodLink RX1 49 yX1_bitsOf, Cond.instanceMethod yX1_bitsOf, Cond.selects RX1 yX1_bitsOf yX1_bitsOf, Cond.code yX1_bitsOf cX1_bitsOf 2 (some .int), Cond.methodLink RX1 94 yX1_withSides, Cond.instanceMethod yX1_withSides, Cond.selects RX1 yX1_withSides yX1_withSides, Cond.code yX1_withSides cX1_withSides 4 (some .int), Cond.methodLink RX1 64 yX1_hasFrost, Cond.instanceMethod yX1_hasFrost, Cond.selects RX1 yX1_hasFrost yX1_hasFrost, Cond.code yX1_hasFrost cX1_hasFrost 3 (some .boolean), Cond.methodLink RX1 79 yX1_countIn, Cond.static yX1_countIn, Cond.code yX1_countIn cX1_countIn 4 (some .int), Cond.methodLink RX1 71 yJ6_bitCount_0f7a4, Cond.static yJ6_bitCount_0f7a4]
def wsX3_comesAgainIn_r4 : List Cond := [Cond.initialized RJ6, Cond.code yJ6_bitCount_0f7a4 cJ6_bitCount_0f7a4 1 (some .int), Cond.constant RJ6 265 (1431655765), Cond.constant RJ6 266 (858993459), Cond.constant RJ6 267 (252645135), Cond.methodLink RX1 53 yX1_meltOf, Cond.instanceMethod yX1_meltOf, Cond.selects RX1 yX1_meltOf yX1_meltOf, Cond.code yX1_meltOf cX1_meltOf 4 (some .int), Cond.methodLink RX1 87 yX1_meltLess, Cond.instanceMethod yX1_meltLess, Cond.selects RX1 yX1_meltLess yX1_meltLess, Cond.code yX1_meltLess cX1_meltLess 2 none, Cond.methodLink RX1 90 yX1_takeNext, Cond.instanceMethod yX1_takeNext, Cond.selects RX1 yX1_takeNext yX1_takeNext, Cond.code yX1_takeNext cX1_takeNext 3 (some .boolean), Cond.methodLink RX3 158 yX1_isLike, Cond.instanceMethod yX1_isLike, Cond.selects RX1 yX1_isLike yX1_isLike, Cond.code yX1_isLike cX1_isLike 4 (some .boolean)]
def wsX3_comesAgainIn : List Cond := .code yX3_comesAgainIn cX3_comesAgainIn 2 (some .int) :: ((wsX3_comesAgainIn_r1 ++ (wsX3_comesAgainIn_r2 ++ (wsX3_comesAgainIn_r3 ++ wsX3_comesAgainIn_r4))) ++ wsX30 ++ wsX10 ++ wsX20)
def wsX3_standsStillIn_r1 : List Cond := [Cond.fieldLink RX3 16 "FrostPane" "ahead" "LFrostPane$Pane;", Cond.fieldLink RX3 10 "FrostPane" "now" "LFrostPane$Pane;", Cond.fieldLink RX3 29 "FrostPane" "book" "LFrostPane$RuleBook;", Cond.fieldLink RX3 88 "FrostPane" "breath" "I", Cond.methodLink RX3 155 yX1_becomeLike, Cond.instanceMethod yX1_becomeLike, Cond.selects RX1 yX1_becomeLike yX1_becomeLike, Cond.initialized RX1, Cond.code yX1_becomeLike cX1_becomeLike 2 none, Cond.fieldLink RX1 21 "FrostPane$Pane" "columns" "I", Cond.fieldLink RX1 25 "FrostPane$Pane" "rows" "I", Cond.fieldLink RX1 34 "FrostPane$Pane" "frame" "I", Cond.fieldLink RX1 9 "FrostPane$Pane" "frost" "[I", Cond.methodLink RX1 37 Lib.Math.min.name, Cond.static Lib.Math.min.name, Cond.initialized "java/lang/Math", Cond.code Lib.Math.min.name Lib.Math.min.code 2 (some .int), Cond.methodLink RX1 43 arraycopyName, Cond.native arraycopyName, Cond.static arraycopyName, Cond.initialized "java/lang/System", Cond.fieldLink RX1 18 "FrostPane$Pane" "melts" "[I", Cond.methodLink RX3 117 yX1_countMelted, Cond.instanceMethod yX1_countMelted]
def wsX3_standsStillIn_r2 : List Cond := [Cond.selects RX1 yX1_countMelted yX1_countMelted, Cond.code yX1_countMelted cX1_countMelted 3 (some .int), Cond.methodLink RX3 91 yX2_freezesBy, Cond.instanceMethod yX2_freezesBy, Cond.selects RX2 yX2_freezesBy yX2_freezesBy, Cond.initialized RX2, Cond.code yX2_freezesBy cX2_freezesBy 2 (some .int), Cond.fieldLink RX2 9 "FrostPane$RuleBook" "freezes" "[I", Cond.methodLink RX2 22 yX2_has, Cond.instanceMethod yX2_has, Cond.selects RX2 yX2_has yX2_has, Cond.code yX2_has cX2_has 2 (some .boolean), Cond.fieldLink RX2 18 "FrostPane$RuleBook" "count" "I", Cond.methodLink RX3 95 yX2_staysBy, Cond.instanceMethod yX2_staysBy, Cond.selects RX2 yX2_staysBy yX2_staysBy, Cond.code yX2_staysBy cX2_staysBy 2 (some .int), Cond.fieldLink RX2 15 "FrostPane$RuleBook" "stays" "[I", Cond.methodLink RX3 98 yX1_step, Cond.instanceMethod yX1_step, Cond.selects RX1 yX1_step yX1_step, Cond.code yX1_step cX1_step 4 (some .boolean), Cond.fieldLink RX1 15 "FrostPane$Pane" "frostNext" "[I", Cond.methodLink RX1 83 yX1_grownRow]
def wsX3_standsStillIn_r3 : List Cond := [Cond.instanceMethod yX1_grownRow, Cond.selects RX1 yX1_grownRow yX1_grownRow, Cond.code yX1_grownRow cX1_grownRow 11 (some .int), Cond.methodLink RX1 76 yX1_framed, Cond.instanceMethod yX1_framed, Cond.selects RX1 yX1_framed yX1_framed, Cond.code yX1_framed cX1_framed 2 (some .int), Cond.methodLink RX1 56 yX1_hasRow, Cond.instanceMethod yX1_hasRow, Cond.selects RX1 yX1_hasRow yX1_hasRow, Cond.code yX1_hasRow cX1_hasRow 2 (some .boolean), Cond.methodLink RX1 49 yX1_bitsOf, Cond.instanceMethod yX1_bitsOf, Cond.selects RX1 yX1_bitsOf yX1_bitsOf, Cond.code yX1_bitsOf cX1_bitsOf 2 (some .int), Cond.methodLink RX1 94 yX1_withSides, Cond.instanceMethod yX1_withSides, Cond.selects RX1 yX1_withSides yX1_withSides, Cond.code yX1_withSides cX1_withSides 4 (some .int), Cond.methodLink RX1 64 yX1_hasFrost, Cond.instanceMethod yX1_hasFrost, Cond.selects RX1 yX1_hasFrost yX1_hasFrost, Cond.code yX1_hasFrost cX1_hasFrost 3 (some .boolean), Cond.methodLink RX1 79 yX1_countIn]
def wsX3_standsStillIn_r4 : List Cond := [Cond.static yX1_countIn, Cond.code yX1_countIn cX1_countIn 4 (some .int), Cond.methodLink RX1 71 yJ6_bitCount_0f7a4, Cond.static yJ6_bitCount_0f7a4, Cond.initialized RJ6, Cond.code yJ6_bitCount_0f7a4 cJ6_bitCount_0f7a4 1 (some .int), Cond.constant RJ6 265 (1431655765), Cond.constant RJ6 266 (858993459), Cond.constant RJ6 267 (252645135), Cond.methodLink RX1 53 yX1_meltOf, Cond.instanceMethod yX1_meltOf, Cond.selects RX1 yX1_meltOf yX1_meltOf, Cond.code yX1_meltOf cX1_meltOf 4 (some .int), Cond.methodLink RX1 87 yX1_meltLess, Cond.instanceMethod yX1_meltLess, Cond.selects RX1 yX1_meltLess yX1_meltLess, Cond.code yX1_meltLess cX1_meltLess 2 none, Cond.methodLink RX1 90 yX1_takeNext, Cond.instanceMethod yX1_takeNext, Cond.selects RX1 yX1_takeNext yX1_takeNext, Cond.code yX1_takeNext cX1_takeNext 3 (some .boolean)]
def wsX3_standsStillIn : List Cond := .code yX3_standsStillIn cX3_standsStillIn 4 (some .int) :: ((wsX3_standsStillIn_r1 ++ (wsX3_standsStillIn_r2 ++ (wsX3_standsStillIn_r3 ++ wsX3_standsStillIn_r4))) ++ wsX30 ++ wsX10 ++ wsX20)
def wsX3_peakIn_r1 : List Cond := [Cond.fieldLink RX3 16 "FrostPane" "ahead" "LFrostPane$Pane;", Cond.fieldLink RX3 10 "FrostPane" "now" "LFrostPane$Pane;", Cond.fieldLink RX3 29 "FrostPane" "book" "LFrostPane$RuleBook;", Cond.fieldLink RX3 88 "FrostPane" "breath" "I", Cond.methodLink RX3 41 yX3_requireWithin, Cond.static yX3_requireWithin, Cond.initialized RX3, Cond.code yX3_requireWithin cX3_requireWithin 3 none, Cond.classLink RX3 233 "java/lang/IllegalArgumentException", Cond.initialized "java/lang/IllegalArgumentException", Cond.methodLink RX3 155 yX1_becomeLike, Cond.instanceMethod yX1_becomeLike, Cond.selects RX1 yX1_becomeLike yX1_becomeLike, Cond.initialized RX1, Cond.code yX1_becomeLike cX1_becomeLike 2 none, Cond.fieldLink RX1 21 "FrostPane$Pane" "columns" "I", Cond.fieldLink RX1 25 "FrostPane$Pane" "rows" "I", Cond.fieldLink RX1 34 "FrostPane$Pane" "frame" "I", Cond.fieldLink RX1 9 "FrostPane$Pane" "frost" "[I", Cond.methodLink RX1 37 Lib.Math.min.name, Cond.static Lib.Math.min.name, Cond.initialized "java/lang/Math", Cond.code Lib.Math.min.name Lib.Math.min.code 2 (some .int), Cond.methodLink RX1 43 arraycopyName]
def wsX3_peakIn_r2 : List Cond := [Cond.native arraycopyName, Cond.static arraycopyName, Cond.initialized "java/lang/System", Cond.fieldLink RX1 18 "FrostPane$Pane" "melts" "[I", Cond.methodLink RX3 104 yX1_countFrost, Cond.instanceMethod yX1_countFrost, Cond.selects RX1 yX1_countFrost yX1_countFrost, Cond.code yX1_countFrost cX1_countFrost 3 (some .int), Cond.methodLink RX1 49 yX1_bitsOf, Cond.instanceMethod yX1_bitsOf, Cond.selects RX1 yX1_bitsOf yX1_bitsOf, Cond.code yX1_bitsOf cX1_bitsOf 2 (some .int), Cond.methodLink RX1 71 yJ6_bitCount_0f7a4, Cond.static yJ6_bitCount_0f7a4, Cond.initialized RJ6, Cond.code yJ6_bitCount_0f7a4 cJ6_bitCount_0f7a4 1 (some .int), Cond.constant RJ6 265 (1431655765), Cond.constant RJ6 266 (858993459), Cond.constant RJ6 267 (252645135), Cond.methodLink RX3 91 yX2_freezesBy, Cond.instanceMethod yX2_freezesBy, Cond.selects RX2 yX2_freezesBy yX2_freezesBy, Cond.initialized RX2, Cond.code yX2_freezesBy cX2_freezesBy 2 (some .int)]
def wsX3_peakIn_r3 : List Cond := [Cond.fieldLink RX2 9 "FrostPane$RuleBook" "freezes" "[I", Cond.methodLink RX2 22 yX2_has, Cond.instanceMethod yX2_has, Cond.selects RX2 yX2_has yX2_has, Cond.code yX2_has cX2_has 2 (some .boolean), Cond.fieldLink RX2 18 "FrostPane$RuleBook" "count" "I", Cond.methodLink RX3 95 yX2_staysBy, Cond.instanceMethod yX2_staysBy, Cond.selects RX2 yX2_staysBy yX2_staysBy, Cond.code yX2_staysBy cX2_staysBy 2 (some .int), Cond.fieldLink RX2 15 "FrostPane$RuleBook" "stays" "[I", Cond.methodLink RX3 98 yX1_step, Cond.instanceMethod yX1_step, Cond.selects RX1 yX1_step yX1_step, Cond.code yX1_step cX1_step 4 (some .boolean), Cond.fieldLink RX1 15 "FrostPane$Pane" "frostNext" "[I", Cond.methodLink RX1 83 yX1_grownRow, Cond.instanceMethod yX1_grownRow, Cond.selects RX1 yX1_grownRow yX1_grownRow, Cond.code yX1_grownRow cX1_grownRow 11 (some .int), Cond.methodLink RX1 76 yX1_framed, Cond.instanceMethod yX1_framed, Cond.selects RX1 yX1_framed yX1_framed, Cond.code yX1_framed cX1_framed 2 (some .int)]
def wsX3_peakIn_r4 : List Cond := [Cond.methodLink RX1 56 yX1_hasRow, Cond.instanceMethod yX1_hasRow, Cond.selects RX1 yX1_hasRow yX1_hasRow, Cond.code yX1_hasRow cX1_hasRow 2 (some .boolean), Cond.methodLink RX1 94 yX1_withSides, Cond.instanceMethod yX1_withSides, Cond.selects RX1 yX1_withSides yX1_withSides, Cond.code yX1_withSides cX1_withSides 4 (some .int), Cond.methodLink RX1 64 yX1_hasFrost, Cond.instanceMethod yX1_hasFrost, Cond.selects RX1 yX1_hasFrost yX1_hasFrost, Cond.code yX1_hasFrost cX1_hasFrost 3 (some .boolean), Cond.methodLink RX1 79 yX1_countIn, Cond.static yX1_countIn, Cond.code yX1_countIn cX1_countIn 4 (some .int), Cond.methodLink RX1 53 yX1_meltOf, Cond.instanceMethod yX1_meltOf, Cond.selects RX1 yX1_meltOf yX1_meltOf, Cond.code yX1_meltOf cX1_meltOf 4 (some .int), Cond.methodLink RX1 87 yX1_meltLess, Cond.instanceMethod yX1_meltLess, Cond.selects RX1 yX1_meltLess yX1_meltLess, Cond.code yX1_meltLess cX1_meltLess 2 none, Cond.methodLink RX1 90 yX1_takeNext]
def wsX3_peakIn_r5 : List Cond := [Cond.instanceMethod yX1_takeNext, Cond.selects RX1 yX1_takeNext yX1_takeNext, Cond.code yX1_takeNext cX1_takeNext 3 (some .boolean)]
def wsX3_peakIn : List Cond := .code yX3_peakIn cX3_peakIn 6 (some .int) :: ((wsX3_peakIn_r1 ++ (wsX3_peakIn_r2 ++ (wsX3_peakIn_r3 ++ (wsX3_peakIn_r4 ++ wsX3_peakIn_r5)))) ++ wsX30 ++ wsX10 ++ wsX20 ++ (vx_atS RX3 237 "java/lang/IllegalArgumentException" ["java/lang/RuntimeException", "java/lang/Exception"]).filter goodWord)
def wsX3_frostBehind_r1 : List Cond := [Cond.fieldLink RX3 16 "FrostPane" "ahead" "LFrostPane$Pane;", Cond.fieldLink RX3 10 "FrostPane" "now" "LFrostPane$Pane;", Cond.fieldLink RX3 29 "FrostPane" "book" "LFrostPane$RuleBook;", Cond.methodLink RX3 155 yX1_becomeLike, Cond.instanceMethod yX1_becomeLike, Cond.selects RX1 yX1_becomeLike yX1_becomeLike, Cond.initialized RX1, Cond.code yX1_becomeLike cX1_becomeLike 2 none, Cond.fieldLink RX1 21 "FrostPane$Pane" "columns" "I", Cond.fieldLink RX1 25 "FrostPane$Pane" "rows" "I", Cond.fieldLink RX1 34 "FrostPane$Pane" "frame" "I", Cond.fieldLink RX1 9 "FrostPane$Pane" "frost" "[I", Cond.methodLink RX1 37 Lib.Math.min.name, Cond.static Lib.Math.min.name, Cond.initialized "java/lang/Math", Cond.code Lib.Math.min.name Lib.Math.min.code 2 (some .int), Cond.methodLink RX1 43 arraycopyName, Cond.native arraycopyName, Cond.static arraycopyName, Cond.initialized "java/lang/System", Cond.fieldLink RX1 18 "FrostPane$Pane" "melts" "[I", Cond.methodLink RX3 91 yX2_freezesBy, Cond.instanceMethod yX2_freezesBy, Cond.selects RX2 yX2_freezesBy yX2_freezesBy]
def wsX3_frostBehind_r2 : List Cond := [Cond.initialized RX2, Cond.code yX2_freezesBy cX2_freezesBy 2 (some .int), Cond.fieldLink RX2 9 "FrostPane$RuleBook" "freezes" "[I", Cond.methodLink RX2 22 yX2_has, Cond.instanceMethod yX2_has, Cond.selects RX2 yX2_has yX2_has, Cond.code yX2_has cX2_has 2 (some .boolean), Cond.fieldLink RX2 18 "FrostPane$RuleBook" "count" "I", Cond.methodLink RX3 95 yX2_staysBy, Cond.instanceMethod yX2_staysBy, Cond.selects RX2 yX2_staysBy yX2_staysBy, Cond.code yX2_staysBy cX2_staysBy 2 (some .int), Cond.fieldLink RX2 15 "FrostPane$RuleBook" "stays" "[I", Cond.methodLink RX3 98 yX1_step, Cond.instanceMethod yX1_step, Cond.selects RX1 yX1_step yX1_step, Cond.code yX1_step cX1_step 4 (some .boolean), Cond.fieldLink RX1 15 "FrostPane$Pane" "frostNext" "[I", Cond.methodLink RX1 83 yX1_grownRow, Cond.instanceMethod yX1_grownRow, Cond.selects RX1 yX1_grownRow yX1_grownRow, Cond.code yX1_grownRow cX1_grownRow 11 (some .int), Cond.methodLink RX1 76 yX1_framed, Cond.instanceMethod yX1_framed]
def wsX3_frostBehind_r3 : List Cond := [Cond.selects RX1 yX1_framed yX1_framed, Cond.code yX1_framed cX1_framed 2 (some .int), Cond.methodLink RX1 56 yX1_hasRow, Cond.instanceMethod yX1_hasRow, Cond.selects RX1 yX1_hasRow yX1_hasRow, Cond.code yX1_hasRow cX1_hasRow 2 (some .boolean), Cond.methodLink RX1 49 yX1_bitsOf, Cond.instanceMethod yX1_bitsOf, Cond.selects RX1 yX1_bitsOf yX1_bitsOf, Cond.code yX1_bitsOf cX1_bitsOf 2 (some .int), Cond.methodLink RX1 94 yX1_withSides, Cond.instanceMethod yX1_withSides, Cond.selects RX1 yX1_withSides yX1_withSides, Cond.code yX1_withSides cX1_withSides 4 (some .int), Cond.methodLink RX1 64 yX1_hasFrost, Cond.instanceMethod yX1_hasFrost, Cond.selects RX1 yX1_hasFrost yX1_hasFrost, Cond.code yX1_hasFrost cX1_hasFrost 3 (some .boolean), Cond.methodLink RX1 79 yX1_countIn, Cond.static yX1_countIn, Cond.code yX1_countIn cX1_countIn 4 (some .int), Cond.methodLink RX1 71 yJ6_bitCount_0f7a4, Cond.static yJ6_bitCount_0f7a4, Cond.initialized RJ6]
def wsX3_frostBehind_r4 : List Cond := [Cond.code yJ6_bitCount_0f7a4 cJ6_bitCount_0f7a4 1 (some .int), Cond.constant RJ6 265 (1431655765), Cond.constant RJ6 266 (858993459), Cond.constant RJ6 267 (252645135), Cond.methodLink RX1 53 yX1_meltOf, Cond.instanceMethod yX1_meltOf, Cond.selects RX1 yX1_meltOf yX1_meltOf, Cond.code yX1_meltOf cX1_meltOf 4 (some .int), Cond.methodLink RX1 87 yX1_meltLess, Cond.instanceMethod yX1_meltLess, Cond.selects RX1 yX1_meltLess yX1_meltLess, Cond.code yX1_meltLess cX1_meltLess 2 none, Cond.methodLink RX1 90 yX1_takeNext, Cond.instanceMethod yX1_takeNext, Cond.selects RX1 yX1_takeNext yX1_takeNext, Cond.code yX1_takeNext cX1_takeNext 3 (some .boolean), Cond.methodLink RX3 104 yX1_countFrost, Cond.instanceMethod yX1_countFrost, Cond.selects RX1 yX1_countFrost yX1_countFrost, Cond.code yX1_countFrost cX1_countFrost 3 (some .int)]
def wsX3_frostBehind : List Cond := .code yX3_frostBehind cX3_frostBehind 4 (some .int) :: ((wsX3_frostBehind_r1 ++ (wsX3_frostBehind_r2 ++ (wsX3_frostBehind_r3 ++ wsX3_frostBehind_r4))) ++ wsX30 ++ wsX10 ++ wsX20)
def wsX3_bestBreath_r1 : List Cond := [Cond.fieldLink RX3 29 "FrostPane" "book" "LFrostPane$RuleBook;", Cond.methodLink RX3 41 yX3_requireWithin, Cond.static yX3_requireWithin, Cond.initialized RX3, Cond.code yX3_requireWithin cX3_requireWithin 3 none, Cond.classLink RX3 233 "java/lang/IllegalArgumentException", Cond.initialized "java/lang/IllegalArgumentException", Cond.methodLink RX3 152 yX3_frostBehind, Cond.instanceMethod yX3_frostBehind, Cond.selects RX3 yX3_frostBehind yX3_frostBehind, Cond.code yX3_frostBehind cX3_frostBehind 4 (some .int), Cond.fieldLink RX3 16 "FrostPane" "ahead" "LFrostPane$Pane;", Cond.fieldLink RX3 10 "FrostPane" "now" "LFrostPane$Pane;", Cond.methodLink RX3 155 yX1_becomeLike, Cond.instanceMethod yX1_becomeLike, Cond.selects RX1 yX1_becomeLike yX1_becomeLike, Cond.initialized RX1, Cond.code yX1_becomeLike cX1_becomeLike 2 none, Cond.fieldLink RX1 21 "FrostPane$Pane" "columns" "I", Cond.fieldLink RX1 25 "FrostPane$Pane" "rows" "I", Cond.fieldLink RX1 34 "FrostPane$Pane" "frame" "I", Cond.fieldLink RX1 9 "FrostPane$Pane" "frost" "[I", Cond.methodLink RX1 37 Lib.Math.min.name, Cond.static Lib.Math.min.name]
def wsX3_bestBreath_r2 : List Cond := [Cond.initialized "java/lang/Math", Cond.code Lib.Math.min.name Lib.Math.min.code 2 (some .int), Cond.methodLink RX1 43 arraycopyName, Cond.native arraycopyName, Cond.static arraycopyName, Cond.initialized "java/lang/System", Cond.fieldLink RX1 18 "FrostPane$Pane" "melts" "[I", Cond.methodLink RX3 91 yX2_freezesBy, Cond.instanceMethod yX2_freezesBy, Cond.selects RX2 yX2_freezesBy yX2_freezesBy, Cond.initialized RX2, Cond.code yX2_freezesBy cX2_freezesBy 2 (some .int), Cond.fieldLink RX2 9 "FrostPane$RuleBook" "freezes" "[I", Cond.methodLink RX2 22 yX2_has, Cond.instanceMethod yX2_has, Cond.selects RX2 yX2_has yX2_has, Cond.code yX2_has cX2_has 2 (some .boolean), Cond.fieldLink RX2 18 "FrostPane$RuleBook" "count" "I", Cond.methodLink RX3 95 yX2_staysBy, Cond.instanceMethod yX2_staysBy, Cond.selects RX2 yX2_staysBy yX2_staysBy, Cond.code yX2_staysBy cX2_staysBy 2 (some .int), Cond.fieldLink RX2 15 "FrostPane$RuleBook" "stays" "[I", Cond.methodLink RX3 98 yX1_step]
def wsX3_bestBreath_r3 : List Cond := [Cond.instanceMethod yX1_step, Cond.selects RX1 yX1_step yX1_step, Cond.code yX1_step cX1_step 4 (some .boolean), Cond.fieldLink RX1 15 "FrostPane$Pane" "frostNext" "[I", Cond.methodLink RX1 83 yX1_grownRow, Cond.instanceMethod yX1_grownRow, Cond.selects RX1 yX1_grownRow yX1_grownRow, Cond.code yX1_grownRow cX1_grownRow 11 (some .int), Cond.methodLink RX1 76 yX1_framed, Cond.instanceMethod yX1_framed, Cond.selects RX1 yX1_framed yX1_framed, Cond.code yX1_framed cX1_framed 2 (some .int), Cond.methodLink RX1 56 yX1_hasRow, Cond.instanceMethod yX1_hasRow, Cond.selects RX1 yX1_hasRow yX1_hasRow, Cond.code yX1_hasRow cX1_hasRow 2 (some .boolean), Cond.methodLink RX1 49 yX1_bitsOf, Cond.instanceMethod yX1_bitsOf, Cond.selects RX1 yX1_bitsOf yX1_bitsOf, Cond.code yX1_bitsOf cX1_bitsOf 2 (some .int), Cond.methodLink RX1 94 yX1_withSides, Cond.instanceMethod yX1_withSides, Cond.selects RX1 yX1_withSides yX1_withSides, Cond.code yX1_withSides cX1_withSides 4 (some .int)]
def wsX3_bestBreath_r4 : List Cond := [Cond.methodLink RX1 64 yX1_hasFrost, Cond.instanceMethod yX1_hasFrost, Cond.selects RX1 yX1_hasFrost yX1_hasFrost, Cond.code yX1_hasFrost cX1_hasFrost 3 (some .boolean), Cond.methodLink RX1 79 yX1_countIn, Cond.static yX1_countIn, Cond.code yX1_countIn cX1_countIn 4 (some .int), Cond.methodLink RX1 71 yJ6_bitCount_0f7a4, Cond.static yJ6_bitCount_0f7a4, Cond.initialized RJ6, Cond.code yJ6_bitCount_0f7a4 cJ6_bitCount_0f7a4 1 (some .int), Cond.constant RJ6 265 (1431655765), Cond.constant RJ6 266 (858993459), Cond.constant RJ6 267 (252645135), Cond.methodLink RX1 53 yX1_meltOf, Cond.instanceMethod yX1_meltOf, Cond.selects RX1 yX1_meltOf yX1_meltOf, Cond.code yX1_meltOf cX1_meltOf 4 (some .int), Cond.methodLink RX1 87 yX1_meltLess, Cond.instanceMethod yX1_meltLess, Cond.selects RX1 yX1_meltLess yX1_meltLess, Cond.code yX1_meltLess cX1_meltLess 2 none, Cond.methodLink RX1 90 yX1_takeNext, Cond.instanceMethod yX1_takeNext]
def wsX3_bestBreath_r5 : List Cond := [Cond.selects RX1 yX1_takeNext yX1_takeNext, Cond.code yX1_takeNext cX1_takeNext 3 (some .boolean), Cond.methodLink RX3 104 yX1_countFrost, Cond.instanceMethod yX1_countFrost, Cond.selects RX1 yX1_countFrost yX1_countFrost, Cond.code yX1_countFrost cX1_countFrost 3 (some .int)]
def wsX3_bestBreath : List Cond := .code yX3_bestBreath cX3_bestBreath 6 (some .int) :: ((wsX3_bestBreath_r1 ++ (wsX3_bestBreath_r2 ++ (wsX3_bestBreath_r3 ++ (wsX3_bestBreath_r4 ++ wsX3_bestBreath_r5)))) ++ wsX30 ++ wsX20 ++ wsX10 ++ (vx_atS RX3 237 "java/lang/IllegalArgumentException" ["java/lang/RuntimeException", "java/lang/Exception"]).filter goodWord)
def wsX3_meanInRows : List Cond := .code yX3_meanInRows cX3_meanInRows 2 (some .double) :: ([.fieldLink RX3 10 "FrostPane" "now" "LFrostPane$Pane;", .methodLink RX3 104 yX1_countFrost, .instanceMethod yX1_countFrost, .selects RX1 yX1_countFrost yX1_countFrost, .initialized RX1, .code yX1_countFrost cX1_countFrost 3 (some .int), .fieldLink RX1 25 "FrostPane$Pane" "rows" "I", .methodLink RX1 49 yX1_bitsOf, .instanceMethod yX1_bitsOf, .selects RX1 yX1_bitsOf yX1_bitsOf, .code yX1_bitsOf cX1_bitsOf 2 (some .int), .fieldLink RX1 9 "FrostPane$Pane" "frost" "[I", .methodLink RX1 71 yJ6_bitCount_0f7a4, .static yJ6_bitCount_0f7a4, .initialized RJ6, .code yJ6_bitCount_0f7a4 cJ6_bitCount_0f7a4 1 (some .int), .constant RJ6 265 (1431655765), .constant RJ6 266 (858993459), .constant RJ6 267 (252645135)] ++ wsX30 ++ wsX10)
def wsX3_mixed : List Cond := .code yX3_mixed cX3_mixed 4 (some .long) :: ([.constantLong RX3 226 (31)])
def wsX3_asNumber : List Cond := .code yX3_asNumber cX3_asNumber 1 (some .long) :: ([])
def wsX3_digestOfRow_r1 : List Cond := [Cond.fieldLink RX3 10 "FrostPane" "now" "LFrostPane$Pane;", Cond.methodLink RX3 211 yX3_frozenInRow, Cond.instanceMethod yX3_frozenInRow, Cond.selects RX3 yX3_frozenInRow yX3_frozenInRow, Cond.initialized RX3, Cond.code yX3_frozenInRow cX3_frozenInRow 2 (some .int), Cond.classLink RX3 83 "java/lang/IndexOutOfBoundsException", Cond.initialized "java/lang/IndexOutOfBoundsException", Cond.methodLink RX3 127 yX1_hasRow, Cond.instanceMethod yX1_hasRow, Cond.selects RX1 yX1_hasRow yX1_hasRow, Cond.initialized RX1, Cond.code yX1_hasRow cX1_hasRow 2 (some .boolean), Cond.fieldLink RX1 25 "FrostPane$Pane" "rows" "I", Cond.methodLink RX3 132 yX1_bitsOf, Cond.instanceMethod yX1_bitsOf, Cond.selects RX1 yX1_bitsOf yX1_bitsOf, Cond.code yX1_bitsOf cX1_bitsOf 2 (some .int), Cond.fieldLink RX1 9 "FrostPane$Pane" "frost" "[I", Cond.methodLink RX3 135 yJ6_bitCount_0f7a4, Cond.static yJ6_bitCount_0f7a4, Cond.initialized RJ6, Cond.code yJ6_bitCount_0f7a4 cJ6_bitCount_0f7a4 1 (some .int), Cond.constant RJ6 265 (1431655765)]
def wsX3_digestOfRow_r2 : List Cond := [Cond.constant RJ6 266 (858993459), Cond.constant RJ6 267 (252645135), Cond.methodLink RX3 166 yX3_mixed, Cond.static yX3_mixed, Cond.code yX3_mixed cX3_mixed 4 (some .long), Cond.constantLong RX3 226 (31), Cond.methodLink RX3 214 yX3_isFrozen, Cond.instanceMethod yX3_isFrozen, Cond.selects RX3 yX3_isFrozen yX3_isFrozen, Cond.code yX3_isFrozen cX3_isFrozen 3 (some .boolean), Cond.methodLink RX3 45 yX3_requireCell, Cond.instanceMethod yX3_requireCell, Cond.selects RX3 yX3_requireCell yX3_requireCell, Cond.code yX3_requireCell cX3_requireCell 3 none, Cond.methodLink RX3 228 yX1_hasCell, Cond.instanceMethod yX1_hasCell, Cond.selects RX1 yX1_hasCell yX1_hasCell, Cond.code yX1_hasCell cX1_hasCell 3 (some .boolean), Cond.fieldLink RX1 21 "FrostPane$Pane" "columns" "I", Cond.methodLink RX1 56 yX1_hasRow, Cond.methodLink RX3 61 yX1_hasFrost, Cond.instanceMethod yX1_hasFrost, Cond.selects RX1 yX1_hasFrost yX1_hasFrost, Cond.code yX1_hasFrost cX1_hasFrost 3 (some .boolean)]
def wsX3_digestOfRow_r3 : List Cond := [Cond.methodLink RX1 49 yX1_bitsOf, Cond.methodLink RX3 194 yX3_asNumber, Cond.static yX3_asNumber, Cond.code yX3_asNumber cX3_asNumber 1 (some .long), Cond.methodLink RX3 217 yX3_meltedFor, Cond.instanceMethod yX3_meltedFor, Cond.selects RX3 yX3_meltedFor yX3_meltedFor, Cond.code yX3_meltedFor cX3_meltedFor 3 (some .int), Cond.methodLink RX3 48 yX1_meltOf, Cond.instanceMethod yX1_meltOf, Cond.selects RX1 yX1_meltOf yX1_meltOf, Cond.code yX1_meltOf cX1_meltOf 4 (some .int), Cond.fieldLink RX1 18 "FrostPane$Pane" "melts" "[I", Cond.methodLink RX3 220 yX3_around, Cond.instanceMethod yX3_around, Cond.selects RX3 yX3_around yX3_around, Cond.code yX3_around cX3_around 3 (some .int), Cond.methodLink RX3 120 yX1_countAround, Cond.instanceMethod yX1_countAround, Cond.selects RX1 yX1_countAround yX1_countAround, Cond.code yX1_countAround cX1_countAround 3 (some .int), Cond.methodLink RX1 76 yX1_framed, Cond.instanceMethod yX1_framed, Cond.selects RX1 yX1_framed yX1_framed]
def wsX3_digestOfRow_r4 : List Cond := [Cond.code yX1_framed cX1_framed 2 (some .int), Cond.fieldLink RX1 34 "FrostPane$Pane" "frame" "I", Cond.methodLink RX1 94 yX1_withSides, Cond.instanceMethod yX1_withSides, Cond.selects RX1 yX1_withSides yX1_withSides, Cond.code yX1_withSides cX1_withSides 4 (some .int), Cond.methodLink RX1 79 yX1_countIn, Cond.static yX1_countIn, Cond.code yX1_countIn cX1_countIn 4 (some .int), Cond.methodLink RX1 71 yJ6_bitCount_0f7a4, Cond.methodLink RX3 223 yX3_willFreeze, Cond.instanceMethod yX3_willFreeze, Cond.selects RX3 yX3_willFreeze yX3_willFreeze, Cond.code yX3_willFreeze cX3_willFreeze 3 (some .boolean), Cond.fieldLink RX3 29 "FrostPane" "book" "LFrostPane$RuleBook;", Cond.fieldLink RX3 88 "FrostPane" "breath" "I", Cond.methodLink RX3 91 yX2_freezesBy, Cond.instanceMethod yX2_freezesBy, Cond.selects RX2 yX2_freezesBy yX2_freezesBy, Cond.initialized RX2, Cond.code yX2_freezesBy cX2_freezesBy 2 (some .int), Cond.fieldLink RX2 9 "FrostPane$RuleBook" "freezes" "[I", Cond.methodLink RX2 22 yX2_has, Cond.instanceMethod yX2_has]
def wsX3_digestOfRow_r5 : List Cond := [Cond.selects RX2 yX2_has yX2_has, Cond.code yX2_has cX2_has 2 (some .boolean), Cond.fieldLink RX2 18 "FrostPane$RuleBook" "count" "I", Cond.methodLink RX3 95 yX2_staysBy, Cond.instanceMethod yX2_staysBy, Cond.selects RX2 yX2_staysBy yX2_staysBy, Cond.code yX2_staysBy cX2_staysBy 2 (some .int), Cond.fieldLink RX2 15 "FrostPane$RuleBook" "stays" "[I", Cond.methodLink RX3 123 yX1_isFrozenNext, Cond.instanceMethod yX1_isFrozenNext, Cond.selects RX1 yX1_isFrozenNext yX1_isFrozenNext, Cond.code yX1_isFrozenNext cX1_isFrozenNext 5 (some .boolean), Cond.methodLink RX1 83 yX1_grownRow, Cond.instanceMethod yX1_grownRow, Cond.selects RX1 yX1_grownRow yX1_grownRow, Cond.code yX1_grownRow cX1_grownRow 11 (some .int), Cond.methodLink RX1 64 yX1_hasFrost, Cond.methodLink RX1 53 yX1_meltOf]
def wsX3_digestOfRow : List Cond := .code yX3_digestOfRow cX3_digestOfRow 7 (some .long) :: ((wsX3_digestOfRow_r1 ++ (wsX3_digestOfRow_r2 ++ (wsX3_digestOfRow_r3 ++ (wsX3_digestOfRow_r4 ++ wsX3_digestOfRow_r5)))) ++ wsX30 ++ wsX10 ++ wsX20 ++ (vx_atS RX3 87 "java/lang/IndexOutOfBoundsException" ["java/lang/RuntimeException", "java/lang/Exception"]).filter goodWord)
def wsX3_digest_r1 : List Cond := [Cond.constantLong RX3 162 (2203), Cond.fieldLink RX3 10 "FrostPane" "now" "LFrostPane$Pane;", Cond.methodLink RX3 164 yX3_columns, Cond.instanceMethod yX3_columns, Cond.selects RX3 yX3_columns yX3_columns, Cond.initialized RX3, Cond.code yX3_columns cX3_columns 1 (some .int), Cond.methodLink RX3 166 yX3_mixed, Cond.static yX3_mixed, Cond.code yX3_mixed cX3_mixed 4 (some .long), Cond.constantLong RX3 226 (31), Cond.methodLink RX3 170 yX3_rows, Cond.instanceMethod yX3_rows, Cond.selects RX3 yX3_rows yX3_rows, Cond.code yX3_rows cX3_rows 1 (some .int), Cond.methodLink RX3 172 yX3_generation, Cond.instanceMethod yX3_generation, Cond.selects RX3 yX3_generation yX3_generation, Cond.code yX3_generation cX3_generation 1 (some .int), Cond.fieldLink RX3 101 "FrostPane" "generation" "I", Cond.methodLink RX3 174 yX3_rules, Cond.instanceMethod yX3_rules, Cond.selects RX3 yX3_rules yX3_rules, Cond.code yX3_rules cX3_rules 1 (some .int)]
def wsX3_digest_r2 : List Cond := [Cond.fieldLink RX3 29 "FrostPane" "book" "LFrostPane$RuleBook;", Cond.methodLink RX3 177 yX3_breath, Cond.instanceMethod yX3_breath, Cond.selects RX3 yX3_breath yX3_breath, Cond.code yX3_breath cX3_breath 1 (some .int), Cond.fieldLink RX3 88 "FrostPane" "breath" "I", Cond.methodLink RX3 179 yX3_frozen, Cond.instanceMethod yX3_frozen, Cond.selects RX3 yX3_frozen yX3_frozen, Cond.code yX3_frozen cX3_frozen 1 (some .int), Cond.methodLink RX3 104 yX1_countFrost, Cond.instanceMethod yX1_countFrost, Cond.selects RX1 yX1_countFrost yX1_countFrost, Cond.initialized RX1, Cond.code yX1_countFrost cX1_countFrost 3 (some .int), Cond.fieldLink RX1 25 "FrostPane$Pane" "rows" "I", Cond.methodLink RX1 49 yX1_bitsOf, Cond.instanceMethod yX1_bitsOf, Cond.selects RX1 yX1_bitsOf yX1_bitsOf, Cond.code yX1_bitsOf cX1_bitsOf 2 (some .int), Cond.fieldLink RX1 9 "FrostPane$Pane" "frost" "[I", Cond.methodLink RX1 71 yJ6_bitCount_0f7a4, Cond.static yJ6_bitCount_0f7a4, Cond.initialized RJ6]
def wsX3_digest_r3 : List Cond := [Cond.code yJ6_bitCount_0f7a4 cJ6_bitCount_0f7a4 1 (some .int), Cond.constant RJ6 265 (1431655765), Cond.constant RJ6 266 (858993459), Cond.constant RJ6 267 (252645135), Cond.methodLink RX3 182 yX3_melted, Cond.instanceMethod yX3_melted, Cond.selects RX3 yX3_melted yX3_melted, Cond.code yX3_melted cX3_melted 1 (some .int), Cond.methodLink RX3 117 yX1_countMelted, Cond.instanceMethod yX1_countMelted, Cond.selects RX1 yX1_countMelted yX1_countMelted, Cond.code yX1_countMelted cX1_countMelted 3 (some .int), Cond.fieldLink RX1 18 "FrostPane$Pane" "melts" "[I", Cond.methodLink RX3 185 yX3_flowers, Cond.instanceMethod yX3_flowers, Cond.selects RX3 yX3_flowers yX3_flowers, Cond.code yX3_flowers cX3_flowers 4 (some .int), Cond.fieldLink RX3 22 "FrostPane" "picker" "LFrostPane$FlowerPicker;", Cond.methodLink RX3 140 yX0_spreadOut, Cond.instanceMethod yX0_spreadOut, Cond.selects RX0 yX0_spreadOut yX0_spreadOut, Cond.initialized RX0, Cond.code yX0_spreadOut cX0_spreadOut 3 none, Cond.fieldLink RX0 9 "FrostPane$FlowerPicker" "left" "[I"]
def wsX3_digest_r4 : List Cond := [Cond.methodLink RX0 18 yX1_bitsOf, Cond.methodLink RX3 144 yX0_pick, Cond.instanceMethod yX0_pick, Cond.selects RX0 yX0_pick yX0_pick, Cond.code yX0_pick cX0_pick 4 (some .int), Cond.fieldLink RX0 15 "FrostPane$FlowerPicker" "flower" "[I", Cond.methodLink RX0 24 yJ7_fill_53178, Cond.static yJ7_fill_53178, Cond.initialized RJ7, Cond.code yJ7_fill_53178 cJ7_fill_53178 4 none, Cond.methodLink RX0 30 yX0_widen, Cond.instanceMethod yX0_widen, Cond.selects RX0 yX0_widen yX0_widen, Cond.code yX0_widen cX0_widen 5 (some .boolean), Cond.methodLink RX0 38 yX0_flowerIn, Cond.instanceMethod yX0_flowerIn, Cond.selects RX0 yX0_flowerIn yX0_flowerIn, Cond.code yX0_flowerIn cX0_flowerIn 2 (some .int), Cond.methodLink RX0 34 yX0_takeAway, Cond.instanceMethod yX0_takeAway, Cond.selects RX0 yX0_takeAway yX0_takeAway, Cond.code yX0_takeAway cX0_takeAway 3 (some .int), Cond.methodLink RX0 41 yJ6_bitCount_0f7a4, Cond.methodLink RX3 188 yX3_largestFlower]
def wsX3_digest_r5 : List Cond := [Cond.instanceMethod yX3_largestFlower, Cond.selects RX3 yX3_largestFlower yX3_largestFlower, Cond.code yX3_largestFlower cX3_largestFlower 4 (some .int), Cond.methodLink RX3 147 Lib.Math.max.name, Cond.static Lib.Math.max.name, Cond.initialized "java/lang/Math", Cond.code Lib.Math.max.name Lib.Math.max.code 2 (some .int), Cond.methodLink RX3 191 yX3_isMirrored, Cond.instanceMethod yX3_isMirrored, Cond.selects RX3 yX3_isMirrored yX3_isMirrored, Cond.code yX3_isMirrored cX3_isMirrored 3 (some .boolean), Cond.methodLink RX3 61 yX1_hasFrost, Cond.instanceMethod yX1_hasFrost, Cond.selects RX1 yX1_hasFrost yX1_hasFrost, Cond.code yX1_hasFrost cX1_hasFrost 3 (some .boolean), Cond.methodLink RX3 194 yX3_asNumber, Cond.static yX3_asNumber, Cond.code yX3_asNumber cX3_asNumber 1 (some .long), Cond.methodLink RX3 198 yX3_comesAgainIn, Cond.instanceMethod yX3_comesAgainIn, Cond.selects RX3 yX3_comesAgainIn yX3_comesAgainIn, Cond.code yX3_comesAgainIn cX3_comesAgainIn 2 (some .int), Cond.fieldLink RX3 16 "FrostPane" "ahead" "LFrostPane$Pane;", Cond.methodLink RX3 155 yX1_becomeLike]
def wsX3_digest_r6 : List Cond := [Cond.instanceMethod yX1_becomeLike, Cond.selects RX1 yX1_becomeLike yX1_becomeLike, Cond.code yX1_becomeLike cX1_becomeLike 2 none, Cond.fieldLink RX1 21 "FrostPane$Pane" "columns" "I", Cond.fieldLink RX1 34 "FrostPane$Pane" "frame" "I", Cond.methodLink RX1 37 Lib.Math.min.name, Cond.static Lib.Math.min.name, Cond.code Lib.Math.min.name Lib.Math.min.code 2 (some .int), Cond.methodLink RX1 43 arraycopyName, Cond.native arraycopyName, Cond.static arraycopyName, Cond.initialized "java/lang/System", Cond.methodLink RX3 91 yX2_freezesBy, Cond.instanceMethod yX2_freezesBy, Cond.selects RX2 yX2_freezesBy yX2_freezesBy, Cond.initialized RX2, Cond.code yX2_freezesBy cX2_freezesBy 2 (some .int), Cond.fieldLink RX2 9 "FrostPane$RuleBook" "freezes" "[I", Cond.methodLink RX2 22 yX2_has, Cond.instanceMethod yX2_has, Cond.selects RX2 yX2_has yX2_has, Cond.code yX2_has cX2_has 2 (some .boolean), Cond.fieldLink RX2 18 "FrostPane$RuleBook" "count" "I", Cond.methodLink RX3 95 yX2_staysBy]
def wsX3_digest_r7 : List Cond := [Cond.instanceMethod yX2_staysBy, Cond.selects RX2 yX2_staysBy yX2_staysBy, Cond.code yX2_staysBy cX2_staysBy 2 (some .int), Cond.fieldLink RX2 15 "FrostPane$RuleBook" "stays" "[I", Cond.methodLink RX3 98 yX1_step, Cond.instanceMethod yX1_step, Cond.selects RX1 yX1_step yX1_step, Cond.code yX1_step cX1_step 4 (some .boolean), Cond.fieldLink RX1 15 "FrostPane$Pane" "frostNext" "[I", Cond.methodLink RX1 83 yX1_grownRow, Cond.instanceMethod yX1_grownRow, Cond.selects RX1 yX1_grownRow yX1_grownRow, Cond.code yX1_grownRow cX1_grownRow 11 (some .int), Cond.methodLink RX1 76 yX1_framed, Cond.instanceMethod yX1_framed, Cond.selects RX1 yX1_framed yX1_framed, Cond.code yX1_framed cX1_framed 2 (some .int), Cond.methodLink RX1 56 yX1_hasRow, Cond.instanceMethod yX1_hasRow, Cond.selects RX1 yX1_hasRow yX1_hasRow, Cond.code yX1_hasRow cX1_hasRow 2 (some .boolean), Cond.methodLink RX1 94 yX1_withSides, Cond.instanceMethod yX1_withSides, Cond.selects RX1 yX1_withSides yX1_withSides]
def wsX3_digest_r8 : List Cond := [Cond.code yX1_withSides cX1_withSides 4 (some .int), Cond.methodLink RX1 64 yX1_hasFrost, Cond.methodLink RX1 79 yX1_countIn, Cond.static yX1_countIn, Cond.code yX1_countIn cX1_countIn 4 (some .int), Cond.methodLink RX1 53 yX1_meltOf, Cond.instanceMethod yX1_meltOf, Cond.selects RX1 yX1_meltOf yX1_meltOf, Cond.code yX1_meltOf cX1_meltOf 4 (some .int), Cond.methodLink RX1 87 yX1_meltLess, Cond.instanceMethod yX1_meltLess, Cond.selects RX1 yX1_meltLess yX1_meltLess, Cond.code yX1_meltLess cX1_meltLess 2 none, Cond.methodLink RX1 90 yX1_takeNext, Cond.instanceMethod yX1_takeNext, Cond.selects RX1 yX1_takeNext yX1_takeNext, Cond.code yX1_takeNext cX1_takeNext 3 (some .boolean), Cond.methodLink RX3 158 yX1_isLike, Cond.instanceMethod yX1_isLike, Cond.selects RX1 yX1_isLike yX1_isLike, Cond.code yX1_isLike cX1_isLike 4 (some .boolean), Cond.methodLink RX3 201 yX3_standsStillIn, Cond.instanceMethod yX3_standsStillIn, Cond.selects RX3 yX3_standsStillIn yX3_standsStillIn]
def wsX3_digest_r9 : List Cond := [Cond.code yX3_standsStillIn cX3_standsStillIn 4 (some .int), Cond.methodLink RX3 204 yX3_bestBreath, Cond.instanceMethod yX3_bestBreath, Cond.selects RX3 yX3_bestBreath yX3_bestBreath, Cond.code yX3_bestBreath cX3_bestBreath 6 (some .int), Cond.methodLink RX3 41 yX3_requireWithin, Cond.static yX3_requireWithin, Cond.code yX3_requireWithin cX3_requireWithin 3 none, Cond.classLink RX3 233 "java/lang/IllegalArgumentException", Cond.initialized "java/lang/IllegalArgumentException", Cond.methodLink RX3 152 yX3_frostBehind, Cond.instanceMethod yX3_frostBehind, Cond.selects RX3 yX3_frostBehind yX3_frostBehind, Cond.code yX3_frostBehind cX3_frostBehind 4 (some .int), Cond.methodLink RX3 207 yX3_digestOfRow, Cond.instanceMethod yX3_digestOfRow, Cond.selects RX3 yX3_digestOfRow yX3_digestOfRow, Cond.code yX3_digestOfRow cX3_digestOfRow 7 (some .long), Cond.methodLink RX3 211 yX3_frozenInRow, Cond.instanceMethod yX3_frozenInRow, Cond.selects RX3 yX3_frozenInRow yX3_frozenInRow, Cond.code yX3_frozenInRow cX3_frozenInRow 2 (some .int), Cond.classLink RX3 83 "java/lang/IndexOutOfBoundsException", Cond.initialized "java/lang/IndexOutOfBoundsException"]
def wsX3_digest_r10 : List Cond := [Cond.methodLink RX3 127 yX1_hasRow, Cond.methodLink RX3 132 yX1_bitsOf, Cond.methodLink RX3 135 yJ6_bitCount_0f7a4, Cond.methodLink RX3 214 yX3_isFrozen, Cond.instanceMethod yX3_isFrozen, Cond.selects RX3 yX3_isFrozen yX3_isFrozen, Cond.code yX3_isFrozen cX3_isFrozen 3 (some .boolean), Cond.methodLink RX3 45 yX3_requireCell, Cond.instanceMethod yX3_requireCell, Cond.selects RX3 yX3_requireCell yX3_requireCell, Cond.code yX3_requireCell cX3_requireCell 3 none, Cond.methodLink RX3 228 yX1_hasCell, Cond.instanceMethod yX1_hasCell, Cond.selects RX1 yX1_hasCell yX1_hasCell, Cond.code yX1_hasCell cX1_hasCell 3 (some .boolean), Cond.methodLink RX3 217 yX3_meltedFor, Cond.instanceMethod yX3_meltedFor, Cond.selects RX3 yX3_meltedFor yX3_meltedFor, Cond.code yX3_meltedFor cX3_meltedFor 3 (some .int), Cond.methodLink RX3 48 yX1_meltOf, Cond.methodLink RX3 220 yX3_around, Cond.instanceMethod yX3_around, Cond.selects RX3 yX3_around yX3_around, Cond.code yX3_around cX3_around 3 (some .int)]
def wsX3_digest_r11 : List Cond := [Cond.methodLink RX3 120 yX1_countAround, Cond.instanceMethod yX1_countAround, Cond.selects RX1 yX1_countAround yX1_countAround, Cond.code yX1_countAround cX1_countAround 3 (some .int), Cond.methodLink RX3 223 yX3_willFreeze, Cond.instanceMethod yX3_willFreeze, Cond.selects RX3 yX3_willFreeze yX3_willFreeze, Cond.code yX3_willFreeze cX3_willFreeze 3 (some .boolean), Cond.methodLink RX3 123 yX1_isFrozenNext, Cond.instanceMethod yX1_isFrozenNext, Cond.selects RX1 yX1_isFrozenNext yX1_isFrozenNext, Cond.code yX1_isFrozenNext cX1_isFrozenNext 5 (some .boolean)]
def wsX3_digest : List Cond := .code yX3_digest cX3_digest 4 (some .long) :: ((wsX3_digest_r1 ++ (wsX3_digest_r2 ++ (wsX3_digest_r3 ++ (wsX3_digest_r4 ++ (wsX3_digest_r5 ++ (wsX3_digest_r6 ++ (wsX3_digest_r7 ++ (wsX3_digest_r8 ++ (wsX3_digest_r9 ++ (wsX3_digest_r10 ++ wsX3_digest_r11)))))))))) ++ wsX30 ++ wsX10 ++ wsX20 ++ wsX00 ++ (vx_atS RX3 237 "java/lang/IllegalArgumentException" ["java/lang/RuntimeException", "java/lang/Exception"]).filter goodWord ++ (vx_atS RX3 87 "java/lang/IndexOutOfBoundsException" ["java/lang/RuntimeException", "java/lang/Exception"]).filter goodWord)
def wsX4_init : List Cond := .code yX4_init cX4_init 1 none :: ([.methodLink RX4 1 objectInit, .instanceMethod objectInit, .code objectInit ⟨#[0xb1]⟩ 1 none, .classLink RX4 7 "[[Z", .arrayClass .boolean, .fieldLink RX4 9 "FrostPaneLaw$Sim" "ice" "[[Z", .classLink RX4 14 "[[I", .arrayClass .int, .fieldLink RX4 16 "FrostPaneLaw$Sim" "melt" "[[I", .classLink RX4 19 "[I", .fieldLink RX4 21 "FrostPaneLaw$Sim" "rules" "[[I"] ++ wsX40)
def wsX4_with : List Cond := .code yX4_with cX4_with 4 (some (.array (.array .int))) :: ([.classLink RX4 19 "[I"])
def wsX4_lay : List Cond := .code yX4_lay cX4_lay 3 none :: ([.classLink RX4 7 "[[Z", .arrayClass .boolean, .fieldLink RX4 9 "FrostPaneLaw$Sim" "ice" "[[Z", .classLink RX4 14 "[[I", .arrayClass .int, .fieldLink RX4 16 "FrostPaneLaw$Sim" "melt" "[[I"] ++ wsX40)
def wsX4_copy_r1 : List Cond := [Cond.classLink RX4 10 RX4, Cond.instantiable RX4 6, Cond.initialized RX4, Cond.fieldLink RX4 9 "FrostPaneLaw$Sim" "ice" "[[Z", Cond.methodLink RX4 29 ⟨"[Z", "clone", "()Ljava/lang/Object;"⟩, Cond.sameMethod "[Z" "java/lang/Object" "clone" "()Ljava/lang/Object;", Cond.native ⟨"java/lang/Object", "clone", "()Ljava/lang/Object;"⟩, Cond.instanceMethod ⟨"java/lang/Object", "clone", "()Ljava/lang/Object;"⟩, Cond.selects "[Z" ⟨"[Z", "clone", "()Ljava/lang/Object;"⟩ ⟨"java/lang/Object", "clone", "()Ljava/lang/Object;"⟩, Cond.classLink RX4 30 "[Z", Cond.fieldLink RX4 16 "FrostPaneLaw$Sim" "melt" "[[I", Cond.methodLink RX4 35 ⟨"[I", "clone", "()Ljava/lang/Object;"⟩, Cond.sameMethod "[I" "java/lang/Object" "clone" "()Ljava/lang/Object;", Cond.selects "[I" ⟨"[I", "clone", "()Ljava/lang/Object;"⟩ ⟨"java/lang/Object", "clone", "()Ljava/lang/Object;"⟩, Cond.classLink RX4 19 "[I", Cond.fieldLink RX4 36 "FrostPaneLaw$Sim" "frame" "I", Cond.fieldLink RX4 40 "FrostPaneLaw$Sim" "generation" "I", Cond.fieldLink RX4 43 "FrostPaneLaw$Sim" "breath" "I", Cond.fieldLink RX4 21 "FrostPaneLaw$Sim" "rules" "[[I", Cond.methodLink RX4 24 yX4_init, Cond.instanceMethod yX4_init, Cond.code yX4_init cX4_init 1 none, Cond.methodLink RX4 1 objectInit, Cond.instanceMethod objectInit]
def wsX4_copy_r2 : List Cond := [Cond.code objectInit ⟨#[0xb1]⟩ 1 none, Cond.classLink RX4 7 "[[Z", Cond.arrayClass .boolean, Cond.classLink RX4 14 "[[I", Cond.arrayClass .int, Cond.methodLink RX4 25 yX4_lay, Cond.instanceMethod yX4_lay, Cond.selects RX4 yX4_lay yX4_lay, Cond.code yX4_lay cX4_lay 3 none]
def wsX4_copy : List Cond := .code yX4_copy cX4_copy 3 (some (.object "FrostPaneLaw$Sim")) :: ((wsX4_copy_r1 ++ wsX4_copy_r2) ++ wsX40)
def wsX4_isCell : List Cond := .code yX4_isCell cX4_isCell 3 (some .boolean) :: ([.fieldLink RX4 9 "FrostPaneLaw$Sim" "ice" "[[Z"] ++ wsX40)
def wsX4_around : List Cond := .code yX4_around cX4_around 8 (some .int) :: ([.fieldLink RX4 36 "FrostPaneLaw$Sim" "frame" "I", .fieldLink RX4 9 "FrostPaneLaw$Sim" "ice" "[[Z", .methodLink RX4 46 yX4_isCell, .instanceMethod yX4_isCell, .selects RX4 yX4_isCell yX4_isCell, .initialized RX4, .code yX4_isCell cX4_isCell 3 (some .boolean)] ++ wsX40)
def wsX4_will : List Cond := .code yX4_will cX4_will 5 (some .boolean) :: ([.fieldLink RX4 16 "FrostPaneLaw$Sim" "melt" "[[I", .fieldLink RX4 21 "FrostPaneLaw$Sim" "rules" "[[I", .fieldLink RX4 43 "FrostPaneLaw$Sim" "breath" "I", .fieldLink RX4 9 "FrostPaneLaw$Sim" "ice" "[[Z", .methodLink RX4 50 yX4_around, .instanceMethod yX4_around, .selects RX4 yX4_around yX4_around, .initialized RX4, .code yX4_around cX4_around 8 (some .int), .fieldLink RX4 36 "FrostPaneLaw$Sim" "frame" "I", .methodLink RX4 46 yX4_isCell, .instanceMethod yX4_isCell, .selects RX4 yX4_isCell yX4_isCell, .code yX4_isCell cX4_isCell 3 (some .boolean)] ++ wsX40)
def wsX4_grow : List Cond := .code yX4_grow cX4_grow 4 none :: ([.fieldLink RX4 9 "FrostPaneLaw$Sim" "ice" "[[Z", .classLink RX4 7 "[[Z", .arrayClass .boolean, .fieldLink RX4 16 "FrostPaneLaw$Sim" "melt" "[[I", .fieldLink RX4 40 "FrostPaneLaw$Sim" "generation" "I", .methodLink RX4 54 yX4_will, .instanceMethod yX4_will, .selects RX4 yX4_will yX4_will, .initialized RX4, .code yX4_will cX4_will 5 (some .boolean), .fieldLink RX4 21 "FrostPaneLaw$Sim" "rules" "[[I", .fieldLink RX4 43 "FrostPaneLaw$Sim" "breath" "I", .methodLink RX4 50 yX4_around, .instanceMethod yX4_around, .selects RX4 yX4_around yX4_around, .code yX4_around cX4_around 8 (some .int), .fieldLink RX4 36 "FrostPaneLaw$Sim" "frame" "I", .methodLink RX4 46 yX4_isCell, .instanceMethod yX4_isCell, .selects RX4 yX4_isCell yX4_isCell, .code yX4_isCell cX4_isCell 3 (some .boolean)] ++ wsX40)
def wsX4_frozen : List Cond := .code yX4_frozen cX4_frozen 10 (some .int) :: ([.fieldLink RX4 9 "FrostPaneLaw$Sim" "ice" "[[Z"] ++ wsX40)
def wsX4_melted : List Cond := .code yX4_melted cX4_melted 10 (some .int) :: ([.fieldLink RX4 16 "FrostPaneLaw$Sim" "melt" "[[I"] ++ wsX40)
def wsX4_press : List Cond := .code yX4_press cX4_press 7 (some .int) :: ([.fieldLink RX4 9 "FrostPaneLaw$Sim" "ice" "[[Z", .methodLink RX4 57 Lib.Math.abs.name, .static Lib.Math.abs.name, .initialized "java/lang/Math", .code Lib.Math.abs.name Lib.Math.abs.code 1 (some .int), .fieldLink RX4 16 "FrostPaneLaw$Sim" "melt" "[[I"] ++ wsX40)
def wsX4_isLike : List Cond := .code yX4_isLike cX4_isLike 4 (some .boolean) :: ([.fieldLink RX4 9 "FrostPaneLaw$Sim" "ice" "[[Z", .fieldLink RX4 16 "FrostPaneLaw$Sim" "melt" "[[I"] ++ wsX40)
def wsX4_flowers : List Cond := .code yX4_flowers cX4_flowers 8 (some (.array (.array .int))) :: ([.fieldLink RX4 9 "FrostPaneLaw$Sim" "ice" "[[Z", .classLink RX4 14 "[[I", .arrayClass .int, .methodLink RX4 46 yX4_isCell, .instanceMethod yX4_isCell, .selects RX4 yX4_isCell yX4_isCell, .initialized RX4, .code yX4_isCell cX4_isCell 3 (some .boolean)] ++ wsX40)
def wsX4_isSame_r1 : List Cond := [Cond.fieldLink RX4 9 "FrostPaneLaw$Sim" "ice" "[[Z", Cond.arrayClass .int, Cond.fieldLink RX4 16 "FrostPaneLaw$Sim" "melt" "[[I", Cond.methodLink RX4 78 Lib.Math.max.name, Cond.static Lib.Math.max.name, Cond.initialized "java/lang/Math", Cond.code Lib.Math.max.name Lib.Math.max.code 2 (some .int), Cond.fieldLink RX4 40 "FrostPaneLaw$Sim" "generation" "I", Cond.fieldLink RX4 21 "FrostPaneLaw$Sim" "rules" "[[I", Cond.fieldLink RX4 43 "FrostPaneLaw$Sim" "breath" "I", Cond.methodLink RX4 63 yX3_isFrozen, Cond.instanceMethod yX3_isFrozen, Cond.selects RX3 yX3_isFrozen yX3_isFrozen, Cond.initialized RX3, Cond.code yX3_isFrozen cX3_isFrozen 3 (some .boolean), Cond.fieldLink RX3 10 "FrostPane" "now" "LFrostPane$Pane;", Cond.methodLink RX3 45 yX3_requireCell, Cond.instanceMethod yX3_requireCell, Cond.selects RX3 yX3_requireCell yX3_requireCell, Cond.code yX3_requireCell cX3_requireCell 3 none, Cond.classLink RX3 83 "java/lang/IndexOutOfBoundsException", Cond.initialized "java/lang/IndexOutOfBoundsException", Cond.methodLink RX3 228 yX1_hasCell, Cond.instanceMethod yX1_hasCell]
def wsX4_isSame_r2 : List Cond := [Cond.selects RX1 yX1_hasCell yX1_hasCell, Cond.initialized RX1, Cond.code yX1_hasCell cX1_hasCell 3 (some .boolean), Cond.fieldLink RX1 21 "FrostPane$Pane" "columns" "I", Cond.methodLink RX1 56 yX1_hasRow, Cond.instanceMethod yX1_hasRow, Cond.selects RX1 yX1_hasRow yX1_hasRow, Cond.code yX1_hasRow cX1_hasRow 2 (some .boolean), Cond.fieldLink RX1 25 "FrostPane$Pane" "rows" "I", Cond.methodLink RX3 61 yX1_hasFrost, Cond.instanceMethod yX1_hasFrost, Cond.selects RX1 yX1_hasFrost yX1_hasFrost, Cond.code yX1_hasFrost cX1_hasFrost 3 (some .boolean), Cond.methodLink RX1 49 yX1_bitsOf, Cond.instanceMethod yX1_bitsOf, Cond.selects RX1 yX1_bitsOf yX1_bitsOf, Cond.code yX1_bitsOf cX1_bitsOf 2 (some .int), Cond.fieldLink RX1 9 "FrostPane$Pane" "frost" "[I", Cond.methodLink RX4 68 yX3_meltedFor, Cond.instanceMethod yX3_meltedFor, Cond.selects RX3 yX3_meltedFor yX3_meltedFor, Cond.code yX3_meltedFor cX3_meltedFor 3 (some .int), Cond.methodLink RX3 48 yX1_meltOf, Cond.instanceMethod yX1_meltOf]
def wsX4_isSame_r3 : List Cond := [Cond.selects RX1 yX1_meltOf yX1_meltOf, Cond.code yX1_meltOf cX1_meltOf 4 (some .int), Cond.fieldLink RX1 18 "FrostPane$Pane" "melts" "[I", Cond.methodLink RX4 71 yX3_frozenInRow, Cond.instanceMethod yX3_frozenInRow, Cond.selects RX3 yX3_frozenInRow yX3_frozenInRow, Cond.code yX3_frozenInRow cX3_frozenInRow 2 (some .int), Cond.methodLink RX3 127 yX1_hasRow, Cond.methodLink RX3 132 yX1_bitsOf, Cond.methodLink RX3 135 yJ6_bitCount_0f7a4, Cond.static yJ6_bitCount_0f7a4, Cond.initialized RJ6, Cond.code yJ6_bitCount_0f7a4 cJ6_bitCount_0f7a4 1 (some .int), Cond.constant RJ6 265 (1431655765), Cond.constant RJ6 266 (858993459), Cond.constant RJ6 267 (252645135), Cond.methodLink RX4 74 yX4_flowers, Cond.instanceMethod yX4_flowers, Cond.selects RX4 yX4_flowers yX4_flowers, Cond.initialized RX4, Cond.code yX4_flowers cX4_flowers 8 (some (.array (.array .int))), Cond.classLink RX4 14 "[[I", Cond.methodLink RX4 46 yX4_isCell, Cond.instanceMethod yX4_isCell]
def wsX4_isSame_r4 : List Cond := [Cond.selects RX4 yX4_isCell yX4_isCell, Cond.code yX4_isCell cX4_isCell 3 (some .boolean), Cond.methodLink RX4 81 yX3_flowerAt, Cond.instanceMethod yX3_flowerAt, Cond.selects RX3 yX3_flowerAt yX3_flowerAt, Cond.code yX3_flowerAt cX3_flowerAt 3 (some .int), Cond.fieldLink RX3 22 "FrostPane" "picker" "LFrostPane$FlowerPicker;", Cond.methodLink RX3 140 yX0_spreadOut, Cond.instanceMethod yX0_spreadOut, Cond.selects RX0 yX0_spreadOut yX0_spreadOut, Cond.initialized RX0, Cond.code yX0_spreadOut cX0_spreadOut 3 none, Cond.fieldLink RX0 9 "FrostPane$FlowerPicker" "left" "[I", Cond.methodLink RX0 18 yX1_bitsOf, Cond.methodLink RX3 144 yX0_pick, Cond.instanceMethod yX0_pick, Cond.selects RX0 yX0_pick yX0_pick, Cond.code yX0_pick cX0_pick 4 (some .int), Cond.fieldLink RX0 15 "FrostPane$FlowerPicker" "flower" "[I", Cond.methodLink RX0 24 yJ7_fill_53178, Cond.static yJ7_fill_53178, Cond.initialized RJ7, Cond.code yJ7_fill_53178 cJ7_fill_53178 4 none, Cond.methodLink RX0 30 yX0_widen]
def wsX4_isSame_r5 : List Cond := [Cond.instanceMethod yX0_widen, Cond.selects RX0 yX0_widen yX0_widen, Cond.code yX0_widen cX0_widen 5 (some .boolean), Cond.methodLink RX0 38 yX0_flowerIn, Cond.instanceMethod yX0_flowerIn, Cond.selects RX0 yX0_flowerIn yX0_flowerIn, Cond.code yX0_flowerIn cX0_flowerIn 2 (some .int), Cond.methodLink RX0 34 yX0_takeAway, Cond.instanceMethod yX0_takeAway, Cond.selects RX0 yX0_takeAway yX0_takeAway, Cond.code yX0_takeAway cX0_takeAway 3 (some .int), Cond.methodLink RX0 41 yJ6_bitCount_0f7a4, Cond.methodLink RX4 84 yX3_around, Cond.instanceMethod yX3_around, Cond.selects RX3 yX3_around yX3_around, Cond.code yX3_around cX3_around 3 (some .int), Cond.methodLink RX3 120 yX1_countAround, Cond.instanceMethod yX1_countAround, Cond.selects RX1 yX1_countAround yX1_countAround, Cond.code yX1_countAround cX1_countAround 3 (some .int), Cond.methodLink RX1 76 yX1_framed, Cond.instanceMethod yX1_framed, Cond.selects RX1 yX1_framed yX1_framed, Cond.code yX1_framed cX1_framed 2 (some .int)]
def wsX4_isSame_r6 : List Cond := [Cond.fieldLink RX1 34 "FrostPane$Pane" "frame" "I", Cond.methodLink RX1 94 yX1_withSides, Cond.instanceMethod yX1_withSides, Cond.selects RX1 yX1_withSides yX1_withSides, Cond.code yX1_withSides cX1_withSides 4 (some .int), Cond.methodLink RX1 79 yX1_countIn, Cond.static yX1_countIn, Cond.code yX1_countIn cX1_countIn 4 (some .int), Cond.methodLink RX1 71 yJ6_bitCount_0f7a4, Cond.methodLink RX4 50 yX4_around, Cond.instanceMethod yX4_around, Cond.selects RX4 yX4_around yX4_around, Cond.code yX4_around cX4_around 8 (some .int), Cond.fieldLink RX4 36 "FrostPaneLaw$Sim" "frame" "I", Cond.methodLink RX4 85 yX3_willFreeze, Cond.instanceMethod yX3_willFreeze, Cond.selects RX3 yX3_willFreeze yX3_willFreeze, Cond.code yX3_willFreeze cX3_willFreeze 3 (some .boolean), Cond.fieldLink RX3 29 "FrostPane" "book" "LFrostPane$RuleBook;", Cond.fieldLink RX3 88 "FrostPane" "breath" "I", Cond.methodLink RX3 91 yX2_freezesBy, Cond.instanceMethod yX2_freezesBy, Cond.selects RX2 yX2_freezesBy yX2_freezesBy, Cond.initialized RX2]
def wsX4_isSame_r7 : List Cond := [Cond.code yX2_freezesBy cX2_freezesBy 2 (some .int), Cond.fieldLink RX2 9 "FrostPane$RuleBook" "freezes" "[I", Cond.methodLink RX2 22 yX2_has, Cond.instanceMethod yX2_has, Cond.selects RX2 yX2_has yX2_has, Cond.code yX2_has cX2_has 2 (some .boolean), Cond.fieldLink RX2 18 "FrostPane$RuleBook" "count" "I", Cond.methodLink RX3 95 yX2_staysBy, Cond.instanceMethod yX2_staysBy, Cond.selects RX2 yX2_staysBy yX2_staysBy, Cond.code yX2_staysBy cX2_staysBy 2 (some .int), Cond.fieldLink RX2 15 "FrostPane$RuleBook" "stays" "[I", Cond.methodLink RX3 123 yX1_isFrozenNext, Cond.instanceMethod yX1_isFrozenNext, Cond.selects RX1 yX1_isFrozenNext yX1_isFrozenNext, Cond.code yX1_isFrozenNext cX1_isFrozenNext 5 (some .boolean), Cond.methodLink RX1 83 yX1_grownRow, Cond.instanceMethod yX1_grownRow, Cond.selects RX1 yX1_grownRow yX1_grownRow, Cond.code yX1_grownRow cX1_grownRow 11 (some .int), Cond.methodLink RX1 64 yX1_hasFrost, Cond.methodLink RX1 53 yX1_meltOf, Cond.methodLink RX4 54 yX4_will, Cond.instanceMethod yX4_will]
def wsX4_isSame_r8 : List Cond := [Cond.selects RX4 yX4_will yX4_will, Cond.code yX4_will cX4_will 5 (some .boolean), Cond.methodLink RX4 88 yX3_columns, Cond.instanceMethod yX3_columns, Cond.selects RX3 yX3_columns yX3_columns, Cond.code yX3_columns cX3_columns 1 (some .int), Cond.methodLink RX4 92 yX3_rows, Cond.instanceMethod yX3_rows, Cond.selects RX3 yX3_rows yX3_rows, Cond.code yX3_rows cX3_rows 1 (some .int), Cond.methodLink RX4 95 yX3_generation, Cond.instanceMethod yX3_generation, Cond.selects RX3 yX3_generation yX3_generation, Cond.code yX3_generation cX3_generation 1 (some .int), Cond.fieldLink RX3 101 "FrostPane" "generation" "I", Cond.methodLink RX4 97 yX3_rules, Cond.instanceMethod yX3_rules, Cond.selects RX3 yX3_rules yX3_rules, Cond.code yX3_rules cX3_rules 1 (some .int), Cond.methodLink RX4 99 yX3_breath, Cond.instanceMethod yX3_breath, Cond.selects RX3 yX3_breath yX3_breath, Cond.code yX3_breath cX3_breath 1 (some .int), Cond.methodLink RX4 101 yX3_frozen]
def wsX4_isSame_r9 : List Cond := [Cond.instanceMethod yX3_frozen, Cond.selects RX3 yX3_frozen yX3_frozen, Cond.code yX3_frozen cX3_frozen 1 (some .int), Cond.methodLink RX3 104 yX1_countFrost, Cond.instanceMethod yX1_countFrost, Cond.selects RX1 yX1_countFrost yX1_countFrost, Cond.code yX1_countFrost cX1_countFrost 3 (some .int), Cond.methodLink RX4 104 yX4_frozen, Cond.instanceMethod yX4_frozen, Cond.selects RX4 yX4_frozen yX4_frozen, Cond.code yX4_frozen cX4_frozen 10 (some .int), Cond.methodLink RX4 105 yX3_melted, Cond.instanceMethod yX3_melted, Cond.selects RX3 yX3_melted yX3_melted, Cond.code yX3_melted cX3_melted 1 (some .int), Cond.methodLink RX3 117 yX1_countMelted, Cond.instanceMethod yX1_countMelted, Cond.selects RX1 yX1_countMelted yX1_countMelted, Cond.code yX1_countMelted cX1_countMelted 3 (some .int), Cond.methodLink RX4 108 yX4_melted, Cond.instanceMethod yX4_melted, Cond.selects RX4 yX4_melted yX4_melted, Cond.code yX4_melted cX4_melted 10 (some .int), Cond.methodLink RX4 109 yX3_flowers]
def wsX4_isSame_r10 : List Cond := [Cond.instanceMethod yX3_flowers, Cond.selects RX3 yX3_flowers yX3_flowers, Cond.code yX3_flowers cX3_flowers 4 (some .int), Cond.methodLink RX4 111 yX3_largestFlower, Cond.instanceMethod yX3_largestFlower, Cond.selects RX3 yX3_largestFlower yX3_largestFlower, Cond.code yX3_largestFlower cX3_largestFlower 4 (some .int), Cond.methodLink RX3 147 Lib.Math.max.name, Cond.methodLink RX4 114 yX3_isMirrored, Cond.instanceMethod yX3_isMirrored, Cond.selects RX3 yX3_isMirrored yX3_isMirrored, Cond.code yX3_isMirrored cX3_isMirrored 3 (some .boolean), Cond.methodLink RX4 118 yX3_meanInRows, Cond.instanceMethod yX3_meanInRows, Cond.selects RX3 yX3_meanInRows yX3_meanInRows, Cond.code yX3_meanInRows cX3_meanInRows 2 (some .double)]
def wsX4_isSame : List Cond := .code yX4_isSame cX4_isSame 14 (some .boolean) :: ((wsX4_isSame_r1 ++ (wsX4_isSame_r2 ++ (wsX4_isSame_r3 ++ (wsX4_isSame_r4 ++ (wsX4_isSame_r5 ++ (wsX4_isSame_r6 ++ (wsX4_isSame_r7 ++ (wsX4_isSame_r8 ++ (wsX4_isSame_r9 ++ wsX4_isSame_r10))))))))) ++ wsX40 ++ wsX30 ++ wsX10 ++ wsX00 ++ wsX20 ++ (vx_atS RX3 87 "java/lang/IndexOutOfBoundsException" ["java/lang/RuntimeException", "java/lang/Exception"]).filter goodWord)
def wsJ9_abs_0f7a4 : List Cond := .code yJ9_abs_0f7a4 cJ9_abs_0f7a4 1 (some .int) :: ([])
def wsJ9_max_7cf53 : List Cond := .code yJ9_max_7cf53 cJ9_max_7cf53 2 (some .int) :: ([])
def wsJ9_min_7cf53 : List Cond := .code yJ9_min_7cf53 cJ9_min_7cf53 2 (some .int) :: ([])
def wsL_below : List Cond := .code yL_below cL_below 2 (some .int) :: ([.constant RL 7 (2147483647)])
def wsL_cell : List Cond := .code yL_cell cL_cell 2 (some .int) :: ([.constant RL 8 (790386105)])
def wsL_act_r1 : List Cond := [Cond.classLink RL 75 "java/lang/IllegalStateException", Cond.fieldLink RL 9 "FrostPaneLaw$Sim" "ice" "[[Z", Cond.fieldLink RL 21 "FrostPaneLaw$Sim" "frame" "I", Cond.arrayClass .int, Cond.fieldLink RL 31 "FrostPaneLaw$Sim" "rules" "[[I", Cond.fieldLink RL 42 "FrostPaneLaw$Sim" "breath" "I", Cond.fieldLink RL 68 "FrostPaneLaw$Sim" "melt" "[[I", Cond.methodLink RL 15 yL_below, Cond.static yL_below, Cond.initialized RL, Cond.code yL_below cL_below 2 (some .int), Cond.constant RL 7 (2147483647), Cond.methodLink RL 25 yX3_setFrame, Cond.instanceMethod yX3_setFrame, Cond.selects RX3 yX3_setFrame yX3_setFrame, Cond.initialized RX3, Cond.code yX3_setFrame cX3_setFrame 3 (some .int), Cond.fieldLink RX3 10 "FrostPane" "now" "LFrostPane$Pane;", Cond.methodLink RX3 41 yX3_requireWithin, Cond.static yX3_requireWithin, Cond.code yX3_requireWithin cX3_requireWithin 3 none, Cond.classLink RX3 233 "java/lang/IllegalArgumentException", Cond.initialized "java/lang/IllegalArgumentException", Cond.methodLink RL 35 yX4_with]
def wsL_act_r2 : List Cond := [Cond.static yX4_with, Cond.initialized RX4, Cond.code yX4_with cX4_with 4 (some (.array (.array .int))), Cond.classLink RX4 19 "[I", Cond.methodLink RL 39 yX3_addRule, Cond.instanceMethod yX3_addRule, Cond.selects RX3 yX3_addRule yX3_addRule, Cond.code yX3_addRule cX3_addRule 3 (some .int), Cond.classLink RX3 51 "java/lang/IllegalStateException", Cond.initialized "java/lang/IllegalStateException", Cond.fieldLink RX3 29 "FrostPane" "book" "LFrostPane$RuleBook;", Cond.methodLink RX3 73 yX2_isFull, Cond.instanceMethod yX2_isFull, Cond.selects RX2 yX2_isFull yX2_isFull, Cond.initialized RX2, Cond.code yX2_isFull cX2_isFull 1 (some .boolean), Cond.fieldLink RX2 18 "FrostPane$RuleBook" "count" "I", Cond.methodLink RX3 37 yX2_append, Cond.instanceMethod yX2_append, Cond.selects RX2 yX2_append yX2_append, Cond.code yX2_append cX2_append 4 (some .int), Cond.fieldLink RX2 9 "FrostPane$RuleBook" "freezes" "[I", Cond.fieldLink RX2 15 "FrostPane$RuleBook" "stays" "[I", Cond.methodLink RL 45 yX3_breathe]
def wsL_act_r3 : List Cond := [Cond.instanceMethod yX3_breathe, Cond.selects RX3 yX3_breathe yX3_breathe, Cond.code yX3_breathe cX3_breathe 3 (some .int), Cond.classLink RX3 83 "java/lang/IndexOutOfBoundsException", Cond.initialized "java/lang/IndexOutOfBoundsException", Cond.fieldLink RX3 88 "FrostPane" "breath" "I", Cond.methodLink RX3 79 yX2_has, Cond.instanceMethod yX2_has, Cond.selects RX2 yX2_has yX2_has, Cond.code yX2_has cX2_has 2 (some .boolean), Cond.methodLink RL 48 yX3_press, Cond.instanceMethod yX3_press, Cond.selects RX3 yX3_press yX3_press, Cond.code yX3_press cX3_press 4 (some .int), Cond.methodLink RX3 45 yX3_requireCell, Cond.instanceMethod yX3_requireCell, Cond.selects RX3 yX3_requireCell yX3_requireCell, Cond.code yX3_requireCell cX3_requireCell 3 none, Cond.methodLink RX3 228 yX1_hasCell, Cond.instanceMethod yX1_hasCell, Cond.selects RX1 yX1_hasCell yX1_hasCell, Cond.initialized RX1, Cond.code yX1_hasCell cX1_hasCell 3 (some .boolean), Cond.fieldLink RX1 21 "FrostPane$Pane" "columns" "I"]
def wsL_act_r4 : List Cond := [Cond.methodLink RX1 56 yX1_hasRow, Cond.instanceMethod yX1_hasRow, Cond.selects RX1 yX1_hasRow yX1_hasRow, Cond.code yX1_hasRow cX1_hasRow 2 (some .boolean), Cond.fieldLink RX1 25 "FrostPane$Pane" "rows" "I", Cond.methodLink RX3 65 yX1_melt, Cond.instanceMethod yX1_melt, Cond.selects RX1 yX1_melt yX1_melt, Cond.code yX1_melt cX1_melt 6 (some .int), Cond.fieldLink RX1 18 "FrostPane$Pane" "melts" "[I", Cond.methodLink RX1 60 yX1_hasCell, Cond.methodLink RX1 64 yX1_hasFrost, Cond.instanceMethod yX1_hasFrost, Cond.selects RX1 yX1_hasFrost yX1_hasFrost, Cond.code yX1_hasFrost cX1_hasFrost 3 (some .boolean), Cond.methodLink RX1 49 yX1_bitsOf, Cond.instanceMethod yX1_bitsOf, Cond.selects RX1 yX1_bitsOf yX1_bitsOf, Cond.code yX1_bitsOf cX1_bitsOf 2 (some .int), Cond.fieldLink RX1 9 "FrostPane$Pane" "frost" "[I", Cond.methodLink RX1 67 yX1_flip, Cond.instanceMethod yX1_flip, Cond.selects RX1 yX1_flip yX1_flip, Cond.code yX1_flip cX1_flip 3 none]
def wsL_act_r5 : List Cond := [Cond.methodLink RL 52 yX4_press, Cond.instanceMethod yX4_press, Cond.selects RX4 yX4_press yX4_press, Cond.code yX4_press cX4_press 7 (some .int), Cond.fieldLink RX4 9 "FrostPaneLaw$Sim" "ice" "[[Z", Cond.methodLink RX4 57 Lib.Math.abs.name, Cond.static Lib.Math.abs.name, Cond.initialized "java/lang/Math", Cond.code Lib.Math.abs.name Lib.Math.abs.code 1 (some .int), Cond.fieldLink RX4 16 "FrostPaneLaw$Sim" "melt" "[[I", Cond.methodLink RL 53 yX4_grow, Cond.instanceMethod yX4_grow, Cond.selects RX4 yX4_grow yX4_grow, Cond.code yX4_grow cX4_grow 4 none, Cond.classLink RX4 7 "[[Z", Cond.arrayClass .boolean, Cond.fieldLink RX4 40 "FrostPaneLaw$Sim" "generation" "I", Cond.methodLink RX4 54 yX4_will, Cond.instanceMethod yX4_will, Cond.selects RX4 yX4_will yX4_will, Cond.code yX4_will cX4_will 5 (some .boolean), Cond.fieldLink RX4 21 "FrostPaneLaw$Sim" "rules" "[[I", Cond.fieldLink RX4 43 "FrostPaneLaw$Sim" "breath" "I", Cond.methodLink RX4 50 yX4_around]
def wsL_act_r6 : List Cond := [Cond.instanceMethod yX4_around, Cond.selects RX4 yX4_around yX4_around, Cond.code yX4_around cX4_around 8 (some .int), Cond.fieldLink RX4 36 "FrostPaneLaw$Sim" "frame" "I", Cond.methodLink RX4 46 yX4_isCell, Cond.instanceMethod yX4_isCell, Cond.selects RX4 yX4_isCell yX4_isCell, Cond.code yX4_isCell cX4_isCell 3 (some .boolean), Cond.methodLink RL 56 yX3_grow, Cond.instanceMethod yX3_grow, Cond.selects RX3 yX3_grow yX3_grow, Cond.code yX3_grow cX3_grow 3 (some .int), Cond.fieldLink RX3 101 "FrostPane" "generation" "I", Cond.methodLink RX3 91 yX2_freezesBy, Cond.instanceMethod yX2_freezesBy, Cond.selects RX2 yX2_freezesBy yX2_freezesBy, Cond.code yX2_freezesBy cX2_freezesBy 2 (some .int), Cond.methodLink RX2 22 yX2_has, Cond.methodLink RX3 95 yX2_staysBy, Cond.instanceMethod yX2_staysBy, Cond.selects RX2 yX2_staysBy yX2_staysBy, Cond.code yX2_staysBy cX2_staysBy 2 (some .int), Cond.methodLink RX3 98 yX1_step, Cond.instanceMethod yX1_step]
def wsL_act_r7 : List Cond := [Cond.selects RX1 yX1_step yX1_step, Cond.code yX1_step cX1_step 4 (some .boolean), Cond.fieldLink RX1 15 "FrostPane$Pane" "frostNext" "[I", Cond.methodLink RX1 83 yX1_grownRow, Cond.instanceMethod yX1_grownRow, Cond.selects RX1 yX1_grownRow yX1_grownRow, Cond.code yX1_grownRow cX1_grownRow 11 (some .int), Cond.methodLink RX1 76 yX1_framed, Cond.instanceMethod yX1_framed, Cond.selects RX1 yX1_framed yX1_framed, Cond.code yX1_framed cX1_framed 2 (some .int), Cond.fieldLink RX1 34 "FrostPane$Pane" "frame" "I", Cond.methodLink RX1 94 yX1_withSides, Cond.instanceMethod yX1_withSides, Cond.selects RX1 yX1_withSides yX1_withSides, Cond.code yX1_withSides cX1_withSides 4 (some .int), Cond.methodLink RX1 79 yX1_countIn, Cond.static yX1_countIn, Cond.code yX1_countIn cX1_countIn 4 (some .int), Cond.methodLink RX1 71 yJ6_bitCount_0f7a4, Cond.static yJ6_bitCount_0f7a4, Cond.initialized RJ6, Cond.code yJ6_bitCount_0f7a4 cJ6_bitCount_0f7a4 1 (some .int), Cond.constant RJ6 265 (1431655765)]
def wsL_act_r8 : List Cond := [Cond.constant RJ6 266 (858993459), Cond.constant RJ6 267 (252645135), Cond.methodLink RX1 53 yX1_meltOf, Cond.instanceMethod yX1_meltOf, Cond.selects RX1 yX1_meltOf yX1_meltOf, Cond.code yX1_meltOf cX1_meltOf 4 (some .int), Cond.methodLink RX1 87 yX1_meltLess, Cond.instanceMethod yX1_meltLess, Cond.selects RX1 yX1_meltLess yX1_meltLess, Cond.code yX1_meltLess cX1_meltLess 2 none, Cond.methodLink RX1 90 yX1_takeNext, Cond.instanceMethod yX1_takeNext, Cond.selects RX1 yX1_takeNext yX1_takeNext, Cond.code yX1_takeNext cX1_takeNext 3 (some .boolean), Cond.methodLink RX3 104 yX1_countFrost, Cond.instanceMethod yX1_countFrost, Cond.selects RX1 yX1_countFrost yX1_countFrost, Cond.code yX1_countFrost cX1_countFrost 3 (some .int), Cond.methodLink RL 58 yX4_frozen, Cond.instanceMethod yX4_frozen, Cond.selects RX4 yX4_frozen yX4_frozen, Cond.code yX4_frozen cX4_frozen 10 (some .int), Cond.methodLink RL 62 yX4_lay, Cond.instanceMethod yX4_lay]
def wsL_act_r9 : List Cond := [Cond.selects RX4 yX4_lay yX4_lay, Cond.code yX4_lay cX4_lay 3 none, Cond.classLink RX4 14 "[[I", Cond.methodLink RL 66 yX3_lay, Cond.instanceMethod yX3_lay, Cond.selects RX3 yX3_lay yX3_lay, Cond.code yX3_lay cX3_lay 3 (some .int), Cond.methodLink RX3 33 yX1_layClear, Cond.instanceMethod yX1_layClear, Cond.selects RX1 yX1_layClear yX1_layClear, Cond.code yX1_layClear cX1_layClear 3 none, Cond.methodLink RX1 28 yJ7_fill_53178, Cond.static yJ7_fill_53178, Cond.initialized RJ7, Cond.code yJ7_fill_53178 cJ7_fill_53178 4 none, Cond.methodLink RL 71 yX3_turn, Cond.instanceMethod yX3_turn, Cond.selects RX3 yX3_turn yX3_turn, Cond.code yX3_turn cX3_turn 3 (some .boolean), Cond.methodLink RX3 48 yX1_meltOf, Cond.methodLink RX3 58 yX1_flip, Cond.methodLink RX3 61 yX1_hasFrost]
def wsL_act : List Cond := .codeWith yL_act cL_act 8 (some .boolean) [(31, 125, 518, 75), (126, 223, 518, 75), (224, 263, 518, 75), (264, 302, 518, 75), (303, 369, 518, 75), (370, 382, 518, 75), (383, 437, 518, 75), (438, 517, 518, 75)] :: ((wsL_act_r1 ++ (wsL_act_r2 ++ (wsL_act_r3 ++ (wsL_act_r4 ++ (wsL_act_r5 ++ (wsL_act_r6 ++ (wsL_act_r7 ++ (wsL_act_r8 ++ wsL_act_r9)))))))) ++ wsX40 ++ wsX30 ++ wsX10 ++ wsX20 ++ (vx_atS RX3 237 "java/lang/IllegalArgumentException" ["java/lang/RuntimeException", "java/lang/Exception"]).filter goodWord ++ (vx_atS RX3 55 "java/lang/IllegalStateException" ["java/lang/RuntimeException", "java/lang/Exception"]).filter goodWord ++ (vx_atS RX3 87 "java/lang/IndexOutOfBoundsException" ["java/lang/RuntimeException", "java/lang/Exception"]).filter goodWord)
def wsL_build_r1 : List Cond := [Cond.classLink RL 10 RX4, Cond.instantiable RX4 6, Cond.initialized RX4, Cond.fieldLink RL 21 "FrostPaneLaw$Sim" "frame" "I", Cond.fieldLink RL 9 "FrostPaneLaw$Sim" "ice" "[[Z", Cond.instanceMethod yX4_init, Cond.code yX4_init cX4_init 1 none, Cond.methodLink RX4 1 objectInit, Cond.instanceMethod objectInit, Cond.code objectInit ⟨#[0xb1]⟩ 1 none, Cond.classLink RX4 7 "[[Z", Cond.arrayClass .boolean, Cond.fieldLink RX4 9 "FrostPaneLaw$Sim" "ice" "[[Z", Cond.classLink RX4 14 "[[I", Cond.arrayClass .int, Cond.fieldLink RX4 16 "FrostPaneLaw$Sim" "melt" "[[I", Cond.classLink RX4 19 "[I", Cond.fieldLink RX4 21 "FrostPaneLaw$Sim" "rules" "[[I", Cond.methodLink RL 78 yL_cell, Cond.static yL_cell, Cond.initialized RL, Cond.code yL_cell cL_cell 2 (some .int), Cond.constant RL 8 (790386105), Cond.methodLink RL 15 yL_below]
def wsL_build_r2 : List Cond := [Cond.static yL_below, Cond.code yL_below cL_below 2 (some .int), Cond.constant RL 7 (2147483647), Cond.methodLink RL 62 yX4_lay, Cond.instanceMethod yX4_lay, Cond.selects RX4 yX4_lay yX4_lay, Cond.code yX4_lay cX4_lay 3 none, Cond.methodLink RL 66 yX3_lay, Cond.instanceMethod yX3_lay, Cond.selects RX3 yX3_lay yX3_lay, Cond.initialized RX3, Cond.code yX3_lay cX3_lay 3 (some .int), Cond.fieldLink RX3 10 "FrostPane" "now" "LFrostPane$Pane;", Cond.methodLink RX3 41 yX3_requireWithin, Cond.static yX3_requireWithin, Cond.code yX3_requireWithin cX3_requireWithin 3 none, Cond.classLink RX3 233 "java/lang/IllegalArgumentException", Cond.initialized "java/lang/IllegalArgumentException", Cond.methodLink RX3 33 yX1_layClear, Cond.instanceMethod yX1_layClear, Cond.selects RX1 yX1_layClear yX1_layClear, Cond.initialized RX1, Cond.code yX1_layClear cX1_layClear 3 none, Cond.fieldLink RX1 21 "FrostPane$Pane" "columns" "I"]
def wsL_build_r3 : List Cond := [Cond.fieldLink RX1 25 "FrostPane$Pane" "rows" "I", Cond.fieldLink RX1 9 "FrostPane$Pane" "frost" "[I", Cond.fieldLink RX1 18 "FrostPane$Pane" "melts" "[I", Cond.methodLink RX1 28 yJ7_fill_53178, Cond.static yJ7_fill_53178, Cond.initialized RJ7, Cond.code yJ7_fill_53178 cJ7_fill_53178 4 none, Cond.methodLink RL 25 yX3_setFrame, Cond.instanceMethod yX3_setFrame, Cond.selects RX3 yX3_setFrame yX3_setFrame, Cond.code yX3_setFrame cX3_setFrame 3 (some .int), Cond.methodLink RL 71 yX3_turn, Cond.instanceMethod yX3_turn, Cond.selects RX3 yX3_turn yX3_turn, Cond.code yX3_turn cX3_turn 3 (some .boolean), Cond.classLink RX3 51 "java/lang/IllegalStateException", Cond.initialized "java/lang/IllegalStateException", Cond.methodLink RX3 45 yX3_requireCell, Cond.instanceMethod yX3_requireCell, Cond.selects RX3 yX3_requireCell yX3_requireCell, Cond.code yX3_requireCell cX3_requireCell 3 none, Cond.classLink RX3 83 "java/lang/IndexOutOfBoundsException", Cond.initialized "java/lang/IndexOutOfBoundsException", Cond.methodLink RX3 228 yX1_hasCell]
def wsL_build_r4 : List Cond := [Cond.instanceMethod yX1_hasCell, Cond.selects RX1 yX1_hasCell yX1_hasCell, Cond.code yX1_hasCell cX1_hasCell 3 (some .boolean), Cond.methodLink RX1 56 yX1_hasRow, Cond.instanceMethod yX1_hasRow, Cond.selects RX1 yX1_hasRow yX1_hasRow, Cond.code yX1_hasRow cX1_hasRow 2 (some .boolean), Cond.methodLink RX3 48 yX1_meltOf, Cond.instanceMethod yX1_meltOf, Cond.selects RX1 yX1_meltOf yX1_meltOf, Cond.code yX1_meltOf cX1_meltOf 4 (some .int), Cond.methodLink RX3 58 yX1_flip, Cond.instanceMethod yX1_flip, Cond.selects RX1 yX1_flip yX1_flip, Cond.code yX1_flip cX1_flip 3 none, Cond.methodLink RX1 60 yX1_hasCell, Cond.methodLink RX3 61 yX1_hasFrost, Cond.instanceMethod yX1_hasFrost, Cond.selects RX1 yX1_hasFrost yX1_hasFrost, Cond.code yX1_hasFrost cX1_hasFrost 3 (some .boolean), Cond.methodLink RX1 49 yX1_bitsOf, Cond.instanceMethod yX1_bitsOf, Cond.selects RX1 yX1_bitsOf yX1_bitsOf, Cond.code yX1_bitsOf cX1_bitsOf 2 (some .int)]
def wsL_build_r5 : List Cond := [Cond.methodLink RL 82 yL_act, Cond.static yL_act, Cond.codeWith yL_act cL_act 8 (some .boolean) [(31, 125, 518, 75), (126, 223, 518, 75), (224, 263, 518, 75), (264, 302, 518, 75), (303, 369, 518, 75), (370, 382, 518, 75), (383, 437, 518, 75), (438, 517, 518, 75)], Cond.classLink RL 75 "java/lang/IllegalStateException", Cond.fieldLink RL 31 "FrostPaneLaw$Sim" "rules" "[[I", Cond.fieldLink RL 42 "FrostPaneLaw$Sim" "breath" "I", Cond.fieldLink RL 68 "FrostPaneLaw$Sim" "melt" "[[I", Cond.methodLink RL 35 yX4_with, Cond.static yX4_with, Cond.code yX4_with cX4_with 4 (some (.array (.array .int))), Cond.methodLink RL 39 yX3_addRule, Cond.instanceMethod yX3_addRule, Cond.selects RX3 yX3_addRule yX3_addRule, Cond.code yX3_addRule cX3_addRule 3 (some .int), Cond.fieldLink RX3 29 "FrostPane" "book" "LFrostPane$RuleBook;", Cond.methodLink RX3 73 yX2_isFull, Cond.instanceMethod yX2_isFull, Cond.selects RX2 yX2_isFull yX2_isFull, Cond.initialized RX2, Cond.code yX2_isFull cX2_isFull 1 (some .boolean), Cond.fieldLink RX2 18 "FrostPane$RuleBook" "count" "I", Cond.methodLink RX3 37 yX2_append, Cond.instanceMethod yX2_append, Cond.selects RX2 yX2_append yX2_append]
def wsL_build_r6 : List Cond := [Cond.code yX2_append cX2_append 4 (some .int), Cond.fieldLink RX2 9 "FrostPane$RuleBook" "freezes" "[I", Cond.fieldLink RX2 15 "FrostPane$RuleBook" "stays" "[I", Cond.methodLink RL 45 yX3_breathe, Cond.instanceMethod yX3_breathe, Cond.selects RX3 yX3_breathe yX3_breathe, Cond.code yX3_breathe cX3_breathe 3 (some .int), Cond.fieldLink RX3 88 "FrostPane" "breath" "I", Cond.methodLink RX3 79 yX2_has, Cond.instanceMethod yX2_has, Cond.selects RX2 yX2_has yX2_has, Cond.code yX2_has cX2_has 2 (some .boolean), Cond.methodLink RL 48 yX3_press, Cond.instanceMethod yX3_press, Cond.selects RX3 yX3_press yX3_press, Cond.code yX3_press cX3_press 4 (some .int), Cond.methodLink RX3 65 yX1_melt, Cond.instanceMethod yX1_melt, Cond.selects RX1 yX1_melt yX1_melt, Cond.code yX1_melt cX1_melt 6 (some .int), Cond.methodLink RX1 64 yX1_hasFrost, Cond.methodLink RX1 67 yX1_flip, Cond.methodLink RL 52 yX4_press, Cond.instanceMethod yX4_press]
def wsL_build_r7 : List Cond := [Cond.selects RX4 yX4_press yX4_press, Cond.code yX4_press cX4_press 7 (some .int), Cond.methodLink RX4 57 Lib.Math.abs.name, Cond.static Lib.Math.abs.name, Cond.initialized "java/lang/Math", Cond.code Lib.Math.abs.name Lib.Math.abs.code 1 (some .int), Cond.methodLink RL 53 yX4_grow, Cond.instanceMethod yX4_grow, Cond.selects RX4 yX4_grow yX4_grow, Cond.code yX4_grow cX4_grow 4 none, Cond.fieldLink RX4 40 "FrostPaneLaw$Sim" "generation" "I", Cond.methodLink RX4 54 yX4_will, Cond.instanceMethod yX4_will, Cond.selects RX4 yX4_will yX4_will, Cond.code yX4_will cX4_will 5 (some .boolean), Cond.fieldLink RX4 43 "FrostPaneLaw$Sim" "breath" "I", Cond.methodLink RX4 50 yX4_around, Cond.instanceMethod yX4_around, Cond.selects RX4 yX4_around yX4_around, Cond.code yX4_around cX4_around 8 (some .int), Cond.fieldLink RX4 36 "FrostPaneLaw$Sim" "frame" "I", Cond.methodLink RX4 46 yX4_isCell, Cond.instanceMethod yX4_isCell, Cond.selects RX4 yX4_isCell yX4_isCell]
def wsL_build_r8 : List Cond := [Cond.code yX4_isCell cX4_isCell 3 (some .boolean), Cond.methodLink RL 56 yX3_grow, Cond.instanceMethod yX3_grow, Cond.selects RX3 yX3_grow yX3_grow, Cond.code yX3_grow cX3_grow 3 (some .int), Cond.fieldLink RX3 101 "FrostPane" "generation" "I", Cond.methodLink RX3 91 yX2_freezesBy, Cond.instanceMethod yX2_freezesBy, Cond.selects RX2 yX2_freezesBy yX2_freezesBy, Cond.code yX2_freezesBy cX2_freezesBy 2 (some .int), Cond.methodLink RX2 22 yX2_has, Cond.methodLink RX3 95 yX2_staysBy, Cond.instanceMethod yX2_staysBy, Cond.selects RX2 yX2_staysBy yX2_staysBy, Cond.code yX2_staysBy cX2_staysBy 2 (some .int), Cond.methodLink RX3 98 yX1_step, Cond.instanceMethod yX1_step, Cond.selects RX1 yX1_step yX1_step, Cond.code yX1_step cX1_step 4 (some .boolean), Cond.fieldLink RX1 15 "FrostPane$Pane" "frostNext" "[I", Cond.methodLink RX1 83 yX1_grownRow, Cond.instanceMethod yX1_grownRow, Cond.selects RX1 yX1_grownRow yX1_grownRow, Cond.code yX1_grownRow cX1_grownRow 11 (some .int)]
def wsL_build_r9 : List Cond := [Cond.methodLink RX1 76 yX1_framed, Cond.instanceMethod yX1_framed, Cond.selects RX1 yX1_framed yX1_framed, Cond.code yX1_framed cX1_framed 2 (some .int), Cond.fieldLink RX1 34 "FrostPane$Pane" "frame" "I", Cond.methodLink RX1 94 yX1_withSides, Cond.instanceMethod yX1_withSides, Cond.selects RX1 yX1_withSides yX1_withSides, Cond.code yX1_withSides cX1_withSides 4 (some .int), Cond.methodLink RX1 79 yX1_countIn, Cond.static yX1_countIn, Cond.code yX1_countIn cX1_countIn 4 (some .int), Cond.methodLink RX1 71 yJ6_bitCount_0f7a4, Cond.static yJ6_bitCount_0f7a4, Cond.initialized RJ6, Cond.code yJ6_bitCount_0f7a4 cJ6_bitCount_0f7a4 1 (some .int), Cond.constant RJ6 265 (1431655765), Cond.constant RJ6 266 (858993459), Cond.constant RJ6 267 (252645135), Cond.methodLink RX1 53 yX1_meltOf, Cond.methodLink RX1 87 yX1_meltLess, Cond.instanceMethod yX1_meltLess, Cond.selects RX1 yX1_meltLess yX1_meltLess, Cond.code yX1_meltLess cX1_meltLess 2 none]
def wsL_build_r10 : List Cond := [Cond.methodLink RX1 90 yX1_takeNext, Cond.instanceMethod yX1_takeNext, Cond.selects RX1 yX1_takeNext yX1_takeNext, Cond.code yX1_takeNext cX1_takeNext 3 (some .boolean), Cond.methodLink RX3 104 yX1_countFrost, Cond.instanceMethod yX1_countFrost, Cond.selects RX1 yX1_countFrost yX1_countFrost, Cond.code yX1_countFrost cX1_countFrost 3 (some .int), Cond.methodLink RL 58 yX4_frozen, Cond.instanceMethod yX4_frozen, Cond.selects RX4 yX4_frozen yX4_frozen, Cond.code yX4_frozen cX4_frozen 10 (some .int)]
def wsL_build : List Cond := .code yL_build cL_build 7 (some (.object "FrostPaneLaw$Sim")) :: ((wsL_build_r1 ++ (wsL_build_r2 ++ (wsL_build_r3 ++ (wsL_build_r4 ++ (wsL_build_r5 ++ (wsL_build_r6 ++ (wsL_build_r7 ++ (wsL_build_r8 ++ (wsL_build_r9 ++ wsL_build_r10))))))))) ++ wsX40 ++ wsX30 ++ wsX10 ++ wsX20 ++ (vx_atS RX3 237 "java/lang/IllegalArgumentException" ["java/lang/RuntimeException", "java/lang/Exception"]).filter goodWord ++ (vx_atS RX3 55 "java/lang/IllegalStateException" ["java/lang/RuntimeException", "java/lang/Exception"]).filter goodWord ++ (vx_atS RX3 87 "java/lang/IndexOutOfBoundsException" ["java/lang/RuntimeException", "java/lang/Exception"]).filter goodWord)
def wsL_behind_r1 : List Cond := [Cond.fieldLink RL 42 "FrostPaneLaw$Sim" "breath" "I", Cond.methodLink RL 162 yX4_copy, Cond.instanceMethod yX4_copy, Cond.selects RX4 yX4_copy yX4_copy, Cond.initialized RX4, Cond.code yX4_copy cX4_copy 3 (some (.object "FrostPaneLaw$Sim")), Cond.classLink RX4 10 RX4, Cond.instantiable RX4 6, Cond.fieldLink RX4 9 "FrostPaneLaw$Sim" "ice" "[[Z", Cond.methodLink RX4 29 ⟨"[Z", "clone", "()Ljava/lang/Object;"⟩, Cond.sameMethod "[Z" "java/lang/Object" "clone" "()Ljava/lang/Object;", Cond.native ⟨"java/lang/Object", "clone", "()Ljava/lang/Object;"⟩, Cond.instanceMethod ⟨"java/lang/Object", "clone", "()Ljava/lang/Object;"⟩, Cond.selects "[Z" ⟨"[Z", "clone", "()Ljava/lang/Object;"⟩ ⟨"java/lang/Object", "clone", "()Ljava/lang/Object;"⟩, Cond.classLink RX4 30 "[Z", Cond.fieldLink RX4 16 "FrostPaneLaw$Sim" "melt" "[[I", Cond.methodLink RX4 35 ⟨"[I", "clone", "()Ljava/lang/Object;"⟩, Cond.sameMethod "[I" "java/lang/Object" "clone" "()Ljava/lang/Object;", Cond.selects "[I" ⟨"[I", "clone", "()Ljava/lang/Object;"⟩ ⟨"java/lang/Object", "clone", "()Ljava/lang/Object;"⟩, Cond.classLink RX4 19 "[I", Cond.fieldLink RX4 36 "FrostPaneLaw$Sim" "frame" "I", Cond.fieldLink RX4 40 "FrostPaneLaw$Sim" "generation" "I", Cond.fieldLink RX4 43 "FrostPaneLaw$Sim" "breath" "I", Cond.fieldLink RX4 21 "FrostPaneLaw$Sim" "rules" "[[I"]
def wsL_behind_r2 : List Cond := [Cond.methodLink RX4 24 yX4_init, Cond.instanceMethod yX4_init, Cond.code yX4_init cX4_init 1 none, Cond.methodLink RX4 1 objectInit, Cond.instanceMethod objectInit, Cond.code objectInit ⟨#[0xb1]⟩ 1 none, Cond.classLink RX4 7 "[[Z", Cond.arrayClass .boolean, Cond.classLink RX4 14 "[[I", Cond.arrayClass .int, Cond.methodLink RX4 25 yX4_lay, Cond.instanceMethod yX4_lay, Cond.selects RX4 yX4_lay yX4_lay, Cond.code yX4_lay cX4_lay 3 none, Cond.methodLink RL 53 yX4_grow, Cond.instanceMethod yX4_grow, Cond.selects RX4 yX4_grow yX4_grow, Cond.code yX4_grow cX4_grow 4 none, Cond.methodLink RX4 54 yX4_will, Cond.instanceMethod yX4_will, Cond.selects RX4 yX4_will yX4_will, Cond.code yX4_will cX4_will 5 (some .boolean), Cond.methodLink RX4 50 yX4_around, Cond.instanceMethod yX4_around]
def wsL_behind_r3 : List Cond := [Cond.selects RX4 yX4_around yX4_around, Cond.code yX4_around cX4_around 8 (some .int), Cond.methodLink RX4 46 yX4_isCell, Cond.instanceMethod yX4_isCell, Cond.selects RX4 yX4_isCell yX4_isCell, Cond.code yX4_isCell cX4_isCell 3 (some .boolean)]
def wsL_behind : List Cond := .code yL_behind cL_behind 5 (some (.object "FrostPaneLaw$Sim")) :: ((wsL_behind_r1 ++ (wsL_behind_r2 ++ wsL_behind_r3)) ++ wsX40)
def wsL_law0_r1 : List Cond := [Cond.classLink RL 26 RX3, Cond.instantiable RX3 6, Cond.initialized RX3, Cond.arrayClass .int, Cond.classLink RL 101 "[[Z", Cond.arrayClass .boolean, Cond.fieldLink RL 31 "FrostPaneLaw$Sim" "rules" "[[I", Cond.fieldLink RL 21 "FrostPaneLaw$Sim" "frame" "I", Cond.fieldLink RL 42 "FrostPaneLaw$Sim" "breath" "I", Cond.methodLink RL 86 yX3_init, Cond.instanceMethod yX3_init, Cond.code yX3_init cX3_init 1 none, Cond.methodLink RX3 1 objectInit, Cond.instanceMethod objectInit, Cond.code objectInit ⟨#[0xb1]⟩ 1 none, Cond.classLink RX3 7 RX1, Cond.instantiable RX1 6, Cond.initialized RX1, Cond.fieldLink RX3 10 "FrostPane" "now" "LFrostPane$Pane;", Cond.fieldLink RX3 16 "FrostPane" "ahead" "LFrostPane$Pane;", Cond.classLink RX3 19 RX0, Cond.instantiable RX0 2, Cond.initialized RX0, Cond.fieldLink RX3 22 "FrostPane" "picker" "LFrostPane$FlowerPicker;"]
def wsL_law0_r2 : List Cond := [Cond.classLink RX3 26 RX2, Cond.instantiable RX2 3, Cond.initialized RX2, Cond.fieldLink RX3 29 "FrostPane" "book" "LFrostPane$RuleBook;", Cond.instanceMethod yX1_init, Cond.code yX1_init cX1_init 1 none, Cond.methodLink RX1 3 objectInit, Cond.fieldLink RX1 9 "FrostPane$Pane" "frost" "[I", Cond.fieldLink RX1 15 "FrostPane$Pane" "frostNext" "[I", Cond.fieldLink RX1 18 "FrostPane$Pane" "melts" "[I", Cond.instanceMethod yX0_init, Cond.code yX0_init cX0_init 1 none, Cond.methodLink RX0 3 objectInit, Cond.fieldLink RX0 9 "FrostPane$FlowerPicker" "left" "[I", Cond.fieldLink RX0 15 "FrostPane$FlowerPicker" "flower" "[I", Cond.instanceMethod yX2_init, Cond.code yX2_init cX2_init 1 none, Cond.methodLink RX2 3 objectInit, Cond.fieldLink RX2 9 "FrostPane$RuleBook" "freezes" "[I", Cond.fieldLink RX2 15 "FrostPane$RuleBook" "stays" "[I", Cond.methodLink RX3 33 yX1_layClear, Cond.instanceMethod yX1_layClear, Cond.selects RX1 yX1_layClear yX1_layClear, Cond.code yX1_layClear cX1_layClear 3 none]
def wsL_law0_r3 : List Cond := [Cond.fieldLink RX1 21 "FrostPane$Pane" "columns" "I", Cond.fieldLink RX1 25 "FrostPane$Pane" "rows" "I", Cond.methodLink RX1 28 yJ7_fill_53178, Cond.static yJ7_fill_53178, Cond.initialized RJ7, Cond.code yJ7_fill_53178 cJ7_fill_53178 4 none, Cond.methodLink RX3 37 yX2_append, Cond.instanceMethod yX2_append, Cond.selects RX2 yX2_append yX2_append, Cond.code yX2_append cX2_append 4 (some .int), Cond.fieldLink RX2 18 "FrostPane$RuleBook" "count" "I", Cond.methodLink RL 87 yL_build, Cond.static yL_build, Cond.initialized RL, Cond.code yL_build cL_build 7 (some (.object "FrostPaneLaw$Sim")), Cond.classLink RL 10 RX4, Cond.instantiable RX4 6, Cond.initialized RX4, Cond.fieldLink RL 9 "FrostPaneLaw$Sim" "ice" "[[Z", Cond.instanceMethod yX4_init, Cond.code yX4_init cX4_init 1 none, Cond.methodLink RX4 1 objectInit, Cond.classLink RX4 7 "[[Z", Cond.fieldLink RX4 9 "FrostPaneLaw$Sim" "ice" "[[Z"]
def wsL_law0_r4 : List Cond := [Cond.classLink RX4 14 "[[I", Cond.fieldLink RX4 16 "FrostPaneLaw$Sim" "melt" "[[I", Cond.classLink RX4 19 "[I", Cond.fieldLink RX4 21 "FrostPaneLaw$Sim" "rules" "[[I", Cond.methodLink RL 78 yL_cell, Cond.static yL_cell, Cond.code yL_cell cL_cell 2 (some .int), Cond.constant RL 8 (790386105), Cond.methodLink RL 15 yL_below, Cond.static yL_below, Cond.code yL_below cL_below 2 (some .int), Cond.constant RL 7 (2147483647), Cond.methodLink RL 62 yX4_lay, Cond.instanceMethod yX4_lay, Cond.selects RX4 yX4_lay yX4_lay, Cond.code yX4_lay cX4_lay 3 none, Cond.methodLink RL 66 yX3_lay, Cond.instanceMethod yX3_lay, Cond.selects RX3 yX3_lay yX3_lay, Cond.code yX3_lay cX3_lay 3 (some .int), Cond.methodLink RX3 41 yX3_requireWithin, Cond.static yX3_requireWithin, Cond.code yX3_requireWithin cX3_requireWithin 3 none, Cond.classLink RX3 233 "java/lang/IllegalArgumentException"]
def wsL_law0_r5 : List Cond := [Cond.initialized "java/lang/IllegalArgumentException", Cond.methodLink RL 25 yX3_setFrame, Cond.instanceMethod yX3_setFrame, Cond.selects RX3 yX3_setFrame yX3_setFrame, Cond.code yX3_setFrame cX3_setFrame 3 (some .int), Cond.methodLink RL 71 yX3_turn, Cond.instanceMethod yX3_turn, Cond.selects RX3 yX3_turn yX3_turn, Cond.code yX3_turn cX3_turn 3 (some .boolean), Cond.classLink RX3 51 "java/lang/IllegalStateException", Cond.initialized "java/lang/IllegalStateException", Cond.methodLink RX3 45 yX3_requireCell, Cond.instanceMethod yX3_requireCell, Cond.selects RX3 yX3_requireCell yX3_requireCell, Cond.code yX3_requireCell cX3_requireCell 3 none, Cond.classLink RX3 83 "java/lang/IndexOutOfBoundsException", Cond.initialized "java/lang/IndexOutOfBoundsException", Cond.methodLink RX3 228 yX1_hasCell, Cond.instanceMethod yX1_hasCell, Cond.selects RX1 yX1_hasCell yX1_hasCell, Cond.code yX1_hasCell cX1_hasCell 3 (some .boolean), Cond.methodLink RX1 56 yX1_hasRow, Cond.instanceMethod yX1_hasRow, Cond.selects RX1 yX1_hasRow yX1_hasRow]
def wsL_law0_r6 : List Cond := [Cond.code yX1_hasRow cX1_hasRow 2 (some .boolean), Cond.methodLink RX3 48 yX1_meltOf, Cond.instanceMethod yX1_meltOf, Cond.selects RX1 yX1_meltOf yX1_meltOf, Cond.code yX1_meltOf cX1_meltOf 4 (some .int), Cond.methodLink RX3 58 yX1_flip, Cond.instanceMethod yX1_flip, Cond.selects RX1 yX1_flip yX1_flip, Cond.code yX1_flip cX1_flip 3 none, Cond.methodLink RX1 60 yX1_hasCell, Cond.methodLink RX3 61 yX1_hasFrost, Cond.instanceMethod yX1_hasFrost, Cond.selects RX1 yX1_hasFrost yX1_hasFrost, Cond.code yX1_hasFrost cX1_hasFrost 3 (some .boolean), Cond.methodLink RX1 49 yX1_bitsOf, Cond.instanceMethod yX1_bitsOf, Cond.selects RX1 yX1_bitsOf yX1_bitsOf, Cond.code yX1_bitsOf cX1_bitsOf 2 (some .int), Cond.methodLink RL 82 yL_act, Cond.static yL_act, Cond.codeWith yL_act cL_act 8 (some .boolean) [(31, 125, 518, 75), (126, 223, 518, 75), (224, 263, 518, 75), (264, 302, 518, 75), (303, 369, 518, 75), (370, 382, 518, 75), (383, 437, 518, 75), (438, 517, 518, 75)], Cond.classLink RL 75 "java/lang/IllegalStateException", Cond.fieldLink RL 68 "FrostPaneLaw$Sim" "melt" "[[I", Cond.methodLink RL 35 yX4_with]
def wsL_law0_r7 : List Cond := [Cond.static yX4_with, Cond.code yX4_with cX4_with 4 (some (.array (.array .int))), Cond.methodLink RL 39 yX3_addRule, Cond.instanceMethod yX3_addRule, Cond.selects RX3 yX3_addRule yX3_addRule, Cond.code yX3_addRule cX3_addRule 3 (some .int), Cond.methodLink RX3 73 yX2_isFull, Cond.instanceMethod yX2_isFull, Cond.selects RX2 yX2_isFull yX2_isFull, Cond.code yX2_isFull cX2_isFull 1 (some .boolean), Cond.methodLink RL 45 yX3_breathe, Cond.instanceMethod yX3_breathe, Cond.selects RX3 yX3_breathe yX3_breathe, Cond.code yX3_breathe cX3_breathe 3 (some .int), Cond.fieldLink RX3 88 "FrostPane" "breath" "I", Cond.methodLink RX3 79 yX2_has, Cond.instanceMethod yX2_has, Cond.selects RX2 yX2_has yX2_has, Cond.code yX2_has cX2_has 2 (some .boolean), Cond.methodLink RL 48 yX3_press, Cond.instanceMethod yX3_press, Cond.selects RX3 yX3_press yX3_press, Cond.code yX3_press cX3_press 4 (some .int), Cond.methodLink RX3 65 yX1_melt]
def wsL_law0_r8 : List Cond := [Cond.instanceMethod yX1_melt, Cond.selects RX1 yX1_melt yX1_melt, Cond.code yX1_melt cX1_melt 6 (some .int), Cond.methodLink RX1 64 yX1_hasFrost, Cond.methodLink RX1 67 yX1_flip, Cond.methodLink RL 52 yX4_press, Cond.instanceMethod yX4_press, Cond.selects RX4 yX4_press yX4_press, Cond.code yX4_press cX4_press 7 (some .int), Cond.methodLink RX4 57 Lib.Math.abs.name, Cond.static Lib.Math.abs.name, Cond.initialized "java/lang/Math", Cond.code Lib.Math.abs.name Lib.Math.abs.code 1 (some .int), Cond.methodLink RL 53 yX4_grow, Cond.instanceMethod yX4_grow, Cond.selects RX4 yX4_grow yX4_grow, Cond.code yX4_grow cX4_grow 4 none, Cond.fieldLink RX4 40 "FrostPaneLaw$Sim" "generation" "I", Cond.methodLink RX4 54 yX4_will, Cond.instanceMethod yX4_will, Cond.selects RX4 yX4_will yX4_will, Cond.code yX4_will cX4_will 5 (some .boolean), Cond.fieldLink RX4 43 "FrostPaneLaw$Sim" "breath" "I", Cond.methodLink RX4 50 yX4_around]
def wsL_law0_r9 : List Cond := [Cond.instanceMethod yX4_around, Cond.selects RX4 yX4_around yX4_around, Cond.code yX4_around cX4_around 8 (some .int), Cond.fieldLink RX4 36 "FrostPaneLaw$Sim" "frame" "I", Cond.methodLink RX4 46 yX4_isCell, Cond.instanceMethod yX4_isCell, Cond.selects RX4 yX4_isCell yX4_isCell, Cond.code yX4_isCell cX4_isCell 3 (some .boolean), Cond.methodLink RL 56 yX3_grow, Cond.instanceMethod yX3_grow, Cond.selects RX3 yX3_grow yX3_grow, Cond.code yX3_grow cX3_grow 3 (some .int), Cond.fieldLink RX3 101 "FrostPane" "generation" "I", Cond.methodLink RX3 91 yX2_freezesBy, Cond.instanceMethod yX2_freezesBy, Cond.selects RX2 yX2_freezesBy yX2_freezesBy, Cond.code yX2_freezesBy cX2_freezesBy 2 (some .int), Cond.methodLink RX2 22 yX2_has, Cond.methodLink RX3 95 yX2_staysBy, Cond.instanceMethod yX2_staysBy, Cond.selects RX2 yX2_staysBy yX2_staysBy, Cond.code yX2_staysBy cX2_staysBy 2 (some .int), Cond.methodLink RX3 98 yX1_step, Cond.instanceMethod yX1_step]
def wsL_law0_r10 : List Cond := [Cond.selects RX1 yX1_step yX1_step, Cond.code yX1_step cX1_step 4 (some .boolean), Cond.methodLink RX1 83 yX1_grownRow, Cond.instanceMethod yX1_grownRow, Cond.selects RX1 yX1_grownRow yX1_grownRow, Cond.code yX1_grownRow cX1_grownRow 11 (some .int), Cond.methodLink RX1 76 yX1_framed, Cond.instanceMethod yX1_framed, Cond.selects RX1 yX1_framed yX1_framed, Cond.code yX1_framed cX1_framed 2 (some .int), Cond.fieldLink RX1 34 "FrostPane$Pane" "frame" "I", Cond.methodLink RX1 94 yX1_withSides, Cond.instanceMethod yX1_withSides, Cond.selects RX1 yX1_withSides yX1_withSides, Cond.code yX1_withSides cX1_withSides 4 (some .int), Cond.methodLink RX1 79 yX1_countIn, Cond.static yX1_countIn, Cond.code yX1_countIn cX1_countIn 4 (some .int), Cond.methodLink RX1 71 yJ6_bitCount_0f7a4, Cond.static yJ6_bitCount_0f7a4, Cond.initialized RJ6, Cond.code yJ6_bitCount_0f7a4 cJ6_bitCount_0f7a4 1 (some .int), Cond.constant RJ6 265 (1431655765), Cond.constant RJ6 266 (858993459)]
def wsL_law0_r11 : List Cond := [Cond.constant RJ6 267 (252645135), Cond.methodLink RX1 53 yX1_meltOf, Cond.methodLink RX1 87 yX1_meltLess, Cond.instanceMethod yX1_meltLess, Cond.selects RX1 yX1_meltLess yX1_meltLess, Cond.code yX1_meltLess cX1_meltLess 2 none, Cond.methodLink RX1 90 yX1_takeNext, Cond.instanceMethod yX1_takeNext, Cond.selects RX1 yX1_takeNext yX1_takeNext, Cond.code yX1_takeNext cX1_takeNext 3 (some .boolean), Cond.methodLink RX3 104 yX1_countFrost, Cond.instanceMethod yX1_countFrost, Cond.selects RX1 yX1_countFrost yX1_countFrost, Cond.code yX1_countFrost cX1_countFrost 3 (some .int), Cond.methodLink RL 58 yX4_frozen, Cond.instanceMethod yX4_frozen, Cond.selects RX4 yX4_frozen yX4_frozen, Cond.code yX4_frozen cX4_frozen 10 (some .int), Cond.methodLink RL 91 yX3_digest, Cond.instanceMethod yX3_digest, Cond.selects RX3 yX3_digest yX3_digest, Cond.code yX3_digest cX3_digest 4 (some .long), Cond.constantLong RX3 162 (2203), Cond.methodLink RX3 164 yX3_columns]
def wsL_law0_r12 : List Cond := [Cond.instanceMethod yX3_columns, Cond.selects RX3 yX3_columns yX3_columns, Cond.code yX3_columns cX3_columns 1 (some .int), Cond.methodLink RX3 166 yX3_mixed, Cond.static yX3_mixed, Cond.code yX3_mixed cX3_mixed 4 (some .long), Cond.constantLong RX3 226 (31), Cond.methodLink RX3 170 yX3_rows, Cond.instanceMethod yX3_rows, Cond.selects RX3 yX3_rows yX3_rows, Cond.code yX3_rows cX3_rows 1 (some .int), Cond.methodLink RX3 172 yX3_generation, Cond.instanceMethod yX3_generation, Cond.selects RX3 yX3_generation yX3_generation, Cond.code yX3_generation cX3_generation 1 (some .int), Cond.methodLink RX3 174 yX3_rules, Cond.instanceMethod yX3_rules, Cond.selects RX3 yX3_rules yX3_rules, Cond.code yX3_rules cX3_rules 1 (some .int), Cond.methodLink RX3 177 yX3_breath, Cond.instanceMethod yX3_breath, Cond.selects RX3 yX3_breath yX3_breath, Cond.code yX3_breath cX3_breath 1 (some .int), Cond.methodLink RX3 179 yX3_frozen]
def wsL_law0_r13 : List Cond := [Cond.instanceMethod yX3_frozen, Cond.selects RX3 yX3_frozen yX3_frozen, Cond.code yX3_frozen cX3_frozen 1 (some .int), Cond.methodLink RX3 182 yX3_melted, Cond.instanceMethod yX3_melted, Cond.selects RX3 yX3_melted yX3_melted, Cond.code yX3_melted cX3_melted 1 (some .int), Cond.methodLink RX3 117 yX1_countMelted, Cond.instanceMethod yX1_countMelted, Cond.selects RX1 yX1_countMelted yX1_countMelted, Cond.code yX1_countMelted cX1_countMelted 3 (some .int), Cond.methodLink RX3 185 yX3_flowers, Cond.instanceMethod yX3_flowers, Cond.selects RX3 yX3_flowers yX3_flowers, Cond.code yX3_flowers cX3_flowers 4 (some .int), Cond.methodLink RX3 140 yX0_spreadOut, Cond.instanceMethod yX0_spreadOut, Cond.selects RX0 yX0_spreadOut yX0_spreadOut, Cond.code yX0_spreadOut cX0_spreadOut 3 none, Cond.methodLink RX0 18 yX1_bitsOf, Cond.methodLink RX3 144 yX0_pick, Cond.instanceMethod yX0_pick, Cond.selects RX0 yX0_pick yX0_pick, Cond.code yX0_pick cX0_pick 4 (some .int)]
def wsL_law0_r14 : List Cond := [Cond.methodLink RX0 24 yJ7_fill_53178, Cond.methodLink RX0 30 yX0_widen, Cond.instanceMethod yX0_widen, Cond.selects RX0 yX0_widen yX0_widen, Cond.code yX0_widen cX0_widen 5 (some .boolean), Cond.methodLink RX0 38 yX0_flowerIn, Cond.instanceMethod yX0_flowerIn, Cond.selects RX0 yX0_flowerIn yX0_flowerIn, Cond.code yX0_flowerIn cX0_flowerIn 2 (some .int), Cond.methodLink RX0 34 yX0_takeAway, Cond.instanceMethod yX0_takeAway, Cond.selects RX0 yX0_takeAway yX0_takeAway, Cond.code yX0_takeAway cX0_takeAway 3 (some .int), Cond.methodLink RX0 41 yJ6_bitCount_0f7a4, Cond.methodLink RX3 188 yX3_largestFlower, Cond.instanceMethod yX3_largestFlower, Cond.selects RX3 yX3_largestFlower yX3_largestFlower, Cond.code yX3_largestFlower cX3_largestFlower 4 (some .int), Cond.methodLink RX3 147 Lib.Math.max.name, Cond.static Lib.Math.max.name, Cond.code Lib.Math.max.name Lib.Math.max.code 2 (some .int), Cond.methodLink RX3 191 yX3_isMirrored, Cond.instanceMethod yX3_isMirrored, Cond.selects RX3 yX3_isMirrored yX3_isMirrored]
def wsL_law0_r15 : List Cond := [Cond.code yX3_isMirrored cX3_isMirrored 3 (some .boolean), Cond.methodLink RX3 194 yX3_asNumber, Cond.static yX3_asNumber, Cond.code yX3_asNumber cX3_asNumber 1 (some .long), Cond.methodLink RX3 198 yX3_comesAgainIn, Cond.instanceMethod yX3_comesAgainIn, Cond.selects RX3 yX3_comesAgainIn yX3_comesAgainIn, Cond.code yX3_comesAgainIn cX3_comesAgainIn 2 (some .int), Cond.methodLink RX3 155 yX1_becomeLike, Cond.instanceMethod yX1_becomeLike, Cond.selects RX1 yX1_becomeLike yX1_becomeLike, Cond.code yX1_becomeLike cX1_becomeLike 2 none, Cond.methodLink RX1 37 Lib.Math.min.name, Cond.static Lib.Math.min.name, Cond.code Lib.Math.min.name Lib.Math.min.code 2 (some .int), Cond.methodLink RX1 43 arraycopyName, Cond.native arraycopyName, Cond.static arraycopyName, Cond.initialized "java/lang/System", Cond.methodLink RX3 158 yX1_isLike, Cond.instanceMethod yX1_isLike, Cond.selects RX1 yX1_isLike yX1_isLike, Cond.code yX1_isLike cX1_isLike 4 (some .boolean), Cond.methodLink RX3 201 yX3_standsStillIn]
def wsL_law0_r16 : List Cond := [Cond.instanceMethod yX3_standsStillIn, Cond.selects RX3 yX3_standsStillIn yX3_standsStillIn, Cond.code yX3_standsStillIn cX3_standsStillIn 4 (some .int), Cond.methodLink RX3 204 yX3_bestBreath, Cond.instanceMethod yX3_bestBreath, Cond.selects RX3 yX3_bestBreath yX3_bestBreath, Cond.code yX3_bestBreath cX3_bestBreath 6 (some .int), Cond.methodLink RX3 152 yX3_frostBehind, Cond.instanceMethod yX3_frostBehind, Cond.selects RX3 yX3_frostBehind yX3_frostBehind, Cond.code yX3_frostBehind cX3_frostBehind 4 (some .int), Cond.methodLink RX3 207 yX3_digestOfRow, Cond.instanceMethod yX3_digestOfRow, Cond.selects RX3 yX3_digestOfRow yX3_digestOfRow, Cond.code yX3_digestOfRow cX3_digestOfRow 7 (some .long), Cond.methodLink RX3 211 yX3_frozenInRow, Cond.instanceMethod yX3_frozenInRow, Cond.selects RX3 yX3_frozenInRow yX3_frozenInRow, Cond.code yX3_frozenInRow cX3_frozenInRow 2 (some .int), Cond.methodLink RX3 127 yX1_hasRow, Cond.methodLink RX3 132 yX1_bitsOf, Cond.methodLink RX3 135 yJ6_bitCount_0f7a4, Cond.methodLink RX3 214 yX3_isFrozen, Cond.instanceMethod yX3_isFrozen]
def wsL_law0_r17 : List Cond := [Cond.selects RX3 yX3_isFrozen yX3_isFrozen, Cond.code yX3_isFrozen cX3_isFrozen 3 (some .boolean), Cond.methodLink RX3 217 yX3_meltedFor, Cond.instanceMethod yX3_meltedFor, Cond.selects RX3 yX3_meltedFor yX3_meltedFor, Cond.code yX3_meltedFor cX3_meltedFor 3 (some .int), Cond.methodLink RX3 220 yX3_around, Cond.instanceMethod yX3_around, Cond.selects RX3 yX3_around yX3_around, Cond.code yX3_around cX3_around 3 (some .int), Cond.methodLink RX3 120 yX1_countAround, Cond.instanceMethod yX1_countAround, Cond.selects RX1 yX1_countAround yX1_countAround, Cond.code yX1_countAround cX1_countAround 3 (some .int), Cond.methodLink RX3 223 yX3_willFreeze, Cond.instanceMethod yX3_willFreeze, Cond.selects RX3 yX3_willFreeze yX3_willFreeze, Cond.code yX3_willFreeze cX3_willFreeze 3 (some .boolean), Cond.methodLink RX3 123 yX1_isFrozenNext, Cond.instanceMethod yX1_isFrozenNext, Cond.selects RX1 yX1_isFrozenNext yX1_isFrozenNext, Cond.code yX1_isFrozenNext cX1_isFrozenNext 5 (some .boolean), Cond.methodLink RL 95 yX3_columns, Cond.methodLink RL 98 yX3_rows]
def wsL_law0_r18 : List Cond := [Cond.methodLink RL 102 yX3_isFrozen, Cond.methodLink RL 105 yX3_around, Cond.methodLink RL 108 yX3_flowerAt, Cond.instanceMethod yX3_flowerAt, Cond.selects RX3 yX3_flowerAt yX3_flowerAt, Cond.code yX3_flowerAt cX3_flowerAt 3 (some .int), Cond.methodLink RL 111 yX3_meltedFor, Cond.methodLink RL 114 yX3_willFreeze, Cond.methodLink RL 117 yX3_breath, Cond.methodLink RL 119 yX3_frozenInRow, Cond.methodLink RL 122 yX3_frozen, Cond.methodLink RL 123 yX3_melted, Cond.methodLink RL 126 yX3_meanInRows, Cond.instanceMethod yX3_meanInRows, Cond.selects RX3 yX3_meanInRows yX3_meanInRows, Cond.code yX3_meanInRows cX3_meanInRows 2 (some .double), Cond.methodLink RL 130 yX3_flowers, Cond.methodLink RL 133 yX3_largestFlower, Cond.methodLink RL 136 yX3_comesAgainIn, Cond.methodLink RL 139 yX3_standsStillIn, Cond.methodLink RL 142 yX3_peakIn, Cond.instanceMethod yX3_peakIn, Cond.selects RX3 yX3_peakIn yX3_peakIn, Cond.code yX3_peakIn cX3_peakIn 6 (some .int)]
def wsL_law0_r19 : List Cond := [Cond.methodLink RL 145 yX3_bestBreath, Cond.methodLink RL 148 yX3_rules, Cond.methodLink RL 150 yL_behind, Cond.static yL_behind, Cond.code yL_behind cL_behind 5 (some (.object "FrostPaneLaw$Sim")), Cond.methodLink RL 162 yX4_copy, Cond.instanceMethod yX4_copy, Cond.selects RX4 yX4_copy yX4_copy, Cond.code yX4_copy cX4_copy 3 (some (.object "FrostPaneLaw$Sim")), Cond.classLink RX4 10 RX4, Cond.methodLink RX4 29 ⟨"[Z", "clone", "()Ljava/lang/Object;"⟩, Cond.sameMethod "[Z" "java/lang/Object" "clone" "()Ljava/lang/Object;", Cond.native ⟨"java/lang/Object", "clone", "()Ljava/lang/Object;"⟩, Cond.instanceMethod ⟨"java/lang/Object", "clone", "()Ljava/lang/Object;"⟩, Cond.selects "[Z" ⟨"[Z", "clone", "()Ljava/lang/Object;"⟩ ⟨"java/lang/Object", "clone", "()Ljava/lang/Object;"⟩, Cond.classLink RX4 30 "[Z", Cond.methodLink RX4 35 ⟨"[I", "clone", "()Ljava/lang/Object;"⟩, Cond.sameMethod "[I" "java/lang/Object" "clone" "()Ljava/lang/Object;", Cond.selects "[I" ⟨"[I", "clone", "()Ljava/lang/Object;"⟩ ⟨"java/lang/Object", "clone", "()Ljava/lang/Object;"⟩, Cond.methodLink RX4 24 yX4_init, Cond.methodLink RX4 25 yX4_lay, Cond.methodLink RL 154 yX4_isLike, Cond.instanceMethod yX4_isLike, Cond.selects RX4 yX4_isLike yX4_isLike]
def wsL_law0_r20 : List Cond := [Cond.code yX4_isLike cX4_isLike 4 (some .boolean), Cond.methodLink RL 158 yX4_isSame, Cond.instanceMethod yX4_isSame, Cond.selects RX4 yX4_isSame yX4_isSame, Cond.code yX4_isSame cX4_isSame 14 (some .boolean), Cond.methodLink RX4 78 Lib.Math.max.name, Cond.methodLink RX4 63 yX3_isFrozen, Cond.methodLink RX4 68 yX3_meltedFor, Cond.methodLink RX4 71 yX3_frozenInRow, Cond.methodLink RX4 74 yX4_flowers, Cond.instanceMethod yX4_flowers, Cond.selects RX4 yX4_flowers yX4_flowers, Cond.code yX4_flowers cX4_flowers 8 (some (.array (.array .int))), Cond.methodLink RX4 81 yX3_flowerAt, Cond.methodLink RX4 84 yX3_around, Cond.methodLink RX4 85 yX3_willFreeze, Cond.methodLink RX4 88 yX3_columns, Cond.methodLink RX4 92 yX3_rows, Cond.methodLink RX4 95 yX3_generation, Cond.methodLink RX4 97 yX3_rules, Cond.methodLink RX4 99 yX3_breath, Cond.methodLink RX4 101 yX3_frozen, Cond.methodLink RX4 104 yX4_frozen, Cond.methodLink RX4 105 yX3_melted]
def wsL_law0_r21 : List Cond := [Cond.methodLink RX4 108 yX4_melted, Cond.instanceMethod yX4_melted, Cond.selects RX4 yX4_melted yX4_melted, Cond.code yX4_melted cX4_melted 10 (some .int), Cond.methodLink RX4 109 yX3_flowers, Cond.methodLink RX4 111 yX3_largestFlower, Cond.methodLink RX4 114 yX3_isMirrored, Cond.methodLink RX4 118 yX3_meanInRows]
def wsL_law0 : List Cond := (wsL_law0_r1 ++ (wsL_law0_r2 ++ (wsL_law0_r3 ++ (wsL_law0_r4 ++ (wsL_law0_r5 ++ (wsL_law0_r6 ++ (wsL_law0_r7 ++ (wsL_law0_r8 ++ (wsL_law0_r9 ++ (wsL_law0_r10 ++ (wsL_law0_r11 ++ (wsL_law0_r12 ++ (wsL_law0_r13 ++ (wsL_law0_r14 ++ (wsL_law0_r15 ++ (wsL_law0_r16 ++ (wsL_law0_r17 ++ (wsL_law0_r18 ++ (wsL_law0_r19 ++ (wsL_law0_r20 ++ wsL_law0_r21)))))))))))))))))))) ++ wsX30 ++ wsX40 ++ wsX10 ++ wsX00 ++ wsX20 ++ ([] : List Cond)
def wsL_law : List Cond := wsL_law0 ++ (vx_atS RX3 237 "java/lang/IllegalArgumentException" ["java/lang/RuntimeException", "java/lang/Exception"]).filter goodWord ++ (vx_atS RX3 55 "java/lang/IllegalStateException" ["java/lang/RuntimeException", "java/lang/Exception"]).filter goodWord ++ (vx_atS RX3 87 "java/lang/IndexOutOfBoundsException" ["java/lang/RuntimeException", "java/lang/Exception"]).filter goodWord
theorem goodIn_1 {big a : List Cond} {c : Cond} (hm : c ∈ big) (hg : goodWord c = true) (ha : GoodIn big a) : GoodIn big (c :: a) := fun w h => (List.mem_cons.mp h).elim (fun e => e ▸ ⟨hm, good_of_word hg⟩) (ha w)
theorem goodIn_0 {big : List Cond} : GoodIn big [] := fun _ h => absurd h List.not_mem_nil
theorem f_in_r {big : List Cond} (ws : List Cond) (ps : List Nat) (hp : ws = ps.filterMap (fun i => big[i]?)) : ∀ w ∈ ws, w ∈ big := by
  intro w hw
  rw [hp] at hw
  obtain ⟨i, -, hi⟩ := List.mem_filterMap.mp hw
  exact List.mem_of_getElem? hi
set_option maxRecDepth 20000 in
theorem wsL_law_in0_r1 : ∀ w ∈ wsL_law0_r1, w ∈ lw_tbl := fun w h => f_in_r wsL_law0_r1 [28, 29, 13, 64, 665, 485, 630, 625, 628, 30, 31, 32, 33, 34, 35, 36, 37, 14, 106, 107, 65, 66, 15, 108] (by decide +kernel) w h
set_option maxRecDepth 20000 in
theorem wsL_law_in0_r2 : ∀ w ∈ wsL_law0_r2, w ∈ lw_tbl := fun w h => f_in_r wsL_law0_r2 [78, 79, 16, 109, 39, 40, 41, 42, 43, 44, 68, 69, 70, 71, 72, 81, 82, 83, 84, 85, 95, 96, 97, 98] (by decide +kernel) w h
set_option maxRecDepth 20000 in
theorem wsL_law_in0_r3 : ∀ w ∈ wsL_law0_r3, w ∈ lw_tbl := fun w h => f_in_r wsL_law0_r3 [45, 47, 99, 100, 17, 101, 102, 103, 104, 105, 86, 611, 612, 12, 613, 614, 615, 18, 621, 617, 618, 619, 471, 620] (by decide +kernel) w h
set_option maxRecDepth 20000 in
theorem wsL_law_in0_r4 : ∀ w ∈ wsL_law0_r4, w ∈ lw_tbl := fun w h => f_in_r wsL_law0_r4 [505, 622, 546, 629, 531, 532, 533, 534, 527, 528, 529, 530, 597, 598, 599, 600, 601, 602, 603, 604, 129, 130, 131, 132] (by decide +kernel) w h
set_option maxRecDepth 20000 in
theorem wsL_law_in0_r5 : ∀ w ∈ wsL_law0_r5, w ∈ lw_tbl := fun w h => f_in_r wsL_law0_r5 [22, 539, 540, 541, 542, 605, 606, 607, 608, 555, 24, 297, 299, 6, 300, 305, 23, 301, 302, 303, 304, 224, 225, 226] (by decide +kernel) w h
set_option maxRecDepth 20000 in
theorem wsL_law_in0_r6 : ∀ w ∈ wsL_law0_r6, w ∈ lw_tbl := fun w (h : w ∈ ([Cond.code yX1_hasRow cX1_hasRow 2 (some .boolean), Cond.methodLink RX3 48 yX1_meltOf, Cond.instanceMethod yX1_meltOf, Cond.selects RX1 yX1_meltOf yX1_meltOf, Cond.code yX1_meltOf cX1_meltOf 4 (some .int), Cond.methodLink RX3 58 yX1_flip, Cond.instanceMethod yX1_flip, Cond.selects RX1 yX1_flip yX1_flip, Cond.code yX1_flip cX1_flip 3 none, Cond.methodLink RX1 60 yX1_hasCell, Cond.methodLink RX3 61 yX1_hasFrost, Cond.instanceMethod yX1_hasFrost, Cond.selects RX1 yX1_hasFrost yX1_hasFrost, Cond.code yX1_hasFrost cX1_hasFrost 3 (some .boolean), Cond.methodLink RX1 49 yX1_bitsOf, Cond.instanceMethod yX1_bitsOf, Cond.selects RX1 yX1_bitsOf yX1_bitsOf, Cond.code yX1_bitsOf cX1_bitsOf 2 (some .int), Cond.methodLink RL 82 yL_act, Cond.static yL_act] ++ (Cond.codeWith yL_act cL_act 8 (some .boolean) [(31, 125, 518, 75), (126, 223, 518, 75), (224, 263, 518, 75), (264, 302, 518, 75), (303, 369, 518, 75), (370, 382, 518, 75), (383, 437, 518, 75), (438, 517, 518, 75)] :: ([Cond.classLink RL 75 "java/lang/IllegalStateException", Cond.fieldLink RL 68 "FrostPaneLaw$Sim" "melt" "[[I", Cond.methodLink RL 35 yX4_with] ++ [])))) => (List.mem_append.mp h).elim (fun h => f_in_r [Cond.code yX1_hasRow cX1_hasRow 2 (some .boolean), Cond.methodLink RX3 48 yX1_meltOf, Cond.instanceMethod yX1_meltOf, Cond.selects RX1 yX1_meltOf yX1_meltOf, Cond.code yX1_meltOf cX1_meltOf 4 (some .int), Cond.methodLink RX3 58 yX1_flip, Cond.instanceMethod yX1_flip, Cond.selects RX1 yX1_flip yX1_flip, Cond.code yX1_flip cX1_flip 3 none, Cond.methodLink RX1 60 yX1_hasCell, Cond.methodLink RX3 61 yX1_hasFrost, Cond.instanceMethod yX1_hasFrost, Cond.selects RX1 yX1_hasFrost yX1_hasFrost, Cond.code yX1_hasFrost cX1_hasFrost 3 (some .boolean), Cond.methodLink RX1 49 yX1_bitsOf, Cond.instanceMethod yX1_bitsOf, Cond.selects RX1 yX1_bitsOf yX1_bitsOf, Cond.code yX1_bitsOf cX1_bitsOf 2 (some .int), Cond.methodLink RL 82 yL_act, Cond.static yL_act] [227, 326, 250, 251, 252, 610, 587, 588, 589, 585, 321, 237, 238, 239, 228, 229, 230, 231, 535, 536] (by decide +kernel) w h) (fun h => (List.mem_cons.mp h).elim (fun e => e ▸ List.mem_of_getElem? (i := 537) rfl) (fun h => (List.mem_append.mp h).elim (fun h => f_in_r [Cond.classLink RL 75 "java/lang/IllegalStateException", Cond.fieldLink RL 68 "FrostPaneLaw$Sim" "melt" "[[I", Cond.methodLink RL 35 yX4_with] [538, 623, 543] (by decide +kernel) w h) (fun h => absurd h List.not_mem_nil)))
set_option maxRecDepth 20000 in
theorem wsL_law_in0_r7 : ∀ w ∈ wsL_law0_r7, w ∈ lw_tbl := fun w h => f_in_r wsL_law0_r7 [544, 545, 547, 548, 549, 550, 551, 552, 553, 554, 571, 572, 573, 574, 110, 575, 205, 206, 207, 577, 578, 579, 580, 581] (by decide +kernel) w h
set_option maxRecDepth 20000 in
theorem wsL_law_in0_r8 : ∀ w ∈ wsL_law0_r8, w ∈ lw_tbl := fun w h => f_in_r wsL_law0_r8 [582, 583, 584, 236, 586, 590, 591, 592, 593, 594, 595, 25, 596, 467, 468, 469, 470, 626, 473, 474, 475, 476, 627, 477] (by decide +kernel) w h
set_option maxRecDepth 20000 in
theorem wsL_law_in0_r9 : ∀ w ∈ wsL_law0_r9, w ∈ lw_tbl := fun w h => f_in_r wsL_law0_r9 [478, 479, 480, 624, 481, 482, 483, 484, 125, 126, 127, 128, 111, 200, 201, 202, 203, 204, 208, 209, 210, 211, 212, 213] (by decide +kernel) w h
set_option maxRecDepth 20000 in
theorem wsL_law_in0_r10 : ∀ w ∈ wsL_law0_r10, w ∈ lw_tbl := fun w h => f_in_r wsL_law0_r10 [214, 215, 216, 218, 1, 219, 220, 222, 2, 223, 49, 232, 234, 3, 235, 240, 241, 242, 243, 244, 26, 245, 246, 247] (by decide +kernel) w h
set_option maxRecDepth 20000 in
theorem wsL_law_in0_r11 : ∀ w ∈ wsL_law0_r11, w ∈ lw_tbl := fun w h => f_in_r wsL_law0_r11 [248, 249, 253, 255, 4, 256, 257, 259, 5, 260, 261, 262, 263, 264, 486, 487, 488, 489, 427, 428, 429, 430, 431, 432] (by decide +kernel) w h
set_option maxRecDepth 20000 in
theorem wsL_law_in0_r12 : ∀ w ∈ wsL_law0_r12, w ∈ lw_tbl := fun w h => f_in_r wsL_law0_r12 [266, 267, 268, 433, 434, 435, 436, 437, 270, 271, 272, 438, 439, 440, 441, 442, 274, 275, 276, 443, 278, 279, 280, 444] (by decide +kernel) w h
set_option maxRecDepth 20000 in
theorem wsL_law_in0_r13 : ∀ w ∈ wsL_law0_r13, w ∈ lw_tbl := fun w h => f_in_r wsL_law0_r13 [282, 283, 284, 445, 286, 287, 288, 289, 290, 291, 292, 446, 352, 353, 354, 355, 356, 357, 358, 359, 360, 361, 362, 363] (by decide +kernel) w h
set_option maxRecDepth 20000 in
theorem wsL_law_in0_r14 : ∀ w ∈ wsL_law0_r14, w ∈ lw_tbl := fun w h => f_in_r wsL_law0_r14 [364, 365, 367, 7, 368, 369, 371, 8, 372, 373, 375, 9, 376, 377, 447, 379, 380, 381, 382, 383, 384, 448, 449, 450] (by decide +kernel) w h
set_option maxRecDepth 20000 in
theorem wsL_law_in0_r15 : ∀ w ∈ wsL_law0_r15, w ∈ lw_tbl := fun w h => f_in_r wsL_law0_r15 [451, 452, 453, 454, 455, 390, 391, 392, 393, 394, 395, 396, 397, 398, 399, 400, 402, 401, 27, 403, 404, 405, 406, 456] (by decide +kernel) w h
set_option maxRecDepth 20000 in
theorem wsL_law_in0_r16 : ∀ w ∈ wsL_law0_r16, w ∈ lw_tbl := fun w h => f_in_r wsL_law0_r16 [408, 409, 410, 457, 416, 417, 418, 419, 421, 10, 422, 458, 460, 11, 461, 462, 344, 345, 346, 347, 349, 350, 463, 294] (by decide +kernel) w h
set_option maxRecDepth 20000 in
theorem wsL_law_in0_r17 : ∀ w ∈ wsL_law0_r17, w ∈ lw_tbl := fun w h => f_in_r wsL_law0_r17 [295, 296, 464, 323, 324, 325, 465, 328, 329, 330, 331, 332, 333, 334, 466, 336, 337, 338, 339, 340, 341, 342, 265, 269] (by decide +kernel) w h
set_option maxRecDepth 20000 in
theorem wsL_law_in0_r18 : ∀ w ∈ wsL_law0_r18, w ∈ lw_tbl := fun w h => f_in_r wsL_law0_r18 [293, 327, 385, 386, 387, 388, 322, 335, 277, 343, 281, 285, 423, 424, 425, 426, 351, 378, 389, 407, 411, 412, 413, 414] (by decide +kernel) w h
set_option maxRecDepth 20000 in
theorem wsL_law_in0_r19 : ∀ w ∈ wsL_law0_r19, w ∈ lw_tbl := fun w h => f_in_r wsL_law0_r19 [415, 273, 644, 645, 646, 647, 648, 649, 650, 651, 654, 655, 656, 657, 658, 660, 661, 662, 663, 652, 653, 490, 491, 492] (by decide +kernel) w h
set_option maxRecDepth 20000 in
theorem wsL_law_in0_r20 : ∀ w ∈ wsL_law0_r20, w ∈ lw_tbl := fun w (h : w ∈ ([Cond.code yX4_isLike cX4_isLike 4 (some .boolean), Cond.methodLink RL 158 yX4_isSame, Cond.instanceMethod yX4_isSame, Cond.selects RX4 yX4_isSame yX4_isSame] ++ (Cond.code yX4_isSame cX4_isSame 14 (some .boolean) :: ([Cond.methodLink RX4 78 Lib.Math.max.name, Cond.methodLink RX4 63 yX3_isFrozen, Cond.methodLink RX4 68 yX3_meltedFor, Cond.methodLink RX4 71 yX3_frozenInRow, Cond.methodLink RX4 74 yX4_flowers, Cond.instanceMethod yX4_flowers, Cond.selects RX4 yX4_flowers yX4_flowers, Cond.code yX4_flowers cX4_flowers 8 (some (.array (.array .int))), Cond.methodLink RX4 81 yX3_flowerAt, Cond.methodLink RX4 84 yX3_around, Cond.methodLink RX4 85 yX3_willFreeze, Cond.methodLink RX4 88 yX3_columns, Cond.methodLink RX4 92 yX3_rows, Cond.methodLink RX4 95 yX3_generation, Cond.methodLink RX4 97 yX3_rules, Cond.methodLink RX4 99 yX3_breath, Cond.methodLink RX4 101 yX3_frozen, Cond.methodLink RX4 104 yX4_frozen, Cond.methodLink RX4 105 yX3_melted] ++ [])))) => (List.mem_append.mp h).elim (fun h => f_in_r [Cond.code yX4_isLike cX4_isLike 4 (some .boolean), Cond.methodLink RL 158 yX4_isSame, Cond.instanceMethod yX4_isSame, Cond.selects RX4 yX4_isSame yX4_isSame] [493, 494, 495, 496] (by decide +kernel) w h) (fun h => (List.mem_cons.mp h).elim (fun e => e ▸ List.mem_of_getElem? (i := 497) rfl) (fun h => (List.mem_append.mp h).elim (fun h => f_in_r [Cond.methodLink RX4 78 Lib.Math.max.name, Cond.methodLink RX4 63 yX3_isFrozen, Cond.methodLink RX4 68 yX3_meltedFor, Cond.methodLink RX4 71 yX3_frozenInRow, Cond.methodLink RX4 74 yX4_flowers, Cond.instanceMethod yX4_flowers, Cond.selects RX4 yX4_flowers yX4_flowers, Cond.code yX4_flowers cX4_flowers 8 (some (.array (.array .int))), Cond.methodLink RX4 81 yX3_flowerAt, Cond.methodLink RX4 84 yX3_around, Cond.methodLink RX4 85 yX3_willFreeze, Cond.methodLink RX4 88 yX3_columns, Cond.methodLink RX4 92 yX3_rows, Cond.methodLink RX4 95 yX3_generation, Cond.methodLink RX4 97 yX3_rules, Cond.methodLink RX4 99 yX3_breath, Cond.methodLink RX4 101 yX3_frozen, Cond.methodLink RX4 104 yX4_frozen, Cond.methodLink RX4 105 yX3_melted] [507, 498, 499, 500, 501, 502, 503, 504, 508, 509, 510, 511, 512, 513, 514, 515, 516, 517, 518] (by decide +kernel) w h) (fun h => absurd h List.not_mem_nil)))
set_option maxRecDepth 20000 in
theorem wsL_law_in0_r21 : ∀ w ∈ wsL_law0_r21, w ∈ lw_tbl := fun w h => f_in_r wsL_law0_r21 [519, 520, 521, 522, 523, 524, 525, 526] (by decide +kernel) w h
theorem wsL_law_in0_wsX30 : ∀ w ∈ wsX30, w ∈ lw_tbl := fun w h => f_in_r wsX30 [112, 114, 116, 118, 120, 122] (by decide +kernel) w h
theorem wsL_law_in0_wsX40 : ∀ w ∈ wsX40, w ∈ lw_tbl := fun w h => f_in_r wsX40 [631, 633, 635, 637, 639, 641] (by decide +kernel) w h
theorem wsL_law_in0_wsX10 : ∀ w ∈ wsX10, w ∈ lw_tbl := fun w h => f_in_r wsX10 [51, 53, 55, 57, 59, 61] (by decide +kernel) w h
theorem wsL_law_in0_wsX00 : ∀ w ∈ wsX00, w ∈ lw_tbl := fun w h => f_in_r wsX00 [73, 75] (by decide +kernel) w h
theorem wsL_law_in0_wsX20 : ∀ w ∈ wsX20, w ∈ lw_tbl := fun w h => f_in_r wsX20 [88, 90, 92] (by decide +kernel) w h
theorem wsL_law_in0 : ∀ w ∈ wsL_law0, w ∈ lw_tbl := fun w h => (List.mem_append.mp h).elim (fun h => (List.mem_append.mp h).elim (fun h => (List.mem_append.mp h).elim (fun h => (List.mem_append.mp h).elim (fun h => (List.mem_append.mp h).elim (fun h => (List.mem_append.mp h).elim (fun h => (List.mem_append.mp h).elim (fun h => wsL_law_in0_r1 w h) (fun h => (List.mem_append.mp h).elim (fun h => wsL_law_in0_r2 w h) (fun h => (List.mem_append.mp h).elim (fun h => wsL_law_in0_r3 w h) (fun h => (List.mem_append.mp h).elim (fun h => wsL_law_in0_r4 w h) (fun h => (List.mem_append.mp h).elim (fun h => wsL_law_in0_r5 w h) (fun h => (List.mem_append.mp h).elim (fun h => wsL_law_in0_r6 w h) (fun h => (List.mem_append.mp h).elim (fun h => wsL_law_in0_r7 w h) (fun h => (List.mem_append.mp h).elim (fun h => wsL_law_in0_r8 w h) (fun h => (List.mem_append.mp h).elim (fun h => wsL_law_in0_r9 w h) (fun h => (List.mem_append.mp h).elim (fun h => wsL_law_in0_r10 w h) (fun h => (List.mem_append.mp h).elim (fun h => wsL_law_in0_r11 w h) (fun h => (List.mem_append.mp h).elim (fun h => wsL_law_in0_r12 w h) (fun h => (List.mem_append.mp h).elim (fun h => wsL_law_in0_r13 w h) (fun h => (List.mem_append.mp h).elim (fun h => wsL_law_in0_r14 w h) (fun h => (List.mem_append.mp h).elim (fun h => wsL_law_in0_r15 w h) (fun h => (List.mem_append.mp h).elim (fun h => wsL_law_in0_r16 w h) (fun h => (List.mem_append.mp h).elim (fun h => wsL_law_in0_r17 w h) (fun h => (List.mem_append.mp h).elim (fun h => wsL_law_in0_r18 w h) (fun h => (List.mem_append.mp h).elim (fun h => wsL_law_in0_r19 w h) (fun h => (List.mem_append.mp h).elim (fun h => wsL_law_in0_r20 w h) (fun h => wsL_law_in0_r21 w h))))))))))))))))))))) (fun h => wsL_law_in0_wsX30 w h)) (fun h => wsL_law_in0_wsX40 w h)) (fun h => wsL_law_in0_wsX10 w h)) (fun h => wsL_law_in0_wsX00 w h)) (fun h => wsL_law_in0_wsX20 w h)) (fun h => absurd h List.not_mem_nil)
theorem wsL_law_x0 : ∀ w ∈ (vx_atS RX3 237 "java/lang/IllegalArgumentException" ["java/lang/RuntimeException", "java/lang/Exception"]).filter goodWord, w ∈ lw_tbl := by decide +kernel
theorem wsL_law_x1 : ∀ w ∈ (vx_atS RX3 55 "java/lang/IllegalStateException" ["java/lang/RuntimeException", "java/lang/Exception"]).filter goodWord, w ∈ lw_tbl := by decide +kernel
theorem wsL_law_x2 : ∀ w ∈ (vx_atS RX3 87 "java/lang/IndexOutOfBoundsException" ["java/lang/RuntimeException", "java/lang/Exception"]).filter goodWord, w ∈ lw_tbl := by decide +kernel
theorem wsL_law_in : ∀ w ∈ wsL_law, w ∈ lw_tbl := fun w h => (List.mem_append.mp h).elim (fun h => (List.mem_append.mp h).elim (fun h => (List.mem_append.mp h).elim (fun h => wsL_law_in0 w h) (fun h => wsL_law_x0 w h)) (fun h => wsL_law_x1 w h)) (fun h => wsL_law_x2 w h)
theorem inlX0 : ∀ w ∈ wsX00, w ∈ wsL_law := fun _ h => List.mem_append_left _ (List.mem_append_left _ (List.mem_append_left _ (List.mem_append_left _ (List.mem_append_left _ (List.mem_append_right _ h)))))
theorem inX0 : ∀ w ∈ wsX00, w ∈ lw_tbl := fun w h => wsL_law_in w (inlX0 w h)
theorem inlX1 : ∀ w ∈ wsX10, w ∈ wsL_law := fun _ h => List.mem_append_left _ (List.mem_append_left _ (List.mem_append_left _ (List.mem_append_left _ (List.mem_append_left _ (List.mem_append_left _ (List.mem_append_right _ h))))))
theorem inX1 : ∀ w ∈ wsX10, w ∈ lw_tbl := fun w h => wsL_law_in w (inlX1 w h)
theorem inlX2 : ∀ w ∈ wsX20, w ∈ wsL_law := fun _ h => List.mem_append_left _ (List.mem_append_left _ (List.mem_append_left _ (List.mem_append_left _ (List.mem_append_right _ h))))
theorem inX2 : ∀ w ∈ wsX20, w ∈ lw_tbl := fun w h => wsL_law_in w (inlX2 w h)
theorem inlX3 : ∀ w ∈ wsX30, w ∈ wsL_law := fun _ h => List.mem_append_left _ (List.mem_append_left _ (List.mem_append_left _ (List.mem_append_left _ (List.mem_append_left _ (List.mem_append_left _ (List.mem_append_left _ (List.mem_append_left _ (List.mem_append_right _ h))))))))
theorem inX3 : ∀ w ∈ wsX30, w ∈ lw_tbl := fun w h => wsL_law_in w (inlX3 w h)
theorem inlX4 : ∀ w ∈ wsX40, w ∈ wsL_law := fun _ h => List.mem_append_left _ (List.mem_append_left _ (List.mem_append_left _ (List.mem_append_left _ (List.mem_append_left _ (List.mem_append_left _ (List.mem_append_left _ (List.mem_append_right _ h)))))))
theorem inX4 : ∀ w ∈ wsX40, w ∈ lw_tbl := fun w h => wsL_law_in w (inlX4 w h)
theorem inX5 : ∀ w ∈ wsX50, w ∈ lw_tbl := by decide +kernel
theorem inJx145de : ∀ w ∈ wsJx145de0, w ∈ lw_tbl := by decide +kernel
theorem inJx8e188 : ∀ w ∈ wsJx8e1880, w ∈ lw_tbl := by decide +kernel
theorem inJ6 : ∀ w ∈ wsJ60, w ∈ lw_tbl := by decide +kernel
theorem inJ9 : ∀ w ∈ wsJ90, w ∈ lw_tbl := by decide +kernel
theorem inJ0 : ∀ w ∈ wsJ00, w ∈ lw_tbl := by decide +kernel
theorem inJ10 : ∀ w ∈ wsJ100, w ∈ lw_tbl := by decide +kernel
theorem inJ7 : ∀ w ∈ wsJ70, w ∈ lw_tbl := by decide +kernel
theorem dX0_init_0 : decode cX0_init 0 = .ok (.aload_n 0, 1) := by decide +kernel
theorem dX0_init_1 : decode cX0_init 1 = .ok (.invokespecial 3, 3) := by decide +kernel
theorem dX0_init_4 : decode cX0_init 4 = .ok (.aload_n 0, 1) := by decide +kernel
theorem dX0_init_5 : decode cX0_init 5 = .ok (.bipush 12, 2) := by decide +kernel
theorem dX0_init_7 : decode cX0_init 7 = .ok (.newarray .int, 2) := by decide +kernel
theorem dX0_init_9 : decode cX0_init 9 = .ok (.putfield 9, 3) := by decide +kernel
theorem dX0_init_12 : decode cX0_init 12 = .ok (.aload_n 0, 1) := by decide +kernel
theorem dX0_init_13 : decode cX0_init 13 = .ok (.bipush 12, 2) := by decide +kernel
theorem dX0_init_15 : decode cX0_init 15 = .ok (.newarray .int, 2) := by decide +kernel
theorem dX0_init_17 : decode cX0_init 17 = .ok (.putfield 15, 3) := by decide +kernel
theorem dX0_init_20 : decode cX0_init 20 = .ok (.return_, 1) := by decide +kernel
set_option maxRecDepth 20000 in
theorem ggX0_spreadOut_X1_bitsOf : GoodIn wsX0_spreadOut wsX1_bitsOf := goodIn_r _ [6, 7, 10, 11, 12, 13, 14, 15] (by decide +kernel) (by decide +kernel)
set_option maxRecDepth 20000 in
theorem gX0_spreadOut_X1_bitsOf : GoodIn wsX0_spreadOut (wsV RX0 18 RX1 yX1_bitsOf wsX1_bitsOf) := goodIn_app (goodIn_of _ (by decide +kernel)) ggX0_spreadOut_X1_bitsOf
theorem dX0_spreadOut_0 : decode cX0_spreadOut 0 = .ok (.aload_n 1, 1) := by decide +kernel
theorem dX0_spreadOut_1 : decode cX0_spreadOut 1 = .ok (.ifnonnull 4, 3) := by decide +kernel
theorem dX0_spreadOut_4 : decode cX0_spreadOut 4 = .ok (.return_, 1) := by decide +kernel
theorem dX0_spreadOut_5 : decode cX0_spreadOut 5 = .ok (.iconst 0, 1) := by decide +kernel
theorem dX0_spreadOut_6 : decode cX0_spreadOut 6 = .ok (.istore_n 2, 1) := by decide +kernel
theorem dX0_spreadOut_7 : decode cX0_spreadOut 7 = .ok (.iload_n 2, 1) := by decide +kernel
theorem dX0_spreadOut_8 : decode cX0_spreadOut 8 = .ok (.aload_n 0, 1) := by decide +kernel
theorem dX0_spreadOut_9 : decode cX0_spreadOut 9 = .ok (.getfield 9, 3) := by decide +kernel
theorem dX0_spreadOut_12 : decode cX0_spreadOut 12 = .ok (.arraylength, 1) := by decide +kernel
theorem dX0_spreadOut_13 : decode cX0_spreadOut 13 = .ok (.if_icmp .ge 20, 3) := by decide +kernel
theorem dX0_spreadOut_16 : decode cX0_spreadOut 16 = .ok (.aload_n 0, 1) := by decide +kernel
theorem dX0_spreadOut_17 : decode cX0_spreadOut 17 = .ok (.getfield 9, 3) := by decide +kernel
theorem dX0_spreadOut_20 : decode cX0_spreadOut 20 = .ok (.iload_n 2, 1) := by decide +kernel
theorem dX0_spreadOut_21 : decode cX0_spreadOut 21 = .ok (.aload_n 1, 1) := by decide +kernel
theorem dX0_spreadOut_22 : decode cX0_spreadOut 22 = .ok (.iload_n 2, 1) := by decide +kernel
theorem dX0_spreadOut_23 : decode cX0_spreadOut 23 = .ok (.invokevirtual 18, 3) := by decide +kernel
theorem dX0_spreadOut_26 : decode cX0_spreadOut 26 = .ok (.iastore, 1) := by decide +kernel
theorem dX0_spreadOut_27 : decode cX0_spreadOut 27 = .ok (.iinc 2 1, 3) := by decide +kernel
theorem dX0_spreadOut_30 : decode cX0_spreadOut 30 = .ok (.goto (-23), 3) := by decide +kernel
theorem dX0_spreadOut_33 : decode cX0_spreadOut 33 = .ok (.return_, 1) := by decide +kernel
set_option maxRecDepth 20000 in
theorem ggX0_pick_J7_fill_53178 : GoodIn wsX0_pick wsJ7_fill_53178 := goodIn_r _ [6] (by decide +kernel) (by decide +kernel)
set_option maxRecDepth 20000 in
theorem gX0_pick_J7_fill_53178 : GoodIn wsX0_pick (va_wsS RX0 24 yJ7_fill_53178 wsJ7_fill_53178) := goodIn_app (goodIn_of _ (by decide +kernel)) ggX0_pick_J7_fill_53178
set_option maxRecDepth 20000 in
theorem ggX0_pick_X0_widen : GoodIn wsX0_pick wsX0_widen := goodIn_r _ [11, 2, 1, 12, 13, 14, 10, 15, 27, 28] (by decide +kernel) (by decide +kernel)
set_option maxRecDepth 20000 in
theorem gX0_pick_X0_widen : GoodIn wsX0_pick (wsV RX0 30 RX0 yX0_widen wsX0_widen) := goodIn_app (goodIn_of _ (by decide +kernel)) ggX0_pick_X0_widen
set_option maxRecDepth 20000 in
theorem ggX0_pick_X0_takeAway : GoodIn wsX0_pick wsX0_takeAway := goodIn_r _ [19, 2, 1, 20, 21, 22, 23, 24, 25, 26, 27, 28] (by decide +kernel) (by decide +kernel)
set_option maxRecDepth 20000 in
theorem gX0_pick_X0_takeAway : GoodIn wsX0_pick (wsV RX0 34 RX0 yX0_takeAway wsX0_takeAway) := goodIn_app (goodIn_of _ (by decide +kernel)) ggX0_pick_X0_takeAway
theorem dX0_pick_0 : decode cX0_pick 0 = .ok (.iload_n 2, 1) := by decide +kernel
theorem dX0_pick_1 : decode cX0_pick 1 = .ok (.ifCond .lt 34, 3) := by decide +kernel
theorem dX0_pick_4 : decode cX0_pick 4 = .ok (.iload_n 2, 1) := by decide +kernel
theorem dX0_pick_5 : decode cX0_pick 5 = .ok (.aload_n 0, 1) := by decide +kernel
theorem dX0_pick_6 : decode cX0_pick 6 = .ok (.getfield 9, 3) := by decide +kernel
theorem dX0_pick_9 : decode cX0_pick 9 = .ok (.arraylength, 1) := by decide +kernel
theorem dX0_pick_10 : decode cX0_pick 10 = .ok (.if_icmp .ge 25, 3) := by decide +kernel
theorem dX0_pick_13 : decode cX0_pick 13 = .ok (.iload_n 2, 1) := by decide +kernel
theorem dX0_pick_14 : decode cX0_pick 14 = .ok (.aload_n 0, 1) := by decide +kernel
theorem dX0_pick_15 : decode cX0_pick 15 = .ok (.getfield 15, 3) := by decide +kernel
theorem dX0_pick_18 : decode cX0_pick 18 = .ok (.arraylength, 1) := by decide +kernel
theorem dX0_pick_19 : decode cX0_pick 19 = .ok (.if_icmp .ge 16, 3) := by decide +kernel
theorem dX0_pick_22 : decode cX0_pick 22 = .ok (.aload_n 0, 1) := by decide +kernel
theorem dX0_pick_23 : decode cX0_pick 23 = .ok (.getfield 9, 3) := by decide +kernel
theorem dX0_pick_26 : decode cX0_pick 26 = .ok (.iload_n 2, 1) := by decide +kernel
theorem dX0_pick_27 : decode cX0_pick 27 = .ok (.iaload, 1) := by decide +kernel
theorem dX0_pick_28 : decode cX0_pick 28 = .ok (.iload_n 1, 1) := by decide +kernel
theorem dX0_pick_29 : decode cX0_pick 29 = .ok (.ishr, 1) := by decide +kernel
theorem dX0_pick_30 : decode cX0_pick 30 = .ok (.iconst 1, 1) := by decide +kernel
theorem dX0_pick_31 : decode cX0_pick 31 = .ok (.iand, 1) := by decide +kernel
theorem dX0_pick_32 : decode cX0_pick 32 = .ok (.ifCond .ne 5, 3) := by decide +kernel
theorem dX0_pick_35 : decode cX0_pick 35 = .ok (.iconst 0, 1) := by decide +kernel
theorem dX0_pick_36 : decode cX0_pick 36 = .ok (.ireturn, 1) := by decide +kernel
theorem dX0_pick_37 : decode cX0_pick 37 = .ok (.aload_n 0, 1) := by decide +kernel
theorem dX0_pick_38 : decode cX0_pick 38 = .ok (.getfield 15, 3) := by decide +kernel
theorem dX0_pick_41 : decode cX0_pick 41 = .ok (.iconst 0, 1) := by decide +kernel
theorem dX0_pick_42 : decode cX0_pick 42 = .ok (.invokestatic 24, 3) := by decide +kernel
theorem dX0_pick_45 : decode cX0_pick 45 = .ok (.aload_n 0, 1) := by decide +kernel
theorem dX0_pick_46 : decode cX0_pick 46 = .ok (.getfield 15, 3) := by decide +kernel
theorem dX0_pick_49 : decode cX0_pick 49 = .ok (.iload_n 2, 1) := by decide +kernel
theorem dX0_pick_50 : decode cX0_pick 50 = .ok (.iconst 1, 1) := by decide +kernel
theorem dX0_pick_51 : decode cX0_pick 51 = .ok (.iload_n 1, 1) := by decide +kernel
theorem dX0_pick_52 : decode cX0_pick 52 = .ok (.ishl, 1) := by decide +kernel
theorem dX0_pick_53 : decode cX0_pick 53 = .ok (.iastore, 1) := by decide +kernel
theorem dX0_pick_54 : decode cX0_pick 54 = .ok (.iconst 0, 1) := by decide +kernel
theorem dX0_pick_55 : decode cX0_pick 55 = .ok (.istore_n 3, 1) := by decide +kernel
theorem dX0_pick_56 : decode cX0_pick 56 = .ok (.iload_n 3, 1) := by decide +kernel
theorem dX0_pick_57 : decode cX0_pick 57 = .ok (.sipush 144, 3) := by decide +kernel
theorem dX0_pick_60 : decode cX0_pick 60 = .ok (.if_icmp .ge 19, 3) := by decide +kernel
theorem dX0_pick_63 : decode cX0_pick 63 = .ok (.aload_n 0, 1) := by decide +kernel
theorem dX0_pick_64 : decode cX0_pick 64 = .ok (.invokevirtual 30, 3) := by decide +kernel
theorem dX0_pick_67 : decode cX0_pick 67 = .ok (.ifCond .ne 6, 3) := by decide +kernel
theorem dX0_pick_70 : decode cX0_pick 70 = .ok (.goto 9, 3) := by decide +kernel
theorem dX0_pick_73 : decode cX0_pick 73 = .ok (.iinc 3 1, 3) := by decide +kernel
theorem dX0_pick_76 : decode cX0_pick 76 = .ok (.goto (-20), 3) := by decide +kernel
theorem dX0_pick_79 : decode cX0_pick 79 = .ok (.aload_n 0, 1) := by decide +kernel
theorem dX0_pick_80 : decode cX0_pick 80 = .ok (.invokevirtual 34, 3) := by decide +kernel
theorem dX0_pick_83 : decode cX0_pick 83 = .ok (.ireturn, 1) := by decide +kernel
set_option maxRecDepth 20000 in
theorem ggX0_widen_X0_flowerIn : GoodIn wsX0_widen wsX0_flowerIn := goodIn_r _ [7, 1, 8, 9] (by decide +kernel) (by decide +kernel)
set_option maxRecDepth 20000 in
theorem gX0_widen_X0_flowerIn : GoodIn wsX0_widen (wsV RX0 38 RX0 yX0_flowerIn wsX0_flowerIn) := goodIn_app (goodIn_of _ (by decide +kernel)) ggX0_widen_X0_flowerIn
theorem dX0_widen_0 : decode cX0_widen 0 = .ok (.iconst 0, 1) := by decide +kernel
theorem dX0_widen_1 : decode cX0_widen 1 = .ok (.istore_n 1, 1) := by decide +kernel
theorem dX0_widen_2 : decode cX0_widen 2 = .ok (.iconst 0, 1) := by decide +kernel
theorem dX0_widen_3 : decode cX0_widen 3 = .ok (.istore_n 2, 1) := by decide +kernel
theorem dX0_widen_4 : decode cX0_widen 4 = .ok (.iload_n 2, 1) := by decide +kernel
theorem dX0_widen_5 : decode cX0_widen 5 = .ok (.aload_n 0, 1) := by decide +kernel
theorem dX0_widen_6 : decode cX0_widen 6 = .ok (.getfield 15, 3) := by decide +kernel
theorem dX0_widen_9 : decode cX0_widen 9 = .ok (.arraylength, 1) := by decide +kernel
theorem dX0_widen_10 : decode cX0_widen 10 = .ok (.if_icmp .ge 87, 3) := by decide +kernel
theorem dX0_widen_13 : decode cX0_widen 13 = .ok (.iload_n 2, 1) := by decide +kernel
theorem dX0_widen_14 : decode cX0_widen 14 = .ok (.aload_n 0, 1) := by decide +kernel
theorem dX0_widen_15 : decode cX0_widen 15 = .ok (.getfield 9, 3) := by decide +kernel
theorem dX0_widen_18 : decode cX0_widen 18 = .ok (.arraylength, 1) := by decide +kernel
theorem dX0_widen_19 : decode cX0_widen 19 = .ok (.if_icmp .ge 78, 3) := by decide +kernel
theorem dX0_widen_22 : decode cX0_widen 22 = .ok (.aload_n 0, 1) := by decide +kernel
theorem dX0_widen_23 : decode cX0_widen 23 = .ok (.getfield 15, 3) := by decide +kernel
theorem dX0_widen_26 : decode cX0_widen 26 = .ok (.iload_n 2, 1) := by decide +kernel
theorem dX0_widen_27 : decode cX0_widen 27 = .ok (.iaload, 1) := by decide +kernel
theorem dX0_widen_28 : decode cX0_widen 28 = .ok (.istore_n 3, 1) := by decide +kernel
theorem dX0_widen_29 : decode cX0_widen 29 = .ok (.iload_n 3, 1) := by decide +kernel
theorem dX0_widen_30 : decode cX0_widen 30 = .ok (.iload_n 3, 1) := by decide +kernel
theorem dX0_widen_31 : decode cX0_widen 31 = .ok (.iconst 1, 1) := by decide +kernel
theorem dX0_widen_32 : decode cX0_widen 32 = .ok (.ishl, 1) := by decide +kernel
theorem dX0_widen_33 : decode cX0_widen 33 = .ok (.ior, 1) := by decide +kernel
theorem dX0_widen_34 : decode cX0_widen 34 = .ok (.iload_n 3, 1) := by decide +kernel
theorem dX0_widen_35 : decode cX0_widen 35 = .ok (.iconst 1, 1) := by decide +kernel
theorem dX0_widen_36 : decode cX0_widen 36 = .ok (.ishr, 1) := by decide +kernel
theorem dX0_widen_37 : decode cX0_widen 37 = .ok (.ior, 1) := by decide +kernel
theorem dX0_widen_38 : decode cX0_widen 38 = .ok (.aload_n 0, 1) := by decide +kernel
theorem dX0_widen_39 : decode cX0_widen 39 = .ok (.iload_n 2, 1) := by decide +kernel
theorem dX0_widen_40 : decode cX0_widen 40 = .ok (.iconst 1, 1) := by decide +kernel
theorem dX0_widen_41 : decode cX0_widen 41 = .ok (.isub, 1) := by decide +kernel
theorem dX0_widen_42 : decode cX0_widen 42 = .ok (.invokevirtual 38, 3) := by decide +kernel
theorem dX0_widen_45 : decode cX0_widen 45 = .ok (.ior, 1) := by decide +kernel
theorem dX0_widen_46 : decode cX0_widen 46 = .ok (.aload_n 0, 1) := by decide +kernel
theorem dX0_widen_47 : decode cX0_widen 47 = .ok (.iload_n 2, 1) := by decide +kernel
theorem dX0_widen_48 : decode cX0_widen 48 = .ok (.iconst 1, 1) := by decide +kernel
theorem dX0_widen_49 : decode cX0_widen 49 = .ok (.iadd, 1) := by decide +kernel
theorem dX0_widen_50 : decode cX0_widen 50 = .ok (.invokevirtual 38, 3) := by decide +kernel
theorem dX0_widen_53 : decode cX0_widen 53 = .ok (.ior, 1) := by decide +kernel
theorem dX0_widen_54 : decode cX0_widen 54 = .ok (.istore 4, 2) := by decide +kernel
theorem dX0_widen_56 : decode cX0_widen 56 = .ok (.aload_n 0, 1) := by decide +kernel
theorem dX0_widen_57 : decode cX0_widen 57 = .ok (.getfield 15, 3) := by decide +kernel
theorem dX0_widen_60 : decode cX0_widen 60 = .ok (.iload_n 2, 1) := by decide +kernel
theorem dX0_widen_61 : decode cX0_widen 61 = .ok (.iload 4, 2) := by decide +kernel
theorem dX0_widen_63 : decode cX0_widen 63 = .ok (.aload_n 0, 1) := by decide +kernel
theorem dX0_widen_64 : decode cX0_widen 64 = .ok (.getfield 9, 3) := by decide +kernel
theorem dX0_widen_67 : decode cX0_widen 67 = .ok (.iload_n 2, 1) := by decide +kernel
theorem dX0_widen_68 : decode cX0_widen 68 = .ok (.iaload, 1) := by decide +kernel
theorem dX0_widen_69 : decode cX0_widen 69 = .ok (.iand, 1) := by decide +kernel
theorem dX0_widen_70 : decode cX0_widen 70 = .ok (.iastore, 1) := by decide +kernel
theorem dX0_widen_71 : decode cX0_widen 71 = .ok (.iload_n 1, 1) := by decide +kernel
theorem dX0_widen_72 : decode cX0_widen 72 = .ok (.ifCond .ne 13, 3) := by decide +kernel
theorem dX0_widen_75 : decode cX0_widen 75 = .ok (.aload_n 0, 1) := by decide +kernel
theorem dX0_widen_76 : decode cX0_widen 76 = .ok (.getfield 15, 3) := by decide +kernel
theorem dX0_widen_79 : decode cX0_widen 79 = .ok (.iload_n 2, 1) := by decide +kernel
theorem dX0_widen_80 : decode cX0_widen 80 = .ok (.iaload, 1) := by decide +kernel
theorem dX0_widen_81 : decode cX0_widen 81 = .ok (.iload_n 3, 1) := by decide +kernel
theorem dX0_widen_82 : decode cX0_widen 82 = .ok (.if_icmp .eq 7, 3) := by decide +kernel
theorem dX0_widen_85 : decode cX0_widen 85 = .ok (.iconst 1, 1) := by decide +kernel
theorem dX0_widen_86 : decode cX0_widen 86 = .ok (.goto 4, 3) := by decide +kernel
theorem dX0_widen_89 : decode cX0_widen 89 = .ok (.iconst 0, 1) := by decide +kernel
theorem dX0_widen_90 : decode cX0_widen 90 = .ok (.istore_n 1, 1) := by decide +kernel
theorem dX0_widen_91 : decode cX0_widen 91 = .ok (.iinc 2 1, 3) := by decide +kernel
theorem dX0_widen_94 : decode cX0_widen 94 = .ok (.goto (-90), 3) := by decide +kernel
theorem dX0_widen_97 : decode cX0_widen 97 = .ok (.iload_n 1, 1) := by decide +kernel
theorem dX0_widen_98 : decode cX0_widen 98 = .ok (.ireturn, 1) := by decide +kernel
theorem dX0_flowerIn_0 : decode cX0_flowerIn 0 = .ok (.iload_n 1, 1) := by decide +kernel
theorem dX0_flowerIn_1 : decode cX0_flowerIn 1 = .ok (.ifCond .lt 21, 3) := by decide +kernel
theorem dX0_flowerIn_4 : decode cX0_flowerIn 4 = .ok (.iload_n 1, 1) := by decide +kernel
theorem dX0_flowerIn_5 : decode cX0_flowerIn 5 = .ok (.aload_n 0, 1) := by decide +kernel
theorem dX0_flowerIn_6 : decode cX0_flowerIn 6 = .ok (.getfield 15, 3) := by decide +kernel
theorem dX0_flowerIn_9 : decode cX0_flowerIn 9 = .ok (.arraylength, 1) := by decide +kernel
theorem dX0_flowerIn_10 : decode cX0_flowerIn 10 = .ok (.if_icmp .ge 12, 3) := by decide +kernel
theorem dX0_flowerIn_13 : decode cX0_flowerIn 13 = .ok (.aload_n 0, 1) := by decide +kernel
theorem dX0_flowerIn_14 : decode cX0_flowerIn 14 = .ok (.getfield 15, 3) := by decide +kernel
theorem dX0_flowerIn_17 : decode cX0_flowerIn 17 = .ok (.iload_n 1, 1) := by decide +kernel
theorem dX0_flowerIn_18 : decode cX0_flowerIn 18 = .ok (.iaload, 1) := by decide +kernel
theorem dX0_flowerIn_19 : decode cX0_flowerIn 19 = .ok (.goto 4, 3) := by decide +kernel
theorem dX0_flowerIn_22 : decode cX0_flowerIn 22 = .ok (.iconst 0, 1) := by decide +kernel
theorem dX0_flowerIn_23 : decode cX0_flowerIn 23 = .ok (.ireturn, 1) := by decide +kernel
set_option maxRecDepth 20000 in
theorem ggX0_takeAway_J6_bitCount_0f7a4 : GoodIn wsX0_takeAway wsJ6_bitCount_0f7a4 := goodIn_r _ [6, 7, 8, 9] (by decide +kernel) (by decide +kernel)
set_option maxRecDepth 20000 in
theorem gX0_takeAway_J6_bitCount_0f7a4 : GoodIn wsX0_takeAway (va_wsS RX0 41 yJ6_bitCount_0f7a4 wsJ6_bitCount_0f7a4) := goodIn_app (goodIn_of _ (by decide +kernel)) ggX0_takeAway_J6_bitCount_0f7a4
theorem dX0_takeAway_0 : decode cX0_takeAway 0 = .ok (.iconst 0, 1) := by decide +kernel
theorem dX0_takeAway_1 : decode cX0_takeAway 1 = .ok (.istore_n 1, 1) := by decide +kernel
theorem dX0_takeAway_2 : decode cX0_takeAway 2 = .ok (.iconst 0, 1) := by decide +kernel
theorem dX0_takeAway_3 : decode cX0_takeAway 3 = .ok (.istore_n 2, 1) := by decide +kernel
theorem dX0_takeAway_4 : decode cX0_takeAway 4 = .ok (.iload_n 2, 1) := by decide +kernel
theorem dX0_takeAway_5 : decode cX0_takeAway 5 = .ok (.aload_n 0, 1) := by decide +kernel
theorem dX0_takeAway_6 : decode cX0_takeAway 6 = .ok (.getfield 15, 3) := by decide +kernel
theorem dX0_takeAway_9 : decode cX0_takeAway 9 = .ok (.arraylength, 1) := by decide +kernel
theorem dX0_takeAway_10 : decode cX0_takeAway 10 = .ok (.if_icmp .ge 47, 3) := by decide +kernel
theorem dX0_takeAway_13 : decode cX0_takeAway 13 = .ok (.iload_n 2, 1) := by decide +kernel
theorem dX0_takeAway_14 : decode cX0_takeAway 14 = .ok (.aload_n 0, 1) := by decide +kernel
theorem dX0_takeAway_15 : decode cX0_takeAway 15 = .ok (.getfield 9, 3) := by decide +kernel
theorem dX0_takeAway_18 : decode cX0_takeAway 18 = .ok (.arraylength, 1) := by decide +kernel
theorem dX0_takeAway_19 : decode cX0_takeAway 19 = .ok (.if_icmp .ge 38, 3) := by decide +kernel
theorem dX0_takeAway_22 : decode cX0_takeAway 22 = .ok (.iload_n 1, 1) := by decide +kernel
theorem dX0_takeAway_23 : decode cX0_takeAway 23 = .ok (.aload_n 0, 1) := by decide +kernel
theorem dX0_takeAway_24 : decode cX0_takeAway 24 = .ok (.getfield 15, 3) := by decide +kernel
theorem dX0_takeAway_27 : decode cX0_takeAway 27 = .ok (.iload_n 2, 1) := by decide +kernel
theorem dX0_takeAway_28 : decode cX0_takeAway 28 = .ok (.iaload, 1) := by decide +kernel
theorem dX0_takeAway_29 : decode cX0_takeAway 29 = .ok (.invokestatic 41, 3) := by decide +kernel
theorem dX0_takeAway_32 : decode cX0_takeAway 32 = .ok (.iadd, 1) := by decide +kernel
theorem dX0_takeAway_33 : decode cX0_takeAway 33 = .ok (.istore_n 1, 1) := by decide +kernel
theorem dX0_takeAway_34 : decode cX0_takeAway 34 = .ok (.aload_n 0, 1) := by decide +kernel
theorem dX0_takeAway_35 : decode cX0_takeAway 35 = .ok (.getfield 9, 3) := by decide +kernel
theorem dX0_takeAway_38 : decode cX0_takeAway 38 = .ok (.iload_n 2, 1) := by decide +kernel
theorem dX0_takeAway_39 : decode cX0_takeAway 39 = .ok (.dup2, 1) := by decide +kernel
theorem dX0_takeAway_40 : decode cX0_takeAway 40 = .ok (.iaload, 1) := by decide +kernel
theorem dX0_takeAway_41 : decode cX0_takeAway 41 = .ok (.aload_n 0, 1) := by decide +kernel
theorem dX0_takeAway_42 : decode cX0_takeAway 42 = .ok (.getfield 15, 3) := by decide +kernel
theorem dX0_takeAway_45 : decode cX0_takeAway 45 = .ok (.iload_n 2, 1) := by decide +kernel
theorem dX0_takeAway_46 : decode cX0_takeAway 46 = .ok (.iaload, 1) := by decide +kernel
theorem dX0_takeAway_47 : decode cX0_takeAway 47 = .ok (.iconst (-1), 1) := by decide +kernel
theorem dX0_takeAway_48 : decode cX0_takeAway 48 = .ok (.ixor, 1) := by decide +kernel
theorem dX0_takeAway_49 : decode cX0_takeAway 49 = .ok (.iand, 1) := by decide +kernel
theorem dX0_takeAway_50 : decode cX0_takeAway 50 = .ok (.iastore, 1) := by decide +kernel
theorem dX0_takeAway_51 : decode cX0_takeAway 51 = .ok (.iinc 2 1, 3) := by decide +kernel
theorem dX0_takeAway_54 : decode cX0_takeAway 54 = .ok (.goto (-50), 3) := by decide +kernel
theorem dX0_takeAway_57 : decode cX0_takeAway 57 = .ok (.iload_n 1, 1) := by decide +kernel
theorem dX0_takeAway_58 : decode cX0_takeAway 58 = .ok (.ireturn, 1) := by decide +kernel
theorem dX1_init_0 : decode cX1_init 0 = .ok (.aload_n 0, 1) := by decide +kernel
theorem dX1_init_1 : decode cX1_init 1 = .ok (.invokespecial 3, 3) := by decide +kernel
theorem dX1_init_4 : decode cX1_init 4 = .ok (.aload_n 0, 1) := by decide +kernel
theorem dX1_init_5 : decode cX1_init 5 = .ok (.bipush 12, 2) := by decide +kernel
theorem dX1_init_7 : decode cX1_init 7 = .ok (.newarray .int, 2) := by decide +kernel
theorem dX1_init_9 : decode cX1_init 9 = .ok (.putfield 9, 3) := by decide +kernel
theorem dX1_init_12 : decode cX1_init 12 = .ok (.aload_n 0, 1) := by decide +kernel
theorem dX1_init_13 : decode cX1_init 13 = .ok (.bipush 12, 2) := by decide +kernel
theorem dX1_init_15 : decode cX1_init 15 = .ok (.newarray .int, 2) := by decide +kernel
theorem dX1_init_17 : decode cX1_init 17 = .ok (.putfield 15, 3) := by decide +kernel
theorem dX1_init_20 : decode cX1_init 20 = .ok (.aload_n 0, 1) := by decide +kernel
theorem dX1_init_21 : decode cX1_init 21 = .ok (.sipush 144, 3) := by decide +kernel
theorem dX1_init_24 : decode cX1_init 24 = .ok (.newarray .int, 2) := by decide +kernel
theorem dX1_init_26 : decode cX1_init 26 = .ok (.putfield 18, 3) := by decide +kernel
theorem dX1_init_29 : decode cX1_init 29 = .ok (.return_, 1) := by decide +kernel
set_option maxRecDepth 20000 in
theorem ggX1_layClear_J7_fill_53178 : GoodIn wsX1_layClear wsJ7_fill_53178 := goodIn_r _ [8] (by decide +kernel) (by decide +kernel)
set_option maxRecDepth 20000 in
theorem gX1_layClear_J7_fill_53178 : GoodIn wsX1_layClear (va_wsS RX1 28 yJ7_fill_53178 wsJ7_fill_53178) := goodIn_app (goodIn_of _ (by decide +kernel)) ggX1_layClear_J7_fill_53178
theorem dX1_layClear_0 : decode cX1_layClear 0 = .ok (.aload_n 0, 1) := by decide +kernel
theorem dX1_layClear_1 : decode cX1_layClear 1 = .ok (.iload_n 1, 1) := by decide +kernel
theorem dX1_layClear_2 : decode cX1_layClear 2 = .ok (.putfield 21, 3) := by decide +kernel
theorem dX1_layClear_5 : decode cX1_layClear 5 = .ok (.aload_n 0, 1) := by decide +kernel
theorem dX1_layClear_6 : decode cX1_layClear 6 = .ok (.iload_n 2, 1) := by decide +kernel
theorem dX1_layClear_7 : decode cX1_layClear 7 = .ok (.putfield 25, 3) := by decide +kernel
theorem dX1_layClear_10 : decode cX1_layClear 10 = .ok (.aload_n 0, 1) := by decide +kernel
theorem dX1_layClear_11 : decode cX1_layClear 11 = .ok (.getfield 9, 3) := by decide +kernel
theorem dX1_layClear_14 : decode cX1_layClear 14 = .ok (.iconst 0, 1) := by decide +kernel
theorem dX1_layClear_15 : decode cX1_layClear 15 = .ok (.invokestatic 28, 3) := by decide +kernel
theorem dX1_layClear_18 : decode cX1_layClear 18 = .ok (.aload_n 0, 1) := by decide +kernel
theorem dX1_layClear_19 : decode cX1_layClear 19 = .ok (.getfield 18, 3) := by decide +kernel
theorem dX1_layClear_22 : decode cX1_layClear 22 = .ok (.iconst 0, 1) := by decide +kernel
theorem dX1_layClear_23 : decode cX1_layClear 23 = .ok (.invokestatic 28, 3) := by decide +kernel
theorem dX1_layClear_26 : decode cX1_layClear 26 = .ok (.return_, 1) := by decide +kernel
theorem dX1_becomeLike_0 : decode cX1_becomeLike 0 = .ok (.aload_n 1, 1) := by decide +kernel
theorem dX1_becomeLike_1 : decode cX1_becomeLike 1 = .ok (.ifnonnull 4, 3) := by decide +kernel
theorem dX1_becomeLike_4 : decode cX1_becomeLike 4 = .ok (.return_, 1) := by decide +kernel
theorem dX1_becomeLike_5 : decode cX1_becomeLike 5 = .ok (.aload_n 0, 1) := by decide +kernel
theorem dX1_becomeLike_6 : decode cX1_becomeLike 6 = .ok (.aload_n 1, 1) := by decide +kernel
theorem dX1_becomeLike_7 : decode cX1_becomeLike 7 = .ok (.getfield 21, 3) := by decide +kernel
theorem dX1_becomeLike_10 : decode cX1_becomeLike 10 = .ok (.putfield 21, 3) := by decide +kernel
theorem dX1_becomeLike_13 : decode cX1_becomeLike 13 = .ok (.aload_n 0, 1) := by decide +kernel
theorem dX1_becomeLike_14 : decode cX1_becomeLike 14 = .ok (.aload_n 1, 1) := by decide +kernel
theorem dX1_becomeLike_15 : decode cX1_becomeLike 15 = .ok (.getfield 25, 3) := by decide +kernel
theorem dX1_becomeLike_18 : decode cX1_becomeLike 18 = .ok (.putfield 25, 3) := by decide +kernel
theorem dX1_becomeLike_21 : decode cX1_becomeLike 21 = .ok (.aload_n 0, 1) := by decide +kernel
theorem dX1_becomeLike_22 : decode cX1_becomeLike 22 = .ok (.aload_n 1, 1) := by decide +kernel
theorem dX1_becomeLike_23 : decode cX1_becomeLike 23 = .ok (.getfield 34, 3) := by decide +kernel
theorem dX1_becomeLike_26 : decode cX1_becomeLike 26 = .ok (.putfield 34, 3) := by decide +kernel
theorem dX1_becomeLike_29 : decode cX1_becomeLike 29 = .ok (.aload_n 1, 1) := by decide +kernel
theorem dX1_becomeLike_30 : decode cX1_becomeLike 30 = .ok (.getfield 9, 3) := by decide +kernel
theorem dX1_becomeLike_33 : decode cX1_becomeLike 33 = .ok (.iconst 0, 1) := by decide +kernel
theorem dX1_becomeLike_34 : decode cX1_becomeLike 34 = .ok (.aload_n 0, 1) := by decide +kernel
theorem dX1_becomeLike_35 : decode cX1_becomeLike 35 = .ok (.getfield 9, 3) := by decide +kernel
theorem dX1_becomeLike_38 : decode cX1_becomeLike 38 = .ok (.iconst 0, 1) := by decide +kernel
theorem dX1_becomeLike_39 : decode cX1_becomeLike 39 = .ok (.aload_n 1, 1) := by decide +kernel
theorem dX1_becomeLike_40 : decode cX1_becomeLike 40 = .ok (.getfield 9, 3) := by decide +kernel
theorem dX1_becomeLike_43 : decode cX1_becomeLike 43 = .ok (.arraylength, 1) := by decide +kernel
theorem dX1_becomeLike_44 : decode cX1_becomeLike 44 = .ok (.aload_n 0, 1) := by decide +kernel
theorem dX1_becomeLike_45 : decode cX1_becomeLike 45 = .ok (.getfield 9, 3) := by decide +kernel
theorem dX1_becomeLike_48 : decode cX1_becomeLike 48 = .ok (.arraylength, 1) := by decide +kernel
theorem dX1_becomeLike_49 : decode cX1_becomeLike 49 = .ok (.invokestatic 37, 3) := by decide +kernel
theorem dX1_becomeLike_52 : decode cX1_becomeLike 52 = .ok (.invokestatic 43, 3) := by decide +kernel
theorem dX1_becomeLike_55 : decode cX1_becomeLike 55 = .ok (.aload_n 1, 1) := by decide +kernel
theorem dX1_becomeLike_56 : decode cX1_becomeLike 56 = .ok (.getfield 18, 3) := by decide +kernel
theorem dX1_becomeLike_59 : decode cX1_becomeLike 59 = .ok (.iconst 0, 1) := by decide +kernel
theorem dX1_becomeLike_60 : decode cX1_becomeLike 60 = .ok (.aload_n 0, 1) := by decide +kernel
theorem dX1_becomeLike_61 : decode cX1_becomeLike 61 = .ok (.getfield 18, 3) := by decide +kernel
theorem dX1_becomeLike_64 : decode cX1_becomeLike 64 = .ok (.iconst 0, 1) := by decide +kernel
theorem dX1_becomeLike_65 : decode cX1_becomeLike 65 = .ok (.aload_n 1, 1) := by decide +kernel
theorem dX1_becomeLike_66 : decode cX1_becomeLike 66 = .ok (.getfield 18, 3) := by decide +kernel
theorem dX1_becomeLike_69 : decode cX1_becomeLike 69 = .ok (.arraylength, 1) := by decide +kernel
theorem dX1_becomeLike_70 : decode cX1_becomeLike 70 = .ok (.aload_n 0, 1) := by decide +kernel
theorem dX1_becomeLike_71 : decode cX1_becomeLike 71 = .ok (.getfield 18, 3) := by decide +kernel
theorem dX1_becomeLike_74 : decode cX1_becomeLike 74 = .ok (.arraylength, 1) := by decide +kernel
theorem dX1_becomeLike_75 : decode cX1_becomeLike 75 = .ok (.invokestatic 37, 3) := by decide +kernel
theorem dX1_becomeLike_78 : decode cX1_becomeLike 78 = .ok (.invokestatic 43, 3) := by decide +kernel
theorem dX1_becomeLike_81 : decode cX1_becomeLike 81 = .ok (.return_, 1) := by decide +kernel
set_option maxRecDepth 20000 in
theorem ggX1_isLike_X1_bitsOf : GoodIn wsX1_isLike wsX1_bitsOf := goodIn_r _ [7, 8, 14, 15, 16, 17, 18, 19] (by decide +kernel) (by decide +kernel)
set_option maxRecDepth 20000 in
theorem gX1_isLike_X1_bitsOf : GoodIn wsX1_isLike (wsV RX1 49 RX1 yX1_bitsOf wsX1_bitsOf) := goodIn_app (goodIn_of _ (by decide +kernel)) ggX1_isLike_X1_bitsOf
set_option maxRecDepth 20000 in
theorem ggX1_isLike_X1_meltOf : GoodIn wsX1_isLike wsX1_meltOf := goodIn_r _ [12, 13, 14, 15, 16, 17, 18, 19] (by decide +kernel) (by decide +kernel)
set_option maxRecDepth 20000 in
theorem gX1_isLike_X1_meltOf : GoodIn wsX1_isLike (wsV RX1 53 RX1 yX1_meltOf wsX1_meltOf) := goodIn_app (goodIn_of _ (by decide +kernel)) ggX1_isLike_X1_meltOf
theorem dX1_isLike_0 : decode cX1_isLike 0 = .ok (.aload_n 1, 1) := by decide +kernel
theorem dX1_isLike_1 : decode cX1_isLike 1 = .ok (.ifnonnull 5, 3) := by decide +kernel
theorem dX1_isLike_4 : decode cX1_isLike 4 = .ok (.iconst 0, 1) := by decide +kernel
theorem dX1_isLike_5 : decode cX1_isLike 5 = .ok (.ireturn, 1) := by decide +kernel
theorem dX1_isLike_6 : decode cX1_isLike 6 = .ok (.iconst 0, 1) := by decide +kernel
theorem dX1_isLike_7 : decode cX1_isLike 7 = .ok (.istore_n 2, 1) := by decide +kernel
theorem dX1_isLike_8 : decode cX1_isLike 8 = .ok (.iload_n 2, 1) := by decide +kernel
theorem dX1_isLike_9 : decode cX1_isLike 9 = .ok (.aload_n 0, 1) := by decide +kernel
theorem dX1_isLike_10 : decode cX1_isLike 10 = .ok (.getfield 25, 3) := by decide +kernel
theorem dX1_isLike_13 : decode cX1_isLike 13 = .ok (.if_icmp .ge 57, 3) := by decide +kernel
theorem dX1_isLike_16 : decode cX1_isLike 16 = .ok (.aload_n 0, 1) := by decide +kernel
theorem dX1_isLike_17 : decode cX1_isLike 17 = .ok (.iload_n 2, 1) := by decide +kernel
theorem dX1_isLike_18 : decode cX1_isLike 18 = .ok (.invokevirtual 49, 3) := by decide +kernel
theorem dX1_isLike_21 : decode cX1_isLike 21 = .ok (.aload_n 1, 1) := by decide +kernel
theorem dX1_isLike_22 : decode cX1_isLike 22 = .ok (.iload_n 2, 1) := by decide +kernel
theorem dX1_isLike_23 : decode cX1_isLike 23 = .ok (.invokevirtual 49, 3) := by decide +kernel
theorem dX1_isLike_26 : decode cX1_isLike 26 = .ok (.if_icmp .eq 5, 3) := by decide +kernel
theorem dX1_isLike_29 : decode cX1_isLike 29 = .ok (.iconst 0, 1) := by decide +kernel
theorem dX1_isLike_30 : decode cX1_isLike 30 = .ok (.ireturn, 1) := by decide +kernel
theorem dX1_isLike_31 : decode cX1_isLike 31 = .ok (.iconst 0, 1) := by decide +kernel
theorem dX1_isLike_32 : decode cX1_isLike 32 = .ok (.istore_n 3, 1) := by decide +kernel
theorem dX1_isLike_33 : decode cX1_isLike 33 = .ok (.iload_n 3, 1) := by decide +kernel
theorem dX1_isLike_34 : decode cX1_isLike 34 = .ok (.aload_n 0, 1) := by decide +kernel
theorem dX1_isLike_35 : decode cX1_isLike 35 = .ok (.getfield 21, 3) := by decide +kernel
theorem dX1_isLike_38 : decode cX1_isLike 38 = .ok (.if_icmp .ge 26, 3) := by decide +kernel
theorem dX1_isLike_41 : decode cX1_isLike 41 = .ok (.aload_n 0, 1) := by decide +kernel
theorem dX1_isLike_42 : decode cX1_isLike 42 = .ok (.iload_n 3, 1) := by decide +kernel
theorem dX1_isLike_43 : decode cX1_isLike 43 = .ok (.iload_n 2, 1) := by decide +kernel
theorem dX1_isLike_44 : decode cX1_isLike 44 = .ok (.invokevirtual 53, 3) := by decide +kernel
theorem dX1_isLike_47 : decode cX1_isLike 47 = .ok (.aload_n 1, 1) := by decide +kernel
theorem dX1_isLike_48 : decode cX1_isLike 48 = .ok (.iload_n 3, 1) := by decide +kernel
theorem dX1_isLike_49 : decode cX1_isLike 49 = .ok (.iload_n 2, 1) := by decide +kernel
theorem dX1_isLike_50 : decode cX1_isLike 50 = .ok (.invokevirtual 53, 3) := by decide +kernel
theorem dX1_isLike_53 : decode cX1_isLike 53 = .ok (.if_icmp .eq 5, 3) := by decide +kernel
theorem dX1_isLike_56 : decode cX1_isLike 56 = .ok (.iconst 0, 1) := by decide +kernel
theorem dX1_isLike_57 : decode cX1_isLike 57 = .ok (.ireturn, 1) := by decide +kernel
theorem dX1_isLike_58 : decode cX1_isLike 58 = .ok (.iinc 3 1, 3) := by decide +kernel
theorem dX1_isLike_61 : decode cX1_isLike 61 = .ok (.goto (-28), 3) := by decide +kernel
theorem dX1_isLike_64 : decode cX1_isLike 64 = .ok (.iinc 2 1, 3) := by decide +kernel
theorem dX1_isLike_67 : decode cX1_isLike 67 = .ok (.goto (-59), 3) := by decide +kernel
theorem dX1_isLike_70 : decode cX1_isLike 70 = .ok (.iconst 1, 1) := by decide +kernel
theorem dX1_isLike_71 : decode cX1_isLike 71 = .ok (.ireturn, 1) := by decide +kernel
theorem dX1_hasRow_0 : decode cX1_hasRow 0 = .ok (.iload_n 1, 1) := by decide +kernel
theorem dX1_hasRow_1 : decode cX1_hasRow 1 = .ok (.ifCond .lt 15, 3) := by decide +kernel
theorem dX1_hasRow_4 : decode cX1_hasRow 4 = .ok (.iload_n 1, 1) := by decide +kernel
theorem dX1_hasRow_5 : decode cX1_hasRow 5 = .ok (.aload_n 0, 1) := by decide +kernel
theorem dX1_hasRow_6 : decode cX1_hasRow 6 = .ok (.getfield 25, 3) := by decide +kernel
theorem dX1_hasRow_9 : decode cX1_hasRow 9 = .ok (.if_icmp .ge 7, 3) := by decide +kernel
theorem dX1_hasRow_12 : decode cX1_hasRow 12 = .ok (.iconst 1, 1) := by decide +kernel
theorem dX1_hasRow_13 : decode cX1_hasRow 13 = .ok (.goto 4, 3) := by decide +kernel
theorem dX1_hasRow_16 : decode cX1_hasRow 16 = .ok (.iconst 0, 1) := by decide +kernel
theorem dX1_hasRow_17 : decode cX1_hasRow 17 = .ok (.ireturn, 1) := by decide +kernel
set_option maxRecDepth 20000 in
theorem ggX1_hasCell_X1_hasRow : GoodIn wsX1_hasCell wsX1_hasRow := goodIn_r _ [6, 7, 8, 9, 10, 11, 12, 13] (by decide +kernel) (by decide +kernel)
set_option maxRecDepth 20000 in
theorem gX1_hasCell_X1_hasRow : GoodIn wsX1_hasCell (wsV RX1 56 RX1 yX1_hasRow wsX1_hasRow) := goodIn_app (goodIn_of _ (by decide +kernel)) ggX1_hasCell_X1_hasRow
theorem dX1_hasCell_0 : decode cX1_hasCell 0 = .ok (.iload_n 1, 1) := by decide +kernel
theorem dX1_hasCell_1 : decode cX1_hasCell 1 = .ok (.ifCond .lt 23, 3) := by decide +kernel
theorem dX1_hasCell_4 : decode cX1_hasCell 4 = .ok (.iload_n 1, 1) := by decide +kernel
theorem dX1_hasCell_5 : decode cX1_hasCell 5 = .ok (.aload_n 0, 1) := by decide +kernel
theorem dX1_hasCell_6 : decode cX1_hasCell 6 = .ok (.getfield 21, 3) := by decide +kernel
theorem dX1_hasCell_9 : decode cX1_hasCell 9 = .ok (.if_icmp .ge 15, 3) := by decide +kernel
theorem dX1_hasCell_12 : decode cX1_hasCell 12 = .ok (.aload_n 0, 1) := by decide +kernel
theorem dX1_hasCell_13 : decode cX1_hasCell 13 = .ok (.iload_n 2, 1) := by decide +kernel
theorem dX1_hasCell_14 : decode cX1_hasCell 14 = .ok (.invokevirtual 56, 3) := by decide +kernel
theorem dX1_hasCell_17 : decode cX1_hasCell 17 = .ok (.ifCond .eq 7, 3) := by decide +kernel
theorem dX1_hasCell_20 : decode cX1_hasCell 20 = .ok (.iconst 1, 1) := by decide +kernel
theorem dX1_hasCell_21 : decode cX1_hasCell 21 = .ok (.goto 4, 3) := by decide +kernel
theorem dX1_hasCell_24 : decode cX1_hasCell 24 = .ok (.iconst 0, 1) := by decide +kernel
theorem dX1_hasCell_25 : decode cX1_hasCell 25 = .ok (.ireturn, 1) := by decide +kernel
theorem dX1_bitsOf_0 : decode cX1_bitsOf 0 = .ok (.iload_n 1, 1) := by decide +kernel
theorem dX1_bitsOf_1 : decode cX1_bitsOf 1 = .ok (.ifCond .lt 21, 3) := by decide +kernel
theorem dX1_bitsOf_4 : decode cX1_bitsOf 4 = .ok (.iload_n 1, 1) := by decide +kernel
theorem dX1_bitsOf_5 : decode cX1_bitsOf 5 = .ok (.aload_n 0, 1) := by decide +kernel
theorem dX1_bitsOf_6 : decode cX1_bitsOf 6 = .ok (.getfield 9, 3) := by decide +kernel
theorem dX1_bitsOf_9 : decode cX1_bitsOf 9 = .ok (.arraylength, 1) := by decide +kernel
theorem dX1_bitsOf_10 : decode cX1_bitsOf 10 = .ok (.if_icmp .ge 12, 3) := by decide +kernel
theorem dX1_bitsOf_13 : decode cX1_bitsOf 13 = .ok (.aload_n 0, 1) := by decide +kernel
theorem dX1_bitsOf_14 : decode cX1_bitsOf 14 = .ok (.getfield 9, 3) := by decide +kernel
theorem dX1_bitsOf_17 : decode cX1_bitsOf 17 = .ok (.iload_n 1, 1) := by decide +kernel
theorem dX1_bitsOf_18 : decode cX1_bitsOf 18 = .ok (.iaload, 1) := by decide +kernel
theorem dX1_bitsOf_19 : decode cX1_bitsOf 19 = .ok (.goto 4, 3) := by decide +kernel
theorem dX1_bitsOf_22 : decode cX1_bitsOf 22 = .ok (.iconst 0, 1) := by decide +kernel
theorem dX1_bitsOf_23 : decode cX1_bitsOf 23 = .ok (.ireturn, 1) := by decide +kernel
set_option maxRecDepth 20000 in
theorem ggX1_hasFrost_X1_bitsOf : GoodIn wsX1_hasFrost wsX1_bitsOf := goodIn_r _ [5, 6, 7, 8, 9, 10, 11, 12] (by decide +kernel) (by decide +kernel)
set_option maxRecDepth 20000 in
theorem gX1_hasFrost_X1_bitsOf : GoodIn wsX1_hasFrost (wsV RX1 49 RX1 yX1_bitsOf wsX1_bitsOf) := goodIn_app (goodIn_of _ (by decide +kernel)) ggX1_hasFrost_X1_bitsOf
theorem dX1_hasFrost_0 : decode cX1_hasFrost 0 = .ok (.aload_n 0, 1) := by decide +kernel
theorem dX1_hasFrost_1 : decode cX1_hasFrost 1 = .ok (.iload_n 2, 1) := by decide +kernel
theorem dX1_hasFrost_2 : decode cX1_hasFrost 2 = .ok (.invokevirtual 49, 3) := by decide +kernel
theorem dX1_hasFrost_5 : decode cX1_hasFrost 5 = .ok (.iload_n 1, 1) := by decide +kernel
theorem dX1_hasFrost_6 : decode cX1_hasFrost 6 = .ok (.ishr, 1) := by decide +kernel
theorem dX1_hasFrost_7 : decode cX1_hasFrost 7 = .ok (.iconst 1, 1) := by decide +kernel
theorem dX1_hasFrost_8 : decode cX1_hasFrost 8 = .ok (.iand, 1) := by decide +kernel
theorem dX1_hasFrost_9 : decode cX1_hasFrost 9 = .ok (.iconst 1, 1) := by decide +kernel
theorem dX1_hasFrost_10 : decode cX1_hasFrost 10 = .ok (.if_icmp .ne 7, 3) := by decide +kernel
theorem dX1_hasFrost_13 : decode cX1_hasFrost 13 = .ok (.iconst 1, 1) := by decide +kernel
theorem dX1_hasFrost_14 : decode cX1_hasFrost 14 = .ok (.goto 4, 3) := by decide +kernel
theorem dX1_hasFrost_17 : decode cX1_hasFrost 17 = .ok (.iconst 0, 1) := by decide +kernel
theorem dX1_hasFrost_18 : decode cX1_hasFrost 18 = .ok (.ireturn, 1) := by decide +kernel
theorem dX1_meltOf_0 : decode cX1_meltOf 0 = .ok (.iload_n 2, 1) := by decide +kernel
theorem dX1_meltOf_1 : decode cX1_meltOf 1 = .ok (.bipush 12, 2) := by decide +kernel
theorem dX1_meltOf_3 : decode cX1_meltOf 3 = .ok (.imul, 1) := by decide +kernel
theorem dX1_meltOf_4 : decode cX1_meltOf 4 = .ok (.iload_n 1, 1) := by decide +kernel
theorem dX1_meltOf_5 : decode cX1_meltOf 5 = .ok (.iadd, 1) := by decide +kernel
theorem dX1_meltOf_6 : decode cX1_meltOf 6 = .ok (.istore_n 3, 1) := by decide +kernel
theorem dX1_meltOf_7 : decode cX1_meltOf 7 = .ok (.iload_n 3, 1) := by decide +kernel
theorem dX1_meltOf_8 : decode cX1_meltOf 8 = .ok (.ifCond .lt 21, 3) := by decide +kernel
theorem dX1_meltOf_11 : decode cX1_meltOf 11 = .ok (.iload_n 3, 1) := by decide +kernel
theorem dX1_meltOf_12 : decode cX1_meltOf 12 = .ok (.aload_n 0, 1) := by decide +kernel
theorem dX1_meltOf_13 : decode cX1_meltOf 13 = .ok (.getfield 18, 3) := by decide +kernel
theorem dX1_meltOf_16 : decode cX1_meltOf 16 = .ok (.arraylength, 1) := by decide +kernel
theorem dX1_meltOf_17 : decode cX1_meltOf 17 = .ok (.if_icmp .ge 12, 3) := by decide +kernel
theorem dX1_meltOf_20 : decode cX1_meltOf 20 = .ok (.aload_n 0, 1) := by decide +kernel
theorem dX1_meltOf_21 : decode cX1_meltOf 21 = .ok (.getfield 18, 3) := by decide +kernel
theorem dX1_meltOf_24 : decode cX1_meltOf 24 = .ok (.iload_n 3, 1) := by decide +kernel
theorem dX1_meltOf_25 : decode cX1_meltOf 25 = .ok (.iaload, 1) := by decide +kernel
theorem dX1_meltOf_26 : decode cX1_meltOf 26 = .ok (.goto 4, 3) := by decide +kernel
theorem dX1_meltOf_29 : decode cX1_meltOf 29 = .ok (.iconst 0, 1) := by decide +kernel
theorem dX1_meltOf_30 : decode cX1_meltOf 30 = .ok (.ireturn, 1) := by decide +kernel
set_option maxRecDepth 20000 in
theorem ggX1_flip_X1_hasCell : GoodIn wsX1_flip wsX1_hasCell := goodIn_r _ [6, 7, 8, 9, 10, 5, 11, 12, 13, 14, 15, 16, 17, 18] (by decide +kernel) (by decide +kernel)
set_option maxRecDepth 20000 in
theorem gX1_flip_X1_hasCell : GoodIn wsX1_flip (wsV RX1 60 RX1 yX1_hasCell wsX1_hasCell) := goodIn_app (goodIn_of _ (by decide +kernel)) ggX1_flip_X1_hasCell
theorem dX1_flip_0 : decode cX1_flip 0 = .ok (.aload_n 0, 1) := by decide +kernel
theorem dX1_flip_1 : decode cX1_flip 1 = .ok (.iload_n 1, 1) := by decide +kernel
theorem dX1_flip_2 : decode cX1_flip 2 = .ok (.iload_n 2, 1) := by decide +kernel
theorem dX1_flip_3 : decode cX1_flip 3 = .ok (.invokevirtual 60, 3) := by decide +kernel
theorem dX1_flip_6 : decode cX1_flip 6 = .ok (.ifCond .eq 24, 3) := by decide +kernel
theorem dX1_flip_9 : decode cX1_flip 9 = .ok (.iload_n 2, 1) := by decide +kernel
theorem dX1_flip_10 : decode cX1_flip 10 = .ok (.aload_n 0, 1) := by decide +kernel
theorem dX1_flip_11 : decode cX1_flip 11 = .ok (.getfield 9, 3) := by decide +kernel
theorem dX1_flip_14 : decode cX1_flip 14 = .ok (.arraylength, 1) := by decide +kernel
theorem dX1_flip_15 : decode cX1_flip 15 = .ok (.if_icmp .ge 15, 3) := by decide +kernel
theorem dX1_flip_18 : decode cX1_flip 18 = .ok (.aload_n 0, 1) := by decide +kernel
theorem dX1_flip_19 : decode cX1_flip 19 = .ok (.getfield 9, 3) := by decide +kernel
theorem dX1_flip_22 : decode cX1_flip 22 = .ok (.iload_n 2, 1) := by decide +kernel
theorem dX1_flip_23 : decode cX1_flip 23 = .ok (.dup2, 1) := by decide +kernel
theorem dX1_flip_24 : decode cX1_flip 24 = .ok (.iaload, 1) := by decide +kernel
theorem dX1_flip_25 : decode cX1_flip 25 = .ok (.iconst 1, 1) := by decide +kernel
theorem dX1_flip_26 : decode cX1_flip 26 = .ok (.iload_n 1, 1) := by decide +kernel
theorem dX1_flip_27 : decode cX1_flip 27 = .ok (.ishl, 1) := by decide +kernel
theorem dX1_flip_28 : decode cX1_flip 28 = .ok (.ixor, 1) := by decide +kernel
theorem dX1_flip_29 : decode cX1_flip 29 = .ok (.iastore, 1) := by decide +kernel
theorem dX1_flip_30 : decode cX1_flip 30 = .ok (.return_, 1) := by decide +kernel
set_option maxRecDepth 20000 in
theorem ggX1_melt_X1_hasCell : GoodIn wsX1_melt wsX1_hasCell := goodIn_r _ [6, 7, 8, 9, 10, 5, 11, 12, 26, 27, 28, 29, 30, 31] (by decide +kernel) (by decide +kernel)
set_option maxRecDepth 20000 in
theorem gX1_melt_X1_hasCell : GoodIn wsX1_melt (wsV RX1 60 RX1 yX1_hasCell wsX1_hasCell) := goodIn_app (goodIn_of _ (by decide +kernel)) ggX1_melt_X1_hasCell
set_option maxRecDepth 20000 in
theorem ggX1_melt_X1_hasFrost : GoodIn wsX1_melt wsX1_hasFrost := goodIn_r _ [16, 17, 18, 19, 5, 20, 21, 26, 27, 28, 29, 30, 31] (by decide +kernel) (by decide +kernel)
set_option maxRecDepth 20000 in
theorem gX1_melt_X1_hasFrost : GoodIn wsX1_melt (wsV RX1 64 RX1 yX1_hasFrost wsX1_hasFrost) := goodIn_app (goodIn_of _ (by decide +kernel)) ggX1_melt_X1_hasFrost
set_option maxRecDepth 20000 in
theorem ggX1_melt_X1_flip : GoodIn wsX1_melt wsX1_flip := goodIn_r _ [25, 21, 2, 3, 4, 5, 6, 7, 8, 9, 10, 11, 12, 26, 27, 28, 29, 30, 31] (by decide +kernel) (by decide +kernel)
set_option maxRecDepth 20000 in
theorem gX1_melt_X1_flip : GoodIn wsX1_melt (wsV RX1 67 RX1 yX1_flip wsX1_flip) := goodIn_app (goodIn_of _ (by decide +kernel)) ggX1_melt_X1_flip
theorem dX1_melt_0 : decode cX1_melt 0 = .ok (.aload_n 0, 1) := by decide +kernel
theorem dX1_melt_1 : decode cX1_melt 1 = .ok (.iload_n 1, 1) := by decide +kernel
theorem dX1_melt_2 : decode cX1_melt 2 = .ok (.iload_n 2, 1) := by decide +kernel
theorem dX1_melt_3 : decode cX1_melt 3 = .ok (.invokevirtual 60, 3) := by decide +kernel
theorem dX1_melt_6 : decode cX1_melt 6 = .ok (.ifCond .ne 5, 3) := by decide +kernel
theorem dX1_melt_9 : decode cX1_melt 9 = .ok (.iconst 0, 1) := by decide +kernel
theorem dX1_melt_10 : decode cX1_melt 10 = .ok (.ireturn, 1) := by decide +kernel
theorem dX1_melt_11 : decode cX1_melt 11 = .ok (.aload_n 0, 1) := by decide +kernel
theorem dX1_melt_12 : decode cX1_melt 12 = .ok (.iload_n 1, 1) := by decide +kernel
theorem dX1_melt_13 : decode cX1_melt 13 = .ok (.iload_n 2, 1) := by decide +kernel
theorem dX1_melt_14 : decode cX1_melt 14 = .ok (.invokevirtual 64, 3) := by decide +kernel
theorem dX1_melt_17 : decode cX1_melt 17 = .ok (.ifCond .eq 7, 3) := by decide +kernel
theorem dX1_melt_20 : decode cX1_melt 20 = .ok (.iconst 1, 1) := by decide +kernel
theorem dX1_melt_21 : decode cX1_melt 21 = .ok (.goto 4, 3) := by decide +kernel
theorem dX1_melt_24 : decode cX1_melt 24 = .ok (.iconst 0, 1) := by decide +kernel
theorem dX1_melt_25 : decode cX1_melt 25 = .ok (.istore 4, 2) := by decide +kernel
theorem dX1_melt_27 : decode cX1_melt 27 = .ok (.iload 4, 2) := by decide +kernel
theorem dX1_melt_29 : decode cX1_melt 29 = .ok (.iconst 1, 1) := by decide +kernel
theorem dX1_melt_30 : decode cX1_melt 30 = .ok (.if_icmp .ne 9, 3) := by decide +kernel
theorem dX1_melt_33 : decode cX1_melt 33 = .ok (.aload_n 0, 1) := by decide +kernel
theorem dX1_melt_34 : decode cX1_melt 34 = .ok (.iload_n 1, 1) := by decide +kernel
theorem dX1_melt_35 : decode cX1_melt 35 = .ok (.iload_n 2, 1) := by decide +kernel
theorem dX1_melt_36 : decode cX1_melt 36 = .ok (.invokevirtual 67, 3) := by decide +kernel
theorem dX1_melt_39 : decode cX1_melt 39 = .ok (.iload_n 2, 1) := by decide +kernel
theorem dX1_melt_40 : decode cX1_melt 40 = .ok (.bipush 12, 2) := by decide +kernel
theorem dX1_melt_42 : decode cX1_melt 42 = .ok (.imul, 1) := by decide +kernel
theorem dX1_melt_43 : decode cX1_melt 43 = .ok (.iload_n 1, 1) := by decide +kernel
theorem dX1_melt_44 : decode cX1_melt 44 = .ok (.iadd, 1) := by decide +kernel
theorem dX1_melt_45 : decode cX1_melt 45 = .ok (.istore 5, 2) := by decide +kernel
theorem dX1_melt_47 : decode cX1_melt 47 = .ok (.iload 5, 2) := by decide +kernel
theorem dX1_melt_49 : decode cX1_melt 49 = .ok (.ifCond .lt 21, 3) := by decide +kernel
theorem dX1_melt_52 : decode cX1_melt 52 = .ok (.iload 5, 2) := by decide +kernel
theorem dX1_melt_54 : decode cX1_melt 54 = .ok (.aload_n 0, 1) := by decide +kernel
theorem dX1_melt_55 : decode cX1_melt 55 = .ok (.getfield 18, 3) := by decide +kernel
theorem dX1_melt_58 : decode cX1_melt 58 = .ok (.arraylength, 1) := by decide +kernel
theorem dX1_melt_59 : decode cX1_melt 59 = .ok (.if_icmp .ge 11, 3) := by decide +kernel
theorem dX1_melt_62 : decode cX1_melt 62 = .ok (.aload_n 0, 1) := by decide +kernel
theorem dX1_melt_63 : decode cX1_melt 63 = .ok (.getfield 18, 3) := by decide +kernel
theorem dX1_melt_66 : decode cX1_melt 66 = .ok (.iload 5, 2) := by decide +kernel
theorem dX1_melt_68 : decode cX1_melt 68 = .ok (.iload_n 3, 1) := by decide +kernel
theorem dX1_melt_69 : decode cX1_melt 69 = .ok (.iastore, 1) := by decide +kernel
theorem dX1_melt_70 : decode cX1_melt 70 = .ok (.iload 4, 2) := by decide +kernel
theorem dX1_melt_72 : decode cX1_melt 72 = .ok (.ireturn, 1) := by decide +kernel
set_option maxRecDepth 20000 in
theorem ggX1_countFrost_X1_bitsOf : GoodIn wsX1_countFrost wsX1_bitsOf := goodIn_r _ [6, 7, 15, 16, 17, 18, 19, 20] (by decide +kernel) (by decide +kernel)
set_option maxRecDepth 20000 in
theorem gX1_countFrost_X1_bitsOf : GoodIn wsX1_countFrost (wsV RX1 49 RX1 yX1_bitsOf wsX1_bitsOf) := goodIn_app (goodIn_of _ (by decide +kernel)) ggX1_countFrost_X1_bitsOf
set_option maxRecDepth 20000 in
theorem ggX1_countFrost_J6_bitCount_0f7a4 : GoodIn wsX1_countFrost wsJ6_bitCount_0f7a4 := goodIn_r _ [11, 12, 13, 14] (by decide +kernel) (by decide +kernel)
set_option maxRecDepth 20000 in
theorem gX1_countFrost_J6_bitCount_0f7a4 : GoodIn wsX1_countFrost (va_wsS RX1 71 yJ6_bitCount_0f7a4 wsJ6_bitCount_0f7a4) := goodIn_app (goodIn_of _ (by decide +kernel)) ggX1_countFrost_J6_bitCount_0f7a4
theorem dX1_countFrost_0 : decode cX1_countFrost 0 = .ok (.iconst 0, 1) := by decide +kernel
theorem dX1_countFrost_1 : decode cX1_countFrost 1 = .ok (.istore_n 1, 1) := by decide +kernel
theorem dX1_countFrost_2 : decode cX1_countFrost 2 = .ok (.iconst 0, 1) := by decide +kernel
theorem dX1_countFrost_3 : decode cX1_countFrost 3 = .ok (.istore_n 2, 1) := by decide +kernel
theorem dX1_countFrost_4 : decode cX1_countFrost 4 = .ok (.iload_n 2, 1) := by decide +kernel
theorem dX1_countFrost_5 : decode cX1_countFrost 5 = .ok (.aload_n 0, 1) := by decide +kernel
theorem dX1_countFrost_6 : decode cX1_countFrost 6 = .ok (.getfield 25, 3) := by decide +kernel
theorem dX1_countFrost_9 : decode cX1_countFrost 9 = .ok (.if_icmp .ge 20, 3) := by decide +kernel
theorem dX1_countFrost_12 : decode cX1_countFrost 12 = .ok (.iload_n 1, 1) := by decide +kernel
theorem dX1_countFrost_13 : decode cX1_countFrost 13 = .ok (.aload_n 0, 1) := by decide +kernel
theorem dX1_countFrost_14 : decode cX1_countFrost 14 = .ok (.iload_n 2, 1) := by decide +kernel
theorem dX1_countFrost_15 : decode cX1_countFrost 15 = .ok (.invokevirtual 49, 3) := by decide +kernel
theorem dX1_countFrost_18 : decode cX1_countFrost 18 = .ok (.invokestatic 71, 3) := by decide +kernel
theorem dX1_countFrost_21 : decode cX1_countFrost 21 = .ok (.iadd, 1) := by decide +kernel
theorem dX1_countFrost_22 : decode cX1_countFrost 22 = .ok (.istore_n 1, 1) := by decide +kernel
theorem dX1_countFrost_23 : decode cX1_countFrost 23 = .ok (.iinc 2 1, 3) := by decide +kernel
theorem dX1_countFrost_26 : decode cX1_countFrost 26 = .ok (.goto (-22), 3) := by decide +kernel
theorem dX1_countFrost_29 : decode cX1_countFrost 29 = .ok (.iload_n 1, 1) := by decide +kernel
theorem dX1_countFrost_30 : decode cX1_countFrost 30 = .ok (.ireturn, 1) := by decide +kernel
theorem dX1_countMelted_0 : decode cX1_countMelted 0 = .ok (.iconst 0, 1) := by decide +kernel
theorem dX1_countMelted_1 : decode cX1_countMelted 1 = .ok (.istore_n 1, 1) := by decide +kernel
theorem dX1_countMelted_2 : decode cX1_countMelted 2 = .ok (.iconst 0, 1) := by decide +kernel
theorem dX1_countMelted_3 : decode cX1_countMelted 3 = .ok (.istore_n 2, 1) := by decide +kernel
theorem dX1_countMelted_4 : decode cX1_countMelted 4 = .ok (.iload_n 2, 1) := by decide +kernel
theorem dX1_countMelted_5 : decode cX1_countMelted 5 = .ok (.aload_n 0, 1) := by decide +kernel
theorem dX1_countMelted_6 : decode cX1_countMelted 6 = .ok (.getfield 18, 3) := by decide +kernel
theorem dX1_countMelted_9 : decode cX1_countMelted 9 = .ok (.arraylength, 1) := by decide +kernel
theorem dX1_countMelted_10 : decode cX1_countMelted 10 = .ok (.if_icmp .ge 21, 3) := by decide +kernel
theorem dX1_countMelted_13 : decode cX1_countMelted 13 = .ok (.aload_n 0, 1) := by decide +kernel
theorem dX1_countMelted_14 : decode cX1_countMelted 14 = .ok (.getfield 18, 3) := by decide +kernel
theorem dX1_countMelted_17 : decode cX1_countMelted 17 = .ok (.iload_n 2, 1) := by decide +kernel
theorem dX1_countMelted_18 : decode cX1_countMelted 18 = .ok (.iaload, 1) := by decide +kernel
theorem dX1_countMelted_19 : decode cX1_countMelted 19 = .ok (.ifCond .le 6, 3) := by decide +kernel
theorem dX1_countMelted_22 : decode cX1_countMelted 22 = .ok (.iinc 1 1, 3) := by decide +kernel
theorem dX1_countMelted_25 : decode cX1_countMelted 25 = .ok (.iinc 2 1, 3) := by decide +kernel
theorem dX1_countMelted_28 : decode cX1_countMelted 28 = .ok (.goto (-24), 3) := by decide +kernel
theorem dX1_countMelted_31 : decode cX1_countMelted 31 = .ok (.iload_n 1, 1) := by decide +kernel
theorem dX1_countMelted_32 : decode cX1_countMelted 32 = .ok (.ireturn, 1) := by decide +kernel
set_option maxRecDepth 20000 in
theorem ggX1_countAround_X1_framed : GoodIn wsX1_countAround wsX1_framed := goodIn_r _ [5, 6, 7, 8, 9, 10, 4, 11, 12, 13, 14, 15, 16, 17, 18, 19, 20, 21, 32, 33, 34, 35, 36, 37] (by decide +kernel) (by decide +kernel)
set_option maxRecDepth 20000 in
theorem gX1_countAround_X1_framed : GoodIn wsX1_countAround (wsV RX1 76 RX1 yX1_framed wsX1_framed) := goodIn_app (goodIn_of _ (by decide +kernel)) ggX1_countAround_X1_framed
set_option maxRecDepth 20000 in
theorem ggX1_countAround_X1_countIn : GoodIn wsX1_countAround wsX1_countIn := goodIn_r _ [24, 25, 26, 27, 28, 29, 30, 31] (by decide +kernel) (by decide +kernel)
set_option maxRecDepth 20000 in
theorem gX1_countAround_X1_countIn : GoodIn wsX1_countAround (va_wsS RX1 79 yX1_countIn wsX1_countIn) := goodIn_app (goodIn_of _ (by decide +kernel)) ggX1_countAround_X1_countIn
theorem dX1_countAround_0 : decode cX1_countAround 0 = .ok (.aload_n 0, 1) := by decide +kernel
theorem dX1_countAround_1 : decode cX1_countAround 1 = .ok (.iload_n 2, 1) := by decide +kernel
theorem dX1_countAround_2 : decode cX1_countAround 2 = .ok (.iconst 1, 1) := by decide +kernel
theorem dX1_countAround_3 : decode cX1_countAround 3 = .ok (.isub, 1) := by decide +kernel
theorem dX1_countAround_4 : decode cX1_countAround 4 = .ok (.invokevirtual 76, 3) := by decide +kernel
theorem dX1_countAround_7 : decode cX1_countAround 7 = .ok (.aload_n 0, 1) := by decide +kernel
theorem dX1_countAround_8 : decode cX1_countAround 8 = .ok (.iload_n 2, 1) := by decide +kernel
theorem dX1_countAround_9 : decode cX1_countAround 9 = .ok (.invokevirtual 76, 3) := by decide +kernel
theorem dX1_countAround_12 : decode cX1_countAround 12 = .ok (.aload_n 0, 1) := by decide +kernel
theorem dX1_countAround_13 : decode cX1_countAround 13 = .ok (.iload_n 2, 1) := by decide +kernel
theorem dX1_countAround_14 : decode cX1_countAround 14 = .ok (.iconst 1, 1) := by decide +kernel
theorem dX1_countAround_15 : decode cX1_countAround 15 = .ok (.iadd, 1) := by decide +kernel
theorem dX1_countAround_16 : decode cX1_countAround 16 = .ok (.invokevirtual 76, 3) := by decide +kernel
theorem dX1_countAround_19 : decode cX1_countAround 19 = .ok (.iload_n 1, 1) := by decide +kernel
theorem dX1_countAround_20 : decode cX1_countAround 20 = .ok (.invokestatic 79, 3) := by decide +kernel
theorem dX1_countAround_23 : decode cX1_countAround 23 = .ok (.ireturn, 1) := by decide +kernel
set_option maxRecDepth 20000 in
theorem ggX1_isFrozenNext_X1_grownRow : GoodIn wsX1_isFrozenNext wsX1_grownRow := goodIn_r _ [5, 6, 7, 8, 9, 4, 10, 11, 12, 13, 14, 15, 16, 17, 18, 19, 20, 21, 22, 23, 24, 25, 26, 27, 28, 29, 30, 31, 32, 33, 34, 35, 36, 37, 38, 39, 40, 41, 42, 43, 44, 45, 46, 47, 48, 49, 50] (by decide +kernel) (by decide +kernel)
set_option maxRecDepth 20000 in
theorem gX1_isFrozenNext_X1_grownRow : GoodIn wsX1_isFrozenNext (wsV RX1 83 RX1 yX1_grownRow wsX1_grownRow) := goodIn_app (goodIn_of _ (by decide +kernel)) ggX1_isFrozenNext_X1_grownRow
theorem dX1_isFrozenNext_0 : decode cX1_isFrozenNext 0 = .ok (.aload_n 0, 1) := by decide +kernel
theorem dX1_isFrozenNext_1 : decode cX1_isFrozenNext 1 = .ok (.iload_n 2, 1) := by decide +kernel
theorem dX1_isFrozenNext_2 : decode cX1_isFrozenNext 2 = .ok (.iload_n 3, 1) := by decide +kernel
theorem dX1_isFrozenNext_3 : decode cX1_isFrozenNext 3 = .ok (.iload 4, 2) := by decide +kernel
theorem dX1_isFrozenNext_5 : decode cX1_isFrozenNext 5 = .ok (.invokevirtual 83, 3) := by decide +kernel
theorem dX1_isFrozenNext_8 : decode cX1_isFrozenNext 8 = .ok (.iload_n 1, 1) := by decide +kernel
theorem dX1_isFrozenNext_9 : decode cX1_isFrozenNext 9 = .ok (.ishr, 1) := by decide +kernel
theorem dX1_isFrozenNext_10 : decode cX1_isFrozenNext 10 = .ok (.iconst 1, 1) := by decide +kernel
theorem dX1_isFrozenNext_11 : decode cX1_isFrozenNext 11 = .ok (.iand, 1) := by decide +kernel
theorem dX1_isFrozenNext_12 : decode cX1_isFrozenNext 12 = .ok (.iconst 1, 1) := by decide +kernel
theorem dX1_isFrozenNext_13 : decode cX1_isFrozenNext 13 = .ok (.if_icmp .ne 7, 3) := by decide +kernel
theorem dX1_isFrozenNext_16 : decode cX1_isFrozenNext 16 = .ok (.iconst 1, 1) := by decide +kernel
theorem dX1_isFrozenNext_17 : decode cX1_isFrozenNext 17 = .ok (.goto 4, 3) := by decide +kernel
theorem dX1_isFrozenNext_20 : decode cX1_isFrozenNext 20 = .ok (.iconst 0, 1) := by decide +kernel
theorem dX1_isFrozenNext_21 : decode cX1_isFrozenNext 21 = .ok (.ireturn, 1) := by decide +kernel
set_option maxRecDepth 20000 in
theorem ggX1_step_X1_grownRow : GoodIn wsX1_step wsX1_grownRow := goodIn_r _ [7, 8, 9, 10, 11, 6, 12, 13, 1, 14, 15, 16, 17, 18, 19, 20, 21, 22, 23, 24, 25, 26, 27, 28, 29, 30, 31, 32, 33, 34, 35, 36, 37, 38, 39, 40, 41, 42, 43, 44, 45, 54, 55, 56, 57, 58, 59] (by decide +kernel) (by decide +kernel)
set_option maxRecDepth 20000 in
theorem gX1_step_X1_grownRow : GoodIn wsX1_step (wsV RX1 83 RX1 yX1_grownRow wsX1_grownRow) := goodIn_app (goodIn_of _ (by decide +kernel)) ggX1_step_X1_grownRow
set_option maxRecDepth 20000 in
theorem ggX1_step_X1_meltLess : GoodIn wsX1_step wsX1_meltLess := goodIn_r _ [49, 45, 54, 55, 56, 57, 58, 59] (by decide +kernel) (by decide +kernel)
set_option maxRecDepth 20000 in
theorem gX1_step_X1_meltLess : GoodIn wsX1_step (wsV RX1 87 RX1 yX1_meltLess wsX1_meltLess) := goodIn_app (goodIn_of _ (by decide +kernel)) ggX1_step_X1_meltLess
set_option maxRecDepth 20000 in
theorem ggX1_step_X1_takeNext : GoodIn wsX1_step wsX1_takeNext := goodIn_r _ [53, 1, 2, 22, 54, 55, 56, 57, 58, 59] (by decide +kernel) (by decide +kernel)
set_option maxRecDepth 20000 in
theorem gX1_step_X1_takeNext : GoodIn wsX1_step (wsV RX1 90 RX1 yX1_takeNext wsX1_takeNext) := goodIn_app (goodIn_of _ (by decide +kernel)) ggX1_step_X1_takeNext
theorem dX1_step_0 : decode cX1_step 0 = .ok (.iconst 0, 1) := by decide +kernel
theorem dX1_step_1 : decode cX1_step 1 = .ok (.istore_n 3, 1) := by decide +kernel
theorem dX1_step_2 : decode cX1_step 2 = .ok (.iload_n 3, 1) := by decide +kernel
theorem dX1_step_3 : decode cX1_step 3 = .ok (.aload_n 0, 1) := by decide +kernel
theorem dX1_step_4 : decode cX1_step 4 = .ok (.getfield 25, 3) := by decide +kernel
theorem dX1_step_7 : decode cX1_step 7 = .ok (.if_icmp .ge 31, 3) := by decide +kernel
theorem dX1_step_10 : decode cX1_step 10 = .ok (.iload_n 3, 1) := by decide +kernel
theorem dX1_step_11 : decode cX1_step 11 = .ok (.aload_n 0, 1) := by decide +kernel
theorem dX1_step_12 : decode cX1_step 12 = .ok (.getfield 15, 3) := by decide +kernel
theorem dX1_step_15 : decode cX1_step 15 = .ok (.arraylength, 1) := by decide +kernel
theorem dX1_step_16 : decode cX1_step 16 = .ok (.if_icmp .ge 22, 3) := by decide +kernel
theorem dX1_step_19 : decode cX1_step 19 = .ok (.aload_n 0, 1) := by decide +kernel
theorem dX1_step_20 : decode cX1_step 20 = .ok (.getfield 15, 3) := by decide +kernel
theorem dX1_step_23 : decode cX1_step 23 = .ok (.iload_n 3, 1) := by decide +kernel
theorem dX1_step_24 : decode cX1_step 24 = .ok (.aload_n 0, 1) := by decide +kernel
theorem dX1_step_25 : decode cX1_step 25 = .ok (.iload_n 3, 1) := by decide +kernel
theorem dX1_step_26 : decode cX1_step 26 = .ok (.iload_n 1, 1) := by decide +kernel
theorem dX1_step_27 : decode cX1_step 27 = .ok (.iload_n 2, 1) := by decide +kernel
theorem dX1_step_28 : decode cX1_step 28 = .ok (.invokevirtual 83, 3) := by decide +kernel
theorem dX1_step_31 : decode cX1_step 31 = .ok (.iastore, 1) := by decide +kernel
theorem dX1_step_32 : decode cX1_step 32 = .ok (.iinc 3 1, 3) := by decide +kernel
theorem dX1_step_35 : decode cX1_step 35 = .ok (.goto (-33), 3) := by decide +kernel
theorem dX1_step_38 : decode cX1_step 38 = .ok (.aload_n 0, 1) := by decide +kernel
theorem dX1_step_39 : decode cX1_step 39 = .ok (.invokevirtual 87, 3) := by decide +kernel
theorem dX1_step_42 : decode cX1_step 42 = .ok (.aload_n 0, 1) := by decide +kernel
theorem dX1_step_43 : decode cX1_step 43 = .ok (.invokevirtual 90, 3) := by decide +kernel
theorem dX1_step_46 : decode cX1_step 46 = .ok (.ireturn, 1) := by decide +kernel
theorem dX1_meltLess_0 : decode cX1_meltLess 0 = .ok (.iconst 0, 1) := by decide +kernel
theorem dX1_meltLess_1 : decode cX1_meltLess 1 = .ok (.istore_n 1, 1) := by decide +kernel
theorem dX1_meltLess_2 : decode cX1_meltLess 2 = .ok (.iload_n 1, 1) := by decide +kernel
theorem dX1_meltLess_3 : decode cX1_meltLess 3 = .ok (.aload_n 0, 1) := by decide +kernel
theorem dX1_meltLess_4 : decode cX1_meltLess 4 = .ok (.getfield 18, 3) := by decide +kernel
theorem dX1_meltLess_7 : decode cX1_meltLess 7 = .ok (.arraylength, 1) := by decide +kernel
theorem dX1_meltLess_8 : decode cX1_meltLess 8 = .ok (.if_icmp .ge 28, 3) := by decide +kernel
theorem dX1_meltLess_11 : decode cX1_meltLess 11 = .ok (.aload_n 0, 1) := by decide +kernel
theorem dX1_meltLess_12 : decode cX1_meltLess 12 = .ok (.getfield 18, 3) := by decide +kernel
theorem dX1_meltLess_15 : decode cX1_meltLess 15 = .ok (.iload_n 1, 1) := by decide +kernel
theorem dX1_meltLess_16 : decode cX1_meltLess 16 = .ok (.iaload, 1) := by decide +kernel
theorem dX1_meltLess_17 : decode cX1_meltLess 17 = .ok (.ifCond .le 13, 3) := by decide +kernel
theorem dX1_meltLess_20 : decode cX1_meltLess 20 = .ok (.aload_n 0, 1) := by decide +kernel
theorem dX1_meltLess_21 : decode cX1_meltLess 21 = .ok (.getfield 18, 3) := by decide +kernel
theorem dX1_meltLess_24 : decode cX1_meltLess 24 = .ok (.iload_n 1, 1) := by decide +kernel
theorem dX1_meltLess_25 : decode cX1_meltLess 25 = .ok (.dup2, 1) := by decide +kernel
theorem dX1_meltLess_26 : decode cX1_meltLess 26 = .ok (.iaload, 1) := by decide +kernel
theorem dX1_meltLess_27 : decode cX1_meltLess 27 = .ok (.iconst 1, 1) := by decide +kernel
theorem dX1_meltLess_28 : decode cX1_meltLess 28 = .ok (.isub, 1) := by decide +kernel
theorem dX1_meltLess_29 : decode cX1_meltLess 29 = .ok (.iastore, 1) := by decide +kernel
theorem dX1_meltLess_30 : decode cX1_meltLess 30 = .ok (.iinc 1 1, 3) := by decide +kernel
theorem dX1_meltLess_33 : decode cX1_meltLess 33 = .ok (.goto (-31), 3) := by decide +kernel
theorem dX1_meltLess_36 : decode cX1_meltLess 36 = .ok (.return_, 1) := by decide +kernel
theorem dX1_takeNext_0 : decode cX1_takeNext 0 = .ok (.iconst 0, 1) := by decide +kernel
theorem dX1_takeNext_1 : decode cX1_takeNext 1 = .ok (.istore_n 1, 1) := by decide +kernel
theorem dX1_takeNext_2 : decode cX1_takeNext 2 = .ok (.iconst 0, 1) := by decide +kernel
theorem dX1_takeNext_3 : decode cX1_takeNext 3 = .ok (.istore_n 2, 1) := by decide +kernel
theorem dX1_takeNext_4 : decode cX1_takeNext 4 = .ok (.iload_n 2, 1) := by decide +kernel
theorem dX1_takeNext_5 : decode cX1_takeNext 5 = .ok (.aload_n 0, 1) := by decide +kernel
theorem dX1_takeNext_6 : decode cX1_takeNext 6 = .ok (.getfield 25, 3) := by decide +kernel
theorem dX1_takeNext_9 : decode cX1_takeNext 9 = .ok (.if_icmp .ge 64, 3) := by decide +kernel
theorem dX1_takeNext_12 : decode cX1_takeNext 12 = .ok (.iload_n 2, 1) := by decide +kernel
theorem dX1_takeNext_13 : decode cX1_takeNext 13 = .ok (.aload_n 0, 1) := by decide +kernel
theorem dX1_takeNext_14 : decode cX1_takeNext 14 = .ok (.getfield 15, 3) := by decide +kernel
theorem dX1_takeNext_17 : decode cX1_takeNext 17 = .ok (.arraylength, 1) := by decide +kernel
theorem dX1_takeNext_18 : decode cX1_takeNext 18 = .ok (.if_icmp .ge 55, 3) := by decide +kernel
theorem dX1_takeNext_21 : decode cX1_takeNext 21 = .ok (.iload_n 2, 1) := by decide +kernel
theorem dX1_takeNext_22 : decode cX1_takeNext 22 = .ok (.aload_n 0, 1) := by decide +kernel
theorem dX1_takeNext_23 : decode cX1_takeNext 23 = .ok (.getfield 9, 3) := by decide +kernel
theorem dX1_takeNext_26 : decode cX1_takeNext 26 = .ok (.arraylength, 1) := by decide +kernel
theorem dX1_takeNext_27 : decode cX1_takeNext 27 = .ok (.if_icmp .ge 46, 3) := by decide +kernel
theorem dX1_takeNext_30 : decode cX1_takeNext 30 = .ok (.iload_n 1, 1) := by decide +kernel
theorem dX1_takeNext_31 : decode cX1_takeNext 31 = .ok (.ifCond .ne 18, 3) := by decide +kernel
theorem dX1_takeNext_34 : decode cX1_takeNext 34 = .ok (.aload_n 0, 1) := by decide +kernel
theorem dX1_takeNext_35 : decode cX1_takeNext 35 = .ok (.getfield 9, 3) := by decide +kernel
theorem dX1_takeNext_38 : decode cX1_takeNext 38 = .ok (.iload_n 2, 1) := by decide +kernel
theorem dX1_takeNext_39 : decode cX1_takeNext 39 = .ok (.iaload, 1) := by decide +kernel
theorem dX1_takeNext_40 : decode cX1_takeNext 40 = .ok (.aload_n 0, 1) := by decide +kernel
theorem dX1_takeNext_41 : decode cX1_takeNext 41 = .ok (.getfield 15, 3) := by decide +kernel
theorem dX1_takeNext_44 : decode cX1_takeNext 44 = .ok (.iload_n 2, 1) := by decide +kernel
theorem dX1_takeNext_45 : decode cX1_takeNext 45 = .ok (.iaload, 1) := by decide +kernel
theorem dX1_takeNext_46 : decode cX1_takeNext 46 = .ok (.if_icmp .eq 7, 3) := by decide +kernel
theorem dX1_takeNext_49 : decode cX1_takeNext 49 = .ok (.iconst 1, 1) := by decide +kernel
theorem dX1_takeNext_50 : decode cX1_takeNext 50 = .ok (.goto 4, 3) := by decide +kernel
theorem dX1_takeNext_53 : decode cX1_takeNext 53 = .ok (.iconst 0, 1) := by decide +kernel
theorem dX1_takeNext_54 : decode cX1_takeNext 54 = .ok (.istore_n 1, 1) := by decide +kernel
theorem dX1_takeNext_55 : decode cX1_takeNext 55 = .ok (.aload_n 0, 1) := by decide +kernel
theorem dX1_takeNext_56 : decode cX1_takeNext 56 = .ok (.getfield 9, 3) := by decide +kernel
theorem dX1_takeNext_59 : decode cX1_takeNext 59 = .ok (.iload_n 2, 1) := by decide +kernel
theorem dX1_takeNext_60 : decode cX1_takeNext 60 = .ok (.aload_n 0, 1) := by decide +kernel
theorem dX1_takeNext_61 : decode cX1_takeNext 61 = .ok (.getfield 15, 3) := by decide +kernel
theorem dX1_takeNext_64 : decode cX1_takeNext 64 = .ok (.iload_n 2, 1) := by decide +kernel
theorem dX1_takeNext_65 : decode cX1_takeNext 65 = .ok (.iaload, 1) := by decide +kernel
theorem dX1_takeNext_66 : decode cX1_takeNext 66 = .ok (.iastore, 1) := by decide +kernel
theorem dX1_takeNext_67 : decode cX1_takeNext 67 = .ok (.iinc 2 1, 3) := by decide +kernel
theorem dX1_takeNext_70 : decode cX1_takeNext 70 = .ok (.goto (-66), 3) := by decide +kernel
theorem dX1_takeNext_73 : decode cX1_takeNext 73 = .ok (.iload_n 1, 1) := by decide +kernel
theorem dX1_takeNext_74 : decode cX1_takeNext 74 = .ok (.ireturn, 1) := by decide +kernel
set_option maxRecDepth 20000 in
theorem ggX1_grownRow_X1_framed : GoodIn wsX1_grownRow wsX1_framed := goodIn_r _ [6, 7, 8, 9, 10, 11, 5, 12, 13, 14, 15, 16, 17, 18, 19, 20, 21, 1, 41, 42, 43, 44, 45, 46] (by decide +kernel) (by decide +kernel)
set_option maxRecDepth 20000 in
theorem gX1_grownRow_X1_framed : GoodIn wsX1_grownRow (wsV RX1 76 RX1 yX1_framed wsX1_framed) := goodIn_app (goodIn_of _ (by decide +kernel)) ggX1_grownRow_X1_framed
set_option maxRecDepth 20000 in
theorem ggX1_grownRow_X1_hasFrost : GoodIn wsX1_grownRow wsX1_hasFrost := goodIn_r _ [25, 13, 14, 15, 5, 16, 17, 41, 42, 43, 44, 45, 46] (by decide +kernel) (by decide +kernel)
set_option maxRecDepth 20000 in
theorem gX1_grownRow_X1_hasFrost : GoodIn wsX1_grownRow (wsV RX1 64 RX1 yX1_hasFrost wsX1_hasFrost) := goodIn_app (goodIn_of _ (by decide +kernel)) ggX1_grownRow_X1_hasFrost
set_option maxRecDepth 20000 in
theorem ggX1_grownRow_X1_countIn : GoodIn wsX1_grownRow wsX1_countIn := goodIn_r _ [28, 29, 30, 31, 32, 33, 34, 35] (by decide +kernel) (by decide +kernel)
set_option maxRecDepth 20000 in
theorem gX1_grownRow_X1_countIn : GoodIn wsX1_grownRow (va_wsS RX1 79 yX1_countIn wsX1_countIn) := goodIn_app (goodIn_of _ (by decide +kernel)) ggX1_grownRow_X1_countIn
set_option maxRecDepth 20000 in
theorem ggX1_grownRow_X1_meltOf : GoodIn wsX1_grownRow wsX1_meltOf := goodIn_r _ [39, 40, 41, 42, 43, 44, 45, 46] (by decide +kernel) (by decide +kernel)
set_option maxRecDepth 20000 in
theorem gX1_grownRow_X1_meltOf : GoodIn wsX1_grownRow (wsV RX1 53 RX1 yX1_meltOf wsX1_meltOf) := goodIn_app (goodIn_of _ (by decide +kernel)) ggX1_grownRow_X1_meltOf
theorem dX1_grownRow_0 : decode cX1_grownRow 0 = .ok (.aload_n 0, 1) := by decide +kernel
theorem dX1_grownRow_1 : decode cX1_grownRow 1 = .ok (.iload_n 1, 1) := by decide +kernel
theorem dX1_grownRow_2 : decode cX1_grownRow 2 = .ok (.iconst 1, 1) := by decide +kernel
theorem dX1_grownRow_3 : decode cX1_grownRow 3 = .ok (.isub, 1) := by decide +kernel
theorem dX1_grownRow_4 : decode cX1_grownRow 4 = .ok (.invokevirtual 76, 3) := by decide +kernel
theorem dX1_grownRow_7 : decode cX1_grownRow 7 = .ok (.istore 4, 2) := by decide +kernel
theorem dX1_grownRow_9 : decode cX1_grownRow 9 = .ok (.aload_n 0, 1) := by decide +kernel
theorem dX1_grownRow_10 : decode cX1_grownRow 10 = .ok (.iload_n 1, 1) := by decide +kernel
theorem dX1_grownRow_11 : decode cX1_grownRow 11 = .ok (.invokevirtual 76, 3) := by decide +kernel
theorem dX1_grownRow_14 : decode cX1_grownRow 14 = .ok (.istore 5, 2) := by decide +kernel
theorem dX1_grownRow_16 : decode cX1_grownRow 16 = .ok (.aload_n 0, 1) := by decide +kernel
theorem dX1_grownRow_17 : decode cX1_grownRow 17 = .ok (.iload_n 1, 1) := by decide +kernel
theorem dX1_grownRow_18 : decode cX1_grownRow 18 = .ok (.iconst 1, 1) := by decide +kernel
theorem dX1_grownRow_19 : decode cX1_grownRow 19 = .ok (.iadd, 1) := by decide +kernel
theorem dX1_grownRow_20 : decode cX1_grownRow 20 = .ok (.invokevirtual 76, 3) := by decide +kernel
theorem dX1_grownRow_23 : decode cX1_grownRow 23 = .ok (.istore 6, 2) := by decide +kernel
theorem dX1_grownRow_25 : decode cX1_grownRow 25 = .ok (.iconst 0, 1) := by decide +kernel
theorem dX1_grownRow_26 : decode cX1_grownRow 26 = .ok (.istore 7, 2) := by decide +kernel
theorem dX1_grownRow_28 : decode cX1_grownRow 28 = .ok (.iconst 0, 1) := by decide +kernel
theorem dX1_grownRow_29 : decode cX1_grownRow 29 = .ok (.istore 8, 2) := by decide +kernel
theorem dX1_grownRow_31 : decode cX1_grownRow 31 = .ok (.iload 8, 2) := by decide +kernel
theorem dX1_grownRow_33 : decode cX1_grownRow 33 = .ok (.aload_n 0, 1) := by decide +kernel
theorem dX1_grownRow_34 : decode cX1_grownRow 34 = .ok (.getfield 21, 3) := by decide +kernel
theorem dX1_grownRow_37 : decode cX1_grownRow 37 = .ok (.if_icmp .ge 69, 3) := by decide +kernel
theorem dX1_grownRow_40 : decode cX1_grownRow 40 = .ok (.aload_n 0, 1) := by decide +kernel
theorem dX1_grownRow_41 : decode cX1_grownRow 41 = .ok (.iload 8, 2) := by decide +kernel
theorem dX1_grownRow_43 : decode cX1_grownRow 43 = .ok (.iload_n 1, 1) := by decide +kernel
theorem dX1_grownRow_44 : decode cX1_grownRow 44 = .ok (.invokevirtual 64, 3) := by decide +kernel
theorem dX1_grownRow_47 : decode cX1_grownRow 47 = .ok (.ifCond .eq 7, 3) := by decide +kernel
theorem dX1_grownRow_50 : decode cX1_grownRow 50 = .ok (.iload_n 3, 1) := by decide +kernel
theorem dX1_grownRow_51 : decode cX1_grownRow 51 = .ok (.goto 4, 3) := by decide +kernel
theorem dX1_grownRow_54 : decode cX1_grownRow 54 = .ok (.iload_n 2, 1) := by decide +kernel
theorem dX1_grownRow_55 : decode cX1_grownRow 55 = .ok (.istore 9, 2) := by decide +kernel
theorem dX1_grownRow_57 : decode cX1_grownRow 57 = .ok (.iload 4, 2) := by decide +kernel
theorem dX1_grownRow_59 : decode cX1_grownRow 59 = .ok (.iload 5, 2) := by decide +kernel
theorem dX1_grownRow_61 : decode cX1_grownRow 61 = .ok (.iload 6, 2) := by decide +kernel
theorem dX1_grownRow_63 : decode cX1_grownRow 63 = .ok (.iload 8, 2) := by decide +kernel
theorem dX1_grownRow_65 : decode cX1_grownRow 65 = .ok (.invokestatic 79, 3) := by decide +kernel
theorem dX1_grownRow_68 : decode cX1_grownRow 68 = .ok (.istore 10, 2) := by decide +kernel
theorem dX1_grownRow_70 : decode cX1_grownRow 70 = .ok (.aload_n 0, 1) := by decide +kernel
theorem dX1_grownRow_71 : decode cX1_grownRow 71 = .ok (.iload 8, 2) := by decide +kernel
theorem dX1_grownRow_73 : decode cX1_grownRow 73 = .ok (.iload_n 1, 1) := by decide +kernel
theorem dX1_grownRow_74 : decode cX1_grownRow 74 = .ok (.invokevirtual 53, 3) := by decide +kernel
theorem dX1_grownRow_77 : decode cX1_grownRow 77 = .ok (.ifCond .ne 23, 3) := by decide +kernel
theorem dX1_grownRow_80 : decode cX1_grownRow 80 = .ok (.iload 9, 2) := by decide +kernel
theorem dX1_grownRow_82 : decode cX1_grownRow 82 = .ok (.iload 10, 2) := by decide +kernel
theorem dX1_grownRow_84 : decode cX1_grownRow 84 = .ok (.ishr, 1) := by decide +kernel
theorem dX1_grownRow_85 : decode cX1_grownRow 85 = .ok (.iconst 1, 1) := by decide +kernel
theorem dX1_grownRow_86 : decode cX1_grownRow 86 = .ok (.iand, 1) := by decide +kernel
theorem dX1_grownRow_87 : decode cX1_grownRow 87 = .ok (.iconst 1, 1) := by decide +kernel
theorem dX1_grownRow_88 : decode cX1_grownRow 88 = .ok (.if_icmp .ne 12, 3) := by decide +kernel
theorem dX1_grownRow_91 : decode cX1_grownRow 91 = .ok (.iload 7, 2) := by decide +kernel
theorem dX1_grownRow_93 : decode cX1_grownRow 93 = .ok (.iconst 1, 1) := by decide +kernel
theorem dX1_grownRow_94 : decode cX1_grownRow 94 = .ok (.iload 8, 2) := by decide +kernel
theorem dX1_grownRow_96 : decode cX1_grownRow 96 = .ok (.ishl, 1) := by decide +kernel
theorem dX1_grownRow_97 : decode cX1_grownRow 97 = .ok (.ior, 1) := by decide +kernel
theorem dX1_grownRow_98 : decode cX1_grownRow 98 = .ok (.istore 7, 2) := by decide +kernel
theorem dX1_grownRow_100 : decode cX1_grownRow 100 = .ok (.iinc 8 1, 3) := by decide +kernel
theorem dX1_grownRow_103 : decode cX1_grownRow 103 = .ok (.goto (-72), 3) := by decide +kernel
theorem dX1_grownRow_106 : decode cX1_grownRow 106 = .ok (.iload 7, 2) := by decide +kernel
theorem dX1_grownRow_108 : decode cX1_grownRow 108 = .ok (.ireturn, 1) := by decide +kernel
set_option maxRecDepth 20000 in
theorem ggX1_countIn_J6_bitCount_0f7a4 : GoodIn wsX1_countIn wsJ6_bitCount_0f7a4 := goodIn_r _ [4, 5, 6, 7] (by decide +kernel) (by decide +kernel)
set_option maxRecDepth 20000 in
theorem gX1_countIn_J6_bitCount_0f7a4 : GoodIn wsX1_countIn (va_wsS RX1 71 yJ6_bitCount_0f7a4 wsJ6_bitCount_0f7a4) := goodIn_app (goodIn_of _ (by decide +kernel)) ggX1_countIn_J6_bitCount_0f7a4
theorem dX1_countIn_0 : decode cX1_countIn 0 = .ok (.iload_n 0, 1) := by decide +kernel
theorem dX1_countIn_1 : decode cX1_countIn 1 = .ok (.iload_n 3, 1) := by decide +kernel
theorem dX1_countIn_2 : decode cX1_countIn 2 = .ok (.ishr, 1) := by decide +kernel
theorem dX1_countIn_3 : decode cX1_countIn 3 = .ok (.bipush 7, 2) := by decide +kernel
theorem dX1_countIn_5 : decode cX1_countIn 5 = .ok (.iand, 1) := by decide +kernel
theorem dX1_countIn_6 : decode cX1_countIn 6 = .ok (.invokestatic 71, 3) := by decide +kernel
theorem dX1_countIn_9 : decode cX1_countIn 9 = .ok (.iload_n 1, 1) := by decide +kernel
theorem dX1_countIn_10 : decode cX1_countIn 10 = .ok (.iload_n 3, 1) := by decide +kernel
theorem dX1_countIn_11 : decode cX1_countIn 11 = .ok (.ishr, 1) := by decide +kernel
theorem dX1_countIn_12 : decode cX1_countIn 12 = .ok (.iconst 5, 1) := by decide +kernel
theorem dX1_countIn_13 : decode cX1_countIn 13 = .ok (.iand, 1) := by decide +kernel
theorem dX1_countIn_14 : decode cX1_countIn 14 = .ok (.invokestatic 71, 3) := by decide +kernel
theorem dX1_countIn_17 : decode cX1_countIn 17 = .ok (.iadd, 1) := by decide +kernel
theorem dX1_countIn_18 : decode cX1_countIn 18 = .ok (.iload_n 2, 1) := by decide +kernel
theorem dX1_countIn_19 : decode cX1_countIn 19 = .ok (.iload_n 3, 1) := by decide +kernel
theorem dX1_countIn_20 : decode cX1_countIn 20 = .ok (.ishr, 1) := by decide +kernel
theorem dX1_countIn_21 : decode cX1_countIn 21 = .ok (.bipush 7, 2) := by decide +kernel
theorem dX1_countIn_23 : decode cX1_countIn 23 = .ok (.iand, 1) := by decide +kernel
theorem dX1_countIn_24 : decode cX1_countIn 24 = .ok (.invokestatic 71, 3) := by decide +kernel
theorem dX1_countIn_27 : decode cX1_countIn 27 = .ok (.iadd, 1) := by decide +kernel
theorem dX1_countIn_28 : decode cX1_countIn 28 = .ok (.ireturn, 1) := by decide +kernel
set_option maxRecDepth 20000 in
theorem ggX1_framed_X1_hasRow : GoodIn wsX1_framed wsX1_hasRow := goodIn_r _ [7, 2, 18, 19, 20, 21, 22, 23] (by decide +kernel) (by decide +kernel)
set_option maxRecDepth 20000 in
theorem gX1_framed_X1_hasRow : GoodIn wsX1_framed (wsV RX1 56 RX1 yX1_hasRow wsX1_hasRow) := goodIn_app (goodIn_of _ (by decide +kernel)) ggX1_framed_X1_hasRow
set_option maxRecDepth 20000 in
theorem ggX1_framed_X1_bitsOf : GoodIn wsX1_framed wsX1_bitsOf := goodIn_r _ [11, 12, 18, 19, 20, 21, 22, 23] (by decide +kernel) (by decide +kernel)
set_option maxRecDepth 20000 in
theorem gX1_framed_X1_bitsOf : GoodIn wsX1_framed (wsV RX1 49 RX1 yX1_bitsOf wsX1_bitsOf) := goodIn_app (goodIn_of _ (by decide +kernel)) ggX1_framed_X1_bitsOf
set_option maxRecDepth 20000 in
theorem ggX1_framed_X1_withSides : GoodIn wsX1_framed wsX1_withSides := goodIn_r _ [16, 1, 17, 18, 19, 20, 21, 22, 23] (by decide +kernel) (by decide +kernel)
set_option maxRecDepth 20000 in
theorem gX1_framed_X1_withSides : GoodIn wsX1_framed (wsV RX1 94 RX1 yX1_withSides wsX1_withSides) := goodIn_app (goodIn_of _ (by decide +kernel)) ggX1_framed_X1_withSides
theorem dX1_framed_0 : decode cX1_framed 0 = .ok (.aload_n 0, 1) := by decide +kernel
theorem dX1_framed_1 : decode cX1_framed 1 = .ok (.iload_n 1, 1) := by decide +kernel
theorem dX1_framed_2 : decode cX1_framed 2 = .ok (.invokevirtual 56, 3) := by decide +kernel
theorem dX1_framed_5 : decode cX1_framed 5 = .ok (.ifCond .eq 13, 3) := by decide +kernel
theorem dX1_framed_8 : decode cX1_framed 8 = .ok (.aload_n 0, 1) := by decide +kernel
theorem dX1_framed_9 : decode cX1_framed 9 = .ok (.aload_n 0, 1) := by decide +kernel
theorem dX1_framed_10 : decode cX1_framed 10 = .ok (.iload_n 1, 1) := by decide +kernel
theorem dX1_framed_11 : decode cX1_framed 11 = .ok (.invokevirtual 49, 3) := by decide +kernel
theorem dX1_framed_14 : decode cX1_framed 14 = .ok (.invokevirtual 94, 3) := by decide +kernel
theorem dX1_framed_17 : decode cX1_framed 17 = .ok (.ireturn, 1) := by decide +kernel
theorem dX1_framed_18 : decode cX1_framed 18 = .ok (.aload_n 0, 1) := by decide +kernel
theorem dX1_framed_19 : decode cX1_framed 19 = .ok (.getfield 34, 3) := by decide +kernel
theorem dX1_framed_22 : decode cX1_framed 22 = .ok (.iconst 2, 1) := by decide +kernel
theorem dX1_framed_23 : decode cX1_framed 23 = .ok (.if_icmp .ne 26, 3) := by decide +kernel
theorem dX1_framed_26 : decode cX1_framed 26 = .ok (.aload_n 0, 1) := by decide +kernel
theorem dX1_framed_27 : decode cX1_framed 27 = .ok (.aload_n 0, 1) := by decide +kernel
theorem dX1_framed_28 : decode cX1_framed 28 = .ok (.iload_n 1, 1) := by decide +kernel
theorem dX1_framed_29 : decode cX1_framed 29 = .ok (.ifCond .ge 12, 3) := by decide +kernel
theorem dX1_framed_32 : decode cX1_framed 32 = .ok (.aload_n 0, 1) := by decide +kernel
theorem dX1_framed_33 : decode cX1_framed 33 = .ok (.getfield 25, 3) := by decide +kernel
theorem dX1_framed_36 : decode cX1_framed 36 = .ok (.iconst 1, 1) := by decide +kernel
theorem dX1_framed_37 : decode cX1_framed 37 = .ok (.isub, 1) := by decide +kernel
theorem dX1_framed_38 : decode cX1_framed 38 = .ok (.goto 4, 3) := by decide +kernel
theorem dX1_framed_41 : decode cX1_framed 41 = .ok (.iconst 0, 1) := by decide +kernel
theorem dX1_framed_42 : decode cX1_framed 42 = .ok (.invokevirtual 49, 3) := by decide +kernel
theorem dX1_framed_45 : decode cX1_framed 45 = .ok (.invokevirtual 94, 3) := by decide +kernel
theorem dX1_framed_48 : decode cX1_framed 48 = .ok (.ireturn, 1) := by decide +kernel
theorem dX1_framed_49 : decode cX1_framed 49 = .ok (.aload_n 0, 1) := by decide +kernel
theorem dX1_framed_50 : decode cX1_framed 50 = .ok (.getfield 34, 3) := by decide +kernel
theorem dX1_framed_53 : decode cX1_framed 53 = .ok (.iconst 1, 1) := by decide +kernel
theorem dX1_framed_54 : decode cX1_framed 54 = .ok (.if_icmp .ne 7, 3) := by decide +kernel
theorem dX1_framed_57 : decode cX1_framed 57 = .ok (.iconst (-1), 1) := by decide +kernel
theorem dX1_framed_58 : decode cX1_framed 58 = .ok (.goto 4, 3) := by decide +kernel
theorem dX1_framed_61 : decode cX1_framed 61 = .ok (.iconst 0, 1) := by decide +kernel
theorem dX1_framed_62 : decode cX1_framed 62 = .ok (.ireturn, 1) := by decide +kernel
theorem dX1_withSides_0 : decode cX1_withSides 0 = .ok (.aload_n 0, 1) := by decide +kernel
theorem dX1_withSides_1 : decode cX1_withSides 1 = .ok (.getfield 34, 3) := by decide +kernel
theorem dX1_withSides_4 : decode cX1_withSides 4 = .ok (.iconst 1, 1) := by decide +kernel
theorem dX1_withSides_5 : decode cX1_withSides 5 = .ok (.if_icmp .ne 7, 3) := by decide +kernel
theorem dX1_withSides_8 : decode cX1_withSides 8 = .ok (.iconst 1, 1) := by decide +kernel
theorem dX1_withSides_9 : decode cX1_withSides 9 = .ok (.goto 4, 3) := by decide +kernel
theorem dX1_withSides_12 : decode cX1_withSides 12 = .ok (.iconst 0, 1) := by decide +kernel
theorem dX1_withSides_13 : decode cX1_withSides 13 = .ok (.istore_n 2, 1) := by decide +kernel
theorem dX1_withSides_14 : decode cX1_withSides 14 = .ok (.iload_n 2, 1) := by decide +kernel
theorem dX1_withSides_15 : decode cX1_withSides 15 = .ok (.istore_n 3, 1) := by decide +kernel
theorem dX1_withSides_16 : decode cX1_withSides 16 = .ok (.aload_n 0, 1) := by decide +kernel
theorem dX1_withSides_17 : decode cX1_withSides 17 = .ok (.getfield 34, 3) := by decide +kernel
theorem dX1_withSides_20 : decode cX1_withSides 20 = .ok (.iconst 2, 1) := by decide +kernel
theorem dX1_withSides_21 : decode cX1_withSides 21 = .ok (.if_icmp .ne 18, 3) := by decide +kernel
theorem dX1_withSides_24 : decode cX1_withSides 24 = .ok (.iload_n 1, 1) := by decide +kernel
theorem dX1_withSides_25 : decode cX1_withSides 25 = .ok (.aload_n 0, 1) := by decide +kernel
theorem dX1_withSides_26 : decode cX1_withSides 26 = .ok (.getfield 21, 3) := by decide +kernel
theorem dX1_withSides_29 : decode cX1_withSides 29 = .ok (.iconst 1, 1) := by decide +kernel
theorem dX1_withSides_30 : decode cX1_withSides 30 = .ok (.isub, 1) := by decide +kernel
theorem dX1_withSides_31 : decode cX1_withSides 31 = .ok (.ishr, 1) := by decide +kernel
theorem dX1_withSides_32 : decode cX1_withSides 32 = .ok (.iconst 1, 1) := by decide +kernel
theorem dX1_withSides_33 : decode cX1_withSides 33 = .ok (.iand, 1) := by decide +kernel
theorem dX1_withSides_34 : decode cX1_withSides 34 = .ok (.istore_n 2, 1) := by decide +kernel
theorem dX1_withSides_35 : decode cX1_withSides 35 = .ok (.iload_n 1, 1) := by decide +kernel
theorem dX1_withSides_36 : decode cX1_withSides 36 = .ok (.iconst 1, 1) := by decide +kernel
theorem dX1_withSides_37 : decode cX1_withSides 37 = .ok (.iand, 1) := by decide +kernel
theorem dX1_withSides_38 : decode cX1_withSides 38 = .ok (.istore_n 3, 1) := by decide +kernel
theorem dX1_withSides_39 : decode cX1_withSides 39 = .ok (.iload_n 2, 1) := by decide +kernel
theorem dX1_withSides_40 : decode cX1_withSides 40 = .ok (.iload_n 1, 1) := by decide +kernel
theorem dX1_withSides_41 : decode cX1_withSides 41 = .ok (.iconst 1, 1) := by decide +kernel
theorem dX1_withSides_42 : decode cX1_withSides 42 = .ok (.ishl, 1) := by decide +kernel
theorem dX1_withSides_43 : decode cX1_withSides 43 = .ok (.ior, 1) := by decide +kernel
theorem dX1_withSides_44 : decode cX1_withSides 44 = .ok (.iload_n 3, 1) := by decide +kernel
theorem dX1_withSides_45 : decode cX1_withSides 45 = .ok (.aload_n 0, 1) := by decide +kernel
theorem dX1_withSides_46 : decode cX1_withSides 46 = .ok (.getfield 21, 3) := by decide +kernel
theorem dX1_withSides_49 : decode cX1_withSides 49 = .ok (.iconst 1, 1) := by decide +kernel
theorem dX1_withSides_50 : decode cX1_withSides 50 = .ok (.iadd, 1) := by decide +kernel
theorem dX1_withSides_51 : decode cX1_withSides 51 = .ok (.ishl, 1) := by decide +kernel
theorem dX1_withSides_52 : decode cX1_withSides 52 = .ok (.ior, 1) := by decide +kernel
theorem dX1_withSides_53 : decode cX1_withSides 53 = .ok (.ireturn, 1) := by decide +kernel
theorem dX2_init_0 : decode cX2_init 0 = .ok (.aload_n 0, 1) := by decide +kernel
theorem dX2_init_1 : decode cX2_init 1 = .ok (.invokespecial 3, 3) := by decide +kernel
theorem dX2_init_4 : decode cX2_init 4 = .ok (.aload_n 0, 1) := by decide +kernel
theorem dX2_init_5 : decode cX2_init 5 = .ok (.bipush 6, 2) := by decide +kernel
theorem dX2_init_7 : decode cX2_init 7 = .ok (.newarray .int, 2) := by decide +kernel
theorem dX2_init_9 : decode cX2_init 9 = .ok (.putfield 9, 3) := by decide +kernel
theorem dX2_init_12 : decode cX2_init 12 = .ok (.aload_n 0, 1) := by decide +kernel
theorem dX2_init_13 : decode cX2_init 13 = .ok (.bipush 6, 2) := by decide +kernel
theorem dX2_init_15 : decode cX2_init 15 = .ok (.newarray .int, 2) := by decide +kernel
theorem dX2_init_17 : decode cX2_init 17 = .ok (.putfield 15, 3) := by decide +kernel
theorem dX2_init_20 : decode cX2_init 20 = .ok (.return_, 1) := by decide +kernel
theorem dX2_isFull_0 : decode cX2_isFull 0 = .ok (.aload_n 0, 1) := by decide +kernel
theorem dX2_isFull_1 : decode cX2_isFull 1 = .ok (.getfield 18, 3) := by decide +kernel
theorem dX2_isFull_4 : decode cX2_isFull 4 = .ok (.bipush 6, 2) := by decide +kernel
theorem dX2_isFull_6 : decode cX2_isFull 6 = .ok (.if_icmp .lt 7, 3) := by decide +kernel
theorem dX2_isFull_9 : decode cX2_isFull 9 = .ok (.iconst 1, 1) := by decide +kernel
theorem dX2_isFull_10 : decode cX2_isFull 10 = .ok (.goto 4, 3) := by decide +kernel
theorem dX2_isFull_13 : decode cX2_isFull 13 = .ok (.iconst 0, 1) := by decide +kernel
theorem dX2_isFull_14 : decode cX2_isFull 14 = .ok (.ireturn, 1) := by decide +kernel
theorem dX2_has_0 : decode cX2_has 0 = .ok (.iload_n 1, 1) := by decide +kernel
theorem dX2_has_1 : decode cX2_has 1 = .ok (.ifCond .lt 15, 3) := by decide +kernel
theorem dX2_has_4 : decode cX2_has 4 = .ok (.iload_n 1, 1) := by decide +kernel
theorem dX2_has_5 : decode cX2_has 5 = .ok (.aload_n 0, 1) := by decide +kernel
theorem dX2_has_6 : decode cX2_has 6 = .ok (.getfield 18, 3) := by decide +kernel
theorem dX2_has_9 : decode cX2_has 9 = .ok (.if_icmp .ge 7, 3) := by decide +kernel
theorem dX2_has_12 : decode cX2_has 12 = .ok (.iconst 1, 1) := by decide +kernel
theorem dX2_has_13 : decode cX2_has 13 = .ok (.goto 4, 3) := by decide +kernel
theorem dX2_has_16 : decode cX2_has 16 = .ok (.iconst 0, 1) := by decide +kernel
theorem dX2_has_17 : decode cX2_has 17 = .ok (.ireturn, 1) := by decide +kernel
theorem dX2_append_0 : decode cX2_append 0 = .ok (.aload_n 0, 1) := by decide +kernel
theorem dX2_append_1 : decode cX2_append 1 = .ok (.getfield 18, 3) := by decide +kernel
theorem dX2_append_4 : decode cX2_append 4 = .ok (.istore_n 3, 1) := by decide +kernel
theorem dX2_append_5 : decode cX2_append 5 = .ok (.iload_n 3, 1) := by decide +kernel
theorem dX2_append_6 : decode cX2_append 6 = .ok (.ifCond .lt 45, 3) := by decide +kernel
theorem dX2_append_9 : decode cX2_append 9 = .ok (.iload_n 3, 1) := by decide +kernel
theorem dX2_append_10 : decode cX2_append 10 = .ok (.aload_n 0, 1) := by decide +kernel
theorem dX2_append_11 : decode cX2_append 11 = .ok (.getfield 9, 3) := by decide +kernel
theorem dX2_append_14 : decode cX2_append 14 = .ok (.arraylength, 1) := by decide +kernel
theorem dX2_append_15 : decode cX2_append 15 = .ok (.if_icmp .ge 36, 3) := by decide +kernel
theorem dX2_append_18 : decode cX2_append 18 = .ok (.iload_n 3, 1) := by decide +kernel
theorem dX2_append_19 : decode cX2_append 19 = .ok (.aload_n 0, 1) := by decide +kernel
theorem dX2_append_20 : decode cX2_append 20 = .ok (.getfield 15, 3) := by decide +kernel
theorem dX2_append_23 : decode cX2_append 23 = .ok (.arraylength, 1) := by decide +kernel
theorem dX2_append_24 : decode cX2_append 24 = .ok (.if_icmp .ge 27, 3) := by decide +kernel
theorem dX2_append_27 : decode cX2_append 27 = .ok (.aload_n 0, 1) := by decide +kernel
theorem dX2_append_28 : decode cX2_append 28 = .ok (.getfield 9, 3) := by decide +kernel
theorem dX2_append_31 : decode cX2_append 31 = .ok (.iload_n 3, 1) := by decide +kernel
theorem dX2_append_32 : decode cX2_append 32 = .ok (.iload_n 1, 1) := by decide +kernel
theorem dX2_append_33 : decode cX2_append 33 = .ok (.iastore, 1) := by decide +kernel
theorem dX2_append_34 : decode cX2_append 34 = .ok (.aload_n 0, 1) := by decide +kernel
theorem dX2_append_35 : decode cX2_append 35 = .ok (.getfield 15, 3) := by decide +kernel
theorem dX2_append_38 : decode cX2_append 38 = .ok (.iload_n 3, 1) := by decide +kernel
theorem dX2_append_39 : decode cX2_append 39 = .ok (.iload_n 2, 1) := by decide +kernel
theorem dX2_append_40 : decode cX2_append 40 = .ok (.iastore, 1) := by decide +kernel
theorem dX2_append_41 : decode cX2_append 41 = .ok (.aload_n 0, 1) := by decide +kernel
theorem dX2_append_42 : decode cX2_append 42 = .ok (.dup, 1) := by decide +kernel
theorem dX2_append_43 : decode cX2_append 43 = .ok (.getfield 18, 3) := by decide +kernel
theorem dX2_append_46 : decode cX2_append 46 = .ok (.iconst 1, 1) := by decide +kernel
theorem dX2_append_47 : decode cX2_append 47 = .ok (.iadd, 1) := by decide +kernel
theorem dX2_append_48 : decode cX2_append 48 = .ok (.putfield 18, 3) := by decide +kernel
theorem dX2_append_51 : decode cX2_append 51 = .ok (.iload_n 3, 1) := by decide +kernel
theorem dX2_append_52 : decode cX2_append 52 = .ok (.ireturn, 1) := by decide +kernel
set_option maxRecDepth 20000 in
theorem ggX2_freezesBy_X2_has : GoodIn wsX2_freezesBy wsX2_has := goodIn_r _ [6, 7, 8, 9, 10] (by decide +kernel) (by decide +kernel)
set_option maxRecDepth 20000 in
theorem gX2_freezesBy_X2_has : GoodIn wsX2_freezesBy (wsV RX2 22 RX2 yX2_has wsX2_has) := goodIn_app (goodIn_of _ (by decide +kernel)) ggX2_freezesBy_X2_has
theorem dX2_freezesBy_0 : decode cX2_freezesBy 0 = .ok (.aload_n 0, 1) := by decide +kernel
theorem dX2_freezesBy_1 : decode cX2_freezesBy 1 = .ok (.iload_n 1, 1) := by decide +kernel
theorem dX2_freezesBy_2 : decode cX2_freezesBy 2 = .ok (.invokevirtual 22, 3) := by decide +kernel
theorem dX2_freezesBy_5 : decode cX2_freezesBy 5 = .ok (.ifCond .eq 21, 3) := by decide +kernel
theorem dX2_freezesBy_8 : decode cX2_freezesBy 8 = .ok (.iload_n 1, 1) := by decide +kernel
theorem dX2_freezesBy_9 : decode cX2_freezesBy 9 = .ok (.aload_n 0, 1) := by decide +kernel
theorem dX2_freezesBy_10 : decode cX2_freezesBy 10 = .ok (.getfield 9, 3) := by decide +kernel
theorem dX2_freezesBy_13 : decode cX2_freezesBy 13 = .ok (.arraylength, 1) := by decide +kernel
theorem dX2_freezesBy_14 : decode cX2_freezesBy 14 = .ok (.if_icmp .ge 12, 3) := by decide +kernel
theorem dX2_freezesBy_17 : decode cX2_freezesBy 17 = .ok (.aload_n 0, 1) := by decide +kernel
theorem dX2_freezesBy_18 : decode cX2_freezesBy 18 = .ok (.getfield 9, 3) := by decide +kernel
theorem dX2_freezesBy_21 : decode cX2_freezesBy 21 = .ok (.iload_n 1, 1) := by decide +kernel
theorem dX2_freezesBy_22 : decode cX2_freezesBy 22 = .ok (.iaload, 1) := by decide +kernel
theorem dX2_freezesBy_23 : decode cX2_freezesBy 23 = .ok (.goto 4, 3) := by decide +kernel
theorem dX2_freezesBy_26 : decode cX2_freezesBy 26 = .ok (.iconst 0, 1) := by decide +kernel
theorem dX2_freezesBy_27 : decode cX2_freezesBy 27 = .ok (.ireturn, 1) := by decide +kernel
set_option maxRecDepth 20000 in
theorem ggX2_staysBy_X2_has : GoodIn wsX2_staysBy wsX2_has := goodIn_r _ [6, 7, 8, 9, 10] (by decide +kernel) (by decide +kernel)
set_option maxRecDepth 20000 in
theorem gX2_staysBy_X2_has : GoodIn wsX2_staysBy (wsV RX2 22 RX2 yX2_has wsX2_has) := goodIn_app (goodIn_of _ (by decide +kernel)) ggX2_staysBy_X2_has
theorem dX2_staysBy_0 : decode cX2_staysBy 0 = .ok (.aload_n 0, 1) := by decide +kernel
theorem dX2_staysBy_1 : decode cX2_staysBy 1 = .ok (.iload_n 1, 1) := by decide +kernel
theorem dX2_staysBy_2 : decode cX2_staysBy 2 = .ok (.invokevirtual 22, 3) := by decide +kernel
theorem dX2_staysBy_5 : decode cX2_staysBy 5 = .ok (.ifCond .eq 21, 3) := by decide +kernel
theorem dX2_staysBy_8 : decode cX2_staysBy 8 = .ok (.iload_n 1, 1) := by decide +kernel
theorem dX2_staysBy_9 : decode cX2_staysBy 9 = .ok (.aload_n 0, 1) := by decide +kernel
theorem dX2_staysBy_10 : decode cX2_staysBy 10 = .ok (.getfield 15, 3) := by decide +kernel
theorem dX2_staysBy_13 : decode cX2_staysBy 13 = .ok (.arraylength, 1) := by decide +kernel
theorem dX2_staysBy_14 : decode cX2_staysBy 14 = .ok (.if_icmp .ge 12, 3) := by decide +kernel
theorem dX2_staysBy_17 : decode cX2_staysBy 17 = .ok (.aload_n 0, 1) := by decide +kernel
theorem dX2_staysBy_18 : decode cX2_staysBy 18 = .ok (.getfield 15, 3) := by decide +kernel
theorem dX2_staysBy_21 : decode cX2_staysBy 21 = .ok (.iload_n 1, 1) := by decide +kernel
theorem dX2_staysBy_22 : decode cX2_staysBy 22 = .ok (.iaload, 1) := by decide +kernel
theorem dX2_staysBy_23 : decode cX2_staysBy 23 = .ok (.goto 4, 3) := by decide +kernel
theorem dX2_staysBy_26 : decode cX2_staysBy 26 = .ok (.iconst 0, 1) := by decide +kernel
theorem dX2_staysBy_27 : decode cX2_staysBy 27 = .ok (.ireturn, 1) := by decide +kernel
set_option maxRecDepth 20000 in
theorem ggX3_init_X1_init : GoodIn wsX3_init wsX1_init := goodIn_r _ [18, 19, 2, 3, 20, 21, 22, 23, 49, 50, 51, 52, 53, 54] (by decide +kernel) (by decide +kernel)
set_option maxRecDepth 20000 in
theorem gX3_init_X1_init_n9 : GoodIn wsX3_init (wsX1_init) := ggX3_init_X1_init
set_option maxRecDepth 20000 in
theorem ggX3_init_X0_init : GoodIn wsX3_init wsX0_init := goodIn_r _ [25, 26, 2, 3, 20, 27, 28, 61, 62] (by decide +kernel) (by decide +kernel)
set_option maxRecDepth 20000 in
theorem gX3_init_X0_init_n21 : GoodIn wsX3_init (wsX0_init) := ggX3_init_X0_init
set_option maxRecDepth 20000 in
theorem ggX3_init_X2_init : GoodIn wsX3_init wsX2_init := goodIn_r _ [30, 31, 2, 3, 20, 32, 33, 63, 64, 65] (by decide +kernel) (by decide +kernel)
set_option maxRecDepth 20000 in
theorem gX3_init_X2_init_n28 : GoodIn wsX3_init (wsX2_init) := ggX3_init_X2_init
set_option maxRecDepth 20000 in
theorem ggX3_init_X1_layClear : GoodIn wsX3_init wsX1_layClear := goodIn_r _ [37, 38, 39, 21, 23, 40, 41, 42, 43, 49, 50, 51, 52, 53, 54] (by decide +kernel) (by decide +kernel)
set_option maxRecDepth 20000 in
theorem gX3_init_X1_layClear : GoodIn wsX3_init (wsV RX3 33 RX1 yX1_layClear wsX1_layClear) := goodIn_app (goodIn_of _ (by decide +kernel)) ggX3_init_X1_layClear
set_option maxRecDepth 20000 in
theorem ggX3_init_X2_append : GoodIn wsX3_init wsX2_append := goodIn_r _ [47, 48, 32, 33, 63, 64, 65] (by decide +kernel) (by decide +kernel)
set_option maxRecDepth 20000 in
theorem gX3_init_X2_append : GoodIn wsX3_init (wsV RX3 37 RX2 yX2_append wsX2_append) := goodIn_app (goodIn_of _ (by decide +kernel)) ggX3_init_X2_append
theorem dX3_init_0 : decode cX3_init 0 = .ok (.aload_n 0, 1) := by decide +kernel
theorem dX3_init_1 : decode cX3_init 1 = .ok (.invokespecial 1, 3) := by decide +kernel
theorem dX3_init_4 : decode cX3_init 4 = .ok (.aload_n 0, 1) := by decide +kernel
theorem dX3_init_5 : decode cX3_init 5 = .ok (.new 7, 3) := by decide +kernel
theorem dX3_init_8 : decode cX3_init 8 = .ok (.dup, 1) := by decide +kernel
theorem dX3_init_9 : decode cX3_init 9 = .ok (.invokespecial 9, 3) := by decide +kernel
theorem dX3_init_12 : decode cX3_init 12 = .ok (.putfield 10, 3) := by decide +kernel
theorem dX3_init_15 : decode cX3_init 15 = .ok (.aload_n 0, 1) := by decide +kernel
theorem dX3_init_16 : decode cX3_init 16 = .ok (.new 7, 3) := by decide +kernel
theorem dX3_init_19 : decode cX3_init 19 = .ok (.dup, 1) := by decide +kernel
theorem dX3_init_20 : decode cX3_init 20 = .ok (.invokespecial 9, 3) := by decide +kernel
theorem dX3_init_23 : decode cX3_init 23 = .ok (.putfield 16, 3) := by decide +kernel
theorem dX3_init_26 : decode cX3_init 26 = .ok (.aload_n 0, 1) := by decide +kernel
theorem dX3_init_27 : decode cX3_init 27 = .ok (.new 19, 3) := by decide +kernel
theorem dX3_init_30 : decode cX3_init 30 = .ok (.dup, 1) := by decide +kernel
theorem dX3_init_31 : decode cX3_init 31 = .ok (.invokespecial 21, 3) := by decide +kernel
theorem dX3_init_34 : decode cX3_init 34 = .ok (.putfield 22, 3) := by decide +kernel
theorem dX3_init_37 : decode cX3_init 37 = .ok (.aload_n 0, 1) := by decide +kernel
theorem dX3_init_38 : decode cX3_init 38 = .ok (.new 26, 3) := by decide +kernel
theorem dX3_init_41 : decode cX3_init 41 = .ok (.dup, 1) := by decide +kernel
theorem dX3_init_42 : decode cX3_init 42 = .ok (.invokespecial 28, 3) := by decide +kernel
theorem dX3_init_45 : decode cX3_init 45 = .ok (.putfield 29, 3) := by decide +kernel
theorem dX3_init_48 : decode cX3_init 48 = .ok (.aload_n 0, 1) := by decide +kernel
theorem dX3_init_49 : decode cX3_init 49 = .ok (.getfield 10, 3) := by decide +kernel
theorem dX3_init_52 : decode cX3_init 52 = .ok (.bipush 8, 2) := by decide +kernel
theorem dX3_init_54 : decode cX3_init 54 = .ok (.bipush 8, 2) := by decide +kernel
theorem dX3_init_56 : decode cX3_init 56 = .ok (.invokevirtual 33, 3) := by decide +kernel
theorem dX3_init_59 : decode cX3_init 59 = .ok (.aload_n 0, 1) := by decide +kernel
theorem dX3_init_60 : decode cX3_init 60 = .ok (.getfield 29, 3) := by decide +kernel
theorem dX3_init_63 : decode cX3_init 63 = .ok (.bipush 8, 2) := by decide +kernel
theorem dX3_init_65 : decode cX3_init 65 = .ok (.bipush 12, 2) := by decide +kernel
theorem dX3_init_67 : decode cX3_init 67 = .ok (.invokevirtual 37, 3) := by decide +kernel
theorem dX3_init_70 : decode cX3_init 70 = .ok (.pop, 1) := by decide +kernel
theorem dX3_init_71 : decode cX3_init 71 = .ok (.return_, 1) := by decide +kernel
set_option maxRecDepth 20000 in
theorem ggX3_lay_X3_requireWithin : GoodIn wsX3_lay wsX3_requireWithin := goodIn_ca (goodIn_r _ [5, 6, 7] (by decide +kernel) (by decide +kernel)) (goodIn_sub (fun _ h => List.mem_cons_of_mem _ (List.mem_append_right _ h)) (by decide +kernel))
set_option maxRecDepth 20000 in
theorem gX3_lay_X3_requireWithin : GoodIn wsX3_lay (va_wsS RX3 41 yX3_requireWithin wsX3_requireWithin) := goodIn_app (goodIn_of _ (by decide +kernel)) ggX3_lay_X3_requireWithin
set_option maxRecDepth 20000 in
theorem ggX3_lay_X1_layClear : GoodIn wsX3_lay wsX1_layClear := goodIn_r _ [12, 13, 14, 15, 16, 17, 18, 19, 20, 27, 28, 29, 30, 31, 32] (by decide +kernel) (by decide +kernel)
set_option maxRecDepth 20000 in
theorem gX3_lay_X1_layClear : GoodIn wsX3_lay (wsV RX3 33 RX1 yX1_layClear wsX1_layClear) := goodIn_app (goodIn_of _ (by decide +kernel)) ggX3_lay_X1_layClear
theorem dX3_lay_0 : decode cX3_lay 0 = .ok (.iload_n 1, 1) := by decide +kernel
theorem dX3_lay_1 : decode cX3_lay 1 = .ok (.iconst 3, 1) := by decide +kernel
theorem dX3_lay_2 : decode cX3_lay 2 = .ok (.bipush 12, 2) := by decide +kernel
theorem dX3_lay_4 : decode cX3_lay 4 = .ok (.invokestatic 41, 3) := by decide +kernel
theorem dX3_lay_7 : decode cX3_lay 7 = .ok (.iload_n 2, 1) := by decide +kernel
theorem dX3_lay_8 : decode cX3_lay 8 = .ok (.iconst 3, 1) := by decide +kernel
theorem dX3_lay_9 : decode cX3_lay 9 = .ok (.bipush 12, 2) := by decide +kernel
theorem dX3_lay_11 : decode cX3_lay 11 = .ok (.invokestatic 41, 3) := by decide +kernel
theorem dX3_lay_14 : decode cX3_lay 14 = .ok (.aload_n 0, 1) := by decide +kernel
theorem dX3_lay_15 : decode cX3_lay 15 = .ok (.getfield 10, 3) := by decide +kernel
theorem dX3_lay_18 : decode cX3_lay 18 = .ok (.iload_n 1, 1) := by decide +kernel
theorem dX3_lay_19 : decode cX3_lay 19 = .ok (.iload_n 2, 1) := by decide +kernel
theorem dX3_lay_20 : decode cX3_lay 20 = .ok (.invokevirtual 33, 3) := by decide +kernel
theorem dX3_lay_23 : decode cX3_lay 23 = .ok (.iload_n 1, 1) := by decide +kernel
theorem dX3_lay_24 : decode cX3_lay 24 = .ok (.iload_n 2, 1) := by decide +kernel
theorem dX3_lay_25 : decode cX3_lay 25 = .ok (.imul, 1) := by decide +kernel
theorem dX3_lay_26 : decode cX3_lay 26 = .ok (.ireturn, 1) := by decide +kernel
set_option maxRecDepth 20000 in
theorem ggX3_turn_X3_requireCell : GoodIn wsX3_turn wsX3_requireCell := goodIn_ca (goodIn_r _ [8, 9, 10, 3, 11, 12, 13, 14, 15, 16, 17, 18, 19, 20, 21, 41, 42, 43, 44, 45, 46, 47, 48, 49, 50, 51, 52] (by decide +kernel) (by decide +kernel)) (goodIn_sub (fun _ h => List.mem_cons_of_mem _ (List.mem_append_right _ h)) (by decide +kernel))
set_option maxRecDepth 20000 in
theorem gX3_turn_X3_requireCell : GoodIn wsX3_turn (wsV RX3 45 RX3 yX3_requireCell wsX3_requireCell) := goodIn_app (goodIn_of _ (by decide +kernel)) ggX3_turn_X3_requireCell
set_option maxRecDepth 20000 in
theorem ggX3_turn_X1_meltOf : GoodIn wsX3_turn wsX1_meltOf := goodIn_r _ [25, 26, 47, 48, 49, 50, 51, 52] (by decide +kernel) (by decide +kernel)
set_option maxRecDepth 20000 in
theorem gX3_turn_X1_meltOf : GoodIn wsX3_turn (wsV RX3 48 RX1 yX1_meltOf wsX1_meltOf) := goodIn_app (goodIn_of _ (by decide +kernel)) ggX3_turn_X1_meltOf
set_option maxRecDepth 20000 in
theorem ggX3_turn_X1_flip : GoodIn wsX3_turn wsX1_flip := goodIn_r _ [30, 31, 32, 12, 13, 14, 15, 16, 17, 18, 19, 20, 21, 47, 48, 49, 50, 51, 52] (by decide +kernel) (by decide +kernel)
set_option maxRecDepth 20000 in
theorem gX3_turn_X1_flip : GoodIn wsX3_turn (wsV RX3 58 RX1 yX1_flip wsX1_flip) := goodIn_app (goodIn_of _ (by decide +kernel)) ggX3_turn_X1_flip
set_option maxRecDepth 20000 in
theorem ggX3_turn_X1_hasFrost : GoodIn wsX3_turn wsX1_hasFrost := goodIn_r _ [36, 37, 38, 39, 14, 40, 31, 47, 48, 49, 50, 51, 52] (by decide +kernel) (by decide +kernel)
set_option maxRecDepth 20000 in
theorem gX3_turn_X1_hasFrost : GoodIn wsX3_turn (wsV RX3 61 RX1 yX1_hasFrost wsX1_hasFrost) := goodIn_app (goodIn_of _ (by decide +kernel)) ggX3_turn_X1_hasFrost
theorem dX3_turn_0 : decode cX3_turn 0 = .ok (.aload_n 0, 1) := by decide +kernel
theorem dX3_turn_1 : decode cX3_turn 1 = .ok (.iload_n 1, 1) := by decide +kernel
theorem dX3_turn_2 : decode cX3_turn 2 = .ok (.iload_n 2, 1) := by decide +kernel
theorem dX3_turn_3 : decode cX3_turn 3 = .ok (.invokevirtual 45, 3) := by decide +kernel
theorem dX3_turn_6 : decode cX3_turn 6 = .ok (.aload_n 0, 1) := by decide +kernel
theorem dX3_turn_7 : decode cX3_turn 7 = .ok (.getfield 10, 3) := by decide +kernel
theorem dX3_turn_10 : decode cX3_turn 10 = .ok (.iload_n 1, 1) := by decide +kernel
theorem dX3_turn_11 : decode cX3_turn 11 = .ok (.iload_n 2, 1) := by decide +kernel
theorem dX3_turn_12 : decode cX3_turn 12 = .ok (.invokevirtual 48, 3) := by decide +kernel
theorem dX3_turn_15 : decode cX3_turn 15 = .ok (.ifCond .le 13, 3) := by decide +kernel
theorem dX3_turn_18 : decode cX3_turn 18 = .ok (.new 51, 3) := by decide +kernel
theorem dX3_turn_21 : decode cX3_turn 21 = .ok (.dup, 1) := by decide +kernel
theorem dX3_turn_22 : decode cX3_turn 22 = .ok (.ldc 53, 2) := by decide +kernel
theorem dX3_turn_24 : decode cX3_turn 24 = .ok (.invokespecial 55, 3) := by decide +kernel
theorem dX3_turn_27 : decode cX3_turn 27 = .ok (.athrow, 1) := by decide +kernel
theorem dX3_turn_28 : decode cX3_turn 28 = .ok (.aload_n 0, 1) := by decide +kernel
theorem dX3_turn_29 : decode cX3_turn 29 = .ok (.getfield 10, 3) := by decide +kernel
theorem dX3_turn_32 : decode cX3_turn 32 = .ok (.iload_n 1, 1) := by decide +kernel
theorem dX3_turn_33 : decode cX3_turn 33 = .ok (.iload_n 2, 1) := by decide +kernel
theorem dX3_turn_34 : decode cX3_turn 34 = .ok (.invokevirtual 58, 3) := by decide +kernel
theorem dX3_turn_37 : decode cX3_turn 37 = .ok (.aload_n 0, 1) := by decide +kernel
theorem dX3_turn_38 : decode cX3_turn 38 = .ok (.getfield 10, 3) := by decide +kernel
theorem dX3_turn_41 : decode cX3_turn 41 = .ok (.iload_n 1, 1) := by decide +kernel
theorem dX3_turn_42 : decode cX3_turn 42 = .ok (.iload_n 2, 1) := by decide +kernel
theorem dX3_turn_43 : decode cX3_turn 43 = .ok (.invokevirtual 61, 3) := by decide +kernel
theorem dX3_turn_46 : decode cX3_turn 46 = .ok (.ireturn, 1) := by decide +kernel
set_option maxRecDepth 20000 in
theorem ggX3_press_X3_requireCell : GoodIn wsX3_press wsX3_requireCell := goodIn_ca (goodIn_r _ [6, 7, 8, 1, 9, 10, 11, 12, 13, 14, 15, 16, 17, 18, 19, 44, 45, 46, 47, 48, 49, 50, 51, 52, 53, 54, 55] (by decide +kernel) (by decide +kernel)) (goodIn_sub (fun _ h => List.mem_cons_of_mem _ (List.mem_append_left _ (List.mem_append_right _ h))) (by decide +kernel))
set_option maxRecDepth 20000 in
theorem gX3_press_X3_requireCell : GoodIn wsX3_press (wsV RX3 45 RX3 yX3_requireCell wsX3_requireCell) := goodIn_app (goodIn_of _ (by decide +kernel)) ggX3_press_X3_requireCell
set_option maxRecDepth 20000 in
theorem ggX3_press_X3_requireWithin : GoodIn wsX3_press wsX3_requireWithin := goodIn_ca (goodIn_r _ [22, 23, 24] (by decide +kernel) (by decide +kernel)) (goodIn_sub (fun _ h => List.mem_cons_of_mem _ (List.mem_append_right _ h)) (by decide +kernel))
set_option maxRecDepth 20000 in
theorem gX3_press_X3_requireWithin : GoodIn wsX3_press (va_wsS RX3 41 yX3_requireWithin wsX3_requireWithin) := goodIn_app (goodIn_of _ (by decide +kernel)) ggX3_press_X3_requireWithin
set_option maxRecDepth 20000 in
theorem ggX3_press_X1_melt : GoodIn wsX3_press wsX1_melt := goodIn_r _ [28, 29, 30, 10, 11, 12, 13, 14, 15, 16, 17, 18, 19, 31, 32, 33, 34, 35, 36, 37, 38, 39, 40, 41, 42, 43, 50, 51, 52, 53, 54, 55] (by decide +kernel) (by decide +kernel)
set_option maxRecDepth 20000 in
theorem gX3_press_X1_melt : GoodIn wsX3_press (wsV RX3 65 RX1 yX1_melt wsX1_melt) := goodIn_app (goodIn_of _ (by decide +kernel)) ggX3_press_X1_melt
theorem dX3_press_0 : decode cX3_press 0 = .ok (.aload_n 0, 1) := by decide +kernel
theorem dX3_press_1 : decode cX3_press 1 = .ok (.iload_n 1, 1) := by decide +kernel
theorem dX3_press_2 : decode cX3_press 2 = .ok (.iload_n 2, 1) := by decide +kernel
theorem dX3_press_3 : decode cX3_press 3 = .ok (.invokevirtual 45, 3) := by decide +kernel
theorem dX3_press_6 : decode cX3_press 6 = .ok (.iload_n 3, 1) := by decide +kernel
theorem dX3_press_7 : decode cX3_press 7 = .ok (.iconst 1, 1) := by decide +kernel
theorem dX3_press_8 : decode cX3_press 8 = .ok (.bipush 9, 2) := by decide +kernel
theorem dX3_press_10 : decode cX3_press 10 = .ok (.invokestatic 41, 3) := by decide +kernel
theorem dX3_press_13 : decode cX3_press 13 = .ok (.aload_n 0, 1) := by decide +kernel
theorem dX3_press_14 : decode cX3_press 14 = .ok (.getfield 10, 3) := by decide +kernel
theorem dX3_press_17 : decode cX3_press 17 = .ok (.iload_n 1, 1) := by decide +kernel
theorem dX3_press_18 : decode cX3_press 18 = .ok (.iload_n 2, 1) := by decide +kernel
theorem dX3_press_19 : decode cX3_press 19 = .ok (.iload_n 3, 1) := by decide +kernel
theorem dX3_press_20 : decode cX3_press 20 = .ok (.invokevirtual 65, 3) := by decide +kernel
theorem dX3_press_23 : decode cX3_press 23 = .ok (.aload_n 0, 1) := by decide +kernel
theorem dX3_press_24 : decode cX3_press 24 = .ok (.getfield 10, 3) := by decide +kernel
theorem dX3_press_27 : decode cX3_press 27 = .ok (.iload_n 1, 1) := by decide +kernel
theorem dX3_press_28 : decode cX3_press 28 = .ok (.iconst 1, 1) := by decide +kernel
theorem dX3_press_29 : decode cX3_press 29 = .ok (.isub, 1) := by decide +kernel
theorem dX3_press_30 : decode cX3_press 30 = .ok (.iload_n 2, 1) := by decide +kernel
theorem dX3_press_31 : decode cX3_press 31 = .ok (.iload_n 3, 1) := by decide +kernel
theorem dX3_press_32 : decode cX3_press 32 = .ok (.invokevirtual 65, 3) := by decide +kernel
theorem dX3_press_35 : decode cX3_press 35 = .ok (.iadd, 1) := by decide +kernel
theorem dX3_press_36 : decode cX3_press 36 = .ok (.aload_n 0, 1) := by decide +kernel
theorem dX3_press_37 : decode cX3_press 37 = .ok (.getfield 10, 3) := by decide +kernel
theorem dX3_press_40 : decode cX3_press 40 = .ok (.iload_n 1, 1) := by decide +kernel
theorem dX3_press_41 : decode cX3_press 41 = .ok (.iconst 1, 1) := by decide +kernel
theorem dX3_press_42 : decode cX3_press 42 = .ok (.iadd, 1) := by decide +kernel
theorem dX3_press_43 : decode cX3_press 43 = .ok (.iload_n 2, 1) := by decide +kernel
theorem dX3_press_44 : decode cX3_press 44 = .ok (.iload_n 3, 1) := by decide +kernel
theorem dX3_press_45 : decode cX3_press 45 = .ok (.invokevirtual 65, 3) := by decide +kernel
theorem dX3_press_48 : decode cX3_press 48 = .ok (.iadd, 1) := by decide +kernel
theorem dX3_press_49 : decode cX3_press 49 = .ok (.aload_n 0, 1) := by decide +kernel
theorem dX3_press_50 : decode cX3_press 50 = .ok (.getfield 10, 3) := by decide +kernel
theorem dX3_press_53 : decode cX3_press 53 = .ok (.iload_n 1, 1) := by decide +kernel
theorem dX3_press_54 : decode cX3_press 54 = .ok (.iload_n 2, 1) := by decide +kernel
theorem dX3_press_55 : decode cX3_press 55 = .ok (.iconst 1, 1) := by decide +kernel
theorem dX3_press_56 : decode cX3_press 56 = .ok (.isub, 1) := by decide +kernel
theorem dX3_press_57 : decode cX3_press 57 = .ok (.iload_n 3, 1) := by decide +kernel
theorem dX3_press_58 : decode cX3_press 58 = .ok (.invokevirtual 65, 3) := by decide +kernel
theorem dX3_press_61 : decode cX3_press 61 = .ok (.iadd, 1) := by decide +kernel
theorem dX3_press_62 : decode cX3_press 62 = .ok (.aload_n 0, 1) := by decide +kernel
theorem dX3_press_63 : decode cX3_press 63 = .ok (.getfield 10, 3) := by decide +kernel
theorem dX3_press_66 : decode cX3_press 66 = .ok (.iload_n 1, 1) := by decide +kernel
theorem dX3_press_67 : decode cX3_press 67 = .ok (.iload_n 2, 1) := by decide +kernel
theorem dX3_press_68 : decode cX3_press 68 = .ok (.iconst 1, 1) := by decide +kernel
theorem dX3_press_69 : decode cX3_press 69 = .ok (.iadd, 1) := by decide +kernel
theorem dX3_press_70 : decode cX3_press 70 = .ok (.iload_n 3, 1) := by decide +kernel
theorem dX3_press_71 : decode cX3_press 71 = .ok (.invokevirtual 65, 3) := by decide +kernel
theorem dX3_press_74 : decode cX3_press 74 = .ok (.iadd, 1) := by decide +kernel
theorem dX3_press_75 : decode cX3_press 75 = .ok (.ireturn, 1) := by decide +kernel
set_option maxRecDepth 20000 in
theorem ggX3_setFrame_X3_requireWithin : GoodIn wsX3_setFrame wsX3_requireWithin := goodIn_ca (goodIn_r _ [5, 6, 7] (by decide +kernel) (by decide +kernel)) (goodIn_sub (fun _ h => List.mem_cons_of_mem _ (List.mem_append_right _ h)) (by decide +kernel))
set_option maxRecDepth 20000 in
theorem gX3_setFrame_X3_requireWithin : GoodIn wsX3_setFrame (va_wsS RX3 41 yX3_requireWithin wsX3_requireWithin) := goodIn_app (goodIn_of _ (by decide +kernel)) ggX3_setFrame_X3_requireWithin
theorem dX3_setFrame_0 : decode cX3_setFrame 0 = .ok (.iload_n 1, 1) := by decide +kernel
theorem dX3_setFrame_1 : decode cX3_setFrame 1 = .ok (.iconst 0, 1) := by decide +kernel
theorem dX3_setFrame_2 : decode cX3_setFrame 2 = .ok (.iconst 2, 1) := by decide +kernel
theorem dX3_setFrame_3 : decode cX3_setFrame 3 = .ok (.invokestatic 41, 3) := by decide +kernel
theorem dX3_setFrame_6 : decode cX3_setFrame 6 = .ok (.aload_n 0, 1) := by decide +kernel
theorem dX3_setFrame_7 : decode cX3_setFrame 7 = .ok (.getfield 10, 3) := by decide +kernel
theorem dX3_setFrame_10 : decode cX3_setFrame 10 = .ok (.getfield 69, 3) := by decide +kernel
theorem dX3_setFrame_13 : decode cX3_setFrame 13 = .ok (.istore_n 2, 1) := by decide +kernel
theorem dX3_setFrame_14 : decode cX3_setFrame 14 = .ok (.aload_n 0, 1) := by decide +kernel
theorem dX3_setFrame_15 : decode cX3_setFrame 15 = .ok (.getfield 10, 3) := by decide +kernel
theorem dX3_setFrame_18 : decode cX3_setFrame 18 = .ok (.iload_n 1, 1) := by decide +kernel
theorem dX3_setFrame_19 : decode cX3_setFrame 19 = .ok (.putfield 69, 3) := by decide +kernel
theorem dX3_setFrame_22 : decode cX3_setFrame 22 = .ok (.iload_n 2, 1) := by decide +kernel
theorem dX3_setFrame_23 : decode cX3_setFrame 23 = .ok (.ireturn, 1) := by decide +kernel
set_option maxRecDepth 20000 in
theorem ggX3_addRule_X3_requireWithin : GoodIn wsX3_addRule wsX3_requireWithin := goodIn_ca (goodIn_r _ [7, 8, 9] (by decide +kernel) (by decide +kernel)) (goodIn_sub (fun _ h => List.mem_cons_of_mem _ (List.mem_append_right _ h)) (by decide +kernel))
set_option maxRecDepth 20000 in
theorem gX3_addRule_X3_requireWithin : GoodIn wsX3_addRule (va_wsS RX3 41 yX3_requireWithin wsX3_requireWithin) := goodIn_app (goodIn_of _ (by decide +kernel)) ggX3_addRule_X3_requireWithin
set_option maxRecDepth 20000 in
theorem ggX3_addRule_X2_isFull : GoodIn wsX3_addRule wsX2_isFull := goodIn_r _ [14, 15, 28, 29, 30] (by decide +kernel) (by decide +kernel)
set_option maxRecDepth 20000 in
theorem gX3_addRule_X2_isFull : GoodIn wsX3_addRule (wsV RX3 73 RX2 yX2_isFull wsX2_isFull) := goodIn_app (goodIn_of _ (by decide +kernel)) ggX3_addRule_X2_isFull
set_option maxRecDepth 20000 in
theorem ggX3_addRule_X2_append : GoodIn wsX3_addRule wsX2_append := goodIn_r _ [19, 15, 20, 21, 28, 29, 30] (by decide +kernel) (by decide +kernel)
set_option maxRecDepth 20000 in
theorem gX3_addRule_X2_append : GoodIn wsX3_addRule (wsV RX3 37 RX2 yX2_append wsX2_append) := goodIn_app (goodIn_of _ (by decide +kernel)) ggX3_addRule_X2_append
theorem dX3_addRule_0 : decode cX3_addRule 0 = .ok (.iload_n 1, 1) := by decide +kernel
theorem dX3_addRule_1 : decode cX3_addRule 1 = .ok (.iconst 0, 1) := by decide +kernel
theorem dX3_addRule_2 : decode cX3_addRule 2 = .ok (.sipush 511, 3) := by decide +kernel
theorem dX3_addRule_5 : decode cX3_addRule 5 = .ok (.invokestatic 41, 3) := by decide +kernel
theorem dX3_addRule_8 : decode cX3_addRule 8 = .ok (.iload_n 2, 1) := by decide +kernel
theorem dX3_addRule_9 : decode cX3_addRule 9 = .ok (.iconst 0, 1) := by decide +kernel
theorem dX3_addRule_10 : decode cX3_addRule 10 = .ok (.sipush 511, 3) := by decide +kernel
theorem dX3_addRule_13 : decode cX3_addRule 13 = .ok (.invokestatic 41, 3) := by decide +kernel
theorem dX3_addRule_16 : decode cX3_addRule 16 = .ok (.aload_n 0, 1) := by decide +kernel
theorem dX3_addRule_17 : decode cX3_addRule 17 = .ok (.getfield 29, 3) := by decide +kernel
theorem dX3_addRule_20 : decode cX3_addRule 20 = .ok (.invokevirtual 73, 3) := by decide +kernel
theorem dX3_addRule_23 : decode cX3_addRule 23 = .ok (.ifCond .eq 13, 3) := by decide +kernel
theorem dX3_addRule_26 : decode cX3_addRule 26 = .ok (.new 51, 3) := by decide +kernel
theorem dX3_addRule_29 : decode cX3_addRule 29 = .ok (.dup, 1) := by decide +kernel
theorem dX3_addRule_30 : decode cX3_addRule 30 = .ok (.ldc 77, 2) := by decide +kernel
theorem dX3_addRule_32 : decode cX3_addRule 32 = .ok (.invokespecial 55, 3) := by decide +kernel
theorem dX3_addRule_35 : decode cX3_addRule 35 = .ok (.athrow, 1) := by decide +kernel
theorem dX3_addRule_36 : decode cX3_addRule 36 = .ok (.aload_n 0, 1) := by decide +kernel
theorem dX3_addRule_37 : decode cX3_addRule 37 = .ok (.getfield 29, 3) := by decide +kernel
theorem dX3_addRule_40 : decode cX3_addRule 40 = .ok (.iload_n 1, 1) := by decide +kernel
theorem dX3_addRule_41 : decode cX3_addRule 41 = .ok (.iload_n 2, 1) := by decide +kernel
theorem dX3_addRule_42 : decode cX3_addRule 42 = .ok (.invokevirtual 37, 3) := by decide +kernel
theorem dX3_addRule_45 : decode cX3_addRule 45 = .ok (.ireturn, 1) := by decide +kernel
set_option maxRecDepth 20000 in
theorem ggX3_breathe_X2_has : GoodIn wsX3_breathe wsX2_has := goodIn_r _ [9, 10, 17, 18, 19] (by decide +kernel) (by decide +kernel)
set_option maxRecDepth 20000 in
theorem gX3_breathe_X2_has : GoodIn wsX3_breathe (wsV RX3 79 RX2 yX2_has wsX2_has) := goodIn_app (goodIn_of _ (by decide +kernel)) ggX3_breathe_X2_has
theorem dX3_breathe_0 : decode cX3_breathe 0 = .ok (.aload_n 0, 1) := by decide +kernel
theorem dX3_breathe_1 : decode cX3_breathe 1 = .ok (.getfield 29, 3) := by decide +kernel
theorem dX3_breathe_4 : decode cX3_breathe 4 = .ok (.iload_n 1, 1) := by decide +kernel
theorem dX3_breathe_5 : decode cX3_breathe 5 = .ok (.invokevirtual 79, 3) := by decide +kernel
theorem dX3_breathe_8 : decode cX3_breathe 8 = .ok (.ifCond .ne 13, 3) := by decide +kernel
theorem dX3_breathe_11 : decode cX3_breathe 11 = .ok (.new 83, 3) := by decide +kernel
theorem dX3_breathe_14 : decode cX3_breathe 14 = .ok (.dup, 1) := by decide +kernel
theorem dX3_breathe_15 : decode cX3_breathe 15 = .ok (.ldc 85, 2) := by decide +kernel
theorem dX3_breathe_17 : decode cX3_breathe 17 = .ok (.invokespecial 87, 3) := by decide +kernel
theorem dX3_breathe_20 : decode cX3_breathe 20 = .ok (.athrow, 1) := by decide +kernel
theorem dX3_breathe_21 : decode cX3_breathe 21 = .ok (.aload_n 0, 1) := by decide +kernel
theorem dX3_breathe_22 : decode cX3_breathe 22 = .ok (.getfield 88, 3) := by decide +kernel
theorem dX3_breathe_25 : decode cX3_breathe 25 = .ok (.istore_n 2, 1) := by decide +kernel
theorem dX3_breathe_26 : decode cX3_breathe 26 = .ok (.aload_n 0, 1) := by decide +kernel
theorem dX3_breathe_27 : decode cX3_breathe 27 = .ok (.iload_n 1, 1) := by decide +kernel
theorem dX3_breathe_28 : decode cX3_breathe 28 = .ok (.putfield 88, 3) := by decide +kernel
theorem dX3_breathe_31 : decode cX3_breathe 31 = .ok (.iload_n 2, 1) := by decide +kernel
theorem dX3_breathe_32 : decode cX3_breathe 32 = .ok (.ireturn, 1) := by decide +kernel
set_option maxRecDepth 20000 in
theorem ggX3_grow_X3_requireWithin : GoodIn wsX3_grow wsX3_requireWithin := goodIn_ca (goodIn_r _ [8, 9, 10] (by decide +kernel) (by decide +kernel)) (goodIn_sub (fun _ h => List.mem_cons_of_mem _ (List.mem_append_right _ h)) (by decide +kernel))
set_option maxRecDepth 20000 in
theorem gX3_grow_X3_requireWithin : GoodIn wsX3_grow (va_wsS RX3 41 yX3_requireWithin wsX3_requireWithin) := goodIn_app (goodIn_of _ (by decide +kernel)) ggX3_grow_X3_requireWithin
set_option maxRecDepth 20000 in
theorem ggX3_grow_X2_freezesBy : GoodIn wsX3_grow wsX2_freezesBy := goodIn_r _ [15, 16, 17, 18, 19, 14, 20, 21, 94, 95, 96] (by decide +kernel) (by decide +kernel)
set_option maxRecDepth 20000 in
theorem gX3_grow_X2_freezesBy : GoodIn wsX3_grow (wsV RX3 91 RX2 yX2_freezesBy wsX2_freezesBy) := goodIn_app (goodIn_of _ (by decide +kernel)) ggX3_grow_X2_freezesBy
set_option maxRecDepth 20000 in
theorem ggX3_grow_X2_staysBy : GoodIn wsX3_grow wsX2_staysBy := goodIn_r _ [25, 26, 17, 18, 19, 14, 20, 21, 94, 95, 96] (by decide +kernel) (by decide +kernel)
set_option maxRecDepth 20000 in
theorem gX3_grow_X2_staysBy : GoodIn wsX3_grow (wsV RX3 95 RX2 yX2_staysBy wsX2_staysBy) := goodIn_app (goodIn_of _ (by decide +kernel)) ggX3_grow_X2_staysBy
set_option maxRecDepth 20000 in
theorem ggX3_grow_X1_step : GoodIn wsX3_grow wsX1_step := goodIn_r _ [31, 32, 33, 34, 35, 36, 30, 37, 38, 39, 40, 41, 42, 43, 44, 45, 46, 47, 48, 49, 50, 51, 52, 53, 54, 55, 56, 57, 58, 59, 60, 61, 62, 63, 64, 65, 66, 67, 68, 69, 70, 71, 72, 73, 74, 75, 76, 77, 78, 79, 80, 81, 82, 83, 97, 98, 99, 100, 101, 102] (by decide +kernel) (by decide +kernel)
set_option maxRecDepth 20000 in
theorem gX3_grow_X1_step : GoodIn wsX3_grow (wsV RX3 98 RX1 yX1_step wsX1_step) := goodIn_app (goodIn_of _ (by decide +kernel)) ggX3_grow_X1_step
set_option maxRecDepth 20000 in
theorem ggX3_grow_X1_countFrost : GoodIn wsX3_grow wsX1_countFrost := goodIn_r _ [87, 32, 48, 49, 50, 30, 51, 52, 64, 65, 66, 67, 68, 69, 70, 97, 98, 99, 100, 101, 102] (by decide +kernel) (by decide +kernel)
set_option maxRecDepth 20000 in
theorem gX3_grow_X1_countFrost : GoodIn wsX3_grow (wsV RX3 104 RX1 yX1_countFrost wsX1_countFrost) := goodIn_app (goodIn_of _ (by decide +kernel)) ggX3_grow_X1_countFrost
theorem dX3_grow_0 : decode cX3_grow 0 = .ok (.iload_n 1, 1) := by decide +kernel
theorem dX3_grow_1 : decode cX3_grow 1 = .ok (.iconst 1, 1) := by decide +kernel
theorem dX3_grow_2 : decode cX3_grow 2 = .ok (.bipush 60, 2) := by decide +kernel
theorem dX3_grow_4 : decode cX3_grow 4 = .ok (.invokestatic 41, 3) := by decide +kernel
theorem dX3_grow_7 : decode cX3_grow 7 = .ok (.iconst 0, 1) := by decide +kernel
theorem dX3_grow_8 : decode cX3_grow 8 = .ok (.istore_n 2, 1) := by decide +kernel
theorem dX3_grow_9 : decode cX3_grow 9 = .ok (.iload_n 2, 1) := by decide +kernel
theorem dX3_grow_10 : decode cX3_grow 10 = .ok (.iload_n 1, 1) := by decide +kernel
theorem dX3_grow_11 : decode cX3_grow 11 = .ok (.if_icmp .ge 39, 3) := by decide +kernel
theorem dX3_grow_14 : decode cX3_grow 14 = .ok (.aload_n 0, 1) := by decide +kernel
theorem dX3_grow_15 : decode cX3_grow 15 = .ok (.getfield 10, 3) := by decide +kernel
theorem dX3_grow_18 : decode cX3_grow 18 = .ok (.aload_n 0, 1) := by decide +kernel
theorem dX3_grow_19 : decode cX3_grow 19 = .ok (.getfield 29, 3) := by decide +kernel
theorem dX3_grow_22 : decode cX3_grow 22 = .ok (.aload_n 0, 1) := by decide +kernel
theorem dX3_grow_23 : decode cX3_grow 23 = .ok (.getfield 88, 3) := by decide +kernel
theorem dX3_grow_26 : decode cX3_grow 26 = .ok (.invokevirtual 91, 3) := by decide +kernel
theorem dX3_grow_29 : decode cX3_grow 29 = .ok (.aload_n 0, 1) := by decide +kernel
theorem dX3_grow_30 : decode cX3_grow 30 = .ok (.getfield 29, 3) := by decide +kernel
theorem dX3_grow_33 : decode cX3_grow 33 = .ok (.aload_n 0, 1) := by decide +kernel
theorem dX3_grow_34 : decode cX3_grow 34 = .ok (.getfield 88, 3) := by decide +kernel
theorem dX3_grow_37 : decode cX3_grow 37 = .ok (.invokevirtual 95, 3) := by decide +kernel
theorem dX3_grow_40 : decode cX3_grow 40 = .ok (.invokevirtual 98, 3) := by decide +kernel
theorem dX3_grow_43 : decode cX3_grow 43 = .ok (.pop, 1) := by decide +kernel
theorem dX3_grow_44 : decode cX3_grow 44 = .ok (.iinc 2 1, 3) := by decide +kernel
theorem dX3_grow_47 : decode cX3_grow 47 = .ok (.goto (-38), 3) := by decide +kernel
theorem dX3_grow_50 : decode cX3_grow 50 = .ok (.aload_n 0, 1) := by decide +kernel
theorem dX3_grow_51 : decode cX3_grow 51 = .ok (.dup, 1) := by decide +kernel
theorem dX3_grow_52 : decode cX3_grow 52 = .ok (.getfield 101, 3) := by decide +kernel
theorem dX3_grow_55 : decode cX3_grow 55 = .ok (.iload_n 1, 1) := by decide +kernel
theorem dX3_grow_56 : decode cX3_grow 56 = .ok (.iadd, 1) := by decide +kernel
theorem dX3_grow_57 : decode cX3_grow 57 = .ok (.putfield 101, 3) := by decide +kernel
theorem dX3_grow_60 : decode cX3_grow 60 = .ok (.aload_n 0, 1) := by decide +kernel
theorem dX3_grow_61 : decode cX3_grow 61 = .ok (.getfield 10, 3) := by decide +kernel
theorem dX3_grow_64 : decode cX3_grow 64 = .ok (.invokevirtual 104, 3) := by decide +kernel
theorem dX3_grow_67 : decode cX3_grow 67 = .ok (.ireturn, 1) := by decide +kernel
theorem dX3_columns_0 : decode cX3_columns 0 = .ok (.aload_n 0, 1) := by decide +kernel
theorem dX3_columns_1 : decode cX3_columns 1 = .ok (.getfield 10, 3) := by decide +kernel
theorem dX3_columns_4 : decode cX3_columns 4 = .ok (.getfield 108, 3) := by decide +kernel
theorem dX3_columns_7 : decode cX3_columns 7 = .ok (.ireturn, 1) := by decide +kernel
theorem dX3_rows_0 : decode cX3_rows 0 = .ok (.aload_n 0, 1) := by decide +kernel
theorem dX3_rows_1 : decode cX3_rows 1 = .ok (.getfield 10, 3) := by decide +kernel
theorem dX3_rows_4 : decode cX3_rows 4 = .ok (.getfield 111, 3) := by decide +kernel
theorem dX3_rows_7 : decode cX3_rows 7 = .ok (.ireturn, 1) := by decide +kernel
theorem dX3_generation_0 : decode cX3_generation 0 = .ok (.aload_n 0, 1) := by decide +kernel
theorem dX3_generation_1 : decode cX3_generation 1 = .ok (.getfield 101, 3) := by decide +kernel
theorem dX3_generation_4 : decode cX3_generation 4 = .ok (.ireturn, 1) := by decide +kernel
theorem dX3_rules_0 : decode cX3_rules 0 = .ok (.aload_n 0, 1) := by decide +kernel
theorem dX3_rules_1 : decode cX3_rules 1 = .ok (.getfield 29, 3) := by decide +kernel
theorem dX3_rules_4 : decode cX3_rules 4 = .ok (.getfield 114, 3) := by decide +kernel
theorem dX3_rules_7 : decode cX3_rules 7 = .ok (.ireturn, 1) := by decide +kernel
theorem dX3_breath_0 : decode cX3_breath 0 = .ok (.aload_n 0, 1) := by decide +kernel
theorem dX3_breath_1 : decode cX3_breath 1 = .ok (.getfield 88, 3) := by decide +kernel
theorem dX3_breath_4 : decode cX3_breath 4 = .ok (.ireturn, 1) := by decide +kernel
set_option maxRecDepth 20000 in
theorem ggX3_frozen_X1_countFrost : GoodIn wsX3_frozen wsX1_countFrost := goodIn_r _ [6, 7, 8, 9, 10, 5, 11, 12, 13, 14, 15, 16, 17, 18, 19, 26, 27, 28, 29, 30, 31] (by decide +kernel) (by decide +kernel)
set_option maxRecDepth 20000 in
theorem gX3_frozen_X1_countFrost : GoodIn wsX3_frozen (wsV RX3 104 RX1 yX1_countFrost wsX1_countFrost) := goodIn_app (goodIn_of _ (by decide +kernel)) ggX3_frozen_X1_countFrost
theorem dX3_frozen_0 : decode cX3_frozen 0 = .ok (.aload_n 0, 1) := by decide +kernel
theorem dX3_frozen_1 : decode cX3_frozen 1 = .ok (.getfield 10, 3) := by decide +kernel
theorem dX3_frozen_4 : decode cX3_frozen 4 = .ok (.invokevirtual 104, 3) := by decide +kernel
theorem dX3_frozen_7 : decode cX3_frozen 7 = .ok (.ireturn, 1) := by decide +kernel
set_option maxRecDepth 20000 in
theorem ggX3_melted_X1_countMelted : GoodIn wsX3_melted wsX1_countMelted := goodIn_r _ [6, 7, 14, 15, 16, 17, 18, 19] (by decide +kernel) (by decide +kernel)
set_option maxRecDepth 20000 in
theorem gX3_melted_X1_countMelted : GoodIn wsX3_melted (wsV RX3 117 RX1 yX1_countMelted wsX1_countMelted) := goodIn_app (goodIn_of _ (by decide +kernel)) ggX3_melted_X1_countMelted
theorem dX3_melted_0 : decode cX3_melted 0 = .ok (.aload_n 0, 1) := by decide +kernel
theorem dX3_melted_1 : decode cX3_melted 1 = .ok (.getfield 10, 3) := by decide +kernel
theorem dX3_melted_4 : decode cX3_melted 4 = .ok (.invokevirtual 117, 3) := by decide +kernel
theorem dX3_melted_7 : decode cX3_melted 7 = .ok (.ireturn, 1) := by decide +kernel
set_option maxRecDepth 20000 in
theorem ggX3_isFrozen_X3_requireCell : GoodIn wsX3_isFrozen wsX3_requireCell := goodIn_ca (goodIn_r _ [6, 7, 8, 1, 9, 10, 11, 12, 13, 14, 15, 16, 17, 18, 19, 29, 30, 31, 32, 33, 34, 35, 36, 37, 38, 39, 40] (by decide +kernel) (by decide +kernel)) (goodIn_sub (fun _ h => List.mem_cons_of_mem _ (List.mem_append_right _ h)) (by decide +kernel))
set_option maxRecDepth 20000 in
theorem gX3_isFrozen_X3_requireCell : GoodIn wsX3_isFrozen (wsV RX3 45 RX3 yX3_requireCell wsX3_requireCell) := goodIn_app (goodIn_of _ (by decide +kernel)) ggX3_isFrozen_X3_requireCell
set_option maxRecDepth 20000 in
theorem ggX3_isFrozen_X1_hasFrost : GoodIn wsX3_isFrozen wsX1_hasFrost := goodIn_r _ [23, 24, 25, 26, 12, 27, 28, 35, 36, 37, 38, 39, 40] (by decide +kernel) (by decide +kernel)
set_option maxRecDepth 20000 in
theorem gX3_isFrozen_X1_hasFrost : GoodIn wsX3_isFrozen (wsV RX3 61 RX1 yX1_hasFrost wsX1_hasFrost) := goodIn_app (goodIn_of _ (by decide +kernel)) ggX3_isFrozen_X1_hasFrost
theorem dX3_isFrozen_0 : decode cX3_isFrozen 0 = .ok (.aload_n 0, 1) := by decide +kernel
theorem dX3_isFrozen_1 : decode cX3_isFrozen 1 = .ok (.iload_n 1, 1) := by decide +kernel
theorem dX3_isFrozen_2 : decode cX3_isFrozen 2 = .ok (.iload_n 2, 1) := by decide +kernel
theorem dX3_isFrozen_3 : decode cX3_isFrozen 3 = .ok (.invokevirtual 45, 3) := by decide +kernel
theorem dX3_isFrozen_6 : decode cX3_isFrozen 6 = .ok (.aload_n 0, 1) := by decide +kernel
theorem dX3_isFrozen_7 : decode cX3_isFrozen 7 = .ok (.getfield 10, 3) := by decide +kernel
theorem dX3_isFrozen_10 : decode cX3_isFrozen 10 = .ok (.iload_n 1, 1) := by decide +kernel
theorem dX3_isFrozen_11 : decode cX3_isFrozen 11 = .ok (.iload_n 2, 1) := by decide +kernel
theorem dX3_isFrozen_12 : decode cX3_isFrozen 12 = .ok (.invokevirtual 61, 3) := by decide +kernel
theorem dX3_isFrozen_15 : decode cX3_isFrozen 15 = .ok (.ireturn, 1) := by decide +kernel
set_option maxRecDepth 20000 in
theorem ggX3_meltedFor_X3_requireCell : GoodIn wsX3_meltedFor wsX3_requireCell := goodIn_ca (goodIn_r _ [6, 7, 8, 1, 9, 10, 11, 12, 13, 14, 15, 16, 17, 18, 19, 25, 26, 27, 28, 29, 30, 31, 32, 33, 34, 35, 36] (by decide +kernel) (by decide +kernel)) (goodIn_sub (fun _ h => List.mem_cons_of_mem _ (List.mem_append_right _ h)) (by decide +kernel))
set_option maxRecDepth 20000 in
theorem gX3_meltedFor_X3_requireCell : GoodIn wsX3_meltedFor (wsV RX3 45 RX3 yX3_requireCell wsX3_requireCell) := goodIn_app (goodIn_of _ (by decide +kernel)) ggX3_meltedFor_X3_requireCell
set_option maxRecDepth 20000 in
theorem ggX3_meltedFor_X1_meltOf : GoodIn wsX3_meltedFor wsX1_meltOf := goodIn_r _ [23, 24, 31, 32, 33, 34, 35, 36] (by decide +kernel) (by decide +kernel)
set_option maxRecDepth 20000 in
theorem gX3_meltedFor_X1_meltOf : GoodIn wsX3_meltedFor (wsV RX3 48 RX1 yX1_meltOf wsX1_meltOf) := goodIn_app (goodIn_of _ (by decide +kernel)) ggX3_meltedFor_X1_meltOf
theorem dX3_meltedFor_0 : decode cX3_meltedFor 0 = .ok (.aload_n 0, 1) := by decide +kernel
theorem dX3_meltedFor_1 : decode cX3_meltedFor 1 = .ok (.iload_n 1, 1) := by decide +kernel
theorem dX3_meltedFor_2 : decode cX3_meltedFor 2 = .ok (.iload_n 2, 1) := by decide +kernel
theorem dX3_meltedFor_3 : decode cX3_meltedFor 3 = .ok (.invokevirtual 45, 3) := by decide +kernel
theorem dX3_meltedFor_6 : decode cX3_meltedFor 6 = .ok (.aload_n 0, 1) := by decide +kernel
theorem dX3_meltedFor_7 : decode cX3_meltedFor 7 = .ok (.getfield 10, 3) := by decide +kernel
theorem dX3_meltedFor_10 : decode cX3_meltedFor 10 = .ok (.iload_n 1, 1) := by decide +kernel
theorem dX3_meltedFor_11 : decode cX3_meltedFor 11 = .ok (.iload_n 2, 1) := by decide +kernel
theorem dX3_meltedFor_12 : decode cX3_meltedFor 12 = .ok (.invokevirtual 48, 3) := by decide +kernel
theorem dX3_meltedFor_15 : decode cX3_meltedFor 15 = .ok (.ireturn, 1) := by decide +kernel
set_option maxRecDepth 20000 in
theorem ggX3_around_X3_requireCell : GoodIn wsX3_around wsX3_requireCell := goodIn_ca (goodIn_r _ [6, 7, 8, 1, 9, 10, 11, 12, 13, 14, 15, 16, 17, 18, 19, 48, 49, 50, 51, 52, 53, 54, 55, 56, 57, 58, 59] (by decide +kernel) (by decide +kernel)) (goodIn_sub (fun _ h => List.mem_cons_of_mem _ (List.mem_append_right _ h)) (by decide +kernel))
set_option maxRecDepth 20000 in
theorem gX3_around_X3_requireCell : GoodIn wsX3_around (wsV RX3 45 RX3 yX3_requireCell wsX3_requireCell) := goodIn_app (goodIn_of _ (by decide +kernel)) ggX3_around_X3_requireCell
set_option maxRecDepth 20000 in
theorem ggX3_around_X1_countAround : GoodIn wsX3_around wsX1_countAround := goodIn_r _ [23, 24, 25, 26, 12, 27, 28, 19, 15, 16, 17, 18, 29, 30, 31, 32, 33, 34, 35, 36, 37, 14, 38, 39, 40, 41, 42, 43, 44, 45, 46, 47, 54, 55, 56, 57, 58, 59] (by decide +kernel) (by decide +kernel)
set_option maxRecDepth 20000 in
theorem gX3_around_X1_countAround : GoodIn wsX3_around (wsV RX3 120 RX1 yX1_countAround wsX1_countAround) := goodIn_app (goodIn_of _ (by decide +kernel)) ggX3_around_X1_countAround
theorem dX3_around_0 : decode cX3_around 0 = .ok (.aload_n 0, 1) := by decide +kernel
theorem dX3_around_1 : decode cX3_around 1 = .ok (.iload_n 1, 1) := by decide +kernel
theorem dX3_around_2 : decode cX3_around 2 = .ok (.iload_n 2, 1) := by decide +kernel
theorem dX3_around_3 : decode cX3_around 3 = .ok (.invokevirtual 45, 3) := by decide +kernel
theorem dX3_around_6 : decode cX3_around 6 = .ok (.aload_n 0, 1) := by decide +kernel
theorem dX3_around_7 : decode cX3_around 7 = .ok (.getfield 10, 3) := by decide +kernel
theorem dX3_around_10 : decode cX3_around 10 = .ok (.iload_n 1, 1) := by decide +kernel
theorem dX3_around_11 : decode cX3_around 11 = .ok (.iload_n 2, 1) := by decide +kernel
theorem dX3_around_12 : decode cX3_around 12 = .ok (.invokevirtual 120, 3) := by decide +kernel
theorem dX3_around_15 : decode cX3_around 15 = .ok (.ireturn, 1) := by decide +kernel
set_option maxRecDepth 20000 in
theorem ggX3_willFreeze_X3_requireCell : GoodIn wsX3_willFreeze wsX3_requireCell := goodIn_ca (goodIn_r _ [8, 9, 10, 1, 11, 12, 13, 14, 15, 16, 17, 18, 19, 20, 21, 79, 80, 81, 82, 83, 84, 85, 86, 87, 88, 89, 90] (by decide +kernel) (by decide +kernel)) (goodIn_sub (fun _ h => List.mem_cons_of_mem _ (List.mem_append_right _ h)) (by decide +kernel))
set_option maxRecDepth 20000 in
theorem gX3_willFreeze_X3_requireCell : GoodIn wsX3_willFreeze (wsV RX3 45 RX3 yX3_requireCell wsX3_requireCell) := goodIn_app (goodIn_of _ (by decide +kernel)) ggX3_willFreeze_X3_requireCell
set_option maxRecDepth 20000 in
theorem ggX3_willFreeze_X2_freezesBy : GoodIn wsX3_willFreeze wsX2_freezesBy := goodIn_r _ [26, 27, 28, 29, 30, 25, 31, 32, 91, 92, 93] (by decide +kernel) (by decide +kernel)
set_option maxRecDepth 20000 in
theorem gX3_willFreeze_X2_freezesBy : GoodIn wsX3_willFreeze (wsV RX3 91 RX2 yX2_freezesBy wsX2_freezesBy) := goodIn_app (goodIn_of _ (by decide +kernel)) ggX3_willFreeze_X2_freezesBy
set_option maxRecDepth 20000 in
theorem ggX3_willFreeze_X2_staysBy : GoodIn wsX3_willFreeze wsX2_staysBy := goodIn_r _ [36, 37, 28, 29, 30, 25, 31, 32, 91, 92, 93] (by decide +kernel) (by decide +kernel)
set_option maxRecDepth 20000 in
theorem gX3_willFreeze_X2_staysBy : GoodIn wsX3_willFreeze (wsV RX3 95 RX2 yX2_staysBy wsX2_staysBy) := goodIn_app (goodIn_of _ (by decide +kernel)) ggX3_willFreeze_X2_staysBy
set_option maxRecDepth 20000 in
theorem ggX3_willFreeze_X1_isFrozenNext : GoodIn wsX3_willFreeze wsX1_isFrozenNext := goodIn_r _ [41, 42, 43, 44, 14, 45, 16, 46, 47, 48, 49, 50, 21, 17, 18, 19, 20, 51, 52, 53, 54, 55, 56, 57, 58, 59, 60, 61, 62, 63, 64, 65, 66, 67, 68, 69, 70, 71, 72, 73, 74, 75, 76, 77, 78, 85, 86, 87, 88, 89, 90] (by decide +kernel) (by decide +kernel)
set_option maxRecDepth 20000 in
theorem gX3_willFreeze_X1_isFrozenNext : GoodIn wsX3_willFreeze (wsV RX3 123 RX1 yX1_isFrozenNext wsX1_isFrozenNext) := goodIn_app (goodIn_of _ (by decide +kernel)) ggX3_willFreeze_X1_isFrozenNext
theorem dX3_willFreeze_0 : decode cX3_willFreeze 0 = .ok (.aload_n 0, 1) := by decide +kernel
theorem dX3_willFreeze_1 : decode cX3_willFreeze 1 = .ok (.iload_n 1, 1) := by decide +kernel
theorem dX3_willFreeze_2 : decode cX3_willFreeze 2 = .ok (.iload_n 2, 1) := by decide +kernel
theorem dX3_willFreeze_3 : decode cX3_willFreeze 3 = .ok (.invokevirtual 45, 3) := by decide +kernel
theorem dX3_willFreeze_6 : decode cX3_willFreeze 6 = .ok (.aload_n 0, 1) := by decide +kernel
theorem dX3_willFreeze_7 : decode cX3_willFreeze 7 = .ok (.getfield 10, 3) := by decide +kernel
theorem dX3_willFreeze_10 : decode cX3_willFreeze 10 = .ok (.iload_n 1, 1) := by decide +kernel
theorem dX3_willFreeze_11 : decode cX3_willFreeze 11 = .ok (.iload_n 2, 1) := by decide +kernel
theorem dX3_willFreeze_12 : decode cX3_willFreeze 12 = .ok (.aload_n 0, 1) := by decide +kernel
theorem dX3_willFreeze_13 : decode cX3_willFreeze 13 = .ok (.getfield 29, 3) := by decide +kernel
theorem dX3_willFreeze_16 : decode cX3_willFreeze 16 = .ok (.aload_n 0, 1) := by decide +kernel
theorem dX3_willFreeze_17 : decode cX3_willFreeze 17 = .ok (.getfield 88, 3) := by decide +kernel
theorem dX3_willFreeze_20 : decode cX3_willFreeze 20 = .ok (.invokevirtual 91, 3) := by decide +kernel
theorem dX3_willFreeze_23 : decode cX3_willFreeze 23 = .ok (.aload_n 0, 1) := by decide +kernel
theorem dX3_willFreeze_24 : decode cX3_willFreeze 24 = .ok (.getfield 29, 3) := by decide +kernel
theorem dX3_willFreeze_27 : decode cX3_willFreeze 27 = .ok (.aload_n 0, 1) := by decide +kernel
theorem dX3_willFreeze_28 : decode cX3_willFreeze 28 = .ok (.getfield 88, 3) := by decide +kernel
theorem dX3_willFreeze_31 : decode cX3_willFreeze 31 = .ok (.invokevirtual 95, 3) := by decide +kernel
theorem dX3_willFreeze_34 : decode cX3_willFreeze 34 = .ok (.invokevirtual 123, 3) := by decide +kernel
theorem dX3_willFreeze_37 : decode cX3_willFreeze 37 = .ok (.ireturn, 1) := by decide +kernel
set_option maxRecDepth 20000 in
theorem ggX3_frozenInRow_X1_hasRow : GoodIn wsX3_frozenInRow wsX1_hasRow := goodIn_r _ [8, 9, 28, 29, 30, 31, 32, 33] (by decide +kernel) (by decide +kernel)
set_option maxRecDepth 20000 in
theorem gX3_frozenInRow_X1_hasRow : GoodIn wsX3_frozenInRow (wsV RX3 127 RX1 yX1_hasRow wsX1_hasRow) := goodIn_app (goodIn_of _ (by decide +kernel)) ggX3_frozenInRow_X1_hasRow
set_option maxRecDepth 20000 in
theorem ggX3_frozenInRow_X1_bitsOf : GoodIn wsX3_frozenInRow wsX1_bitsOf := goodIn_r _ [13, 14, 28, 29, 30, 31, 32, 33] (by decide +kernel) (by decide +kernel)
set_option maxRecDepth 20000 in
theorem gX3_frozenInRow_X1_bitsOf : GoodIn wsX3_frozenInRow (wsV RX3 132 RX1 yX1_bitsOf wsX1_bitsOf) := goodIn_app (goodIn_of _ (by decide +kernel)) ggX3_frozenInRow_X1_bitsOf
set_option maxRecDepth 20000 in
theorem ggX3_frozenInRow_J6_bitCount_0f7a4 : GoodIn wsX3_frozenInRow wsJ6_bitCount_0f7a4 := goodIn_r _ [18, 19, 20, 21] (by decide +kernel) (by decide +kernel)
set_option maxRecDepth 20000 in
theorem gX3_frozenInRow_J6_bitCount_0f7a4 : GoodIn wsX3_frozenInRow (va_wsS RX3 135 yJ6_bitCount_0f7a4 wsJ6_bitCount_0f7a4) := goodIn_app (goodIn_of _ (by decide +kernel)) ggX3_frozenInRow_J6_bitCount_0f7a4
theorem dX3_frozenInRow_0 : decode cX3_frozenInRow 0 = .ok (.aload_n 0, 1) := by decide +kernel
theorem dX3_frozenInRow_1 : decode cX3_frozenInRow 1 = .ok (.getfield 10, 3) := by decide +kernel
theorem dX3_frozenInRow_4 : decode cX3_frozenInRow 4 = .ok (.iload_n 1, 1) := by decide +kernel
theorem dX3_frozenInRow_5 : decode cX3_frozenInRow 5 = .ok (.invokevirtual 127, 3) := by decide +kernel
theorem dX3_frozenInRow_8 : decode cX3_frozenInRow 8 = .ok (.ifCond .ne 13, 3) := by decide +kernel
theorem dX3_frozenInRow_11 : decode cX3_frozenInRow 11 = .ok (.new 83, 3) := by decide +kernel
theorem dX3_frozenInRow_14 : decode cX3_frozenInRow 14 = .ok (.dup, 1) := by decide +kernel
theorem dX3_frozenInRow_15 : decode cX3_frozenInRow 15 = .ok (.ldc 130, 2) := by decide +kernel
theorem dX3_frozenInRow_17 : decode cX3_frozenInRow 17 = .ok (.invokespecial 87, 3) := by decide +kernel
theorem dX3_frozenInRow_20 : decode cX3_frozenInRow 20 = .ok (.athrow, 1) := by decide +kernel
theorem dX3_frozenInRow_21 : decode cX3_frozenInRow 21 = .ok (.aload_n 0, 1) := by decide +kernel
theorem dX3_frozenInRow_22 : decode cX3_frozenInRow 22 = .ok (.getfield 10, 3) := by decide +kernel
theorem dX3_frozenInRow_25 : decode cX3_frozenInRow 25 = .ok (.iload_n 1, 1) := by decide +kernel
theorem dX3_frozenInRow_26 : decode cX3_frozenInRow 26 = .ok (.invokevirtual 132, 3) := by decide +kernel
theorem dX3_frozenInRow_29 : decode cX3_frozenInRow 29 = .ok (.invokestatic 135, 3) := by decide +kernel
theorem dX3_frozenInRow_32 : decode cX3_frozenInRow 32 = .ok (.ireturn, 1) := by decide +kernel
set_option maxRecDepth 20000 in
theorem ggX3_flowers_X0_spreadOut : GoodIn wsX3_flowers wsX0_spreadOut := goodIn_r _ [7, 8, 9, 10, 11, 12, 13, 14, 55, 56, 49, 50, 51, 52, 53, 54] (by decide +kernel) (by decide +kernel)
set_option maxRecDepth 20000 in
theorem gX3_flowers_X0_spreadOut : GoodIn wsX3_flowers (wsV RX3 140 RX0 yX0_spreadOut wsX0_spreadOut) := goodIn_app (goodIn_of _ (by decide +kernel)) ggX3_flowers_X0_spreadOut
set_option maxRecDepth 20000 in
theorem ggX3_flowers_X0_pick : GoodIn wsX3_flowers wsX0_pick := goodIn_r _ [18, 8, 19, 20, 21, 22, 23, 24, 25, 26, 6, 27, 28, 29, 30, 31, 32, 33, 34, 35, 36, 37, 38, 39, 40, 41, 42, 55, 56] (by decide +kernel) (by decide +kernel)
set_option maxRecDepth 20000 in
theorem gX3_flowers_X0_pick : GoodIn wsX3_flowers (wsV RX3 144 RX0 yX0_pick wsX0_pick) := goodIn_app (goodIn_of _ (by decide +kernel)) ggX3_flowers_X0_pick
theorem dX3_flowers_0 : decode cX3_flowers 0 = .ok (.aload_n 0, 1) := by decide +kernel
theorem dX3_flowers_1 : decode cX3_flowers 1 = .ok (.getfield 22, 3) := by decide +kernel
theorem dX3_flowers_4 : decode cX3_flowers 4 = .ok (.aload_n 0, 1) := by decide +kernel
theorem dX3_flowers_5 : decode cX3_flowers 5 = .ok (.getfield 10, 3) := by decide +kernel
theorem dX3_flowers_8 : decode cX3_flowers 8 = .ok (.invokevirtual 140, 3) := by decide +kernel
theorem dX3_flowers_11 : decode cX3_flowers 11 = .ok (.iconst 0, 1) := by decide +kernel
theorem dX3_flowers_12 : decode cX3_flowers 12 = .ok (.istore_n 1, 1) := by decide +kernel
theorem dX3_flowers_13 : decode cX3_flowers 13 = .ok (.iconst 0, 1) := by decide +kernel
theorem dX3_flowers_14 : decode cX3_flowers 14 = .ok (.istore_n 2, 1) := by decide +kernel
theorem dX3_flowers_15 : decode cX3_flowers 15 = .ok (.iload_n 2, 1) := by decide +kernel
theorem dX3_flowers_16 : decode cX3_flowers 16 = .ok (.aload_n 0, 1) := by decide +kernel
theorem dX3_flowers_17 : decode cX3_flowers 17 = .ok (.getfield 10, 3) := by decide +kernel
theorem dX3_flowers_20 : decode cX3_flowers 20 = .ok (.getfield 111, 3) := by decide +kernel
theorem dX3_flowers_23 : decode cX3_flowers 23 = .ok (.if_icmp .ge 43, 3) := by decide +kernel
theorem dX3_flowers_26 : decode cX3_flowers 26 = .ok (.iconst 0, 1) := by decide +kernel
theorem dX3_flowers_27 : decode cX3_flowers 27 = .ok (.istore_n 3, 1) := by decide +kernel
theorem dX3_flowers_28 : decode cX3_flowers 28 = .ok (.iload_n 3, 1) := by decide +kernel
theorem dX3_flowers_29 : decode cX3_flowers 29 = .ok (.aload_n 0, 1) := by decide +kernel
theorem dX3_flowers_30 : decode cX3_flowers 30 = .ok (.getfield 10, 3) := by decide +kernel
theorem dX3_flowers_33 : decode cX3_flowers 33 = .ok (.getfield 108, 3) := by decide +kernel
theorem dX3_flowers_36 : decode cX3_flowers 36 = .ok (.if_icmp .ge 24, 3) := by decide +kernel
theorem dX3_flowers_39 : decode cX3_flowers 39 = .ok (.aload_n 0, 1) := by decide +kernel
theorem dX3_flowers_40 : decode cX3_flowers 40 = .ok (.getfield 22, 3) := by decide +kernel
theorem dX3_flowers_43 : decode cX3_flowers 43 = .ok (.iload_n 3, 1) := by decide +kernel
theorem dX3_flowers_44 : decode cX3_flowers 44 = .ok (.iload_n 2, 1) := by decide +kernel
theorem dX3_flowers_45 : decode cX3_flowers 45 = .ok (.invokevirtual 144, 3) := by decide +kernel
theorem dX3_flowers_48 : decode cX3_flowers 48 = .ok (.ifCond .le 6, 3) := by decide +kernel
theorem dX3_flowers_51 : decode cX3_flowers 51 = .ok (.iinc 1 1, 3) := by decide +kernel
theorem dX3_flowers_54 : decode cX3_flowers 54 = .ok (.iinc 3 1, 3) := by decide +kernel
theorem dX3_flowers_57 : decode cX3_flowers 57 = .ok (.goto (-29), 3) := by decide +kernel
theorem dX3_flowers_60 : decode cX3_flowers 60 = .ok (.iinc 2 1, 3) := by decide +kernel
theorem dX3_flowers_63 : decode cX3_flowers 63 = .ok (.goto (-48), 3) := by decide +kernel
theorem dX3_flowers_66 : decode cX3_flowers 66 = .ok (.iload_n 1, 1) := by decide +kernel
theorem dX3_flowers_67 : decode cX3_flowers 67 = .ok (.ireturn, 1) := by decide +kernel
set_option maxRecDepth 20000 in
theorem ggX3_largestFlower_X0_spreadOut : GoodIn wsX3_largestFlower wsX0_spreadOut := goodIn_r _ [11, 12, 13, 14, 15, 16, 17, 18, 59, 60, 53, 54, 55, 56, 57, 58] (by decide +kernel) (by decide +kernel)
set_option maxRecDepth 20000 in
theorem gX3_largestFlower_X0_spreadOut : GoodIn wsX3_largestFlower (wsV RX3 140 RX0 yX0_spreadOut wsX0_spreadOut) := goodIn_app (goodIn_of _ (by decide +kernel)) ggX3_largestFlower_X0_spreadOut
set_option maxRecDepth 20000 in
theorem ggX3_largestFlower_X0_pick : GoodIn wsX3_largestFlower wsX0_pick := goodIn_r _ [22, 12, 23, 24, 25, 26, 27, 28, 29, 30, 10, 31, 32, 33, 34, 35, 36, 37, 38, 39, 40, 41, 42, 43, 44, 45, 46, 59, 60] (by decide +kernel) (by decide +kernel)
set_option maxRecDepth 20000 in
theorem gX3_largestFlower_X0_pick : GoodIn wsX3_largestFlower (wsV RX3 144 RX0 yX0_pick wsX0_pick) := goodIn_app (goodIn_of _ (by decide +kernel)) ggX3_largestFlower_X0_pick
theorem dX3_largestFlower_0 : decode cX3_largestFlower 0 = .ok (.aload_n 0, 1) := by decide +kernel
theorem dX3_largestFlower_1 : decode cX3_largestFlower 1 = .ok (.getfield 22, 3) := by decide +kernel
theorem dX3_largestFlower_4 : decode cX3_largestFlower 4 = .ok (.aload_n 0, 1) := by decide +kernel
theorem dX3_largestFlower_5 : decode cX3_largestFlower 5 = .ok (.getfield 10, 3) := by decide +kernel
theorem dX3_largestFlower_8 : decode cX3_largestFlower 8 = .ok (.invokevirtual 140, 3) := by decide +kernel
theorem dX3_largestFlower_11 : decode cX3_largestFlower 11 = .ok (.iconst 0, 1) := by decide +kernel
theorem dX3_largestFlower_12 : decode cX3_largestFlower 12 = .ok (.istore_n 1, 1) := by decide +kernel
theorem dX3_largestFlower_13 : decode cX3_largestFlower 13 = .ok (.iconst 0, 1) := by decide +kernel
theorem dX3_largestFlower_14 : decode cX3_largestFlower 14 = .ok (.istore_n 2, 1) := by decide +kernel
theorem dX3_largestFlower_15 : decode cX3_largestFlower 15 = .ok (.iload_n 2, 1) := by decide +kernel
theorem dX3_largestFlower_16 : decode cX3_largestFlower 16 = .ok (.aload_n 0, 1) := by decide +kernel
theorem dX3_largestFlower_17 : decode cX3_largestFlower 17 = .ok (.getfield 10, 3) := by decide +kernel
theorem dX3_largestFlower_20 : decode cX3_largestFlower 20 = .ok (.getfield 111, 3) := by decide +kernel
theorem dX3_largestFlower_23 : decode cX3_largestFlower 23 = .ok (.if_icmp .ge 42, 3) := by decide +kernel
theorem dX3_largestFlower_26 : decode cX3_largestFlower 26 = .ok (.iconst 0, 1) := by decide +kernel
theorem dX3_largestFlower_27 : decode cX3_largestFlower 27 = .ok (.istore_n 3, 1) := by decide +kernel
theorem dX3_largestFlower_28 : decode cX3_largestFlower 28 = .ok (.iload_n 3, 1) := by decide +kernel
theorem dX3_largestFlower_29 : decode cX3_largestFlower 29 = .ok (.aload_n 0, 1) := by decide +kernel
theorem dX3_largestFlower_30 : decode cX3_largestFlower 30 = .ok (.getfield 10, 3) := by decide +kernel
theorem dX3_largestFlower_33 : decode cX3_largestFlower 33 = .ok (.getfield 108, 3) := by decide +kernel
theorem dX3_largestFlower_36 : decode cX3_largestFlower 36 = .ok (.if_icmp .ge 23, 3) := by decide +kernel
theorem dX3_largestFlower_39 : decode cX3_largestFlower 39 = .ok (.iload_n 1, 1) := by decide +kernel
theorem dX3_largestFlower_40 : decode cX3_largestFlower 40 = .ok (.aload_n 0, 1) := by decide +kernel
theorem dX3_largestFlower_41 : decode cX3_largestFlower 41 = .ok (.getfield 22, 3) := by decide +kernel
theorem dX3_largestFlower_44 : decode cX3_largestFlower 44 = .ok (.iload_n 3, 1) := by decide +kernel
theorem dX3_largestFlower_45 : decode cX3_largestFlower 45 = .ok (.iload_n 2, 1) := by decide +kernel
theorem dX3_largestFlower_46 : decode cX3_largestFlower 46 = .ok (.invokevirtual 144, 3) := by decide +kernel
theorem dX3_largestFlower_49 : decode cX3_largestFlower 49 = .ok (.invokestatic 147, 3) := by decide +kernel
theorem dX3_largestFlower_52 : decode cX3_largestFlower 52 = .ok (.istore_n 1, 1) := by decide +kernel
theorem dX3_largestFlower_53 : decode cX3_largestFlower 53 = .ok (.iinc 3 1, 3) := by decide +kernel
theorem dX3_largestFlower_56 : decode cX3_largestFlower 56 = .ok (.goto (-28), 3) := by decide +kernel
theorem dX3_largestFlower_59 : decode cX3_largestFlower 59 = .ok (.iinc 2 1, 3) := by decide +kernel
theorem dX3_largestFlower_62 : decode cX3_largestFlower 62 = .ok (.goto (-47), 3) := by decide +kernel
theorem dX3_largestFlower_65 : decode cX3_largestFlower 65 = .ok (.iload_n 1, 1) := by decide +kernel
theorem dX3_largestFlower_66 : decode cX3_largestFlower 66 = .ok (.ireturn, 1) := by decide +kernel
set_option maxRecDepth 20000 in
theorem ggX3_flowerAt_X3_requireCell : GoodIn wsX3_flowerAt wsX3_requireCell := goodIn_ca (goodIn_r _ [7, 8, 9, 2, 10, 11, 12, 13, 14, 15, 16, 17, 18, 19, 20, 60, 61, 62, 63, 64, 65, 66, 67, 68, 69, 70, 71] (by decide +kernel) (by decide +kernel)) (goodIn_sub (fun _ h => List.mem_cons_of_mem _ (List.mem_append_right _ h)) (by decide +kernel))
set_option maxRecDepth 20000 in
theorem gX3_flowerAt_X3_requireCell : GoodIn wsX3_flowerAt (wsV RX3 45 RX3 yX3_requireCell wsX3_requireCell) := goodIn_app (goodIn_of _ (by decide +kernel)) ggX3_flowerAt_X3_requireCell
set_option maxRecDepth 20000 in
theorem ggX3_flowerAt_X0_spreadOut : GoodIn wsX3_flowerAt wsX0_spreadOut := goodIn_r _ [25, 26, 27, 28, 29, 13, 30, 31, 72, 73, 66, 67, 68, 69, 70, 71] (by decide +kernel) (by decide +kernel)
set_option maxRecDepth 20000 in
theorem gX3_flowerAt_X0_spreadOut : GoodIn wsX3_flowerAt (wsV RX3 140 RX0 yX0_spreadOut wsX0_spreadOut) := goodIn_app (goodIn_of _ (by decide +kernel)) ggX3_flowerAt_X0_spreadOut
set_option maxRecDepth 20000 in
theorem ggX3_flowerAt_X0_pick : GoodIn wsX3_flowerAt wsX0_pick := goodIn_r _ [35, 26, 36, 37, 38, 39, 40, 41, 42, 43, 24, 44, 45, 46, 47, 48, 49, 50, 51, 52, 53, 54, 55, 56, 57, 58, 59, 72, 73] (by decide +kernel) (by decide +kernel)
set_option maxRecDepth 20000 in
theorem gX3_flowerAt_X0_pick : GoodIn wsX3_flowerAt (wsV RX3 144 RX0 yX0_pick wsX0_pick) := goodIn_app (goodIn_of _ (by decide +kernel)) ggX3_flowerAt_X0_pick
theorem dX3_flowerAt_0 : decode cX3_flowerAt 0 = .ok (.aload_n 0, 1) := by decide +kernel
theorem dX3_flowerAt_1 : decode cX3_flowerAt 1 = .ok (.iload_n 1, 1) := by decide +kernel
theorem dX3_flowerAt_2 : decode cX3_flowerAt 2 = .ok (.iload_n 2, 1) := by decide +kernel
theorem dX3_flowerAt_3 : decode cX3_flowerAt 3 = .ok (.invokevirtual 45, 3) := by decide +kernel
theorem dX3_flowerAt_6 : decode cX3_flowerAt 6 = .ok (.aload_n 0, 1) := by decide +kernel
theorem dX3_flowerAt_7 : decode cX3_flowerAt 7 = .ok (.getfield 22, 3) := by decide +kernel
theorem dX3_flowerAt_10 : decode cX3_flowerAt 10 = .ok (.aload_n 0, 1) := by decide +kernel
theorem dX3_flowerAt_11 : decode cX3_flowerAt 11 = .ok (.getfield 10, 3) := by decide +kernel
theorem dX3_flowerAt_14 : decode cX3_flowerAt 14 = .ok (.invokevirtual 140, 3) := by decide +kernel
theorem dX3_flowerAt_17 : decode cX3_flowerAt 17 = .ok (.aload_n 0, 1) := by decide +kernel
theorem dX3_flowerAt_18 : decode cX3_flowerAt 18 = .ok (.getfield 22, 3) := by decide +kernel
theorem dX3_flowerAt_21 : decode cX3_flowerAt 21 = .ok (.iload_n 1, 1) := by decide +kernel
theorem dX3_flowerAt_22 : decode cX3_flowerAt 22 = .ok (.iload_n 2, 1) := by decide +kernel
theorem dX3_flowerAt_23 : decode cX3_flowerAt 23 = .ok (.invokevirtual 144, 3) := by decide +kernel
theorem dX3_flowerAt_26 : decode cX3_flowerAt 26 = .ok (.ireturn, 1) := by decide +kernel
set_option maxRecDepth 20000 in
theorem ggX3_isMirrored_X1_hasFrost : GoodIn wsX3_isMirrored wsX1_hasFrost := goodIn_r _ [6, 7, 8, 9, 5, 10, 11, 18, 19, 20, 21, 22, 23] (by decide +kernel) (by decide +kernel)
set_option maxRecDepth 20000 in
theorem gX3_isMirrored_X1_hasFrost : GoodIn wsX3_isMirrored (wsV RX3 61 RX1 yX1_hasFrost wsX1_hasFrost) := goodIn_app (goodIn_of _ (by decide +kernel)) ggX3_isMirrored_X1_hasFrost
theorem dX3_isMirrored_0 : decode cX3_isMirrored 0 = .ok (.iconst 0, 1) := by decide +kernel
theorem dX3_isMirrored_1 : decode cX3_isMirrored 1 = .ok (.istore_n 1, 1) := by decide +kernel
theorem dX3_isMirrored_2 : decode cX3_isMirrored 2 = .ok (.iload_n 1, 1) := by decide +kernel
theorem dX3_isMirrored_3 : decode cX3_isMirrored 3 = .ok (.aload_n 0, 1) := by decide +kernel
theorem dX3_isMirrored_4 : decode cX3_isMirrored 4 = .ok (.getfield 10, 3) := by decide +kernel
theorem dX3_isMirrored_7 : decode cX3_isMirrored 7 = .ok (.getfield 111, 3) := by decide +kernel
theorem dX3_isMirrored_10 : decode cX3_isMirrored 10 = .ok (.if_icmp .ge 61, 3) := by decide +kernel
theorem dX3_isMirrored_13 : decode cX3_isMirrored 13 = .ok (.iconst 0, 1) := by decide +kernel
theorem dX3_isMirrored_14 : decode cX3_isMirrored 14 = .ok (.istore_n 2, 1) := by decide +kernel
theorem dX3_isMirrored_15 : decode cX3_isMirrored 15 = .ok (.iload_n 2, 1) := by decide +kernel
theorem dX3_isMirrored_16 : decode cX3_isMirrored 16 = .ok (.aload_n 0, 1) := by decide +kernel
theorem dX3_isMirrored_17 : decode cX3_isMirrored 17 = .ok (.getfield 10, 3) := by decide +kernel
theorem dX3_isMirrored_20 : decode cX3_isMirrored 20 = .ok (.getfield 108, 3) := by decide +kernel
theorem dX3_isMirrored_23 : decode cX3_isMirrored 23 = .ok (.if_icmp .ge 42, 3) := by decide +kernel
theorem dX3_isMirrored_26 : decode cX3_isMirrored 26 = .ok (.aload_n 0, 1) := by decide +kernel
theorem dX3_isMirrored_27 : decode cX3_isMirrored 27 = .ok (.getfield 10, 3) := by decide +kernel
theorem dX3_isMirrored_30 : decode cX3_isMirrored 30 = .ok (.iload_n 2, 1) := by decide +kernel
theorem dX3_isMirrored_31 : decode cX3_isMirrored 31 = .ok (.iload_n 1, 1) := by decide +kernel
theorem dX3_isMirrored_32 : decode cX3_isMirrored 32 = .ok (.invokevirtual 61, 3) := by decide +kernel
theorem dX3_isMirrored_35 : decode cX3_isMirrored 35 = .ok (.aload_n 0, 1) := by decide +kernel
theorem dX3_isMirrored_36 : decode cX3_isMirrored 36 = .ok (.getfield 10, 3) := by decide +kernel
theorem dX3_isMirrored_39 : decode cX3_isMirrored 39 = .ok (.aload_n 0, 1) := by decide +kernel
theorem dX3_isMirrored_40 : decode cX3_isMirrored 40 = .ok (.getfield 10, 3) := by decide +kernel
theorem dX3_isMirrored_43 : decode cX3_isMirrored 43 = .ok (.getfield 108, 3) := by decide +kernel
theorem dX3_isMirrored_46 : decode cX3_isMirrored 46 = .ok (.iconst 1, 1) := by decide +kernel
theorem dX3_isMirrored_47 : decode cX3_isMirrored 47 = .ok (.isub, 1) := by decide +kernel
theorem dX3_isMirrored_48 : decode cX3_isMirrored 48 = .ok (.iload_n 2, 1) := by decide +kernel
theorem dX3_isMirrored_49 : decode cX3_isMirrored 49 = .ok (.isub, 1) := by decide +kernel
theorem dX3_isMirrored_50 : decode cX3_isMirrored 50 = .ok (.iload_n 1, 1) := by decide +kernel
theorem dX3_isMirrored_51 : decode cX3_isMirrored 51 = .ok (.invokevirtual 61, 3) := by decide +kernel
theorem dX3_isMirrored_54 : decode cX3_isMirrored 54 = .ok (.if_icmp .eq 5, 3) := by decide +kernel
theorem dX3_isMirrored_57 : decode cX3_isMirrored 57 = .ok (.iconst 0, 1) := by decide +kernel
theorem dX3_isMirrored_58 : decode cX3_isMirrored 58 = .ok (.ireturn, 1) := by decide +kernel
theorem dX3_isMirrored_59 : decode cX3_isMirrored 59 = .ok (.iinc 2 1, 3) := by decide +kernel
theorem dX3_isMirrored_62 : decode cX3_isMirrored 62 = .ok (.goto (-47), 3) := by decide +kernel
theorem dX3_isMirrored_65 : decode cX3_isMirrored 65 = .ok (.iinc 1 1, 3) := by decide +kernel
theorem dX3_isMirrored_68 : decode cX3_isMirrored 68 = .ok (.goto (-66), 3) := by decide +kernel
theorem dX3_isMirrored_71 : decode cX3_isMirrored 71 = .ok (.iconst 1, 1) := by decide +kernel
theorem dX3_isMirrored_72 : decode cX3_isMirrored 72 = .ok (.ireturn, 1) := by decide +kernel
set_option maxRecDepth 20000 in
theorem ggX3_comesAgainIn_X1_becomeLike : GoodIn wsX3_comesAgainIn wsX1_becomeLike := goodIn_r _ [9, 10, 11, 12, 13, 14, 15, 16, 17, 18, 19, 20, 21, 22, 100, 101, 102, 103, 104, 105] (by decide +kernel) (by decide +kernel)
set_option maxRecDepth 20000 in
theorem gX3_comesAgainIn_X1_becomeLike : GoodIn wsX3_comesAgainIn (wsV RX3 155 RX1 yX1_becomeLike wsX1_becomeLike) := goodIn_app (goodIn_of _ (by decide +kernel)) ggX3_comesAgainIn_X1_becomeLike
set_option maxRecDepth 20000 in
theorem ggX3_comesAgainIn_X2_freezesBy : GoodIn wsX3_comesAgainIn wsX2_freezesBy := goodIn_r _ [27, 28, 29, 30, 31, 26, 32, 33, 106, 107, 108] (by decide +kernel) (by decide +kernel)
set_option maxRecDepth 20000 in
theorem gX3_comesAgainIn_X2_freezesBy : GoodIn wsX3_comesAgainIn (wsV RX3 91 RX2 yX2_freezesBy wsX2_freezesBy) := goodIn_app (goodIn_of _ (by decide +kernel)) ggX3_comesAgainIn_X2_freezesBy
set_option maxRecDepth 20000 in
theorem ggX3_comesAgainIn_X2_staysBy : GoodIn wsX3_comesAgainIn wsX2_staysBy := goodIn_r _ [37, 38, 29, 30, 31, 26, 32, 33, 106, 107, 108] (by decide +kernel) (by decide +kernel)
set_option maxRecDepth 20000 in
theorem gX3_comesAgainIn_X2_staysBy : GoodIn wsX3_comesAgainIn (wsV RX3 95 RX2 yX2_staysBy wsX2_staysBy) := goodIn_app (goodIn_of _ (by decide +kernel)) ggX3_comesAgainIn_X2_staysBy
set_option maxRecDepth 20000 in
theorem ggX3_comesAgainIn_X1_step : GoodIn wsX3_comesAgainIn wsX1_step := goodIn_r _ [42, 11, 43, 44, 45, 46, 8, 47, 10, 48, 49, 50, 51, 12, 52, 53, 54, 55, 56, 57, 58, 59, 13, 60, 61, 62, 63, 64, 65, 66, 67, 68, 69, 70, 71, 72, 73, 74, 75, 76, 77, 78, 79, 80, 81, 22, 82, 83, 84, 85, 86, 87, 88, 89, 100, 101, 102, 103, 104, 105] (by decide +kernel) (by decide +kernel)
set_option maxRecDepth 20000 in
theorem gX3_comesAgainIn_X1_step : GoodIn wsX3_comesAgainIn (wsV RX3 98 RX1 yX1_step wsX1_step) := goodIn_app (goodIn_of _ (by decide +kernel)) ggX3_comesAgainIn_X1_step
set_option maxRecDepth 20000 in
theorem ggX3_comesAgainIn_X1_isLike : GoodIn wsX3_comesAgainIn wsX1_isLike := goodIn_r _ [93, 11, 10, 56, 57, 58, 8, 59, 13, 78, 79, 80, 81, 22, 100, 101, 102, 103, 104, 105] (by decide +kernel) (by decide +kernel)
set_option maxRecDepth 20000 in
theorem gX3_comesAgainIn_X1_isLike : GoodIn wsX3_comesAgainIn (wsV RX3 158 RX1 yX1_isLike wsX1_isLike) := goodIn_app (goodIn_of _ (by decide +kernel)) ggX3_comesAgainIn_X1_isLike
theorem dX3_comesAgainIn_0 : decode cX3_comesAgainIn 0 = .ok (.aload_n 0, 1) := by decide +kernel
theorem dX3_comesAgainIn_1 : decode cX3_comesAgainIn 1 = .ok (.getfield 16, 3) := by decide +kernel
theorem dX3_comesAgainIn_4 : decode cX3_comesAgainIn 4 = .ok (.aload_n 0, 1) := by decide +kernel
theorem dX3_comesAgainIn_5 : decode cX3_comesAgainIn 5 = .ok (.getfield 10, 3) := by decide +kernel
theorem dX3_comesAgainIn_8 : decode cX3_comesAgainIn 8 = .ok (.invokevirtual 155, 3) := by decide +kernel
theorem dX3_comesAgainIn_11 : decode cX3_comesAgainIn 11 = .ok (.iconst 1, 1) := by decide +kernel
theorem dX3_comesAgainIn_12 : decode cX3_comesAgainIn 12 = .ok (.istore_n 1, 1) := by decide +kernel
theorem dX3_comesAgainIn_13 : decode cX3_comesAgainIn 13 = .ok (.iload_n 1, 1) := by decide +kernel
theorem dX3_comesAgainIn_14 : decode cX3_comesAgainIn 14 = .ok (.bipush 40, 2) := by decide +kernel
theorem dX3_comesAgainIn_16 : decode cX3_comesAgainIn 16 = .ok (.if_icmp .gt 55, 3) := by decide +kernel
theorem dX3_comesAgainIn_19 : decode cX3_comesAgainIn 19 = .ok (.aload_n 0, 1) := by decide +kernel
theorem dX3_comesAgainIn_20 : decode cX3_comesAgainIn 20 = .ok (.getfield 16, 3) := by decide +kernel
theorem dX3_comesAgainIn_23 : decode cX3_comesAgainIn 23 = .ok (.aload_n 0, 1) := by decide +kernel
theorem dX3_comesAgainIn_24 : decode cX3_comesAgainIn 24 = .ok (.getfield 29, 3) := by decide +kernel
theorem dX3_comesAgainIn_27 : decode cX3_comesAgainIn 27 = .ok (.aload_n 0, 1) := by decide +kernel
theorem dX3_comesAgainIn_28 : decode cX3_comesAgainIn 28 = .ok (.getfield 88, 3) := by decide +kernel
theorem dX3_comesAgainIn_31 : decode cX3_comesAgainIn 31 = .ok (.invokevirtual 91, 3) := by decide +kernel
theorem dX3_comesAgainIn_34 : decode cX3_comesAgainIn 34 = .ok (.aload_n 0, 1) := by decide +kernel
theorem dX3_comesAgainIn_35 : decode cX3_comesAgainIn 35 = .ok (.getfield 29, 3) := by decide +kernel
theorem dX3_comesAgainIn_38 : decode cX3_comesAgainIn 38 = .ok (.aload_n 0, 1) := by decide +kernel
theorem dX3_comesAgainIn_39 : decode cX3_comesAgainIn 39 = .ok (.getfield 88, 3) := by decide +kernel
theorem dX3_comesAgainIn_42 : decode cX3_comesAgainIn 42 = .ok (.invokevirtual 95, 3) := by decide +kernel
theorem dX3_comesAgainIn_45 : decode cX3_comesAgainIn 45 = .ok (.invokevirtual 98, 3) := by decide +kernel
theorem dX3_comesAgainIn_48 : decode cX3_comesAgainIn 48 = .ok (.pop, 1) := by decide +kernel
theorem dX3_comesAgainIn_49 : decode cX3_comesAgainIn 49 = .ok (.aload_n 0, 1) := by decide +kernel
theorem dX3_comesAgainIn_50 : decode cX3_comesAgainIn 50 = .ok (.getfield 16, 3) := by decide +kernel
theorem dX3_comesAgainIn_53 : decode cX3_comesAgainIn 53 = .ok (.aload_n 0, 1) := by decide +kernel
theorem dX3_comesAgainIn_54 : decode cX3_comesAgainIn 54 = .ok (.getfield 10, 3) := by decide +kernel
theorem dX3_comesAgainIn_57 : decode cX3_comesAgainIn 57 = .ok (.invokevirtual 158, 3) := by decide +kernel
theorem dX3_comesAgainIn_60 : decode cX3_comesAgainIn 60 = .ok (.ifCond .eq 5, 3) := by decide +kernel
theorem dX3_comesAgainIn_63 : decode cX3_comesAgainIn 63 = .ok (.iload_n 1, 1) := by decide +kernel
theorem dX3_comesAgainIn_64 : decode cX3_comesAgainIn 64 = .ok (.ireturn, 1) := by decide +kernel
theorem dX3_comesAgainIn_65 : decode cX3_comesAgainIn 65 = .ok (.iinc 1 1, 3) := by decide +kernel
theorem dX3_comesAgainIn_68 : decode cX3_comesAgainIn 68 = .ok (.goto (-55), 3) := by decide +kernel
theorem dX3_comesAgainIn_71 : decode cX3_comesAgainIn 71 = .ok (.iconst (-1), 1) := by decide +kernel
theorem dX3_comesAgainIn_72 : decode cX3_comesAgainIn 72 = .ok (.ireturn, 1) := by decide +kernel
set_option maxRecDepth 20000 in
theorem ggX3_standsStillIn_X1_becomeLike : GoodIn wsX3_standsStillIn wsX1_becomeLike := goodIn_r _ [9, 10, 11, 12, 13, 14, 15, 16, 17, 18, 19, 20, 21, 22, 100, 101, 102, 103, 104, 105] (by decide +kernel) (by decide +kernel)
set_option maxRecDepth 20000 in
theorem gX3_standsStillIn_X1_becomeLike : GoodIn wsX3_standsStillIn (wsV RX3 155 RX1 yX1_becomeLike wsX1_becomeLike) := goodIn_app (goodIn_of _ (by decide +kernel)) ggX3_standsStillIn_X1_becomeLike
set_option maxRecDepth 20000 in
theorem ggX3_standsStillIn_X1_countMelted : GoodIn wsX3_standsStillIn wsX1_countMelted := goodIn_r _ [26, 22, 100, 101, 102, 103, 104, 105] (by decide +kernel) (by decide +kernel)
set_option maxRecDepth 20000 in
theorem gX3_standsStillIn_X1_countMelted : GoodIn wsX3_standsStillIn (wsV RX3 117 RX1 yX1_countMelted wsX1_countMelted) := goodIn_app (goodIn_of _ (by decide +kernel)) ggX3_standsStillIn_X1_countMelted
set_option maxRecDepth 20000 in
theorem ggX3_standsStillIn_X2_freezesBy : GoodIn wsX3_standsStillIn wsX2_freezesBy := goodIn_r _ [31, 32, 33, 34, 35, 30, 36, 37, 106, 107, 108] (by decide +kernel) (by decide +kernel)
set_option maxRecDepth 20000 in
theorem gX3_standsStillIn_X2_freezesBy : GoodIn wsX3_standsStillIn (wsV RX3 91 RX2 yX2_freezesBy wsX2_freezesBy) := goodIn_app (goodIn_of _ (by decide +kernel)) ggX3_standsStillIn_X2_freezesBy
set_option maxRecDepth 20000 in
theorem ggX3_standsStillIn_X2_staysBy : GoodIn wsX3_standsStillIn wsX2_staysBy := goodIn_r _ [41, 42, 33, 34, 35, 30, 36, 37, 106, 107, 108] (by decide +kernel) (by decide +kernel)
set_option maxRecDepth 20000 in
theorem gX3_standsStillIn_X2_staysBy : GoodIn wsX3_standsStillIn (wsV RX3 95 RX2 yX2_staysBy wsX2_staysBy) := goodIn_app (goodIn_of _ (by decide +kernel)) ggX3_standsStillIn_X2_staysBy
set_option maxRecDepth 20000 in
theorem ggX3_standsStillIn_X1_step : GoodIn wsX3_standsStillIn wsX1_step := goodIn_r _ [46, 11, 47, 48, 49, 50, 8, 51, 10, 52, 53, 54, 55, 12, 56, 57, 58, 59, 60, 61, 62, 63, 13, 64, 65, 66, 67, 68, 69, 70, 71, 72, 73, 74, 75, 76, 77, 78, 79, 80, 81, 82, 83, 84, 85, 22, 86, 87, 88, 89, 90, 91, 92, 93, 100, 101, 102, 103, 104, 105] (by decide +kernel) (by decide +kernel)
set_option maxRecDepth 20000 in
theorem gX3_standsStillIn_X1_step : GoodIn wsX3_standsStillIn (wsV RX3 98 RX1 yX1_step wsX1_step) := goodIn_app (goodIn_of _ (by decide +kernel)) ggX3_standsStillIn_X1_step
theorem dX3_standsStillIn_0 : decode cX3_standsStillIn 0 = .ok (.aload_n 0, 1) := by decide +kernel
theorem dX3_standsStillIn_1 : decode cX3_standsStillIn 1 = .ok (.getfield 16, 3) := by decide +kernel
theorem dX3_standsStillIn_4 : decode cX3_standsStillIn 4 = .ok (.aload_n 0, 1) := by decide +kernel
theorem dX3_standsStillIn_5 : decode cX3_standsStillIn 5 = .ok (.getfield 10, 3) := by decide +kernel
theorem dX3_standsStillIn_8 : decode cX3_standsStillIn 8 = .ok (.invokevirtual 155, 3) := by decide +kernel
theorem dX3_standsStillIn_11 : decode cX3_standsStillIn 11 = .ok (.iconst 0, 1) := by decide +kernel
theorem dX3_standsStillIn_12 : decode cX3_standsStillIn 12 = .ok (.istore_n 1, 1) := by decide +kernel
theorem dX3_standsStillIn_13 : decode cX3_standsStillIn 13 = .ok (.iload_n 1, 1) := by decide +kernel
theorem dX3_standsStillIn_14 : decode cX3_standsStillIn 14 = .ok (.bipush 40, 2) := by decide +kernel
theorem dX3_standsStillIn_16 : decode cX3_standsStillIn 16 = .ok (.if_icmp .gt 65, 3) := by decide +kernel
theorem dX3_standsStillIn_19 : decode cX3_standsStillIn 19 = .ok (.aload_n 0, 1) := by decide +kernel
theorem dX3_standsStillIn_20 : decode cX3_standsStillIn 20 = .ok (.getfield 16, 3) := by decide +kernel
theorem dX3_standsStillIn_23 : decode cX3_standsStillIn 23 = .ok (.invokevirtual 117, 3) := by decide +kernel
theorem dX3_standsStillIn_26 : decode cX3_standsStillIn 26 = .ok (.ifCond .ne 7, 3) := by decide +kernel
theorem dX3_standsStillIn_29 : decode cX3_standsStillIn 29 = .ok (.iconst 1, 1) := by decide +kernel
theorem dX3_standsStillIn_30 : decode cX3_standsStillIn 30 = .ok (.goto 4, 3) := by decide +kernel
theorem dX3_standsStillIn_33 : decode cX3_standsStillIn 33 = .ok (.iconst 0, 1) := by decide +kernel
theorem dX3_standsStillIn_34 : decode cX3_standsStillIn 34 = .ok (.istore_n 2, 1) := by decide +kernel
theorem dX3_standsStillIn_35 : decode cX3_standsStillIn 35 = .ok (.aload_n 0, 1) := by decide +kernel
theorem dX3_standsStillIn_36 : decode cX3_standsStillIn 36 = .ok (.getfield 16, 3) := by decide +kernel
theorem dX3_standsStillIn_39 : decode cX3_standsStillIn 39 = .ok (.aload_n 0, 1) := by decide +kernel
theorem dX3_standsStillIn_40 : decode cX3_standsStillIn 40 = .ok (.getfield 29, 3) := by decide +kernel
theorem dX3_standsStillIn_43 : decode cX3_standsStillIn 43 = .ok (.aload_n 0, 1) := by decide +kernel
theorem dX3_standsStillIn_44 : decode cX3_standsStillIn 44 = .ok (.getfield 88, 3) := by decide +kernel
theorem dX3_standsStillIn_47 : decode cX3_standsStillIn 47 = .ok (.invokevirtual 91, 3) := by decide +kernel
theorem dX3_standsStillIn_50 : decode cX3_standsStillIn 50 = .ok (.aload_n 0, 1) := by decide +kernel
theorem dX3_standsStillIn_51 : decode cX3_standsStillIn 51 = .ok (.getfield 29, 3) := by decide +kernel
theorem dX3_standsStillIn_54 : decode cX3_standsStillIn 54 = .ok (.aload_n 0, 1) := by decide +kernel
theorem dX3_standsStillIn_55 : decode cX3_standsStillIn 55 = .ok (.getfield 88, 3) := by decide +kernel
theorem dX3_standsStillIn_58 : decode cX3_standsStillIn 58 = .ok (.invokevirtual 95, 3) := by decide +kernel
theorem dX3_standsStillIn_61 : decode cX3_standsStillIn 61 = .ok (.invokevirtual 98, 3) := by decide +kernel
theorem dX3_standsStillIn_64 : decode cX3_standsStillIn 64 = .ok (.istore_n 3, 1) := by decide +kernel
theorem dX3_standsStillIn_65 : decode cX3_standsStillIn 65 = .ok (.iload_n 2, 1) := by decide +kernel
theorem dX3_standsStillIn_66 : decode cX3_standsStillIn 66 = .ok (.ifCond .eq 9, 3) := by decide +kernel
theorem dX3_standsStillIn_69 : decode cX3_standsStillIn 69 = .ok (.iload_n 3, 1) := by decide +kernel
theorem dX3_standsStillIn_70 : decode cX3_standsStillIn 70 = .ok (.ifCond .ne 5, 3) := by decide +kernel
theorem dX3_standsStillIn_73 : decode cX3_standsStillIn 73 = .ok (.iload_n 1, 1) := by decide +kernel
theorem dX3_standsStillIn_74 : decode cX3_standsStillIn 74 = .ok (.ireturn, 1) := by decide +kernel
theorem dX3_standsStillIn_75 : decode cX3_standsStillIn 75 = .ok (.iinc 1 1, 3) := by decide +kernel
theorem dX3_standsStillIn_78 : decode cX3_standsStillIn 78 = .ok (.goto (-65), 3) := by decide +kernel
theorem dX3_standsStillIn_81 : decode cX3_standsStillIn 81 = .ok (.iconst (-1), 1) := by decide +kernel
theorem dX3_standsStillIn_82 : decode cX3_standsStillIn 82 = .ok (.ireturn, 1) := by decide +kernel
set_option maxRecDepth 20000 in
theorem ggX3_peakIn_X3_requireWithin : GoodIn wsX3_peakIn wsX3_requireWithin := goodIn_ca (goodIn_r _ [8, 9, 10] (by decide +kernel) (by decide +kernel)) (goodIn_sub (fun _ h => List.mem_cons_of_mem _ (List.mem_append_right _ h)) (by decide +kernel))
set_option maxRecDepth 20000 in
theorem gX3_peakIn_X3_requireWithin : GoodIn wsX3_peakIn (va_wsS RX3 41 yX3_requireWithin wsX3_requireWithin) := goodIn_app (goodIn_of _ (by decide +kernel)) ggX3_peakIn_X3_requireWithin
set_option maxRecDepth 20000 in
theorem ggX3_peakIn_X1_becomeLike : GoodIn wsX3_peakIn wsX1_becomeLike := goodIn_r _ [15, 16, 17, 18, 19, 20, 21, 22, 23, 24, 25, 26, 27, 28, 106, 107, 108, 109, 110, 111] (by decide +kernel) (by decide +kernel)
set_option maxRecDepth 20000 in
theorem gX3_peakIn_X1_becomeLike : GoodIn wsX3_peakIn (wsV RX3 155 RX1 yX1_becomeLike wsX1_becomeLike) := goodIn_app (goodIn_of _ (by decide +kernel)) ggX3_peakIn_X1_becomeLike
set_option maxRecDepth 20000 in
theorem ggX3_peakIn_X1_countFrost : GoodIn wsX3_peakIn wsX1_countFrost := goodIn_r _ [32, 17, 33, 34, 35, 14, 36, 19, 37, 38, 39, 40, 41, 42, 43, 106, 107, 108, 109, 110, 111] (by decide +kernel) (by decide +kernel)
set_option maxRecDepth 20000 in
theorem gX3_peakIn_X1_countFrost : GoodIn wsX3_peakIn (wsV RX3 104 RX1 yX1_countFrost wsX1_countFrost) := goodIn_app (goodIn_of _ (by decide +kernel)) ggX3_peakIn_X1_countFrost
set_option maxRecDepth 20000 in
theorem ggX3_peakIn_X2_freezesBy : GoodIn wsX3_peakIn wsX2_freezesBy := goodIn_r _ [48, 49, 50, 51, 52, 47, 53, 54, 112, 113, 114] (by decide +kernel) (by decide +kernel)
set_option maxRecDepth 20000 in
theorem gX3_peakIn_X2_freezesBy : GoodIn wsX3_peakIn (wsV RX3 91 RX2 yX2_freezesBy wsX2_freezesBy) := goodIn_app (goodIn_of _ (by decide +kernel)) ggX3_peakIn_X2_freezesBy
set_option maxRecDepth 20000 in
theorem ggX3_peakIn_X2_staysBy : GoodIn wsX3_peakIn wsX2_staysBy := goodIn_r _ [58, 59, 50, 51, 52, 47, 53, 54, 112, 113, 114] (by decide +kernel) (by decide +kernel)
set_option maxRecDepth 20000 in
theorem gX3_peakIn_X2_staysBy : GoodIn wsX3_peakIn (wsV RX3 95 RX2 yX2_staysBy wsX2_staysBy) := goodIn_app (goodIn_of _ (by decide +kernel)) ggX3_peakIn_X2_staysBy
set_option maxRecDepth 20000 in
theorem ggX3_peakIn_X1_step : GoodIn wsX3_peakIn wsX1_step := goodIn_r _ [63, 17, 64, 65, 66, 67, 14, 68, 16, 69, 70, 71, 72, 18, 73, 74, 75, 76, 33, 34, 35, 36, 19, 77, 78, 79, 80, 81, 82, 83, 84, 85, 86, 87, 37, 38, 39, 40, 41, 42, 43, 88, 89, 90, 91, 28, 92, 93, 94, 95, 96, 97, 98, 99, 106, 107, 108, 109, 110, 111] (by decide +kernel) (by decide +kernel)
set_option maxRecDepth 20000 in
theorem gX3_peakIn_X1_step : GoodIn wsX3_peakIn (wsV RX3 98 RX1 yX1_step wsX1_step) := goodIn_app (goodIn_of _ (by decide +kernel)) ggX3_peakIn_X1_step
theorem dX3_peakIn_0 : decode cX3_peakIn 0 = .ok (.iload_n 1, 1) := by decide +kernel
theorem dX3_peakIn_1 : decode cX3_peakIn 1 = .ok (.iconst 1, 1) := by decide +kernel
theorem dX3_peakIn_2 : decode cX3_peakIn 2 = .ok (.bipush 60, 2) := by decide +kernel
theorem dX3_peakIn_4 : decode cX3_peakIn 4 = .ok (.invokestatic 41, 3) := by decide +kernel
theorem dX3_peakIn_7 : decode cX3_peakIn 7 = .ok (.aload_n 0, 1) := by decide +kernel
theorem dX3_peakIn_8 : decode cX3_peakIn 8 = .ok (.getfield 16, 3) := by decide +kernel
theorem dX3_peakIn_11 : decode cX3_peakIn 11 = .ok (.aload_n 0, 1) := by decide +kernel
theorem dX3_peakIn_12 : decode cX3_peakIn 12 = .ok (.getfield 10, 3) := by decide +kernel
theorem dX3_peakIn_15 : decode cX3_peakIn 15 = .ok (.invokevirtual 155, 3) := by decide +kernel
theorem dX3_peakIn_18 : decode cX3_peakIn 18 = .ok (.iconst 0, 1) := by decide +kernel
theorem dX3_peakIn_19 : decode cX3_peakIn 19 = .ok (.istore_n 2, 1) := by decide +kernel
theorem dX3_peakIn_20 : decode cX3_peakIn 20 = .ok (.aload_n 0, 1) := by decide +kernel
theorem dX3_peakIn_21 : decode cX3_peakIn 21 = .ok (.getfield 16, 3) := by decide +kernel
theorem dX3_peakIn_24 : decode cX3_peakIn 24 = .ok (.invokevirtual 104, 3) := by decide +kernel
theorem dX3_peakIn_27 : decode cX3_peakIn 27 = .ok (.istore_n 3, 1) := by decide +kernel
theorem dX3_peakIn_28 : decode cX3_peakIn 28 = .ok (.iconst 1, 1) := by decide +kernel
theorem dX3_peakIn_29 : decode cX3_peakIn 29 = .ok (.istore 4, 2) := by decide +kernel
theorem dX3_peakIn_31 : decode cX3_peakIn 31 = .ok (.iload 4, 2) := by decide +kernel
theorem dX3_peakIn_33 : decode cX3_peakIn 33 = .ok (.iload_n 1, 1) := by decide +kernel
theorem dX3_peakIn_34 : decode cX3_peakIn 34 = .ok (.if_icmp .gt 60, 3) := by decide +kernel
theorem dX3_peakIn_37 : decode cX3_peakIn 37 = .ok (.aload_n 0, 1) := by decide +kernel
theorem dX3_peakIn_38 : decode cX3_peakIn 38 = .ok (.getfield 16, 3) := by decide +kernel
theorem dX3_peakIn_41 : decode cX3_peakIn 41 = .ok (.aload_n 0, 1) := by decide +kernel
theorem dX3_peakIn_42 : decode cX3_peakIn 42 = .ok (.getfield 29, 3) := by decide +kernel
theorem dX3_peakIn_45 : decode cX3_peakIn 45 = .ok (.aload_n 0, 1) := by decide +kernel
theorem dX3_peakIn_46 : decode cX3_peakIn 46 = .ok (.getfield 88, 3) := by decide +kernel
theorem dX3_peakIn_49 : decode cX3_peakIn 49 = .ok (.invokevirtual 91, 3) := by decide +kernel
theorem dX3_peakIn_52 : decode cX3_peakIn 52 = .ok (.aload_n 0, 1) := by decide +kernel
theorem dX3_peakIn_53 : decode cX3_peakIn 53 = .ok (.getfield 29, 3) := by decide +kernel
theorem dX3_peakIn_56 : decode cX3_peakIn 56 = .ok (.aload_n 0, 1) := by decide +kernel
theorem dX3_peakIn_57 : decode cX3_peakIn 57 = .ok (.getfield 88, 3) := by decide +kernel
theorem dX3_peakIn_60 : decode cX3_peakIn 60 = .ok (.invokevirtual 95, 3) := by decide +kernel
theorem dX3_peakIn_63 : decode cX3_peakIn 63 = .ok (.invokevirtual 98, 3) := by decide +kernel
theorem dX3_peakIn_66 : decode cX3_peakIn 66 = .ok (.pop, 1) := by decide +kernel
theorem dX3_peakIn_67 : decode cX3_peakIn 67 = .ok (.aload_n 0, 1) := by decide +kernel
theorem dX3_peakIn_68 : decode cX3_peakIn 68 = .ok (.getfield 16, 3) := by decide +kernel
theorem dX3_peakIn_71 : decode cX3_peakIn 71 = .ok (.invokevirtual 104, 3) := by decide +kernel
theorem dX3_peakIn_74 : decode cX3_peakIn 74 = .ok (.istore 5, 2) := by decide +kernel
theorem dX3_peakIn_76 : decode cX3_peakIn 76 = .ok (.iload 5, 2) := by decide +kernel
theorem dX3_peakIn_78 : decode cX3_peakIn 78 = .ok (.iload_n 3, 1) := by decide +kernel
theorem dX3_peakIn_79 : decode cX3_peakIn 79 = .ok (.if_icmp .le 9, 3) := by decide +kernel
theorem dX3_peakIn_82 : decode cX3_peakIn 82 = .ok (.iload 5, 2) := by decide +kernel
theorem dX3_peakIn_84 : decode cX3_peakIn 84 = .ok (.istore_n 3, 1) := by decide +kernel
theorem dX3_peakIn_85 : decode cX3_peakIn 85 = .ok (.iload 4, 2) := by decide +kernel
theorem dX3_peakIn_87 : decode cX3_peakIn 87 = .ok (.istore_n 2, 1) := by decide +kernel
theorem dX3_peakIn_88 : decode cX3_peakIn 88 = .ok (.iinc 4 1, 3) := by decide +kernel
theorem dX3_peakIn_91 : decode cX3_peakIn 91 = .ok (.goto (-60), 3) := by decide +kernel
theorem dX3_peakIn_94 : decode cX3_peakIn 94 = .ok (.iload_n 2, 1) := by decide +kernel
theorem dX3_peakIn_95 : decode cX3_peakIn 95 = .ok (.ireturn, 1) := by decide +kernel
set_option maxRecDepth 20000 in
theorem ggX3_bestBreath_X3_requireWithin : GoodIn wsX3_bestBreath wsX3_requireWithin := goodIn_ca (goodIn_r _ [5, 6, 7] (by decide +kernel) (by decide +kernel)) (goodIn_sub (fun _ h => List.mem_cons_of_mem _ (List.mem_append_right _ h)) (by decide +kernel))
set_option maxRecDepth 20000 in
theorem gX3_bestBreath_X3_requireWithin : GoodIn wsX3_bestBreath (va_wsS RX3 41 yX3_requireWithin wsX3_requireWithin) := goodIn_app (goodIn_of _ (by decide +kernel)) ggX3_bestBreath_X3_requireWithin
set_option maxRecDepth 20000 in
theorem ggX3_bestBreath_X3_frostBehind : GoodIn wsX3_bestBreath wsX3_frostBehind := goodIn_r _ [11, 12, 13, 1, 14, 15, 16, 17, 18, 19, 20, 21, 22, 23, 24, 25, 26, 27, 28, 29, 30, 31, 32, 33, 34, 35, 36, 37, 38, 39, 40, 41, 42, 43, 44, 45, 46, 47, 48, 49, 50, 51, 52, 53, 54, 55, 56, 57, 58, 59, 60, 61, 62, 63, 64, 65, 66, 67, 68, 69, 70, 71, 72, 73, 74, 75, 76, 77, 78, 79, 80, 81, 82, 83, 84, 85, 86, 87, 88, 89, 90, 91, 92, 93, 94, 95, 96, 97, 98, 99, 100, 101, 102, 103, 104, 105, 106, 107, 108, 112, 113, 114, 115, 116, 117, 109, 110, 111] (by decide +kernel) (by decide +kernel)
set_option maxRecDepth 20000 in
theorem gX3_bestBreath_X3_frostBehind : GoodIn wsX3_bestBreath (wsV RX3 152 RX3 yX3_frostBehind wsX3_frostBehind) := goodIn_app (goodIn_of _ (by decide +kernel)) ggX3_bestBreath_X3_frostBehind
theorem dX3_bestBreath_0 : decode cX3_bestBreath 0 = .ok (.iload_n 1, 1) := by decide +kernel
theorem dX3_bestBreath_1 : decode cX3_bestBreath 1 = .ok (.iconst 1, 1) := by decide +kernel
theorem dX3_bestBreath_2 : decode cX3_bestBreath 2 = .ok (.bipush 20, 2) := by decide +kernel
theorem dX3_bestBreath_4 : decode cX3_bestBreath 4 = .ok (.invokestatic 41, 3) := by decide +kernel
theorem dX3_bestBreath_7 : decode cX3_bestBreath 7 = .ok (.iconst 0, 1) := by decide +kernel
theorem dX3_bestBreath_8 : decode cX3_bestBreath 8 = .ok (.istore_n 2, 1) := by decide +kernel
theorem dX3_bestBreath_9 : decode cX3_bestBreath 9 = .ok (.aload_n 0, 1) := by decide +kernel
theorem dX3_bestBreath_10 : decode cX3_bestBreath 10 = .ok (.iload_n 1, 1) := by decide +kernel
theorem dX3_bestBreath_11 : decode cX3_bestBreath 11 = .ok (.iload_n 2, 1) := by decide +kernel
theorem dX3_bestBreath_12 : decode cX3_bestBreath 12 = .ok (.invokevirtual 152, 3) := by decide +kernel
theorem dX3_bestBreath_15 : decode cX3_bestBreath 15 = .ok (.istore_n 3, 1) := by decide +kernel
theorem dX3_bestBreath_16 : decode cX3_bestBreath 16 = .ok (.iconst 1, 1) := by decide +kernel
theorem dX3_bestBreath_17 : decode cX3_bestBreath 17 = .ok (.istore 4, 2) := by decide +kernel
theorem dX3_bestBreath_19 : decode cX3_bestBreath 19 = .ok (.iload 4, 2) := by decide +kernel
theorem dX3_bestBreath_21 : decode cX3_bestBreath 21 = .ok (.aload_n 0, 1) := by decide +kernel
theorem dX3_bestBreath_22 : decode cX3_bestBreath 22 = .ok (.getfield 29, 3) := by decide +kernel
theorem dX3_bestBreath_25 : decode cX3_bestBreath 25 = .ok (.getfield 114, 3) := by decide +kernel
theorem dX3_bestBreath_28 : decode cX3_bestBreath 28 = .ok (.if_icmp .ge 30, 3) := by decide +kernel
theorem dX3_bestBreath_31 : decode cX3_bestBreath 31 = .ok (.aload_n 0, 1) := by decide +kernel
theorem dX3_bestBreath_32 : decode cX3_bestBreath 32 = .ok (.iload_n 1, 1) := by decide +kernel
theorem dX3_bestBreath_33 : decode cX3_bestBreath 33 = .ok (.iload 4, 2) := by decide +kernel
theorem dX3_bestBreath_35 : decode cX3_bestBreath 35 = .ok (.invokevirtual 152, 3) := by decide +kernel
theorem dX3_bestBreath_38 : decode cX3_bestBreath 38 = .ok (.istore 5, 2) := by decide +kernel
theorem dX3_bestBreath_40 : decode cX3_bestBreath 40 = .ok (.iload 5, 2) := by decide +kernel
theorem dX3_bestBreath_42 : decode cX3_bestBreath 42 = .ok (.iload_n 3, 1) := by decide +kernel
theorem dX3_bestBreath_43 : decode cX3_bestBreath 43 = .ok (.if_icmp .le 9, 3) := by decide +kernel
theorem dX3_bestBreath_46 : decode cX3_bestBreath 46 = .ok (.iload 5, 2) := by decide +kernel
theorem dX3_bestBreath_48 : decode cX3_bestBreath 48 = .ok (.istore_n 3, 1) := by decide +kernel
theorem dX3_bestBreath_49 : decode cX3_bestBreath 49 = .ok (.iload 4, 2) := by decide +kernel
theorem dX3_bestBreath_51 : decode cX3_bestBreath 51 = .ok (.istore_n 2, 1) := by decide +kernel
theorem dX3_bestBreath_52 : decode cX3_bestBreath 52 = .ok (.iinc 4 1, 3) := by decide +kernel
theorem dX3_bestBreath_55 : decode cX3_bestBreath 55 = .ok (.goto (-36), 3) := by decide +kernel
theorem dX3_bestBreath_58 : decode cX3_bestBreath 58 = .ok (.iload_n 2, 1) := by decide +kernel
theorem dX3_bestBreath_59 : decode cX3_bestBreath 59 = .ok (.ireturn, 1) := by decide +kernel
set_option maxRecDepth 20000 in
theorem ggX3_meanInRows_X1_countFrost : GoodIn wsX3_meanInRows wsX1_countFrost := goodIn_r _ [6, 7, 8, 9, 10, 5, 11, 12, 13, 14, 15, 16, 17, 18, 19, 26, 27, 28, 29, 30, 31] (by decide +kernel) (by decide +kernel)
set_option maxRecDepth 20000 in
theorem gX3_meanInRows_X1_countFrost : GoodIn wsX3_meanInRows (wsV RX3 104 RX1 yX1_countFrost wsX1_countFrost) := goodIn_app (goodIn_of _ (by decide +kernel)) ggX3_meanInRows_X1_countFrost
theorem dX3_meanInRows_0 : decode cX3_meanInRows 0 = .ok (.aload_n 0, 1) := by decide +kernel
theorem dX3_meanInRows_1 : decode cX3_meanInRows 1 = .ok (.getfield 10, 3) := by decide +kernel
theorem dX3_meanInRows_4 : decode cX3_meanInRows 4 = .ok (.getfield 111, 3) := by decide +kernel
theorem dX3_meanInRows_7 : decode cX3_meanInRows 7 = .ok (.istore_n 1, 1) := by decide +kernel
theorem dX3_meanInRows_8 : decode cX3_meanInRows 8 = .ok (.iload_n 1, 1) := by decide +kernel
theorem dX3_meanInRows_9 : decode cX3_meanInRows 9 = .ok (.ifCond .le 17, 3) := by decide +kernel
theorem dX3_meanInRows_12 : decode cX3_meanInRows 12 = .ok (.aload_n 0, 1) := by decide +kernel
theorem dX3_meanInRows_13 : decode cX3_meanInRows 13 = .ok (.getfield 10, 3) := by decide +kernel
theorem dX3_meanInRows_16 : decode cX3_meanInRows 16 = .ok (.invokevirtual 104, 3) := by decide +kernel
theorem dX3_meanInRows_19 : decode cX3_meanInRows 19 = .ok (.i2d, 1) := by decide +kernel
theorem dX3_meanInRows_20 : decode cX3_meanInRows 20 = .ok (.iload_n 1, 1) := by decide +kernel
theorem dX3_meanInRows_21 : decode cX3_meanInRows 21 = .ok (.i2d, 1) := by decide +kernel
theorem dX3_meanInRows_22 : decode cX3_meanInRows 22 = .ok (.ddiv, 1) := by decide +kernel
theorem dX3_meanInRows_23 : decode cX3_meanInRows 23 = .ok (.goto 4, 3) := by decide +kernel
theorem dX3_meanInRows_26 : decode cX3_meanInRows 26 = .ok (.dconst 0, 1) := by decide +kernel
theorem dX3_meanInRows_27 : decode cX3_meanInRows 27 = .ok (.dreturn, 1) := by decide +kernel
set_option maxRecDepth 20000 in
theorem ggX3_digest_X3_columns : GoodIn wsX3_digest wsX3_columns := goodIn_r _ [7, 2, 253, 254, 255, 256, 257, 258, 259, 260, 261, 262, 263, 264] (by decide +kernel) (by decide +kernel)
set_option maxRecDepth 20000 in
theorem gX3_digest_X3_columns : GoodIn wsX3_digest (wsV RX3 164 RX3 yX3_columns wsX3_columns) := goodIn_app (goodIn_of _ (by decide +kernel)) ggX3_digest_X3_columns
set_option maxRecDepth 20000 in
theorem ggX3_digest_X3_mixed : GoodIn wsX3_digest wsX3_mixed := goodIn_r _ [10, 11] (by decide +kernel) (by decide +kernel)
set_option maxRecDepth 20000 in
theorem gX3_digest_X3_mixed : GoodIn wsX3_digest (va_wsS RX3 166 yX3_mixed wsX3_mixed) := goodIn_app (goodIn_of _ (by decide +kernel)) ggX3_digest_X3_mixed
set_option maxRecDepth 20000 in
theorem ggX3_digest_X3_rows : GoodIn wsX3_digest wsX3_rows := goodIn_r _ [15, 2, 253, 254, 255, 256, 257, 258, 259, 260, 261, 262, 263, 264] (by decide +kernel) (by decide +kernel)
set_option maxRecDepth 20000 in
theorem gX3_digest_X3_rows : GoodIn wsX3_digest (wsV RX3 170 RX3 yX3_rows wsX3_rows) := goodIn_app (goodIn_of _ (by decide +kernel)) ggX3_digest_X3_rows
set_option maxRecDepth 20000 in
theorem ggX3_digest_X3_generation : GoodIn wsX3_digest wsX3_generation := goodIn_r _ [19, 20, 253, 254, 255, 256, 257, 258] (by decide +kernel) (by decide +kernel)
set_option maxRecDepth 20000 in
theorem gX3_digest_X3_generation : GoodIn wsX3_digest (wsV RX3 172 RX3 yX3_generation wsX3_generation) := goodIn_app (goodIn_of _ (by decide +kernel)) ggX3_digest_X3_generation
set_option maxRecDepth 20000 in
theorem ggX3_digest_X3_rules : GoodIn wsX3_digest wsX3_rules := goodIn_r _ [24, 25, 253, 254, 255, 256, 257, 258, 265, 266, 267] (by decide +kernel) (by decide +kernel)
set_option maxRecDepth 20000 in
theorem gX3_digest_X3_rules : GoodIn wsX3_digest (wsV RX3 174 RX3 yX3_rules wsX3_rules) := goodIn_app (goodIn_of _ (by decide +kernel)) ggX3_digest_X3_rules
set_option maxRecDepth 20000 in
theorem ggX3_digest_X3_breath : GoodIn wsX3_digest wsX3_breath := goodIn_r _ [29, 30, 253, 254, 255, 256, 257, 258] (by decide +kernel) (by decide +kernel)
set_option maxRecDepth 20000 in
theorem gX3_digest_X3_breath : GoodIn wsX3_digest (wsV RX3 177 RX3 yX3_breath wsX3_breath) := goodIn_app (goodIn_of _ (by decide +kernel)) ggX3_digest_X3_breath
set_option maxRecDepth 20000 in
theorem ggX3_digest_X3_frozen : GoodIn wsX3_digest wsX3_frozen := goodIn_r _ [34, 2, 35, 36, 37, 38, 39, 40, 41, 42, 43, 44, 45, 46, 47, 48, 49, 50, 51, 52, 253, 254, 255, 256, 257, 258, 259, 260, 261, 262, 263, 264] (by decide +kernel) (by decide +kernel)
set_option maxRecDepth 20000 in
theorem gX3_digest_X3_frozen : GoodIn wsX3_digest (wsV RX3 179 RX3 yX3_frozen wsX3_frozen) := goodIn_app (goodIn_of _ (by decide +kernel)) ggX3_digest_X3_frozen
set_option maxRecDepth 20000 in
theorem ggX3_digest_X3_melted : GoodIn wsX3_digest wsX3_melted := goodIn_r _ [56, 2, 57, 58, 59, 38, 60, 61, 253, 254, 255, 256, 257, 258, 259, 260, 261, 262, 263, 264] (by decide +kernel) (by decide +kernel)
set_option maxRecDepth 20000 in
theorem gX3_digest_X3_melted : GoodIn wsX3_digest (wsV RX3 182 RX3 yX3_melted wsX3_melted) := goodIn_app (goodIn_of _ (by decide +kernel)) ggX3_digest_X3_melted
set_option maxRecDepth 20000 in
theorem ggX3_digest_X3_flowers : GoodIn wsX3_digest wsX3_flowers := goodIn_r _ [65, 66, 2, 67, 68, 69, 70, 71, 72, 73, 42, 43, 38, 44, 45, 74, 75, 76, 77, 78, 79, 80, 81, 82, 83, 84, 85, 86, 87, 88, 89, 90, 91, 92, 93, 94, 95, 47, 48, 49, 50, 51, 52, 253, 254, 255, 256, 257, 258, 259, 260, 261, 262, 263, 264, 268, 269] (by decide +kernel) (by decide +kernel)
set_option maxRecDepth 20000 in
theorem gX3_digest_X3_flowers : GoodIn wsX3_digest (wsV RX3 185 RX3 yX3_flowers wsX3_flowers) := goodIn_app (goodIn_of _ (by decide +kernel)) ggX3_digest_X3_flowers
set_option maxRecDepth 20000 in
theorem ggX3_digest_X3_largestFlower : GoodIn wsX3_digest wsX3_largestFlower := goodIn_r _ [99, 66, 2, 100, 101, 102, 103, 67, 68, 69, 70, 71, 72, 73, 42, 43, 38, 44, 45, 74, 75, 76, 77, 78, 79, 80, 81, 82, 83, 84, 85, 86, 87, 88, 89, 90, 91, 92, 93, 94, 95, 47, 48, 49, 50, 51, 52, 253, 254, 255, 256, 257, 258, 259, 260, 261, 262, 263, 264, 268, 269] (by decide +kernel) (by decide +kernel)
set_option maxRecDepth 20000 in
theorem gX3_digest_X3_largestFlower : GoodIn wsX3_digest (wsV RX3 188 RX3 yX3_largestFlower wsX3_largestFlower) := goodIn_app (goodIn_of _ (by decide +kernel)) ggX3_digest_X3_largestFlower
set_option maxRecDepth 20000 in
theorem ggX3_digest_X3_isMirrored : GoodIn wsX3_digest wsX3_isMirrored := goodIn_r _ [107, 2, 108, 109, 110, 38, 111, 41, 42, 43, 44, 45, 253, 254, 255, 256, 257, 258, 259, 260, 261, 262, 263, 264] (by decide +kernel) (by decide +kernel)
set_option maxRecDepth 20000 in
theorem gX3_digest_X3_isMirrored : GoodIn wsX3_digest (wsV RX3 191 RX3 yX3_isMirrored wsX3_isMirrored) := goodIn_app (goodIn_of _ (by decide +kernel)) ggX3_digest_X3_isMirrored
set_option maxRecDepth 20000 in
theorem ggX3_digest_X3_asNumber : GoodIn wsX3_digest wsX3_asNumber := goodIn_r _ [114] (by decide +kernel) (by decide +kernel)
set_option maxRecDepth 20000 in
theorem gX3_digest_X3_asNumber : GoodIn wsX3_digest (va_wsS RX3 194 yX3_asNumber wsX3_asNumber) := goodIn_app (goodIn_of _ (by decide +kernel)) ggX3_digest_X3_asNumber
set_option maxRecDepth 20000 in
theorem ggX3_digest_X3_comesAgainIn : GoodIn wsX3_digest wsX3_comesAgainIn := goodIn_r _ [118, 119, 2, 25, 30, 120, 121, 122, 38, 123, 124, 40, 125, 45, 126, 127, 102, 128, 129, 130, 131, 132, 61, 133, 134, 135, 136, 137, 138, 139, 140, 141, 142, 143, 144, 145, 146, 147, 148, 149, 150, 151, 152, 153, 154, 155, 156, 157, 158, 159, 160, 161, 162, 163, 164, 165, 41, 42, 43, 44, 166, 167, 168, 169, 170, 109, 110, 111, 171, 172, 173, 46, 47, 48, 49, 50, 51, 52, 174, 175, 176, 177, 178, 179, 180, 181, 182, 183, 184, 185, 186, 187, 188, 189, 253, 254, 255, 256, 257, 258, 259, 260, 261, 262, 263, 264, 265, 266, 267] (by decide +kernel) (by decide +kernel)
set_option maxRecDepth 20000 in
theorem gX3_digest_X3_comesAgainIn : GoodIn wsX3_digest (wsV RX3 198 RX3 yX3_comesAgainIn wsX3_comesAgainIn) := goodIn_app (goodIn_of _ (by decide +kernel)) ggX3_digest_X3_comesAgainIn
set_option maxRecDepth 20000 in
theorem ggX3_digest_X3_standsStillIn : GoodIn wsX3_digest wsX3_standsStillIn := goodIn_r _ [193, 119, 2, 25, 30, 120, 121, 122, 38, 123, 124, 40, 125, 45, 126, 127, 102, 128, 129, 130, 131, 132, 61, 57, 58, 59, 60, 133, 134, 135, 136, 137, 138, 139, 140, 141, 142, 143, 144, 145, 146, 147, 148, 149, 150, 151, 152, 153, 154, 155, 156, 157, 158, 159, 160, 161, 162, 163, 164, 165, 41, 42, 43, 44, 166, 167, 168, 169, 170, 109, 110, 111, 171, 172, 173, 46, 47, 48, 49, 50, 51, 52, 174, 175, 176, 177, 178, 179, 180, 181, 182, 183, 184, 185, 253, 254, 255, 256, 257, 258, 259, 260, 261, 262, 263, 264, 265, 266, 267] (by decide +kernel) (by decide +kernel)
set_option maxRecDepth 20000 in
theorem gX3_digest_X3_standsStillIn : GoodIn wsX3_digest (wsV RX3 201 RX3 yX3_standsStillIn wsX3_standsStillIn) := goodIn_app (goodIn_of _ (by decide +kernel)) ggX3_digest_X3_standsStillIn
set_option maxRecDepth 20000 in
theorem ggX3_digest_X3_bestBreath : GoodIn wsX3_digest wsX3_bestBreath := goodIn_ca (goodIn_r _ [197, 25, 198, 199, 6, 200, 201, 202, 203, 204, 205, 206, 119, 2, 120, 121, 122, 38, 123, 124, 40, 125, 45, 126, 127, 102, 128, 129, 130, 131, 132, 61, 133, 134, 135, 136, 137, 138, 139, 140, 141, 142, 143, 144, 145, 146, 147, 148, 149, 150, 151, 152, 153, 154, 155, 156, 157, 158, 159, 160, 161, 162, 163, 164, 165, 41, 42, 43, 44, 166, 167, 168, 169, 170, 109, 110, 111, 171, 172, 173, 46, 47, 48, 49, 50, 51, 52, 174, 175, 176, 177, 178, 179, 180, 181, 182, 183, 184, 185, 35, 36, 37, 39, 253, 254, 255, 256, 257, 258, 265, 266, 267, 259, 260, 261, 262, 263, 264] (by decide +kernel) (by decide +kernel)) (goodIn_sub (fun _ h => List.mem_cons_of_mem _ (List.mem_append_left _ (List.mem_append_right _ h))) (by decide +kernel))
set_option maxRecDepth 20000 in
theorem gX3_digest_X3_bestBreath : GoodIn wsX3_digest (wsV RX3 204 RX3 yX3_bestBreath wsX3_bestBreath) := goodIn_app (goodIn_of _ (by decide +kernel)) ggX3_digest_X3_bestBreath
set_option maxRecDepth 20000 in
theorem ggX3_digest_X3_digestOfRow : GoodIn wsX3_digest wsX3_digestOfRow := goodIn_ca (goodIn_r _ [210, 2, 211, 212, 213, 6, 214, 215, 216, 217, 163, 164, 38, 165, 40, 218, 42, 43, 44, 45, 219, 47, 48, 49, 50, 51, 52, 8, 9, 10, 11, 220, 221, 222, 223, 224, 225, 226, 227, 228, 229, 230, 231, 124, 162, 108, 109, 110, 111, 41, 112, 113, 114, 232, 233, 234, 235, 236, 175, 176, 177, 61, 237, 238, 239, 240, 241, 242, 243, 244, 158, 159, 160, 161, 125, 166, 167, 168, 169, 171, 172, 173, 46, 245, 246, 247, 248, 25, 30, 133, 134, 135, 136, 137, 138, 139, 140, 141, 142, 143, 144, 145, 146, 147, 148, 249, 250, 251, 252, 154, 155, 156, 157, 170, 174, 253, 254, 255, 256, 257, 258, 259, 260, 261, 262, 263, 264, 265, 266, 267] (by decide +kernel) (by decide +kernel)) (goodIn_sub (fun _ h => List.mem_cons_of_mem _ (List.mem_append_right _ h)) (by decide +kernel))
set_option maxRecDepth 20000 in
theorem gX3_digest_X3_digestOfRow : GoodIn wsX3_digest (wsV RX3 207 RX3 yX3_digestOfRow wsX3_digestOfRow) := goodIn_app (goodIn_of _ (by decide +kernel)) ggX3_digest_X3_digestOfRow
theorem dX3_digest_0 : decode cX3_digest 0 = .ok (.ldc2_w 162, 3) := by decide +kernel
theorem dX3_digest_3 : decode cX3_digest 3 = .ok (.lstore_n 1, 1) := by decide +kernel
theorem dX3_digest_4 : decode cX3_digest 4 = .ok (.lload_n 1, 1) := by decide +kernel
theorem dX3_digest_5 : decode cX3_digest 5 = .ok (.aload_n 0, 1) := by decide +kernel
theorem dX3_digest_6 : decode cX3_digest 6 = .ok (.invokevirtual 164, 3) := by decide +kernel
theorem dX3_digest_9 : decode cX3_digest 9 = .ok (.i2l, 1) := by decide +kernel
theorem dX3_digest_10 : decode cX3_digest 10 = .ok (.invokestatic 166, 3) := by decide +kernel
theorem dX3_digest_13 : decode cX3_digest 13 = .ok (.lstore_n 1, 1) := by decide +kernel
theorem dX3_digest_14 : decode cX3_digest 14 = .ok (.lload_n 1, 1) := by decide +kernel
theorem dX3_digest_15 : decode cX3_digest 15 = .ok (.aload_n 0, 1) := by decide +kernel
theorem dX3_digest_16 : decode cX3_digest 16 = .ok (.invokevirtual 170, 3) := by decide +kernel
theorem dX3_digest_19 : decode cX3_digest 19 = .ok (.i2l, 1) := by decide +kernel
theorem dX3_digest_20 : decode cX3_digest 20 = .ok (.invokestatic 166, 3) := by decide +kernel
theorem dX3_digest_23 : decode cX3_digest 23 = .ok (.lstore_n 1, 1) := by decide +kernel
theorem dX3_digest_24 : decode cX3_digest 24 = .ok (.lload_n 1, 1) := by decide +kernel
theorem dX3_digest_25 : decode cX3_digest 25 = .ok (.aload_n 0, 1) := by decide +kernel
theorem dX3_digest_26 : decode cX3_digest 26 = .ok (.invokevirtual 172, 3) := by decide +kernel
theorem dX3_digest_29 : decode cX3_digest 29 = .ok (.i2l, 1) := by decide +kernel
theorem dX3_digest_30 : decode cX3_digest 30 = .ok (.invokestatic 166, 3) := by decide +kernel
theorem dX3_digest_33 : decode cX3_digest 33 = .ok (.lstore_n 1, 1) := by decide +kernel
theorem dX3_digest_34 : decode cX3_digest 34 = .ok (.lload_n 1, 1) := by decide +kernel
theorem dX3_digest_35 : decode cX3_digest 35 = .ok (.aload_n 0, 1) := by decide +kernel
theorem dX3_digest_36 : decode cX3_digest 36 = .ok (.invokevirtual 174, 3) := by decide +kernel
theorem dX3_digest_39 : decode cX3_digest 39 = .ok (.i2l, 1) := by decide +kernel
theorem dX3_digest_40 : decode cX3_digest 40 = .ok (.invokestatic 166, 3) := by decide +kernel
theorem dX3_digest_43 : decode cX3_digest 43 = .ok (.lstore_n 1, 1) := by decide +kernel
theorem dX3_digest_44 : decode cX3_digest 44 = .ok (.lload_n 1, 1) := by decide +kernel
theorem dX3_digest_45 : decode cX3_digest 45 = .ok (.aload_n 0, 1) := by decide +kernel
theorem dX3_digest_46 : decode cX3_digest 46 = .ok (.invokevirtual 177, 3) := by decide +kernel
theorem dX3_digest_49 : decode cX3_digest 49 = .ok (.i2l, 1) := by decide +kernel
theorem dX3_digest_50 : decode cX3_digest 50 = .ok (.invokestatic 166, 3) := by decide +kernel
theorem dX3_digest_53 : decode cX3_digest 53 = .ok (.lstore_n 1, 1) := by decide +kernel
theorem dX3_digest_54 : decode cX3_digest 54 = .ok (.lload_n 1, 1) := by decide +kernel
theorem dX3_digest_55 : decode cX3_digest 55 = .ok (.aload_n 0, 1) := by decide +kernel
theorem dX3_digest_56 : decode cX3_digest 56 = .ok (.invokevirtual 179, 3) := by decide +kernel
theorem dX3_digest_59 : decode cX3_digest 59 = .ok (.i2l, 1) := by decide +kernel
theorem dX3_digest_60 : decode cX3_digest 60 = .ok (.invokestatic 166, 3) := by decide +kernel
theorem dX3_digest_63 : decode cX3_digest 63 = .ok (.lstore_n 1, 1) := by decide +kernel
theorem dX3_digest_64 : decode cX3_digest 64 = .ok (.lload_n 1, 1) := by decide +kernel
theorem dX3_digest_65 : decode cX3_digest 65 = .ok (.aload_n 0, 1) := by decide +kernel
theorem dX3_digest_66 : decode cX3_digest 66 = .ok (.invokevirtual 182, 3) := by decide +kernel
theorem dX3_digest_69 : decode cX3_digest 69 = .ok (.i2l, 1) := by decide +kernel
theorem dX3_digest_70 : decode cX3_digest 70 = .ok (.invokestatic 166, 3) := by decide +kernel
theorem dX3_digest_73 : decode cX3_digest 73 = .ok (.lstore_n 1, 1) := by decide +kernel
theorem dX3_digest_74 : decode cX3_digest 74 = .ok (.lload_n 1, 1) := by decide +kernel
theorem dX3_digest_75 : decode cX3_digest 75 = .ok (.aload_n 0, 1) := by decide +kernel
theorem dX3_digest_76 : decode cX3_digest 76 = .ok (.invokevirtual 185, 3) := by decide +kernel
theorem dX3_digest_79 : decode cX3_digest 79 = .ok (.i2l, 1) := by decide +kernel
theorem dX3_digest_80 : decode cX3_digest 80 = .ok (.invokestatic 166, 3) := by decide +kernel
theorem dX3_digest_83 : decode cX3_digest 83 = .ok (.lstore_n 1, 1) := by decide +kernel
theorem dX3_digest_84 : decode cX3_digest 84 = .ok (.lload_n 1, 1) := by decide +kernel
theorem dX3_digest_85 : decode cX3_digest 85 = .ok (.aload_n 0, 1) := by decide +kernel
theorem dX3_digest_86 : decode cX3_digest 86 = .ok (.invokevirtual 188, 3) := by decide +kernel
theorem dX3_digest_89 : decode cX3_digest 89 = .ok (.i2l, 1) := by decide +kernel
theorem dX3_digest_90 : decode cX3_digest 90 = .ok (.invokestatic 166, 3) := by decide +kernel
theorem dX3_digest_93 : decode cX3_digest 93 = .ok (.lstore_n 1, 1) := by decide +kernel
theorem dX3_digest_94 : decode cX3_digest 94 = .ok (.lload_n 1, 1) := by decide +kernel
theorem dX3_digest_95 : decode cX3_digest 95 = .ok (.aload_n 0, 1) := by decide +kernel
theorem dX3_digest_96 : decode cX3_digest 96 = .ok (.invokevirtual 191, 3) := by decide +kernel
theorem dX3_digest_99 : decode cX3_digest 99 = .ok (.invokestatic 194, 3) := by decide +kernel
theorem dX3_digest_102 : decode cX3_digest 102 = .ok (.invokestatic 166, 3) := by decide +kernel
theorem dX3_digest_105 : decode cX3_digest 105 = .ok (.lstore_n 1, 1) := by decide +kernel
theorem dX3_digest_106 : decode cX3_digest 106 = .ok (.lload_n 1, 1) := by decide +kernel
theorem dX3_digest_107 : decode cX3_digest 107 = .ok (.aload_n 0, 1) := by decide +kernel
theorem dX3_digest_108 : decode cX3_digest 108 = .ok (.invokevirtual 198, 3) := by decide +kernel
theorem dX3_digest_111 : decode cX3_digest 111 = .ok (.i2l, 1) := by decide +kernel
theorem dX3_digest_112 : decode cX3_digest 112 = .ok (.invokestatic 166, 3) := by decide +kernel
theorem dX3_digest_115 : decode cX3_digest 115 = .ok (.lstore_n 1, 1) := by decide +kernel
theorem dX3_digest_116 : decode cX3_digest 116 = .ok (.lload_n 1, 1) := by decide +kernel
theorem dX3_digest_117 : decode cX3_digest 117 = .ok (.aload_n 0, 1) := by decide +kernel
theorem dX3_digest_118 : decode cX3_digest 118 = .ok (.invokevirtual 201, 3) := by decide +kernel
theorem dX3_digest_121 : decode cX3_digest 121 = .ok (.i2l, 1) := by decide +kernel
theorem dX3_digest_122 : decode cX3_digest 122 = .ok (.invokestatic 166, 3) := by decide +kernel
theorem dX3_digest_125 : decode cX3_digest 125 = .ok (.lstore_n 1, 1) := by decide +kernel
theorem dX3_digest_126 : decode cX3_digest 126 = .ok (.lload_n 1, 1) := by decide +kernel
theorem dX3_digest_127 : decode cX3_digest 127 = .ok (.aload_n 0, 1) := by decide +kernel
theorem dX3_digest_128 : decode cX3_digest 128 = .ok (.iconst 5, 1) := by decide +kernel
theorem dX3_digest_129 : decode cX3_digest 129 = .ok (.invokevirtual 204, 3) := by decide +kernel
theorem dX3_digest_132 : decode cX3_digest 132 = .ok (.i2l, 1) := by decide +kernel
theorem dX3_digest_133 : decode cX3_digest 133 = .ok (.invokestatic 166, 3) := by decide +kernel
theorem dX3_digest_136 : decode cX3_digest 136 = .ok (.lstore_n 1, 1) := by decide +kernel
theorem dX3_digest_137 : decode cX3_digest 137 = .ok (.iconst 0, 1) := by decide +kernel
theorem dX3_digest_138 : decode cX3_digest 138 = .ok (.istore_n 3, 1) := by decide +kernel
theorem dX3_digest_139 : decode cX3_digest 139 = .ok (.iload_n 3, 1) := by decide +kernel
theorem dX3_digest_140 : decode cX3_digest 140 = .ok (.aload_n 0, 1) := by decide +kernel
theorem dX3_digest_141 : decode cX3_digest 141 = .ok (.getfield 10, 3) := by decide +kernel
theorem dX3_digest_144 : decode cX3_digest 144 = .ok (.getfield 111, 3) := by decide +kernel
theorem dX3_digest_147 : decode cX3_digest 147 = .ok (.if_icmp .ge 16, 3) := by decide +kernel
theorem dX3_digest_150 : decode cX3_digest 150 = .ok (.aload_n 0, 1) := by decide +kernel
theorem dX3_digest_151 : decode cX3_digest 151 = .ok (.lload_n 1, 1) := by decide +kernel
theorem dX3_digest_152 : decode cX3_digest 152 = .ok (.iload_n 3, 1) := by decide +kernel
theorem dX3_digest_153 : decode cX3_digest 153 = .ok (.invokevirtual 207, 3) := by decide +kernel
theorem dX3_digest_156 : decode cX3_digest 156 = .ok (.lstore_n 1, 1) := by decide +kernel
theorem dX3_digest_157 : decode cX3_digest 157 = .ok (.iinc 3 1, 3) := by decide +kernel
theorem dX3_digest_160 : decode cX3_digest 160 = .ok (.goto (-21), 3) := by decide +kernel
theorem dX3_digest_163 : decode cX3_digest 163 = .ok (.lload_n 1, 1) := by decide +kernel
theorem dX3_digest_164 : decode cX3_digest 164 = .ok (.lreturn, 1) := by decide +kernel
set_option maxRecDepth 20000 in
theorem ggX3_digestOfRow_X3_frozenInRow : GoodIn wsX3_digestOfRow wsX3_frozenInRow := goodIn_ca (goodIn_r _ [6, 7, 8, 1, 9, 10, 11, 12, 13, 14, 15, 16, 17, 18, 19, 20, 21, 22, 23, 24, 25, 26, 115, 116, 117, 118, 119, 120, 121, 122, 123, 124, 125, 126] (by decide +kernel) (by decide +kernel)) (goodIn_sub (fun _ h => List.mem_cons_of_mem _ (List.mem_append_right _ h)) (by decide +kernel))
set_option maxRecDepth 20000 in
theorem gX3_digestOfRow_X3_frozenInRow : GoodIn wsX3_digestOfRow (wsV RX3 211 RX3 yX3_frozenInRow wsX3_frozenInRow) := goodIn_app (goodIn_of _ (by decide +kernel)) ggX3_digestOfRow_X3_frozenInRow
set_option maxRecDepth 20000 in
theorem ggX3_digestOfRow_X3_mixed : GoodIn wsX3_digestOfRow wsX3_mixed := goodIn_r _ [29, 30] (by decide +kernel) (by decide +kernel)
set_option maxRecDepth 20000 in
theorem gX3_digestOfRow_X3_mixed : GoodIn wsX3_digestOfRow (va_wsS RX3 166 yX3_mixed wsX3_mixed) := goodIn_app (goodIn_of _ (by decide +kernel)) ggX3_digestOfRow_X3_mixed
set_option maxRecDepth 20000 in
theorem ggX3_digestOfRow_X3_isFrozen : GoodIn wsX3_digestOfRow wsX3_isFrozen := goodIn_ca (goodIn_r _ [34, 1, 35, 36, 37, 5, 38, 7, 8, 39, 40, 41, 12, 42, 43, 44, 10, 11, 13, 14, 45, 46, 47, 48, 49, 16, 17, 18, 19, 115, 116, 117, 118, 119, 120, 121, 122, 123, 124, 125, 126] (by decide +kernel) (by decide +kernel)) (goodIn_sub (fun _ h => List.mem_cons_of_mem _ (List.mem_append_right _ h)) (by decide +kernel))
set_option maxRecDepth 20000 in
theorem gX3_digestOfRow_X3_isFrozen : GoodIn wsX3_digestOfRow (wsV RX3 214 RX3 yX3_isFrozen wsX3_isFrozen) := goodIn_app (goodIn_of _ (by decide +kernel)) ggX3_digestOfRow_X3_isFrozen
set_option maxRecDepth 20000 in
theorem ggX3_digestOfRow_X3_asNumber : GoodIn wsX3_digestOfRow wsX3_asNumber := goodIn_r _ [52] (by decide +kernel) (by decide +kernel)
set_option maxRecDepth 20000 in
theorem gX3_digestOfRow_X3_asNumber : GoodIn wsX3_digestOfRow (va_wsS RX3 194 yX3_asNumber wsX3_asNumber) := goodIn_app (goodIn_of _ (by decide +kernel)) ggX3_digestOfRow_X3_asNumber
set_option maxRecDepth 20000 in
theorem ggX3_digestOfRow_X3_meltedFor : GoodIn wsX3_digestOfRow wsX3_meltedFor := goodIn_ca (goodIn_r _ [56, 1, 35, 36, 37, 5, 38, 7, 8, 39, 40, 41, 12, 42, 43, 44, 10, 11, 13, 14, 57, 58, 59, 60, 61, 115, 116, 117, 118, 119, 120, 121, 122, 123, 124, 125, 126] (by decide +kernel) (by decide +kernel)) (goodIn_sub (fun _ h => List.mem_cons_of_mem _ (List.mem_append_right _ h)) (by decide +kernel))
set_option maxRecDepth 20000 in
theorem gX3_digestOfRow_X3_meltedFor : GoodIn wsX3_digestOfRow (wsV RX3 217 RX3 yX3_meltedFor wsX3_meltedFor) := goodIn_app (goodIn_of _ (by decide +kernel)) ggX3_digestOfRow_X3_meltedFor
set_option maxRecDepth 20000 in
theorem ggX3_digestOfRow_X3_around : GoodIn wsX3_digestOfRow wsX3_around := goodIn_ca (goodIn_r _ [65, 1, 35, 36, 37, 5, 38, 7, 8, 39, 40, 41, 12, 42, 43, 44, 10, 11, 13, 14, 66, 67, 68, 69, 70, 71, 72, 73, 74, 49, 16, 17, 18, 19, 75, 76, 77, 78, 79, 80, 81, 82, 21, 22, 23, 24, 25, 26, 115, 116, 117, 118, 119, 120, 121, 122, 123, 124, 125, 126] (by decide +kernel) (by decide +kernel)) (goodIn_sub (fun _ h => List.mem_cons_of_mem _ (List.mem_append_right _ h)) (by decide +kernel))
set_option maxRecDepth 20000 in
theorem gX3_digestOfRow_X3_around : GoodIn wsX3_digestOfRow (wsV RX3 220 RX3 yX3_around wsX3_around) := goodIn_app (goodIn_of _ (by decide +kernel)) ggX3_digestOfRow_X3_around
set_option maxRecDepth 20000 in
theorem ggX3_digestOfRow_X3_willFreeze : GoodIn wsX3_digestOfRow wsX3_willFreeze := goodIn_ca (goodIn_r _ [86, 1, 87, 88, 35, 36, 37, 5, 38, 7, 8, 39, 40, 41, 12, 42, 43, 44, 10, 11, 13, 14, 89, 90, 91, 92, 93, 94, 95, 96, 97, 98, 99, 100, 101, 102, 103, 104, 105, 106, 107, 108, 109, 110, 111, 112, 70, 71, 72, 73, 74, 49, 16, 17, 18, 19, 75, 76, 77, 78, 113, 46, 47, 48, 79, 80, 81, 82, 21, 22, 23, 24, 25, 26, 114, 58, 59, 60, 61, 115, 116, 117, 118, 119, 120, 121, 122, 123, 124, 125, 126, 127, 128, 129] (by decide +kernel) (by decide +kernel)) (goodIn_sub (fun _ h => List.mem_cons_of_mem _ (List.mem_append_right _ h)) (by decide +kernel))
set_option maxRecDepth 20000 in
theorem gX3_digestOfRow_X3_willFreeze : GoodIn wsX3_digestOfRow (wsV RX3 223 RX3 yX3_willFreeze wsX3_willFreeze) := goodIn_app (goodIn_of _ (by decide +kernel)) ggX3_digestOfRow_X3_willFreeze
theorem dX3_digestOfRow_0 : decode cX3_digestOfRow 0 = .ok (.lload_n 1, 1) := by decide +kernel
theorem dX3_digestOfRow_1 : decode cX3_digestOfRow 1 = .ok (.aload_n 0, 1) := by decide +kernel
theorem dX3_digestOfRow_2 : decode cX3_digestOfRow 2 = .ok (.iload_n 3, 1) := by decide +kernel
theorem dX3_digestOfRow_3 : decode cX3_digestOfRow 3 = .ok (.invokevirtual 211, 3) := by decide +kernel
theorem dX3_digestOfRow_6 : decode cX3_digestOfRow 6 = .ok (.i2l, 1) := by decide +kernel
theorem dX3_digestOfRow_7 : decode cX3_digestOfRow 7 = .ok (.invokestatic 166, 3) := by decide +kernel
theorem dX3_digestOfRow_10 : decode cX3_digestOfRow 10 = .ok (.lstore 4, 2) := by decide +kernel
theorem dX3_digestOfRow_12 : decode cX3_digestOfRow 12 = .ok (.iconst 0, 1) := by decide +kernel
theorem dX3_digestOfRow_13 : decode cX3_digestOfRow 13 = .ok (.istore 6, 2) := by decide +kernel
theorem dX3_digestOfRow_15 : decode cX3_digestOfRow 15 = .ok (.iload 6, 2) := by decide +kernel
theorem dX3_digestOfRow_17 : decode cX3_digestOfRow 17 = .ok (.aload_n 0, 1) := by decide +kernel
theorem dX3_digestOfRow_18 : decode cX3_digestOfRow 18 = .ok (.getfield 10, 3) := by decide +kernel
theorem dX3_digestOfRow_21 : decode cX3_digestOfRow 21 = .ok (.getfield 108, 3) := by decide +kernel
theorem dX3_digestOfRow_24 : decode cX3_digestOfRow 24 = .ok (.if_icmp .ge 73, 3) := by decide +kernel
theorem dX3_digestOfRow_27 : decode cX3_digestOfRow 27 = .ok (.lload 4, 2) := by decide +kernel
theorem dX3_digestOfRow_29 : decode cX3_digestOfRow 29 = .ok (.aload_n 0, 1) := by decide +kernel
theorem dX3_digestOfRow_30 : decode cX3_digestOfRow 30 = .ok (.iload 6, 2) := by decide +kernel
theorem dX3_digestOfRow_32 : decode cX3_digestOfRow 32 = .ok (.iload_n 3, 1) := by decide +kernel
theorem dX3_digestOfRow_33 : decode cX3_digestOfRow 33 = .ok (.invokevirtual 214, 3) := by decide +kernel
theorem dX3_digestOfRow_36 : decode cX3_digestOfRow 36 = .ok (.invokestatic 194, 3) := by decide +kernel
theorem dX3_digestOfRow_39 : decode cX3_digestOfRow 39 = .ok (.invokestatic 166, 3) := by decide +kernel
theorem dX3_digestOfRow_42 : decode cX3_digestOfRow 42 = .ok (.lstore 4, 2) := by decide +kernel
theorem dX3_digestOfRow_44 : decode cX3_digestOfRow 44 = .ok (.lload 4, 2) := by decide +kernel
theorem dX3_digestOfRow_46 : decode cX3_digestOfRow 46 = .ok (.aload_n 0, 1) := by decide +kernel
theorem dX3_digestOfRow_47 : decode cX3_digestOfRow 47 = .ok (.iload 6, 2) := by decide +kernel
theorem dX3_digestOfRow_49 : decode cX3_digestOfRow 49 = .ok (.iload_n 3, 1) := by decide +kernel
theorem dX3_digestOfRow_50 : decode cX3_digestOfRow 50 = .ok (.invokevirtual 217, 3) := by decide +kernel
theorem dX3_digestOfRow_53 : decode cX3_digestOfRow 53 = .ok (.i2l, 1) := by decide +kernel
theorem dX3_digestOfRow_54 : decode cX3_digestOfRow 54 = .ok (.invokestatic 166, 3) := by decide +kernel
theorem dX3_digestOfRow_57 : decode cX3_digestOfRow 57 = .ok (.lstore 4, 2) := by decide +kernel
theorem dX3_digestOfRow_59 : decode cX3_digestOfRow 59 = .ok (.lload 4, 2) := by decide +kernel
theorem dX3_digestOfRow_61 : decode cX3_digestOfRow 61 = .ok (.aload_n 0, 1) := by decide +kernel
theorem dX3_digestOfRow_62 : decode cX3_digestOfRow 62 = .ok (.iload 6, 2) := by decide +kernel
theorem dX3_digestOfRow_64 : decode cX3_digestOfRow 64 = .ok (.iload_n 3, 1) := by decide +kernel
theorem dX3_digestOfRow_65 : decode cX3_digestOfRow 65 = .ok (.invokevirtual 220, 3) := by decide +kernel
theorem dX3_digestOfRow_68 : decode cX3_digestOfRow 68 = .ok (.i2l, 1) := by decide +kernel
theorem dX3_digestOfRow_69 : decode cX3_digestOfRow 69 = .ok (.invokestatic 166, 3) := by decide +kernel
theorem dX3_digestOfRow_72 : decode cX3_digestOfRow 72 = .ok (.lstore 4, 2) := by decide +kernel
theorem dX3_digestOfRow_74 : decode cX3_digestOfRow 74 = .ok (.lload 4, 2) := by decide +kernel
theorem dX3_digestOfRow_76 : decode cX3_digestOfRow 76 = .ok (.aload_n 0, 1) := by decide +kernel
theorem dX3_digestOfRow_77 : decode cX3_digestOfRow 77 = .ok (.iload 6, 2) := by decide +kernel
theorem dX3_digestOfRow_79 : decode cX3_digestOfRow 79 = .ok (.iload_n 3, 1) := by decide +kernel
theorem dX3_digestOfRow_80 : decode cX3_digestOfRow 80 = .ok (.invokevirtual 223, 3) := by decide +kernel
theorem dX3_digestOfRow_83 : decode cX3_digestOfRow 83 = .ok (.invokestatic 194, 3) := by decide +kernel
theorem dX3_digestOfRow_86 : decode cX3_digestOfRow 86 = .ok (.invokestatic 166, 3) := by decide +kernel
theorem dX3_digestOfRow_89 : decode cX3_digestOfRow 89 = .ok (.lstore 4, 2) := by decide +kernel
theorem dX3_digestOfRow_91 : decode cX3_digestOfRow 91 = .ok (.iinc 6 1, 3) := by decide +kernel
theorem dX3_digestOfRow_94 : decode cX3_digestOfRow 94 = .ok (.goto (-79), 3) := by decide +kernel
theorem dX3_digestOfRow_97 : decode cX3_digestOfRow 97 = .ok (.lload 4, 2) := by decide +kernel
theorem dX3_digestOfRow_99 : decode cX3_digestOfRow 99 = .ok (.lreturn, 1) := by decide +kernel
theorem dX3_mixed_0 : decode cX3_mixed 0 = .ok (.lload_n 0, 1) := by decide +kernel
theorem dX3_mixed_1 : decode cX3_mixed 1 = .ok (.ldc2_w 226, 3) := by decide +kernel
theorem dX3_mixed_4 : decode cX3_mixed 4 = .ok (.lmul, 1) := by decide +kernel
theorem dX3_mixed_5 : decode cX3_mixed 5 = .ok (.lload_n 2, 1) := by decide +kernel
theorem dX3_mixed_6 : decode cX3_mixed 6 = .ok (.ladd, 1) := by decide +kernel
theorem dX3_mixed_7 : decode cX3_mixed 7 = .ok (.lreturn, 1) := by decide +kernel
theorem dX3_asNumber_0 : decode cX3_asNumber 0 = .ok (.iload_n 0, 1) := by decide +kernel
theorem dX3_asNumber_1 : decode cX3_asNumber 1 = .ok (.ifCond .eq 7, 3) := by decide +kernel
theorem dX3_asNumber_4 : decode cX3_asNumber 4 = .ok (.lconst 1, 1) := by decide +kernel
theorem dX3_asNumber_5 : decode cX3_asNumber 5 = .ok (.goto 4, 3) := by decide +kernel
theorem dX3_asNumber_8 : decode cX3_asNumber 8 = .ok (.lconst 0, 1) := by decide +kernel
theorem dX3_asNumber_9 : decode cX3_asNumber 9 = .ok (.lreturn, 1) := by decide +kernel
set_option maxRecDepth 20000 in
theorem ggX3_frostBehind_X1_becomeLike : GoodIn wsX3_frostBehind wsX1_becomeLike := goodIn_r _ [8, 9, 10, 11, 12, 13, 14, 15, 16, 17, 18, 19, 20, 21, 99, 100, 101, 102, 103, 104] (by decide +kernel) (by decide +kernel)
set_option maxRecDepth 20000 in
theorem gX3_frostBehind_X1_becomeLike : GoodIn wsX3_frostBehind (wsV RX3 155 RX1 yX1_becomeLike wsX1_becomeLike) := goodIn_app (goodIn_of _ (by decide +kernel)) ggX3_frostBehind_X1_becomeLike
set_option maxRecDepth 20000 in
theorem ggX3_frostBehind_X2_freezesBy : GoodIn wsX3_frostBehind wsX2_freezesBy := goodIn_r _ [26, 27, 28, 29, 30, 25, 31, 32, 105, 106, 107] (by decide +kernel) (by decide +kernel)
set_option maxRecDepth 20000 in
theorem gX3_frostBehind_X2_freezesBy : GoodIn wsX3_frostBehind (wsV RX3 91 RX2 yX2_freezesBy wsX2_freezesBy) := goodIn_app (goodIn_of _ (by decide +kernel)) ggX3_frostBehind_X2_freezesBy
set_option maxRecDepth 20000 in
theorem ggX3_frostBehind_X2_staysBy : GoodIn wsX3_frostBehind wsX2_staysBy := goodIn_r _ [36, 37, 28, 29, 30, 25, 31, 32, 105, 106, 107] (by decide +kernel) (by decide +kernel)
set_option maxRecDepth 20000 in
theorem gX3_frostBehind_X2_staysBy : GoodIn wsX3_frostBehind (wsV RX3 95 RX2 yX2_staysBy wsX2_staysBy) := goodIn_app (goodIn_of _ (by decide +kernel)) ggX3_frostBehind_X2_staysBy
set_option maxRecDepth 20000 in
theorem ggX3_frostBehind_X1_step : GoodIn wsX3_frostBehind wsX1_step := goodIn_r _ [41, 10, 42, 43, 44, 45, 7, 46, 9, 47, 48, 49, 50, 11, 51, 52, 53, 54, 55, 56, 57, 58, 12, 59, 60, 61, 62, 63, 64, 65, 66, 67, 68, 69, 70, 71, 72, 73, 74, 75, 76, 77, 78, 79, 80, 21, 81, 82, 83, 84, 85, 86, 87, 88, 99, 100, 101, 102, 103, 104] (by decide +kernel) (by decide +kernel)
set_option maxRecDepth 20000 in
theorem gX3_frostBehind_X1_step : GoodIn wsX3_frostBehind (wsV RX3 98 RX1 yX1_step wsX1_step) := goodIn_app (goodIn_of _ (by decide +kernel)) ggX3_frostBehind_X1_step
set_option maxRecDepth 20000 in
theorem ggX3_frostBehind_X1_countFrost : GoodIn wsX3_frostBehind wsX1_countFrost := goodIn_r _ [92, 10, 55, 56, 57, 7, 58, 12, 70, 71, 72, 73, 74, 75, 76, 99, 100, 101, 102, 103, 104] (by decide +kernel) (by decide +kernel)
set_option maxRecDepth 20000 in
theorem gX3_frostBehind_X1_countFrost : GoodIn wsX3_frostBehind (wsV RX3 104 RX1 yX1_countFrost wsX1_countFrost) := goodIn_app (goodIn_of _ (by decide +kernel)) ggX3_frostBehind_X1_countFrost
theorem dX3_frostBehind_0 : decode cX3_frostBehind 0 = .ok (.aload_n 0, 1) := by decide +kernel
theorem dX3_frostBehind_1 : decode cX3_frostBehind 1 = .ok (.getfield 16, 3) := by decide +kernel
theorem dX3_frostBehind_4 : decode cX3_frostBehind 4 = .ok (.aload_n 0, 1) := by decide +kernel
theorem dX3_frostBehind_5 : decode cX3_frostBehind 5 = .ok (.getfield 10, 3) := by decide +kernel
theorem dX3_frostBehind_8 : decode cX3_frostBehind 8 = .ok (.invokevirtual 155, 3) := by decide +kernel
theorem dX3_frostBehind_11 : decode cX3_frostBehind 11 = .ok (.iconst 0, 1) := by decide +kernel
theorem dX3_frostBehind_12 : decode cX3_frostBehind 12 = .ok (.istore_n 3, 1) := by decide +kernel
theorem dX3_frostBehind_13 : decode cX3_frostBehind 13 = .ok (.iload_n 3, 1) := by decide +kernel
theorem dX3_frostBehind_14 : decode cX3_frostBehind 14 = .ok (.iload_n 1, 1) := by decide +kernel
theorem dX3_frostBehind_15 : decode cX3_frostBehind 15 = .ok (.if_icmp .ge 33, 3) := by decide +kernel
theorem dX3_frostBehind_18 : decode cX3_frostBehind 18 = .ok (.aload_n 0, 1) := by decide +kernel
theorem dX3_frostBehind_19 : decode cX3_frostBehind 19 = .ok (.getfield 16, 3) := by decide +kernel
theorem dX3_frostBehind_22 : decode cX3_frostBehind 22 = .ok (.aload_n 0, 1) := by decide +kernel
theorem dX3_frostBehind_23 : decode cX3_frostBehind 23 = .ok (.getfield 29, 3) := by decide +kernel
theorem dX3_frostBehind_26 : decode cX3_frostBehind 26 = .ok (.iload_n 2, 1) := by decide +kernel
theorem dX3_frostBehind_27 : decode cX3_frostBehind 27 = .ok (.invokevirtual 91, 3) := by decide +kernel
theorem dX3_frostBehind_30 : decode cX3_frostBehind 30 = .ok (.aload_n 0, 1) := by decide +kernel
theorem dX3_frostBehind_31 : decode cX3_frostBehind 31 = .ok (.getfield 29, 3) := by decide +kernel
theorem dX3_frostBehind_34 : decode cX3_frostBehind 34 = .ok (.iload_n 2, 1) := by decide +kernel
theorem dX3_frostBehind_35 : decode cX3_frostBehind 35 = .ok (.invokevirtual 95, 3) := by decide +kernel
theorem dX3_frostBehind_38 : decode cX3_frostBehind 38 = .ok (.invokevirtual 98, 3) := by decide +kernel
theorem dX3_frostBehind_41 : decode cX3_frostBehind 41 = .ok (.pop, 1) := by decide +kernel
theorem dX3_frostBehind_42 : decode cX3_frostBehind 42 = .ok (.iinc 3 1, 3) := by decide +kernel
theorem dX3_frostBehind_45 : decode cX3_frostBehind 45 = .ok (.goto (-32), 3) := by decide +kernel
theorem dX3_frostBehind_48 : decode cX3_frostBehind 48 = .ok (.aload_n 0, 1) := by decide +kernel
theorem dX3_frostBehind_49 : decode cX3_frostBehind 49 = .ok (.getfield 16, 3) := by decide +kernel
theorem dX3_frostBehind_52 : decode cX3_frostBehind 52 = .ok (.invokevirtual 104, 3) := by decide +kernel
theorem dX3_frostBehind_55 : decode cX3_frostBehind 55 = .ok (.ireturn, 1) := by decide +kernel
set_option maxRecDepth 20000 in
theorem ggX3_requireCell_X1_hasCell : GoodIn wsX3_requireCell wsX1_hasCell := goodIn_r _ [8, 9, 10, 11, 12, 7, 13, 14, 21, 22, 23, 24, 25, 26] (by decide +kernel) (by decide +kernel)
set_option maxRecDepth 20000 in
theorem gX3_requireCell_X1_hasCell : GoodIn wsX3_requireCell (wsV RX3 228 RX1 yX1_hasCell wsX1_hasCell) := goodIn_app (goodIn_of _ (by decide +kernel)) ggX3_requireCell_X1_hasCell
theorem dX3_requireCell_0 : decode cX3_requireCell 0 = .ok (.aload_n 0, 1) := by decide +kernel
theorem dX3_requireCell_1 : decode cX3_requireCell 1 = .ok (.getfield 10, 3) := by decide +kernel
theorem dX3_requireCell_4 : decode cX3_requireCell 4 = .ok (.iload_n 1, 1) := by decide +kernel
theorem dX3_requireCell_5 : decode cX3_requireCell 5 = .ok (.iload_n 2, 1) := by decide +kernel
theorem dX3_requireCell_6 : decode cX3_requireCell 6 = .ok (.invokevirtual 228, 3) := by decide +kernel
theorem dX3_requireCell_9 : decode cX3_requireCell 9 = .ok (.ifCond .ne 13, 3) := by decide +kernel
theorem dX3_requireCell_12 : decode cX3_requireCell 12 = .ok (.new 83, 3) := by decide +kernel
theorem dX3_requireCell_15 : decode cX3_requireCell 15 = .ok (.dup, 1) := by decide +kernel
theorem dX3_requireCell_16 : decode cX3_requireCell 16 = .ok (.ldc 231, 2) := by decide +kernel
theorem dX3_requireCell_18 : decode cX3_requireCell 18 = .ok (.invokespecial 87, 3) := by decide +kernel
theorem dX3_requireCell_21 : decode cX3_requireCell 21 = .ok (.athrow, 1) := by decide +kernel
theorem dX3_requireCell_22 : decode cX3_requireCell 22 = .ok (.return_, 1) := by decide +kernel
theorem dX3_requireWithin_0 : decode cX3_requireWithin 0 = .ok (.iload_n 0, 1) := by decide +kernel
theorem dX3_requireWithin_1 : decode cX3_requireWithin 1 = .ok (.iload_n 1, 1) := by decide +kernel
theorem dX3_requireWithin_2 : decode cX3_requireWithin 2 = .ok (.if_icmp .lt 8, 3) := by decide +kernel
theorem dX3_requireWithin_5 : decode cX3_requireWithin 5 = .ok (.iload_n 0, 1) := by decide +kernel
theorem dX3_requireWithin_6 : decode cX3_requireWithin 6 = .ok (.iload_n 2, 1) := by decide +kernel
theorem dX3_requireWithin_7 : decode cX3_requireWithin 7 = .ok (.if_icmp .le 13, 3) := by decide +kernel
theorem dX3_requireWithin_10 : decode cX3_requireWithin 10 = .ok (.new 233, 3) := by decide +kernel
theorem dX3_requireWithin_13 : decode cX3_requireWithin 13 = .ok (.dup, 1) := by decide +kernel
theorem dX3_requireWithin_14 : decode cX3_requireWithin 14 = .ok (.ldc 235, 2) := by decide +kernel
theorem dX3_requireWithin_16 : decode cX3_requireWithin 16 = .ok (.invokespecial 237, 3) := by decide +kernel
theorem dX3_requireWithin_19 : decode cX3_requireWithin 19 = .ok (.athrow, 1) := by decide +kernel
theorem dX3_requireWithin_20 : decode cX3_requireWithin 20 = .ok (.return_, 1) := by decide +kernel
theorem dX4_init_0 : decode cX4_init 0 = .ok (.aload_n 0, 1) := by decide +kernel
theorem dX4_init_1 : decode cX4_init 1 = .ok (.invokespecial 1, 3) := by decide +kernel
theorem dX4_init_4 : decode cX4_init 4 = .ok (.aload_n 0, 1) := by decide +kernel
theorem dX4_init_5 : decode cX4_init 5 = .ok (.bipush 8, 2) := by decide +kernel
theorem dX4_init_7 : decode cX4_init 7 = .ok (.bipush 8, 2) := by decide +kernel
theorem dX4_init_9 : decode cX4_init 9 = .ok (.multianewarray 7 2, 4) := by decide +kernel
theorem dX4_init_13 : decode cX4_init 13 = .ok (.putfield 9, 3) := by decide +kernel
theorem dX4_init_16 : decode cX4_init 16 = .ok (.aload_n 0, 1) := by decide +kernel
theorem dX4_init_17 : decode cX4_init 17 = .ok (.bipush 8, 2) := by decide +kernel
theorem dX4_init_19 : decode cX4_init 19 = .ok (.bipush 8, 2) := by decide +kernel
theorem dX4_init_21 : decode cX4_init 21 = .ok (.multianewarray 14 2, 4) := by decide +kernel
theorem dX4_init_25 : decode cX4_init 25 = .ok (.putfield 16, 3) := by decide +kernel
theorem dX4_init_28 : decode cX4_init 28 = .ok (.aload_n 0, 1) := by decide +kernel
theorem dX4_init_29 : decode cX4_init 29 = .ok (.iconst 1, 1) := by decide +kernel
theorem dX4_init_30 : decode cX4_init 30 = .ok (.anewarray 19, 3) := by decide +kernel
theorem dX4_init_33 : decode cX4_init 33 = .ok (.dup, 1) := by decide +kernel
theorem dX4_init_34 : decode cX4_init 34 = .ok (.iconst 0, 1) := by decide +kernel
theorem dX4_init_35 : decode cX4_init 35 = .ok (.iconst 2, 1) := by decide +kernel
theorem dX4_init_36 : decode cX4_init 36 = .ok (.newarray .int, 2) := by decide +kernel
theorem dX4_init_38 : decode cX4_init 38 = .ok (.dup, 1) := by decide +kernel
theorem dX4_init_39 : decode cX4_init 39 = .ok (.iconst 0, 1) := by decide +kernel
theorem dX4_init_40 : decode cX4_init 40 = .ok (.bipush 8, 2) := by decide +kernel
theorem dX4_init_42 : decode cX4_init 42 = .ok (.iastore, 1) := by decide +kernel
theorem dX4_init_43 : decode cX4_init 43 = .ok (.dup, 1) := by decide +kernel
theorem dX4_init_44 : decode cX4_init 44 = .ok (.iconst 1, 1) := by decide +kernel
theorem dX4_init_45 : decode cX4_init 45 = .ok (.bipush 12, 2) := by decide +kernel
theorem dX4_init_47 : decode cX4_init 47 = .ok (.iastore, 1) := by decide +kernel
theorem dX4_init_48 : decode cX4_init 48 = .ok (.aastore, 1) := by decide +kernel
theorem dX4_init_49 : decode cX4_init 49 = .ok (.putfield 21, 3) := by decide +kernel
theorem dX4_init_52 : decode cX4_init 52 = .ok (.return_, 1) := by decide +kernel
theorem dX4_with_0 : decode cX4_with 0 = .ok (.aload_n 0, 1) := by decide +kernel
theorem dX4_with_1 : decode cX4_with 1 = .ok (.arraylength, 1) := by decide +kernel
theorem dX4_with_2 : decode cX4_with 2 = .ok (.iconst 1, 1) := by decide +kernel
theorem dX4_with_3 : decode cX4_with 3 = .ok (.iadd, 1) := by decide +kernel
theorem dX4_with_4 : decode cX4_with 4 = .ok (.anewarray 19, 3) := by decide +kernel
theorem dX4_with_7 : decode cX4_with 7 = .ok (.astore_n 2, 1) := by decide +kernel
theorem dX4_with_8 : decode cX4_with 8 = .ok (.iconst 0, 1) := by decide +kernel
theorem dX4_with_9 : decode cX4_with 9 = .ok (.istore_n 3, 1) := by decide +kernel
theorem dX4_with_10 : decode cX4_with 10 = .ok (.iload_n 3, 1) := by decide +kernel
theorem dX4_with_11 : decode cX4_with 11 = .ok (.aload_n 0, 1) := by decide +kernel
theorem dX4_with_12 : decode cX4_with 12 = .ok (.arraylength, 1) := by decide +kernel
theorem dX4_with_13 : decode cX4_with 13 = .ok (.if_icmp .ge 15, 3) := by decide +kernel
theorem dX4_with_16 : decode cX4_with 16 = .ok (.aload_n 2, 1) := by decide +kernel
theorem dX4_with_17 : decode cX4_with 17 = .ok (.iload_n 3, 1) := by decide +kernel
theorem dX4_with_18 : decode cX4_with 18 = .ok (.aload_n 0, 1) := by decide +kernel
theorem dX4_with_19 : decode cX4_with 19 = .ok (.iload_n 3, 1) := by decide +kernel
theorem dX4_with_20 : decode cX4_with 20 = .ok (.aaload, 1) := by decide +kernel
theorem dX4_with_21 : decode cX4_with 21 = .ok (.aastore, 1) := by decide +kernel
theorem dX4_with_22 : decode cX4_with 22 = .ok (.iinc 3 1, 3) := by decide +kernel
theorem dX4_with_25 : decode cX4_with 25 = .ok (.goto (-15), 3) := by decide +kernel
theorem dX4_with_28 : decode cX4_with 28 = .ok (.aload_n 2, 1) := by decide +kernel
theorem dX4_with_29 : decode cX4_with 29 = .ok (.aload_n 0, 1) := by decide +kernel
theorem dX4_with_30 : decode cX4_with 30 = .ok (.arraylength, 1) := by decide +kernel
theorem dX4_with_31 : decode cX4_with 31 = .ok (.aload_n 1, 1) := by decide +kernel
theorem dX4_with_32 : decode cX4_with 32 = .ok (.aastore, 1) := by decide +kernel
theorem dX4_with_33 : decode cX4_with 33 = .ok (.aload_n 2, 1) := by decide +kernel
theorem dX4_with_34 : decode cX4_with 34 = .ok (.areturn, 1) := by decide +kernel
set_option maxRecDepth 20000 in
theorem ggX4_copy_X4_init : GoodIn wsX4_copy wsX4_init := goodIn_r _ [22, 23, 24, 25, 26, 27, 4, 28, 29, 11, 15, 19, 34, 35, 36, 37, 38, 39] (by decide +kernel) (by decide +kernel)
set_option maxRecDepth 20000 in
theorem gX4_copy_X4_init : GoodIn wsX4_copy (wsX4_init) := ggX4_copy_X4_init
set_option maxRecDepth 20000 in
theorem ggX4_copy_X4_lay : GoodIn wsX4_copy wsX4_lay := goodIn_r _ [33, 26, 27, 4, 28, 29, 11, 34, 35, 36, 37, 38, 39] (by decide +kernel) (by decide +kernel)
set_option maxRecDepth 20000 in
theorem gX4_copy_X4_lay : GoodIn wsX4_copy (wsV RX4 25 RX4 yX4_lay wsX4_lay) := goodIn_app (goodIn_of _ (by decide +kernel)) ggX4_copy_X4_lay
theorem dX4_copy_0 : decode cX4_copy 0 = .ok (.new 10, 3) := by decide +kernel
theorem dX4_copy_3 : decode cX4_copy 3 = .ok (.dup, 1) := by decide +kernel
theorem dX4_copy_4 : decode cX4_copy 4 = .ok (.invokespecial 24, 3) := by decide +kernel
theorem dX4_copy_7 : decode cX4_copy 7 = .ok (.astore_n 1, 1) := by decide +kernel
theorem dX4_copy_8 : decode cX4_copy 8 = .ok (.aload_n 1, 1) := by decide +kernel
theorem dX4_copy_9 : decode cX4_copy 9 = .ok (.aload_n 0, 1) := by decide +kernel
theorem dX4_copy_10 : decode cX4_copy 10 = .ok (.getfield 9, 3) := by decide +kernel
theorem dX4_copy_13 : decode cX4_copy 13 = .ok (.iconst 0, 1) := by decide +kernel
theorem dX4_copy_14 : decode cX4_copy 14 = .ok (.aaload, 1) := by decide +kernel
theorem dX4_copy_15 : decode cX4_copy 15 = .ok (.arraylength, 1) := by decide +kernel
theorem dX4_copy_16 : decode cX4_copy 16 = .ok (.aload_n 0, 1) := by decide +kernel
theorem dX4_copy_17 : decode cX4_copy 17 = .ok (.getfield 9, 3) := by decide +kernel
theorem dX4_copy_20 : decode cX4_copy 20 = .ok (.arraylength, 1) := by decide +kernel
theorem dX4_copy_21 : decode cX4_copy 21 = .ok (.invokevirtual 25, 3) := by decide +kernel
theorem dX4_copy_24 : decode cX4_copy 24 = .ok (.iconst 0, 1) := by decide +kernel
theorem dX4_copy_25 : decode cX4_copy 25 = .ok (.istore_n 2, 1) := by decide +kernel
theorem dX4_copy_26 : decode cX4_copy 26 = .ok (.iload_n 2, 1) := by decide +kernel
theorem dX4_copy_27 : decode cX4_copy 27 = .ok (.aload_n 0, 1) := by decide +kernel
theorem dX4_copy_28 : decode cX4_copy 28 = .ok (.getfield 9, 3) := by decide +kernel
theorem dX4_copy_31 : decode cX4_copy 31 = .ok (.arraylength, 1) := by decide +kernel
theorem dX4_copy_32 : decode cX4_copy 32 = .ok (.if_icmp .ge 45, 3) := by decide +kernel
theorem dX4_copy_35 : decode cX4_copy 35 = .ok (.aload_n 1, 1) := by decide +kernel
theorem dX4_copy_36 : decode cX4_copy 36 = .ok (.getfield 9, 3) := by decide +kernel
theorem dX4_copy_39 : decode cX4_copy 39 = .ok (.iload_n 2, 1) := by decide +kernel
theorem dX4_copy_40 : decode cX4_copy 40 = .ok (.aload_n 0, 1) := by decide +kernel
theorem dX4_copy_41 : decode cX4_copy 41 = .ok (.getfield 9, 3) := by decide +kernel
theorem dX4_copy_44 : decode cX4_copy 44 = .ok (.iload_n 2, 1) := by decide +kernel
theorem dX4_copy_45 : decode cX4_copy 45 = .ok (.aaload, 1) := by decide +kernel
theorem dX4_copy_46 : decode cX4_copy 46 = .ok (.invokevirtual 29, 3) := by decide +kernel
theorem dX4_copy_49 : decode cX4_copy 49 = .ok (.checkcast 30, 3) := by decide +kernel
theorem dX4_copy_52 : decode cX4_copy 52 = .ok (.aastore, 1) := by decide +kernel
theorem dX4_copy_53 : decode cX4_copy 53 = .ok (.aload_n 1, 1) := by decide +kernel
theorem dX4_copy_54 : decode cX4_copy 54 = .ok (.getfield 16, 3) := by decide +kernel
theorem dX4_copy_57 : decode cX4_copy 57 = .ok (.iload_n 2, 1) := by decide +kernel
theorem dX4_copy_58 : decode cX4_copy 58 = .ok (.aload_n 0, 1) := by decide +kernel
theorem dX4_copy_59 : decode cX4_copy 59 = .ok (.getfield 16, 3) := by decide +kernel
theorem dX4_copy_62 : decode cX4_copy 62 = .ok (.iload_n 2, 1) := by decide +kernel
theorem dX4_copy_63 : decode cX4_copy 63 = .ok (.aaload, 1) := by decide +kernel
theorem dX4_copy_64 : decode cX4_copy 64 = .ok (.invokevirtual 35, 3) := by decide +kernel
theorem dX4_copy_67 : decode cX4_copy 67 = .ok (.checkcast 19, 3) := by decide +kernel
theorem dX4_copy_70 : decode cX4_copy 70 = .ok (.aastore, 1) := by decide +kernel
theorem dX4_copy_71 : decode cX4_copy 71 = .ok (.iinc 2 1, 3) := by decide +kernel
theorem dX4_copy_74 : decode cX4_copy 74 = .ok (.goto (-48), 3) := by decide +kernel
theorem dX4_copy_77 : decode cX4_copy 77 = .ok (.aload_n 1, 1) := by decide +kernel
theorem dX4_copy_78 : decode cX4_copy 78 = .ok (.aload_n 0, 1) := by decide +kernel
theorem dX4_copy_79 : decode cX4_copy 79 = .ok (.getfield 36, 3) := by decide +kernel
theorem dX4_copy_82 : decode cX4_copy 82 = .ok (.putfield 36, 3) := by decide +kernel
theorem dX4_copy_85 : decode cX4_copy 85 = .ok (.aload_n 1, 1) := by decide +kernel
theorem dX4_copy_86 : decode cX4_copy 86 = .ok (.aload_n 0, 1) := by decide +kernel
theorem dX4_copy_87 : decode cX4_copy 87 = .ok (.getfield 40, 3) := by decide +kernel
theorem dX4_copy_90 : decode cX4_copy 90 = .ok (.putfield 40, 3) := by decide +kernel
theorem dX4_copy_93 : decode cX4_copy 93 = .ok (.aload_n 1, 1) := by decide +kernel
theorem dX4_copy_94 : decode cX4_copy 94 = .ok (.aload_n 0, 1) := by decide +kernel
theorem dX4_copy_95 : decode cX4_copy 95 = .ok (.getfield 43, 3) := by decide +kernel
theorem dX4_copy_98 : decode cX4_copy 98 = .ok (.putfield 43, 3) := by decide +kernel
theorem dX4_copy_101 : decode cX4_copy 101 = .ok (.aload_n 1, 1) := by decide +kernel
theorem dX4_copy_102 : decode cX4_copy 102 = .ok (.aload_n 0, 1) := by decide +kernel
theorem dX4_copy_103 : decode cX4_copy 103 = .ok (.getfield 21, 3) := by decide +kernel
theorem dX4_copy_106 : decode cX4_copy 106 = .ok (.putfield 21, 3) := by decide +kernel
theorem dX4_copy_109 : decode cX4_copy 109 = .ok (.aload_n 1, 1) := by decide +kernel
theorem dX4_copy_110 : decode cX4_copy 110 = .ok (.areturn, 1) := by decide +kernel
theorem dX4_lay_0 : decode cX4_lay 0 = .ok (.aload_n 0, 1) := by decide +kernel
theorem dX4_lay_1 : decode cX4_lay 1 = .ok (.iload_n 2, 1) := by decide +kernel
theorem dX4_lay_2 : decode cX4_lay 2 = .ok (.iload_n 1, 1) := by decide +kernel
theorem dX4_lay_3 : decode cX4_lay 3 = .ok (.multianewarray 7 2, 4) := by decide +kernel
theorem dX4_lay_7 : decode cX4_lay 7 = .ok (.putfield 9, 3) := by decide +kernel
theorem dX4_lay_10 : decode cX4_lay 10 = .ok (.aload_n 0, 1) := by decide +kernel
theorem dX4_lay_11 : decode cX4_lay 11 = .ok (.iload_n 2, 1) := by decide +kernel
theorem dX4_lay_12 : decode cX4_lay 12 = .ok (.iload_n 1, 1) := by decide +kernel
theorem dX4_lay_13 : decode cX4_lay 13 = .ok (.multianewarray 14 2, 4) := by decide +kernel
theorem dX4_lay_17 : decode cX4_lay 17 = .ok (.putfield 16, 3) := by decide +kernel
theorem dX4_lay_20 : decode cX4_lay 20 = .ok (.return_, 1) := by decide +kernel
theorem dX4_isCell_0 : decode cX4_isCell 0 = .ok (.iload_n 2, 1) := by decide +kernel
theorem dX4_isCell_1 : decode cX4_isCell 1 = .ok (.ifCond .lt 31, 3) := by decide +kernel
theorem dX4_isCell_4 : decode cX4_isCell 4 = .ok (.iload_n 2, 1) := by decide +kernel
theorem dX4_isCell_5 : decode cX4_isCell 5 = .ok (.aload_n 0, 1) := by decide +kernel
theorem dX4_isCell_6 : decode cX4_isCell 6 = .ok (.getfield 9, 3) := by decide +kernel
theorem dX4_isCell_9 : decode cX4_isCell 9 = .ok (.arraylength, 1) := by decide +kernel
theorem dX4_isCell_10 : decode cX4_isCell 10 = .ok (.if_icmp .ge 22, 3) := by decide +kernel
theorem dX4_isCell_13 : decode cX4_isCell 13 = .ok (.iload_n 1, 1) := by decide +kernel
theorem dX4_isCell_14 : decode cX4_isCell 14 = .ok (.ifCond .lt 18, 3) := by decide +kernel
theorem dX4_isCell_17 : decode cX4_isCell 17 = .ok (.iload_n 1, 1) := by decide +kernel
theorem dX4_isCell_18 : decode cX4_isCell 18 = .ok (.aload_n 0, 1) := by decide +kernel
theorem dX4_isCell_19 : decode cX4_isCell 19 = .ok (.getfield 9, 3) := by decide +kernel
theorem dX4_isCell_22 : decode cX4_isCell 22 = .ok (.iconst 0, 1) := by decide +kernel
theorem dX4_isCell_23 : decode cX4_isCell 23 = .ok (.aaload, 1) := by decide +kernel
theorem dX4_isCell_24 : decode cX4_isCell 24 = .ok (.arraylength, 1) := by decide +kernel
theorem dX4_isCell_25 : decode cX4_isCell 25 = .ok (.if_icmp .ge 7, 3) := by decide +kernel
theorem dX4_isCell_28 : decode cX4_isCell 28 = .ok (.iconst 1, 1) := by decide +kernel
theorem dX4_isCell_29 : decode cX4_isCell 29 = .ok (.goto 4, 3) := by decide +kernel
theorem dX4_isCell_32 : decode cX4_isCell 32 = .ok (.iconst 0, 1) := by decide +kernel
theorem dX4_isCell_33 : decode cX4_isCell 33 = .ok (.ireturn, 1) := by decide +kernel
set_option maxRecDepth 20000 in
theorem ggX4_around_X4_isCell : GoodIn wsX4_around wsX4_isCell := goodIn_r _ [7, 2, 8, 9, 10, 11, 12, 13] (by decide +kernel) (by decide +kernel)
set_option maxRecDepth 20000 in
theorem gX4_around_X4_isCell : GoodIn wsX4_around (wsV RX4 46 RX4 yX4_isCell wsX4_isCell) := goodIn_app (goodIn_of _ (by decide +kernel)) ggX4_around_X4_isCell
theorem dX4_around_0 : decode cX4_around 0 = .ok (.iconst 0, 1) := by decide +kernel
theorem dX4_around_1 : decode cX4_around 1 = .ok (.istore_n 3, 1) := by decide +kernel
theorem dX4_around_2 : decode cX4_around 2 = .ok (.iconst (-1), 1) := by decide +kernel
theorem dX4_around_3 : decode cX4_around 3 = .ok (.istore 4, 2) := by decide +kernel
theorem dX4_around_5 : decode cX4_around 5 = .ok (.iload 4, 2) := by decide +kernel
theorem dX4_around_7 : decode cX4_around 7 = .ok (.iconst 2, 1) := by decide +kernel
theorem dX4_around_8 : decode cX4_around 8 = .ok (.if_icmp .ge 132, 3) := by decide +kernel
theorem dX4_around_11 : decode cX4_around 11 = .ok (.iconst (-1), 1) := by decide +kernel
theorem dX4_around_12 : decode cX4_around 12 = .ok (.istore 5, 2) := by decide +kernel
theorem dX4_around_14 : decode cX4_around 14 = .ok (.iload 5, 2) := by decide +kernel
theorem dX4_around_16 : decode cX4_around 16 = .ok (.iconst 2, 1) := by decide +kernel
theorem dX4_around_17 : decode cX4_around 17 = .ok (.if_icmp .ge 117, 3) := by decide +kernel
theorem dX4_around_20 : decode cX4_around 20 = .ok (.iload 4, 2) := by decide +kernel
theorem dX4_around_22 : decode cX4_around 22 = .ok (.ifCond .ne 11, 3) := by decide +kernel
theorem dX4_around_25 : decode cX4_around 25 = .ok (.iload 5, 2) := by decide +kernel
theorem dX4_around_27 : decode cX4_around 27 = .ok (.ifCond .ne 6, 3) := by decide +kernel
theorem dX4_around_30 : decode cX4_around 30 = .ok (.goto 98, 3) := by decide +kernel
theorem dX4_around_33 : decode cX4_around 33 = .ok (.iload_n 2, 1) := by decide +kernel
theorem dX4_around_34 : decode cX4_around 34 = .ok (.iload 4, 2) := by decide +kernel
theorem dX4_around_36 : decode cX4_around 36 = .ok (.iadd, 1) := by decide +kernel
theorem dX4_around_37 : decode cX4_around 37 = .ok (.istore 6, 2) := by decide +kernel
theorem dX4_around_39 : decode cX4_around 39 = .ok (.iload_n 1, 1) := by decide +kernel
theorem dX4_around_40 : decode cX4_around 40 = .ok (.iload 5, 2) := by decide +kernel
theorem dX4_around_42 : decode cX4_around 42 = .ok (.iadd, 1) := by decide +kernel
theorem dX4_around_43 : decode cX4_around 43 = .ok (.istore 7, 2) := by decide +kernel
theorem dX4_around_45 : decode cX4_around 45 = .ok (.aload_n 0, 1) := by decide +kernel
theorem dX4_around_46 : decode cX4_around 46 = .ok (.getfield 36, 3) := by decide +kernel
theorem dX4_around_49 : decode cX4_around 49 = .ok (.iconst 2, 1) := by decide +kernel
theorem dX4_around_50 : decode cX4_around 50 = .ok (.if_icmp .ne 39, 3) := by decide +kernel
theorem dX4_around_53 : decode cX4_around 53 = .ok (.iload 6, 2) := by decide +kernel
theorem dX4_around_55 : decode cX4_around 55 = .ok (.aload_n 0, 1) := by decide +kernel
theorem dX4_around_56 : decode cX4_around 56 = .ok (.getfield 9, 3) := by decide +kernel
theorem dX4_around_59 : decode cX4_around 59 = .ok (.arraylength, 1) := by decide +kernel
theorem dX4_around_60 : decode cX4_around 60 = .ok (.iadd, 1) := by decide +kernel
theorem dX4_around_61 : decode cX4_around 61 = .ok (.aload_n 0, 1) := by decide +kernel
theorem dX4_around_62 : decode cX4_around 62 = .ok (.getfield 9, 3) := by decide +kernel
theorem dX4_around_65 : decode cX4_around 65 = .ok (.arraylength, 1) := by decide +kernel
theorem dX4_around_66 : decode cX4_around 66 = .ok (.irem, 1) := by decide +kernel
theorem dX4_around_67 : decode cX4_around 67 = .ok (.istore 6, 2) := by decide +kernel
theorem dX4_around_69 : decode cX4_around 69 = .ok (.iload 7, 2) := by decide +kernel
theorem dX4_around_71 : decode cX4_around 71 = .ok (.aload_n 0, 1) := by decide +kernel
theorem dX4_around_72 : decode cX4_around 72 = .ok (.getfield 9, 3) := by decide +kernel
theorem dX4_around_75 : decode cX4_around 75 = .ok (.iconst 0, 1) := by decide +kernel
theorem dX4_around_76 : decode cX4_around 76 = .ok (.aaload, 1) := by decide +kernel
theorem dX4_around_77 : decode cX4_around 77 = .ok (.arraylength, 1) := by decide +kernel
theorem dX4_around_78 : decode cX4_around 78 = .ok (.iadd, 1) := by decide +kernel
theorem dX4_around_79 : decode cX4_around 79 = .ok (.aload_n 0, 1) := by decide +kernel
theorem dX4_around_80 : decode cX4_around 80 = .ok (.getfield 9, 3) := by decide +kernel
theorem dX4_around_83 : decode cX4_around 83 = .ok (.iconst 0, 1) := by decide +kernel
theorem dX4_around_84 : decode cX4_around 84 = .ok (.aaload, 1) := by decide +kernel
theorem dX4_around_85 : decode cX4_around 85 = .ok (.arraylength, 1) := by decide +kernel
theorem dX4_around_86 : decode cX4_around 86 = .ok (.irem, 1) := by decide +kernel
theorem dX4_around_87 : decode cX4_around 87 = .ok (.istore 7, 2) := by decide +kernel
theorem dX4_around_89 : decode cX4_around 89 = .ok (.iload_n 3, 1) := by decide +kernel
theorem dX4_around_90 : decode cX4_around 90 = .ok (.aload_n 0, 1) := by decide +kernel
theorem dX4_around_91 : decode cX4_around 91 = .ok (.iload 7, 2) := by decide +kernel
theorem dX4_around_93 : decode cX4_around 93 = .ok (.iload 6, 2) := by decide +kernel
theorem dX4_around_95 : decode cX4_around 95 = .ok (.invokevirtual 46, 3) := by decide +kernel
theorem dX4_around_98 : decode cX4_around 98 = .ok (.ifCond .eq 24, 3) := by decide +kernel
theorem dX4_around_101 : decode cX4_around 101 = .ok (.aload_n 0, 1) := by decide +kernel
theorem dX4_around_102 : decode cX4_around 102 = .ok (.getfield 9, 3) := by decide +kernel
theorem dX4_around_105 : decode cX4_around 105 = .ok (.iload 6, 2) := by decide +kernel
theorem dX4_around_107 : decode cX4_around 107 = .ok (.aaload, 1) := by decide +kernel
theorem dX4_around_108 : decode cX4_around 108 = .ok (.iload 7, 2) := by decide +kernel
theorem dX4_around_110 : decode cX4_around 110 = .ok (.baload, 1) := by decide +kernel
theorem dX4_around_111 : decode cX4_around 111 = .ok (.ifCond .eq 7, 3) := by decide +kernel
theorem dX4_around_114 : decode cX4_around 114 = .ok (.iconst 1, 1) := by decide +kernel
theorem dX4_around_115 : decode cX4_around 115 = .ok (.goto 11, 3) := by decide +kernel
theorem dX4_around_118 : decode cX4_around 118 = .ok (.iconst 0, 1) := by decide +kernel
theorem dX4_around_119 : decode cX4_around 119 = .ok (.goto 7, 3) := by decide +kernel
theorem dX4_around_122 : decode cX4_around 122 = .ok (.aload_n 0, 1) := by decide +kernel
theorem dX4_around_123 : decode cX4_around 123 = .ok (.getfield 36, 3) := by decide +kernel
theorem dX4_around_126 : decode cX4_around 126 = .ok (.iadd, 1) := by decide +kernel
theorem dX4_around_127 : decode cX4_around 127 = .ok (.istore_n 3, 1) := by decide +kernel
theorem dX4_around_128 : decode cX4_around 128 = .ok (.iinc 5 1, 3) := by decide +kernel
theorem dX4_around_131 : decode cX4_around 131 = .ok (.goto (-117), 3) := by decide +kernel
theorem dX4_around_134 : decode cX4_around 134 = .ok (.iinc 4 1, 3) := by decide +kernel
theorem dX4_around_137 : decode cX4_around 137 = .ok (.goto (-132), 3) := by decide +kernel
theorem dX4_around_140 : decode cX4_around 140 = .ok (.iload_n 3, 1) := by decide +kernel
theorem dX4_around_141 : decode cX4_around 141 = .ok (.ireturn, 1) := by decide +kernel
set_option maxRecDepth 20000 in
theorem ggX4_will_X4_around : GoodIn wsX4_will wsX4_around := goodIn_r _ [9, 10, 4, 11, 12, 13, 8, 14, 15, 16, 17, 18, 19, 20] (by decide +kernel) (by decide +kernel)
set_option maxRecDepth 20000 in
theorem gX4_will_X4_around : GoodIn wsX4_will (wsV RX4 50 RX4 yX4_around wsX4_around) := goodIn_app (goodIn_of _ (by decide +kernel)) ggX4_will_X4_around
theorem dX4_will_0 : decode cX4_will 0 = .ok (.iconst 1, 1) := by decide +kernel
theorem dX4_will_1 : decode cX4_will 1 = .ok (.istore_n 3, 1) := by decide +kernel
theorem dX4_will_2 : decode cX4_will 2 = .ok (.iconst 0, 1) := by decide +kernel
theorem dX4_will_3 : decode cX4_will 3 = .ok (.istore 4, 2) := by decide +kernel
theorem dX4_will_5 : decode cX4_will 5 = .ok (.iload 4, 2) := by decide +kernel
theorem dX4_will_7 : decode cX4_will 7 = .ok (.aload_n 0, 1) := by decide +kernel
theorem dX4_will_8 : decode cX4_will 8 = .ok (.iload_n 1, 1) := by decide +kernel
theorem dX4_will_9 : decode cX4_will 9 = .ok (.iload_n 2, 1) := by decide +kernel
theorem dX4_will_10 : decode cX4_will 10 = .ok (.invokevirtual 50, 3) := by decide +kernel
theorem dX4_will_13 : decode cX4_will 13 = .ok (.if_icmp .ge 13, 3) := by decide +kernel
theorem dX4_will_16 : decode cX4_will 16 = .ok (.iload_n 3, 1) := by decide +kernel
theorem dX4_will_17 : decode cX4_will 17 = .ok (.iconst 2, 1) := by decide +kernel
theorem dX4_will_18 : decode cX4_will 18 = .ok (.imul, 1) := by decide +kernel
theorem dX4_will_19 : decode cX4_will 19 = .ok (.istore_n 3, 1) := by decide +kernel
theorem dX4_will_20 : decode cX4_will 20 = .ok (.iinc 4 1, 3) := by decide +kernel
theorem dX4_will_23 : decode cX4_will 23 = .ok (.goto (-18), 3) := by decide +kernel
theorem dX4_will_26 : decode cX4_will 26 = .ok (.aload_n 0, 1) := by decide +kernel
theorem dX4_will_27 : decode cX4_will 27 = .ok (.getfield 16, 3) := by decide +kernel
theorem dX4_will_30 : decode cX4_will 30 = .ok (.iload_n 2, 1) := by decide +kernel
theorem dX4_will_31 : decode cX4_will 31 = .ok (.aaload, 1) := by decide +kernel
theorem dX4_will_32 : decode cX4_will 32 = .ok (.iload_n 1, 1) := by decide +kernel
theorem dX4_will_33 : decode cX4_will 33 = .ok (.iaload, 1) := by decide +kernel
theorem dX4_will_34 : decode cX4_will 34 = .ok (.ifCond .ne 41, 3) := by decide +kernel
theorem dX4_will_37 : decode cX4_will 37 = .ok (.aload_n 0, 1) := by decide +kernel
theorem dX4_will_38 : decode cX4_will 38 = .ok (.getfield 21, 3) := by decide +kernel
theorem dX4_will_41 : decode cX4_will 41 = .ok (.aload_n 0, 1) := by decide +kernel
theorem dX4_will_42 : decode cX4_will 42 = .ok (.getfield 43, 3) := by decide +kernel
theorem dX4_will_45 : decode cX4_will 45 = .ok (.aaload, 1) := by decide +kernel
theorem dX4_will_46 : decode cX4_will 46 = .ok (.aload_n 0, 1) := by decide +kernel
theorem dX4_will_47 : decode cX4_will 47 = .ok (.getfield 9, 3) := by decide +kernel
theorem dX4_will_50 : decode cX4_will 50 = .ok (.iload_n 2, 1) := by decide +kernel
theorem dX4_will_51 : decode cX4_will 51 = .ok (.aaload, 1) := by decide +kernel
theorem dX4_will_52 : decode cX4_will 52 = .ok (.iload_n 1, 1) := by decide +kernel
theorem dX4_will_53 : decode cX4_will 53 = .ok (.baload, 1) := by decide +kernel
theorem dX4_will_54 : decode cX4_will 54 = .ok (.ifCond .eq 7, 3) := by decide +kernel
theorem dX4_will_57 : decode cX4_will 57 = .ok (.iconst 1, 1) := by decide +kernel
theorem dX4_will_58 : decode cX4_will 58 = .ok (.goto 4, 3) := by decide +kernel
theorem dX4_will_61 : decode cX4_will 61 = .ok (.iconst 0, 1) := by decide +kernel
theorem dX4_will_62 : decode cX4_will 62 = .ok (.iaload, 1) := by decide +kernel
theorem dX4_will_63 : decode cX4_will 63 = .ok (.iload_n 3, 1) := by decide +kernel
theorem dX4_will_64 : decode cX4_will 64 = .ok (.idiv, 1) := by decide +kernel
theorem dX4_will_65 : decode cX4_will 65 = .ok (.iconst 2, 1) := by decide +kernel
theorem dX4_will_66 : decode cX4_will 66 = .ok (.irem, 1) := by decide +kernel
theorem dX4_will_67 : decode cX4_will 67 = .ok (.iconst 1, 1) := by decide +kernel
theorem dX4_will_68 : decode cX4_will 68 = .ok (.if_icmp .ne 7, 3) := by decide +kernel
theorem dX4_will_71 : decode cX4_will 71 = .ok (.iconst 1, 1) := by decide +kernel
theorem dX4_will_72 : decode cX4_will 72 = .ok (.goto 4, 3) := by decide +kernel
theorem dX4_will_75 : decode cX4_will 75 = .ok (.iconst 0, 1) := by decide +kernel
theorem dX4_will_76 : decode cX4_will 76 = .ok (.ireturn, 1) := by decide +kernel
set_option maxRecDepth 20000 in
theorem ggX4_grow_X4_will : GoodIn wsX4_grow wsX4_will := goodIn_r _ [10, 4, 11, 12, 1, 13, 14, 15, 9, 16, 17, 18, 19, 20, 21, 22, 23, 24, 25, 26, 27] (by decide +kernel) (by decide +kernel)
set_option maxRecDepth 20000 in
theorem gX4_grow_X4_will : GoodIn wsX4_grow (wsV RX4 54 RX4 yX4_will wsX4_will) := goodIn_app (goodIn_of _ (by decide +kernel)) ggX4_grow_X4_will
theorem dX4_grow_0 : decode cX4_grow 0 = .ok (.aload_n 0, 1) := by decide +kernel
theorem dX4_grow_1 : decode cX4_grow 1 = .ok (.getfield 9, 3) := by decide +kernel
theorem dX4_grow_4 : decode cX4_grow 4 = .ok (.arraylength, 1) := by decide +kernel
theorem dX4_grow_5 : decode cX4_grow 5 = .ok (.aload_n 0, 1) := by decide +kernel
theorem dX4_grow_6 : decode cX4_grow 6 = .ok (.getfield 9, 3) := by decide +kernel
theorem dX4_grow_9 : decode cX4_grow 9 = .ok (.iconst 0, 1) := by decide +kernel
theorem dX4_grow_10 : decode cX4_grow 10 = .ok (.aaload, 1) := by decide +kernel
theorem dX4_grow_11 : decode cX4_grow 11 = .ok (.arraylength, 1) := by decide +kernel
theorem dX4_grow_12 : decode cX4_grow 12 = .ok (.multianewarray 7 2, 4) := by decide +kernel
theorem dX4_grow_16 : decode cX4_grow 16 = .ok (.astore_n 1, 1) := by decide +kernel
theorem dX4_grow_17 : decode cX4_grow 17 = .ok (.iconst 0, 1) := by decide +kernel
theorem dX4_grow_18 : decode cX4_grow 18 = .ok (.istore_n 2, 1) := by decide +kernel
theorem dX4_grow_19 : decode cX4_grow 19 = .ok (.iload_n 2, 1) := by decide +kernel
theorem dX4_grow_20 : decode cX4_grow 20 = .ok (.aload_n 0, 1) := by decide +kernel
theorem dX4_grow_21 : decode cX4_grow 21 = .ok (.getfield 9, 3) := by decide +kernel
theorem dX4_grow_24 : decode cX4_grow 24 = .ok (.arraylength, 1) := by decide +kernel
theorem dX4_grow_25 : decode cX4_grow 25 = .ok (.if_icmp .ge 39, 3) := by decide +kernel
theorem dX4_grow_28 : decode cX4_grow 28 = .ok (.iconst 0, 1) := by decide +kernel
theorem dX4_grow_29 : decode cX4_grow 29 = .ok (.istore_n 3, 1) := by decide +kernel
theorem dX4_grow_30 : decode cX4_grow 30 = .ok (.iload_n 3, 1) := by decide +kernel
theorem dX4_grow_31 : decode cX4_grow 31 = .ok (.aload_n 0, 1) := by decide +kernel
theorem dX4_grow_32 : decode cX4_grow 32 = .ok (.getfield 9, 3) := by decide +kernel
theorem dX4_grow_35 : decode cX4_grow 35 = .ok (.iconst 0, 1) := by decide +kernel
theorem dX4_grow_36 : decode cX4_grow 36 = .ok (.aaload, 1) := by decide +kernel
theorem dX4_grow_37 : decode cX4_grow 37 = .ok (.arraylength, 1) := by decide +kernel
theorem dX4_grow_38 : decode cX4_grow 38 = .ok (.if_icmp .ge 20, 3) := by decide +kernel
theorem dX4_grow_41 : decode cX4_grow 41 = .ok (.aload_n 1, 1) := by decide +kernel
theorem dX4_grow_42 : decode cX4_grow 42 = .ok (.iload_n 2, 1) := by decide +kernel
theorem dX4_grow_43 : decode cX4_grow 43 = .ok (.aaload, 1) := by decide +kernel
theorem dX4_grow_44 : decode cX4_grow 44 = .ok (.iload_n 3, 1) := by decide +kernel
theorem dX4_grow_45 : decode cX4_grow 45 = .ok (.aload_n 0, 1) := by decide +kernel
theorem dX4_grow_46 : decode cX4_grow 46 = .ok (.iload_n 3, 1) := by decide +kernel
theorem dX4_grow_47 : decode cX4_grow 47 = .ok (.iload_n 2, 1) := by decide +kernel
theorem dX4_grow_48 : decode cX4_grow 48 = .ok (.invokevirtual 54, 3) := by decide +kernel
theorem dX4_grow_51 : decode cX4_grow 51 = .ok (.bastore, 1) := by decide +kernel
theorem dX4_grow_52 : decode cX4_grow 52 = .ok (.iinc 3 1, 3) := by decide +kernel
theorem dX4_grow_55 : decode cX4_grow 55 = .ok (.goto (-25), 3) := by decide +kernel
theorem dX4_grow_58 : decode cX4_grow 58 = .ok (.iinc 2 1, 3) := by decide +kernel
theorem dX4_grow_61 : decode cX4_grow 61 = .ok (.goto (-42), 3) := by decide +kernel
theorem dX4_grow_64 : decode cX4_grow 64 = .ok (.iconst 0, 1) := by decide +kernel
theorem dX4_grow_65 : decode cX4_grow 65 = .ok (.istore_n 2, 1) := by decide +kernel
theorem dX4_grow_66 : decode cX4_grow 66 = .ok (.iload_n 2, 1) := by decide +kernel
theorem dX4_grow_67 : decode cX4_grow 67 = .ok (.aload_n 0, 1) := by decide +kernel
theorem dX4_grow_68 : decode cX4_grow 68 = .ok (.getfield 9, 3) := by decide +kernel
theorem dX4_grow_71 : decode cX4_grow 71 = .ok (.arraylength, 1) := by decide +kernel
theorem dX4_grow_72 : decode cX4_grow 72 = .ok (.if_icmp .ge 51, 3) := by decide +kernel
theorem dX4_grow_75 : decode cX4_grow 75 = .ok (.iconst 0, 1) := by decide +kernel
theorem dX4_grow_76 : decode cX4_grow 76 = .ok (.istore_n 3, 1) := by decide +kernel
theorem dX4_grow_77 : decode cX4_grow 77 = .ok (.iload_n 3, 1) := by decide +kernel
theorem dX4_grow_78 : decode cX4_grow 78 = .ok (.aload_n 0, 1) := by decide +kernel
theorem dX4_grow_79 : decode cX4_grow 79 = .ok (.getfield 9, 3) := by decide +kernel
theorem dX4_grow_82 : decode cX4_grow 82 = .ok (.iconst 0, 1) := by decide +kernel
theorem dX4_grow_83 : decode cX4_grow 83 = .ok (.aaload, 1) := by decide +kernel
theorem dX4_grow_84 : decode cX4_grow 84 = .ok (.arraylength, 1) := by decide +kernel
theorem dX4_grow_85 : decode cX4_grow 85 = .ok (.if_icmp .ge 32, 3) := by decide +kernel
theorem dX4_grow_88 : decode cX4_grow 88 = .ok (.aload_n 0, 1) := by decide +kernel
theorem dX4_grow_89 : decode cX4_grow 89 = .ok (.getfield 16, 3) := by decide +kernel
theorem dX4_grow_92 : decode cX4_grow 92 = .ok (.iload_n 2, 1) := by decide +kernel
theorem dX4_grow_93 : decode cX4_grow 93 = .ok (.aaload, 1) := by decide +kernel
theorem dX4_grow_94 : decode cX4_grow 94 = .ok (.iload_n 3, 1) := by decide +kernel
theorem dX4_grow_95 : decode cX4_grow 95 = .ok (.iaload, 1) := by decide +kernel
theorem dX4_grow_96 : decode cX4_grow 96 = .ok (.ifCond .le 15, 3) := by decide +kernel
theorem dX4_grow_99 : decode cX4_grow 99 = .ok (.aload_n 0, 1) := by decide +kernel
theorem dX4_grow_100 : decode cX4_grow 100 = .ok (.getfield 16, 3) := by decide +kernel
theorem dX4_grow_103 : decode cX4_grow 103 = .ok (.iload_n 2, 1) := by decide +kernel
theorem dX4_grow_104 : decode cX4_grow 104 = .ok (.aaload, 1) := by decide +kernel
theorem dX4_grow_105 : decode cX4_grow 105 = .ok (.iload_n 3, 1) := by decide +kernel
theorem dX4_grow_106 : decode cX4_grow 106 = .ok (.dup2, 1) := by decide +kernel
theorem dX4_grow_107 : decode cX4_grow 107 = .ok (.iaload, 1) := by decide +kernel
theorem dX4_grow_108 : decode cX4_grow 108 = .ok (.iconst 1, 1) := by decide +kernel
theorem dX4_grow_109 : decode cX4_grow 109 = .ok (.isub, 1) := by decide +kernel
theorem dX4_grow_110 : decode cX4_grow 110 = .ok (.iastore, 1) := by decide +kernel
theorem dX4_grow_111 : decode cX4_grow 111 = .ok (.iinc 3 1, 3) := by decide +kernel
theorem dX4_grow_114 : decode cX4_grow 114 = .ok (.goto (-37), 3) := by decide +kernel
theorem dX4_grow_117 : decode cX4_grow 117 = .ok (.iinc 2 1, 3) := by decide +kernel
theorem dX4_grow_120 : decode cX4_grow 120 = .ok (.goto (-54), 3) := by decide +kernel
theorem dX4_grow_123 : decode cX4_grow 123 = .ok (.aload_n 0, 1) := by decide +kernel
theorem dX4_grow_124 : decode cX4_grow 124 = .ok (.aload_n 1, 1) := by decide +kernel
theorem dX4_grow_125 : decode cX4_grow 125 = .ok (.putfield 9, 3) := by decide +kernel
theorem dX4_grow_128 : decode cX4_grow 128 = .ok (.aload_n 0, 1) := by decide +kernel
theorem dX4_grow_129 : decode cX4_grow 129 = .ok (.dup, 1) := by decide +kernel
theorem dX4_grow_130 : decode cX4_grow 130 = .ok (.getfield 40, 3) := by decide +kernel
theorem dX4_grow_133 : decode cX4_grow 133 = .ok (.iconst 1, 1) := by decide +kernel
theorem dX4_grow_134 : decode cX4_grow 134 = .ok (.iadd, 1) := by decide +kernel
theorem dX4_grow_135 : decode cX4_grow 135 = .ok (.putfield 40, 3) := by decide +kernel
theorem dX4_grow_138 : decode cX4_grow 138 = .ok (.return_, 1) := by decide +kernel
theorem dX4_frozen_0 : decode cX4_frozen 0 = .ok (.iconst 0, 1) := by decide +kernel
theorem dX4_frozen_1 : decode cX4_frozen 1 = .ok (.istore_n 1, 1) := by decide +kernel
theorem dX4_frozen_2 : decode cX4_frozen 2 = .ok (.aload_n 0, 1) := by decide +kernel
theorem dX4_frozen_3 : decode cX4_frozen 3 = .ok (.getfield 9, 3) := by decide +kernel
theorem dX4_frozen_6 : decode cX4_frozen 6 = .ok (.astore_n 2, 1) := by decide +kernel
theorem dX4_frozen_7 : decode cX4_frozen 7 = .ok (.aload_n 2, 1) := by decide +kernel
theorem dX4_frozen_8 : decode cX4_frozen 8 = .ok (.arraylength, 1) := by decide +kernel
theorem dX4_frozen_9 : decode cX4_frozen 9 = .ok (.istore_n 3, 1) := by decide +kernel
theorem dX4_frozen_10 : decode cX4_frozen 10 = .ok (.iconst 0, 1) := by decide +kernel
theorem dX4_frozen_11 : decode cX4_frozen 11 = .ok (.istore 4, 2) := by decide +kernel
theorem dX4_frozen_13 : decode cX4_frozen 13 = .ok (.iload 4, 2) := by decide +kernel
theorem dX4_frozen_15 : decode cX4_frozen 15 = .ok (.iload_n 3, 1) := by decide +kernel
theorem dX4_frozen_16 : decode cX4_frozen 16 = .ok (.if_icmp .ge 60, 3) := by decide +kernel
theorem dX4_frozen_19 : decode cX4_frozen 19 = .ok (.aload_n 2, 1) := by decide +kernel
theorem dX4_frozen_20 : decode cX4_frozen 20 = .ok (.iload 4, 2) := by decide +kernel
theorem dX4_frozen_22 : decode cX4_frozen 22 = .ok (.aaload, 1) := by decide +kernel
theorem dX4_frozen_23 : decode cX4_frozen 23 = .ok (.astore 5, 2) := by decide +kernel
theorem dX4_frozen_25 : decode cX4_frozen 25 = .ok (.aload 5, 2) := by decide +kernel
theorem dX4_frozen_27 : decode cX4_frozen 27 = .ok (.astore 6, 2) := by decide +kernel
theorem dX4_frozen_29 : decode cX4_frozen 29 = .ok (.aload 6, 2) := by decide +kernel
theorem dX4_frozen_31 : decode cX4_frozen 31 = .ok (.arraylength, 1) := by decide +kernel
theorem dX4_frozen_32 : decode cX4_frozen 32 = .ok (.istore 7, 2) := by decide +kernel
theorem dX4_frozen_34 : decode cX4_frozen 34 = .ok (.iconst 0, 1) := by decide +kernel
theorem dX4_frozen_35 : decode cX4_frozen 35 = .ok (.istore 8, 2) := by decide +kernel
theorem dX4_frozen_37 : decode cX4_frozen 37 = .ok (.iload 8, 2) := by decide +kernel
theorem dX4_frozen_39 : decode cX4_frozen 39 = .ok (.iload 7, 2) := by decide +kernel
theorem dX4_frozen_41 : decode cX4_frozen 41 = .ok (.if_icmp .ge 29, 3) := by decide +kernel
theorem dX4_frozen_44 : decode cX4_frozen 44 = .ok (.aload 6, 2) := by decide +kernel
theorem dX4_frozen_46 : decode cX4_frozen 46 = .ok (.iload 8, 2) := by decide +kernel
theorem dX4_frozen_48 : decode cX4_frozen 48 = .ok (.baload, 1) := by decide +kernel
theorem dX4_frozen_49 : decode cX4_frozen 49 = .ok (.istore 9, 2) := by decide +kernel
theorem dX4_frozen_51 : decode cX4_frozen 51 = .ok (.iload_n 1, 1) := by decide +kernel
theorem dX4_frozen_52 : decode cX4_frozen 52 = .ok (.iload 9, 2) := by decide +kernel
theorem dX4_frozen_54 : decode cX4_frozen 54 = .ok (.ifCond .eq 7, 3) := by decide +kernel
theorem dX4_frozen_57 : decode cX4_frozen 57 = .ok (.iconst 1, 1) := by decide +kernel
theorem dX4_frozen_58 : decode cX4_frozen 58 = .ok (.goto 4, 3) := by decide +kernel
theorem dX4_frozen_61 : decode cX4_frozen 61 = .ok (.iconst 0, 1) := by decide +kernel
theorem dX4_frozen_62 : decode cX4_frozen 62 = .ok (.iadd, 1) := by decide +kernel
theorem dX4_frozen_63 : decode cX4_frozen 63 = .ok (.istore_n 1, 1) := by decide +kernel
theorem dX4_frozen_64 : decode cX4_frozen 64 = .ok (.iinc 8 1, 3) := by decide +kernel
theorem dX4_frozen_67 : decode cX4_frozen 67 = .ok (.goto (-30), 3) := by decide +kernel
theorem dX4_frozen_70 : decode cX4_frozen 70 = .ok (.iinc 4 1, 3) := by decide +kernel
theorem dX4_frozen_73 : decode cX4_frozen 73 = .ok (.goto (-60), 3) := by decide +kernel
theorem dX4_frozen_76 : decode cX4_frozen 76 = .ok (.iload_n 1, 1) := by decide +kernel
theorem dX4_frozen_77 : decode cX4_frozen 77 = .ok (.ireturn, 1) := by decide +kernel
theorem dX4_melted_0 : decode cX4_melted 0 = .ok (.iconst 0, 1) := by decide +kernel
theorem dX4_melted_1 : decode cX4_melted 1 = .ok (.istore_n 1, 1) := by decide +kernel
theorem dX4_melted_2 : decode cX4_melted 2 = .ok (.aload_n 0, 1) := by decide +kernel
theorem dX4_melted_3 : decode cX4_melted 3 = .ok (.getfield 16, 3) := by decide +kernel
theorem dX4_melted_6 : decode cX4_melted 6 = .ok (.astore_n 2, 1) := by decide +kernel
theorem dX4_melted_7 : decode cX4_melted 7 = .ok (.aload_n 2, 1) := by decide +kernel
theorem dX4_melted_8 : decode cX4_melted 8 = .ok (.arraylength, 1) := by decide +kernel
theorem dX4_melted_9 : decode cX4_melted 9 = .ok (.istore_n 3, 1) := by decide +kernel
theorem dX4_melted_10 : decode cX4_melted 10 = .ok (.iconst 0, 1) := by decide +kernel
theorem dX4_melted_11 : decode cX4_melted 11 = .ok (.istore 4, 2) := by decide +kernel
theorem dX4_melted_13 : decode cX4_melted 13 = .ok (.iload 4, 2) := by decide +kernel
theorem dX4_melted_15 : decode cX4_melted 15 = .ok (.iload_n 3, 1) := by decide +kernel
theorem dX4_melted_16 : decode cX4_melted 16 = .ok (.if_icmp .ge 60, 3) := by decide +kernel
theorem dX4_melted_19 : decode cX4_melted 19 = .ok (.aload_n 2, 1) := by decide +kernel
theorem dX4_melted_20 : decode cX4_melted 20 = .ok (.iload 4, 2) := by decide +kernel
theorem dX4_melted_22 : decode cX4_melted 22 = .ok (.aaload, 1) := by decide +kernel
theorem dX4_melted_23 : decode cX4_melted 23 = .ok (.astore 5, 2) := by decide +kernel
theorem dX4_melted_25 : decode cX4_melted 25 = .ok (.aload 5, 2) := by decide +kernel
theorem dX4_melted_27 : decode cX4_melted 27 = .ok (.astore 6, 2) := by decide +kernel
theorem dX4_melted_29 : decode cX4_melted 29 = .ok (.aload 6, 2) := by decide +kernel
theorem dX4_melted_31 : decode cX4_melted 31 = .ok (.arraylength, 1) := by decide +kernel
theorem dX4_melted_32 : decode cX4_melted 32 = .ok (.istore 7, 2) := by decide +kernel
theorem dX4_melted_34 : decode cX4_melted 34 = .ok (.iconst 0, 1) := by decide +kernel
theorem dX4_melted_35 : decode cX4_melted 35 = .ok (.istore 8, 2) := by decide +kernel
theorem dX4_melted_37 : decode cX4_melted 37 = .ok (.iload 8, 2) := by decide +kernel
theorem dX4_melted_39 : decode cX4_melted 39 = .ok (.iload 7, 2) := by decide +kernel
theorem dX4_melted_41 : decode cX4_melted 41 = .ok (.if_icmp .ge 29, 3) := by decide +kernel
theorem dX4_melted_44 : decode cX4_melted 44 = .ok (.aload 6, 2) := by decide +kernel
theorem dX4_melted_46 : decode cX4_melted 46 = .ok (.iload 8, 2) := by decide +kernel
theorem dX4_melted_48 : decode cX4_melted 48 = .ok (.iaload, 1) := by decide +kernel
theorem dX4_melted_49 : decode cX4_melted 49 = .ok (.istore 9, 2) := by decide +kernel
theorem dX4_melted_51 : decode cX4_melted 51 = .ok (.iload_n 1, 1) := by decide +kernel
theorem dX4_melted_52 : decode cX4_melted 52 = .ok (.iload 9, 2) := by decide +kernel
theorem dX4_melted_54 : decode cX4_melted 54 = .ok (.ifCond .le 7, 3) := by decide +kernel
theorem dX4_melted_57 : decode cX4_melted 57 = .ok (.iconst 1, 1) := by decide +kernel
theorem dX4_melted_58 : decode cX4_melted 58 = .ok (.goto 4, 3) := by decide +kernel
theorem dX4_melted_61 : decode cX4_melted 61 = .ok (.iconst 0, 1) := by decide +kernel
theorem dX4_melted_62 : decode cX4_melted 62 = .ok (.iadd, 1) := by decide +kernel
theorem dX4_melted_63 : decode cX4_melted 63 = .ok (.istore_n 1, 1) := by decide +kernel
theorem dX4_melted_64 : decode cX4_melted 64 = .ok (.iinc 8 1, 3) := by decide +kernel
theorem dX4_melted_67 : decode cX4_melted 67 = .ok (.goto (-30), 3) := by decide +kernel
theorem dX4_melted_70 : decode cX4_melted 70 = .ok (.iinc 4 1, 3) := by decide +kernel
theorem dX4_melted_73 : decode cX4_melted 73 = .ok (.goto (-60), 3) := by decide +kernel
theorem dX4_melted_76 : decode cX4_melted 76 = .ok (.iload_n 1, 1) := by decide +kernel
theorem dX4_melted_77 : decode cX4_melted 77 = .ok (.ireturn, 1) := by decide +kernel
theorem dX4_press_0 : decode cX4_press 0 = .ok (.iconst 0, 1) := by decide +kernel
theorem dX4_press_1 : decode cX4_press 1 = .ok (.istore 4, 2) := by decide +kernel
theorem dX4_press_3 : decode cX4_press 3 = .ok (.iconst 0, 1) := by decide +kernel
theorem dX4_press_4 : decode cX4_press 4 = .ok (.istore 5, 2) := by decide +kernel
theorem dX4_press_6 : decode cX4_press 6 = .ok (.iload 5, 2) := by decide +kernel
theorem dX4_press_8 : decode cX4_press 8 = .ok (.aload_n 0, 1) := by decide +kernel
theorem dX4_press_9 : decode cX4_press 9 = .ok (.getfield 9, 3) := by decide +kernel
theorem dX4_press_12 : decode cX4_press 12 = .ok (.arraylength, 1) := by decide +kernel
theorem dX4_press_13 : decode cX4_press 13 = .ok (.if_icmp .ge 97, 3) := by decide +kernel
theorem dX4_press_16 : decode cX4_press 16 = .ok (.iconst 0, 1) := by decide +kernel
theorem dX4_press_17 : decode cX4_press 17 = .ok (.istore 6, 2) := by decide +kernel
theorem dX4_press_19 : decode cX4_press 19 = .ok (.iload 6, 2) := by decide +kernel
theorem dX4_press_21 : decode cX4_press 21 = .ok (.aload_n 0, 1) := by decide +kernel
theorem dX4_press_22 : decode cX4_press 22 = .ok (.getfield 9, 3) := by decide +kernel
theorem dX4_press_25 : decode cX4_press 25 = .ok (.iconst 0, 1) := by decide +kernel
theorem dX4_press_26 : decode cX4_press 26 = .ok (.aaload, 1) := by decide +kernel
theorem dX4_press_27 : decode cX4_press 27 = .ok (.arraylength, 1) := by decide +kernel
theorem dX4_press_28 : decode cX4_press 28 = .ok (.if_icmp .ge 76, 3) := by decide +kernel
theorem dX4_press_31 : decode cX4_press 31 = .ok (.iload 5, 2) := by decide +kernel
theorem dX4_press_33 : decode cX4_press 33 = .ok (.iload_n 2, 1) := by decide +kernel
theorem dX4_press_34 : decode cX4_press 34 = .ok (.isub, 1) := by decide +kernel
theorem dX4_press_35 : decode cX4_press 35 = .ok (.invokestatic 57, 3) := by decide +kernel
theorem dX4_press_38 : decode cX4_press 38 = .ok (.iload 6, 2) := by decide +kernel
theorem dX4_press_40 : decode cX4_press 40 = .ok (.iload_n 1, 1) := by decide +kernel
theorem dX4_press_41 : decode cX4_press 41 = .ok (.isub, 1) := by decide +kernel
theorem dX4_press_42 : decode cX4_press 42 = .ok (.invokestatic 57, 3) := by decide +kernel
theorem dX4_press_45 : decode cX4_press 45 = .ok (.iadd, 1) := by decide +kernel
theorem dX4_press_46 : decode cX4_press 46 = .ok (.iconst 1, 1) := by decide +kernel
theorem dX4_press_47 : decode cX4_press 47 = .ok (.if_icmp .le 6, 3) := by decide +kernel
theorem dX4_press_50 : decode cX4_press 50 = .ok (.goto 48, 3) := by decide +kernel
theorem dX4_press_53 : decode cX4_press 53 = .ok (.iload 4, 2) := by decide +kernel
theorem dX4_press_55 : decode cX4_press 55 = .ok (.aload_n 0, 1) := by decide +kernel
theorem dX4_press_56 : decode cX4_press 56 = .ok (.getfield 9, 3) := by decide +kernel
theorem dX4_press_59 : decode cX4_press 59 = .ok (.iload 5, 2) := by decide +kernel
theorem dX4_press_61 : decode cX4_press 61 = .ok (.aaload, 1) := by decide +kernel
theorem dX4_press_62 : decode cX4_press 62 = .ok (.iload 6, 2) := by decide +kernel
theorem dX4_press_64 : decode cX4_press 64 = .ok (.baload, 1) := by decide +kernel
theorem dX4_press_65 : decode cX4_press 65 = .ok (.ifCond .eq 7, 3) := by decide +kernel
theorem dX4_press_68 : decode cX4_press 68 = .ok (.iconst 1, 1) := by decide +kernel
theorem dX4_press_69 : decode cX4_press 69 = .ok (.goto 4, 3) := by decide +kernel
theorem dX4_press_72 : decode cX4_press 72 = .ok (.iconst 0, 1) := by decide +kernel
theorem dX4_press_73 : decode cX4_press 73 = .ok (.iadd, 1) := by decide +kernel
theorem dX4_press_74 : decode cX4_press 74 = .ok (.istore 4, 2) := by decide +kernel
theorem dX4_press_76 : decode cX4_press 76 = .ok (.aload_n 0, 1) := by decide +kernel
theorem dX4_press_77 : decode cX4_press 77 = .ok (.getfield 9, 3) := by decide +kernel
theorem dX4_press_80 : decode cX4_press 80 = .ok (.iload 5, 2) := by decide +kernel
theorem dX4_press_82 : decode cX4_press 82 = .ok (.aaload, 1) := by decide +kernel
theorem dX4_press_83 : decode cX4_press 83 = .ok (.iload 6, 2) := by decide +kernel
theorem dX4_press_85 : decode cX4_press 85 = .ok (.iconst 0, 1) := by decide +kernel
theorem dX4_press_86 : decode cX4_press 86 = .ok (.bastore, 1) := by decide +kernel
theorem dX4_press_87 : decode cX4_press 87 = .ok (.aload_n 0, 1) := by decide +kernel
theorem dX4_press_88 : decode cX4_press 88 = .ok (.getfield 16, 3) := by decide +kernel
theorem dX4_press_91 : decode cX4_press 91 = .ok (.iload 5, 2) := by decide +kernel
theorem dX4_press_93 : decode cX4_press 93 = .ok (.aaload, 1) := by decide +kernel
theorem dX4_press_94 : decode cX4_press 94 = .ok (.iload 6, 2) := by decide +kernel
theorem dX4_press_96 : decode cX4_press 96 = .ok (.iload_n 3, 1) := by decide +kernel
theorem dX4_press_97 : decode cX4_press 97 = .ok (.iastore, 1) := by decide +kernel
theorem dX4_press_98 : decode cX4_press 98 = .ok (.iinc 6 1, 3) := by decide +kernel
theorem dX4_press_101 : decode cX4_press 101 = .ok (.goto (-82), 3) := by decide +kernel
theorem dX4_press_104 : decode cX4_press 104 = .ok (.iinc 5 1, 3) := by decide +kernel
theorem dX4_press_107 : decode cX4_press 107 = .ok (.goto (-101), 3) := by decide +kernel
theorem dX4_press_110 : decode cX4_press 110 = .ok (.iload 4, 2) := by decide +kernel
theorem dX4_press_112 : decode cX4_press 112 = .ok (.ireturn, 1) := by decide +kernel
theorem dX4_isLike_0 : decode cX4_isLike 0 = .ok (.iconst 0, 1) := by decide +kernel
theorem dX4_isLike_1 : decode cX4_isLike 1 = .ok (.istore_n 2, 1) := by decide +kernel
theorem dX4_isLike_2 : decode cX4_isLike 2 = .ok (.iload_n 2, 1) := by decide +kernel
theorem dX4_isLike_3 : decode cX4_isLike 3 = .ok (.aload_n 0, 1) := by decide +kernel
theorem dX4_isLike_4 : decode cX4_isLike 4 = .ok (.getfield 9, 3) := by decide +kernel
theorem dX4_isLike_7 : decode cX4_isLike 7 = .ok (.arraylength, 1) := by decide +kernel
theorem dX4_isLike_8 : decode cX4_isLike 8 = .ok (.if_icmp .ge 68, 3) := by decide +kernel
theorem dX4_isLike_11 : decode cX4_isLike 11 = .ok (.iconst 0, 1) := by decide +kernel
theorem dX4_isLike_12 : decode cX4_isLike 12 = .ok (.istore_n 3, 1) := by decide +kernel
theorem dX4_isLike_13 : decode cX4_isLike 13 = .ok (.iload_n 3, 1) := by decide +kernel
theorem dX4_isLike_14 : decode cX4_isLike 14 = .ok (.aload_n 0, 1) := by decide +kernel
theorem dX4_isLike_15 : decode cX4_isLike 15 = .ok (.getfield 9, 3) := by decide +kernel
theorem dX4_isLike_18 : decode cX4_isLike 18 = .ok (.iconst 0, 1) := by decide +kernel
theorem dX4_isLike_19 : decode cX4_isLike 19 = .ok (.aaload, 1) := by decide +kernel
theorem dX4_isLike_20 : decode cX4_isLike 20 = .ok (.arraylength, 1) := by decide +kernel
theorem dX4_isLike_21 : decode cX4_isLike 21 = .ok (.if_icmp .ge 49, 3) := by decide +kernel
theorem dX4_isLike_24 : decode cX4_isLike 24 = .ok (.aload_n 0, 1) := by decide +kernel
theorem dX4_isLike_25 : decode cX4_isLike 25 = .ok (.getfield 9, 3) := by decide +kernel
theorem dX4_isLike_28 : decode cX4_isLike 28 = .ok (.iload_n 2, 1) := by decide +kernel
theorem dX4_isLike_29 : decode cX4_isLike 29 = .ok (.aaload, 1) := by decide +kernel
theorem dX4_isLike_30 : decode cX4_isLike 30 = .ok (.iload_n 3, 1) := by decide +kernel
theorem dX4_isLike_31 : decode cX4_isLike 31 = .ok (.baload, 1) := by decide +kernel
theorem dX4_isLike_32 : decode cX4_isLike 32 = .ok (.aload_n 1, 1) := by decide +kernel
theorem dX4_isLike_33 : decode cX4_isLike 33 = .ok (.getfield 9, 3) := by decide +kernel
theorem dX4_isLike_36 : decode cX4_isLike 36 = .ok (.iload_n 2, 1) := by decide +kernel
theorem dX4_isLike_37 : decode cX4_isLike 37 = .ok (.aaload, 1) := by decide +kernel
theorem dX4_isLike_38 : decode cX4_isLike 38 = .ok (.iload_n 3, 1) := by decide +kernel
theorem dX4_isLike_39 : decode cX4_isLike 39 = .ok (.baload, 1) := by decide +kernel
theorem dX4_isLike_40 : decode cX4_isLike 40 = .ok (.if_icmp .ne 22, 3) := by decide +kernel
theorem dX4_isLike_43 : decode cX4_isLike 43 = .ok (.aload_n 0, 1) := by decide +kernel
theorem dX4_isLike_44 : decode cX4_isLike 44 = .ok (.getfield 16, 3) := by decide +kernel
theorem dX4_isLike_47 : decode cX4_isLike 47 = .ok (.iload_n 2, 1) := by decide +kernel
theorem dX4_isLike_48 : decode cX4_isLike 48 = .ok (.aaload, 1) := by decide +kernel
theorem dX4_isLike_49 : decode cX4_isLike 49 = .ok (.iload_n 3, 1) := by decide +kernel
theorem dX4_isLike_50 : decode cX4_isLike 50 = .ok (.iaload, 1) := by decide +kernel
theorem dX4_isLike_51 : decode cX4_isLike 51 = .ok (.aload_n 1, 1) := by decide +kernel
theorem dX4_isLike_52 : decode cX4_isLike 52 = .ok (.getfield 16, 3) := by decide +kernel
theorem dX4_isLike_55 : decode cX4_isLike 55 = .ok (.iload_n 2, 1) := by decide +kernel
theorem dX4_isLike_56 : decode cX4_isLike 56 = .ok (.aaload, 1) := by decide +kernel
theorem dX4_isLike_57 : decode cX4_isLike 57 = .ok (.iload_n 3, 1) := by decide +kernel
theorem dX4_isLike_58 : decode cX4_isLike 58 = .ok (.iaload, 1) := by decide +kernel
theorem dX4_isLike_59 : decode cX4_isLike 59 = .ok (.if_icmp .eq 5, 3) := by decide +kernel
theorem dX4_isLike_62 : decode cX4_isLike 62 = .ok (.iconst 0, 1) := by decide +kernel
theorem dX4_isLike_63 : decode cX4_isLike 63 = .ok (.ireturn, 1) := by decide +kernel
theorem dX4_isLike_64 : decode cX4_isLike 64 = .ok (.iinc 3 1, 3) := by decide +kernel
theorem dX4_isLike_67 : decode cX4_isLike 67 = .ok (.goto (-54), 3) := by decide +kernel
theorem dX4_isLike_70 : decode cX4_isLike 70 = .ok (.iinc 2 1, 3) := by decide +kernel
theorem dX4_isLike_73 : decode cX4_isLike 73 = .ok (.goto (-71), 3) := by decide +kernel
theorem dX4_isLike_76 : decode cX4_isLike 76 = .ok (.iconst 1, 1) := by decide +kernel
theorem dX4_isLike_77 : decode cX4_isLike 77 = .ok (.ireturn, 1) := by decide +kernel
set_option maxRecDepth 20000 in
theorem ggX4_flowers_X4_isCell : GoodIn wsX4_flowers wsX4_isCell := goodIn_r _ [8, 1, 9, 10, 11, 12, 13, 14] (by decide +kernel) (by decide +kernel)
set_option maxRecDepth 20000 in
theorem gX4_flowers_X4_isCell : GoodIn wsX4_flowers (wsV RX4 46 RX4 yX4_isCell wsX4_isCell) := goodIn_app (goodIn_of _ (by decide +kernel)) ggX4_flowers_X4_isCell
theorem dX4_flowers_0 : decode cX4_flowers 0 = .ok (.aload_n 0, 1) := by decide +kernel
theorem dX4_flowers_1 : decode cX4_flowers 1 = .ok (.getfield 9, 3) := by decide +kernel
theorem dX4_flowers_4 : decode cX4_flowers 4 = .ok (.arraylength, 1) := by decide +kernel
theorem dX4_flowers_5 : decode cX4_flowers 5 = .ok (.aload_n 0, 1) := by decide +kernel
theorem dX4_flowers_6 : decode cX4_flowers 6 = .ok (.getfield 9, 3) := by decide +kernel
theorem dX4_flowers_9 : decode cX4_flowers 9 = .ok (.iconst 0, 1) := by decide +kernel
theorem dX4_flowers_10 : decode cX4_flowers 10 = .ok (.aaload, 1) := by decide +kernel
theorem dX4_flowers_11 : decode cX4_flowers 11 = .ok (.arraylength, 1) := by decide +kernel
theorem dX4_flowers_12 : decode cX4_flowers 12 = .ok (.multianewarray 14 2, 4) := by decide +kernel
theorem dX4_flowers_16 : decode cX4_flowers 16 = .ok (.astore_n 1, 1) := by decide +kernel
theorem dX4_flowers_17 : decode cX4_flowers 17 = .ok (.iconst 0, 1) := by decide +kernel
theorem dX4_flowers_18 : decode cX4_flowers 18 = .ok (.istore_n 2, 1) := by decide +kernel
theorem dX4_flowers_19 : decode cX4_flowers 19 = .ok (.iload_n 2, 1) := by decide +kernel
theorem dX4_flowers_20 : decode cX4_flowers 20 = .ok (.aload_n 0, 1) := by decide +kernel
theorem dX4_flowers_21 : decode cX4_flowers 21 = .ok (.getfield 9, 3) := by decide +kernel
theorem dX4_flowers_24 : decode cX4_flowers 24 = .ok (.arraylength, 1) := by decide +kernel
theorem dX4_flowers_25 : decode cX4_flowers 25 = .ok (.if_icmp .ge 61, 3) := by decide +kernel
theorem dX4_flowers_28 : decode cX4_flowers 28 = .ok (.iconst 0, 1) := by decide +kernel
theorem dX4_flowers_29 : decode cX4_flowers 29 = .ok (.istore_n 3, 1) := by decide +kernel
theorem dX4_flowers_30 : decode cX4_flowers 30 = .ok (.iload_n 3, 1) := by decide +kernel
theorem dX4_flowers_31 : decode cX4_flowers 31 = .ok (.aload_n 0, 1) := by decide +kernel
theorem dX4_flowers_32 : decode cX4_flowers 32 = .ok (.getfield 9, 3) := by decide +kernel
theorem dX4_flowers_35 : decode cX4_flowers 35 = .ok (.iconst 0, 1) := by decide +kernel
theorem dX4_flowers_36 : decode cX4_flowers 36 = .ok (.aaload, 1) := by decide +kernel
theorem dX4_flowers_37 : decode cX4_flowers 37 = .ok (.arraylength, 1) := by decide +kernel
theorem dX4_flowers_38 : decode cX4_flowers 38 = .ok (.if_icmp .ge 42, 3) := by decide +kernel
theorem dX4_flowers_41 : decode cX4_flowers 41 = .ok (.aload_n 1, 1) := by decide +kernel
theorem dX4_flowers_42 : decode cX4_flowers 42 = .ok (.iload_n 2, 1) := by decide +kernel
theorem dX4_flowers_43 : decode cX4_flowers 43 = .ok (.aaload, 1) := by decide +kernel
theorem dX4_flowers_44 : decode cX4_flowers 44 = .ok (.iload_n 3, 1) := by decide +kernel
theorem dX4_flowers_45 : decode cX4_flowers 45 = .ok (.aload_n 0, 1) := by decide +kernel
theorem dX4_flowers_46 : decode cX4_flowers 46 = .ok (.getfield 9, 3) := by decide +kernel
theorem dX4_flowers_49 : decode cX4_flowers 49 = .ok (.iload_n 2, 1) := by decide +kernel
theorem dX4_flowers_50 : decode cX4_flowers 50 = .ok (.aaload, 1) := by decide +kernel
theorem dX4_flowers_51 : decode cX4_flowers 51 = .ok (.iload_n 3, 1) := by decide +kernel
theorem dX4_flowers_52 : decode cX4_flowers 52 = .ok (.baload, 1) := by decide +kernel
theorem dX4_flowers_53 : decode cX4_flowers 53 = .ok (.ifCond .eq 19, 3) := by decide +kernel
theorem dX4_flowers_56 : decode cX4_flowers 56 = .ok (.iconst 1, 1) := by decide +kernel
theorem dX4_flowers_57 : decode cX4_flowers 57 = .ok (.iload_n 2, 1) := by decide +kernel
theorem dX4_flowers_58 : decode cX4_flowers 58 = .ok (.aload_n 0, 1) := by decide +kernel
theorem dX4_flowers_59 : decode cX4_flowers 59 = .ok (.getfield 9, 3) := by decide +kernel
theorem dX4_flowers_62 : decode cX4_flowers 62 = .ok (.iconst 0, 1) := by decide +kernel
theorem dX4_flowers_63 : decode cX4_flowers 63 = .ok (.aaload, 1) := by decide +kernel
theorem dX4_flowers_64 : decode cX4_flowers 64 = .ok (.arraylength, 1) := by decide +kernel
theorem dX4_flowers_65 : decode cX4_flowers 65 = .ok (.imul, 1) := by decide +kernel
theorem dX4_flowers_66 : decode cX4_flowers 66 = .ok (.iadd, 1) := by decide +kernel
theorem dX4_flowers_67 : decode cX4_flowers 67 = .ok (.iload_n 3, 1) := by decide +kernel
theorem dX4_flowers_68 : decode cX4_flowers 68 = .ok (.iadd, 1) := by decide +kernel
theorem dX4_flowers_69 : decode cX4_flowers 69 = .ok (.goto 4, 3) := by decide +kernel
theorem dX4_flowers_72 : decode cX4_flowers 72 = .ok (.iconst 0, 1) := by decide +kernel
theorem dX4_flowers_73 : decode cX4_flowers 73 = .ok (.iastore, 1) := by decide +kernel
theorem dX4_flowers_74 : decode cX4_flowers 74 = .ok (.iinc 3 1, 3) := by decide +kernel
theorem dX4_flowers_77 : decode cX4_flowers 77 = .ok (.goto (-47), 3) := by decide +kernel
theorem dX4_flowers_80 : decode cX4_flowers 80 = .ok (.iinc 2 1, 3) := by decide +kernel
theorem dX4_flowers_83 : decode cX4_flowers 83 = .ok (.goto (-64), 3) := by decide +kernel
theorem dX4_flowers_86 : decode cX4_flowers 86 = .ok (.iconst 1, 1) := by decide +kernel
theorem dX4_flowers_87 : decode cX4_flowers 87 = .ok (.istore_n 2, 1) := by decide +kernel
theorem dX4_flowers_88 : decode cX4_flowers 88 = .ok (.iload_n 2, 1) := by decide +kernel
theorem dX4_flowers_89 : decode cX4_flowers 89 = .ok (.ifCond .eq 175, 3) := by decide +kernel
theorem dX4_flowers_92 : decode cX4_flowers 92 = .ok (.iconst 0, 1) := by decide +kernel
theorem dX4_flowers_93 : decode cX4_flowers 93 = .ok (.istore_n 2, 1) := by decide +kernel
theorem dX4_flowers_94 : decode cX4_flowers 94 = .ok (.iconst 0, 1) := by decide +kernel
theorem dX4_flowers_95 : decode cX4_flowers 95 = .ok (.istore_n 3, 1) := by decide +kernel
theorem dX4_flowers_96 : decode cX4_flowers 96 = .ok (.iload_n 3, 1) := by decide +kernel
theorem dX4_flowers_97 : decode cX4_flowers 97 = .ok (.aload_n 0, 1) := by decide +kernel
theorem dX4_flowers_98 : decode cX4_flowers 98 = .ok (.getfield 9, 3) := by decide +kernel
theorem dX4_flowers_101 : decode cX4_flowers 101 = .ok (.arraylength, 1) := by decide +kernel
theorem dX4_flowers_102 : decode cX4_flowers 102 = .ok (.if_icmp .ge 159, 3) := by decide +kernel
theorem dX4_flowers_105 : decode cX4_flowers 105 = .ok (.iconst 0, 1) := by decide +kernel
theorem dX4_flowers_106 : decode cX4_flowers 106 = .ok (.istore 4, 2) := by decide +kernel
theorem dX4_flowers_108 : decode cX4_flowers 108 = .ok (.iload 4, 2) := by decide +kernel
theorem dX4_flowers_110 : decode cX4_flowers 110 = .ok (.aload_n 0, 1) := by decide +kernel
theorem dX4_flowers_111 : decode cX4_flowers 111 = .ok (.getfield 9, 3) := by decide +kernel
theorem dX4_flowers_114 : decode cX4_flowers 114 = .ok (.iconst 0, 1) := by decide +kernel
theorem dX4_flowers_115 : decode cX4_flowers 115 = .ok (.aaload, 1) := by decide +kernel
theorem dX4_flowers_116 : decode cX4_flowers 116 = .ok (.arraylength, 1) := by decide +kernel
theorem dX4_flowers_117 : decode cX4_flowers 117 = .ok (.if_icmp .ge 138, 3) := by decide +kernel
theorem dX4_flowers_120 : decode cX4_flowers 120 = .ok (.iconst 0, 1) := by decide +kernel
theorem dX4_flowers_121 : decode cX4_flowers 121 = .ok (.istore 5, 2) := by decide +kernel
theorem dX4_flowers_123 : decode cX4_flowers 123 = .ok (.iload 5, 2) := by decide +kernel
theorem dX4_flowers_125 : decode cX4_flowers 125 = .ok (.iconst 4, 1) := by decide +kernel
theorem dX4_flowers_126 : decode cX4_flowers 126 = .ok (.if_icmp .ge 123, 3) := by decide +kernel
theorem dX4_flowers_129 : decode cX4_flowers 129 = .ok (.iload_n 3, 1) := by decide +kernel
theorem dX4_flowers_130 : decode cX4_flowers 130 = .ok (.iload 5, 2) := by decide +kernel
theorem dX4_flowers_132 : decode cX4_flowers 132 = .ok (.ifCond .ne 7, 3) := by decide +kernel
theorem dX4_flowers_135 : decode cX4_flowers 135 = .ok (.iconst 1, 1) := by decide +kernel
theorem dX4_flowers_136 : decode cX4_flowers 136 = .ok (.goto 14, 3) := by decide +kernel
theorem dX4_flowers_139 : decode cX4_flowers 139 = .ok (.iload 5, 2) := by decide +kernel
theorem dX4_flowers_141 : decode cX4_flowers 141 = .ok (.iconst 1, 1) := by decide +kernel
theorem dX4_flowers_142 : decode cX4_flowers 142 = .ok (.if_icmp .ne 7, 3) := by decide +kernel
theorem dX4_flowers_145 : decode cX4_flowers 145 = .ok (.iconst (-1), 1) := by decide +kernel
theorem dX4_flowers_146 : decode cX4_flowers 146 = .ok (.goto 4, 3) := by decide +kernel
theorem dX4_flowers_149 : decode cX4_flowers 149 = .ok (.iconst 0, 1) := by decide +kernel
theorem dX4_flowers_150 : decode cX4_flowers 150 = .ok (.iadd, 1) := by decide +kernel
theorem dX4_flowers_151 : decode cX4_flowers 151 = .ok (.istore 6, 2) := by decide +kernel
theorem dX4_flowers_153 : decode cX4_flowers 153 = .ok (.iload 4, 2) := by decide +kernel
theorem dX4_flowers_155 : decode cX4_flowers 155 = .ok (.iload 5, 2) := by decide +kernel
theorem dX4_flowers_157 : decode cX4_flowers 157 = .ok (.iconst 2, 1) := by decide +kernel
theorem dX4_flowers_158 : decode cX4_flowers 158 = .ok (.if_icmp .ne 7, 3) := by decide +kernel
theorem dX4_flowers_161 : decode cX4_flowers 161 = .ok (.iconst 1, 1) := by decide +kernel
theorem dX4_flowers_162 : decode cX4_flowers 162 = .ok (.goto 14, 3) := by decide +kernel
theorem dX4_flowers_165 : decode cX4_flowers 165 = .ok (.iload 5, 2) := by decide +kernel
theorem dX4_flowers_167 : decode cX4_flowers 167 = .ok (.iconst 3, 1) := by decide +kernel
theorem dX4_flowers_168 : decode cX4_flowers 168 = .ok (.if_icmp .ne 7, 3) := by decide +kernel
theorem dX4_flowers_171 : decode cX4_flowers 171 = .ok (.iconst (-1), 1) := by decide +kernel
theorem dX4_flowers_172 : decode cX4_flowers 172 = .ok (.goto 4, 3) := by decide +kernel
theorem dX4_flowers_175 : decode cX4_flowers 175 = .ok (.iconst 0, 1) := by decide +kernel
theorem dX4_flowers_176 : decode cX4_flowers 176 = .ok (.iadd, 1) := by decide +kernel
theorem dX4_flowers_177 : decode cX4_flowers 177 = .ok (.istore 7, 2) := by decide +kernel
theorem dX4_flowers_179 : decode cX4_flowers 179 = .ok (.aload_n 1, 1) := by decide +kernel
theorem dX4_flowers_180 : decode cX4_flowers 180 = .ok (.iload_n 3, 1) := by decide +kernel
theorem dX4_flowers_181 : decode cX4_flowers 181 = .ok (.aaload, 1) := by decide +kernel
theorem dX4_flowers_182 : decode cX4_flowers 182 = .ok (.iload 4, 2) := by decide +kernel
theorem dX4_flowers_184 : decode cX4_flowers 184 = .ok (.iaload, 1) := by decide +kernel
theorem dX4_flowers_185 : decode cX4_flowers 185 = .ok (.ifCond .eq 58, 3) := by decide +kernel
theorem dX4_flowers_188 : decode cX4_flowers 188 = .ok (.aload_n 0, 1) := by decide +kernel
theorem dX4_flowers_189 : decode cX4_flowers 189 = .ok (.iload 7, 2) := by decide +kernel
theorem dX4_flowers_191 : decode cX4_flowers 191 = .ok (.iload 6, 2) := by decide +kernel
theorem dX4_flowers_193 : decode cX4_flowers 193 = .ok (.invokevirtual 46, 3) := by decide +kernel
theorem dX4_flowers_196 : decode cX4_flowers 196 = .ok (.ifCond .eq 47, 3) := by decide +kernel
theorem dX4_flowers_199 : decode cX4_flowers 199 = .ok (.aload_n 1, 1) := by decide +kernel
theorem dX4_flowers_200 : decode cX4_flowers 200 = .ok (.iload 6, 2) := by decide +kernel
theorem dX4_flowers_202 : decode cX4_flowers 202 = .ok (.aaload, 1) := by decide +kernel
theorem dX4_flowers_203 : decode cX4_flowers 203 = .ok (.iload 7, 2) := by decide +kernel
theorem dX4_flowers_205 : decode cX4_flowers 205 = .ok (.iaload, 1) := by decide +kernel
theorem dX4_flowers_206 : decode cX4_flowers 206 = .ok (.ifCond .eq 37, 3) := by decide +kernel
theorem dX4_flowers_209 : decode cX4_flowers 209 = .ok (.aload_n 1, 1) := by decide +kernel
theorem dX4_flowers_210 : decode cX4_flowers 210 = .ok (.iload 6, 2) := by decide +kernel
theorem dX4_flowers_212 : decode cX4_flowers 212 = .ok (.aaload, 1) := by decide +kernel
theorem dX4_flowers_213 : decode cX4_flowers 213 = .ok (.iload 7, 2) := by decide +kernel
theorem dX4_flowers_215 : decode cX4_flowers 215 = .ok (.iaload, 1) := by decide +kernel
theorem dX4_flowers_216 : decode cX4_flowers 216 = .ok (.aload_n 1, 1) := by decide +kernel
theorem dX4_flowers_217 : decode cX4_flowers 217 = .ok (.iload_n 3, 1) := by decide +kernel
theorem dX4_flowers_218 : decode cX4_flowers 218 = .ok (.aaload, 1) := by decide +kernel
theorem dX4_flowers_219 : decode cX4_flowers 219 = .ok (.iload 4, 2) := by decide +kernel
theorem dX4_flowers_221 : decode cX4_flowers 221 = .ok (.iaload, 1) := by decide +kernel
theorem dX4_flowers_222 : decode cX4_flowers 222 = .ok (.if_icmp .lt 6, 3) := by decide +kernel
theorem dX4_flowers_225 : decode cX4_flowers 225 = .ok (.goto 18, 3) := by decide +kernel
theorem dX4_flowers_228 : decode cX4_flowers 228 = .ok (.aload_n 1, 1) := by decide +kernel
theorem dX4_flowers_229 : decode cX4_flowers 229 = .ok (.iload_n 3, 1) := by decide +kernel
theorem dX4_flowers_230 : decode cX4_flowers 230 = .ok (.aaload, 1) := by decide +kernel
theorem dX4_flowers_231 : decode cX4_flowers 231 = .ok (.iload 4, 2) := by decide +kernel
theorem dX4_flowers_233 : decode cX4_flowers 233 = .ok (.aload_n 1, 1) := by decide +kernel
theorem dX4_flowers_234 : decode cX4_flowers 234 = .ok (.iload 6, 2) := by decide +kernel
theorem dX4_flowers_236 : decode cX4_flowers 236 = .ok (.aaload, 1) := by decide +kernel
theorem dX4_flowers_237 : decode cX4_flowers 237 = .ok (.iload 7, 2) := by decide +kernel
theorem dX4_flowers_239 : decode cX4_flowers 239 = .ok (.iaload, 1) := by decide +kernel
theorem dX4_flowers_240 : decode cX4_flowers 240 = .ok (.iastore, 1) := by decide +kernel
theorem dX4_flowers_241 : decode cX4_flowers 241 = .ok (.iconst 1, 1) := by decide +kernel
theorem dX4_flowers_242 : decode cX4_flowers 242 = .ok (.istore_n 2, 1) := by decide +kernel
theorem dX4_flowers_243 : decode cX4_flowers 243 = .ok (.iinc 5 1, 3) := by decide +kernel
theorem dX4_flowers_246 : decode cX4_flowers 246 = .ok (.goto (-123), 3) := by decide +kernel
theorem dX4_flowers_249 : decode cX4_flowers 249 = .ok (.iinc 4 1, 3) := by decide +kernel
theorem dX4_flowers_252 : decode cX4_flowers 252 = .ok (.goto (-144), 3) := by decide +kernel
theorem dX4_flowers_255 : decode cX4_flowers 255 = .ok (.iinc 3 1, 3) := by decide +kernel
theorem dX4_flowers_258 : decode cX4_flowers 258 = .ok (.goto (-162), 3) := by decide +kernel
theorem dX4_flowers_261 : decode cX4_flowers 261 = .ok (.goto (-173), 3) := by decide +kernel
theorem dX4_flowers_264 : decode cX4_flowers 264 = .ok (.aload_n 1, 1) := by decide +kernel
theorem dX4_flowers_265 : decode cX4_flowers 265 = .ok (.areturn, 1) := by decide +kernel
set_option maxRecDepth 20000 in
theorem ggX4_isSame_X3_isFrozen : GoodIn wsX4_isSame wsX3_isFrozen := goodIn_ca (goodIn_r _ [15, 16, 17, 18, 19, 14, 20, 21, 22, 23, 24, 25, 26, 27, 28, 29, 30, 31, 32, 33, 34, 35, 36, 37, 38, 39, 40, 41, 42, 239, 240, 241, 242, 243, 244, 245, 246, 247, 248, 249, 250] (by decide +kernel) (by decide +kernel)) (goodIn_sub (fun _ h => List.mem_cons_of_mem _ (List.mem_append_right _ h)) (by decide +kernel))
set_option maxRecDepth 20000 in
theorem gX4_isSame_X3_isFrozen : GoodIn wsX4_isSame (wsV RX4 63 RX3 yX3_isFrozen wsX3_isFrozen) := goodIn_app (goodIn_of _ (by decide +kernel)) ggX4_isSame_X3_isFrozen
set_option maxRecDepth 20000 in
theorem ggX4_isSame_X3_meltedFor : GoodIn wsX4_isSame wsX3_meltedFor := goodIn_ca (goodIn_r _ [46, 16, 17, 18, 19, 14, 20, 21, 22, 23, 24, 25, 26, 27, 28, 29, 30, 31, 32, 33, 47, 48, 49, 50, 51, 239, 240, 241, 242, 243, 244, 245, 246, 247, 248, 249, 250] (by decide +kernel) (by decide +kernel)) (goodIn_sub (fun _ h => List.mem_cons_of_mem _ (List.mem_append_right _ h)) (by decide +kernel))
set_option maxRecDepth 20000 in
theorem gX4_isSame_X3_meltedFor : GoodIn wsX4_isSame (wsV RX4 68 RX3 yX3_meltedFor wsX3_meltedFor) := goodIn_app (goodIn_of _ (by decide +kernel)) ggX4_isSame_X3_meltedFor
set_option maxRecDepth 20000 in
theorem ggX4_isSame_X3_frozenInRow : GoodIn wsX4_isSame wsX3_frozenInRow := goodIn_ca (goodIn_r _ [55, 21, 22, 16, 56, 30, 31, 26, 32, 33, 57, 39, 40, 41, 42, 58, 59, 60, 61, 62, 63, 64, 239, 240, 241, 242, 243, 244, 245, 246, 247, 248, 249, 250] (by decide +kernel) (by decide +kernel)) (goodIn_sub (fun _ h => List.mem_cons_of_mem _ (List.mem_append_right _ h)) (by decide +kernel))
set_option maxRecDepth 20000 in
theorem gX4_isSame_X3_frozenInRow : GoodIn wsX4_isSame (wsV RX4 71 RX3 yX3_frozenInRow wsX3_frozenInRow) := goodIn_app (goodIn_of _ (by decide +kernel)) ggX4_isSame_X3_frozenInRow
set_option maxRecDepth 20000 in
theorem ggX4_isSame_X4_flowers : GoodIn wsX4_isSame wsX4_flowers := goodIn_r _ [69, 1, 70, 2, 71, 72, 73, 68, 74, 233, 234, 235, 236, 237, 238] (by decide +kernel) (by decide +kernel)
set_option maxRecDepth 20000 in
theorem gX4_isSame_X4_flowers : GoodIn wsX4_isSame (wsV RX4 74 RX4 yX4_flowers wsX4_flowers) := goodIn_app (goodIn_of _ (by decide +kernel)) ggX4_isSame_X4_flowers
set_option maxRecDepth 20000 in
theorem ggX4_isSame_X3_flowerAt : GoodIn wsX4_isSame wsX3_flowerAt := goodIn_ca (goodIn_r _ [78, 79, 16, 17, 18, 19, 14, 20, 21, 22, 23, 24, 25, 26, 27, 28, 29, 30, 31, 32, 33, 80, 81, 82, 83, 84, 85, 86, 39, 40, 41, 42, 87, 88, 89, 90, 91, 92, 93, 94, 95, 96, 97, 98, 99, 100, 101, 102, 103, 104, 105, 106, 107, 108, 59, 60, 61, 62, 63, 64, 239, 240, 241, 242, 243, 244, 245, 246, 247, 248, 249, 250, 251, 252] (by decide +kernel) (by decide +kernel)) (goodIn_sub (fun _ h => List.mem_cons_of_mem _ (List.mem_append_right _ h)) (by decide +kernel))
set_option maxRecDepth 20000 in
theorem gX4_isSame_X3_flowerAt : GoodIn wsX4_isSame (wsV RX4 81 RX3 yX3_flowerAt wsX3_flowerAt) := goodIn_app (goodIn_of _ (by decide +kernel)) ggX4_isSame_X3_flowerAt
set_option maxRecDepth 20000 in
theorem ggX4_isSame_X3_around : GoodIn wsX4_isSame wsX3_around := goodIn_ca (goodIn_r _ [112, 16, 17, 18, 19, 14, 20, 21, 22, 23, 24, 25, 26, 27, 28, 29, 30, 31, 32, 33, 113, 114, 115, 116, 117, 118, 119, 120, 121, 38, 39, 40, 41, 42, 122, 123, 124, 125, 126, 127, 128, 129, 59, 60, 61, 62, 63, 64, 239, 240, 241, 242, 243, 244, 245, 246, 247, 248, 249, 250] (by decide +kernel) (by decide +kernel)) (goodIn_sub (fun _ h => List.mem_cons_of_mem _ (List.mem_append_right _ h)) (by decide +kernel))
set_option maxRecDepth 20000 in
theorem gX4_isSame_X3_around : GoodIn wsX4_isSame (wsV RX4 84 RX3 yX3_around wsX3_around) := goodIn_app (goodIn_of _ (by decide +kernel)) ggX4_isSame_X3_around
set_option maxRecDepth 20000 in
theorem ggX4_isSame_X4_around : GoodIn wsX4_isSame wsX4_around := goodIn_r _ [133, 134, 1, 71, 72, 73, 68, 74, 233, 234, 235, 236, 237, 238] (by decide +kernel) (by decide +kernel)
set_option maxRecDepth 20000 in
theorem gX4_isSame_X4_around : GoodIn wsX4_isSame (wsV RX4 50 RX4 yX4_around wsX4_around) := goodIn_app (goodIn_of _ (by decide +kernel)) ggX4_isSame_X4_around
set_option maxRecDepth 20000 in
theorem ggX4_isSame_X3_willFreeze : GoodIn wsX4_isSame wsX3_willFreeze := goodIn_ca (goodIn_r _ [138, 16, 139, 140, 17, 18, 19, 14, 20, 21, 22, 23, 24, 25, 26, 27, 28, 29, 30, 31, 32, 33, 141, 142, 143, 144, 145, 146, 147, 148, 149, 150, 151, 152, 153, 154, 155, 156, 157, 158, 159, 160, 161, 162, 163, 164, 117, 118, 119, 120, 121, 38, 39, 40, 41, 42, 122, 123, 124, 125, 165, 35, 36, 37, 126, 127, 128, 129, 59, 60, 61, 62, 63, 64, 166, 48, 49, 50, 51, 239, 240, 241, 242, 243, 244, 245, 246, 247, 248, 249, 250, 253, 254, 255] (by decide +kernel) (by decide +kernel)) (goodIn_sub (fun _ h => List.mem_cons_of_mem _ (List.mem_append_right _ h)) (by decide +kernel))
set_option maxRecDepth 20000 in
theorem gX4_isSame_X3_willFreeze : GoodIn wsX4_isSame (wsV RX4 85 RX3 yX3_willFreeze wsX3_willFreeze) := goodIn_app (goodIn_of _ (by decide +kernel)) ggX4_isSame_X3_willFreeze
set_option maxRecDepth 20000 in
theorem ggX4_isSame_X4_will : GoodIn wsX4_isSame wsX4_will := goodIn_r _ [170, 3, 9, 10, 1, 130, 131, 132, 68, 133, 134, 71, 72, 73, 74, 233, 234, 235, 236, 237, 238] (by decide +kernel) (by decide +kernel)
set_option maxRecDepth 20000 in
theorem gX4_isSame_X4_will : GoodIn wsX4_isSame (wsV RX4 54 RX4 yX4_will wsX4_will) := goodIn_app (goodIn_of _ (by decide +kernel)) ggX4_isSame_X4_will
set_option maxRecDepth 20000 in
theorem ggX4_isSame_X3_columns : GoodIn wsX4_isSame wsX3_columns := goodIn_r _ [174, 16, 239, 240, 241, 242, 243, 244, 245, 246, 247, 248, 249, 250] (by decide +kernel) (by decide +kernel)
set_option maxRecDepth 20000 in
theorem gX4_isSame_X3_columns : GoodIn wsX4_isSame (wsV RX4 88 RX3 yX3_columns wsX3_columns) := goodIn_app (goodIn_of _ (by decide +kernel)) ggX4_isSame_X3_columns
set_option maxRecDepth 20000 in
theorem ggX4_isSame_X3_rows : GoodIn wsX4_isSame wsX3_rows := goodIn_r _ [178, 16, 239, 240, 241, 242, 243, 244, 245, 246, 247, 248, 249, 250] (by decide +kernel) (by decide +kernel)
set_option maxRecDepth 20000 in
theorem gX4_isSame_X3_rows : GoodIn wsX4_isSame (wsV RX4 92 RX3 yX3_rows wsX3_rows) := goodIn_app (goodIn_of _ (by decide +kernel)) ggX4_isSame_X3_rows
set_option maxRecDepth 20000 in
theorem ggX4_isSame_X3_generation : GoodIn wsX4_isSame wsX3_generation := goodIn_r _ [182, 183, 239, 240, 241, 242, 243, 244] (by decide +kernel) (by decide +kernel)
set_option maxRecDepth 20000 in
theorem gX4_isSame_X3_generation : GoodIn wsX4_isSame (wsV RX4 95 RX3 yX3_generation wsX3_generation) := goodIn_app (goodIn_of _ (by decide +kernel)) ggX4_isSame_X3_generation
set_option maxRecDepth 20000 in
theorem ggX4_isSame_X3_rules : GoodIn wsX4_isSame wsX3_rules := goodIn_r _ [187, 139, 239, 240, 241, 242, 243, 244, 253, 254, 255] (by decide +kernel) (by decide +kernel)
set_option maxRecDepth 20000 in
theorem gX4_isSame_X3_rules : GoodIn wsX4_isSame (wsV RX4 97 RX3 yX3_rules wsX3_rules) := goodIn_app (goodIn_of _ (by decide +kernel)) ggX4_isSame_X3_rules
set_option maxRecDepth 20000 in
theorem ggX4_isSame_X3_breath : GoodIn wsX4_isSame wsX3_breath := goodIn_r _ [191, 140, 239, 240, 241, 242, 243, 244] (by decide +kernel) (by decide +kernel)
set_option maxRecDepth 20000 in
theorem gX4_isSame_X3_breath : GoodIn wsX4_isSame (wsV RX4 99 RX3 yX3_breath wsX3_breath) := goodIn_app (goodIn_of _ (by decide +kernel)) ggX4_isSame_X3_breath
set_option maxRecDepth 20000 in
theorem ggX4_isSame_X3_frozen : GoodIn wsX4_isSame wsX3_frozen := goodIn_r _ [195, 16, 196, 197, 198, 26, 199, 33, 38, 39, 40, 41, 42, 129, 59, 60, 61, 62, 63, 64, 239, 240, 241, 242, 243, 244, 245, 246, 247, 248, 249, 250] (by decide +kernel) (by decide +kernel)
set_option maxRecDepth 20000 in
theorem gX4_isSame_X3_frozen : GoodIn wsX4_isSame (wsV RX4 101 RX3 yX3_frozen wsX3_frozen) := goodIn_app (goodIn_of _ (by decide +kernel)) ggX4_isSame_X3_frozen
set_option maxRecDepth 20000 in
theorem ggX4_isSame_X4_frozen : GoodIn wsX4_isSame wsX4_frozen := goodIn_r _ [203, 1, 233, 234, 235, 236, 237, 238] (by decide +kernel) (by decide +kernel)
set_option maxRecDepth 20000 in
theorem gX4_isSame_X4_frozen : GoodIn wsX4_isSame (wsV RX4 104 RX4 yX4_frozen wsX4_frozen) := goodIn_app (goodIn_of _ (by decide +kernel)) ggX4_isSame_X4_frozen
set_option maxRecDepth 20000 in
theorem ggX4_isSame_X3_melted : GoodIn wsX4_isSame wsX3_melted := goodIn_r _ [207, 16, 208, 209, 210, 26, 211, 51, 239, 240, 241, 242, 243, 244, 245, 246, 247, 248, 249, 250] (by decide +kernel) (by decide +kernel)
set_option maxRecDepth 20000 in
theorem gX4_isSame_X3_melted : GoodIn wsX4_isSame (wsV RX4 105 RX3 yX3_melted wsX3_melted) := goodIn_app (goodIn_of _ (by decide +kernel)) ggX4_isSame_X3_melted
set_option maxRecDepth 20000 in
theorem ggX4_isSame_X4_melted : GoodIn wsX4_isSame wsX4_melted := goodIn_r _ [215, 3, 233, 234, 235, 236, 237, 238] (by decide +kernel) (by decide +kernel)
set_option maxRecDepth 20000 in
theorem gX4_isSame_X4_melted : GoodIn wsX4_isSame (wsV RX4 108 RX4 yX4_melted wsX4_melted) := goodIn_app (goodIn_of _ (by decide +kernel)) ggX4_isSame_X4_melted
set_option maxRecDepth 20000 in
theorem ggX4_isSame_X3_flowers : GoodIn wsX4_isSame wsX3_flowers := goodIn_r _ [219, 79, 16, 80, 81, 82, 83, 84, 85, 86, 39, 40, 26, 41, 42, 87, 88, 89, 90, 91, 92, 93, 94, 95, 96, 97, 98, 99, 100, 101, 102, 103, 104, 105, 106, 107, 108, 59, 60, 61, 62, 63, 64, 239, 240, 241, 242, 243, 244, 245, 246, 247, 248, 249, 250, 251, 252] (by decide +kernel) (by decide +kernel)
set_option maxRecDepth 20000 in
theorem gX4_isSame_X3_flowers : GoodIn wsX4_isSame (wsV RX4 109 RX3 yX3_flowers wsX3_flowers) := goodIn_app (goodIn_of _ (by decide +kernel)) ggX4_isSame_X3_flowers
set_option maxRecDepth 20000 in
theorem ggX4_isSame_X3_largestFlower : GoodIn wsX4_isSame wsX3_largestFlower := goodIn_r _ [223, 79, 16, 224, 5, 6, 7, 80, 81, 82, 83, 84, 85, 86, 39, 40, 26, 41, 42, 87, 88, 89, 90, 91, 92, 93, 94, 95, 96, 97, 98, 99, 100, 101, 102, 103, 104, 105, 106, 107, 108, 59, 60, 61, 62, 63, 64, 239, 240, 241, 242, 243, 244, 245, 246, 247, 248, 249, 250, 251, 252] (by decide +kernel) (by decide +kernel)
set_option maxRecDepth 20000 in
theorem gX4_isSame_X3_largestFlower : GoodIn wsX4_isSame (wsV RX4 111 RX3 yX3_largestFlower wsX3_largestFlower) := goodIn_app (goodIn_of _ (by decide +kernel)) ggX4_isSame_X3_largestFlower
set_option maxRecDepth 20000 in
theorem ggX4_isSame_X3_isMirrored : GoodIn wsX4_isSame wsX3_isMirrored := goodIn_r _ [228, 16, 34, 35, 36, 26, 37, 38, 39, 40, 41, 42, 239, 240, 241, 242, 243, 244, 245, 246, 247, 248, 249, 250] (by decide +kernel) (by decide +kernel)
set_option maxRecDepth 20000 in
theorem gX4_isSame_X3_isMirrored : GoodIn wsX4_isSame (wsV RX4 114 RX3 yX3_isMirrored wsX3_isMirrored) := goodIn_app (goodIn_of _ (by decide +kernel)) ggX4_isSame_X3_isMirrored
set_option maxRecDepth 20000 in
theorem ggX4_isSame_X3_meanInRows : GoodIn wsX4_isSame wsX3_meanInRows := goodIn_r _ [232, 16, 196, 197, 198, 26, 199, 33, 38, 39, 40, 41, 42, 129, 59, 60, 61, 62, 63, 64, 239, 240, 241, 242, 243, 244, 245, 246, 247, 248, 249, 250] (by decide +kernel) (by decide +kernel)
set_option maxRecDepth 20000 in
theorem gX4_isSame_X3_meanInRows : GoodIn wsX4_isSame (wsV RX4 118 RX3 yX3_meanInRows wsX3_meanInRows) := goodIn_app (goodIn_of _ (by decide +kernel)) ggX4_isSame_X3_meanInRows
theorem dX4_isSame_0 : decode cX4_isSame 0 = .ok (.aload_n 0, 1) := by decide +kernel
theorem dX4_isSame_1 : decode cX4_isSame 1 = .ok (.getfield 9, 3) := by decide +kernel
theorem dX4_isSame_4 : decode cX4_isSame 4 = .ok (.iconst 0, 1) := by decide +kernel
theorem dX4_isSame_5 : decode cX4_isSame 5 = .ok (.aaload, 1) := by decide +kernel
theorem dX4_isSame_6 : decode cX4_isSame 6 = .ok (.arraylength, 1) := by decide +kernel
theorem dX4_isSame_7 : decode cX4_isSame 7 = .ok (.istore_n 2, 1) := by decide +kernel
theorem dX4_isSame_8 : decode cX4_isSame 8 = .ok (.iload_n 2, 1) := by decide +kernel
theorem dX4_isSame_9 : decode cX4_isSame 9 = .ok (.aload_n 0, 1) := by decide +kernel
theorem dX4_isSame_10 : decode cX4_isSame 10 = .ok (.getfield 9, 3) := by decide +kernel
theorem dX4_isSame_13 : decode cX4_isSame 13 = .ok (.arraylength, 1) := by decide +kernel
theorem dX4_isSame_14 : decode cX4_isSame 14 = .ok (.imul, 1) := by decide +kernel
theorem dX4_isSame_15 : decode cX4_isSame 15 = .ok (.iconst 1, 1) := by decide +kernel
theorem dX4_isSame_16 : decode cX4_isSame 16 = .ok (.iadd, 1) := by decide +kernel
theorem dX4_isSame_17 : decode cX4_isSame 17 = .ok (.newarray .int, 2) := by decide +kernel
theorem dX4_isSame_19 : decode cX4_isSame 19 = .ok (.astore_n 3, 1) := by decide +kernel
theorem dX4_isSame_20 : decode cX4_isSame 20 = .ok (.iconst 1, 1) := by decide +kernel
theorem dX4_isSame_21 : decode cX4_isSame 21 = .ok (.istore 4, 2) := by decide +kernel
theorem dX4_isSame_23 : decode cX4_isSame 23 = .ok (.iconst 0, 1) := by decide +kernel
theorem dX4_isSame_24 : decode cX4_isSame 24 = .ok (.istore 5, 2) := by decide +kernel
theorem dX4_isSame_26 : decode cX4_isSame 26 = .ok (.iload 5, 2) := by decide +kernel
theorem dX4_isSame_28 : decode cX4_isSame 28 = .ok (.aload_n 0, 1) := by decide +kernel
theorem dX4_isSame_29 : decode cX4_isSame 29 = .ok (.getfield 9, 3) := by decide +kernel
theorem dX4_isSame_32 : decode cX4_isSame 32 = .ok (.arraylength, 1) := by decide +kernel
theorem dX4_isSame_33 : decode cX4_isSame 33 = .ok (.if_icmp .ge 144, 3) := by decide +kernel
theorem dX4_isSame_36 : decode cX4_isSame 36 = .ok (.iconst 0, 1) := by decide +kernel
theorem dX4_isSame_37 : decode cX4_isSame 37 = .ok (.istore 6, 2) := by decide +kernel
theorem dX4_isSame_39 : decode cX4_isSame 39 = .ok (.iconst 0, 1) := by decide +kernel
theorem dX4_isSame_40 : decode cX4_isSame 40 = .ok (.istore 7, 2) := by decide +kernel
theorem dX4_isSame_42 : decode cX4_isSame 42 = .ok (.iload 7, 2) := by decide +kernel
theorem dX4_isSame_44 : decode cX4_isSame 44 = .ok (.iload_n 2, 1) := by decide +kernel
theorem dX4_isSame_45 : decode cX4_isSame 45 = .ok (.if_icmp .ge 113, 3) := by decide +kernel
theorem dX4_isSame_48 : decode cX4_isSame 48 = .ok (.iload 6, 2) := by decide +kernel
theorem dX4_isSame_50 : decode cX4_isSame 50 = .ok (.aload_n 0, 1) := by decide +kernel
theorem dX4_isSame_51 : decode cX4_isSame 51 = .ok (.getfield 9, 3) := by decide +kernel
theorem dX4_isSame_54 : decode cX4_isSame 54 = .ok (.iload 5, 2) := by decide +kernel
theorem dX4_isSame_56 : decode cX4_isSame 56 = .ok (.aaload, 1) := by decide +kernel
theorem dX4_isSame_57 : decode cX4_isSame 57 = .ok (.iload 7, 2) := by decide +kernel
theorem dX4_isSame_59 : decode cX4_isSame 59 = .ok (.baload, 1) := by decide +kernel
theorem dX4_isSame_60 : decode cX4_isSame 60 = .ok (.ifCond .eq 7, 3) := by decide +kernel
theorem dX4_isSame_63 : decode cX4_isSame 63 = .ok (.iconst 1, 1) := by decide +kernel
theorem dX4_isSame_64 : decode cX4_isSame 64 = .ok (.goto 4, 3) := by decide +kernel
theorem dX4_isSame_67 : decode cX4_isSame 67 = .ok (.iconst 0, 1) := by decide +kernel
theorem dX4_isSame_68 : decode cX4_isSame 68 = .ok (.iadd, 1) := by decide +kernel
theorem dX4_isSame_69 : decode cX4_isSame 69 = .ok (.istore 6, 2) := by decide +kernel
theorem dX4_isSame_71 : decode cX4_isSame 71 = .ok (.iload 4, 2) := by decide +kernel
theorem dX4_isSame_73 : decode cX4_isSame 73 = .ok (.aload_n 0, 1) := by decide +kernel
theorem dX4_isSame_74 : decode cX4_isSame 74 = .ok (.getfield 9, 3) := by decide +kernel
theorem dX4_isSame_77 : decode cX4_isSame 77 = .ok (.iload 5, 2) := by decide +kernel
theorem dX4_isSame_79 : decode cX4_isSame 79 = .ok (.aaload, 1) := by decide +kernel
theorem dX4_isSame_80 : decode cX4_isSame 80 = .ok (.iload 7, 2) := by decide +kernel
theorem dX4_isSame_82 : decode cX4_isSame 82 = .ok (.baload, 1) := by decide +kernel
theorem dX4_isSame_83 : decode cX4_isSame 83 = .ok (.aload_n 0, 1) := by decide +kernel
theorem dX4_isSame_84 : decode cX4_isSame 84 = .ok (.getfield 9, 3) := by decide +kernel
theorem dX4_isSame_87 : decode cX4_isSame 87 = .ok (.iload 5, 2) := by decide +kernel
theorem dX4_isSame_89 : decode cX4_isSame 89 = .ok (.aaload, 1) := by decide +kernel
theorem dX4_isSame_90 : decode cX4_isSame 90 = .ok (.iload_n 2, 1) := by decide +kernel
theorem dX4_isSame_91 : decode cX4_isSame 91 = .ok (.iconst 1, 1) := by decide +kernel
theorem dX4_isSame_92 : decode cX4_isSame 92 = .ok (.isub, 1) := by decide +kernel
theorem dX4_isSame_93 : decode cX4_isSame 93 = .ok (.iload 7, 2) := by decide +kernel
theorem dX4_isSame_95 : decode cX4_isSame 95 = .ok (.isub, 1) := by decide +kernel
theorem dX4_isSame_96 : decode cX4_isSame 96 = .ok (.baload, 1) := by decide +kernel
theorem dX4_isSame_97 : decode cX4_isSame 97 = .ok (.if_icmp .ne 7, 3) := by decide +kernel
theorem dX4_isSame_100 : decode cX4_isSame 100 = .ok (.iconst 1, 1) := by decide +kernel
theorem dX4_isSame_101 : decode cX4_isSame 101 = .ok (.goto 4, 3) := by decide +kernel
theorem dX4_isSame_104 : decode cX4_isSame 104 = .ok (.iconst 0, 1) := by decide +kernel
theorem dX4_isSame_105 : decode cX4_isSame 105 = .ok (.iand, 1) := by decide +kernel
theorem dX4_isSame_106 : decode cX4_isSame 106 = .ok (.istore 4, 2) := by decide +kernel
theorem dX4_isSame_108 : decode cX4_isSame 108 = .ok (.aload_n 1, 1) := by decide +kernel
theorem dX4_isSame_109 : decode cX4_isSame 109 = .ok (.iload 7, 2) := by decide +kernel
theorem dX4_isSame_111 : decode cX4_isSame 111 = .ok (.iload 5, 2) := by decide +kernel
theorem dX4_isSame_113 : decode cX4_isSame 113 = .ok (.invokevirtual 63, 3) := by decide +kernel
theorem dX4_isSame_116 : decode cX4_isSame 116 = .ok (.aload_n 0, 1) := by decide +kernel
theorem dX4_isSame_117 : decode cX4_isSame 117 = .ok (.getfield 9, 3) := by decide +kernel
theorem dX4_isSame_120 : decode cX4_isSame 120 = .ok (.iload 5, 2) := by decide +kernel
theorem dX4_isSame_122 : decode cX4_isSame 122 = .ok (.aaload, 1) := by decide +kernel
theorem dX4_isSame_123 : decode cX4_isSame 123 = .ok (.iload 7, 2) := by decide +kernel
theorem dX4_isSame_125 : decode cX4_isSame 125 = .ok (.baload, 1) := by decide +kernel
theorem dX4_isSame_126 : decode cX4_isSame 126 = .ok (.if_icmp .ne 24, 3) := by decide +kernel
theorem dX4_isSame_129 : decode cX4_isSame 129 = .ok (.aload_n 1, 1) := by decide +kernel
theorem dX4_isSame_130 : decode cX4_isSame 130 = .ok (.iload 7, 2) := by decide +kernel
theorem dX4_isSame_132 : decode cX4_isSame 132 = .ok (.iload 5, 2) := by decide +kernel
theorem dX4_isSame_134 : decode cX4_isSame 134 = .ok (.invokevirtual 68, 3) := by decide +kernel
theorem dX4_isSame_137 : decode cX4_isSame 137 = .ok (.aload_n 0, 1) := by decide +kernel
theorem dX4_isSame_138 : decode cX4_isSame 138 = .ok (.getfield 16, 3) := by decide +kernel
theorem dX4_isSame_141 : decode cX4_isSame 141 = .ok (.iload 5, 2) := by decide +kernel
theorem dX4_isSame_143 : decode cX4_isSame 143 = .ok (.aaload, 1) := by decide +kernel
theorem dX4_isSame_144 : decode cX4_isSame 144 = .ok (.iload 7, 2) := by decide +kernel
theorem dX4_isSame_146 : decode cX4_isSame 146 = .ok (.iaload, 1) := by decide +kernel
theorem dX4_isSame_147 : decode cX4_isSame 147 = .ok (.if_icmp .eq 5, 3) := by decide +kernel
theorem dX4_isSame_150 : decode cX4_isSame 150 = .ok (.iconst 0, 1) := by decide +kernel
theorem dX4_isSame_151 : decode cX4_isSame 151 = .ok (.ireturn, 1) := by decide +kernel
theorem dX4_isSame_152 : decode cX4_isSame 152 = .ok (.iinc 7 1, 3) := by decide +kernel
theorem dX4_isSame_155 : decode cX4_isSame 155 = .ok (.goto (-113), 3) := by decide +kernel
theorem dX4_isSame_158 : decode cX4_isSame 158 = .ok (.aload_n 1, 1) := by decide +kernel
theorem dX4_isSame_159 : decode cX4_isSame 159 = .ok (.iload 5, 2) := by decide +kernel
theorem dX4_isSame_161 : decode cX4_isSame 161 = .ok (.invokevirtual 71, 3) := by decide +kernel
theorem dX4_isSame_164 : decode cX4_isSame 164 = .ok (.iload 6, 2) := by decide +kernel
theorem dX4_isSame_166 : decode cX4_isSame 166 = .ok (.if_icmp .eq 5, 3) := by decide +kernel
theorem dX4_isSame_169 : decode cX4_isSame 169 = .ok (.iconst 0, 1) := by decide +kernel
theorem dX4_isSame_170 : decode cX4_isSame 170 = .ok (.ireturn, 1) := by decide +kernel
theorem dX4_isSame_171 : decode cX4_isSame 171 = .ok (.iinc 5 1, 3) := by decide +kernel
theorem dX4_isSame_174 : decode cX4_isSame 174 = .ok (.goto (-148), 3) := by decide +kernel
theorem dX4_isSame_177 : decode cX4_isSame 177 = .ok (.aload_n 0, 1) := by decide +kernel
theorem dX4_isSame_178 : decode cX4_isSame 178 = .ok (.invokevirtual 74, 3) := by decide +kernel
theorem dX4_isSame_181 : decode cX4_isSame 181 = .ok (.astore 5, 2) := by decide +kernel
theorem dX4_isSame_183 : decode cX4_isSame 183 = .ok (.aload 5, 2) := by decide +kernel
theorem dX4_isSame_185 : decode cX4_isSame 185 = .ok (.astore 6, 2) := by decide +kernel
theorem dX4_isSame_187 : decode cX4_isSame 187 = .ok (.aload 6, 2) := by decide +kernel
theorem dX4_isSame_189 : decode cX4_isSame 189 = .ok (.arraylength, 1) := by decide +kernel
theorem dX4_isSame_190 : decode cX4_isSame 190 = .ok (.istore 7, 2) := by decide +kernel
theorem dX4_isSame_192 : decode cX4_isSame 192 = .ok (.iconst 0, 1) := by decide +kernel
theorem dX4_isSame_193 : decode cX4_isSame 193 = .ok (.istore 8, 2) := by decide +kernel
theorem dX4_isSame_195 : decode cX4_isSame 195 = .ok (.iload 8, 2) := by decide +kernel
theorem dX4_isSame_197 : decode cX4_isSame 197 = .ok (.iload 7, 2) := by decide +kernel
theorem dX4_isSame_199 : decode cX4_isSame 199 = .ok (.if_icmp .ge 56, 3) := by decide +kernel
theorem dX4_isSame_202 : decode cX4_isSame 202 = .ok (.aload 6, 2) := by decide +kernel
theorem dX4_isSame_204 : decode cX4_isSame 204 = .ok (.iload 8, 2) := by decide +kernel
theorem dX4_isSame_206 : decode cX4_isSame 206 = .ok (.aaload, 1) := by decide +kernel
theorem dX4_isSame_207 : decode cX4_isSame 207 = .ok (.astore 9, 2) := by decide +kernel
theorem dX4_isSame_209 : decode cX4_isSame 209 = .ok (.aload 9, 2) := by decide +kernel
theorem dX4_isSame_211 : decode cX4_isSame 211 = .ok (.astore 10, 2) := by decide +kernel
theorem dX4_isSame_213 : decode cX4_isSame 213 = .ok (.aload 10, 2) := by decide +kernel
theorem dX4_isSame_215 : decode cX4_isSame 215 = .ok (.arraylength, 1) := by decide +kernel
theorem dX4_isSame_216 : decode cX4_isSame 216 = .ok (.istore 11, 2) := by decide +kernel
theorem dX4_isSame_218 : decode cX4_isSame 218 = .ok (.iconst 0, 1) := by decide +kernel
theorem dX4_isSame_219 : decode cX4_isSame 219 = .ok (.istore 12, 2) := by decide +kernel
theorem dX4_isSame_221 : decode cX4_isSame 221 = .ok (.iload 12, 2) := by decide +kernel
theorem dX4_isSame_223 : decode cX4_isSame 223 = .ok (.iload 11, 2) := by decide +kernel
theorem dX4_isSame_225 : decode cX4_isSame 225 = .ok (.if_icmp .ge 24, 3) := by decide +kernel
theorem dX4_isSame_228 : decode cX4_isSame 228 = .ok (.aload 10, 2) := by decide +kernel
theorem dX4_isSame_230 : decode cX4_isSame 230 = .ok (.iload 12, 2) := by decide +kernel
theorem dX4_isSame_232 : decode cX4_isSame 232 = .ok (.iaload, 1) := by decide +kernel
theorem dX4_isSame_233 : decode cX4_isSame 233 = .ok (.istore 13, 2) := by decide +kernel
theorem dX4_isSame_235 : decode cX4_isSame 235 = .ok (.aload_n 3, 1) := by decide +kernel
theorem dX4_isSame_236 : decode cX4_isSame 236 = .ok (.iload 13, 2) := by decide +kernel
theorem dX4_isSame_238 : decode cX4_isSame 238 = .ok (.dup2, 1) := by decide +kernel
theorem dX4_isSame_239 : decode cX4_isSame 239 = .ok (.iaload, 1) := by decide +kernel
theorem dX4_isSame_240 : decode cX4_isSame 240 = .ok (.iconst 1, 1) := by decide +kernel
theorem dX4_isSame_241 : decode cX4_isSame 241 = .ok (.iadd, 1) := by decide +kernel
theorem dX4_isSame_242 : decode cX4_isSame 242 = .ok (.iastore, 1) := by decide +kernel
theorem dX4_isSame_243 : decode cX4_isSame 243 = .ok (.iinc 12 1, 3) := by decide +kernel
theorem dX4_isSame_246 : decode cX4_isSame 246 = .ok (.goto (-25), 3) := by decide +kernel
theorem dX4_isSame_249 : decode cX4_isSame 249 = .ok (.iinc 8 1, 3) := by decide +kernel
theorem dX4_isSame_252 : decode cX4_isSame 252 = .ok (.goto (-57), 3) := by decide +kernel
theorem dX4_isSame_255 : decode cX4_isSame 255 = .ok (.iconst 0, 1) := by decide +kernel
theorem dX4_isSame_256 : decode cX4_isSame 256 = .ok (.istore 6, 2) := by decide +kernel
theorem dX4_isSame_258 : decode cX4_isSame 258 = .ok (.iconst 0, 1) := by decide +kernel
theorem dX4_isSame_259 : decode cX4_isSame 259 = .ok (.istore 7, 2) := by decide +kernel
theorem dX4_isSame_261 : decode cX4_isSame 261 = .ok (.iconst 1, 1) := by decide +kernel
theorem dX4_isSame_262 : decode cX4_isSame 262 = .ok (.istore 8, 2) := by decide +kernel
theorem dX4_isSame_264 : decode cX4_isSame 264 = .ok (.iload 8, 2) := by decide +kernel
theorem dX4_isSame_266 : decode cX4_isSame 266 = .ok (.aload_n 3, 1) := by decide +kernel
theorem dX4_isSame_267 : decode cX4_isSame 267 = .ok (.arraylength, 1) := by decide +kernel
theorem dX4_isSame_268 : decode cX4_isSame 268 = .ok (.if_icmp .ge 37, 3) := by decide +kernel
theorem dX4_isSame_271 : decode cX4_isSame 271 = .ok (.iload 6, 2) := by decide +kernel
theorem dX4_isSame_273 : decode cX4_isSame 273 = .ok (.aload_n 3, 1) := by decide +kernel
theorem dX4_isSame_274 : decode cX4_isSame 274 = .ok (.iload 8, 2) := by decide +kernel
theorem dX4_isSame_276 : decode cX4_isSame 276 = .ok (.iaload, 1) := by decide +kernel
theorem dX4_isSame_277 : decode cX4_isSame 277 = .ok (.ifCond .le 7, 3) := by decide +kernel
theorem dX4_isSame_280 : decode cX4_isSame 280 = .ok (.iconst 1, 1) := by decide +kernel
theorem dX4_isSame_281 : decode cX4_isSame 281 = .ok (.goto 4, 3) := by decide +kernel
theorem dX4_isSame_284 : decode cX4_isSame 284 = .ok (.iconst 0, 1) := by decide +kernel
theorem dX4_isSame_285 : decode cX4_isSame 285 = .ok (.iadd, 1) := by decide +kernel
theorem dX4_isSame_286 : decode cX4_isSame 286 = .ok (.istore 6, 2) := by decide +kernel
theorem dX4_isSame_288 : decode cX4_isSame 288 = .ok (.iload 7, 2) := by decide +kernel
theorem dX4_isSame_290 : decode cX4_isSame 290 = .ok (.aload_n 3, 1) := by decide +kernel
theorem dX4_isSame_291 : decode cX4_isSame 291 = .ok (.iload 8, 2) := by decide +kernel
theorem dX4_isSame_293 : decode cX4_isSame 293 = .ok (.iaload, 1) := by decide +kernel
theorem dX4_isSame_294 : decode cX4_isSame 294 = .ok (.invokestatic 78, 3) := by decide +kernel
theorem dX4_isSame_297 : decode cX4_isSame 297 = .ok (.istore 7, 2) := by decide +kernel
theorem dX4_isSame_299 : decode cX4_isSame 299 = .ok (.iinc 8 1, 3) := by decide +kernel
theorem dX4_isSame_302 : decode cX4_isSame 302 = .ok (.goto (-38), 3) := by decide +kernel
theorem dX4_isSame_305 : decode cX4_isSame 305 = .ok (.iconst 0, 1) := by decide +kernel
theorem dX4_isSame_306 : decode cX4_isSame 306 = .ok (.istore 8, 2) := by decide +kernel
theorem dX4_isSame_308 : decode cX4_isSame 308 = .ok (.iload 8, 2) := by decide +kernel
theorem dX4_isSame_310 : decode cX4_isSame 310 = .ok (.iload_n 2, 1) := by decide +kernel
theorem dX4_isSame_311 : decode cX4_isSame 311 = .ok (.if_icmp .ge 104, 3) := by decide +kernel
theorem dX4_isSame_314 : decode cX4_isSame 314 = .ok (.iconst 3, 1) := by decide +kernel
theorem dX4_isSame_315 : decode cX4_isSame 315 = .ok (.iload 8, 2) := by decide +kernel
theorem dX4_isSame_317 : decode cX4_isSame 317 = .ok (.imul, 1) := by decide +kernel
theorem dX4_isSame_318 : decode cX4_isSame 318 = .ok (.aload_n 0, 1) := by decide +kernel
theorem dX4_isSame_319 : decode cX4_isSame 319 = .ok (.getfield 40, 3) := by decide +kernel
theorem dX4_isSame_322 : decode cX4_isSame 322 = .ok (.iadd, 1) := by decide +kernel
theorem dX4_isSame_323 : decode cX4_isSame 323 = .ok (.aload_n 0, 1) := by decide +kernel
theorem dX4_isSame_324 : decode cX4_isSame 324 = .ok (.getfield 9, 3) := by decide +kernel
theorem dX4_isSame_327 : decode cX4_isSame 327 = .ok (.arraylength, 1) := by decide +kernel
theorem dX4_isSame_328 : decode cX4_isSame 328 = .ok (.irem, 1) := by decide +kernel
theorem dX4_isSame_329 : decode cX4_isSame 329 = .ok (.istore 9, 2) := by decide +kernel
theorem dX4_isSame_331 : decode cX4_isSame 331 = .ok (.aload_n 1, 1) := by decide +kernel
theorem dX4_isSame_332 : decode cX4_isSame 332 = .ok (.iload 8, 2) := by decide +kernel
theorem dX4_isSame_334 : decode cX4_isSame 334 = .ok (.iload 9, 2) := by decide +kernel
theorem dX4_isSame_336 : decode cX4_isSame 336 = .ok (.invokevirtual 81, 3) := by decide +kernel
theorem dX4_isSame_339 : decode cX4_isSame 339 = .ok (.aload_n 0, 1) := by decide +kernel
theorem dX4_isSame_340 : decode cX4_isSame 340 = .ok (.getfield 9, 3) := by decide +kernel
theorem dX4_isSame_343 : decode cX4_isSame 343 = .ok (.iload 9, 2) := by decide +kernel
theorem dX4_isSame_345 : decode cX4_isSame 345 = .ok (.aaload, 1) := by decide +kernel
theorem dX4_isSame_346 : decode cX4_isSame 346 = .ok (.iload 8, 2) := by decide +kernel
theorem dX4_isSame_348 : decode cX4_isSame 348 = .ok (.baload, 1) := by decide +kernel
theorem dX4_isSame_349 : decode cX4_isSame 349 = .ok (.ifCond .eq 16, 3) := by decide +kernel
theorem dX4_isSame_352 : decode cX4_isSame 352 = .ok (.aload_n 3, 1) := by decide +kernel
theorem dX4_isSame_353 : decode cX4_isSame 353 = .ok (.aload 5, 2) := by decide +kernel
theorem dX4_isSame_355 : decode cX4_isSame 355 = .ok (.iload 9, 2) := by decide +kernel
theorem dX4_isSame_357 : decode cX4_isSame 357 = .ok (.aaload, 1) := by decide +kernel
theorem dX4_isSame_358 : decode cX4_isSame 358 = .ok (.iload 8, 2) := by decide +kernel
theorem dX4_isSame_360 : decode cX4_isSame 360 = .ok (.iaload, 1) := by decide +kernel
theorem dX4_isSame_361 : decode cX4_isSame 361 = .ok (.iaload, 1) := by decide +kernel
theorem dX4_isSame_362 : decode cX4_isSame 362 = .ok (.goto 4, 3) := by decide +kernel
theorem dX4_isSame_365 : decode cX4_isSame 365 = .ok (.iconst 0, 1) := by decide +kernel
theorem dX4_isSame_366 : decode cX4_isSame 366 = .ok (.if_icmp .ne 41, 3) := by decide +kernel
theorem dX4_isSame_369 : decode cX4_isSame 369 = .ok (.aload_n 1, 1) := by decide +kernel
theorem dX4_isSame_370 : decode cX4_isSame 370 = .ok (.iload 8, 2) := by decide +kernel
theorem dX4_isSame_372 : decode cX4_isSame 372 = .ok (.iload 9, 2) := by decide +kernel
theorem dX4_isSame_374 : decode cX4_isSame 374 = .ok (.invokevirtual 84, 3) := by decide +kernel
theorem dX4_isSame_377 : decode cX4_isSame 377 = .ok (.aload_n 0, 1) := by decide +kernel
theorem dX4_isSame_378 : decode cX4_isSame 378 = .ok (.iload 8, 2) := by decide +kernel
theorem dX4_isSame_380 : decode cX4_isSame 380 = .ok (.iload 9, 2) := by decide +kernel
theorem dX4_isSame_382 : decode cX4_isSame 382 = .ok (.invokevirtual 50, 3) := by decide +kernel
theorem dX4_isSame_385 : decode cX4_isSame 385 = .ok (.if_icmp .ne 22, 3) := by decide +kernel
theorem dX4_isSame_388 : decode cX4_isSame 388 = .ok (.aload_n 1, 1) := by decide +kernel
theorem dX4_isSame_389 : decode cX4_isSame 389 = .ok (.iload 8, 2) := by decide +kernel
theorem dX4_isSame_391 : decode cX4_isSame 391 = .ok (.iload 9, 2) := by decide +kernel
theorem dX4_isSame_393 : decode cX4_isSame 393 = .ok (.invokevirtual 85, 3) := by decide +kernel
theorem dX4_isSame_396 : decode cX4_isSame 396 = .ok (.aload_n 0, 1) := by decide +kernel
theorem dX4_isSame_397 : decode cX4_isSame 397 = .ok (.iload 8, 2) := by decide +kernel
theorem dX4_isSame_399 : decode cX4_isSame 399 = .ok (.iload 9, 2) := by decide +kernel
theorem dX4_isSame_401 : decode cX4_isSame 401 = .ok (.invokevirtual 54, 3) := by decide +kernel
theorem dX4_isSame_404 : decode cX4_isSame 404 = .ok (.if_icmp .eq 5, 3) := by decide +kernel
theorem dX4_isSame_407 : decode cX4_isSame 407 = .ok (.iconst 0, 1) := by decide +kernel
theorem dX4_isSame_408 : decode cX4_isSame 408 = .ok (.ireturn, 1) := by decide +kernel
theorem dX4_isSame_409 : decode cX4_isSame 409 = .ok (.iinc 8 1, 3) := by decide +kernel
theorem dX4_isSame_412 : decode cX4_isSame 412 = .ok (.goto (-104), 3) := by decide +kernel
theorem dX4_isSame_415 : decode cX4_isSame 415 = .ok (.aload_n 1, 1) := by decide +kernel
theorem dX4_isSame_416 : decode cX4_isSame 416 = .ok (.invokevirtual 88, 3) := by decide +kernel
theorem dX4_isSame_419 : decode cX4_isSame 419 = .ok (.iload_n 2, 1) := by decide +kernel
theorem dX4_isSame_420 : decode cX4_isSame 420 = .ok (.if_icmp .ne 122, 3) := by decide +kernel
theorem dX4_isSame_423 : decode cX4_isSame 423 = .ok (.aload_n 1, 1) := by decide +kernel
theorem dX4_isSame_424 : decode cX4_isSame 424 = .ok (.invokevirtual 92, 3) := by decide +kernel
theorem dX4_isSame_427 : decode cX4_isSame 427 = .ok (.aload_n 0, 1) := by decide +kernel
theorem dX4_isSame_428 : decode cX4_isSame 428 = .ok (.getfield 9, 3) := by decide +kernel
theorem dX4_isSame_431 : decode cX4_isSame 431 = .ok (.arraylength, 1) := by decide +kernel
theorem dX4_isSame_432 : decode cX4_isSame 432 = .ok (.if_icmp .ne 110, 3) := by decide +kernel
theorem dX4_isSame_435 : decode cX4_isSame 435 = .ok (.aload_n 1, 1) := by decide +kernel
theorem dX4_isSame_436 : decode cX4_isSame 436 = .ok (.invokevirtual 95, 3) := by decide +kernel
theorem dX4_isSame_439 : decode cX4_isSame 439 = .ok (.aload_n 0, 1) := by decide +kernel
theorem dX4_isSame_440 : decode cX4_isSame 440 = .ok (.getfield 40, 3) := by decide +kernel
theorem dX4_isSame_443 : decode cX4_isSame 443 = .ok (.if_icmp .ne 99, 3) := by decide +kernel
theorem dX4_isSame_446 : decode cX4_isSame 446 = .ok (.aload_n 1, 1) := by decide +kernel
theorem dX4_isSame_447 : decode cX4_isSame 447 = .ok (.invokevirtual 97, 3) := by decide +kernel
theorem dX4_isSame_450 : decode cX4_isSame 450 = .ok (.aload_n 0, 1) := by decide +kernel
theorem dX4_isSame_451 : decode cX4_isSame 451 = .ok (.getfield 21, 3) := by decide +kernel
theorem dX4_isSame_454 : decode cX4_isSame 454 = .ok (.arraylength, 1) := by decide +kernel
theorem dX4_isSame_455 : decode cX4_isSame 455 = .ok (.if_icmp .ne 87, 3) := by decide +kernel
theorem dX4_isSame_458 : decode cX4_isSame 458 = .ok (.aload_n 1, 1) := by decide +kernel
theorem dX4_isSame_459 : decode cX4_isSame 459 = .ok (.invokevirtual 99, 3) := by decide +kernel
theorem dX4_isSame_462 : decode cX4_isSame 462 = .ok (.aload_n 0, 1) := by decide +kernel
theorem dX4_isSame_463 : decode cX4_isSame 463 = .ok (.getfield 43, 3) := by decide +kernel
theorem dX4_isSame_466 : decode cX4_isSame 466 = .ok (.if_icmp .ne 76, 3) := by decide +kernel
theorem dX4_isSame_469 : decode cX4_isSame 469 = .ok (.aload_n 1, 1) := by decide +kernel
theorem dX4_isSame_470 : decode cX4_isSame 470 = .ok (.invokevirtual 101, 3) := by decide +kernel
theorem dX4_isSame_473 : decode cX4_isSame 473 = .ok (.aload_n 0, 1) := by decide +kernel
theorem dX4_isSame_474 : decode cX4_isSame 474 = .ok (.invokevirtual 104, 3) := by decide +kernel
theorem dX4_isSame_477 : decode cX4_isSame 477 = .ok (.if_icmp .ne 65, 3) := by decide +kernel
theorem dX4_isSame_480 : decode cX4_isSame 480 = .ok (.aload_n 1, 1) := by decide +kernel
theorem dX4_isSame_481 : decode cX4_isSame 481 = .ok (.invokevirtual 105, 3) := by decide +kernel
theorem dX4_isSame_484 : decode cX4_isSame 484 = .ok (.aload_n 0, 1) := by decide +kernel
theorem dX4_isSame_485 : decode cX4_isSame 485 = .ok (.invokevirtual 108, 3) := by decide +kernel
theorem dX4_isSame_488 : decode cX4_isSame 488 = .ok (.if_icmp .ne 54, 3) := by decide +kernel
theorem dX4_isSame_491 : decode cX4_isSame 491 = .ok (.aload_n 1, 1) := by decide +kernel
theorem dX4_isSame_492 : decode cX4_isSame 492 = .ok (.invokevirtual 109, 3) := by decide +kernel
theorem dX4_isSame_495 : decode cX4_isSame 495 = .ok (.iload 6, 2) := by decide +kernel
theorem dX4_isSame_497 : decode cX4_isSame 497 = .ok (.if_icmp .ne 45, 3) := by decide +kernel
theorem dX4_isSame_500 : decode cX4_isSame 500 = .ok (.aload_n 1, 1) := by decide +kernel
theorem dX4_isSame_501 : decode cX4_isSame 501 = .ok (.invokevirtual 111, 3) := by decide +kernel
theorem dX4_isSame_504 : decode cX4_isSame 504 = .ok (.iload 7, 2) := by decide +kernel
theorem dX4_isSame_506 : decode cX4_isSame 506 = .ok (.if_icmp .ne 36, 3) := by decide +kernel
theorem dX4_isSame_509 : decode cX4_isSame 509 = .ok (.aload_n 1, 1) := by decide +kernel
theorem dX4_isSame_510 : decode cX4_isSame 510 = .ok (.invokevirtual 114, 3) := by decide +kernel
theorem dX4_isSame_513 : decode cX4_isSame 513 = .ok (.iload 4, 2) := by decide +kernel
theorem dX4_isSame_515 : decode cX4_isSame 515 = .ok (.if_icmp .ne 27, 3) := by decide +kernel
theorem dX4_isSame_518 : decode cX4_isSame 518 = .ok (.aload_n 1, 1) := by decide +kernel
theorem dX4_isSame_519 : decode cX4_isSame 519 = .ok (.invokevirtual 118, 3) := by decide +kernel
theorem dX4_isSame_522 : decode cX4_isSame 522 = .ok (.aload_n 0, 1) := by decide +kernel
theorem dX4_isSame_523 : decode cX4_isSame 523 = .ok (.invokevirtual 104, 3) := by decide +kernel
theorem dX4_isSame_526 : decode cX4_isSame 526 = .ok (.i2d, 1) := by decide +kernel
theorem dX4_isSame_527 : decode cX4_isSame 527 = .ok (.aload_n 0, 1) := by decide +kernel
theorem dX4_isSame_528 : decode cX4_isSame 528 = .ok (.getfield 9, 3) := by decide +kernel
theorem dX4_isSame_531 : decode cX4_isSame 531 = .ok (.arraylength, 1) := by decide +kernel
theorem dX4_isSame_532 : decode cX4_isSame 532 = .ok (.i2d, 1) := by decide +kernel
theorem dX4_isSame_533 : decode cX4_isSame 533 = .ok (.ddiv, 1) := by decide +kernel
theorem dX4_isSame_534 : decode cX4_isSame 534 = .ok (.dcmp .l, 1) := by decide +kernel
theorem dX4_isSame_535 : decode cX4_isSame 535 = .ok (.ifCond .ne 7, 3) := by decide +kernel
theorem dX4_isSame_538 : decode cX4_isSame 538 = .ok (.iconst 1, 1) := by decide +kernel
theorem dX4_isSame_539 : decode cX4_isSame 539 = .ok (.goto 4, 3) := by decide +kernel
theorem dX4_isSame_542 : decode cX4_isSame 542 = .ok (.iconst 0, 1) := by decide +kernel
theorem dX4_isSame_543 : decode cX4_isSame 543 = .ok (.ireturn, 1) := by decide +kernel
theorem dJ6_bitCount_0f7a4_0 : decode cJ6_bitCount_0f7a4 0 = .ok (.iload_n 0, 1) := by decide +kernel
theorem dJ6_bitCount_0f7a4_1 : decode cJ6_bitCount_0f7a4 1 = .ok (.iload_n 0, 1) := by decide +kernel
theorem dJ6_bitCount_0f7a4_2 : decode cJ6_bitCount_0f7a4 2 = .ok (.iconst 1, 1) := by decide +kernel
theorem dJ6_bitCount_0f7a4_3 : decode cJ6_bitCount_0f7a4 3 = .ok (.iushr, 1) := by decide +kernel
theorem dJ6_bitCount_0f7a4_4 : decode cJ6_bitCount_0f7a4 4 = .ok (.ldc_w 265, 3) := by decide +kernel
theorem dJ6_bitCount_0f7a4_7 : decode cJ6_bitCount_0f7a4 7 = .ok (.iand, 1) := by decide +kernel
theorem dJ6_bitCount_0f7a4_8 : decode cJ6_bitCount_0f7a4 8 = .ok (.isub, 1) := by decide +kernel
theorem dJ6_bitCount_0f7a4_9 : decode cJ6_bitCount_0f7a4 9 = .ok (.istore_n 0, 1) := by decide +kernel
theorem dJ6_bitCount_0f7a4_10 : decode cJ6_bitCount_0f7a4 10 = .ok (.iload_n 0, 1) := by decide +kernel
theorem dJ6_bitCount_0f7a4_11 : decode cJ6_bitCount_0f7a4 11 = .ok (.ldc_w 266, 3) := by decide +kernel
theorem dJ6_bitCount_0f7a4_14 : decode cJ6_bitCount_0f7a4 14 = .ok (.iand, 1) := by decide +kernel
theorem dJ6_bitCount_0f7a4_15 : decode cJ6_bitCount_0f7a4 15 = .ok (.iload_n 0, 1) := by decide +kernel
theorem dJ6_bitCount_0f7a4_16 : decode cJ6_bitCount_0f7a4 16 = .ok (.iconst 2, 1) := by decide +kernel
theorem dJ6_bitCount_0f7a4_17 : decode cJ6_bitCount_0f7a4 17 = .ok (.iushr, 1) := by decide +kernel
theorem dJ6_bitCount_0f7a4_18 : decode cJ6_bitCount_0f7a4 18 = .ok (.ldc_w 266, 3) := by decide +kernel
theorem dJ6_bitCount_0f7a4_21 : decode cJ6_bitCount_0f7a4 21 = .ok (.iand, 1) := by decide +kernel
theorem dJ6_bitCount_0f7a4_22 : decode cJ6_bitCount_0f7a4 22 = .ok (.iadd, 1) := by decide +kernel
theorem dJ6_bitCount_0f7a4_23 : decode cJ6_bitCount_0f7a4 23 = .ok (.istore_n 0, 1) := by decide +kernel
theorem dJ6_bitCount_0f7a4_24 : decode cJ6_bitCount_0f7a4 24 = .ok (.iload_n 0, 1) := by decide +kernel
theorem dJ6_bitCount_0f7a4_25 : decode cJ6_bitCount_0f7a4 25 = .ok (.iload_n 0, 1) := by decide +kernel
theorem dJ6_bitCount_0f7a4_26 : decode cJ6_bitCount_0f7a4 26 = .ok (.iconst 4, 1) := by decide +kernel
theorem dJ6_bitCount_0f7a4_27 : decode cJ6_bitCount_0f7a4 27 = .ok (.iushr, 1) := by decide +kernel
theorem dJ6_bitCount_0f7a4_28 : decode cJ6_bitCount_0f7a4 28 = .ok (.iadd, 1) := by decide +kernel
theorem dJ6_bitCount_0f7a4_29 : decode cJ6_bitCount_0f7a4 29 = .ok (.ldc_w 267, 3) := by decide +kernel
theorem dJ6_bitCount_0f7a4_32 : decode cJ6_bitCount_0f7a4 32 = .ok (.iand, 1) := by decide +kernel
theorem dJ6_bitCount_0f7a4_33 : decode cJ6_bitCount_0f7a4 33 = .ok (.istore_n 0, 1) := by decide +kernel
theorem dJ6_bitCount_0f7a4_34 : decode cJ6_bitCount_0f7a4 34 = .ok (.iload_n 0, 1) := by decide +kernel
theorem dJ6_bitCount_0f7a4_35 : decode cJ6_bitCount_0f7a4 35 = .ok (.iload_n 0, 1) := by decide +kernel
theorem dJ6_bitCount_0f7a4_36 : decode cJ6_bitCount_0f7a4 36 = .ok (.bipush 8, 2) := by decide +kernel
theorem dJ6_bitCount_0f7a4_38 : decode cJ6_bitCount_0f7a4 38 = .ok (.iushr, 1) := by decide +kernel
theorem dJ6_bitCount_0f7a4_39 : decode cJ6_bitCount_0f7a4 39 = .ok (.iadd, 1) := by decide +kernel
theorem dJ6_bitCount_0f7a4_40 : decode cJ6_bitCount_0f7a4 40 = .ok (.istore_n 0, 1) := by decide +kernel
theorem dJ6_bitCount_0f7a4_41 : decode cJ6_bitCount_0f7a4 41 = .ok (.iload_n 0, 1) := by decide +kernel
theorem dJ6_bitCount_0f7a4_42 : decode cJ6_bitCount_0f7a4 42 = .ok (.iload_n 0, 1) := by decide +kernel
theorem dJ6_bitCount_0f7a4_43 : decode cJ6_bitCount_0f7a4 43 = .ok (.bipush 16, 2) := by decide +kernel
theorem dJ6_bitCount_0f7a4_45 : decode cJ6_bitCount_0f7a4 45 = .ok (.iushr, 1) := by decide +kernel
theorem dJ6_bitCount_0f7a4_46 : decode cJ6_bitCount_0f7a4 46 = .ok (.iadd, 1) := by decide +kernel
theorem dJ6_bitCount_0f7a4_47 : decode cJ6_bitCount_0f7a4 47 = .ok (.istore_n 0, 1) := by decide +kernel
theorem dJ6_bitCount_0f7a4_48 : decode cJ6_bitCount_0f7a4 48 = .ok (.iload_n 0, 1) := by decide +kernel
theorem dJ6_bitCount_0f7a4_49 : decode cJ6_bitCount_0f7a4 49 = .ok (.bipush 63, 2) := by decide +kernel
theorem dJ6_bitCount_0f7a4_51 : decode cJ6_bitCount_0f7a4 51 = .ok (.iand, 1) := by decide +kernel
theorem dJ6_bitCount_0f7a4_52 : decode cJ6_bitCount_0f7a4 52 = .ok (.ireturn, 1) := by decide +kernel
theorem dJ9_abs_0f7a4_0 : decode cJ9_abs_0f7a4 0 = .ok (.iload_n 0, 1) := by decide +kernel
theorem dJ9_abs_0f7a4_1 : decode cJ9_abs_0f7a4 1 = .ok (.ifCond .ge 8, 3) := by decide +kernel
theorem dJ9_abs_0f7a4_4 : decode cJ9_abs_0f7a4 4 = .ok (.iload_n 0, 1) := by decide +kernel
theorem dJ9_abs_0f7a4_5 : decode cJ9_abs_0f7a4 5 = .ok (.ineg, 1) := by decide +kernel
theorem dJ9_abs_0f7a4_6 : decode cJ9_abs_0f7a4 6 = .ok (.goto 4, 3) := by decide +kernel
theorem dJ9_abs_0f7a4_9 : decode cJ9_abs_0f7a4 9 = .ok (.iload_n 0, 1) := by decide +kernel
theorem dJ9_abs_0f7a4_10 : decode cJ9_abs_0f7a4 10 = .ok (.ireturn, 1) := by decide +kernel
theorem dJ9_max_7cf53_0 : decode cJ9_max_7cf53 0 = .ok (.iload_n 0, 1) := by decide +kernel
theorem dJ9_max_7cf53_1 : decode cJ9_max_7cf53 1 = .ok (.iload_n 1, 1) := by decide +kernel
theorem dJ9_max_7cf53_2 : decode cJ9_max_7cf53 2 = .ok (.if_icmp .lt 7, 3) := by decide +kernel
theorem dJ9_max_7cf53_5 : decode cJ9_max_7cf53 5 = .ok (.iload_n 0, 1) := by decide +kernel
theorem dJ9_max_7cf53_6 : decode cJ9_max_7cf53 6 = .ok (.goto 4, 3) := by decide +kernel
theorem dJ9_max_7cf53_9 : decode cJ9_max_7cf53 9 = .ok (.iload_n 1, 1) := by decide +kernel
theorem dJ9_max_7cf53_10 : decode cJ9_max_7cf53 10 = .ok (.ireturn, 1) := by decide +kernel
theorem dJ9_min_7cf53_0 : decode cJ9_min_7cf53 0 = .ok (.iload_n 0, 1) := by decide +kernel
theorem dJ9_min_7cf53_1 : decode cJ9_min_7cf53 1 = .ok (.iload_n 1, 1) := by decide +kernel
theorem dJ9_min_7cf53_2 : decode cJ9_min_7cf53 2 = .ok (.if_icmp .gt 7, 3) := by decide +kernel
theorem dJ9_min_7cf53_5 : decode cJ9_min_7cf53 5 = .ok (.iload_n 0, 1) := by decide +kernel
theorem dJ9_min_7cf53_6 : decode cJ9_min_7cf53 6 = .ok (.goto 4, 3) := by decide +kernel
theorem dJ9_min_7cf53_9 : decode cJ9_min_7cf53 9 = .ok (.iload_n 1, 1) := by decide +kernel
theorem dJ9_min_7cf53_10 : decode cJ9_min_7cf53 10 = .ok (.ireturn, 1) := by decide +kernel
theorem dJ7_fill_53178_0 : decode cJ7_fill_53178 0 = .ok (.iconst 0, 1) := by decide +kernel
theorem dJ7_fill_53178_1 : decode cJ7_fill_53178 1 = .ok (.istore_n 2, 1) := by decide +kernel
theorem dJ7_fill_53178_2 : decode cJ7_fill_53178 2 = .ok (.aload_n 0, 1) := by decide +kernel
theorem dJ7_fill_53178_3 : decode cJ7_fill_53178 3 = .ok (.arraylength, 1) := by decide +kernel
theorem dJ7_fill_53178_4 : decode cJ7_fill_53178 4 = .ok (.istore_n 3, 1) := by decide +kernel
theorem dJ7_fill_53178_5 : decode cJ7_fill_53178 5 = .ok (.iload_n 2, 1) := by decide +kernel
theorem dJ7_fill_53178_6 : decode cJ7_fill_53178 6 = .ok (.iload_n 3, 1) := by decide +kernel
theorem dJ7_fill_53178_7 : decode cJ7_fill_53178 7 = .ok (.if_icmp .ge 13, 3) := by decide +kernel
theorem dJ7_fill_53178_10 : decode cJ7_fill_53178 10 = .ok (.aload_n 0, 1) := by decide +kernel
theorem dJ7_fill_53178_11 : decode cJ7_fill_53178 11 = .ok (.iload_n 2, 1) := by decide +kernel
theorem dJ7_fill_53178_12 : decode cJ7_fill_53178 12 = .ok (.iload_n 1, 1) := by decide +kernel
theorem dJ7_fill_53178_13 : decode cJ7_fill_53178 13 = .ok (.iastore, 1) := by decide +kernel
theorem dJ7_fill_53178_14 : decode cJ7_fill_53178 14 = .ok (.iinc 2 1, 3) := by decide +kernel
theorem dJ7_fill_53178_17 : decode cJ7_fill_53178 17 = .ok (.goto (-12), 3) := by decide +kernel
theorem dJ7_fill_53178_20 : decode cJ7_fill_53178 20 = .ok (.return_, 1) := by decide +kernel
theorem dL_below_0 : decode cL_below 0 = .ok (.iload_n 0, 1) := by decide +kernel
theorem dL_below_1 : decode cL_below 1 = .ok (.ldc 7, 2) := by decide +kernel
theorem dL_below_3 : decode cL_below 3 = .ok (.iand, 1) := by decide +kernel
theorem dL_below_4 : decode cL_below 4 = .ok (.iload_n 1, 1) := by decide +kernel
theorem dL_below_5 : decode cL_below 5 = .ok (.irem, 1) := by decide +kernel
theorem dL_below_6 : decode cL_below 6 = .ok (.ireturn, 1) := by decide +kernel
theorem dL_cell_0 : decode cL_cell 0 = .ok (.iload_n 1, 1) := by decide +kernel
theorem dL_cell_1 : decode cL_cell 1 = .ok (.aload_n 0, 1) := by decide +kernel
theorem dL_cell_2 : decode cL_cell 2 = .ok (.arraylength, 1) := by decide +kernel
theorem dL_cell_3 : decode cL_cell 3 = .ok (.if_icmp .ge 9, 3) := by decide +kernel
theorem dL_cell_6 : decode cL_cell 6 = .ok (.aload_n 0, 1) := by decide +kernel
theorem dL_cell_7 : decode cL_cell 7 = .ok (.iload_n 1, 1) := by decide +kernel
theorem dL_cell_8 : decode cL_cell 8 = .ok (.iaload, 1) := by decide +kernel
theorem dL_cell_9 : decode cL_cell 9 = .ok (.goto 9, 3) := by decide +kernel
theorem dL_cell_12 : decode cL_cell 12 = .ok (.ldc 8, 2) := by decide +kernel
theorem dL_cell_14 : decode cL_cell 14 = .ok (.iload_n 1, 1) := by decide +kernel
theorem dL_cell_15 : decode cL_cell 15 = .ok (.iconst 3, 1) := by decide +kernel
theorem dL_cell_16 : decode cL_cell 16 = .ok (.iadd, 1) := by decide +kernel
theorem dL_cell_17 : decode cL_cell 17 = .ok (.imul, 1) := by decide +kernel
theorem dL_cell_18 : decode cL_cell 18 = .ok (.ireturn, 1) := by decide +kernel
set_option maxRecDepth 20000 in
theorem ggL_act_L_below : GoodIn wsL_act wsL_below := goodIn_r _ [11, 12] (by decide +kernel) (by decide +kernel)
set_option maxRecDepth 20000 in
theorem gL_act_L_below : GoodIn wsL_act (va_wsS RL 15 yL_below wsL_below) := goodIn_app (goodIn_of _ (by decide +kernel)) ggL_act_L_below
set_option maxRecDepth 20000 in
theorem ggL_act_X3_setFrame : GoodIn wsL_act wsX3_setFrame := goodIn_ca (goodIn_r _ [17, 18, 19, 20, 16, 21, 22, 23, 221, 222, 223, 224, 225, 226, 227, 228, 229, 230, 231, 232] (by decide +kernel) (by decide +kernel)) (goodIn_sub (fun _ h => List.mem_cons_of_mem _ (List.mem_append_left _ (List.mem_append_left _ (List.mem_append_right _ h)))) (by decide +kernel))
set_option maxRecDepth 20000 in
theorem gL_act_X3_setFrame : GoodIn wsL_act (wsV RL 25 RX3 yX3_setFrame wsX3_setFrame) := goodIn_app (goodIn_of _ (by decide +kernel)) ggL_act_X3_setFrame
set_option maxRecDepth 20000 in
theorem ggL_act_X4_with : GoodIn wsL_act wsX4_with := goodIn_r _ [27, 28] (by decide +kernel) (by decide +kernel)
set_option maxRecDepth 20000 in
theorem gL_act_X4_with : GoodIn wsL_act (va_wsS RL 35 yX4_with wsX4_with) := goodIn_app (goodIn_of _ (by decide +kernel)) ggL_act_X4_with
set_option maxRecDepth 20000 in
theorem ggL_act_X3_addRule : GoodIn wsL_act wsX3_addRule := goodIn_ca (goodIn_ca (goodIn_r _ [32, 33, 34, 35, 19, 20, 16, 21, 22, 23, 36, 37, 38, 39, 40, 41, 42, 43, 44, 45, 46, 47, 221, 222, 223, 224, 225, 226, 233, 234, 235] (by decide +kernel) (by decide +kernel)) (goodIn_sub (fun _ h => List.mem_cons_of_mem _ (List.mem_append_left _ (List.mem_append_right _ h))) (by decide +kernel))) (goodIn_sub (fun _ h => List.mem_cons_of_mem _ (List.mem_append_left _ (List.mem_append_left _ (List.mem_append_right _ h)))) (by decide +kernel))
set_option maxRecDepth 20000 in
theorem gL_act_X3_addRule : GoodIn wsL_act (wsV RL 39 RX3 yX3_addRule wsX3_addRule) := goodIn_app (goodIn_of _ (by decide +kernel)) ggL_act_X3_addRule
set_option maxRecDepth 20000 in
theorem ggL_act_X3_breathe : GoodIn wsL_act wsX3_breathe := goodIn_ca (goodIn_r _ [51, 52, 53, 35, 54, 55, 56, 57, 39, 58, 41, 221, 222, 223, 224, 225, 226, 233, 234, 235] (by decide +kernel) (by decide +kernel)) (goodIn_sub (fun _ h => List.mem_cons_of_mem _ (List.mem_append_right _ h)) (by decide +kernel))
set_option maxRecDepth 20000 in
theorem gL_act_X3_breathe : GoodIn wsL_act (wsV RL 45 RX3 yX3_breathe wsX3_breathe) := goodIn_app (goodIn_of _ (by decide +kernel)) ggL_act_X3_breathe
set_option maxRecDepth 20000 in
theorem ggL_act_X3_press : GoodIn wsL_act wsX3_press := goodIn_ca (goodIn_ca (goodIn_r _ [62, 18, 63, 64, 65, 16, 66, 52, 53, 67, 68, 69, 70, 71, 72, 73, 74, 75, 76, 77, 19, 20, 21, 22, 23, 78, 79, 80, 81, 82, 83, 84, 85, 86, 87, 88, 89, 90, 91, 92, 93, 94, 95, 96, 221, 222, 223, 224, 225, 226, 227, 228, 229, 230, 231, 232] (by decide +kernel) (by decide +kernel)) (goodIn_sub (fun _ h => List.mem_cons_of_mem _ (List.mem_append_right _ h)) (by decide +kernel))) (goodIn_sub (fun _ h => List.mem_cons_of_mem _ (List.mem_append_left _ (List.mem_append_left _ (List.mem_append_right _ h)))) (by decide +kernel))
set_option maxRecDepth 20000 in
theorem gL_act_X3_press : GoodIn wsL_act (wsV RL 48 RX3 yX3_press wsX3_press) := goodIn_app (goodIn_of _ (by decide +kernel)) ggL_act_X3_press
set_option maxRecDepth 20000 in
theorem ggL_act_X4_press : GoodIn wsL_act wsX4_press := goodIn_r _ [100, 101, 102, 103, 104, 105, 106, 215, 216, 217, 218, 219, 220] (by decide +kernel) (by decide +kernel)
set_option maxRecDepth 20000 in
theorem gL_act_X4_press : GoodIn wsL_act (wsV RL 52 RX4 yX4_press wsX4_press) := goodIn_app (goodIn_of _ (by decide +kernel)) ggL_act_X4_press
set_option maxRecDepth 20000 in
theorem ggL_act_X4_grow : GoodIn wsL_act wsX4_grow := goodIn_r _ [110, 101, 111, 112, 106, 113, 114, 115, 116, 26, 117, 118, 119, 120, 121, 122, 123, 124, 125, 126, 127, 128, 215, 216, 217, 218, 219, 220] (by decide +kernel) (by decide +kernel)
set_option maxRecDepth 20000 in
theorem gL_act_X4_grow : GoodIn wsL_act (wsV RL 53 RX4 yX4_grow wsX4_grow) := goodIn_app (goodIn_of _ (by decide +kernel)) ggL_act_X4_grow
set_option maxRecDepth 20000 in
theorem ggL_act_X3_grow : GoodIn wsL_act wsX3_grow := goodIn_ca (goodIn_r _ [132, 18, 35, 54, 133, 19, 20, 16, 21, 22, 23, 134, 135, 136, 39, 137, 46, 138, 56, 57, 58, 41, 139, 140, 141, 142, 47, 143, 144, 145, 70, 146, 77, 147, 148, 149, 150, 151, 72, 152, 153, 154, 155, 156, 73, 74, 75, 76, 88, 89, 90, 91, 92, 157, 158, 159, 160, 84, 85, 86, 87, 161, 162, 163, 164, 165, 166, 167, 168, 169, 170, 171, 172, 173, 174, 82, 175, 176, 177, 178, 179, 180, 181, 182, 183, 184, 185, 186, 221, 222, 223, 224, 225, 226, 233, 234, 235, 227, 228, 229, 230, 231, 232] (by decide +kernel) (by decide +kernel)) (goodIn_sub (fun _ h => List.mem_cons_of_mem _ (List.mem_append_left _ (List.mem_append_left _ (List.mem_append_right _ h)))) (by decide +kernel))
set_option maxRecDepth 20000 in
theorem gL_act_X3_grow : GoodIn wsL_act (wsV RL 56 RX3 yX3_grow wsX3_grow) := goodIn_app (goodIn_of _ (by decide +kernel)) ggL_act_X3_grow
set_option maxRecDepth 20000 in
theorem ggL_act_X4_frozen : GoodIn wsL_act wsX4_frozen := goodIn_r _ [190, 101, 215, 216, 217, 218, 219, 220] (by decide +kernel) (by decide +kernel)
set_option maxRecDepth 20000 in
theorem gL_act_X4_frozen : GoodIn wsL_act (wsV RL 58 RX4 yX4_frozen wsX4_frozen) := goodIn_app (goodIn_of _ (by decide +kernel)) ggL_act_X4_frozen
set_option maxRecDepth 20000 in
theorem ggL_act_X4_lay : GoodIn wsL_act wsX4_lay := goodIn_r _ [194, 111, 112, 101, 195, 4, 106, 215, 216, 217, 218, 219, 220] (by decide +kernel) (by decide +kernel)
set_option maxRecDepth 20000 in
theorem gL_act_X4_lay : GoodIn wsL_act (wsV RL 62 RX4 yX4_lay wsX4_lay) := goodIn_app (goodIn_of _ (by decide +kernel)) ggL_act_X4_lay
set_option maxRecDepth 20000 in
theorem ggL_act_X3_lay : GoodIn wsL_act wsX3_lay := goodIn_ca (goodIn_r _ [199, 18, 19, 20, 16, 21, 22, 23, 200, 201, 202, 70, 203, 72, 77, 92, 82, 204, 205, 206, 207, 221, 222, 223, 224, 225, 226, 227, 228, 229, 230, 231, 232] (by decide +kernel) (by decide +kernel)) (goodIn_sub (fun _ h => List.mem_cons_of_mem _ (List.mem_append_left _ (List.mem_append_left _ (List.mem_append_right _ h)))) (by decide +kernel))
set_option maxRecDepth 20000 in
theorem gL_act_X3_lay : GoodIn wsL_act (wsV RL 66 RX3 yX3_lay wsX3_lay) := goodIn_app (goodIn_of _ (by decide +kernel)) ggL_act_X3_lay
set_option maxRecDepth 20000 in
theorem ggL_act_X3_turn : GoodIn wsL_act wsX3_turn := goodIn_ca (goodIn_ca (goodIn_r _ [211, 33, 34, 18, 63, 64, 65, 16, 66, 52, 53, 67, 68, 69, 70, 71, 72, 73, 74, 75, 76, 77, 212, 172, 173, 174, 82, 213, 94, 95, 96, 92, 83, 214, 85, 86, 87, 88, 89, 90, 91, 221, 222, 223, 224, 225, 226, 227, 228, 229, 230, 231, 232] (by decide +kernel) (by decide +kernel)) (goodIn_sub (fun _ h => List.mem_cons_of_mem _ (List.mem_append_left _ (List.mem_append_right _ h))) (by decide +kernel))) (goodIn_sub (fun _ h => List.mem_cons_of_mem _ (List.mem_append_right _ h)) (by decide +kernel))
set_option maxRecDepth 20000 in
theorem gL_act_X3_turn : GoodIn wsL_act (wsV RL 71 RX3 yX3_turn wsX3_turn) := goodIn_app (goodIn_of _ (by decide +kernel)) ggL_act_X3_turn
theorem dL_act_0 : decode cL_act 0 = .ok (.iload_n 2, 1) := by decide +kernel
theorem dL_act_1 : decode cL_act 1 = .ok (.iconst 3, 1) := by decide +kernel
theorem dL_act_2 : decode cL_act 2 = .ok (.ishr, 1) := by decide +kernel
theorem dL_act_3 : decode cL_act 3 = .ok (.aload_n 1, 1) := by decide +kernel
theorem dL_act_4 : decode cL_act 4 = .ok (.getfield 9, 3) := by decide +kernel
theorem dL_act_7 : decode cL_act 7 = .ok (.iconst 0, 1) := by decide +kernel
theorem dL_act_8 : decode cL_act 8 = .ok (.aaload, 1) := by decide +kernel
theorem dL_act_9 : decode cL_act 9 = .ok (.arraylength, 1) := by decide +kernel
theorem dL_act_10 : decode cL_act 10 = .ok (.invokestatic 15, 3) := by decide +kernel
theorem dL_act_13 : decode cL_act 13 = .ok (.istore_n 3, 1) := by decide +kernel
theorem dL_act_14 : decode cL_act 14 = .ok (.iload_n 2, 1) := by decide +kernel
theorem dL_act_15 : decode cL_act 15 = .ok (.bipush 6, 2) := by decide +kernel
theorem dL_act_17 : decode cL_act 17 = .ok (.ishr, 1) := by decide +kernel
theorem dL_act_18 : decode cL_act 18 = .ok (.aload_n 1, 1) := by decide +kernel
theorem dL_act_19 : decode cL_act 19 = .ok (.getfield 9, 3) := by decide +kernel
theorem dL_act_22 : decode cL_act 22 = .ok (.arraylength, 1) := by decide +kernel
theorem dL_act_23 : decode cL_act 23 = .ok (.invokestatic 15, 3) := by decide +kernel
theorem dL_act_26 : decode cL_act 26 = .ok (.istore 4, 2) := by decide +kernel
theorem dL_act_28 : decode cL_act 28 = .ok (.iconst 1, 1) := by decide +kernel
theorem dL_act_29 : decode cL_act 29 = .ok (.istore 5, 2) := by decide +kernel
theorem dL_act_31 : decode cL_act 31 = .ok (.iload_n 2, 1) := by decide +kernel
theorem dL_act_32 : decode cL_act 32 = .ok (.bipush 16, 2) := by decide +kernel
theorem dL_act_34 : decode cL_act 34 = .ok (.invokestatic 15, 3) := by decide +kernel
theorem dL_act_37 : decode cL_act 37 = .ok (.tableswitch 401 0 8 #[51, 89, 187, 227, 227, 266, 266, 266, 333], 51) := by decide +kernel
theorem dL_act_88 : decode cL_act 88 = .ok (.iload_n 2, 1) := by decide +kernel
theorem dL_act_89 : decode cL_act 89 = .ok (.iconst 4, 1) := by decide +kernel
theorem dL_act_90 : decode cL_act 90 = .ok (.ishr, 1) := by decide +kernel
theorem dL_act_91 : decode cL_act 91 = .ok (.iconst 3, 1) := by decide +kernel
theorem dL_act_92 : decode cL_act 92 = .ok (.invokestatic 15, 3) := by decide +kernel
theorem dL_act_95 : decode cL_act 95 = .ok (.istore 6, 2) := by decide +kernel
theorem dL_act_97 : decode cL_act 97 = .ok (.aload_n 1, 1) := by decide +kernel
theorem dL_act_98 : decode cL_act 98 = .ok (.getfield 21, 3) := by decide +kernel
theorem dL_act_101 : decode cL_act 101 = .ok (.istore 7, 2) := by decide +kernel
theorem dL_act_103 : decode cL_act 103 = .ok (.aload_n 1, 1) := by decide +kernel
theorem dL_act_104 : decode cL_act 104 = .ok (.iload 6, 2) := by decide +kernel
theorem dL_act_106 : decode cL_act 106 = .ok (.putfield 21, 3) := by decide +kernel
theorem dL_act_109 : decode cL_act 109 = .ok (.aload_n 0, 1) := by decide +kernel
theorem dL_act_110 : decode cL_act 110 = .ok (.iload 6, 2) := by decide +kernel
theorem dL_act_112 : decode cL_act 112 = .ok (.invokevirtual 25, 3) := by decide +kernel
theorem dL_act_115 : decode cL_act 115 = .ok (.iload 7, 2) := by decide +kernel
theorem dL_act_117 : decode cL_act 117 = .ok (.if_icmp .ne 7, 3) := by decide +kernel
theorem dL_act_120 : decode cL_act 120 = .ok (.iconst 1, 1) := by decide +kernel
theorem dL_act_121 : decode cL_act 121 = .ok (.goto 4, 3) := by decide +kernel
theorem dL_act_124 : decode cL_act 124 = .ok (.iconst 0, 1) := by decide +kernel
theorem dL_act_125 : decode cL_act 125 = .ok (.ireturn, 1) := by decide +kernel
theorem dL_act_126 : decode cL_act 126 = .ok (.iconst 2, 1) := by decide +kernel
theorem dL_act_127 : decode cL_act 127 = .ok (.newarray .int, 2) := by decide +kernel
theorem dL_act_129 : decode cL_act 129 = .ok (.dup, 1) := by decide +kernel
theorem dL_act_130 : decode cL_act 130 = .ok (.iconst 0, 1) := by decide +kernel
theorem dL_act_131 : decode cL_act 131 = .ok (.iload_n 2, 1) := by decide +kernel
theorem dL_act_132 : decode cL_act 132 = .ok (.iconst 3, 1) := by decide +kernel
theorem dL_act_133 : decode cL_act 133 = .ok (.ishr, 1) := by decide +kernel
theorem dL_act_134 : decode cL_act 134 = .ok (.sipush 512, 3) := by decide +kernel
theorem dL_act_137 : decode cL_act 137 = .ok (.invokestatic 15, 3) := by decide +kernel
theorem dL_act_140 : decode cL_act 140 = .ok (.iastore, 1) := by decide +kernel
theorem dL_act_141 : decode cL_act 141 = .ok (.dup, 1) := by decide +kernel
theorem dL_act_142 : decode cL_act 142 = .ok (.iconst 1, 1) := by decide +kernel
theorem dL_act_143 : decode cL_act 143 = .ok (.iload_n 2, 1) := by decide +kernel
theorem dL_act_144 : decode cL_act 144 = .ok (.bipush 7, 2) := by decide +kernel
theorem dL_act_146 : decode cL_act 146 = .ok (.ishr, 1) := by decide +kernel
theorem dL_act_147 : decode cL_act 147 = .ok (.sipush 512, 3) := by decide +kernel
theorem dL_act_150 : decode cL_act 150 = .ok (.invokestatic 15, 3) := by decide +kernel
theorem dL_act_153 : decode cL_act 153 = .ok (.iastore, 1) := by decide +kernel
theorem dL_act_154 : decode cL_act 154 = .ok (.astore 6, 2) := by decide +kernel
theorem dL_act_156 : decode cL_act 156 = .ok (.aload_n 1, 1) := by decide +kernel
theorem dL_act_157 : decode cL_act 157 = .ok (.getfield 31, 3) := by decide +kernel
theorem dL_act_160 : decode cL_act 160 = .ok (.arraylength, 1) := by decide +kernel
theorem dL_act_161 : decode cL_act 161 = .ok (.bipush 6, 2) := by decide +kernel
theorem dL_act_163 : decode cL_act 163 = .ok (.if_icmp .ge 7, 3) := by decide +kernel
theorem dL_act_166 : decode cL_act 166 = .ok (.iconst 1, 1) := by decide +kernel
theorem dL_act_167 : decode cL_act 167 = .ok (.goto 4, 3) := by decide +kernel
theorem dL_act_170 : decode cL_act 170 = .ok (.iconst 0, 1) := by decide +kernel
theorem dL_act_171 : decode cL_act 171 = .ok (.istore 5, 2) := by decide +kernel
theorem dL_act_173 : decode cL_act 173 = .ok (.iload 5, 2) := by decide +kernel
theorem dL_act_175 : decode cL_act 175 = .ok (.ifCond .eq 16, 3) := by decide +kernel
theorem dL_act_178 : decode cL_act 178 = .ok (.aload_n 1, 1) := by decide +kernel
theorem dL_act_179 : decode cL_act 179 = .ok (.aload_n 1, 1) := by decide +kernel
theorem dL_act_180 : decode cL_act 180 = .ok (.getfield 31, 3) := by decide +kernel
theorem dL_act_183 : decode cL_act 183 = .ok (.aload 6, 2) := by decide +kernel
theorem dL_act_185 : decode cL_act 185 = .ok (.invokestatic 35, 3) := by decide +kernel
theorem dL_act_188 : decode cL_act 188 = .ok (.putfield 31, 3) := by decide +kernel
theorem dL_act_191 : decode cL_act 191 = .ok (.aload_n 0, 1) := by decide +kernel
theorem dL_act_192 : decode cL_act 192 = .ok (.aload 6, 2) := by decide +kernel
theorem dL_act_194 : decode cL_act 194 = .ok (.iconst 0, 1) := by decide +kernel
theorem dL_act_195 : decode cL_act 195 = .ok (.iaload, 1) := by decide +kernel
theorem dL_act_196 : decode cL_act 196 = .ok (.aload 6, 2) := by decide +kernel
theorem dL_act_198 : decode cL_act 198 = .ok (.iconst 1, 1) := by decide +kernel
theorem dL_act_199 : decode cL_act 199 = .ok (.iaload, 1) := by decide +kernel
theorem dL_act_200 : decode cL_act 200 = .ok (.invokevirtual 39, 3) := by decide +kernel
theorem dL_act_203 : decode cL_act 203 = .ok (.aload_n 1, 1) := by decide +kernel
theorem dL_act_204 : decode cL_act 204 = .ok (.getfield 31, 3) := by decide +kernel
theorem dL_act_207 : decode cL_act 207 = .ok (.arraylength, 1) := by decide +kernel
theorem dL_act_208 : decode cL_act 208 = .ok (.iconst 1, 1) := by decide +kernel
theorem dL_act_209 : decode cL_act 209 = .ok (.isub, 1) := by decide +kernel
theorem dL_act_210 : decode cL_act 210 = .ok (.if_icmp .ne 12, 3) := by decide +kernel
theorem dL_act_213 : decode cL_act 213 = .ok (.iload 5, 2) := by decide +kernel
theorem dL_act_215 : decode cL_act 215 = .ok (.ifCond .eq 7, 3) := by decide +kernel
theorem dL_act_218 : decode cL_act 218 = .ok (.iconst 1, 1) := by decide +kernel
theorem dL_act_219 : decode cL_act 219 = .ok (.goto 4, 3) := by decide +kernel
theorem dL_act_222 : decode cL_act 222 = .ok (.iconst 0, 1) := by decide +kernel
theorem dL_act_223 : decode cL_act 223 = .ok (.ireturn, 1) := by decide +kernel
theorem dL_act_224 : decode cL_act 224 = .ok (.aload_n 1, 1) := by decide +kernel
theorem dL_act_225 : decode cL_act 225 = .ok (.getfield 42, 3) := by decide +kernel
theorem dL_act_228 : decode cL_act 228 = .ok (.istore 6, 2) := by decide +kernel
theorem dL_act_230 : decode cL_act 230 = .ok (.aload_n 1, 1) := by decide +kernel
theorem dL_act_231 : decode cL_act 231 = .ok (.iload_n 2, 1) := by decide +kernel
theorem dL_act_232 : decode cL_act 232 = .ok (.iconst 4, 1) := by decide +kernel
theorem dL_act_233 : decode cL_act 233 = .ok (.ishr, 1) := by decide +kernel
theorem dL_act_234 : decode cL_act 234 = .ok (.aload_n 1, 1) := by decide +kernel
theorem dL_act_235 : decode cL_act 235 = .ok (.getfield 31, 3) := by decide +kernel
theorem dL_act_238 : decode cL_act 238 = .ok (.arraylength, 1) := by decide +kernel
theorem dL_act_239 : decode cL_act 239 = .ok (.invokestatic 15, 3) := by decide +kernel
theorem dL_act_242 : decode cL_act 242 = .ok (.putfield 42, 3) := by decide +kernel
theorem dL_act_245 : decode cL_act 245 = .ok (.aload_n 0, 1) := by decide +kernel
theorem dL_act_246 : decode cL_act 246 = .ok (.aload_n 1, 1) := by decide +kernel
theorem dL_act_247 : decode cL_act 247 = .ok (.getfield 42, 3) := by decide +kernel
theorem dL_act_250 : decode cL_act 250 = .ok (.invokevirtual 45, 3) := by decide +kernel
theorem dL_act_253 : decode cL_act 253 = .ok (.iload 6, 2) := by decide +kernel
theorem dL_act_255 : decode cL_act 255 = .ok (.if_icmp .ne 7, 3) := by decide +kernel
theorem dL_act_258 : decode cL_act 258 = .ok (.iconst 1, 1) := by decide +kernel
theorem dL_act_259 : decode cL_act 259 = .ok (.goto 4, 3) := by decide +kernel
theorem dL_act_262 : decode cL_act 262 = .ok (.iconst 0, 1) := by decide +kernel
theorem dL_act_263 : decode cL_act 263 = .ok (.ireturn, 1) := by decide +kernel
theorem dL_act_264 : decode cL_act 264 = .ok (.iconst 1, 1) := by decide +kernel
theorem dL_act_265 : decode cL_act 265 = .ok (.iload_n 2, 1) := by decide +kernel
theorem dL_act_266 : decode cL_act 266 = .ok (.iconst 5, 1) := by decide +kernel
theorem dL_act_267 : decode cL_act 267 = .ok (.ishr, 1) := by decide +kernel
theorem dL_act_268 : decode cL_act 268 = .ok (.bipush 9, 2) := by decide +kernel
theorem dL_act_270 : decode cL_act 270 = .ok (.invokestatic 15, 3) := by decide +kernel
theorem dL_act_273 : decode cL_act 273 = .ok (.iadd, 1) := by decide +kernel
theorem dL_act_274 : decode cL_act 274 = .ok (.istore 6, 2) := by decide +kernel
theorem dL_act_276 : decode cL_act 276 = .ok (.aload_n 0, 1) := by decide +kernel
theorem dL_act_277 : decode cL_act 277 = .ok (.iload_n 3, 1) := by decide +kernel
theorem dL_act_278 : decode cL_act 278 = .ok (.iload 4, 2) := by decide +kernel
theorem dL_act_280 : decode cL_act 280 = .ok (.iload 6, 2) := by decide +kernel
theorem dL_act_282 : decode cL_act 282 = .ok (.invokevirtual 48, 3) := by decide +kernel
theorem dL_act_285 : decode cL_act 285 = .ok (.aload_n 1, 1) := by decide +kernel
theorem dL_act_286 : decode cL_act 286 = .ok (.iload_n 3, 1) := by decide +kernel
theorem dL_act_287 : decode cL_act 287 = .ok (.iload 4, 2) := by decide +kernel
theorem dL_act_289 : decode cL_act 289 = .ok (.iload 6, 2) := by decide +kernel
theorem dL_act_291 : decode cL_act 291 = .ok (.invokevirtual 52, 3) := by decide +kernel
theorem dL_act_294 : decode cL_act 294 = .ok (.if_icmp .ne 7, 3) := by decide +kernel
theorem dL_act_297 : decode cL_act 297 = .ok (.iconst 1, 1) := by decide +kernel
theorem dL_act_298 : decode cL_act 298 = .ok (.goto 4, 3) := by decide +kernel
theorem dL_act_301 : decode cL_act 301 = .ok (.iconst 0, 1) := by decide +kernel
theorem dL_act_302 : decode cL_act 302 = .ok (.ireturn, 1) := by decide +kernel
theorem dL_act_303 : decode cL_act 303 = .ok (.iconst 1, 1) := by decide +kernel
theorem dL_act_304 : decode cL_act 304 = .ok (.iload_n 2, 1) := by decide +kernel
theorem dL_act_305 : decode cL_act 305 = .ok (.iconst 5, 1) := by decide +kernel
theorem dL_act_306 : decode cL_act 306 = .ok (.ishr, 1) := by decide +kernel
theorem dL_act_307 : decode cL_act 307 = .ok (.iload_n 2, 1) := by decide +kernel
theorem dL_act_308 : decode cL_act 308 = .ok (.bipush 8, 2) := by decide +kernel
theorem dL_act_310 : decode cL_act 310 = .ok (.ishr, 1) := by decide +kernel
theorem dL_act_311 : decode cL_act 311 = .ok (.bipush 6, 2) := by decide +kernel
theorem dL_act_313 : decode cL_act 313 = .ok (.invokestatic 15, 3) := by decide +kernel
theorem dL_act_316 : decode cL_act 316 = .ok (.ifCond .ne 8, 3) := by decide +kernel
theorem dL_act_319 : decode cL_act 319 = .ok (.bipush 12, 2) := by decide +kernel
theorem dL_act_321 : decode cL_act 321 = .ok (.goto 4, 3) := by decide +kernel
theorem dL_act_324 : decode cL_act 324 = .ok (.iconst 2, 1) := by decide +kernel
theorem dL_act_325 : decode cL_act 325 = .ok (.invokestatic 15, 3) := by decide +kernel
theorem dL_act_328 : decode cL_act 328 = .ok (.iadd, 1) := by decide +kernel
theorem dL_act_329 : decode cL_act 329 = .ok (.istore 6, 2) := by decide +kernel
theorem dL_act_331 : decode cL_act 331 = .ok (.iconst 0, 1) := by decide +kernel
theorem dL_act_332 : decode cL_act 332 = .ok (.istore 7, 2) := by decide +kernel
theorem dL_act_334 : decode cL_act 334 = .ok (.iload 7, 2) := by decide +kernel
theorem dL_act_336 : decode cL_act 336 = .ok (.iload 6, 2) := by decide +kernel
theorem dL_act_338 : decode cL_act 338 = .ok (.if_icmp .ge 13, 3) := by decide +kernel
theorem dL_act_341 : decode cL_act 341 = .ok (.aload_n 1, 1) := by decide +kernel
theorem dL_act_342 : decode cL_act 342 = .ok (.invokevirtual 53, 3) := by decide +kernel
theorem dL_act_345 : decode cL_act 345 = .ok (.iinc 7 1, 3) := by decide +kernel
theorem dL_act_348 : decode cL_act 348 = .ok (.goto (-14), 3) := by decide +kernel
theorem dL_act_351 : decode cL_act 351 = .ok (.aload_n 0, 1) := by decide +kernel
theorem dL_act_352 : decode cL_act 352 = .ok (.iload 6, 2) := by decide +kernel
theorem dL_act_354 : decode cL_act 354 = .ok (.invokevirtual 56, 3) := by decide +kernel
theorem dL_act_357 : decode cL_act 357 = .ok (.aload_n 1, 1) := by decide +kernel
theorem dL_act_358 : decode cL_act 358 = .ok (.invokevirtual 58, 3) := by decide +kernel
theorem dL_act_361 : decode cL_act 361 = .ok (.if_icmp .ne 7, 3) := by decide +kernel
theorem dL_act_364 : decode cL_act 364 = .ok (.iconst 1, 1) := by decide +kernel
theorem dL_act_365 : decode cL_act 365 = .ok (.goto 4, 3) := by decide +kernel
theorem dL_act_368 : decode cL_act 368 = .ok (.iconst 0, 1) := by decide +kernel
theorem dL_act_369 : decode cL_act 369 = .ok (.ireturn, 1) := by decide +kernel
theorem dL_act_370 : decode cL_act 370 = .ok (.iload_n 2, 1) := by decide +kernel
theorem dL_act_371 : decode cL_act 371 = .ok (.bipush 8, 2) := by decide +kernel
theorem dL_act_373 : decode cL_act 373 = .ok (.ishr, 1) := by decide +kernel
theorem dL_act_374 : decode cL_act 374 = .ok (.iconst 5, 1) := by decide +kernel
theorem dL_act_375 : decode cL_act 375 = .ok (.invokestatic 15, 3) := by decide +kernel
theorem dL_act_378 : decode cL_act 378 = .ok (.ifCond .le 5, 3) := by decide +kernel
theorem dL_act_381 : decode cL_act 381 = .ok (.iconst 1, 1) := by decide +kernel
theorem dL_act_382 : decode cL_act 382 = .ok (.ireturn, 1) := by decide +kernel
theorem dL_act_383 : decode cL_act 383 = .ok (.iconst 3, 1) := by decide +kernel
theorem dL_act_384 : decode cL_act 384 = .ok (.iload_n 2, 1) := by decide +kernel
theorem dL_act_385 : decode cL_act 385 = .ok (.iconst 4, 1) := by decide +kernel
theorem dL_act_386 : decode cL_act 386 = .ok (.ishr, 1) := by decide +kernel
theorem dL_act_387 : decode cL_act 387 = .ok (.bipush 10, 2) := by decide +kernel
theorem dL_act_389 : decode cL_act 389 = .ok (.invokestatic 15, 3) := by decide +kernel
theorem dL_act_392 : decode cL_act 392 = .ok (.iadd, 1) := by decide +kernel
theorem dL_act_393 : decode cL_act 393 = .ok (.istore 6, 2) := by decide +kernel
theorem dL_act_395 : decode cL_act 395 = .ok (.iconst 3, 1) := by decide +kernel
theorem dL_act_396 : decode cL_act 396 = .ok (.iload_n 2, 1) := by decide +kernel
theorem dL_act_397 : decode cL_act 397 = .ok (.bipush 6, 2) := by decide +kernel
theorem dL_act_399 : decode cL_act 399 = .ok (.ishr, 1) := by decide +kernel
theorem dL_act_400 : decode cL_act 400 = .ok (.bipush 10, 2) := by decide +kernel
theorem dL_act_402 : decode cL_act 402 = .ok (.invokestatic 15, 3) := by decide +kernel
theorem dL_act_405 : decode cL_act 405 = .ok (.iadd, 1) := by decide +kernel
theorem dL_act_406 : decode cL_act 406 = .ok (.istore 7, 2) := by decide +kernel
theorem dL_act_408 : decode cL_act 408 = .ok (.aload_n 1, 1) := by decide +kernel
theorem dL_act_409 : decode cL_act 409 = .ok (.iload 6, 2) := by decide +kernel
theorem dL_act_411 : decode cL_act 411 = .ok (.iload 7, 2) := by decide +kernel
theorem dL_act_413 : decode cL_act 413 = .ok (.invokevirtual 62, 3) := by decide +kernel
theorem dL_act_416 : decode cL_act 416 = .ok (.aload_n 0, 1) := by decide +kernel
theorem dL_act_417 : decode cL_act 417 = .ok (.iload 6, 2) := by decide +kernel
theorem dL_act_419 : decode cL_act 419 = .ok (.iload 7, 2) := by decide +kernel
theorem dL_act_421 : decode cL_act 421 = .ok (.invokevirtual 66, 3) := by decide +kernel
theorem dL_act_424 : decode cL_act 424 = .ok (.iload 6, 2) := by decide +kernel
theorem dL_act_426 : decode cL_act 426 = .ok (.iload 7, 2) := by decide +kernel
theorem dL_act_428 : decode cL_act 428 = .ok (.imul, 1) := by decide +kernel
theorem dL_act_429 : decode cL_act 429 = .ok (.if_icmp .ne 7, 3) := by decide +kernel
theorem dL_act_432 : decode cL_act 432 = .ok (.iconst 1, 1) := by decide +kernel
theorem dL_act_433 : decode cL_act 433 = .ok (.goto 4, 3) := by decide +kernel
theorem dL_act_436 : decode cL_act 436 = .ok (.iconst 0, 1) := by decide +kernel
theorem dL_act_437 : decode cL_act 437 = .ok (.ireturn, 1) := by decide +kernel
theorem dL_act_438 : decode cL_act 438 = .ok (.aload_n 1, 1) := by decide +kernel
theorem dL_act_439 : decode cL_act 439 = .ok (.getfield 68, 3) := by decide +kernel
theorem dL_act_442 : decode cL_act 442 = .ok (.iload 4, 2) := by decide +kernel
theorem dL_act_444 : decode cL_act 444 = .ok (.aaload, 1) := by decide +kernel
theorem dL_act_445 : decode cL_act 445 = .ok (.iload_n 3, 1) := by decide +kernel
theorem dL_act_446 : decode cL_act 446 = .ok (.iaload, 1) := by decide +kernel
theorem dL_act_447 : decode cL_act 447 = .ok (.ifCond .ne 7, 3) := by decide +kernel
theorem dL_act_450 : decode cL_act 450 = .ok (.iconst 1, 1) := by decide +kernel
theorem dL_act_451 : decode cL_act 451 = .ok (.goto 4, 3) := by decide +kernel
theorem dL_act_454 : decode cL_act 454 = .ok (.iconst 0, 1) := by decide +kernel
theorem dL_act_455 : decode cL_act 455 = .ok (.istore 5, 2) := by decide +kernel
theorem dL_act_457 : decode cL_act 457 = .ok (.iload 5, 2) := by decide +kernel
theorem dL_act_459 : decode cL_act 459 = .ok (.ifCond .eq 29, 3) := by decide +kernel
theorem dL_act_462 : decode cL_act 462 = .ok (.aload_n 1, 1) := by decide +kernel
theorem dL_act_463 : decode cL_act 463 = .ok (.getfield 9, 3) := by decide +kernel
theorem dL_act_466 : decode cL_act 466 = .ok (.iload 4, 2) := by decide +kernel
theorem dL_act_468 : decode cL_act 468 = .ok (.aaload, 1) := by decide +kernel
theorem dL_act_469 : decode cL_act 469 = .ok (.iload_n 3, 1) := by decide +kernel
theorem dL_act_470 : decode cL_act 470 = .ok (.aload_n 1, 1) := by decide +kernel
theorem dL_act_471 : decode cL_act 471 = .ok (.getfield 9, 3) := by decide +kernel
theorem dL_act_474 : decode cL_act 474 = .ok (.iload 4, 2) := by decide +kernel
theorem dL_act_476 : decode cL_act 476 = .ok (.aaload, 1) := by decide +kernel
theorem dL_act_477 : decode cL_act 477 = .ok (.iload_n 3, 1) := by decide +kernel
theorem dL_act_478 : decode cL_act 478 = .ok (.baload, 1) := by decide +kernel
theorem dL_act_479 : decode cL_act 479 = .ok (.ifCond .ne 7, 3) := by decide +kernel
theorem dL_act_482 : decode cL_act 482 = .ok (.iconst 1, 1) := by decide +kernel
theorem dL_act_483 : decode cL_act 483 = .ok (.goto 4, 3) := by decide +kernel
theorem dL_act_486 : decode cL_act 486 = .ok (.iconst 0, 1) := by decide +kernel
theorem dL_act_487 : decode cL_act 487 = .ok (.bastore, 1) := by decide +kernel
theorem dL_act_488 : decode cL_act 488 = .ok (.aload_n 0, 1) := by decide +kernel
theorem dL_act_489 : decode cL_act 489 = .ok (.iload_n 3, 1) := by decide +kernel
theorem dL_act_490 : decode cL_act 490 = .ok (.iload 4, 2) := by decide +kernel
theorem dL_act_492 : decode cL_act 492 = .ok (.invokevirtual 71, 3) := by decide +kernel
theorem dL_act_495 : decode cL_act 495 = .ok (.aload_n 1, 1) := by decide +kernel
theorem dL_act_496 : decode cL_act 496 = .ok (.getfield 9, 3) := by decide +kernel
theorem dL_act_499 : decode cL_act 499 = .ok (.iload 4, 2) := by decide +kernel
theorem dL_act_501 : decode cL_act 501 = .ok (.aaload, 1) := by decide +kernel
theorem dL_act_502 : decode cL_act 502 = .ok (.iload_n 3, 1) := by decide +kernel
theorem dL_act_503 : decode cL_act 503 = .ok (.baload, 1) := by decide +kernel
theorem dL_act_504 : decode cL_act 504 = .ok (.if_icmp .ne 12, 3) := by decide +kernel
theorem dL_act_507 : decode cL_act 507 = .ok (.iload 5, 2) := by decide +kernel
theorem dL_act_509 : decode cL_act 509 = .ok (.ifCond .eq 7, 3) := by decide +kernel
theorem dL_act_512 : decode cL_act 512 = .ok (.iconst 1, 1) := by decide +kernel
theorem dL_act_513 : decode cL_act 513 = .ok (.goto 4, 3) := by decide +kernel
theorem dL_act_516 : decode cL_act 516 = .ok (.iconst 0, 1) := by decide +kernel
theorem dL_act_517 : decode cL_act 517 = .ok (.ireturn, 1) := by decide +kernel
theorem dL_act_518 : decode cL_act 518 = .ok (.astore 6, 2) := by decide +kernel
theorem dL_act_520 : decode cL_act 520 = .ok (.iload 5, 2) := by decide +kernel
theorem dL_act_522 : decode cL_act 522 = .ok (.ifCond .ne 7, 3) := by decide +kernel
theorem dL_act_525 : decode cL_act 525 = .ok (.iconst 1, 1) := by decide +kernel
theorem dL_act_526 : decode cL_act 526 = .ok (.goto 4, 3) := by decide +kernel
theorem dL_act_529 : decode cL_act 529 = .ok (.iconst 0, 1) := by decide +kernel
theorem dL_act_530 : decode cL_act 530 = .ok (.ireturn, 1) := by decide +kernel
set_option maxRecDepth 20000 in
theorem ggL_build_X4_init : GoodIn wsL_build wsX4_init := goodIn_r _ [7, 8, 9, 10, 11, 12, 13, 14, 15, 16, 17, 18, 229, 230, 231, 232, 233, 234] (by decide +kernel) (by decide +kernel)
set_option maxRecDepth 20000 in
theorem gL_build_X4_init_n77 : GoodIn wsL_build (wsX4_init) := ggL_build_X4_init
set_option maxRecDepth 20000 in
theorem ggL_build_L_cell : GoodIn wsL_build wsL_cell := goodIn_r _ [22, 23] (by decide +kernel) (by decide +kernel)
set_option maxRecDepth 20000 in
theorem gL_build_L_cell : GoodIn wsL_build (va_wsS RL 78 yL_cell wsL_cell) := goodIn_app (goodIn_of _ (by decide +kernel)) ggL_build_L_cell
set_option maxRecDepth 20000 in
theorem ggL_build_L_below : GoodIn wsL_build wsL_below := goodIn_r _ [26, 27] (by decide +kernel) (by decide +kernel)
set_option maxRecDepth 20000 in
theorem gL_build_L_below : GoodIn wsL_build (va_wsS RL 15 yL_below wsL_below) := goodIn_app (goodIn_of _ (by decide +kernel)) ggL_build_L_below
set_option maxRecDepth 20000 in
theorem ggL_build_X4_lay : GoodIn wsL_build wsX4_lay := goodIn_r _ [31, 11, 12, 13, 14, 15, 16, 229, 230, 231, 232, 233, 234] (by decide +kernel) (by decide +kernel)
set_option maxRecDepth 20000 in
theorem gL_build_X4_lay : GoodIn wsL_build (wsV RL 62 RX4 yX4_lay wsX4_lay) := goodIn_app (goodIn_of _ (by decide +kernel)) ggL_build_X4_lay
set_option maxRecDepth 20000 in
theorem ggL_build_X3_lay : GoodIn wsL_build wsX3_lay := goodIn_ca (goodIn_r _ [36, 37, 38, 39, 35, 40, 41, 42, 43, 44, 45, 46, 47, 48, 49, 50, 51, 52, 53, 54, 55, 235, 236, 237, 238, 239, 240, 241, 242, 243, 244, 245, 246] (by decide +kernel) (by decide +kernel)) (goodIn_sub (fun _ h => List.mem_cons_of_mem _ (List.mem_append_left _ (List.mem_append_left _ (List.mem_append_right _ h)))) (by decide +kernel))
set_option maxRecDepth 20000 in
theorem gL_build_X3_lay : GoodIn wsL_build (wsV RL 66 RX3 yX3_lay wsX3_lay) := goodIn_app (goodIn_of _ (by decide +kernel)) ggL_build_X3_lay
set_option maxRecDepth 20000 in
theorem ggL_build_X3_setFrame : GoodIn wsL_build wsX3_setFrame := goodIn_ca (goodIn_r _ [59, 37, 38, 39, 35, 40, 41, 42, 235, 236, 237, 238, 239, 240, 241, 242, 243, 244, 245, 246] (by decide +kernel) (by decide +kernel)) (goodIn_sub (fun _ h => List.mem_cons_of_mem _ (List.mem_append_left _ (List.mem_append_left _ (List.mem_append_right _ h)))) (by decide +kernel))
set_option maxRecDepth 20000 in
theorem gL_build_X3_setFrame : GoodIn wsL_build (wsV RL 25 RX3 yX3_setFrame wsX3_setFrame) := goodIn_app (goodIn_of _ (by decide +kernel)) ggL_build_X3_setFrame
set_option maxRecDepth 20000 in
theorem ggL_build_X3_turn : GoodIn wsL_build wsX3_turn := goodIn_ca (goodIn_ca (goodIn_r _ [63, 64, 65, 37, 66, 67, 68, 35, 69, 70, 71, 72, 73, 74, 46, 75, 48, 76, 77, 78, 79, 49, 80, 81, 82, 83, 51, 84, 85, 86, 87, 50, 88, 89, 90, 91, 92, 93, 94, 95, 96, 235, 236, 237, 238, 239, 240, 241, 242, 243, 244, 245, 246] (by decide +kernel) (by decide +kernel)) (goodIn_sub (fun _ h => List.mem_cons_of_mem _ (List.mem_append_left _ (List.mem_append_right _ h))) (by decide +kernel))) (goodIn_sub (fun _ h => List.mem_cons_of_mem _ (List.mem_append_right _ h)) (by decide +kernel))
set_option maxRecDepth 20000 in
theorem gL_build_X3_turn : GoodIn wsL_build (wsV RL 71 RX3 yX3_turn wsX3_turn) := goodIn_app (goodIn_of _ (by decide +kernel)) ggL_build_X3_turn
theorem dL_build_0 : decode cL_build 0 = .ok (.new 10, 3) := by decide +kernel
theorem dL_build_3 : decode cL_build 3 = .ok (.dup, 1) := by decide +kernel
theorem dL_build_4 : decode cL_build 4 = .ok (.invokespecial 77, 3) := by decide +kernel
theorem dL_build_7 : decode cL_build 7 = .ok (.astore_n 2, 1) := by decide +kernel
theorem dL_build_8 : decode cL_build 8 = .ok (.iconst 3, 1) := by decide +kernel
theorem dL_build_9 : decode cL_build 9 = .ok (.aload_n 1, 1) := by decide +kernel
theorem dL_build_10 : decode cL_build 10 = .ok (.iconst 0, 1) := by decide +kernel
theorem dL_build_11 : decode cL_build 11 = .ok (.invokestatic 78, 3) := by decide +kernel
theorem dL_build_14 : decode cL_build 14 = .ok (.bipush 8, 2) := by decide +kernel
theorem dL_build_16 : decode cL_build 16 = .ok (.invokestatic 15, 3) := by decide +kernel
theorem dL_build_19 : decode cL_build 19 = .ok (.iadd, 1) := by decide +kernel
theorem dL_build_20 : decode cL_build 20 = .ok (.istore_n 3, 1) := by decide +kernel
theorem dL_build_21 : decode cL_build 21 = .ok (.iconst 3, 1) := by decide +kernel
theorem dL_build_22 : decode cL_build 22 = .ok (.aload_n 1, 1) := by decide +kernel
theorem dL_build_23 : decode cL_build 23 = .ok (.iconst 0, 1) := by decide +kernel
theorem dL_build_24 : decode cL_build 24 = .ok (.invokestatic 78, 3) := by decide +kernel
theorem dL_build_27 : decode cL_build 27 = .ok (.iconst 4, 1) := by decide +kernel
theorem dL_build_28 : decode cL_build 28 = .ok (.ishr, 1) := by decide +kernel
theorem dL_build_29 : decode cL_build 29 = .ok (.bipush 8, 2) := by decide +kernel
theorem dL_build_31 : decode cL_build 31 = .ok (.invokestatic 15, 3) := by decide +kernel
theorem dL_build_34 : decode cL_build 34 = .ok (.iadd, 1) := by decide +kernel
theorem dL_build_35 : decode cL_build 35 = .ok (.istore 4, 2) := by decide +kernel
theorem dL_build_37 : decode cL_build 37 = .ok (.aload_n 2, 1) := by decide +kernel
theorem dL_build_38 : decode cL_build 38 = .ok (.iload_n 3, 1) := by decide +kernel
theorem dL_build_39 : decode cL_build 39 = .ok (.iload 4, 2) := by decide +kernel
theorem dL_build_41 : decode cL_build 41 = .ok (.invokevirtual 62, 3) := by decide +kernel
theorem dL_build_44 : decode cL_build 44 = .ok (.aload_n 2, 1) := by decide +kernel
theorem dL_build_45 : decode cL_build 45 = .ok (.aload_n 1, 1) := by decide +kernel
theorem dL_build_46 : decode cL_build 46 = .ok (.iconst 1, 1) := by decide +kernel
theorem dL_build_47 : decode cL_build 47 = .ok (.invokestatic 78, 3) := by decide +kernel
theorem dL_build_50 : decode cL_build 50 = .ok (.iconst 3, 1) := by decide +kernel
theorem dL_build_51 : decode cL_build 51 = .ok (.invokestatic 15, 3) := by decide +kernel
theorem dL_build_54 : decode cL_build 54 = .ok (.putfield 21, 3) := by decide +kernel
theorem dL_build_57 : decode cL_build 57 = .ok (.aload_n 0, 1) := by decide +kernel
theorem dL_build_58 : decode cL_build 58 = .ok (.iload_n 3, 1) := by decide +kernel
theorem dL_build_59 : decode cL_build 59 = .ok (.iload 4, 2) := by decide +kernel
theorem dL_build_61 : decode cL_build 61 = .ok (.invokevirtual 66, 3) := by decide +kernel
theorem dL_build_64 : decode cL_build 64 = .ok (.iload_n 3, 1) := by decide +kernel
theorem dL_build_65 : decode cL_build 65 = .ok (.iload 4, 2) := by decide +kernel
theorem dL_build_67 : decode cL_build 67 = .ok (.imul, 1) := by decide +kernel
theorem dL_build_68 : decode cL_build 68 = .ok (.if_icmp .ne 14, 3) := by decide +kernel
theorem dL_build_71 : decode cL_build 71 = .ok (.aload_n 0, 1) := by decide +kernel
theorem dL_build_72 : decode cL_build 72 = .ok (.aload_n 2, 1) := by decide +kernel
theorem dL_build_73 : decode cL_build 73 = .ok (.getfield 21, 3) := by decide +kernel
theorem dL_build_76 : decode cL_build 76 = .ok (.invokevirtual 25, 3) := by decide +kernel
theorem dL_build_79 : decode cL_build 79 = .ok (.ifCond .eq 5, 3) := by decide +kernel
theorem dL_build_82 : decode cL_build 82 = .ok (.aconst_null, 1) := by decide +kernel
theorem dL_build_83 : decode cL_build 83 = .ok (.areturn, 1) := by decide +kernel
theorem dL_build_84 : decode cL_build 84 = .ok (.iconst 0, 1) := by decide +kernel
theorem dL_build_85 : decode cL_build 85 = .ok (.istore 5, 2) := by decide +kernel
theorem dL_build_87 : decode cL_build 87 = .ok (.iload 5, 2) := by decide +kernel
theorem dL_build_89 : decode cL_build 89 = .ok (.iload 4, 2) := by decide +kernel
theorem dL_build_91 : decode cL_build 91 = .ok (.if_icmp .ge 67, 3) := by decide +kernel
theorem dL_build_94 : decode cL_build 94 = .ok (.iconst 0, 1) := by decide +kernel
theorem dL_build_95 : decode cL_build 95 = .ok (.istore 6, 2) := by decide +kernel
theorem dL_build_97 : decode cL_build 97 = .ok (.iload 6, 2) := by decide +kernel
theorem dL_build_99 : decode cL_build 99 = .ok (.iload_n 3, 1) := by decide +kernel
theorem dL_build_100 : decode cL_build 100 = .ok (.if_icmp .ge 52, 3) := by decide +kernel
theorem dL_build_103 : decode cL_build 103 = .ok (.aload_n 1, 1) := by decide +kernel
theorem dL_build_104 : decode cL_build 104 = .ok (.iconst 2, 1) := by decide +kernel
theorem dL_build_105 : decode cL_build 105 = .ok (.iload 5, 2) := by decide +kernel
theorem dL_build_107 : decode cL_build 107 = .ok (.iadd, 1) := by decide +kernel
theorem dL_build_108 : decode cL_build 108 = .ok (.invokestatic 78, 3) := by decide +kernel
theorem dL_build_111 : decode cL_build 111 = .ok (.iload 6, 2) := by decide +kernel
theorem dL_build_113 : decode cL_build 113 = .ok (.ishr, 1) := by decide +kernel
theorem dL_build_114 : decode cL_build 114 = .ok (.iconst 1, 1) := by decide +kernel
theorem dL_build_115 : decode cL_build 115 = .ok (.iand, 1) := by decide +kernel
theorem dL_build_116 : decode cL_build 116 = .ok (.ifCond .ne 6, 3) := by decide +kernel
theorem dL_build_119 : decode cL_build 119 = .ok (.goto 27, 3) := by decide +kernel
theorem dL_build_122 : decode cL_build 122 = .ok (.aload_n 2, 1) := by decide +kernel
theorem dL_build_123 : decode cL_build 123 = .ok (.getfield 9, 3) := by decide +kernel
theorem dL_build_126 : decode cL_build 126 = .ok (.iload 5, 2) := by decide +kernel
theorem dL_build_128 : decode cL_build 128 = .ok (.aaload, 1) := by decide +kernel
theorem dL_build_129 : decode cL_build 129 = .ok (.iload 6, 2) := by decide +kernel
theorem dL_build_131 : decode cL_build 131 = .ok (.iconst 1, 1) := by decide +kernel
theorem dL_build_132 : decode cL_build 132 = .ok (.bastore, 1) := by decide +kernel
theorem dL_build_133 : decode cL_build 133 = .ok (.aload_n 0, 1) := by decide +kernel
theorem dL_build_134 : decode cL_build 134 = .ok (.iload 6, 2) := by decide +kernel
theorem dL_build_136 : decode cL_build 136 = .ok (.iload 5, 2) := by decide +kernel
theorem dL_build_138 : decode cL_build 138 = .ok (.invokevirtual 71, 3) := by decide +kernel
theorem dL_build_141 : decode cL_build 141 = .ok (.ifCond .ne 5, 3) := by decide +kernel
theorem dL_build_144 : decode cL_build 144 = .ok (.aconst_null, 1) := by decide +kernel
theorem dL_build_145 : decode cL_build 145 = .ok (.areturn, 1) := by decide +kernel
theorem dL_build_146 : decode cL_build 146 = .ok (.iinc 6 1, 3) := by decide +kernel
theorem dL_build_149 : decode cL_build 149 = .ok (.goto (-52), 3) := by decide +kernel
theorem dL_build_152 : decode cL_build 152 = .ok (.iinc 5 1, 3) := by decide +kernel
theorem dL_build_155 : decode cL_build 155 = .ok (.goto (-68), 3) := by decide +kernel
theorem dL_build_158 : decode cL_build 158 = .ok (.iconst 0, 1) := by decide +kernel
theorem dL_build_159 : decode cL_build 159 = .ok (.istore 5, 2) := by decide +kernel
theorem dL_build_161 : decode cL_build 161 = .ok (.iload 5, 2) := by decide +kernel
theorem dL_build_163 : decode cL_build 163 = .ok (.bipush 6, 2) := by decide +kernel
theorem dL_build_165 : decode cL_build 165 = .ok (.if_icmp .ge 33, 3) := by decide +kernel
theorem dL_build_168 : decode cL_build 168 = .ok (.aload_n 0, 1) := by decide +kernel
theorem dL_build_169 : decode cL_build 169 = .ok (.aload_n 2, 1) := by decide +kernel
theorem dL_build_170 : decode cL_build 170 = .ok (.aload_n 1, 1) := by decide +kernel
theorem dL_build_171 : decode cL_build 171 = .ok (.iload 5, 2) := by decide +kernel
theorem dL_build_173 : decode cL_build 173 = .ok (.invokestatic 78, 3) := by decide +kernel
theorem dL_build_176 : decode cL_build 176 = .ok (.iconst 2, 1) := by decide +kernel
theorem dL_build_177 : decode cL_build 177 = .ok (.ishr, 1) := by decide +kernel
theorem dL_build_178 : decode cL_build 178 = .ok (.bipush 41, 2) := by decide +kernel
theorem dL_build_180 : decode cL_build 180 = .ok (.iload 5, 2) := by decide +kernel
theorem dL_build_182 : decode cL_build 182 = .ok (.imul, 1) := by decide +kernel
theorem dL_build_183 : decode cL_build 183 = .ok (.iadd, 1) := by decide +kernel
theorem dL_build_184 : decode cL_build 184 = .ok (.invokestatic 82, 3) := by decide +kernel
theorem dL_build_187 : decode cL_build 187 = .ok (.ifCond .ne 5, 3) := by decide +kernel
theorem dL_build_190 : decode cL_build 190 = .ok (.aconst_null, 1) := by decide +kernel
theorem dL_build_191 : decode cL_build 191 = .ok (.areturn, 1) := by decide +kernel
theorem dL_build_192 : decode cL_build 192 = .ok (.iinc 5 1, 3) := by decide +kernel
theorem dL_build_195 : decode cL_build 195 = .ok (.goto (-34), 3) := by decide +kernel
theorem dL_build_198 : decode cL_build 198 = .ok (.aload_n 2, 1) := by decide +kernel
theorem dL_build_199 : decode cL_build 199 = .ok (.areturn, 1) := by decide +kernel
set_option maxRecDepth 20000 in
theorem ggL_law_X3_init : GoodIn wsL_law wsX3_init := goodIn_r _ [11, 12, 13, 14, 15, 16, 17, 18, 19, 20, 21, 22, 23, 24, 25, 26, 27, 28, 29, 30, 3, 31, 32, 33, 34, 35, 36, 37, 38, 39, 40, 41, 42, 43, 44, 45, 46, 47, 48, 49, 50, 51, 52, 53, 54, 55, 56, 57, 58, 500, 501, 502, 503, 504, 505, 488, 489, 490, 491, 492, 493, 506, 507, 508, 509, 510] (by decide +kernel) (by decide +kernel)
set_option maxRecDepth 20000 in
theorem gL_law_X3_init : GoodIn wsL_law (wsX3_init) := ggL_law_X3_init
set_option maxRecDepth 20000 in
theorem ggL_law_L_cell : GoodIn wsL_law wsL_cell := goodIn_r _ [78, 79] (by decide +kernel) (by decide +kernel)
set_option maxRecDepth 20000 in
theorem gL_law_L_cell : GoodIn wsL_law (va_wsS RL 78 yL_cell wsL_cell) := goodIn_app (goodIn_of _ (by decide +kernel)) ggL_law_L_cell
set_option maxRecDepth 20000 in
theorem ggL_law_X3_digest : GoodIn wsL_law wsX3_digest := goodIn_ca (goodIn_ca (goodIn_r _ [261, 262, 18, 263, 264, 265, 2, 266, 267, 268, 269, 270, 271, 272, 273, 274, 275, 276, 277, 278, 204, 279, 280, 281, 282, 27, 283, 284, 285, 286, 158, 287, 288, 289, 290, 250, 251, 252, 17, 253, 49, 134, 135, 136, 137, 31, 234, 235, 236, 237, 238, 239, 240, 291, 292, 293, 294, 295, 296, 297, 298, 33, 299, 300, 301, 302, 23, 303, 304, 305, 22, 306, 37, 307, 308, 309, 310, 311, 38, 312, 51, 52, 53, 313, 314, 315, 316, 317, 318, 319, 320, 321, 322, 323, 324, 325, 326, 327, 328, 329, 330, 331, 179, 332, 333, 334, 335, 336, 130, 131, 132, 133, 337, 338, 339, 340, 341, 342, 343, 19, 344, 345, 346, 347, 48, 226, 348, 349, 350, 351, 352, 353, 354, 205, 206, 207, 26, 208, 42, 209, 160, 161, 162, 58, 210, 211, 212, 213, 43, 214, 215, 216, 217, 32, 218, 219, 220, 221, 222, 223, 224, 225, 117, 118, 119, 120, 227, 228, 229, 230, 171, 231, 232, 233, 241, 122, 123, 124, 242, 243, 244, 245, 246, 247, 248, 249, 355, 356, 357, 358, 359, 360, 361, 362, 363, 364, 365, 366, 92, 93, 94, 95, 96, 367, 368, 369, 370, 371, 372, 373, 374, 375, 376, 377, 378, 111, 112, 379, 380, 381, 382, 383, 384, 385, 107, 108, 109, 110, 113, 114, 115, 116, 386, 387, 388, 389, 121, 390, 391, 392, 393, 394, 395, 396, 397, 398, 399, 400, 401, 402, 403, 404, 405, 488, 489, 490, 491, 492, 493, 500, 501, 502, 503, 504, 505, 508, 509, 510, 506, 507] (by decide +kernel) (by decide +kernel)) (goodIn_sub (fun _ h => List.mem_append_left _ (List.mem_append_left _ (List.mem_append_right _ h))) (by decide +kernel))) (goodIn_sub (fun _ h => List.mem_append_right _ h) (by decide +kernel))
set_option maxRecDepth 20000 in
theorem gL_law_X3_digest : GoodIn wsL_law (wsV RL 91 RX3 yX3_digest wsX3_digest) := goodIn_app (goodIn_of _ (by decide +kernel)) ggL_law_X3_digest
set_option maxRecDepth 20000 in
theorem ggL_law_X3_columns : GoodIn wsL_law wsX3_columns := goodIn_r _ [266, 18, 488, 489, 490, 491, 492, 493, 500, 501, 502, 503, 504, 505] (by decide +kernel) (by decide +kernel)
set_option maxRecDepth 20000 in
theorem gL_law_X3_columns : GoodIn wsL_law (wsV RL 95 RX3 yX3_columns wsX3_columns) := goodIn_app (goodIn_of _ (by decide +kernel)) ggL_law_X3_columns
set_option maxRecDepth 20000 in
theorem ggL_law_X3_rows : GoodIn wsL_law wsX3_rows := goodIn_r _ [274, 18, 488, 489, 490, 491, 492, 493, 500, 501, 502, 503, 504, 505] (by decide +kernel) (by decide +kernel)
set_option maxRecDepth 20000 in
theorem gL_law_X3_rows : GoodIn wsL_law (wsV RL 98 RX3 yX3_rows wsX3_rows) := goodIn_app (goodIn_of _ (by decide +kernel)) ggL_law_X3_rows
set_option maxRecDepth 20000 in
theorem ggL_law_X3_isFrozen : GoodIn wsL_law wsX3_isFrozen := goodIn_ca (goodIn_r _ [385, 18, 107, 108, 109, 2, 110, 111, 112, 113, 114, 115, 17, 116, 48, 117, 118, 119, 120, 49, 130, 131, 132, 133, 134, 135, 136, 137, 31, 488, 489, 490, 491, 492, 493, 500, 501, 502, 503, 504, 505] (by decide +kernel) (by decide +kernel)) (goodIn_sub (fun _ h => List.mem_append_right _ h) (by decide +kernel))
set_option maxRecDepth 20000 in
theorem gL_law_X3_isFrozen : GoodIn wsL_law (wsV RL 102 RX3 yX3_isFrozen wsX3_isFrozen) := goodIn_app (goodIn_of _ (by decide +kernel)) ggL_law_X3_isFrozen
set_option maxRecDepth 20000 in
theorem ggL_law_X3_around : GoodIn wsL_law wsX3_around := goodIn_ca (goodIn_r _ [393, 18, 107, 108, 109, 2, 110, 111, 112, 113, 114, 115, 17, 116, 48, 117, 118, 119, 120, 49, 394, 395, 396, 397, 222, 223, 224, 225, 226, 134, 135, 136, 137, 31, 227, 228, 229, 230, 231, 232, 233, 234, 235, 236, 237, 238, 239, 240, 488, 489, 490, 491, 492, 493, 500, 501, 502, 503, 504, 505] (by decide +kernel) (by decide +kernel)) (goodIn_sub (fun _ h => List.mem_append_right _ h) (by decide +kernel))
set_option maxRecDepth 20000 in
theorem gL_law_X3_around : GoodIn wsL_law (wsV RL 105 RX3 yX3_around wsX3_around) := goodIn_app (goodIn_of _ (by decide +kernel)) ggL_law_X3_around
set_option maxRecDepth 20000 in
theorem ggL_law_X3_flowerAt : GoodIn wsL_law wsX3_flowerAt := goodIn_ca (goodIn_r _ [413, 23, 18, 107, 108, 109, 2, 110, 111, 112, 113, 114, 115, 17, 116, 48, 117, 118, 119, 120, 49, 303, 304, 305, 22, 306, 37, 307, 135, 136, 137, 31, 308, 309, 310, 311, 38, 312, 51, 52, 53, 313, 314, 315, 316, 317, 318, 319, 320, 321, 322, 323, 324, 325, 235, 236, 237, 238, 239, 240, 488, 489, 490, 491, 492, 493, 500, 501, 502, 503, 504, 505, 506, 507] (by decide +kernel) (by decide +kernel)) (goodIn_sub (fun _ h => List.mem_append_right _ h) (by decide +kernel))
set_option maxRecDepth 20000 in
theorem gL_law_X3_flowerAt : GoodIn wsL_law (wsV RL 108 RX3 yX3_flowerAt wsX3_flowerAt) := goodIn_app (goodIn_of _ (by decide +kernel)) ggL_law_X3_flowerAt
set_option maxRecDepth 20000 in
theorem ggL_law_X3_meltedFor : GoodIn wsL_law wsX3_meltedFor := goodIn_ca (goodIn_r _ [389, 18, 107, 108, 109, 2, 110, 111, 112, 113, 114, 115, 17, 116, 48, 117, 118, 119, 120, 49, 121, 122, 123, 124, 33, 488, 489, 490, 491, 492, 493, 500, 501, 502, 503, 504, 505] (by decide +kernel) (by decide +kernel)) (goodIn_sub (fun _ h => List.mem_append_right _ h) (by decide +kernel))
set_option maxRecDepth 20000 in
theorem gL_law_X3_meltedFor : GoodIn wsL_law (wsV RL 111 RX3 yX3_meltedFor wsX3_meltedFor) := goodIn_app (goodIn_of _ (by decide +kernel)) ggL_law_X3_meltedFor
set_option maxRecDepth 20000 in
theorem ggL_law_X3_willFreeze : GoodIn wsL_law wsX3_willFreeze := goodIn_ca (goodIn_r _ [401, 18, 27, 158, 107, 108, 109, 2, 110, 111, 112, 113, 114, 115, 17, 116, 48, 117, 118, 119, 120, 49, 205, 206, 207, 26, 208, 42, 209, 160, 161, 162, 58, 210, 211, 212, 213, 43, 402, 403, 404, 405, 218, 219, 220, 221, 222, 223, 224, 225, 226, 134, 135, 136, 137, 31, 227, 228, 229, 230, 171, 131, 132, 133, 231, 232, 233, 234, 235, 236, 237, 238, 239, 240, 241, 122, 123, 124, 33, 488, 489, 490, 491, 492, 493, 500, 501, 502, 503, 504, 505, 508, 509, 510] (by decide +kernel) (by decide +kernel)) (goodIn_sub (fun _ h => List.mem_append_right _ h) (by decide +kernel))
set_option maxRecDepth 20000 in
theorem gL_law_X3_willFreeze : GoodIn wsL_law (wsV RL 114 RX3 yX3_willFreeze wsX3_willFreeze) := goodIn_app (goodIn_of _ (by decide +kernel)) ggL_law_X3_willFreeze
set_option maxRecDepth 20000 in
theorem ggL_law_X3_breath : GoodIn wsL_law wsX3_breath := goodIn_r _ [286, 158, 488, 489, 490, 491, 492, 493] (by decide +kernel) (by decide +kernel)
set_option maxRecDepth 20000 in
theorem gL_law_X3_breath : GoodIn wsL_law (wsV RL 117 RX3 yX3_breath wsX3_breath) := goodIn_app (goodIn_of _ (by decide +kernel)) ggL_law_X3_breath
set_option maxRecDepth 20000 in
theorem ggL_law_X3_frozenInRow : GoodIn wsL_law wsX3_frozenInRow := goodIn_ca (goodIn_r _ [378, 111, 112, 18, 379, 118, 119, 17, 120, 49, 380, 135, 136, 137, 31, 381, 235, 236, 237, 238, 239, 240, 488, 489, 490, 491, 492, 493, 500, 501, 502, 503, 504, 505] (by decide +kernel) (by decide +kernel)) (goodIn_sub (fun _ h => List.mem_append_right _ h) (by decide +kernel))
set_option maxRecDepth 20000 in
theorem gL_law_X3_frozenInRow : GoodIn wsL_law (wsV RL 119 RX3 yX3_frozenInRow wsX3_frozenInRow) := goodIn_app (goodIn_of _ (by decide +kernel)) ggL_law_X3_frozenInRow
set_option maxRecDepth 20000 in
theorem ggL_law_X3_frozen : GoodIn wsL_law wsX3_frozen := goodIn_r _ [290, 18, 250, 251, 252, 17, 253, 49, 134, 135, 136, 137, 31, 234, 235, 236, 237, 238, 239, 240, 488, 489, 490, 491, 492, 493, 500, 501, 502, 503, 504, 505] (by decide +kernel) (by decide +kernel)
set_option maxRecDepth 20000 in
theorem gL_law_X3_frozen : GoodIn wsL_law (wsV RL 122 RX3 yX3_frozen wsX3_frozen) := goodIn_app (goodIn_of _ (by decide +kernel)) ggL_law_X3_frozen
set_option maxRecDepth 20000 in
theorem ggL_law_X3_melted : GoodIn wsL_law wsX3_melted := goodIn_r _ [294, 18, 295, 296, 297, 17, 298, 33, 488, 489, 490, 491, 492, 493, 500, 501, 502, 503, 504, 505] (by decide +kernel) (by decide +kernel)
set_option maxRecDepth 20000 in
theorem gL_law_X3_melted : GoodIn wsL_law (wsV RL 123 RX3 yX3_melted wsX3_melted) := goodIn_app (goodIn_of _ (by decide +kernel)) ggL_law_X3_melted
set_option maxRecDepth 20000 in
theorem ggL_law_X3_meanInRows : GoodIn wsL_law wsX3_meanInRows := goodIn_r _ [423, 18, 250, 251, 252, 17, 253, 49, 134, 135, 136, 137, 31, 234, 235, 236, 237, 238, 239, 240, 488, 489, 490, 491, 492, 493, 500, 501, 502, 503, 504, 505] (by decide +kernel) (by decide +kernel)
set_option maxRecDepth 20000 in
theorem gL_law_X3_meanInRows : GoodIn wsL_law (wsV RL 126 RX3 yX3_meanInRows wsX3_meanInRows) := goodIn_app (goodIn_of _ (by decide +kernel)) ggL_law_X3_meanInRows
set_option maxRecDepth 20000 in
theorem ggL_law_X3_flowers : GoodIn wsL_law wsX3_flowers := goodIn_r _ [302, 23, 18, 303, 304, 305, 22, 306, 37, 307, 135, 136, 17, 137, 31, 308, 309, 310, 311, 38, 312, 51, 52, 53, 313, 314, 315, 316, 317, 318, 319, 320, 321, 322, 323, 324, 325, 235, 236, 237, 238, 239, 240, 488, 489, 490, 491, 492, 493, 500, 501, 502, 503, 504, 505, 506, 507] (by decide +kernel) (by decide +kernel)
set_option maxRecDepth 20000 in
theorem gL_law_X3_flowers : GoodIn wsL_law (wsV RL 130 RX3 yX3_flowers wsX3_flowers) := goodIn_app (goodIn_of _ (by decide +kernel)) ggL_law_X3_flowers
set_option maxRecDepth 20000 in
theorem ggL_law_X3_largestFlower : GoodIn wsL_law wsX3_largestFlower := goodIn_r _ [329, 23, 18, 330, 331, 179, 332, 303, 304, 305, 22, 306, 37, 307, 135, 136, 17, 137, 31, 308, 309, 310, 311, 38, 312, 51, 52, 53, 313, 314, 315, 316, 317, 318, 319, 320, 321, 322, 323, 324, 325, 235, 236, 237, 238, 239, 240, 488, 489, 490, 491, 492, 493, 500, 501, 502, 503, 504, 505, 506, 507] (by decide +kernel) (by decide +kernel)
set_option maxRecDepth 20000 in
theorem gL_law_X3_largestFlower : GoodIn wsL_law (wsV RL 133 RX3 yX3_largestFlower wsX3_largestFlower) := goodIn_app (goodIn_of _ (by decide +kernel)) ggL_law_X3_largestFlower
set_option maxRecDepth 20000 in
theorem ggL_law_X3_comesAgainIn : GoodIn wsL_law wsX3_comesAgainIn := goodIn_r _ [343, 19, 18, 27, 158, 344, 345, 346, 17, 347, 48, 49, 226, 31, 348, 349, 179, 350, 351, 352, 353, 354, 33, 205, 206, 207, 26, 208, 42, 209, 160, 161, 162, 58, 210, 211, 212, 213, 43, 214, 215, 216, 217, 32, 218, 219, 220, 221, 222, 223, 224, 225, 117, 118, 119, 120, 134, 135, 136, 137, 227, 228, 229, 230, 171, 131, 132, 133, 231, 232, 233, 234, 235, 236, 237, 238, 239, 240, 241, 122, 123, 124, 242, 243, 244, 245, 246, 247, 248, 249, 355, 356, 357, 358, 488, 489, 490, 491, 492, 493, 500, 501, 502, 503, 504, 505, 508, 509, 510] (by decide +kernel) (by decide +kernel)
set_option maxRecDepth 20000 in
theorem gL_law_X3_comesAgainIn : GoodIn wsL_law (wsV RL 136 RX3 yX3_comesAgainIn wsX3_comesAgainIn) := goodIn_app (goodIn_of _ (by decide +kernel)) ggL_law_X3_comesAgainIn
set_option maxRecDepth 20000 in
theorem ggL_law_X3_standsStillIn : GoodIn wsL_law wsX3_standsStillIn := goodIn_r _ [362, 19, 18, 27, 158, 344, 345, 346, 17, 347, 48, 49, 226, 31, 348, 349, 179, 350, 351, 352, 353, 354, 33, 295, 296, 297, 298, 205, 206, 207, 26, 208, 42, 209, 160, 161, 162, 58, 210, 211, 212, 213, 43, 214, 215, 216, 217, 32, 218, 219, 220, 221, 222, 223, 224, 225, 117, 118, 119, 120, 134, 135, 136, 137, 227, 228, 229, 230, 171, 131, 132, 133, 231, 232, 233, 234, 235, 236, 237, 238, 239, 240, 241, 122, 123, 124, 242, 243, 244, 245, 246, 247, 248, 249, 488, 489, 490, 491, 492, 493, 500, 501, 502, 503, 504, 505, 508, 509, 510] (by decide +kernel) (by decide +kernel)
set_option maxRecDepth 20000 in
theorem gL_law_X3_standsStillIn : GoodIn wsL_law (wsV RL 139 RX3 yX3_standsStillIn wsX3_standsStillIn) := goodIn_app (goodIn_of _ (by decide +kernel)) ggL_law_X3_standsStillIn
set_option maxRecDepth 20000 in
theorem ggL_law_L_below : GoodIn wsL_law wsL_below := goodIn_r _ [82, 83] (by decide +kernel) (by decide +kernel)
set_option maxRecDepth 20000 in
theorem gL_law_L_below : GoodIn wsL_law (va_wsS RL 15 yL_below wsL_below) := goodIn_app (goodIn_of _ (by decide +kernel)) ggL_law_L_below
set_option maxRecDepth 20000 in
theorem ggL_law_X3_peakIn : GoodIn wsL_law wsX3_peakIn := goodIn_ca (goodIn_r _ [431, 19, 18, 27, 158, 92, 93, 2, 94, 95, 96, 344, 345, 346, 17, 347, 48, 49, 226, 31, 348, 349, 179, 350, 351, 352, 353, 354, 33, 250, 251, 252, 253, 134, 135, 136, 137, 234, 235, 236, 237, 238, 239, 240, 205, 206, 207, 26, 208, 42, 209, 160, 161, 162, 58, 210, 211, 212, 213, 43, 214, 215, 216, 217, 32, 218, 219, 220, 221, 222, 223, 224, 225, 117, 118, 119, 120, 227, 228, 229, 230, 171, 131, 132, 133, 231, 232, 233, 241, 122, 123, 124, 242, 243, 244, 245, 246, 247, 248, 249, 488, 489, 490, 491, 492, 493, 500, 501, 502, 503, 504, 505, 508, 509, 510] (by decide +kernel) (by decide +kernel)) (goodIn_sub (fun _ h => List.mem_append_left _ (List.mem_append_left _ (List.mem_append_right _ h))) (by decide +kernel))
set_option maxRecDepth 20000 in
theorem gL_law_X3_peakIn : GoodIn wsL_law (wsV RL 142 RX3 yX3_peakIn wsX3_peakIn) := goodIn_app (goodIn_of _ (by decide +kernel)) ggL_law_X3_peakIn
set_option maxRecDepth 20000 in
theorem ggL_law_X3_bestBreath : GoodIn wsL_law wsX3_bestBreath := goodIn_ca (goodIn_r _ [366, 27, 92, 93, 2, 94, 95, 96, 367, 368, 369, 370, 19, 18, 344, 345, 346, 17, 347, 48, 49, 226, 31, 348, 349, 179, 350, 351, 352, 353, 354, 33, 205, 206, 207, 26, 208, 42, 209, 160, 161, 162, 58, 210, 211, 212, 213, 43, 214, 215, 216, 217, 32, 218, 219, 220, 221, 222, 223, 224, 225, 117, 118, 119, 120, 134, 135, 136, 137, 227, 228, 229, 230, 171, 131, 132, 133, 231, 232, 233, 234, 235, 236, 237, 238, 239, 240, 241, 122, 123, 124, 242, 243, 244, 245, 246, 247, 248, 249, 250, 251, 252, 253, 488, 489, 490, 491, 492, 493, 508, 509, 510, 500, 501, 502, 503, 504, 505] (by decide +kernel) (by decide +kernel)) (goodIn_sub (fun _ h => List.mem_append_left _ (List.mem_append_left _ (List.mem_append_right _ h))) (by decide +kernel))
set_option maxRecDepth 20000 in
theorem gL_law_X3_bestBreath : GoodIn wsL_law (wsV RL 145 RX3 yX3_bestBreath wsX3_bestBreath) := goodIn_app (goodIn_of _ (by decide +kernel)) ggL_law_X3_bestBreath
set_option maxRecDepth 20000 in
theorem ggL_law_X3_rules : GoodIn wsL_law wsX3_rules := goodIn_r _ [282, 27, 488, 489, 490, 491, 492, 493, 508, 509, 510] (by decide +kernel) (by decide +kernel)
set_option maxRecDepth 20000 in
theorem gL_law_X3_rules : GoodIn wsL_law (wsV RL 148 RX3 yX3_rules wsX3_rules) := goodIn_app (goodIn_of _ (by decide +kernel)) ggL_law_X3_rules
set_option maxRecDepth 20000 in
theorem ggL_law_L_behind : GoodIn wsL_law wsL_behind := goodIn_r _ [436, 8, 437, 438, 439, 65, 440, 441, 64, 71, 442, 443, 444, 445, 446, 447, 73, 448, 449, 450, 74, 195, 185, 190, 75, 451, 67, 68, 69, 13, 14, 70, 5, 72, 3, 452, 85, 86, 87, 181, 182, 183, 184, 186, 187, 188, 189, 191, 192, 193, 194, 196, 197, 198, 199, 494, 495, 496, 497, 498, 499] (by decide +kernel) (by decide +kernel)
set_option maxRecDepth 20000 in
theorem gL_law_L_behind : GoodIn wsL_law (va_wsS RL 150 yL_behind wsL_behind) := goodIn_app (goodIn_of _ (by decide +kernel)) ggL_law_L_behind
set_option maxRecDepth 20000 in
theorem ggL_law_X4_isLike : GoodIn wsL_law wsX4_isLike := goodIn_r _ [456, 71, 73, 494, 495, 496, 497, 498, 499] (by decide +kernel) (by decide +kernel)
set_option maxRecDepth 20000 in
theorem gL_law_X4_isLike : GoodIn wsL_law (wsV RL 154 RX4 yX4_isLike wsX4_isLike) := goodIn_app (goodIn_of _ (by decide +kernel)) ggL_law_X4_isLike
set_option maxRecDepth 20000 in
theorem ggL_law_X4_frozen : GoodIn wsL_law wsX4_frozen := goodIn_r _ [257, 71, 494, 495, 496, 497, 498, 499] (by decide +kernel) (by decide +kernel)
set_option maxRecDepth 20000 in
theorem gL_law_X4_frozen : GoodIn wsL_law (wsV RL 58 RX4 yX4_frozen wsX4_frozen) := goodIn_app (goodIn_of _ (by decide +kernel)) ggL_law_X4_frozen
set_option maxRecDepth 20000 in
theorem ggL_law_X4_grow : GoodIn wsL_law wsX4_grow := goodIn_r _ [184, 71, 70, 5, 73, 185, 186, 187, 188, 65, 189, 75, 190, 191, 192, 193, 194, 195, 196, 197, 198, 199, 494, 495, 496, 497, 498, 499] (by decide +kernel) (by decide +kernel)
set_option maxRecDepth 20000 in
theorem gL_law_X4_grow : GoodIn wsL_law (wsV RL 53 RX4 yX4_grow wsX4_grow) := goodIn_app (goodIn_of _ (by decide +kernel)) ggL_law_X4_grow
set_option maxRecDepth 20000 in
theorem ggL_law_X3_grow : GoodIn wsL_law wsX3_grow := goodIn_ca (goodIn_r _ [203, 18, 27, 158, 204, 92, 93, 2, 94, 95, 96, 205, 206, 207, 26, 208, 42, 209, 160, 161, 162, 58, 210, 211, 212, 213, 43, 214, 215, 216, 17, 217, 49, 32, 218, 219, 220, 221, 48, 222, 223, 224, 225, 226, 117, 118, 119, 120, 134, 135, 136, 137, 31, 227, 228, 229, 230, 171, 131, 132, 133, 231, 232, 233, 234, 235, 236, 237, 238, 239, 240, 241, 122, 123, 124, 33, 242, 243, 244, 245, 246, 247, 248, 249, 250, 251, 252, 253, 488, 489, 490, 491, 492, 493, 508, 509, 510, 500, 501, 502, 503, 504, 505] (by decide +kernel) (by decide +kernel)) (goodIn_sub (fun _ h => List.mem_append_left _ (List.mem_append_left _ (List.mem_append_right _ h))) (by decide +kernel))
set_option maxRecDepth 20000 in
theorem gL_law_X3_grow : GoodIn wsL_law (wsV RL 56 RX3 yX3_grow wsX3_grow) := goodIn_app (goodIn_of _ (by decide +kernel)) ggL_law_X3_grow
theorem dL_law_0 : decode cL_law 0 = .ok (.new 26, 3) := by decide +kernel
theorem dL_law_3 : decode cL_law 3 = .ok (.dup, 1) := by decide +kernel
theorem dL_law_4 : decode cL_law 4 = .ok (.invokespecial 86, 3) := by decide +kernel
theorem dL_law_7 : decode cL_law 7 = .ok (.astore_n 1, 1) := by decide +kernel
theorem dL_law_8 : decode cL_law 8 = .ok (.aload_n 1, 1) := by decide +kernel
theorem dL_law_9 : decode cL_law 9 = .ok (.aload_n 0, 1) := by decide +kernel
theorem dL_law_10 : decode cL_law 10 = .ok (.invokestatic 87, 3) := by decide +kernel
theorem dL_law_13 : decode cL_law 13 = .ok (.astore_n 2, 1) := by decide +kernel
theorem dL_law_14 : decode cL_law 14 = .ok (.aload_n 2, 1) := by decide +kernel
theorem dL_law_15 : decode cL_law 15 = .ok (.ifnonnull 5, 3) := by decide +kernel
theorem dL_law_18 : decode cL_law 18 = .ok (.iconst 0, 1) := by decide +kernel
theorem dL_law_19 : decode cL_law 19 = .ok (.ireturn, 1) := by decide +kernel
theorem dL_law_20 : decode cL_law 20 = .ok (.iconst 0, 1) := by decide +kernel
theorem dL_law_21 : decode cL_law 21 = .ok (.istore_n 3, 1) := by decide +kernel
theorem dL_law_22 : decode cL_law 22 = .ok (.iload_n 3, 1) := by decide +kernel
theorem dL_law_23 : decode cL_law 23 = .ok (.iconst 5, 1) := by decide +kernel
theorem dL_law_24 : decode cL_law 24 = .ok (.if_icmp .ge 1146, 3) := by decide +kernel
theorem dL_law_27 : decode cL_law 27 = .ok (.aload_n 0, 1) := by decide +kernel
theorem dL_law_28 : decode cL_law 28 = .ok (.iload_n 3, 1) := by decide +kernel
theorem dL_law_29 : decode cL_law 29 = .ok (.iconst 1, 1) := by decide +kernel
theorem dL_law_30 : decode cL_law 30 = .ok (.iadd, 1) := by decide +kernel
theorem dL_law_31 : decode cL_law 31 = .ok (.invokestatic 78, 3) := by decide +kernel
theorem dL_law_34 : decode cL_law 34 = .ok (.iconst 2, 1) := by decide +kernel
theorem dL_law_35 : decode cL_law 35 = .ok (.ishr, 1) := by decide +kernel
theorem dL_law_36 : decode cL_law 36 = .ok (.bipush 53, 2) := by decide +kernel
theorem dL_law_38 : decode cL_law 38 = .ok (.iload_n 3, 1) := by decide +kernel
theorem dL_law_39 : decode cL_law 39 = .ok (.imul, 1) := by decide +kernel
theorem dL_law_40 : decode cL_law 40 = .ok (.iadd, 1) := by decide +kernel
theorem dL_law_41 : decode cL_law 41 = .ok (.istore 4, 2) := by decide +kernel
theorem dL_law_43 : decode cL_law 43 = .ok (.iconst 0, 1) := by decide +kernel
theorem dL_law_44 : decode cL_law 44 = .ok (.istore 5, 2) := by decide +kernel
theorem dL_law_46 : decode cL_law 46 = .ok (.iload 5, 2) := by decide +kernel
theorem dL_law_48 : decode cL_law 48 = .ok (.iconst 3, 1) := by decide +kernel
theorem dL_law_49 : decode cL_law 49 = .ok (.if_icmp .ge 32, 3) := by decide +kernel
theorem dL_law_52 : decode cL_law 52 = .ok (.aload_n 1, 1) := by decide +kernel
theorem dL_law_53 : decode cL_law 53 = .ok (.aload_n 2, 1) := by decide +kernel
theorem dL_law_54 : decode cL_law 54 = .ok (.iload 4, 2) := by decide +kernel
theorem dL_law_56 : decode cL_law 56 = .ok (.iconst 3, 1) := by decide +kernel
theorem dL_law_57 : decode cL_law 57 = .ok (.iload 5, 2) := by decide +kernel
theorem dL_law_59 : decode cL_law 59 = .ok (.imul, 1) := by decide +kernel
theorem dL_law_60 : decode cL_law 60 = .ok (.ishr, 1) := by decide +kernel
theorem dL_law_61 : decode cL_law 61 = .ok (.bipush 29, 2) := by decide +kernel
theorem dL_law_63 : decode cL_law 63 = .ok (.iload 5, 2) := by decide +kernel
theorem dL_law_65 : decode cL_law 65 = .ok (.imul, 1) := by decide +kernel
theorem dL_law_66 : decode cL_law 66 = .ok (.iadd, 1) := by decide +kernel
theorem dL_law_67 : decode cL_law 67 = .ok (.invokestatic 82, 3) := by decide +kernel
theorem dL_law_70 : decode cL_law 70 = .ok (.ifCond .ne 5, 3) := by decide +kernel
theorem dL_law_73 : decode cL_law 73 = .ok (.iconst 0, 1) := by decide +kernel
theorem dL_law_74 : decode cL_law 74 = .ok (.ireturn, 1) := by decide +kernel
theorem dL_law_75 : decode cL_law 75 = .ok (.iinc 5 1, 3) := by decide +kernel
theorem dL_law_78 : decode cL_law 78 = .ok (.goto (-32), 3) := by decide +kernel
theorem dL_law_81 : decode cL_law 81 = .ok (.aload_n 1, 1) := by decide +kernel
theorem dL_law_82 : decode cL_law 82 = .ok (.invokevirtual 91, 3) := by decide +kernel
theorem dL_law_85 : decode cL_law 85 = .ok (.lstore 5, 2) := by decide +kernel
theorem dL_law_87 : decode cL_law 87 = .ok (.aload_n 1, 1) := by decide +kernel
theorem dL_law_88 : decode cL_law 88 = .ok (.invokevirtual 95, 3) := by decide +kernel
theorem dL_law_91 : decode cL_law 91 = .ok (.istore 7, 2) := by decide +kernel
theorem dL_law_93 : decode cL_law 93 = .ok (.aload_n 1, 1) := by decide +kernel
theorem dL_law_94 : decode cL_law 94 = .ok (.invokevirtual 98, 3) := by decide +kernel
theorem dL_law_97 : decode cL_law 97 = .ok (.istore 8, 2) := by decide +kernel
theorem dL_law_99 : decode cL_law 99 = .ok (.iconst 0, 1) := by decide +kernel
theorem dL_law_100 : decode cL_law 100 = .ok (.istore 9, 2) := by decide +kernel
theorem dL_law_102 : decode cL_law 102 = .ok (.iconst 0, 1) := by decide +kernel
theorem dL_law_103 : decode cL_law 103 = .ok (.istore 10, 2) := by decide +kernel
theorem dL_law_105 : decode cL_law 105 = .ok (.iload 7, 2) := by decide +kernel
theorem dL_law_107 : decode cL_law 107 = .ok (.iload 8, 2) := by decide +kernel
theorem dL_law_109 : decode cL_law 109 = .ok (.imul, 1) := by decide +kernel
theorem dL_law_110 : decode cL_law 110 = .ok (.iconst 1, 1) := by decide +kernel
theorem dL_law_111 : decode cL_law 111 = .ok (.iadd, 1) := by decide +kernel
theorem dL_law_112 : decode cL_law 112 = .ok (.newarray .int, 2) := by decide +kernel
theorem dL_law_114 : decode cL_law 114 = .ok (.astore 11, 2) := by decide +kernel
theorem dL_law_116 : decode cL_law 116 = .ok (.iload 8, 2) := by decide +kernel
theorem dL_law_118 : decode cL_law 118 = .ok (.iload 7, 2) := by decide +kernel
theorem dL_law_120 : decode cL_law 120 = .ok (.multianewarray 101 2, 4) := by decide +kernel
theorem dL_law_124 : decode cL_law 124 = .ok (.astore 12, 2) := by decide +kernel
theorem dL_law_126 : decode cL_law 126 = .ok (.iconst 0, 1) := by decide +kernel
theorem dL_law_127 : decode cL_law 127 = .ok (.istore 13, 2) := by decide +kernel
theorem dL_law_129 : decode cL_law 129 = .ok (.iload 13, 2) := by decide +kernel
theorem dL_law_131 : decode cL_law 131 = .ok (.iload 8, 2) := by decide +kernel
theorem dL_law_133 : decode cL_law 133 = .ok (.if_icmp .ge 335, 3) := by decide +kernel
theorem dL_law_136 : decode cL_law 136 = .ok (.iconst 0, 1) := by decide +kernel
theorem dL_law_137 : decode cL_law 137 = .ok (.istore 14, 2) := by decide +kernel
theorem dL_law_139 : decode cL_law 139 = .ok (.iconst 0, 1) := by decide +kernel
theorem dL_law_140 : decode cL_law 140 = .ok (.istore 15, 2) := by decide +kernel
theorem dL_law_142 : decode cL_law 142 = .ok (.iload 15, 2) := by decide +kernel
theorem dL_law_144 : decode cL_law 144 = .ok (.iload 7, 2) := by decide +kernel
theorem dL_law_146 : decode cL_law 146 = .ok (.if_icmp .ge 296, 3) := by decide +kernel
theorem dL_law_149 : decode cL_law 149 = .ok (.aload_n 1, 1) := by decide +kernel
theorem dL_law_150 : decode cL_law 150 = .ok (.iload 15, 2) := by decide +kernel
theorem dL_law_152 : decode cL_law 152 = .ok (.iload 13, 2) := by decide +kernel
theorem dL_law_154 : decode cL_law 154 = .ok (.invokevirtual 102, 3) := by decide +kernel
theorem dL_law_157 : decode cL_law 157 = .ok (.istore 16, 2) := by decide +kernel
theorem dL_law_159 : decode cL_law 159 = .ok (.aload_n 1, 1) := by decide +kernel
theorem dL_law_160 : decode cL_law 160 = .ok (.iload 15, 2) := by decide +kernel
theorem dL_law_162 : decode cL_law 162 = .ok (.iload 13, 2) := by decide +kernel
theorem dL_law_164 : decode cL_law 164 = .ok (.invokevirtual 105, 3) := by decide +kernel
theorem dL_law_167 : decode cL_law 167 = .ok (.istore 17, 2) := by decide +kernel
theorem dL_law_169 : decode cL_law 169 = .ok (.aload_n 1, 1) := by decide +kernel
theorem dL_law_170 : decode cL_law 170 = .ok (.iload 15, 2) := by decide +kernel
theorem dL_law_172 : decode cL_law 172 = .ok (.iload 13, 2) := by decide +kernel
theorem dL_law_174 : decode cL_law 174 = .ok (.invokevirtual 108, 3) := by decide +kernel
theorem dL_law_177 : decode cL_law 177 = .ok (.istore 18, 2) := by decide +kernel
theorem dL_law_179 : decode cL_law 179 = .ok (.iload 14, 2) := by decide +kernel
theorem dL_law_181 : decode cL_law 181 = .ok (.iload 16, 2) := by decide +kernel
theorem dL_law_183 : decode cL_law 183 = .ok (.ifCond .eq 7, 3) := by decide +kernel
theorem dL_law_186 : decode cL_law 186 = .ok (.iconst 1, 1) := by decide +kernel
theorem dL_law_187 : decode cL_law 187 = .ok (.goto 4, 3) := by decide +kernel
theorem dL_law_190 : decode cL_law 190 = .ok (.iconst 0, 1) := by decide +kernel
theorem dL_law_191 : decode cL_law 191 = .ok (.iadd, 1) := by decide +kernel
theorem dL_law_192 : decode cL_law 192 = .ok (.istore 14, 2) := by decide +kernel
theorem dL_law_194 : decode cL_law 194 = .ok (.iload 10, 2) := by decide +kernel
theorem dL_law_196 : decode cL_law 196 = .ok (.aload_n 1, 1) := by decide +kernel
theorem dL_law_197 : decode cL_law 197 = .ok (.iload 15, 2) := by decide +kernel
theorem dL_law_199 : decode cL_law 199 = .ok (.iload 13, 2) := by decide +kernel
theorem dL_law_201 : decode cL_law 201 = .ok (.invokevirtual 111, 3) := by decide +kernel
theorem dL_law_204 : decode cL_law 204 = .ok (.ifCond .le 7, 3) := by decide +kernel
theorem dL_law_207 : decode cL_law 207 = .ok (.iconst 1, 1) := by decide +kernel
theorem dL_law_208 : decode cL_law 208 = .ok (.goto 4, 3) := by decide +kernel
theorem dL_law_211 : decode cL_law 211 = .ok (.iconst 0, 1) := by decide +kernel
theorem dL_law_212 : decode cL_law 212 = .ok (.iadd, 1) := by decide +kernel
theorem dL_law_213 : decode cL_law 213 = .ok (.istore 10, 2) := by decide +kernel
theorem dL_law_215 : decode cL_law 215 = .ok (.aload 11, 2) := by decide +kernel
theorem dL_law_217 : decode cL_law 217 = .ok (.iload 18, 2) := by decide +kernel
theorem dL_law_219 : decode cL_law 219 = .ok (.dup2, 1) := by decide +kernel
theorem dL_law_220 : decode cL_law 220 = .ok (.iaload, 1) := by decide +kernel
theorem dL_law_221 : decode cL_law 221 = .ok (.iconst 1, 1) := by decide +kernel
theorem dL_law_222 : decode cL_law 222 = .ok (.iadd, 1) := by decide +kernel
theorem dL_law_223 : decode cL_law 223 = .ok (.iastore, 1) := by decide +kernel
theorem dL_law_224 : decode cL_law 224 = .ok (.aload 12, 2) := by decide +kernel
theorem dL_law_226 : decode cL_law 226 = .ok (.iload 13, 2) := by decide +kernel
theorem dL_law_228 : decode cL_law 228 = .ok (.aaload, 1) := by decide +kernel
theorem dL_law_229 : decode cL_law 229 = .ok (.iload 15, 2) := by decide +kernel
theorem dL_law_231 : decode cL_law 231 = .ok (.aload_n 1, 1) := by decide +kernel
theorem dL_law_232 : decode cL_law 232 = .ok (.iload 15, 2) := by decide +kernel
theorem dL_law_234 : decode cL_law 234 = .ok (.iload 13, 2) := by decide +kernel
theorem dL_law_236 : decode cL_law 236 = .ok (.invokevirtual 114, 3) := by decide +kernel
theorem dL_law_239 : decode cL_law 239 = .ok (.bastore, 1) := by decide +kernel
theorem dL_law_240 : decode cL_law 240 = .ok (.iload 16, 2) := by decide +kernel
theorem dL_law_242 : decode cL_law 242 = .ok (.ifCond .eq 14, 3) := by decide +kernel
theorem dL_law_245 : decode cL_law 245 = .ok (.aload_n 1, 1) := by decide +kernel
theorem dL_law_246 : decode cL_law 246 = .ok (.iload 15, 2) := by decide +kernel
theorem dL_law_248 : decode cL_law 248 = .ok (.iload 13, 2) := by decide +kernel
theorem dL_law_250 : decode cL_law 250 = .ok (.invokevirtual 111, 3) := by decide +kernel
theorem dL_law_253 : decode cL_law 253 = .ok (.ifCond .gt 43, 3) := by decide +kernel
theorem dL_law_256 : decode cL_law 256 = .ok (.iload 16, 2) := by decide +kernel
theorem dL_law_258 : decode cL_law 258 = .ok (.iload 18, 2) := by decide +kernel
theorem dL_law_260 : decode cL_law 260 = .ok (.ifCond .le 7, 3) := by decide +kernel
theorem dL_law_263 : decode cL_law 263 = .ok (.iconst 1, 1) := by decide +kernel
theorem dL_law_264 : decode cL_law 264 = .ok (.goto 4, 3) := by decide +kernel
theorem dL_law_267 : decode cL_law 267 = .ok (.iconst 0, 1) := by decide +kernel
theorem dL_law_268 : decode cL_law 268 = .ok (.if_icmp .ne 28, 3) := by decide +kernel
theorem dL_law_271 : decode cL_law 271 = .ok (.iload 17, 2) := by decide +kernel
theorem dL_law_273 : decode cL_law 273 = .ok (.ifCond .lt 23, 3) := by decide +kernel
theorem dL_law_276 : decode cL_law 276 = .ok (.iload 17, 2) := by decide +kernel
theorem dL_law_278 : decode cL_law 278 = .ok (.bipush 8, 2) := by decide +kernel
theorem dL_law_280 : decode cL_law 280 = .ok (.if_icmp .gt 16, 3) := by decide +kernel
theorem dL_law_283 : decode cL_law 283 = .ok (.aload_n 1, 1) := by decide +kernel
theorem dL_law_284 : decode cL_law 284 = .ok (.iload 15, 2) := by decide +kernel
theorem dL_law_286 : decode cL_law 286 = .ok (.iload 13, 2) := by decide +kernel
theorem dL_law_288 : decode cL_law 288 = .ok (.invokevirtual 111, 3) := by decide +kernel
theorem dL_law_291 : decode cL_law 291 = .ok (.bipush 9, 2) := by decide +kernel
theorem dL_law_293 : decode cL_law 293 = .ok (.if_icmp .le 5, 3) := by decide +kernel
theorem dL_law_296 : decode cL_law 296 = .ok (.iconst 0, 1) := by decide +kernel
theorem dL_law_297 : decode cL_law 297 = .ok (.ireturn, 1) := by decide +kernel
theorem dL_law_298 : decode cL_law 298 = .ok (.aload_n 1, 1) := by decide +kernel
theorem dL_law_299 : decode cL_law 299 = .ok (.iload 15, 2) := by decide +kernel
theorem dL_law_301 : decode cL_law 301 = .ok (.iload 13, 2) := by decide +kernel
theorem dL_law_303 : decode cL_law 303 = .ok (.invokevirtual 111, 3) := by decide +kernel
theorem dL_law_306 : decode cL_law 306 = .ok (.ifCond .ne 36, 3) := by decide +kernel
theorem dL_law_309 : decode cL_law 309 = .ok (.aload_n 2, 1) := by decide +kernel
theorem dL_law_310 : decode cL_law 310 = .ok (.getfield 31, 3) := by decide +kernel
theorem dL_law_313 : decode cL_law 313 = .ok (.aload_n 1, 1) := by decide +kernel
theorem dL_law_314 : decode cL_law 314 = .ok (.invokevirtual 117, 3) := by decide +kernel
theorem dL_law_317 : decode cL_law 317 = .ok (.aaload, 1) := by decide +kernel
theorem dL_law_318 : decode cL_law 318 = .ok (.iload 16, 2) := by decide +kernel
theorem dL_law_320 : decode cL_law 320 = .ok (.ifCond .eq 7, 3) := by decide +kernel
theorem dL_law_323 : decode cL_law 323 = .ok (.iconst 1, 1) := by decide +kernel
theorem dL_law_324 : decode cL_law 324 = .ok (.goto 4, 3) := by decide +kernel
theorem dL_law_327 : decode cL_law 327 = .ok (.iconst 0, 1) := by decide +kernel
theorem dL_law_328 : decode cL_law 328 = .ok (.iaload, 1) := by decide +kernel
theorem dL_law_329 : decode cL_law 329 = .ok (.iload 17, 2) := by decide +kernel
theorem dL_law_331 : decode cL_law 331 = .ok (.ishr, 1) := by decide +kernel
theorem dL_law_332 : decode cL_law 332 = .ok (.iconst 1, 1) := by decide +kernel
theorem dL_law_333 : decode cL_law 333 = .ok (.iand, 1) := by decide +kernel
theorem dL_law_334 : decode cL_law 334 = .ok (.iconst 1, 1) := by decide +kernel
theorem dL_law_335 : decode cL_law 335 = .ok (.if_icmp .ne 7, 3) := by decide +kernel
theorem dL_law_338 : decode cL_law 338 = .ok (.iconst 1, 1) := by decide +kernel
theorem dL_law_339 : decode cL_law 339 = .ok (.goto 4, 3) := by decide +kernel
theorem dL_law_342 : decode cL_law 342 = .ok (.iconst 0, 1) := by decide +kernel
theorem dL_law_343 : decode cL_law 343 = .ok (.istore 19, 2) := by decide +kernel
theorem dL_law_345 : decode cL_law 345 = .ok (.aload 12, 2) := by decide +kernel
theorem dL_law_347 : decode cL_law 347 = .ok (.iload 13, 2) := by decide +kernel
theorem dL_law_349 : decode cL_law 349 = .ok (.aaload, 1) := by decide +kernel
theorem dL_law_350 : decode cL_law 350 = .ok (.iload 15, 2) := by decide +kernel
theorem dL_law_352 : decode cL_law 352 = .ok (.baload, 1) := by decide +kernel
theorem dL_law_353 : decode cL_law 353 = .ok (.iload 19, 2) := by decide +kernel
theorem dL_law_355 : decode cL_law 355 = .ok (.if_icmp .ne 79, 3) := by decide +kernel
theorem dL_law_358 : decode cL_law 358 = .ok (.iload 15, 2) := by decide +kernel
theorem dL_law_360 : decode cL_law 360 = .ok (.ifCond .le 36, 3) := by decide +kernel
theorem dL_law_363 : decode cL_law 363 = .ok (.iload 16, 2) := by decide +kernel
theorem dL_law_365 : decode cL_law 365 = .ok (.ifCond .eq 31, 3) := by decide +kernel
theorem dL_law_368 : decode cL_law 368 = .ok (.aload_n 1, 1) := by decide +kernel
theorem dL_law_369 : decode cL_law 369 = .ok (.iload 15, 2) := by decide +kernel
theorem dL_law_371 : decode cL_law 371 = .ok (.iconst 1, 1) := by decide +kernel
theorem dL_law_372 : decode cL_law 372 = .ok (.isub, 1) := by decide +kernel
theorem dL_law_373 : decode cL_law 373 = .ok (.iload 13, 2) := by decide +kernel
theorem dL_law_375 : decode cL_law 375 = .ok (.invokevirtual 102, 3) := by decide +kernel
theorem dL_law_378 : decode cL_law 378 = .ok (.ifCond .eq 18, 3) := by decide +kernel
theorem dL_law_381 : decode cL_law 381 = .ok (.aload_n 1, 1) := by decide +kernel
theorem dL_law_382 : decode cL_law 382 = .ok (.iload 15, 2) := by decide +kernel
theorem dL_law_384 : decode cL_law 384 = .ok (.iconst 1, 1) := by decide +kernel
theorem dL_law_385 : decode cL_law 385 = .ok (.isub, 1) := by decide +kernel
theorem dL_law_386 : decode cL_law 386 = .ok (.iload 13, 2) := by decide +kernel
theorem dL_law_388 : decode cL_law 388 = .ok (.invokevirtual 108, 3) := by decide +kernel
theorem dL_law_391 : decode cL_law 391 = .ok (.iload 18, 2) := by decide +kernel
theorem dL_law_393 : decode cL_law 393 = .ok (.if_icmp .ne 41, 3) := by decide +kernel
theorem dL_law_396 : decode cL_law 396 = .ok (.iload 13, 2) := by decide +kernel
theorem dL_law_398 : decode cL_law 398 = .ok (.ifCond .le 38, 3) := by decide +kernel
theorem dL_law_401 : decode cL_law 401 = .ok (.iload 16, 2) := by decide +kernel
theorem dL_law_403 : decode cL_law 403 = .ok (.ifCond .eq 33, 3) := by decide +kernel
theorem dL_law_406 : decode cL_law 406 = .ok (.aload_n 1, 1) := by decide +kernel
theorem dL_law_407 : decode cL_law 407 = .ok (.iload 15, 2) := by decide +kernel
theorem dL_law_409 : decode cL_law 409 = .ok (.iload 13, 2) := by decide +kernel
theorem dL_law_411 : decode cL_law 411 = .ok (.iconst 1, 1) := by decide +kernel
theorem dL_law_412 : decode cL_law 412 = .ok (.isub, 1) := by decide +kernel
theorem dL_law_413 : decode cL_law 413 = .ok (.invokevirtual 102, 3) := by decide +kernel
theorem dL_law_416 : decode cL_law 416 = .ok (.ifCond .eq 20, 3) := by decide +kernel
theorem dL_law_419 : decode cL_law 419 = .ok (.aload_n 1, 1) := by decide +kernel
theorem dL_law_420 : decode cL_law 420 = .ok (.iload 15, 2) := by decide +kernel
theorem dL_law_422 : decode cL_law 422 = .ok (.iload 13, 2) := by decide +kernel
theorem dL_law_424 : decode cL_law 424 = .ok (.iconst 1, 1) := by decide +kernel
theorem dL_law_425 : decode cL_law 425 = .ok (.isub, 1) := by decide +kernel
theorem dL_law_426 : decode cL_law 426 = .ok (.invokevirtual 108, 3) := by decide +kernel
theorem dL_law_429 : decode cL_law 429 = .ok (.iload 18, 2) := by decide +kernel
theorem dL_law_431 : decode cL_law 431 = .ok (.if_icmp .eq 5, 3) := by decide +kernel
theorem dL_law_434 : decode cL_law 434 = .ok (.iconst 0, 1) := by decide +kernel
theorem dL_law_435 : decode cL_law 435 = .ok (.ireturn, 1) := by decide +kernel
theorem dL_law_436 : decode cL_law 436 = .ok (.iinc 15 1, 3) := by decide +kernel
theorem dL_law_439 : decode cL_law 439 = .ok (.goto (-297), 3) := by decide +kernel
theorem dL_law_442 : decode cL_law 442 = .ok (.iload 9, 2) := by decide +kernel
theorem dL_law_444 : decode cL_law 444 = .ok (.iload 14, 2) := by decide +kernel
theorem dL_law_446 : decode cL_law 446 = .ok (.iadd, 1) := by decide +kernel
theorem dL_law_447 : decode cL_law 447 = .ok (.istore 9, 2) := by decide +kernel
theorem dL_law_449 : decode cL_law 449 = .ok (.iload 14, 2) := by decide +kernel
theorem dL_law_451 : decode cL_law 451 = .ok (.aload_n 1, 1) := by decide +kernel
theorem dL_law_452 : decode cL_law 452 = .ok (.iload 13, 2) := by decide +kernel
theorem dL_law_454 : decode cL_law 454 = .ok (.invokevirtual 119, 3) := by decide +kernel
theorem dL_law_457 : decode cL_law 457 = .ok (.if_icmp .eq 5, 3) := by decide +kernel
theorem dL_law_460 : decode cL_law 460 = .ok (.iconst 0, 1) := by decide +kernel
theorem dL_law_461 : decode cL_law 461 = .ok (.ireturn, 1) := by decide +kernel
theorem dL_law_462 : decode cL_law 462 = .ok (.iinc 13 1, 3) := by decide +kernel
theorem dL_law_465 : decode cL_law 465 = .ok (.goto (-336), 3) := by decide +kernel
theorem dL_law_468 : decode cL_law 468 = .ok (.iload 9, 2) := by decide +kernel
theorem dL_law_470 : decode cL_law 470 = .ok (.aload_n 1, 1) := by decide +kernel
theorem dL_law_471 : decode cL_law 471 = .ok (.invokevirtual 122, 3) := by decide +kernel
theorem dL_law_474 : decode cL_law 474 = .ok (.if_icmp .ne 27, 3) := by decide +kernel
theorem dL_law_477 : decode cL_law 477 = .ok (.iload 10, 2) := by decide +kernel
theorem dL_law_479 : decode cL_law 479 = .ok (.aload_n 1, 1) := by decide +kernel
theorem dL_law_480 : decode cL_law 480 = .ok (.invokevirtual 123, 3) := by decide +kernel
theorem dL_law_483 : decode cL_law 483 = .ok (.if_icmp .ne 18, 3) := by decide +kernel
theorem dL_law_486 : decode cL_law 486 = .ok (.aload_n 1, 1) := by decide +kernel
theorem dL_law_487 : decode cL_law 487 = .ok (.invokevirtual 126, 3) := by decide +kernel
theorem dL_law_490 : decode cL_law 490 = .ok (.iload 9, 2) := by decide +kernel
theorem dL_law_492 : decode cL_law 492 = .ok (.i2d, 1) := by decide +kernel
theorem dL_law_493 : decode cL_law 493 = .ok (.iload 8, 2) := by decide +kernel
theorem dL_law_495 : decode cL_law 495 = .ok (.i2d, 1) := by decide +kernel
theorem dL_law_496 : decode cL_law 496 = .ok (.ddiv, 1) := by decide +kernel
theorem dL_law_497 : decode cL_law 497 = .ok (.dcmp .l, 1) := by decide +kernel
theorem dL_law_498 : decode cL_law 498 = .ok (.ifCond .eq 5, 3) := by decide +kernel
theorem dL_law_501 : decode cL_law 501 = .ok (.iconst 0, 1) := by decide +kernel
theorem dL_law_502 : decode cL_law 502 = .ok (.ireturn, 1) := by decide +kernel
theorem dL_law_503 : decode cL_law 503 = .ok (.iconst 0, 1) := by decide +kernel
theorem dL_law_504 : decode cL_law 504 = .ok (.istore 13, 2) := by decide +kernel
theorem dL_law_506 : decode cL_law 506 = .ok (.iconst 0, 1) := by decide +kernel
theorem dL_law_507 : decode cL_law 507 = .ok (.istore 14, 2) := by decide +kernel
theorem dL_law_509 : decode cL_law 509 = .ok (.iconst 1, 1) := by decide +kernel
theorem dL_law_510 : decode cL_law 510 = .ok (.istore 15, 2) := by decide +kernel
theorem dL_law_512 : decode cL_law 512 = .ok (.iload 15, 2) := by decide +kernel
theorem dL_law_514 : decode cL_law 514 = .ok (.iload 7, 2) := by decide +kernel
theorem dL_law_516 : decode cL_law 516 = .ok (.iload 8, 2) := by decide +kernel
theorem dL_law_518 : decode cL_law 518 = .ok (.imul, 1) := by decide +kernel
theorem dL_law_519 : decode cL_law 519 = .ok (.if_icmp .gt 52, 3) := by decide +kernel
theorem dL_law_522 : decode cL_law 522 = .ok (.aload 11, 2) := by decide +kernel
theorem dL_law_524 : decode cL_law 524 = .ok (.iload 15, 2) := by decide +kernel
theorem dL_law_526 : decode cL_law 526 = .ok (.iaload, 1) := by decide +kernel
theorem dL_law_527 : decode cL_law 527 = .ok (.iload 15, 2) := by decide +kernel
theorem dL_law_529 : decode cL_law 529 = .ok (.irem, 1) := by decide +kernel
theorem dL_law_530 : decode cL_law 530 = .ok (.ifCond .eq 5, 3) := by decide +kernel
theorem dL_law_533 : decode cL_law 533 = .ok (.iconst 0, 1) := by decide +kernel
theorem dL_law_534 : decode cL_law 534 = .ok (.ireturn, 1) := by decide +kernel
theorem dL_law_535 : decode cL_law 535 = .ok (.iload 13, 2) := by decide +kernel
theorem dL_law_537 : decode cL_law 537 = .ok (.aload 11, 2) := by decide +kernel
theorem dL_law_539 : decode cL_law 539 = .ok (.iload 15, 2) := by decide +kernel
theorem dL_law_541 : decode cL_law 541 = .ok (.iaload, 1) := by decide +kernel
theorem dL_law_542 : decode cL_law 542 = .ok (.iload 15, 2) := by decide +kernel
theorem dL_law_544 : decode cL_law 544 = .ok (.idiv, 1) := by decide +kernel
theorem dL_law_545 : decode cL_law 545 = .ok (.iadd, 1) := by decide +kernel
theorem dL_law_546 : decode cL_law 546 = .ok (.istore 13, 2) := by decide +kernel
theorem dL_law_548 : decode cL_law 548 = .ok (.aload 11, 2) := by decide +kernel
theorem dL_law_550 : decode cL_law 550 = .ok (.iload 15, 2) := by decide +kernel
theorem dL_law_552 : decode cL_law 552 = .ok (.iaload, 1) := by decide +kernel
theorem dL_law_553 : decode cL_law 553 = .ok (.ifCond .le 8, 3) := by decide +kernel
theorem dL_law_556 : decode cL_law 556 = .ok (.iload 15, 2) := by decide +kernel
theorem dL_law_558 : decode cL_law 558 = .ok (.goto 5, 3) := by decide +kernel
theorem dL_law_561 : decode cL_law 561 = .ok (.iload 14, 2) := by decide +kernel
theorem dL_law_563 : decode cL_law 563 = .ok (.istore 14, 2) := by decide +kernel
theorem dL_law_565 : decode cL_law 565 = .ok (.iinc 15 1, 3) := by decide +kernel
theorem dL_law_568 : decode cL_law 568 = .ok (.goto (-56), 3) := by decide +kernel
theorem dL_law_571 : decode cL_law 571 = .ok (.iload 13, 2) := by decide +kernel
theorem dL_law_573 : decode cL_law 573 = .ok (.aload_n 1, 1) := by decide +kernel
theorem dL_law_574 : decode cL_law 574 = .ok (.invokevirtual 130, 3) := by decide +kernel
theorem dL_law_577 : decode cL_law 577 = .ok (.if_icmp .ne 12, 3) := by decide +kernel
theorem dL_law_580 : decode cL_law 580 = .ok (.iload 14, 2) := by decide +kernel
theorem dL_law_582 : decode cL_law 582 = .ok (.aload_n 1, 1) := by decide +kernel
theorem dL_law_583 : decode cL_law 583 = .ok (.invokevirtual 133, 3) := by decide +kernel
theorem dL_law_586 : decode cL_law 586 = .ok (.if_icmp .eq 5, 3) := by decide +kernel
theorem dL_law_589 : decode cL_law 589 = .ok (.iconst 0, 1) := by decide +kernel
theorem dL_law_590 : decode cL_law 590 = .ok (.ireturn, 1) := by decide +kernel
theorem dL_law_591 : decode cL_law 591 = .ok (.iconst 0, 1) := by decide +kernel
theorem dL_law_592 : decode cL_law 592 = .ok (.istore 15, 2) := by decide +kernel
theorem dL_law_594 : decode cL_law 594 = .ok (.iconst 0, 1) := by decide +kernel
theorem dL_law_595 : decode cL_law 595 = .ok (.istore 16, 2) := by decide +kernel
theorem dL_law_597 : decode cL_law 597 = .ok (.iconst 0, 1) := by decide +kernel
theorem dL_law_598 : decode cL_law 598 = .ok (.istore 17, 2) := by decide +kernel
theorem dL_law_600 : decode cL_law 600 = .ok (.iload 17, 2) := by decide +kernel
theorem dL_law_602 : decode cL_law 602 = .ok (.iload 8, 2) := by decide +kernel
theorem dL_law_604 : decode cL_law 604 = .ok (.if_icmp .ge 138, 3) := by decide +kernel
theorem dL_law_607 : decode cL_law 607 = .ok (.iconst 0, 1) := by decide +kernel
theorem dL_law_608 : decode cL_law 608 = .ok (.istore 18, 2) := by decide +kernel
theorem dL_law_610 : decode cL_law 610 = .ok (.iload 18, 2) := by decide +kernel
theorem dL_law_612 : decode cL_law 612 = .ok (.iload 7, 2) := by decide +kernel
theorem dL_law_614 : decode cL_law 614 = .ok (.if_icmp .ge 122, 3) := by decide +kernel
theorem dL_law_617 : decode cL_law 617 = .ok (.iload 15, 2) := by decide +kernel
theorem dL_law_619 : decode cL_law 619 = .ok (.aload_n 1, 1) := by decide +kernel
theorem dL_law_620 : decode cL_law 620 = .ok (.iload 18, 2) := by decide +kernel
theorem dL_law_622 : decode cL_law 622 = .ok (.iload 17, 2) := by decide +kernel
theorem dL_law_624 : decode cL_law 624 = .ok (.invokevirtual 105, 3) := by decide +kernel
theorem dL_law_627 : decode cL_law 627 = .ok (.iadd, 1) := by decide +kernel
theorem dL_law_628 : decode cL_law 628 = .ok (.istore 15, 2) := by decide +kernel
theorem dL_law_630 : decode cL_law 630 = .ok (.iload 18, 2) := by decide +kernel
theorem dL_law_632 : decode cL_law 632 = .ok (.ifCond .le 16, 3) := by decide +kernel
theorem dL_law_635 : decode cL_law 635 = .ok (.iload 18, 2) := by decide +kernel
theorem dL_law_637 : decode cL_law 637 = .ok (.iload 7, 2) := by decide +kernel
theorem dL_law_639 : decode cL_law 639 = .ok (.iconst 1, 1) := by decide +kernel
theorem dL_law_640 : decode cL_law 640 = .ok (.isub, 1) := by decide +kernel
theorem dL_law_641 : decode cL_law 641 = .ok (.if_icmp .ge 7, 3) := by decide +kernel
theorem dL_law_644 : decode cL_law 644 = .ok (.iconst 3, 1) := by decide +kernel
theorem dL_law_645 : decode cL_law 645 = .ok (.goto 4, 3) := by decide +kernel
theorem dL_law_648 : decode cL_law 648 = .ok (.iconst 2, 1) := by decide +kernel
theorem dL_law_649 : decode cL_law 649 = .ok (.iload 17, 2) := by decide +kernel
theorem dL_law_651 : decode cL_law 651 = .ok (.ifCond .le 16, 3) := by decide +kernel
theorem dL_law_654 : decode cL_law 654 = .ok (.iload 17, 2) := by decide +kernel
theorem dL_law_656 : decode cL_law 656 = .ok (.iload 8, 2) := by decide +kernel
theorem dL_law_658 : decode cL_law 658 = .ok (.iconst 1, 1) := by decide +kernel
theorem dL_law_659 : decode cL_law 659 = .ok (.isub, 1) := by decide +kernel
theorem dL_law_660 : decode cL_law 660 = .ok (.if_icmp .ge 7, 3) := by decide +kernel
theorem dL_law_663 : decode cL_law 663 = .ok (.iconst 3, 1) := by decide +kernel
theorem dL_law_664 : decode cL_law 664 = .ok (.goto 4, 3) := by decide +kernel
theorem dL_law_667 : decode cL_law 667 = .ok (.iconst 2, 1) := by decide +kernel
theorem dL_law_668 : decode cL_law 668 = .ok (.imul, 1) := by decide +kernel
theorem dL_law_669 : decode cL_law 669 = .ok (.iconst 1, 1) := by decide +kernel
theorem dL_law_670 : decode cL_law 670 = .ok (.isub, 1) := by decide +kernel
theorem dL_law_671 : decode cL_law 671 = .ok (.istore 19, 2) := by decide +kernel
theorem dL_law_673 : decode cL_law 673 = .ok (.iload 16, 2) := by decide +kernel
theorem dL_law_675 : decode cL_law 675 = .ok (.aload_n 1, 1) := by decide +kernel
theorem dL_law_676 : decode cL_law 676 = .ok (.iload 18, 2) := by decide +kernel
theorem dL_law_678 : decode cL_law 678 = .ok (.iload 17, 2) := by decide +kernel
theorem dL_law_680 : decode cL_law 680 = .ok (.invokevirtual 102, 3) := by decide +kernel
theorem dL_law_683 : decode cL_law 683 = .ok (.ifCond .eq 21, 3) := by decide +kernel
theorem dL_law_686 : decode cL_law 686 = .ok (.aload_n 2, 1) := by decide +kernel
theorem dL_law_687 : decode cL_law 687 = .ok (.getfield 21, 3) := by decide +kernel
theorem dL_law_690 : decode cL_law 690 = .ok (.iconst 2, 1) := by decide +kernel
theorem dL_law_691 : decode cL_law 691 = .ok (.if_icmp .ne 8, 3) := by decide +kernel
theorem dL_law_694 : decode cL_law 694 = .ok (.bipush 8, 2) := by decide +kernel
theorem dL_law_696 : decode cL_law 696 = .ok (.goto 9, 3) := by decide +kernel
theorem dL_law_699 : decode cL_law 699 = .ok (.iload 19, 2) := by decide +kernel
theorem dL_law_701 : decode cL_law 701 = .ok (.goto 4, 3) := by decide +kernel
theorem dL_law_704 : decode cL_law 704 = .ok (.iconst 0, 1) := by decide +kernel
theorem dL_law_705 : decode cL_law 705 = .ok (.iadd, 1) := by decide +kernel
theorem dL_law_706 : decode cL_law 706 = .ok (.istore 16, 2) := by decide +kernel
theorem dL_law_708 : decode cL_law 708 = .ok (.iload 16, 2) := by decide +kernel
theorem dL_law_710 : decode cL_law 710 = .ok (.aload_n 2, 1) := by decide +kernel
theorem dL_law_711 : decode cL_law 711 = .ok (.getfield 21, 3) := by decide +kernel
theorem dL_law_714 : decode cL_law 714 = .ok (.iconst 1, 1) := by decide +kernel
theorem dL_law_715 : decode cL_law 715 = .ok (.if_icmp .ne 11, 3) := by decide +kernel
theorem dL_law_718 : decode cL_law 718 = .ok (.bipush 8, 2) := by decide +kernel
theorem dL_law_720 : decode cL_law 720 = .ok (.iload 19, 2) := by decide +kernel
theorem dL_law_722 : decode cL_law 722 = .ok (.isub, 1) := by decide +kernel
theorem dL_law_723 : decode cL_law 723 = .ok (.goto 4, 3) := by decide +kernel
theorem dL_law_726 : decode cL_law 726 = .ok (.iconst 0, 1) := by decide +kernel
theorem dL_law_727 : decode cL_law 727 = .ok (.iadd, 1) := by decide +kernel
theorem dL_law_728 : decode cL_law 728 = .ok (.istore 16, 2) := by decide +kernel
theorem dL_law_730 : decode cL_law 730 = .ok (.iinc 18 1, 3) := by decide +kernel
theorem dL_law_733 : decode cL_law 733 = .ok (.goto (-123), 3) := by decide +kernel
theorem dL_law_736 : decode cL_law 736 = .ok (.iinc 17 1, 3) := by decide +kernel
theorem dL_law_739 : decode cL_law 739 = .ok (.goto (-139), 3) := by decide +kernel
theorem dL_law_742 : decode cL_law 742 = .ok (.iload 15, 2) := by decide +kernel
theorem dL_law_744 : decode cL_law 744 = .ok (.iload 16, 2) := by decide +kernel
theorem dL_law_746 : decode cL_law 746 = .ok (.if_icmp .eq 5, 3) := by decide +kernel
theorem dL_law_749 : decode cL_law 749 = .ok (.iconst 0, 1) := by decide +kernel
theorem dL_law_750 : decode cL_law 750 = .ok (.ireturn, 1) := by decide +kernel
theorem dL_law_751 : decode cL_law 751 = .ok (.aload_n 1, 1) := by decide +kernel
theorem dL_law_752 : decode cL_law 752 = .ok (.invokevirtual 136, 3) := by decide +kernel
theorem dL_law_755 : decode cL_law 755 = .ok (.istore 17, 2) := by decide +kernel
theorem dL_law_757 : decode cL_law 757 = .ok (.aload_n 1, 1) := by decide +kernel
theorem dL_law_758 : decode cL_law 758 = .ok (.invokevirtual 139, 3) := by decide +kernel
theorem dL_law_761 : decode cL_law 761 = .ok (.istore 18, 2) := by decide +kernel
theorem dL_law_763 : decode cL_law 763 = .ok (.iconst 1, 1) := by decide +kernel
theorem dL_law_764 : decode cL_law 764 = .ok (.iload 4, 2) := by decide +kernel
theorem dL_law_766 : decode cL_law 766 = .ok (.iconst 4, 1) := by decide +kernel
theorem dL_law_767 : decode cL_law 767 = .ok (.ishr, 1) := by decide +kernel
theorem dL_law_768 : decode cL_law 768 = .ok (.bipush 30, 2) := by decide +kernel
theorem dL_law_770 : decode cL_law 770 = .ok (.invokestatic 15, 3) := by decide +kernel
theorem dL_law_773 : decode cL_law 773 = .ok (.iadd, 1) := by decide +kernel
theorem dL_law_774 : decode cL_law 774 = .ok (.istore 19, 2) := by decide +kernel
theorem dL_law_776 : decode cL_law 776 = .ok (.aload_n 1, 1) := by decide +kernel
theorem dL_law_777 : decode cL_law 777 = .ok (.iload 19, 2) := by decide +kernel
theorem dL_law_779 : decode cL_law 779 = .ok (.invokevirtual 142, 3) := by decide +kernel
theorem dL_law_782 : decode cL_law 782 = .ok (.istore 20, 2) := by decide +kernel
theorem dL_law_784 : decode cL_law 784 = .ok (.iload 4, 2) := by decide +kernel
theorem dL_law_786 : decode cL_law 786 = .ok (.iconst 5, 1) := by decide +kernel
theorem dL_law_787 : decode cL_law 787 = .ok (.ishr, 1) := by decide +kernel
theorem dL_law_788 : decode cL_law 788 = .ok (.iload 19, 2) := by decide +kernel
theorem dL_law_790 : decode cL_law 790 = .ok (.iconst 1, 1) := by decide +kernel
theorem dL_law_791 : decode cL_law 791 = .ok (.iadd, 1) := by decide +kernel
theorem dL_law_792 : decode cL_law 792 = .ok (.invokestatic 15, 3) := by decide +kernel
theorem dL_law_795 : decode cL_law 795 = .ok (.istore 21, 2) := by decide +kernel
theorem dL_law_797 : decode cL_law 797 = .ok (.iconst 1, 1) := by decide +kernel
theorem dL_law_798 : decode cL_law 798 = .ok (.iload 4, 2) := by decide +kernel
theorem dL_law_800 : decode cL_law 800 = .ok (.bipush 6, 2) := by decide +kernel
theorem dL_law_802 : decode cL_law 802 = .ok (.ishr, 1) := by decide +kernel
theorem dL_law_803 : decode cL_law 803 = .ok (.bipush 12, 2) := by decide +kernel
theorem dL_law_805 : decode cL_law 805 = .ok (.invokestatic 15, 3) := by decide +kernel
theorem dL_law_808 : decode cL_law 808 = .ok (.iadd, 1) := by decide +kernel
theorem dL_law_809 : decode cL_law 809 = .ok (.istore 22, 2) := by decide +kernel
theorem dL_law_811 : decode cL_law 811 = .ok (.aload_n 1, 1) := by decide +kernel
theorem dL_law_812 : decode cL_law 812 = .ok (.iload 22, 2) := by decide +kernel
theorem dL_law_814 : decode cL_law 814 = .ok (.invokevirtual 145, 3) := by decide +kernel
theorem dL_law_817 : decode cL_law 817 = .ok (.istore 23, 2) := by decide +kernel
theorem dL_law_819 : decode cL_law 819 = .ok (.iload 4, 2) := by decide +kernel
theorem dL_law_821 : decode cL_law 821 = .ok (.iconst 3, 1) := by decide +kernel
theorem dL_law_822 : decode cL_law 822 = .ok (.ishr, 1) := by decide +kernel
theorem dL_law_823 : decode cL_law 823 = .ok (.aload_n 1, 1) := by decide +kernel
theorem dL_law_824 : decode cL_law 824 = .ok (.invokevirtual 148, 3) := by decide +kernel
theorem dL_law_827 : decode cL_law 827 = .ok (.invokestatic 15, 3) := by decide +kernel
theorem dL_law_830 : decode cL_law 830 = .ok (.istore 24, 2) := by decide +kernel
theorem dL_law_832 : decode cL_law 832 = .ok (.iload 17, 2) := by decide +kernel
theorem dL_law_834 : decode cL_law 834 = .ok (.ifCond .eq 100, 3) := by decide +kernel
theorem dL_law_837 : decode cL_law 837 = .ok (.iload 17, 2) := by decide +kernel
theorem dL_law_839 : decode cL_law 839 = .ok (.bipush 40, 2) := by decide +kernel
theorem dL_law_841 : decode cL_law 841 = .ok (.if_icmp .gt 93, 3) := by decide +kernel
theorem dL_law_844 : decode cL_law 844 = .ok (.iload 17, 2) := by decide +kernel
theorem dL_law_846 : decode cL_law 846 = .ok (.iconst (-1), 1) := by decide +kernel
theorem dL_law_847 : decode cL_law 847 = .ok (.if_icmp .lt 87, 3) := by decide +kernel
theorem dL_law_850 : decode cL_law 850 = .ok (.iload 17, 2) := by decide +kernel
theorem dL_law_852 : decode cL_law 852 = .ok (.ifCond .lt 25, 3) := by decide +kernel
theorem dL_law_855 : decode cL_law 855 = .ok (.iload 10, 2) := by decide +kernel
theorem dL_law_857 : decode cL_law 857 = .ok (.ifCond .gt 77, 3) := by decide +kernel
theorem dL_law_860 : decode cL_law 860 = .ok (.aload_n 2, 1) := by decide +kernel
theorem dL_law_861 : decode cL_law 861 = .ok (.iload 17, 2) := by decide +kernel
theorem dL_law_863 : decode cL_law 863 = .ok (.aload_n 2, 1) := by decide +kernel
theorem dL_law_864 : decode cL_law 864 = .ok (.getfield 42, 3) := by decide +kernel
theorem dL_law_867 : decode cL_law 867 = .ok (.invokestatic 150, 3) := by decide +kernel
theorem dL_law_870 : decode cL_law 870 = .ok (.aload_n 2, 1) := by decide +kernel
theorem dL_law_871 : decode cL_law 871 = .ok (.invokevirtual 154, 3) := by decide +kernel
theorem dL_law_874 : decode cL_law 874 = .ok (.ifCond .eq 60, 3) := by decide +kernel
theorem dL_law_877 : decode cL_law 877 = .ok (.iload 18, 2) := by decide +kernel
theorem dL_law_879 : decode cL_law 879 = .ok (.iconst (-1), 1) := by decide +kernel
theorem dL_law_880 : decode cL_law 880 = .ok (.if_icmp .lt 54, 3) := by decide +kernel
theorem dL_law_883 : decode cL_law 883 = .ok (.iload 18, 2) := by decide +kernel
theorem dL_law_885 : decode cL_law 885 = .ok (.bipush 40, 2) := by decide +kernel
theorem dL_law_887 : decode cL_law 887 = .ok (.if_icmp .gt 47, 3) := by decide +kernel
theorem dL_law_890 : decode cL_law 890 = .ok (.iload 18, 2) := by decide +kernel
theorem dL_law_892 : decode cL_law 892 = .ok (.ifCond .lt 31, 3) := by decide +kernel
theorem dL_law_895 : decode cL_law 895 = .ok (.aload_n 2, 1) := by decide +kernel
theorem dL_law_896 : decode cL_law 896 = .ok (.iload 18, 2) := by decide +kernel
theorem dL_law_898 : decode cL_law 898 = .ok (.aload_n 2, 1) := by decide +kernel
theorem dL_law_899 : decode cL_law 899 = .ok (.getfield 42, 3) := by decide +kernel
theorem dL_law_902 : decode cL_law 902 = .ok (.invokestatic 150, 3) := by decide +kernel
theorem dL_law_905 : decode cL_law 905 = .ok (.aload_n 2, 1) := by decide +kernel
theorem dL_law_906 : decode cL_law 906 = .ok (.iload 18, 2) := by decide +kernel
theorem dL_law_908 : decode cL_law 908 = .ok (.iconst 1, 1) := by decide +kernel
theorem dL_law_909 : decode cL_law 909 = .ok (.iadd, 1) := by decide +kernel
theorem dL_law_910 : decode cL_law 910 = .ok (.aload_n 2, 1) := by decide +kernel
theorem dL_law_911 : decode cL_law 911 = .ok (.getfield 42, 3) := by decide +kernel
theorem dL_law_914 : decode cL_law 914 = .ok (.invokestatic 150, 3) := by decide +kernel
theorem dL_law_917 : decode cL_law 917 = .ok (.invokevirtual 154, 3) := by decide +kernel
theorem dL_law_920 : decode cL_law 920 = .ok (.ifCond .eq 14, 3) := by decide +kernel
theorem dL_law_923 : decode cL_law 923 = .ok (.iload 18, 2) := by decide +kernel
theorem dL_law_925 : decode cL_law 925 = .ok (.ifCond .ne 11, 3) := by decide +kernel
theorem dL_law_928 : decode cL_law 928 = .ok (.iload 17, 2) := by decide +kernel
theorem dL_law_930 : decode cL_law 930 = .ok (.iconst 1, 1) := by decide +kernel
theorem dL_law_931 : decode cL_law 931 = .ok (.if_icmp .eq 5, 3) := by decide +kernel
theorem dL_law_934 : decode cL_law 934 = .ok (.iconst 0, 1) := by decide +kernel
theorem dL_law_935 : decode cL_law 935 = .ok (.ireturn, 1) := by decide +kernel
theorem dL_law_936 : decode cL_law 936 = .ok (.iload 20, 2) := by decide +kernel
theorem dL_law_938 : decode cL_law 938 = .ok (.ifCond .lt 75, 3) := by decide +kernel
theorem dL_law_941 : decode cL_law 941 = .ok (.iload 20, 2) := by decide +kernel
theorem dL_law_943 : decode cL_law 943 = .ok (.iload 19, 2) := by decide +kernel
theorem dL_law_945 : decode cL_law 945 = .ok (.if_icmp .gt 68, 3) := by decide +kernel
theorem dL_law_948 : decode cL_law 948 = .ok (.aload_n 2, 1) := by decide +kernel
theorem dL_law_949 : decode cL_law 949 = .ok (.iload 21, 2) := by decide +kernel
theorem dL_law_951 : decode cL_law 951 = .ok (.aload_n 2, 1) := by decide +kernel
theorem dL_law_952 : decode cL_law 952 = .ok (.getfield 42, 3) := by decide +kernel
theorem dL_law_955 : decode cL_law 955 = .ok (.invokestatic 150, 3) := by decide +kernel
theorem dL_law_958 : decode cL_law 958 = .ok (.invokevirtual 58, 3) := by decide +kernel
theorem dL_law_961 : decode cL_law 961 = .ok (.aload_n 2, 1) := by decide +kernel
theorem dL_law_962 : decode cL_law 962 = .ok (.iload 20, 2) := by decide +kernel
theorem dL_law_964 : decode cL_law 964 = .ok (.aload_n 2, 1) := by decide +kernel
theorem dL_law_965 : decode cL_law 965 = .ok (.getfield 42, 3) := by decide +kernel
theorem dL_law_968 : decode cL_law 968 = .ok (.invokestatic 150, 3) := by decide +kernel
theorem dL_law_971 : decode cL_law 971 = .ok (.invokevirtual 58, 3) := by decide +kernel
theorem dL_law_974 : decode cL_law 974 = .ok (.if_icmp .gt 39, 3) := by decide +kernel
theorem dL_law_977 : decode cL_law 977 = .ok (.iload 21, 2) := by decide +kernel
theorem dL_law_979 : decode cL_law 979 = .ok (.iload 20, 2) := by decide +kernel
theorem dL_law_981 : decode cL_law 981 = .ok (.if_icmp .ge 34, 3) := by decide +kernel
theorem dL_law_984 : decode cL_law 984 = .ok (.aload_n 2, 1) := by decide +kernel
theorem dL_law_985 : decode cL_law 985 = .ok (.iload 21, 2) := by decide +kernel
theorem dL_law_987 : decode cL_law 987 = .ok (.aload_n 2, 1) := by decide +kernel
theorem dL_law_988 : decode cL_law 988 = .ok (.getfield 42, 3) := by decide +kernel
theorem dL_law_991 : decode cL_law 991 = .ok (.invokestatic 150, 3) := by decide +kernel
theorem dL_law_994 : decode cL_law 994 = .ok (.invokevirtual 58, 3) := by decide +kernel
theorem dL_law_997 : decode cL_law 997 = .ok (.aload_n 2, 1) := by decide +kernel
theorem dL_law_998 : decode cL_law 998 = .ok (.iload 20, 2) := by decide +kernel
theorem dL_law_1000 : decode cL_law 1000 = .ok (.aload_n 2, 1) := by decide +kernel
theorem dL_law_1001 : decode cL_law 1001 = .ok (.getfield 42, 3) := by decide +kernel
theorem dL_law_1004 : decode cL_law 1004 = .ok (.invokestatic 150, 3) := by decide +kernel
theorem dL_law_1007 : decode cL_law 1007 = .ok (.invokevirtual 58, 3) := by decide +kernel
theorem dL_law_1010 : decode cL_law 1010 = .ok (.if_icmp .ne 5, 3) := by decide +kernel
theorem dL_law_1013 : decode cL_law 1013 = .ok (.iconst 0, 1) := by decide +kernel
theorem dL_law_1014 : decode cL_law 1014 = .ok (.ireturn, 1) := by decide +kernel
theorem dL_law_1015 : decode cL_law 1015 = .ok (.aload_n 2, 1) := by decide +kernel
theorem dL_law_1016 : decode cL_law 1016 = .ok (.iload 22, 2) := by decide +kernel
theorem dL_law_1018 : decode cL_law 1018 = .ok (.iload 23, 2) := by decide +kernel
theorem dL_law_1020 : decode cL_law 1020 = .ok (.invokestatic 150, 3) := by decide +kernel
theorem dL_law_1023 : decode cL_law 1023 = .ok (.invokevirtual 58, 3) := by decide +kernel
theorem dL_law_1026 : decode cL_law 1026 = .ok (.istore 25, 2) := by decide +kernel
theorem dL_law_1028 : decode cL_law 1028 = .ok (.iload 23, 2) := by decide +kernel
theorem dL_law_1030 : decode cL_law 1030 = .ok (.ifCond .lt 61, 3) := by decide +kernel
theorem dL_law_1033 : decode cL_law 1033 = .ok (.iload 23, 2) := by decide +kernel
theorem dL_law_1035 : decode cL_law 1035 = .ok (.aload_n 1, 1) := by decide +kernel
theorem dL_law_1036 : decode cL_law 1036 = .ok (.invokevirtual 148, 3) := by decide +kernel
theorem dL_law_1039 : decode cL_law 1039 = .ok (.if_icmp .ge 52, 3) := by decide +kernel
theorem dL_law_1042 : decode cL_law 1042 = .ok (.aload_n 2, 1) := by decide +kernel
theorem dL_law_1043 : decode cL_law 1043 = .ok (.iload 22, 2) := by decide +kernel
theorem dL_law_1045 : decode cL_law 1045 = .ok (.iload 24, 2) := by decide +kernel
theorem dL_law_1047 : decode cL_law 1047 = .ok (.invokestatic 150, 3) := by decide +kernel
theorem dL_law_1050 : decode cL_law 1050 = .ok (.invokevirtual 58, 3) := by decide +kernel
theorem dL_law_1053 : decode cL_law 1053 = .ok (.iload 25, 2) := by decide +kernel
theorem dL_law_1055 : decode cL_law 1055 = .ok (.if_icmp .gt 36, 3) := by decide +kernel
theorem dL_law_1058 : decode cL_law 1058 = .ok (.iload 24, 2) := by decide +kernel
theorem dL_law_1060 : decode cL_law 1060 = .ok (.iload 23, 2) := by decide +kernel
theorem dL_law_1062 : decode cL_law 1062 = .ok (.if_icmp .ge 19, 3) := by decide +kernel
theorem dL_law_1065 : decode cL_law 1065 = .ok (.aload_n 2, 1) := by decide +kernel
theorem dL_law_1066 : decode cL_law 1066 = .ok (.iload 22, 2) := by decide +kernel
theorem dL_law_1068 : decode cL_law 1068 = .ok (.iload 24, 2) := by decide +kernel
theorem dL_law_1070 : decode cL_law 1070 = .ok (.invokestatic 150, 3) := by decide +kernel
theorem dL_law_1073 : decode cL_law 1073 = .ok (.invokevirtual 58, 3) := by decide +kernel
theorem dL_law_1076 : decode cL_law 1076 = .ok (.iload 25, 2) := by decide +kernel
theorem dL_law_1078 : decode cL_law 1078 = .ok (.if_icmp .eq 13, 3) := by decide +kernel
theorem dL_law_1081 : decode cL_law 1081 = .ok (.aload_n 1, 1) := by decide +kernel
theorem dL_law_1082 : decode cL_law 1082 = .ok (.invokevirtual 91, 3) := by decide +kernel
theorem dL_law_1085 : decode cL_law 1085 = .ok (.lload 5, 2) := by decide +kernel
theorem dL_law_1087 : decode cL_law 1087 = .ok (.lcmp, 1) := by decide +kernel
theorem dL_law_1088 : decode cL_law 1088 = .ok (.ifCond .eq 5, 3) := by decide +kernel
theorem dL_law_1091 : decode cL_law 1091 = .ok (.iconst 0, 1) := by decide +kernel
theorem dL_law_1092 : decode cL_law 1092 = .ok (.ireturn, 1) := by decide +kernel
theorem dL_law_1093 : decode cL_law 1093 = .ok (.aload_n 2, 1) := by decide +kernel
theorem dL_law_1094 : decode cL_law 1094 = .ok (.invokevirtual 53, 3) := by decide +kernel
theorem dL_law_1097 : decode cL_law 1097 = .ok (.aload_n 1, 1) := by decide +kernel
theorem dL_law_1098 : decode cL_law 1098 = .ok (.iconst 1, 1) := by decide +kernel
theorem dL_law_1099 : decode cL_law 1099 = .ok (.invokevirtual 56, 3) := by decide +kernel
theorem dL_law_1102 : decode cL_law 1102 = .ok (.aload_n 2, 1) := by decide +kernel
theorem dL_law_1103 : decode cL_law 1103 = .ok (.invokevirtual 58, 3) := by decide +kernel
theorem dL_law_1106 : decode cL_law 1106 = .ok (.if_icmp .eq 5, 3) := by decide +kernel
theorem dL_law_1109 : decode cL_law 1109 = .ok (.iconst 0, 1) := by decide +kernel
theorem dL_law_1110 : decode cL_law 1110 = .ok (.ireturn, 1) := by decide +kernel
theorem dL_law_1111 : decode cL_law 1111 = .ok (.iconst 0, 1) := by decide +kernel
theorem dL_law_1112 : decode cL_law 1112 = .ok (.istore 26, 2) := by decide +kernel
theorem dL_law_1114 : decode cL_law 1114 = .ok (.iload 26, 2) := by decide +kernel
theorem dL_law_1116 : decode cL_law 1116 = .ok (.iload 8, 2) := by decide +kernel
theorem dL_law_1118 : decode cL_law 1118 = .ok (.if_icmp .ge 46, 3) := by decide +kernel
theorem dL_law_1121 : decode cL_law 1121 = .ok (.iconst 0, 1) := by decide +kernel
theorem dL_law_1122 : decode cL_law 1122 = .ok (.istore 27, 2) := by decide +kernel
theorem dL_law_1124 : decode cL_law 1124 = .ok (.iload 27, 2) := by decide +kernel
theorem dL_law_1126 : decode cL_law 1126 = .ok (.iload 7, 2) := by decide +kernel
theorem dL_law_1128 : decode cL_law 1128 = .ok (.if_icmp .ge 30, 3) := by decide +kernel
theorem dL_law_1131 : decode cL_law 1131 = .ok (.aload_n 1, 1) := by decide +kernel
theorem dL_law_1132 : decode cL_law 1132 = .ok (.iload 27, 2) := by decide +kernel
theorem dL_law_1134 : decode cL_law 1134 = .ok (.iload 26, 2) := by decide +kernel
theorem dL_law_1136 : decode cL_law 1136 = .ok (.invokevirtual 102, 3) := by decide +kernel
theorem dL_law_1139 : decode cL_law 1139 = .ok (.aload 12, 2) := by decide +kernel
theorem dL_law_1141 : decode cL_law 1141 = .ok (.iload 26, 2) := by decide +kernel
theorem dL_law_1143 : decode cL_law 1143 = .ok (.aaload, 1) := by decide +kernel
theorem dL_law_1144 : decode cL_law 1144 = .ok (.iload 27, 2) := by decide +kernel
theorem dL_law_1146 : decode cL_law 1146 = .ok (.baload, 1) := by decide +kernel
theorem dL_law_1147 : decode cL_law 1147 = .ok (.if_icmp .eq 5, 3) := by decide +kernel
theorem dL_law_1150 : decode cL_law 1150 = .ok (.iconst 0, 1) := by decide +kernel
theorem dL_law_1151 : decode cL_law 1151 = .ok (.ireturn, 1) := by decide +kernel
theorem dL_law_1152 : decode cL_law 1152 = .ok (.iinc 27 1, 3) := by decide +kernel
theorem dL_law_1155 : decode cL_law 1155 = .ok (.goto (-31), 3) := by decide +kernel
theorem dL_law_1158 : decode cL_law 1158 = .ok (.iinc 26 1, 3) := by decide +kernel
theorem dL_law_1161 : decode cL_law 1161 = .ok (.goto (-47), 3) := by decide +kernel
theorem dL_law_1164 : decode cL_law 1164 = .ok (.iinc 3 1, 3) := by decide +kernel
theorem dL_law_1167 : decode cL_law 1167 = .ok (.goto (-1145), 3) := by decide +kernel
theorem dL_law_1170 : decode cL_law 1170 = .ok (.aload_n 2, 1) := by decide +kernel
theorem dL_law_1171 : decode cL_law 1171 = .ok (.aload_n 1, 1) := by decide +kernel
theorem dL_law_1172 : decode cL_law 1172 = .ok (.invokevirtual 158, 3) := by decide +kernel
theorem dL_law_1175 : decode cL_law 1175 = .ok (.ireturn, 1) := by decide +kernel
set_option maxRecDepth 20000 in
theorem ggL_behind_X4_copy : GoodIn wsL_behind wsX4_copy := goodIn_r _ [6, 7, 8, 5, 9, 10, 11, 12, 13, 14, 15, 16, 17, 18, 19, 20, 21, 22, 23, 24, 25, 26, 27, 28, 29, 30, 31, 32, 33, 34, 35, 36, 37, 38, 55, 56, 57, 58, 59, 60] (by decide +kernel) (by decide +kernel)
set_option maxRecDepth 20000 in
theorem gL_behind_X4_copy : GoodIn wsL_behind (wsV RL 162 RX4 yX4_copy wsX4_copy) := goodIn_app (goodIn_of _ (by decide +kernel)) ggL_behind_X4_copy
set_option maxRecDepth 20000 in
theorem ggL_behind_X4_grow : GoodIn wsL_behind wsX4_grow := goodIn_r _ [42, 9, 31, 32, 16, 22, 43, 44, 45, 5, 46, 24, 23, 47, 48, 49, 50, 21, 51, 52, 53, 54, 55, 56, 57, 58, 59, 60] (by decide +kernel) (by decide +kernel)
set_option maxRecDepth 20000 in
theorem gL_behind_X4_grow : GoodIn wsL_behind (wsV RL 53 RX4 yX4_grow wsX4_grow) := goodIn_app (goodIn_of _ (by decide +kernel)) ggL_behind_X4_grow
theorem dL_behind_0 : decode cL_behind 0 = .ok (.aload_n 0, 1) := by decide +kernel
theorem dL_behind_1 : decode cL_behind 1 = .ok (.invokevirtual 162, 3) := by decide +kernel
theorem dL_behind_4 : decode cL_behind 4 = .ok (.astore_n 3, 1) := by decide +kernel
theorem dL_behind_5 : decode cL_behind 5 = .ok (.aload_n 3, 1) := by decide +kernel
theorem dL_behind_6 : decode cL_behind 6 = .ok (.iload_n 2, 1) := by decide +kernel
theorem dL_behind_7 : decode cL_behind 7 = .ok (.putfield 42, 3) := by decide +kernel
theorem dL_behind_10 : decode cL_behind 10 = .ok (.iconst 0, 1) := by decide +kernel
theorem dL_behind_11 : decode cL_behind 11 = .ok (.istore 4, 2) := by decide +kernel
theorem dL_behind_13 : decode cL_behind 13 = .ok (.iload 4, 2) := by decide +kernel
theorem dL_behind_15 : decode cL_behind 15 = .ok (.iload_n 1, 1) := by decide +kernel
theorem dL_behind_16 : decode cL_behind 16 = .ok (.if_icmp .ge 13, 3) := by decide +kernel
theorem dL_behind_19 : decode cL_behind 19 = .ok (.aload_n 3, 1) := by decide +kernel
theorem dL_behind_20 : decode cL_behind 20 = .ok (.invokevirtual 53, 3) := by decide +kernel
theorem dL_behind_23 : decode cL_behind 23 = .ok (.iinc 4 1, 3) := by decide +kernel
theorem dL_behind_26 : decode cL_behind 26 = .ok (.goto (-13), 3) := by decide +kernel
theorem dL_behind_29 : decode cL_behind 29 = .ok (.aload_n 3, 1) := by decide +kernel
theorem dL_behind_30 : decode cL_behind 30 = .ok (.areturn, 1) := by decide +kernel
abbrev vwCl : List vw_C := [(RX0, TX0, 2), (RX1, TX1, 6), (RX2, TX2, 3), (RX3, TX3, 6), (RX4, TX4, 6)]
/-! ===== END printed: names ===== -/
