section
def RX0 : String := "LightFrame$Frame"
def TX0 : u_T := fun k => match k with
  | 0 => ("LightFrame$Frame", "found", "Z", false)
  | 1 => ("LightFrame$Frame", "bars", "I", false)
  | 2 => ("LightFrame$Frame", "usedBars", "I", false)
  | 3 => ("LightFrame$Frame", "usedJoints", "I", false)
  | 4 => ("LightFrame$Frame", "costTop", "J", false)
  | 5 => ("LightFrame$Frame", "bottom", "J", false)
  | _ => ("LightFrame$Frame", "pullTops", "[J", true)
def tyX0 : Nat → FieldType := fun k => match k with
  | 0 => .boolean
  | 1 => .int
  | 2 => .int
  | 3 => .int
  | 4 => .long
  | 5 => .long
  | _ => .array .long
abbrev wsX00 : List Cond := u_ws RX0 TX0 7
theorem nmX0 : ∀ a, a < 7 → ∀ b, b < 7 → a ≠ b → (TX0 a).2.1 ≠ (TX0 b).2.1 := by decide +kernel
theorem tyX0_ok : ∀ k, k < 7 → parseFieldDescriptor (TX0 k).2.2.1 = some (tyX0 k) := by decide +kernel
abbrev cX0_init : ByteArray := prog_2_method_1_code
def yX0_init : MethodName := ⟨RX0, "<init>", "()V"⟩
abbrev cX0_uses : ByteArray := prog_2_method_2_code
def yX0_uses : MethodName := ⟨RX0, "uses", "(I)Z"⟩
abbrev cX0_givesWayTo : ByteArray := prog_2_method_3_code
def yX0_givesWayTo : MethodName := ⟨RX0, "givesWayTo", "(JJ)Z"⟩
abbrev cX0_become : ByteArray := prog_2_method_4_code
def yX0_become : MethodName := ⟨RX0, "become", "(LLightFrame$Frame;J)V"⟩
def RX1 : String := "LightFrame$Inverse"
def TX1 : u_T := fun k => match k with
  | 0 => ("LightFrame$Inverse", "plan", "LLightFrame$Plan;", true)
  | 1 => ("LightFrame$Inverse", "table", "[[J", true)
  | 2 => ("LightFrame$Inverse", "bars", "[I", true)
  | 3 => ("LightFrame$Inverse", "rank", "I", false)
  | _ => ("LightFrame$Inverse", "bottom", "J", false)
def tyX1 : Nat → FieldType := fun k => match k with
  | 0 => .object "LightFrame$Plan"
  | 1 => .array (.array .long)
  | 2 => .array .int
  | 3 => .int
  | _ => .long
abbrev wsX10 : List Cond := u_ws RX1 TX1 5
theorem nmX1 : ∀ a, a < 5 → ∀ b, b < 5 → a ≠ b → (TX1 a).2.1 ≠ (TX1 b).2.1 := by decide +kernel
theorem tyX1_ok : ∀ k, k < 5 → parseFieldDescriptor (TX1 k).2.2.1 = some (tyX1 k) := by decide +kernel
abbrev cX1_init : ByteArray := prog_3_method_1_code
def yX1_init : MethodName := ⟨RX1, "<init>", "(LLightFrame$Plan;)V"⟩
abbrev cX1_take : ByteArray := prog_3_method_2_code
def yX1_take : MethodName := ⟨RX1, "take", "(I)V"⟩
abbrev cX1_at : ByteArray := prog_3_method_3_code
def yX1_at : MethodName := ⟨RX1, "at", "(II)J"⟩
abbrev cX1_listBars : ByteArray := prog_3_method_4_code
def yX1_listBars : MethodName := ⟨RX1, "listBars", "(I)V"⟩
abbrev cX1_clearTable : ByteArray := prog_3_method_5_code
def yX1_clearTable : MethodName := ⟨RX1, "clearTable", "()V"⟩
abbrev cX1_fillColumn : ByteArray := prog_3_method_6_code
def yX1_fillColumn : MethodName := ⟨RX1, "fillColumn", "(I)V"⟩
abbrev cX1_invert : ByteArray := prog_3_method_7_code
def yX1_invert : MethodName := ⟨RX1, "invert", "()Z"⟩
abbrev cX1_rowWithPivot : ByteArray := prog_3_method_8_code
def yX1_rowWithPivot : MethodName := ⟨RX1, "rowWithPivot", "(I)I"⟩
abbrev cX1_swapRows : ByteArray := prog_3_method_9_code
def yX1_swapRows : MethodName := ⟨RX1, "swapRows", "(II)V"⟩
abbrev cX1_clearColumn : ByteArray := prog_3_method_10_code
def yX1_clearColumn : MethodName := ⟨RX1, "clearColumn", "(IJ)V"⟩
abbrev cX1_turnSigns : ByteArray := prog_3_method_11_code
def yX1_turnSigns : MethodName := ⟨RX1, "turnSigns", "()V"⟩
def RX2 : String := "LightFrame$Plan"
def TX2 : u_T := fun k => match k with
  | 0 => ("LightFrame$Plan", "joints", "I", false)
  | 1 => ("LightFrame$Plan", "freeJoints", "I", false)
  | 2 => ("LightFrame$Plan", "bars", "I", false)
  | 3 => ("LightFrame$Plan", "sizeCount", "I", false)
  | 4 => ("LightFrame$Plan", "jointPrice", "I", false)
  | 5 => ("LightFrame$Plan", "x", "[I", true)
  | 6 => ("LightFrame$Plan", "y", "[I", true)
  | 7 => ("LightFrame$Plan", "row", "[I", true)
  | 8 => ("LightFrame$Plan", "loads", "[I", true)
  | 9 => ("LightFrame$Plan", "from", "[I", true)
  | 10 => ("LightFrame$Plan", "to", "[I", true)
  | 11 => ("LightFrame$Plan", "across", "[I", true)
  | 12 => ("LightFrame$Plan", "up", "[I", true)
  | 13 => ("LightFrame$Plan", "stuff", "[I", true)
  | 14 => ("LightFrame$Plan", "crossing", "[I", true)
  | _ => ("LightFrame$Plan", "sizes", "[I", true)
def tyX2 : Nat → FieldType := fun k => match k with
  | 0 => .int
  | 1 => .int
  | 2 => .int
  | 3 => .int
  | 4 => .int
  | 5 => .array .int
  | 6 => .array .int
  | 7 => .array .int
  | 8 => .array .int
  | 9 => .array .int
  | 10 => .array .int
  | 11 => .array .int
  | 12 => .array .int
  | 13 => .array .int
  | 14 => .array .int
  | _ => .array .int
abbrev wsX20 : List Cond := u_ws RX2 TX2 16
theorem nmX2 : ∀ a, a < 16 → ∀ b, b < 16 → a ≠ b → (TX2 a).2.1 ≠ (TX2 b).2.1 := by decide +kernel
theorem tyX2_ok : ∀ k, k < 16 → parseFieldDescriptor (TX2 k).2.2.1 = some (tyX2 k) := by decide +kernel
abbrev cX2_init : ByteArray := prog_4_method_1_code
def yX2_init : MethodName := ⟨RX2, "<init>", "()V"⟩
abbrev cX2_hasJoint : ByteArray := prog_4_method_2_code
def yX2_hasJoint : MethodName := ⟨RX2, "hasJoint", "(I)Z"⟩
abbrev cX2_hasBar : ByteArray := prog_4_method_3_code
def yX2_hasBar : MethodName := ⟨RX2, "hasBar", "(I)Z"⟩
abbrev cX2_rows : ByteArray := prog_4_method_4_code
def yX2_rows : MethodName := ⟨RX2, "rows", "()I"⟩
abbrev cX2_hasJointAt : ByteArray := prog_4_method_5_code
def yX2_hasJointAt : MethodName := ⟨RX2, "hasJointAt", "(II)Z"⟩
abbrev cX2_hasBarBetween : ByteArray := prog_4_method_6_code
def yX2_hasBarBetween : MethodName := ⟨RX2, "hasBarBetween", "(II)Z"⟩
abbrev cX2_hasSize : ByteArray := prog_4_method_7_code
def yX2_hasSize : MethodName := ⟨RX2, "hasSize", "(I)Z"⟩
abbrev cX2_addJoint : ByteArray := prog_4_method_8_code
def yX2_addJoint : MethodName := ⟨RX2, "addJoint", "(IIZ)I"⟩
abbrev cX2_addBar : ByteArray := prog_4_method_9_code
def yX2_addBar : MethodName := ⟨RX2, "addBar", "(II)I"⟩
abbrev cX2_addSize : ByteArray := prog_4_method_10_code
def yX2_addSize : MethodName := ⟨RX2, "addSize", "(I)I"⟩
abbrev cX2_barsCross : ByteArray := prog_4_method_11_code
def yX2_barsCross : MethodName := ⟨RX2, "barsCross", "(II)Z"⟩
abbrev cX2_meet : ByteArray := prog_4_method_12_code
def yX2_meet : MethodName := ⟨RX2, "meet", "(II)Z"⟩
abbrev cX2_sameWay : ByteArray := prog_4_method_13_code
def yX2_sameWay : MethodName := ⟨RX2, "sameWay", "(III)Z"⟩
abbrev cX2_touch : ByteArray := prog_4_method_14_code
def yX2_touch : MethodName := ⟨RX2, "touch", "(IIII)Z"⟩
abbrev cX2_isOn : ByteArray := prog_4_method_15_code
def yX2_isOn : MethodName := ⟨RX2, "isOn", "(III)Z"⟩
abbrev cX2_side : ByteArray := prog_4_method_16_code
def yX2_side : MethodName := ⟨RX2, "side", "(III)I"⟩
def RX3 : String := "LightFrame$Proof"
def TX3 : u_T := fun k => match k with
  | 0 => ("LightFrame$Proof", "plan", "LLightFrame$Plan;", true)
  | 1 => ("LightFrame$Proof", "search", "LLightFrame$Search;", true)
  | 2 => ("LightFrame$Proof", "found", "Z", false)
  | 3 => ("LightFrame$Proof", "bars", "I", false)
  | 4 => ("LightFrame$Proof", "bottom", "J", false)
  | 5 => ("LightFrame$Proof", "tops", "[J", true)
  | _ => ("LightFrame$Proof", "wanted", "[J", true)
def tyX3 : Nat → FieldType := fun k => match k with
  | 0 => .object "LightFrame$Plan"
  | 1 => .object "LightFrame$Search"
  | 2 => .boolean
  | 3 => .int
  | 4 => .long
  | 5 => .array .long
  | _ => .array .long
abbrev wsX30 : List Cond := u_ws RX3 TX3 7
theorem nmX3 : ∀ a, a < 7 → ∀ b, b < 7 → a ≠ b → (TX3 a).2.1 ≠ (TX3 b).2.1 := by decide +kernel
theorem tyX3_ok : ∀ k, k < 7 → parseFieldDescriptor (TX3 k).2.2.1 = some (tyX3 k) := by decide +kernel
abbrev cX3_init : ByteArray := prog_5_method_1_code
def yX3_init : MethodName := ⟨RX3, "<init>", "(LLightFrame$Plan;LLightFrame$Search;)V"⟩
abbrev cX3_look : ByteArray := prog_5_method_2_code
def yX3_look : MethodName := ⟨RX3, "look", "(LLightFrame$Frame;)V"⟩
abbrev cX3_fieldTop : ByteArray := prog_5_method_3_code
def yX3_fieldTop : MethodName := ⟨RX3, "fieldTop", "(II)J"⟩
abbrev cX3_slackTop : ByteArray := prog_5_method_4_code
def yX3_slackTop : MethodName := ⟨RX3, "slackTop", "(I)J"⟩
abbrev cX3_costsAsMuchAs : ByteArray := prog_5_method_5_code
def yX3_costsAsMuchAs : MethodName := ⟨RX3, "costsAsMuchAs", "(LLightFrame$Frame;)Z"⟩
abbrev cX3_lookAtTrial : ByteArray := prog_5_method_6_code
def yX3_lookAtTrial : MethodName := ⟨RX3, "lookAtTrial", "()V"⟩
abbrev cX3_setWanted : ByteArray := prog_5_method_7_code
def yX3_setWanted : MethodName := ⟨RX3, "setWanted", "(I)V"⟩
abbrev cX3_setField : ByteArray := prog_5_method_8_code
def yX3_setField : MethodName := ⟨RX3, "setField", "()V"⟩
abbrev cX3_noBarExceeds : ByteArray := prog_5_method_9_code
def yX3_noBarExceeds : MethodName := ⟨RX3, "noBarExceeds", "()Z"⟩
def RX4 : String := "LightFrame$Search"
def TX4 : u_T := fun k => match k with
  | 0 => ("LightFrame$Search", "plan", "LLightFrame$Plan;", true)
  | 1 => ("LightFrame$Search", "inverse", "LLightFrame$Inverse;", true)
  | 2 => ("LightFrame$Search", "trial", "LLightFrame$Frame;", true)
  | 3 => ("LightFrame$Search", "frames", "[LLightFrame$Frame;", true)
  | 4 => ("LightFrame$Search", "choiceBars", "[I", true)
  | 5 => ("LightFrame$Search", "choiceCount", "I", false)
  | _ => ("LightFrame$Search", "known", "Z", false)
def tyX4 : Nat → FieldType := fun k => match k with
  | 0 => .object "LightFrame$Plan"
  | 1 => .object "LightFrame$Inverse"
  | 2 => .object "LightFrame$Frame"
  | 3 => .array (.object "LightFrame$Frame")
  | 4 => .array .int
  | 5 => .int
  | _ => .boolean
abbrev wsX40 : List Cond := u_ws RX4 TX4 7
theorem nmX4 : ∀ a, a < 7 → ∀ b, b < 7 → a ≠ b → (TX4 a).2.1 ≠ (TX4 b).2.1 := by decide +kernel
theorem tyX4_ok : ∀ k, k < 7 → parseFieldDescriptor (TX4 k).2.2.1 = some (tyX4 k) := by decide +kernel
abbrev cX4_init : ByteArray := prog_6_method_1_code
def yX4_init : MethodName := ⟨RX4, "<init>", "(LLightFrame$Plan;)V"⟩
abbrev cX4_frameOf : ByteArray := prog_6_method_2_code
def yX4_frameOf : MethodName := ⟨RX4, "frameOf", "(I)LLightFrame$Frame;"⟩
abbrev cX4_run : ByteArray := prog_6_method_3_code
def yX4_run : MethodName := ⟨RX4, "run", "()V"⟩
abbrev cX4_hasChoiceIn : ByteArray := prog_6_method_4_code
def yX4_hasChoiceIn : MethodName := ⟨RX4, "hasChoiceIn", "(I)Z"⟩
abbrev cX4_tryBars : ByteArray := prog_6_method_5_code
def yX4_tryBars : MethodName := ⟨RX4, "tryBars", "(I)Z"⟩
abbrev cX4_lightestTop : ByteArray := prog_6_method_6_code
def yX4_lightestTop : MethodName := ⟨RX4, "lightestTop", "()J"⟩
abbrev cX4_leastSizeFor : ByteArray := prog_6_method_7_code
def yX4_leastSizeFor : MethodName := ⟨RX4, "leastSizeFor", "(LLightFrame$Frame;I)I"⟩
abbrev cX4_mirrored : ByteArray := prog_6_method_8_code
def yX4_mirrored : MethodName := ⟨RX4, "mirrored", "(I)I"⟩
abbrev cX4_look : ByteArray := prog_6_method_9_code
def yX4_look : MethodName := ⟨RX4, "look", "(I)V"⟩
abbrev cX4_takePull : ByteArray := prog_6_method_10_code
def yX4_takePull : MethodName := ⟨RX4, "takePull", "(I)V"⟩
abbrev cX4_trialTop : ByteArray := prog_6_method_11_code
def yX4_trialTop : MethodName := ⟨RX4, "trialTop", "(I)J"⟩
abbrev cX4_usedBarsCross : ByteArray := prog_6_method_12_code
def yX4_usedBarsCross : MethodName := ⟨RX4, "usedBarsCross", "()Z"⟩
abbrev cX4_wholeSizesTop : ByteArray := prog_6_method_13_code
def yX4_wholeSizesTop : MethodName := ⟨RX4, "wholeSizesTop", "()J"⟩
abbrev cX4_pricesTop : ByteArray := prog_6_method_14_code
def yX4_pricesTop : MethodName := ⟨RX4, "pricesTop", "()J"⟩
def RX5 : String := "LightFrame"
def TX5 : u_T := fun k => match k with
  | 0 => ("LightFrame", "plan", "LLightFrame$Plan;", true)
  | 1 => ("LightFrame", "search", "LLightFrame$Search;", true)
  | _ => ("LightFrame", "proof", "LLightFrame$Proof;", true)
def tyX5 : Nat → FieldType := fun k => match k with
  | 0 => .object "LightFrame$Plan"
  | 1 => .object "LightFrame$Search"
  | _ => .object "LightFrame$Proof"
abbrev wsX50 : List Cond := u_ws RX5 TX5 3
theorem nmX5 : ∀ a, a < 3 → ∀ b, b < 3 → a ≠ b → (TX5 a).2.1 ≠ (TX5 b).2.1 := by decide +kernel
theorem tyX5_ok : ∀ k, k < 3 → parseFieldDescriptor (TX5 k).2.2.1 = some (tyX5 k) := by decide +kernel
abbrev cX5_init : ByteArray := prog_1_method_1_code
def yX5_init : MethodName := ⟨RX5, "<init>", "()V"⟩
abbrev cX5_joint : ByteArray := prog_1_method_2_code
def yX5_joint : MethodName := ⟨RX5, "joint", "(IIZ)I"⟩
abbrev cX5_bar : ByteArray := prog_1_method_3_code
def yX5_bar : MethodName := ⟨RX5, "bar", "(II)I"⟩
abbrev cX5_load : ByteArray := prog_1_method_4_code
def yX5_load : MethodName := ⟨RX5, "load", "(III)I"⟩
abbrev cX5_about : ByteArray := prog_1_method_5_code
def yX5_about : MethodName := ⟨RX5, "about", "(II)I"⟩
abbrev cX5_ofBar : ByteArray := prog_1_method_6_code
def yX5_ofBar : MethodName := ⟨RX5, "ofBar", "(II)I"⟩
abbrev cX5_size : ByteArray := prog_1_method_7_code
def yX5_size : MethodName := ⟨RX5, "size", "(I)I"⟩
abbrev cX5_price : ByteArray := prog_1_method_8_code
def yX5_price : MethodName := ⟨RX5, "price", "(I)I"⟩
abbrev cX5_drop : ByteArray := prog_1_method_9_code
def yX5_drop : MethodName := ⟨RX5, "drop", "()I"⟩
abbrev cX5_cross : ByteArray := prog_1_method_10_code
def yX5_cross : MethodName := ⟨RX5, "cross", "(II)I"⟩
abbrev cX5_stiff : ByteArray := prog_1_method_11_code
def yX5_stiff : MethodName := ⟨RX5, "stiff", "(I)I"⟩
abbrev cX5_choices : ByteArray := prog_1_method_12_code
def yX5_choices : MethodName := ⟨RX5, "choices", "()I"⟩
abbrev cX5_frame : ByteArray := prog_1_method_13_code
def yX5_frame : MethodName := ⟨RX5, "frame", "(I)I"⟩
abbrev cX5_cost : ByteArray := prog_1_method_14_code
def yX5_cost : MethodName := ⟨RX5, "cost", "(II)J"⟩
abbrev cX5_pull : ByteArray := prog_1_method_15_code
def yX5_pull : MethodName := ⟨RX5, "pull", "(III)J"⟩
abbrev cX5_used : ByteArray := prog_1_method_16_code
def yX5_used : MethodName := ⟨RX5, "used", "(II)I"⟩
abbrev cX5_sized : ByteArray := prog_1_method_17_code
def yX5_sized : MethodName := ⟨RX5, "sized", "(I)I"⟩
abbrev cX5_prove : ByteArray := prog_1_method_18_code
def yX5_prove : MethodName := ⟨RX5, "prove", "()I"⟩
abbrev cX5_field : ByteArray := prog_1_method_19_code
def yX5_field : MethodName := ⟨RX5, "field", "(III)J"⟩
abbrev cX5_slack : ByteArray := prog_1_method_20_code
def yX5_slack : MethodName := ⟨RX5, "slack", "(II)J"⟩
abbrev cX5_told : ByteArray := prog_1_method_21_code
def yX5_told : MethodName := ⟨RX5, "told", "(I)I"⟩
abbrev cX5_forgetAnswers : ByteArray := prog_1_method_22_code
def yX5_forgetAnswers : MethodName := ⟨RX5, "forgetAnswers", "()V"⟩
abbrev cX5_isPlace : ByteArray := prog_1_method_23_code
def yX5_isPlace : MethodName := ⟨RX5, "isPlace", "(I)Z"⟩
abbrev cX5_isLoad : ByteArray := prog_1_method_24_code
def yX5_isLoad : MethodName := ⟨RX5, "isLoad", "(I)Z"⟩
abbrev cX5_isKind : ByteArray := prog_1_method_25_code
def yX5_isKind : MethodName := ⟨RX5, "isKind", "(I)Z"⟩
abbrev cX5_isPart : ByteArray := prog_1_method_26_code
def yX5_isPart : MethodName := ⟨RX5, "isPart", "(I)Z"⟩
abbrev cX5_partOf : ByteArray := prog_1_method_27_code
def yX5_partOf : MethodName := ⟨RX5, "partOf", "(JJI)J"⟩
abbrev cX5_commonDivisor : ByteArray := prog_1_method_28_code
def yX5_commonDivisor : MethodName := ⟨RX5, "commonDivisor", "(JJ)J"⟩
def RX6 : String := "LightFrameModel"
def TX6 : u_T := fun k => match k with
  | 0 => ("LightFrameModel", "joints", "I", false)
  | 1 => ("LightFrameModel", "x", "[I", true)
  | 2 => ("LightFrameModel", "y", "[I", true)
  | 3 => ("LightFrameModel", "isFixed", "[Z", true)
  | 4 => ("LightFrameModel", "px", "[I", true)
  | 5 => ("LightFrameModel", "py", "[I", true)
  | 6 => ("LightFrameModel", "bars", "I", false)
  | 7 => ("LightFrameModel", "from", "[I", true)
  | 8 => ("LightFrameModel", "to", "[I", true)
  | 9 => ("LightFrameModel", "sizes", "I", false)
  | 10 => ("LightFrameModel", "size", "[I", true)
  | 11 => ("LightFrameModel", "price", "I", false)
  | 12 => ("LightFrameModel", "isProved", "Z", false)
  | 13 => ("LightFrameModel", "rowOf", "[I", true)
  | 14 => ("LightFrameModel", "rows", "I", false)
  | 15 => ("LightFrameModel", "cell", "[J", true)
  | 16 => ("LightFrameModel", "work", "[J", true)
  | 17 => ("LightFrameModel", "right", "[J", true)
  | 18 => ("LightFrameModel", "chosen", "I", false)
  | 19 => ("LightFrameModel", "choice", "[I", true)
  | 20 => ("LightFrameModel", "below", "J", false)
  | 21 => ("LightFrameModel", "bears", "[J", true)
  | 22 => ("LightFrameModel", "bestCost", "J", false)
  | 23 => ("LightFrameModel", "bestBelow", "J", false)
  | 24 => ("LightFrameModel", "field", "[J", true)
  | _ => ("LightFrameModel", "fieldBelow", "J", false)
def tyX6 : Nat → FieldType := fun k => match k with
  | 0 => .int
  | 1 => .array .int
  | 2 => .array .int
  | 3 => .array .boolean
  | 4 => .array .int
  | 5 => .array .int
  | 6 => .int
  | 7 => .array .int
  | 8 => .array .int
  | 9 => .int
  | 10 => .array .int
  | 11 => .int
  | 12 => .boolean
  | 13 => .array .int
  | 14 => .int
  | 15 => .array .long
  | 16 => .array .long
  | 17 => .array .long
  | 18 => .int
  | 19 => .array .int
  | 20 => .long
  | 21 => .array .long
  | 22 => .long
  | 23 => .long
  | 24 => .array .long
  | _ => .long
abbrev wsX60 : List Cond := u_ws RX6 TX6 26
theorem nmX6 : ∀ a, a < 26 → ∀ b, b < 26 → a ≠ b → (TX6 a).2.1 ≠ (TX6 b).2.1 := by decide +kernel
theorem tyX6_ok : ∀ k, k < 26 → parseFieldDescriptor (TX6 k).2.2.1 = some (tyX6 k) := by decide +kernel
abbrev cX6_init : ByteArray := prog_8_method_1_code
def yX6_init : MethodName := ⟨RX6, "<init>", "()V"⟩
abbrev cX6_in : ByteArray := prog_8_method_2_code
def yX6_in : MethodName := ⟨RX6, "in", "(JJJ)Z"⟩
abbrev cX6_isJoint : ByteArray := prog_8_method_3_code
def yX6_isJoint : MethodName := ⟨RX6, "isJoint", "(I)Z"⟩
abbrev cX6_isBar : ByteArray := prog_8_method_4_code
def yX6_isBar : MethodName := ⟨RX6, "isBar", "(I)Z"⟩
abbrev cX6_common : ByteArray := prog_8_method_5_code
def yX6_common : MethodName := ⟨RX6, "common", "(JJ)J"⟩
abbrev cX6_term : ByteArray := prog_8_method_6_code
def yX6_term : MethodName := ⟨RX6, "term", "(JJI)J"⟩
abbrev cX6_abs : ByteArray := prog_8_method_7_code
def yX6_abs : MethodName := ⟨RX6, "abs", "(J)J"⟩
abbrev cX6_frees : ByteArray := prog_8_method_8_code
def yX6_frees : MethodName := ⟨RX6, "frees", "()I"⟩
abbrev cX6_joint : ByteArray := prog_8_method_9_code
def yX6_joint : MethodName := ⟨RX6, "joint", "(IIZ)I"⟩
abbrev cX6_bar : ByteArray := prog_8_method_10_code
def yX6_bar : MethodName := ⟨RX6, "bar", "(II)I"⟩
abbrev cX6_load : ByteArray := prog_8_method_11_code
def yX6_load : MethodName := ⟨RX6, "load", "(III)I"⟩
abbrev cX6_about : ByteArray := prog_8_method_12_code
def yX6_about : MethodName := ⟨RX6, "about", "(II)I"⟩
abbrev cX6_stuff : ByteArray := prog_8_method_13_code
def yX6_stuff : MethodName := ⟨RX6, "stuff", "(I)I"⟩
abbrev cX6_ofBar : ByteArray := prog_8_method_14_code
def yX6_ofBar : MethodName := ⟨RX6, "ofBar", "(II)I"⟩
abbrev cX6_size : ByteArray := prog_8_method_15_code
def yX6_size : MethodName := ⟨RX6, "size", "(I)I"⟩
abbrev cX6_price : ByteArray := prog_8_method_16_code
def yX6_price : MethodName := ⟨RX6, "price", "(I)I"⟩
abbrev cX6_drop : ByteArray := prog_8_method_17_code
def yX6_drop : MethodName := ⟨RX6, "drop", "()I"⟩
abbrev cX6_side : ByteArray := prog_8_method_18_code
def yX6_side : MethodName := ⟨RX6, "side", "(III)I"⟩
abbrev cX6_isOn : ByteArray := prog_8_method_19_code
def yX6_isOn : MethodName := ⟨RX6, "isOn", "(III)Z"⟩
abbrev cX6_areCrossed : ByteArray := prog_8_method_20_code
def yX6_areCrossed : MethodName := ⟨RX6, "areCrossed", "(II)Z"⟩
abbrev cX6_cross : ByteArray := prog_8_method_21_code
def yX6_cross : MethodName := ⟨RX6, "cross", "(II)I"⟩
abbrev cX6_determinant : ByteArray := prog_8_method_22_code
def yX6_determinant : MethodName := ⟨RX6, "determinant", "(I)J"⟩
abbrev cX6_layRows : ByteArray := prog_8_method_23_code
def yX6_layRows : MethodName := ⟨RX6, "layRows", "()V"⟩
abbrev cX6_put : ByteArray := prog_8_method_24_code
def yX6_put : MethodName := ⟨RX6, "put", "(IIJ)V"⟩
abbrev cX6_layCells : ByteArray := prog_8_method_25_code
def yX6_layCells : MethodName := ⟨RX6, "layCells", "()V"⟩
abbrev cX6_isChoice : ByteArray := prog_8_method_26_code
def yX6_isChoice : MethodName := ⟨RX6, "isChoice", "(I)Z"⟩
abbrev cX6_isAhead : ByteArray := prog_8_method_27_code
def yX6_isAhead : MethodName := ⟨RX6, "isAhead", "(II)Z"⟩
abbrev cX6_after : ByteArray := prog_8_method_28_code
def yX6_after : MethodName := ⟨RX6, "after", "(I)I"⟩
abbrev cX6_bits : ByteArray := prog_8_method_29_code
def yX6_bits : MethodName := ⟨RX6, "bits", "(I)I"⟩
abbrev cX6_stiff : ByteArray := prog_8_method_30_code
def yX6_stiff : MethodName := ⟨RX6, "stiff", "(I)I"⟩
abbrev cX6_choices : ByteArray := prog_8_method_31_code
def yX6_choices : MethodName := ⟨RX6, "choices", "()I"⟩
abbrev cX6_sizeFor : ByteArray := prog_8_method_32_code
def yX6_sizeFor : MethodName := ⟨RX6, "sizeFor", "(J)I"⟩
abbrev cX6_usedBars : ByteArray := prog_8_method_33_code
def yX6_usedBars : MethodName := ⟨RX6, "usedBars", "()I"⟩
abbrev cX6_usedJoints : ByteArray := prog_8_method_34_code
def yX6_usedJoints : MethodName := ⟨RX6, "usedJoints", "()I"⟩
abbrev cX6_costOf : ByteArray := prog_8_method_35_code
def yX6_costOf : MethodName := ⟨RX6, "costOf", "(I)J"⟩
abbrev cX6_find : ByteArray := prog_8_method_36_code
def yX6_find : MethodName := ⟨RX6, "find", "(I)I"⟩
abbrev cX6_isKind : ByteArray := prog_8_method_37_code
def yX6_isKind : MethodName := ⟨RX6, "isKind", "(I)Z"⟩
abbrev cX6_frame : ByteArray := prog_8_method_38_code
def yX6_frame : MethodName := ⟨RX6, "frame", "(I)I"⟩
abbrev cX6_isPart : ByteArray := prog_8_method_39_code
def yX6_isPart : MethodName := ⟨RX6, "isPart", "(I)Z"⟩
abbrev cX6_cost : ByteArray := prog_8_method_40_code
def yX6_cost : MethodName := ⟨RX6, "cost", "(II)J"⟩
abbrev cX6_placeOf : ByteArray := prog_8_method_41_code
def yX6_placeOf : MethodName := ⟨RX6, "placeOf", "(I)I"⟩
abbrev cX6_pull : ByteArray := prog_8_method_42_code
def yX6_pull : MethodName := ⟨RX6, "pull", "(III)J"⟩
abbrev cX6_used : ByteArray := prog_8_method_43_code
def yX6_used : MethodName := ⟨RX6, "used", "(II)I"⟩
abbrev cX6_sized : ByteArray := prog_8_method_44_code
def yX6_sized : MethodName := ⟨RX6, "sized", "(I)I"⟩
abbrev cX6_numberOf : ByteArray := prog_8_method_45_code
def yX6_numberOf : MethodName := ⟨RX6, "numberOf", "(I)J"⟩
abbrev cX6_isGood : ByteArray := prog_8_method_46_code
def yX6_isGood : MethodName := ⟨RX6, "isGood", "(II)Z"⟩
abbrev cX6_unused : ByteArray := prog_8_method_47_code
def yX6_unused : MethodName := ⟨RX6, "unused", "()I"⟩
abbrev cX6_prove : ByteArray := prog_8_method_48_code
def yX6_prove : MethodName := ⟨RX6, "prove", "()I"⟩
abbrev cX6_field : ByteArray := prog_8_method_49_code
def yX6_field : MethodName := ⟨RX6, "field", "(III)J"⟩
abbrev cX6_slack : ByteArray := prog_8_method_50_code
def yX6_slack : MethodName := ⟨RX6, "slack", "(II)J"⟩
abbrev cX6_told : ByteArray := prog_8_method_51_code
def yX6_told : MethodName := ⟨RX6, "told", "(I)I"⟩
def RJ6 : String := "java/lang/Integer"
def TJ6 : u_T := fun k => match k with
  | _ => ("", "", "", false)
def tyJ6 : Nat → FieldType := fun k => match k with
  | _ => .int
abbrev wsJ60 : List Cond := u_ws RJ6 TJ6 0
theorem nmJ6 : ∀ a, a < 0 → ∀ b, b < 0 → a ≠ b → (TJ6 a).2.1 ≠ (TJ6 b).2.1 := by decide +kernel
theorem tyJ6_ok : ∀ k, k < 0 → parseFieldDescriptor (TJ6 k).2.2.1 = some (tyJ6 k) := by decide +kernel
abbrev cJ6_bitCount_0f7a4 : ByteArray := prog_9_method_49_code
def yJ6_bitCount_0f7a4 : MethodName := ⟨RJ6, "bitCount", "(I)I"⟩
def RJ9 : String := "java/lang/Math"
def TJ9 : u_T := fun k => match k with
  | _ => ("", "", "", false)
def tyJ9 : Nat → FieldType := fun k => match k with
  | _ => .int
abbrev wsJ90 : List Cond := u_ws RJ9 TJ9 0
theorem nmJ9 : ∀ a, a < 0 → ∀ b, b < 0 → a ≠ b → (TJ9 a).2.1 ≠ (TJ9 b).2.1 := by decide +kernel
theorem tyJ9_ok : ∀ k, k < 0 → parseFieldDescriptor (TJ9 k).2.2.1 = some (tyJ9 k) := by decide +kernel
abbrev cJ9_abs_067f4 : ByteArray := prog_10_method_61_code
def yJ9_abs_067f4 : MethodName := ⟨RJ9, "abs", "(J)J"⟩
abbrev cJ9_max_7cf53 : ByteArray := prog_10_method_65_code
def yJ9_max_7cf53 : MethodName := ⟨RJ9, "max", "(II)I"⟩
abbrev cJ9_min_7cf53 : ByteArray := prog_10_method_69_code
def yJ9_min_7cf53 : MethodName := ⟨RJ9, "min", "(II)I"⟩
def RJ10 : String := "java/lang/System"
def TJ10 : u_T := fun k => match k with
  | _ => ("", "", "", false)
def tyJ10 : Nat → FieldType := fun k => match k with
  | _ => .int
abbrev wsJ100 : List Cond := u_ws RJ10 TJ10 0
theorem nmJ10 : ∀ a, a < 0 → ∀ b, b < 0 → a ≠ b → (TJ10 a).2.1 ≠ (TJ10 b).2.1 := by decide +kernel
theorem tyJ10_ok : ∀ k, k < 0 → parseFieldDescriptor (TJ10 k).2.2.1 = some (tyJ10 k) := by decide +kernel
def RJ7 : String := "java/util/Arrays"
def TJ7 : u_T := fun k => match k with
  | _ => ("", "", "", false)
def tyJ7 : Nat → FieldType := fun k => match k with
  | _ => .int
abbrev wsJ70 : List Cond := u_ws RJ7 TJ7 0
theorem nmJ7 : ∀ a, a < 0 → ∀ b, b < 0 → a ≠ b → (TJ7 a).2.1 ≠ (TJ7 b).2.1 := by decide +kernel
theorem tyJ7_ok : ∀ k, k < 0 → parseFieldDescriptor (TJ7 k).2.2.1 = some (tyJ7 k) := by decide +kernel
abbrev cJ7_fill_d0a16 : ByteArray := prog_12_method_101_code
def yJ7_fill_d0a16 : MethodName := ⟨RJ7, "fill", "([JJ)V"⟩
def RL : String := "LightFrameLaw"
abbrev cL_law : ByteArray := code
def yL_law : MethodName := ⟨RL, "law", "([I)Z"⟩
def wsL_law_r1 : List Cond := [Cond.classLink RL 7 RX5, Cond.instantiable RX5 3, Cond.initialized RX5, Cond.classLink RL 10 RX6, Cond.instantiable RX6 26, Cond.initialized RX6, Cond.methodLink RL 9 yX5_init, Cond.instanceMethod yX5_init, Cond.code yX5_init cX5_init 1 none, Cond.methodLink RX5 3 objectInit, Cond.instanceMethod objectInit, Cond.code objectInit ⟨#[0xb1]⟩ 1 none, Cond.classLink RX5 9 RX2, Cond.instantiable RX2 16, Cond.initialized RX2, Cond.fieldLink RX5 12 "LightFrame" "plan" "LLightFrame$Plan;", Cond.classLink RX5 16 RX4, Cond.instantiable RX4 7, Cond.initialized RX4, Cond.fieldLink RX5 21 "LightFrame" "search" "LLightFrame$Search;", Cond.classLink RX5 25 RX3, Cond.instantiable RX3 7, Cond.initialized RX3, Cond.fieldLink RX5 30 "LightFrame" "proof" "LLightFrame$Proof;"]
def wsL_law_r2 : List Cond := [Cond.instanceMethod yX2_init, Cond.code yX2_init cX2_init 1 none, Cond.methodLink RX2 3 objectInit, Cond.arrayClass .int, Cond.fieldLink RX2 9 "LightFrame$Plan" "x" "[I", Cond.fieldLink RX2 15 "LightFrame$Plan" "y" "[I", Cond.fieldLink RX2 18 "LightFrame$Plan" "row" "[I", Cond.fieldLink RX2 21 "LightFrame$Plan" "loads" "[I", Cond.fieldLink RX2 24 "LightFrame$Plan" "from" "[I", Cond.fieldLink RX2 27 "LightFrame$Plan" "to" "[I", Cond.fieldLink RX2 30 "LightFrame$Plan" "across" "[I", Cond.fieldLink RX2 33 "LightFrame$Plan" "up" "[I", Cond.fieldLink RX2 36 "LightFrame$Plan" "stuff" "[I", Cond.fieldLink RX2 39 "LightFrame$Plan" "crossing" "[I", Cond.fieldLink RX2 42 "LightFrame$Plan" "sizes" "[I", Cond.methodLink RX5 18 yX4_init, Cond.instanceMethod yX4_init, Cond.code yX4_init cX4_init 3 none, Cond.methodLink RX4 3 objectInit, Cond.classLink RX4 9 RX0, Cond.instantiable RX0 7, Cond.initialized RX0, Cond.fieldLink RX4 12 "LightFrame$Search" "trial" "LLightFrame$Frame;", Cond.fieldLink RX4 18 "LightFrame$Search" "frames" "[LLightFrame$Frame;"]
def wsL_law_r3 : List Cond := [Cond.fieldLink RX4 22 "LightFrame$Search" "choiceBars" "[I", Cond.fieldLink RX4 26 "LightFrame$Search" "plan" "LLightFrame$Plan;", Cond.classLink RX4 30 RX1, Cond.instantiable RX1 5, Cond.initialized RX1, Cond.fieldLink RX4 35 "LightFrame$Search" "inverse" "LLightFrame$Inverse;", Cond.instanceMethod yX0_init, Cond.code yX0_init cX0_init 1 none, Cond.methodLink RX0 3 objectInit, Cond.fieldLink RX0 9 "LightFrame$Frame" "bottom" "J", Cond.arrayClass .long, Cond.fieldLink RX0 15 "LightFrame$Frame" "pullTops" "[J", Cond.methodLink RX4 32 yX1_init, Cond.instanceMethod yX1_init, Cond.code yX1_init cX1_init 2 none, Cond.methodLink RX1 3 objectInit, Cond.classLink RX1 9 "[[J", Cond.fieldLink RX1 11 "LightFrame$Inverse" "table" "[[J", Cond.fieldLink RX1 16 "LightFrame$Inverse" "bars" "[I", Cond.fieldLink RX1 20 "LightFrame$Inverse" "bottom" "J", Cond.fieldLink RX1 24 "LightFrame$Inverse" "plan" "LLightFrame$Plan;", Cond.methodLink RX5 27 yX3_init, Cond.instanceMethod yX3_init, Cond.code yX3_init cX3_init 3 none]
def wsL_law_r4 : List Cond := [Cond.methodLink RX3 3 objectInit, Cond.fieldLink RX3 9 "LightFrame$Proof" "bottom" "J", Cond.fieldLink RX3 15 "LightFrame$Proof" "tops" "[J", Cond.fieldLink RX3 19 "LightFrame$Proof" "wanted" "[J", Cond.fieldLink RX3 22 "LightFrame$Proof" "plan" "LLightFrame$Plan;", Cond.fieldLink RX3 26 "LightFrame$Proof" "search" "LLightFrame$Search;", Cond.methodLink RL 12 yX6_init, Cond.instanceMethod yX6_init, Cond.code yX6_init cX6_init 1 none, Cond.methodLink RX6 1 objectInit, Cond.fieldLink RX6 7 "LightFrameModel" "x" "[I", Cond.fieldLink RX6 13 "LightFrameModel" "y" "[I", Cond.arrayClass .boolean, Cond.fieldLink RX6 16 "LightFrameModel" "isFixed" "[Z", Cond.fieldLink RX6 20 "LightFrameModel" "px" "[I", Cond.fieldLink RX6 23 "LightFrameModel" "py" "[I", Cond.fieldLink RX6 26 "LightFrameModel" "from" "[I", Cond.fieldLink RX6 29 "LightFrameModel" "to" "[I", Cond.fieldLink RX6 32 "LightFrameModel" "size" "[I", Cond.fieldLink RX6 35 "LightFrameModel" "rowOf" "[I", Cond.fieldLink RX6 38 "LightFrameModel" "cell" "[J", Cond.fieldLink RX6 42 "LightFrameModel" "work" "[J", Cond.fieldLink RX6 45 "LightFrameModel" "right" "[J", Cond.fieldLink RX6 48 "LightFrameModel" "choice" "[I"]
def wsL_law_r5 : List Cond := [Cond.fieldLink RX6 51 "LightFrameModel" "bears" "[J", Cond.fieldLink RX6 54 "LightFrameModel" "field" "[J", Cond.methodLink RL 13 yX5_joint, Cond.instanceMethod yX5_joint, Cond.selects RX5 yX5_joint yX5_joint, Cond.code yX5_joint cX5_joint 4 (some .int), Cond.fieldLink RX5 38 "LightFrame$Plan" "joints" "I", Cond.fieldLink RX5 42 "LightFrame$Plan" "freeJoints" "I", Cond.methodLink RX5 34 yX5_isPlace, Cond.static yX5_isPlace, Cond.code yX5_isPlace cX5_isPlace 1 (some .boolean), Cond.methodLink RX5 45 yX2_hasJointAt, Cond.instanceMethod yX2_hasJointAt, Cond.selects RX2 yX2_hasJointAt yX2_hasJointAt, Cond.code yX2_hasJointAt cX2_hasJointAt 4 (some .boolean), Cond.fieldLink RX2 45 "LightFrame$Plan" "joints" "I", Cond.methodLink RX5 49 yX5_forgetAnswers, Cond.instanceMethod yX5_forgetAnswers, Cond.selects RX5 yX5_forgetAnswers yX5_forgetAnswers, Cond.code yX5_forgetAnswers cX5_forgetAnswers 1 none, Cond.fieldLink RX5 190 "LightFrame$Search" "known" "Z", Cond.fieldLink RX5 173 "LightFrame$Proof" "found" "Z", Cond.methodLink RX5 52 yX2_addJoint, Cond.instanceMethod yX2_addJoint]
def wsL_law_r6 : List Cond := [Cond.selects RX2 yX2_addJoint yX2_addJoint, Cond.code yX2_addJoint cX2_addJoint 5 (some .int), Cond.fieldLink RX2 52 "LightFrame$Plan" "freeJoints" "I", Cond.methodLink RX2 58 yX2_rows, Cond.instanceMethod yX2_rows, Cond.selects RX2 yX2_rows yX2_rows, Cond.code yX2_rows cX2_rows 1 (some .int), Cond.methodLink RL 17 yX6_joint, Cond.instanceMethod yX6_joint, Cond.selects RX6 yX6_joint yX6_joint, Cond.code yX6_joint cX6_joint 5 (some .int), Cond.constantLong RX6 72 (6), Cond.fieldLink RX6 57 "LightFrameModel" "joints" "I", Cond.fieldLink RX6 78 "LightFrameModel" "isProved" "Z", Cond.methodLink RX6 61 yX6_in, Cond.static yX6_in, Cond.code yX6_in cX6_in 6 (some .boolean), Cond.methodLink RX6 74 yX6_frees, Cond.instanceMethod yX6_frees, Cond.selects RX6 yX6_frees yX6_frees, Cond.code yX6_frees cX6_frees 3 (some .int), Cond.methodLink RL 18 yX5_bar, Cond.instanceMethod yX5_bar, Cond.selects RX5 yX5_bar yX5_bar]
def wsL_law_r7 : List Cond := [Cond.code yX5_bar cX5_bar 3 (some .int), Cond.fieldLink RX5 59 "LightFrame$Plan" "bars" "I", Cond.methodLink RX5 56 yX2_hasJoint, Cond.instanceMethod yX2_hasJoint, Cond.selects RX2 yX2_hasJoint yX2_hasJoint, Cond.code yX2_hasJoint cX2_hasJoint 2 (some .boolean), Cond.methodLink RX5 62 yX2_hasBarBetween, Cond.instanceMethod yX2_hasBarBetween, Cond.selects RX2 yX2_hasBarBetween yX2_hasBarBetween, Cond.code yX2_hasBarBetween cX2_hasBarBetween 4 (some .boolean), Cond.fieldLink RX2 49 "LightFrame$Plan" "bars" "I", Cond.methodLink RX5 65 yX2_addBar, Cond.instanceMethod yX2_addBar, Cond.selects RX2 yX2_addBar yX2_addBar, Cond.code yX2_addBar cX2_addBar 5 (some .int), Cond.methodLink RX2 62 yX2_meet, Cond.instanceMethod yX2_meet, Cond.selects RX2 yX2_meet yX2_meet, Cond.code yX2_meet cX2_meet 7 (some .boolean), Cond.methodLink RX2 75 yX2_sameWay, Cond.instanceMethod yX2_sameWay, Cond.selects RX2 yX2_sameWay yX2_sameWay, Cond.code yX2_sameWay cX2_sameWay 5 (some .boolean), Cond.methodLink RX2 83 yX2_side]
def wsL_law_r8 : List Cond := [Cond.instanceMethod yX2_side, Cond.selects RX2 yX2_side yX2_side, Cond.code yX2_side cX2_side 4 (some .int), Cond.methodLink RX2 79 yX2_touch, Cond.instanceMethod yX2_touch, Cond.selects RX2 yX2_touch yX2_touch, Cond.code yX2_touch cX2_touch 5 (some .boolean), Cond.methodLink RX2 87 yX2_isOn, Cond.instanceMethod yX2_isOn, Cond.selects RX2 yX2_isOn yX2_isOn, Cond.code yX2_isOn cX2_isOn 4 (some .boolean), Cond.methodLink RX2 72 Lib.Math.min.name, Cond.static Lib.Math.min.name, Cond.initialized "java/lang/Math", Cond.code Lib.Math.min.name Lib.Math.min.code 2 (some .int), Cond.methodLink RX2 66 Lib.Math.max.name, Cond.static Lib.Math.max.name, Cond.code Lib.Math.max.name Lib.Math.max.code 2 (some .int), Cond.methodLink RL 22 yX6_bar, Cond.instanceMethod yX6_bar, Cond.selects RX6 yX6_bar yX6_bar, Cond.code yX6_bar cX6_bar 4 (some .int), Cond.fieldLink RX6 65 "LightFrameModel" "bars" "I", Cond.methodLink RX6 82 yX6_isJoint]
def wsL_law_r9 : List Cond := [Cond.instanceMethod yX6_isJoint, Cond.selects RX6 yX6_isJoint yX6_isJoint, Cond.code yX6_isJoint cX6_isJoint 2 (some .boolean), Cond.methodLink RL 23 yX5_load, Cond.instanceMethod yX5_load, Cond.selects RX5 yX5_load yX5_load, Cond.code yX5_load cX5_load 5 (some .int), Cond.fieldLink RX5 72 "LightFrame$Plan" "row" "[I", Cond.fieldLink RX5 76 "LightFrame$Plan" "loads" "[I", Cond.methodLink RX5 69 yX5_isLoad, Cond.static yX5_isLoad, Cond.code yX5_isLoad cX5_isLoad 1 (some .boolean), Cond.methodLink RL 27 yX6_load, Cond.instanceMethod yX6_load, Cond.selects RX6 yX6_load yX6_load, Cond.code yX6_load cX6_load 4 (some .int), Cond.constantLong RX6 86 (-20), Cond.constantLong RX6 88 (20), Cond.methodLink RL 28 yX5_about, Cond.instanceMethod yX5_about, Cond.selects RX5 yX5_about yX5_about, Cond.code yX5_about cX5_about 4 (some .int), Cond.fieldLink RX5 79 "LightFrame$Plan" "x" "[I", Cond.fieldLink RX5 82 "LightFrame$Plan" "y" "[I"]
def wsL_law_r10 : List Cond := [Cond.methodLink RL 31 yX6_about, Cond.instanceMethod yX6_about, Cond.selects RX6 yX6_about yX6_about, Cond.code yX6_about cX6_about 3 (some .int), Cond.methodLink RL 32 yX5_ofBar, Cond.instanceMethod yX5_ofBar, Cond.selects RX5 yX5_ofBar yX5_ofBar, Cond.code yX5_ofBar cX5_ofBar 3 (some .int), Cond.fieldLink RX5 88 "LightFrame$Plan" "from" "[I", Cond.fieldLink RX5 91 "LightFrame$Plan" "to" "[I", Cond.fieldLink RX5 94 "LightFrame$Plan" "stuff" "[I", Cond.methodLink RX5 85 yX2_hasBar, Cond.instanceMethod yX2_hasBar, Cond.selects RX2 yX2_hasBar yX2_hasBar, Cond.code yX2_hasBar cX2_hasBar 2 (some .boolean), Cond.methodLink RL 35 yX6_ofBar, Cond.instanceMethod yX6_ofBar, Cond.selects RX6 yX6_ofBar yX6_ofBar, Cond.code yX6_ofBar cX6_ofBar 3 (some .int), Cond.methodLink RX6 90 yX6_isBar, Cond.instanceMethod yX6_isBar, Cond.selects RX6 yX6_isBar yX6_isBar, Cond.code yX6_isBar cX6_isBar 2 (some .boolean), Cond.methodLink RX6 93 yX6_stuff]
def wsL_law_r11 : List Cond := [Cond.instanceMethod yX6_stuff, Cond.selects RX6 yX6_stuff yX6_stuff, Cond.code yX6_stuff cX6_stuff 4 (some .int), Cond.methodLink RL 36 yX5_size, Cond.instanceMethod yX5_size, Cond.selects RX5 yX5_size yX5_size, Cond.code yX5_size cX5_size 2 (some .int), Cond.fieldLink RX5 97 "LightFrame$Plan" "sizeCount" "I", Cond.methodLink RX5 100 yX2_hasSize, Cond.instanceMethod yX2_hasSize, Cond.selects RX2 yX2_hasSize yX2_hasSize, Cond.code yX2_hasSize cX2_hasSize 3 (some .boolean), Cond.fieldLink RX2 55 "LightFrame$Plan" "sizeCount" "I", Cond.methodLink RX5 103 yX2_addSize, Cond.instanceMethod yX2_addSize, Cond.selects RX2 yX2_addSize yX2_addSize, Cond.code yX2_addSize cX2_addSize 2 (some .int), Cond.methodLink RL 40 yX6_size, Cond.instanceMethod yX6_size, Cond.selects RX6 yX6_size yX6_size, Cond.code yX6_size cX6_size 3 (some .int), Cond.constantLong RX6 97 (200), Cond.fieldLink RX6 99 "LightFrameModel" "sizes" "I", Cond.methodLink RL 41 yX5_price]
def wsL_law_r12 : List Cond := [Cond.instanceMethod yX5_price, Cond.selects RX5 yX5_price yX5_price, Cond.code yX5_price cX5_price 3 (some .int), Cond.fieldLink RX5 107 "LightFrame$Plan" "jointPrice" "I", Cond.methodLink RL 44 yX6_price, Cond.instanceMethod yX6_price, Cond.selects RX6 yX6_price yX6_price, Cond.code yX6_price cX6_price 3 (some .int), Cond.constantLong RX6 102 (1000), Cond.fieldLink RX6 104 "LightFrameModel" "price" "I", Cond.methodLink RL 45 yX5_drop, Cond.instanceMethod yX5_drop, Cond.selects RX5 yX5_drop yX5_drop, Cond.code yX5_drop cX5_drop 1 (some .int), Cond.methodLink RL 49 yX6_drop, Cond.instanceMethod yX6_drop, Cond.selects RX6 yX6_drop yX6_drop, Cond.code yX6_drop cX6_drop 1 (some .int), Cond.methodLink RL 50 yX5_cross, Cond.instanceMethod yX5_cross, Cond.selects RX5 yX5_cross yX5_cross, Cond.code yX5_cross cX5_cross 3 (some .int), Cond.methodLink RX5 110 yX2_barsCross, Cond.instanceMethod yX2_barsCross]
def wsL_law_r13 : List Cond := [Cond.selects RX2 yX2_barsCross yX2_barsCross, Cond.code yX2_barsCross cX2_barsCross 3 (some .boolean), Cond.methodLink RL 53 yX6_cross, Cond.instanceMethod yX6_cross, Cond.selects RX6 yX6_cross yX6_cross, Cond.code yX6_cross cX6_cross 3 (some .int), Cond.methodLink RX6 115 yX6_areCrossed, Cond.instanceMethod yX6_areCrossed, Cond.selects RX6 yX6_areCrossed yX6_areCrossed, Cond.code yX6_areCrossed cX6_areCrossed 10 (some .boolean), Cond.methodLink RX6 111 yX6_isOn, Cond.instanceMethod yX6_isOn, Cond.selects RX6 yX6_isOn yX6_isOn, Cond.code yX6_isOn cX6_isOn 5 (some .boolean), Cond.methodLink RX6 107 yX6_side, Cond.instanceMethod yX6_side, Cond.selects RX6 yX6_side yX6_side, Cond.code yX6_side cX6_side 5 (some .int), Cond.methodLink RL 54 yX5_stiff, Cond.instanceMethod yX5_stiff, Cond.selects RX5 yX5_stiff yX5_stiff, Cond.code yX5_stiff cX5_stiff 2 (some .int), Cond.methodLink RX5 113 yX4_run, Cond.instanceMethod yX4_run]
def wsL_law_r14 : List Cond := [Cond.selects RX4 yX4_run yX4_run, Cond.code yX4_run cX4_run 2 none, Cond.fieldLink RX4 42 "LightFrame$Search" "known" "Z", Cond.fieldLink RX4 46 "LightFrame$Search" "choiceCount" "I", Cond.fieldLink RX4 50 "LightFrame$Frame" "found" "Z", Cond.fieldLink RX4 53 "LightFrame$Plan" "bars" "I", Cond.methodLink RX4 58 yJ6_bitCount_0f7a4, Cond.static yJ6_bitCount_0f7a4, Cond.initialized RJ6, Cond.code yJ6_bitCount_0f7a4 cJ6_bitCount_0f7a4 1 (some .int), Cond.constant RJ6 265 (1431655765), Cond.constant RJ6 266 (858993459), Cond.constant RJ6 267 (252645135), Cond.methodLink RX4 64 yX2_rows, Cond.methodLink RX4 68 yX4_mirrored, Cond.instanceMethod yX4_mirrored, Cond.selects RX4 yX4_mirrored yX4_mirrored, Cond.code yX4_mirrored cX4_mirrored 4 (some .int), Cond.methodLink RX4 71 yX4_look, Cond.instanceMethod yX4_look, Cond.selects RX4 yX4_look yX4_look, Cond.code yX4_look cX4_look 5 none, Cond.constantLong RX4 133 (-1), Cond.fieldLink RX4 87 "LightFrame$Frame" "bottom" "J"]
def wsL_law_r15 : List Cond := [Cond.methodLink RX4 125 yX4_tryBars, Cond.instanceMethod yX4_tryBars, Cond.selects RX4 yX4_tryBars yX4_tryBars, Cond.code yX4_tryBars cX4_tryBars 3 (some .boolean), Cond.fieldLink RX4 82 "LightFrame$Frame" "bars" "I", Cond.fieldLink RX4 83 "LightFrame$Inverse" "bottom" "J", Cond.fieldLink RX4 88 "LightFrame$Frame" "usedBars" "I", Cond.fieldLink RX4 91 "LightFrame$Frame" "usedJoints" "I", Cond.fieldLink RX4 94 "LightFrame$Frame" "pullTops" "[J", Cond.fieldLink RX4 104 "LightFrame$Inverse" "rank" "I", Cond.methodLink RX4 75 yX1_take, Cond.instanceMethod yX1_take, Cond.selects RX1 yX1_take yX1_take, Cond.code yX1_take cX1_take 3 none, Cond.fieldLink RX1 34 "LightFrame$Inverse" "rank" "I", Cond.methodLink RX1 28 yX2_rows, Cond.methodLink RX1 38 yX1_listBars, Cond.instanceMethod yX1_listBars, Cond.selects RX1 yX1_listBars yX1_listBars, Cond.code yX1_listBars cX1_listBars 4 none, Cond.fieldLink RX1 48 "LightFrame$Plan" "bars" "I", Cond.methodLink RX1 42 yX1_clearTable, Cond.instanceMethod yX1_clearTable, Cond.selects RX1 yX1_clearTable yX1_clearTable]
def wsL_law_r16 : List Cond := [Cond.code yX1_clearTable cX1_clearTable 3 none, Cond.methodLink RX1 45 yX1_fillColumn, Cond.instanceMethod yX1_fillColumn, Cond.selects RX1 yX1_fillColumn yX1_fillColumn, Cond.code yX1_fillColumn cX1_fillColumn 5 none, Cond.fieldLink RX1 50 "LightFrame$Plan" "row" "[I", Cond.fieldLink RX1 53 "LightFrame$Plan" "from" "[I", Cond.fieldLink RX1 56 "LightFrame$Plan" "across" "[I", Cond.fieldLink RX1 59 "LightFrame$Plan" "up" "[I", Cond.fieldLink RX1 62 "LightFrame$Plan" "to" "[I", Cond.methodLink RX4 78 yX1_invert, Cond.instanceMethod yX1_invert, Cond.selects RX1 yX1_invert yX1_invert, Cond.code yX1_invert cX1_invert 5 (some .boolean), Cond.methodLink RX1 65 yX1_rowWithPivot, Cond.instanceMethod yX1_rowWithPivot, Cond.selects RX1 yX1_rowWithPivot yX1_rowWithPivot, Cond.code yX1_rowWithPivot cX1_rowWithPivot 3 (some .int), Cond.methodLink RX1 69 yX1_swapRows, Cond.instanceMethod yX1_swapRows, Cond.selects RX1 yX1_swapRows yX1_swapRows, Cond.code yX1_swapRows cX1_swapRows 6 none, Cond.methodLink RX1 73 yX1_clearColumn, Cond.instanceMethod yX1_clearColumn]
def wsL_law_r17 : List Cond := [Cond.selects RX1 yX1_clearColumn yX1_clearColumn, Cond.code yX1_clearColumn cX1_clearColumn 10 none, Cond.methodLink RX1 77 yX1_turnSigns, Cond.instanceMethod yX1_turnSigns, Cond.selects RX1 yX1_turnSigns yX1_turnSigns, Cond.code yX1_turnSigns cX1_turnSigns 3 none, Cond.methodLink RX4 98 yJ7_fill_d0a16, Cond.static yJ7_fill_d0a16, Cond.initialized RJ7, Cond.code yJ7_fill_d0a16 cJ7_fill_d0a16 5 none, Cond.methodLink RX4 107 yX4_takePull, Cond.instanceMethod yX4_takePull, Cond.selects RX4 yX4_takePull yX4_takePull, Cond.code yX4_takePull cX4_takePull 5 none, Cond.fieldLink RX4 147 "LightFrame$Plan" "loads" "[I", Cond.fieldLink RX4 150 "LightFrame$Inverse" "bars" "[I", Cond.fieldLink RX4 152 "LightFrame$Plan" "from" "[I", Cond.fieldLink RX4 155 "LightFrame$Plan" "to" "[I", Cond.methodLink RX4 143 yX1_at, Cond.instanceMethod yX1_at, Cond.selects RX1 yX1_at yX1_at, Cond.code yX1_at cX1_at 3 (some .long), Cond.methodLink RX4 129 yX4_trialTop, Cond.instanceMethod yX4_trialTop]
def wsL_law_r18 : List Cond := [Cond.selects RX4 yX4_trialTop yX4_trialTop, Cond.code yX4_trialTop cX4_trialTop 2 (some .long), Cond.methodLink RX4 158 yX4_usedBarsCross, Cond.instanceMethod yX4_usedBarsCross, Cond.selects RX4 yX4_usedBarsCross yX4_usedBarsCross, Cond.code yX4_usedBarsCross cX4_usedBarsCross 2 (some .boolean), Cond.fieldLink RX4 174 "LightFrame$Plan" "crossing" "[I", Cond.methodLink RX4 171 yX0_uses, Cond.instanceMethod yX0_uses, Cond.selects RX0 yX0_uses yX0_uses, Cond.code yX0_uses cX0_uses 2 (some .boolean), Cond.fieldLink RX0 19 "LightFrame$Frame" "usedBars" "I", Cond.methodLink RX4 161 yX4_lightestTop, Cond.instanceMethod yX4_lightestTop, Cond.selects RX4 yX4_lightestTop yX4_lightestTop, Cond.code yX4_lightestTop cX4_lightestTop 4 (some .long), Cond.fieldLink RX4 110 "LightFrame$Plan" "stuff" "[I", Cond.methodLink RX4 113 Lib.MathLoose.abs_long.x, Cond.static Lib.MathLoose.abs_long.x, Cond.code Lib.MathLoose.abs_long.x Lib.MathLoose.abs_long.code 2 (some .long), Cond.methodLink RX4 165 yX4_wholeSizesTop, Cond.instanceMethod yX4_wholeSizesTop, Cond.selects RX4 yX4_wholeSizesTop yX4_wholeSizesTop, Cond.code yX4_wholeSizesTop cX4_wholeSizesTop 5 (some .long)]
def wsL_law_r19 : List Cond := [Cond.methodLink RX4 177 yX4_leastSizeFor, Cond.instanceMethod yX4_leastSizeFor, Cond.selects RX4 yX4_leastSizeFor yX4_leastSizeFor, Cond.code yX4_leastSizeFor cX4_leastSizeFor 6 (some .int), Cond.fieldLink RX4 119 "LightFrame$Plan" "sizeCount" "I", Cond.fieldLink RX4 122 "LightFrame$Plan" "sizes" "[I", Cond.methodLink RX4 168 yX4_pricesTop, Cond.instanceMethod yX4_pricesTop, Cond.selects RX4 yX4_pricesTop yX4_pricesTop, Cond.code yX4_pricesTop cX4_pricesTop 1 (some .long), Cond.fieldLink RX4 181 "LightFrame$Plan" "jointPrice" "I", Cond.methodLink RX4 135 yX0_givesWayTo, Cond.instanceMethod yX0_givesWayTo, Cond.selects RX0 yX0_givesWayTo yX0_givesWayTo, Cond.code yX0_givesWayTo cX0_givesWayTo 5 (some .boolean), Cond.fieldLink RX0 23 "LightFrame$Frame" "found" "Z", Cond.fieldLink RX0 27 "LightFrame$Frame" "costTop" "J", Cond.methodLink RX4 139 yX0_become, Cond.instanceMethod yX0_become, Cond.selects RX0 yX0_become yX0_become, Cond.code yX0_become cX0_become 4 none, Cond.fieldLink RX0 30 "LightFrame$Frame" "bars" "I", Cond.fieldLink RX0 33 "LightFrame$Frame" "usedJoints" "I", Cond.methodLink RX0 36 arraycopyName]
def wsL_law_r20 : List Cond := [Cond.native arraycopyName, Cond.static arraycopyName, Cond.initialized "java/lang/System", Cond.methodLink RX5 116 yX4_hasChoiceIn, Cond.instanceMethod yX4_hasChoiceIn, Cond.selects RX4 yX4_hasChoiceIn yX4_hasChoiceIn, Cond.code yX4_hasChoiceIn cX4_hasChoiceIn 3 (some .boolean), Cond.methodLink RL 57 yX6_stiff, Cond.instanceMethod yX6_stiff, Cond.selects RX6 yX6_stiff yX6_stiff, Cond.code yX6_stiff cX6_stiff 3 (some .int), Cond.methodLink RX6 150 yX6_layRows, Cond.instanceMethod yX6_layRows, Cond.selects RX6 yX6_layRows yX6_layRows, Cond.code yX6_layRows cX6_layRows 2 none, Cond.fieldLink RX6 119 "LightFrameModel" "rows" "I", Cond.methodLink RX6 153 yX6_isChoice, Cond.instanceMethod yX6_isChoice, Cond.selects RX6 yX6_isChoice yX6_isChoice, Cond.code yX6_isChoice cX6_isChoice 5 (some .boolean), Cond.fieldLink RX6 126 "LightFrameModel" "chosen" "I", Cond.fieldLink RX6 136 "LightFrameModel" "below" "J", Cond.methodLink RX6 129 yX6_layCells, Cond.instanceMethod yX6_layCells]
def wsL_law_r21 : List Cond := [Cond.selects RX6 yX6_layCells yX6_layCells, Cond.code yX6_layCells cX6_layCells 4 none, Cond.methodLink RX6 122 yX6_put, Cond.instanceMethod yX6_put, Cond.selects RX6 yX6_put yX6_put, Cond.code yX6_put cX6_put 5 none, Cond.methodLink RX6 132 yX6_determinant, Cond.instanceMethod yX6_determinant, Cond.selects RX6 yX6_determinant yX6_determinant, Cond.code yX6_determinant cX6_determinant 11 (some .long), Cond.methodLink RX6 140 yX6_abs, Cond.static yX6_abs, Cond.code yX6_abs cX6_abs 2 (some .long), Cond.methodLink RL 58 yX5_choices, Cond.instanceMethod yX5_choices, Cond.selects RX5 yX5_choices yX5_choices, Cond.code yX5_choices cX5_choices 1 (some .int), Cond.fieldLink RX5 119 "LightFrame$Search" "choiceCount" "I", Cond.methodLink RL 61 yX6_choices, Cond.instanceMethod yX6_choices, Cond.selects RX6 yX6_choices yX6_choices, Cond.code yX6_choices cX6_choices 3 (some .int), Cond.methodLink RL 62 yX5_frame, Cond.instanceMethod yX5_frame]
def wsL_law_r22 : List Cond := [Cond.selects RX5 yX5_frame yX5_frame, Cond.code yX5_frame cX5_frame 3 (some .int), Cond.fieldLink RX5 129 "LightFrame$Frame" "found" "Z", Cond.fieldLink RX5 135 "LightFrame$Frame" "bars" "I", Cond.methodLink RX5 122 yX5_isKind, Cond.static yX5_isKind, Cond.code yX5_isKind cX5_isKind 1 (some .boolean), Cond.methodLink RX5 125 yX4_frameOf, Cond.instanceMethod yX4_frameOf, Cond.selects RX4 yX4_frameOf yX4_frameOf, Cond.code yX4_frameOf cX4_frameOf 2 (some (.object "LightFrame$Frame")), Cond.methodLink RX4 39 yX4_run, Cond.methodLink RL 65 yX6_frame, Cond.instanceMethod yX6_frame, Cond.selects RX6 yX6_frame yX6_frame, Cond.code yX6_frame cX6_frame 2 (some .int), Cond.methodLink RX6 176 yX6_isKind, Cond.static yX6_isKind, Cond.code yX6_isKind cX6_isKind 1 (some .boolean), Cond.constantLong RX6 174 (3), Cond.methodLink RX6 179 yX6_find, Cond.instanceMethod yX6_find, Cond.selects RX6 yX6_find yX6_find, Cond.code yX6_find cX6_find 8 (some .int)]
def wsL_law_r23 : List Cond := [Cond.fieldLink RX6 168 "LightFrameModel" "bestBelow" "J", Cond.fieldLink RX6 171 "LightFrameModel" "bestCost" "J", Cond.methodLink RX6 165 yX6_costOf, Cond.instanceMethod yX6_costOf, Cond.selects RX6 yX6_costOf yX6_costOf, Cond.code yX6_costOf cX6_costOf 7 (some .long), Cond.constantLong RX6 160 (-1), Cond.methodLink RX6 156 yX6_sizeFor, Cond.instanceMethod yX6_sizeFor, Cond.selects RX6 yX6_sizeFor yX6_sizeFor, Cond.code yX6_sizeFor cX6_sizeFor 6 (some .int), Cond.methodLink RX6 162 yX6_usedJoints, Cond.instanceMethod yX6_usedJoints, Cond.selects RX6 yX6_usedJoints yX6_usedJoints, Cond.code yX6_usedJoints cX6_usedJoints 3 (some .int), Cond.methodLink RX6 147 yX6_bits, Cond.static yX6_bits, Cond.code yX6_bits cX6_bits 3 (some .int), Cond.methodLink RX6 144 yX6_isAhead, Cond.static yX6_isAhead, Cond.code yX6_isAhead cX6_isAhead 3 (some .boolean), Cond.methodLink RL 66 yX5_cost, Cond.instanceMethod yX5_cost, Cond.selects RX5 yX5_cost yX5_cost]
def wsL_law_r24 : List Cond := [Cond.code yX5_cost cX5_cost 4 (some .long), Cond.constantLong RX5 139 (-1000000000000002), Cond.constantLong RX5 141 (-1000000000000006), Cond.fieldLink RX5 143 "LightFrame$Frame" "costTop" "J", Cond.fieldLink RX5 147 "LightFrame$Frame" "bottom" "J", Cond.methodLink RX5 136 yX5_isPart, Cond.static yX5_isPart, Cond.code yX5_isPart cX5_isPart 1 (some .boolean), Cond.methodLink RX5 150 yX5_partOf, Cond.static yX5_partOf, Cond.code yX5_partOf cX5_partOf 7 (some .long), Cond.methodLink RX5 193 Lib.MathLoose.abs_long.x, Cond.methodLink RX5 199 yX5_commonDivisor, Cond.static yX5_commonDivisor, Cond.code yX5_commonDivisor cX5_commonDivisor 11 (some .long), Cond.methodLink RL 70 yX6_cost, Cond.instanceMethod yX6_cost, Cond.selects RX6 yX6_cost yX6_cost, Cond.code yX6_cost cX6_cost 3 (some .long), Cond.constantLong RX6 185 (-1000000000000002), Cond.constantLong RX6 187 (-1000000000000006), Cond.methodLink RX6 182 yX6_isPart, Cond.static yX6_isPart, Cond.code yX6_isPart cX6_isPart 1 (some .boolean)]
def wsL_law_r25 : List Cond := [Cond.methodLink RX6 189 yX6_term, Cond.static yX6_term, Cond.code yX6_term cX6_term 7 (some .long), Cond.methodLink RX6 68 yX6_common, Cond.static yX6_common, Cond.code yX6_common cX6_common 10 (some .long), Cond.methodLink RL 71 yX5_pull, Cond.instanceMethod yX5_pull, Cond.selects RX5 yX5_pull yX5_pull, Cond.code yX5_pull cX5_pull 5 (some .long), Cond.constantLong RX5 154 (-1000000000000001), Cond.fieldLink RX5 156 "LightFrame$Frame" "pullTops" "[J", Cond.methodLink RL 75 yX6_pull, Cond.instanceMethod yX6_pull, Cond.selects RX6 yX6_pull yX6_pull, Cond.code yX6_pull cX6_pull 6 (some .long), Cond.constantLong RX6 193 (-1000000000000001), Cond.methodLink RX6 195 yX6_placeOf, Cond.instanceMethod yX6_placeOf, Cond.selects RX6 yX6_placeOf yX6_placeOf, Cond.code yX6_placeOf cX6_placeOf 4 (some .int), Cond.methodLink RL 76 yX5_used, Cond.instanceMethod yX5_used, Cond.selects RX5 yX5_used yX5_used]
def wsL_law_r26 : List Cond := [Cond.code yX5_used cX5_used 4 (some .int), Cond.fieldLink RX5 160 "LightFrame$Frame" "usedBars" "I", Cond.fieldLink RX5 163 "LightFrame$Frame" "usedJoints" "I", Cond.methodLink RL 79 yX6_used, Cond.instanceMethod yX6_used, Cond.selects RX6 yX6_used yX6_used, Cond.code yX6_used cX6_used 4 (some .int), Cond.methodLink RX6 198 yX6_usedBars, Cond.instanceMethod yX6_usedBars, Cond.selects RX6 yX6_usedBars yX6_usedBars, Cond.code yX6_usedBars cX6_usedBars 3 (some .int), Cond.methodLink RL 80 yX5_sized, Cond.instanceMethod yX5_sized, Cond.selects RX5 yX5_sized yX5_sized, Cond.code yX5_sized cX5_sized 3 (some .int), Cond.methodLink RX5 166 yX0_uses, Cond.methodLink RX5 169 yX4_leastSizeFor, Cond.methodLink RL 83 yX6_sized, Cond.instanceMethod yX6_sized, Cond.selects RX6 yX6_sized yX6_sized, Cond.code yX6_sized cX6_sized 4 (some .int), Cond.methodLink RL 84 yX5_prove, Cond.instanceMethod yX5_prove, Cond.selects RX5 yX5_prove yX5_prove]
def wsL_law_r27 : List Cond := [Cond.code yX5_prove cX5_prove 2 (some .int), Cond.fieldLink RX5 178 "LightFrame$Proof" "bars" "I", Cond.methodLink RX5 174 yX3_look, Cond.instanceMethod yX3_look, Cond.selects RX3 yX3_look yX3_look, Cond.code yX3_look cX3_look 3 none, Cond.fieldLink RX3 30 "LightFrame$Search" "choiceCount" "I", Cond.fieldLink RX3 36 "LightFrame$Proof" "found" "Z", Cond.fieldLink RX3 40 "LightFrame$Search" "choiceBars" "[I", Cond.methodLink RX3 44 yX4_tryBars, Cond.methodLink RX3 48 yX3_costsAsMuchAs, Cond.instanceMethod yX3_costsAsMuchAs, Cond.selects RX3 yX3_costsAsMuchAs yX3_costsAsMuchAs, Cond.code yX3_costsAsMuchAs cX3_costsAsMuchAs 2 (some .boolean), Cond.fieldLink RX3 89 "LightFrame$Frame" "bottom" "J", Cond.fieldLink RX3 92 "LightFrame$Frame" "costTop" "J", Cond.fieldLink RX3 95 "LightFrame$Search" "trial" "LLightFrame$Frame;", Cond.methodLink RX3 85 yX4_lightestTop, Cond.methodLink RX3 52 yX3_lookAtTrial, Cond.instanceMethod yX3_lookAtTrial, Cond.selects RX3 yX3_lookAtTrial yX3_lookAtTrial, Cond.code yX3_lookAtTrial cX3_lookAtTrial 3 none, Cond.fieldLink RX3 99 "LightFrame$Search" "inverse" "LLightFrame$Inverse;", Cond.fieldLink RX3 103 "LightFrame$Inverse" "rank" "I"]
def wsL_law_r28 : List Cond := [Cond.fieldLink RX3 108 "LightFrame$Frame" "usedBars" "I", Cond.fieldLink RX3 128 "LightFrame$Frame" "bars" "I", Cond.fieldLink RX3 131 "LightFrame$Proof" "bars" "I", Cond.methodLink RX3 111 yJ6_bitCount_0f7a4, Cond.methodLink RX3 117 yX3_setWanted, Cond.instanceMethod yX3_setWanted, Cond.selects RX3 yX3_setWanted yX3_setWanted, Cond.code yX3_setWanted cX3_setWanted 6 none, Cond.fieldLink RX3 132 "LightFrame$Inverse" "bars" "[I", Cond.fieldLink RX3 134 "LightFrame$Frame" "pullTops" "[J", Cond.fieldLink RX3 76 "LightFrame$Plan" "stuff" "[I", Cond.methodLink RX3 137 yX0_uses, Cond.methodLink RX3 121 yX3_setField, Cond.instanceMethod yX3_setField, Cond.selects RX3 yX3_setField yX3_setField, Cond.code yX3_setField cX3_setField 5 none, Cond.methodLink RX3 140 yX1_at, Cond.methodLink RX3 124 yX3_noBarExceeds, Cond.instanceMethod yX3_noBarExceeds, Cond.selects RX3 yX3_noBarExceeds yX3_noBarExceeds, Cond.code yX3_noBarExceeds cX3_noBarExceeds 2 (some .boolean), Cond.fieldLink RX3 143 "LightFrame$Plan" "bars" "I", Cond.methodLink RX3 144 yX3_slackTop, Cond.instanceMethod yX3_slackTop]
def wsL_law_r29 : List Cond := [Cond.selects RX3 yX3_slackTop yX3_slackTop, Cond.code yX3_slackTop cX3_slackTop 6 (some .long), Cond.fieldLink RX3 60 "LightFrame$Plan" "from" "[I", Cond.fieldLink RX3 63 "LightFrame$Plan" "to" "[I", Cond.fieldLink RX3 66 "LightFrame$Plan" "across" "[I", Cond.fieldLink RX3 73 "LightFrame$Plan" "up" "[I", Cond.methodLink RX3 79 Lib.MathLoose.abs_long.x, Cond.methodLink RX3 69 yX3_fieldTop, Cond.instanceMethod yX3_fieldTop, Cond.selects RX3 yX3_fieldTop yX3_fieldTop, Cond.code yX3_fieldTop cX3_fieldTop 4 (some .long), Cond.fieldLink RX3 55 "LightFrame$Plan" "row" "[I", Cond.methodLink RL 87 yX6_prove, Cond.instanceMethod yX6_prove, Cond.selects RX6 yX6_prove yX6_prove, Cond.code yX6_prove cX6_prove 4 (some .int), Cond.methodLink RX6 207 yX6_after, Cond.instanceMethod yX6_after, Cond.selects RX6 yX6_after yX6_after, Cond.code yX6_after cX6_after 5 (some .int), Cond.methodLink RX6 210 yX6_unused, Cond.instanceMethod yX6_unused, Cond.selects RX6 yX6_unused yX6_unused, Cond.code yX6_unused cX6_unused 3 (some .int)]
def wsL_law_r30 : List Cond := [Cond.methodLink RX6 213 yX6_isGood, Cond.instanceMethod yX6_isGood, Cond.selects RX6 yX6_isGood yX6_isGood, Cond.code yX6_isGood cX6_isGood 10 (some .boolean), Cond.fieldLink RX6 201 "LightFrameModel" "fieldBelow" "J", Cond.methodLink RX6 204 yX6_numberOf, Cond.instanceMethod yX6_numberOf, Cond.selects RX6 yX6_numberOf yX6_numberOf, Cond.code yX6_numberOf cX6_numberOf 6 (some .long), Cond.methodLink RL 88 yX5_field, Cond.instanceMethod yX5_field, Cond.selects RX5 yX5_field yX5_field, Cond.code yX5_field cX5_field 4 (some .long), Cond.constantLong RX5 179 (-1000000000000003), Cond.fieldLink RX5 185 "LightFrame$Proof" "bottom" "J", Cond.methodLink RX5 181 yX3_fieldTop, Cond.methodLink RL 91 yX6_field, Cond.instanceMethod yX6_field, Cond.selects RX6 yX6_field yX6_field, Cond.code yX6_field cX6_field 4 (some .long), Cond.constantLong RX6 216 (-1000000000000003), Cond.methodLink RL 92 yX5_slack, Cond.instanceMethod yX5_slack, Cond.selects RX5 yX5_slack yX5_slack]
def wsL_law_r31 : List Cond := [Cond.code yX5_slack cX5_slack 3 (some .long), Cond.methodLink RX5 186 yX3_slackTop, Cond.methodLink RL 95 yX6_slack, Cond.instanceMethod yX6_slack, Cond.selects RX6 yX6_slack yX6_slack, Cond.code yX6_slack cX6_slack 3 (some .long), Cond.methodLink RL 96 yX5_told, Cond.instanceMethod yX5_told, Cond.selects RX5 yX5_told yX5_told, Cond.code yX5_told cX5_told 2 (some .int), Cond.methodLink RL 99 yX6_told, Cond.instanceMethod yX6_told, Cond.selects RX6 yX6_told yX6_told, Cond.code yX6_told cX6_told 2 (some .int)]
def wsL_law : List Cond := (wsL_law_r1 ++ (wsL_law_r2 ++ (wsL_law_r3 ++ (wsL_law_r4 ++ (wsL_law_r5 ++ (wsL_law_r6 ++ (wsL_law_r7 ++ (wsL_law_r8 ++ (wsL_law_r9 ++ (wsL_law_r10 ++ (wsL_law_r11 ++ (wsL_law_r12 ++ (wsL_law_r13 ++ (wsL_law_r14 ++ (wsL_law_r15 ++ (wsL_law_r16 ++ (wsL_law_r17 ++ (wsL_law_r18 ++ (wsL_law_r19 ++ (wsL_law_r20 ++ (wsL_law_r21 ++ (wsL_law_r22 ++ (wsL_law_r23 ++ (wsL_law_r24 ++ (wsL_law_r25 ++ (wsL_law_r26 ++ (wsL_law_r27 ++ (wsL_law_r28 ++ (wsL_law_r29 ++ (wsL_law_r30 ++ wsL_law_r31)))))))))))))))))))))))))))))) ++ wsX50 ++ wsX60 ++ wsX20 ++ wsX40 ++ wsX30 ++ wsX00 ++ wsX10 ++ ([] : List Cond)
theorem inlX0 : ∀ w ∈ wsX00, w ∈ wsL_law := fun _ h => List.mem_append_left _ (List.mem_append_left _ (List.mem_append_right _ h))
theorem inlX1 : ∀ w ∈ wsX10, w ∈ wsL_law := fun _ h => List.mem_append_left _ (List.mem_append_right _ h)
theorem inlX2 : ∀ w ∈ wsX20, w ∈ wsL_law := fun _ h => List.mem_append_left _ (List.mem_append_left _ (List.mem_append_left _ (List.mem_append_left _ (List.mem_append_left _ (List.mem_append_right _ h)))))
theorem inlX3 : ∀ w ∈ wsX30, w ∈ wsL_law := fun _ h => List.mem_append_left _ (List.mem_append_left _ (List.mem_append_left _ (List.mem_append_right _ h)))
theorem inlX4 : ∀ w ∈ wsX40, w ∈ wsL_law := fun _ h => List.mem_append_left _ (List.mem_append_left _ (List.mem_append_left _ (List.mem_append_left _ (List.mem_append_right _ h))))
theorem inlX5 : ∀ w ∈ wsX50, w ∈ wsL_law := fun _ h => List.mem_append_left _ (List.mem_append_left _ (List.mem_append_left _ (List.mem_append_left _ (List.mem_append_left _ (List.mem_append_left _ (List.mem_append_left _ (List.mem_append_right _ h)))))))
theorem inlX6 : ∀ w ∈ wsX60, w ∈ wsL_law := fun _ h => List.mem_append_left _ (List.mem_append_left _ (List.mem_append_left _ (List.mem_append_left _ (List.mem_append_left _ (List.mem_append_left _ (List.mem_append_right _ h))))))
abbrev vwCl : List vw_C := [(RX0, TX0, 7), (RX1, TX1, 5), (RX2, TX2, 16), (RX3, TX3, 7), (RX4, TX4, 7), (RX5, TX5, 3), (RX6, TX6, 26)]
end
section
theorem dX6_init_0 : decode cX6_init 0 = .ok (.aload_n 0, 1) := by decide +kernel
theorem dX6_init_1 : decode cX6_init 1 = .ok (.invokespecial 1, 3) := by decide +kernel
theorem dX6_init_4 : decode cX6_init 4 = .ok (.aload_n 0, 1) := by decide +kernel
theorem dX6_init_5 : decode cX6_init 5 = .ok (.bipush 6, 2) := by decide +kernel
theorem dX6_init_7 : decode cX6_init 7 = .ok (.newarray .int, 2) := by decide +kernel
theorem dX6_init_9 : decode cX6_init 9 = .ok (.putfield 7, 3) := by decide +kernel
theorem dX6_init_12 : decode cX6_init 12 = .ok (.aload_n 0, 1) := by decide +kernel
theorem dX6_init_13 : decode cX6_init 13 = .ok (.bipush 6, 2) := by decide +kernel
theorem dX6_init_15 : decode cX6_init 15 = .ok (.newarray .int, 2) := by decide +kernel
theorem dX6_init_17 : decode cX6_init 17 = .ok (.putfield 13, 3) := by decide +kernel
theorem dX6_init_20 : decode cX6_init 20 = .ok (.aload_n 0, 1) := by decide +kernel
theorem dX6_init_21 : decode cX6_init 21 = .ok (.bipush 6, 2) := by decide +kernel
theorem dX6_init_23 : decode cX6_init 23 = .ok (.newarray .boolean, 2) := by decide +kernel
theorem dX6_init_25 : decode cX6_init 25 = .ok (.putfield 16, 3) := by decide +kernel
theorem dX6_init_28 : decode cX6_init 28 = .ok (.aload_n 0, 1) := by decide +kernel
theorem dX6_init_29 : decode cX6_init 29 = .ok (.bipush 6, 2) := by decide +kernel
theorem dX6_init_31 : decode cX6_init 31 = .ok (.newarray .int, 2) := by decide +kernel
theorem dX6_init_33 : decode cX6_init 33 = .ok (.putfield 20, 3) := by decide +kernel
theorem dX6_init_36 : decode cX6_init 36 = .ok (.aload_n 0, 1) := by decide +kernel
theorem dX6_init_37 : decode cX6_init 37 = .ok (.bipush 6, 2) := by decide +kernel
theorem dX6_init_39 : decode cX6_init 39 = .ok (.newarray .int, 2) := by decide +kernel
theorem dX6_init_41 : decode cX6_init 41 = .ok (.putfield 23, 3) := by decide +kernel
theorem dX6_init_44 : decode cX6_init 44 = .ok (.aload_n 0, 1) := by decide +kernel
theorem dX6_init_45 : decode cX6_init 45 = .ok (.bipush 10, 2) := by decide +kernel
theorem dX6_init_47 : decode cX6_init 47 = .ok (.newarray .int, 2) := by decide +kernel
theorem dX6_init_49 : decode cX6_init 49 = .ok (.putfield 26, 3) := by decide +kernel
theorem dX6_init_52 : decode cX6_init 52 = .ok (.aload_n 0, 1) := by decide +kernel
theorem dX6_init_53 : decode cX6_init 53 = .ok (.bipush 10, 2) := by decide +kernel
theorem dX6_init_55 : decode cX6_init 55 = .ok (.newarray .int, 2) := by decide +kernel
theorem dX6_init_57 : decode cX6_init 57 = .ok (.putfield 29, 3) := by decide +kernel
theorem dX6_init_60 : decode cX6_init 60 = .ok (.aload_n 0, 1) := by decide +kernel
theorem dX6_init_61 : decode cX6_init 61 = .ok (.iconst 5, 1) := by decide +kernel
theorem dX6_init_62 : decode cX6_init 62 = .ok (.newarray .int, 2) := by decide +kernel
theorem dX6_init_64 : decode cX6_init 64 = .ok (.putfield 32, 3) := by decide +kernel
theorem dX6_init_67 : decode cX6_init 67 = .ok (.aload_n 0, 1) := by decide +kernel
theorem dX6_init_68 : decode cX6_init 68 = .ok (.bipush 6, 2) := by decide +kernel
theorem dX6_init_70 : decode cX6_init 70 = .ok (.newarray .int, 2) := by decide +kernel
theorem dX6_init_72 : decode cX6_init 72 = .ok (.putfield 35, 3) := by decide +kernel
theorem dX6_init_75 : decode cX6_init 75 = .ok (.aload_n 0, 1) := by decide +kernel
theorem dX6_init_76 : decode cX6_init 76 = .ok (.bipush 36, 2) := by decide +kernel
theorem dX6_init_78 : decode cX6_init 78 = .ok (.newarray .long, 2) := by decide +kernel
theorem dX6_init_80 : decode cX6_init 80 = .ok (.putfield 38, 3) := by decide +kernel
theorem dX6_init_83 : decode cX6_init 83 = .ok (.aload_n 0, 1) := by decide +kernel
theorem dX6_init_84 : decode cX6_init 84 = .ok (.bipush 36, 2) := by decide +kernel
theorem dX6_init_86 : decode cX6_init 86 = .ok (.newarray .long, 2) := by decide +kernel
theorem dX6_init_88 : decode cX6_init 88 = .ok (.putfield 42, 3) := by decide +kernel
theorem dX6_init_91 : decode cX6_init 91 = .ok (.aload_n 0, 1) := by decide +kernel
theorem dX6_init_92 : decode cX6_init 92 = .ok (.bipush 6, 2) := by decide +kernel
theorem dX6_init_94 : decode cX6_init 94 = .ok (.newarray .long, 2) := by decide +kernel
theorem dX6_init_96 : decode cX6_init 96 = .ok (.putfield 45, 3) := by decide +kernel
theorem dX6_init_99 : decode cX6_init 99 = .ok (.aload_n 0, 1) := by decide +kernel
theorem dX6_init_100 : decode cX6_init 100 = .ok (.bipush 6, 2) := by decide +kernel
theorem dX6_init_102 : decode cX6_init 102 = .ok (.newarray .int, 2) := by decide +kernel
theorem dX6_init_104 : decode cX6_init 104 = .ok (.putfield 48, 3) := by decide +kernel
theorem dX6_init_107 : decode cX6_init 107 = .ok (.aload_n 0, 1) := by decide +kernel
theorem dX6_init_108 : decode cX6_init 108 = .ok (.bipush 6, 2) := by decide +kernel
theorem dX6_init_110 : decode cX6_init 110 = .ok (.newarray .long, 2) := by decide +kernel
theorem dX6_init_112 : decode cX6_init 112 = .ok (.putfield 51, 3) := by decide +kernel
theorem dX6_init_115 : decode cX6_init 115 = .ok (.aload_n 0, 1) := by decide +kernel
theorem dX6_init_116 : decode cX6_init 116 = .ok (.bipush 6, 2) := by decide +kernel
theorem dX6_init_118 : decode cX6_init 118 = .ok (.newarray .long, 2) := by decide +kernel
theorem dX6_init_120 : decode cX6_init 120 = .ok (.putfield 54, 3) := by decide +kernel
theorem dX6_init_123 : decode cX6_init 123 = .ok (.return_, 1) := by decide +kernel
theorem dX6_in_0 : decode cX6_in 0 = .ok (.lload_n 0, 1) := by decide +kernel
theorem dX6_in_1 : decode cX6_in 1 = .ok (.lload_n 2, 1) := by decide +kernel
theorem dX6_in_2 : decode cX6_in 2 = .ok (.lcmp, 1) := by decide +kernel
theorem dX6_in_3 : decode cX6_in 3 = .ok (.ifCond .lt 14, 3) := by decide +kernel
theorem dX6_in_6 : decode cX6_in 6 = .ok (.lload_n 0, 1) := by decide +kernel
theorem dX6_in_7 : decode cX6_in 7 = .ok (.lload 4, 2) := by decide +kernel
theorem dX6_in_9 : decode cX6_in 9 = .ok (.lcmp, 1) := by decide +kernel
theorem dX6_in_10 : decode cX6_in 10 = .ok (.ifCond .gt 7, 3) := by decide +kernel
theorem dX6_in_13 : decode cX6_in 13 = .ok (.iconst 1, 1) := by decide +kernel
theorem dX6_in_14 : decode cX6_in 14 = .ok (.goto 4, 3) := by decide +kernel
theorem dX6_in_17 : decode cX6_in 17 = .ok (.iconst 0, 1) := by decide +kernel
theorem dX6_in_18 : decode cX6_in 18 = .ok (.ireturn, 1) := by decide +kernel
theorem dX6_isJoint_0 : decode cX6_isJoint 0 = .ok (.iload_n 1, 1) := by decide +kernel
theorem dX6_isJoint_1 : decode cX6_isJoint 1 = .ok (.i2l, 1) := by decide +kernel
theorem dX6_isJoint_2 : decode cX6_isJoint 2 = .ok (.lconst 0, 1) := by decide +kernel
theorem dX6_isJoint_3 : decode cX6_isJoint 3 = .ok (.aload_n 0, 1) := by decide +kernel
theorem dX6_isJoint_4 : decode cX6_isJoint 4 = .ok (.getfield 57, 3) := by decide +kernel
theorem dX6_isJoint_7 : decode cX6_isJoint 7 = .ok (.iconst 1, 1) := by decide +kernel
theorem dX6_isJoint_8 : decode cX6_isJoint 8 = .ok (.isub, 1) := by decide +kernel
theorem dX6_isJoint_9 : decode cX6_isJoint 9 = .ok (.i2l, 1) := by decide +kernel
theorem dX6_isJoint_10 : decode cX6_isJoint 10 = .ok (.invokestatic 61, 3) := by decide +kernel
theorem dX6_isJoint_13 : decode cX6_isJoint 13 = .ok (.ireturn, 1) := by decide +kernel
theorem dX6_isBar_0 : decode cX6_isBar 0 = .ok (.iload_n 1, 1) := by decide +kernel
theorem dX6_isBar_1 : decode cX6_isBar 1 = .ok (.i2l, 1) := by decide +kernel
theorem dX6_isBar_2 : decode cX6_isBar 2 = .ok (.lconst 0, 1) := by decide +kernel
theorem dX6_isBar_3 : decode cX6_isBar 3 = .ok (.aload_n 0, 1) := by decide +kernel
theorem dX6_isBar_4 : decode cX6_isBar 4 = .ok (.getfield 65, 3) := by decide +kernel
theorem dX6_isBar_7 : decode cX6_isBar 7 = .ok (.iconst 1, 1) := by decide +kernel
theorem dX6_isBar_8 : decode cX6_isBar 8 = .ok (.isub, 1) := by decide +kernel
theorem dX6_isBar_9 : decode cX6_isBar 9 = .ok (.i2l, 1) := by decide +kernel
theorem dX6_isBar_10 : decode cX6_isBar 10 = .ok (.invokestatic 61, 3) := by decide +kernel
theorem dX6_isBar_13 : decode cX6_isBar 13 = .ok (.ireturn, 1) := by decide +kernel
theorem dX6_common_0 : decode cX6_common 0 = .ok (.lload_n 0, 1) := by decide +kernel
theorem dX6_common_1 : decode cX6_common 1 = .ok (.lconst 0, 1) := by decide +kernel
theorem dX6_common_2 : decode cX6_common 2 = .ok (.lcmp, 1) := by decide +kernel
theorem dX6_common_3 : decode cX6_common 3 = .ok (.ifCond .ge 8, 3) := by decide +kernel
theorem dX6_common_6 : decode cX6_common 6 = .ok (.lload_n 0, 1) := by decide +kernel
theorem dX6_common_7 : decode cX6_common 7 = .ok (.lneg, 1) := by decide +kernel
theorem dX6_common_8 : decode cX6_common 8 = .ok (.goto 4, 3) := by decide +kernel
theorem dX6_common_11 : decode cX6_common 11 = .ok (.lload_n 0, 1) := by decide +kernel
theorem dX6_common_12 : decode cX6_common 12 = .ok (.lstore 4, 2) := by decide +kernel
theorem dX6_common_14 : decode cX6_common 14 = .ok (.lload_n 2, 1) := by decide +kernel
theorem dX6_common_15 : decode cX6_common 15 = .ok (.lstore 6, 2) := by decide +kernel
theorem dX6_common_17 : decode cX6_common 17 = .ok (.lload 6, 2) := by decide +kernel
theorem dX6_common_19 : decode cX6_common 19 = .ok (.lconst 0, 1) := by decide +kernel
theorem dX6_common_20 : decode cX6_common 20 = .ok (.lcmp, 1) := by decide +kernel
theorem dX6_common_21 : decode cX6_common 21 = .ok (.ifCond .eq 21, 3) := by decide +kernel
theorem dX6_common_24 : decode cX6_common 24 = .ok (.lload 4, 2) := by decide +kernel
theorem dX6_common_26 : decode cX6_common 26 = .ok (.lload 6, 2) := by decide +kernel
theorem dX6_common_28 : decode cX6_common 28 = .ok (.lrem, 1) := by decide +kernel
theorem dX6_common_29 : decode cX6_common 29 = .ok (.lstore 8, 2) := by decide +kernel
theorem dX6_common_31 : decode cX6_common 31 = .ok (.lload 6, 2) := by decide +kernel
theorem dX6_common_33 : decode cX6_common 33 = .ok (.lstore 4, 2) := by decide +kernel
theorem dX6_common_35 : decode cX6_common 35 = .ok (.lload 8, 2) := by decide +kernel
theorem dX6_common_37 : decode cX6_common 37 = .ok (.lstore 6, 2) := by decide +kernel
theorem dX6_common_39 : decode cX6_common 39 = .ok (.goto (-22), 3) := by decide +kernel
theorem dX6_common_42 : decode cX6_common 42 = .ok (.lload 4, 2) := by decide +kernel
theorem dX6_common_44 : decode cX6_common 44 = .ok (.lreturn, 1) := by decide +kernel
theorem dX6_term_0 : decode cX6_term 0 = .ok (.lload_n 0, 1) := by decide +kernel
theorem dX6_term_1 : decode cX6_term 1 = .ok (.lload_n 2, 1) := by decide +kernel
theorem dX6_term_2 : decode cX6_term 2 = .ok (.invokestatic 68, 3) := by decide +kernel
theorem dX6_term_5 : decode cX6_term 5 = .ok (.lstore 5, 2) := by decide +kernel
theorem dX6_term_7 : decode cX6_term 7 = .ok (.iload 4, 2) := by decide +kernel
theorem dX6_term_9 : decode cX6_term 9 = .ok (.ifCond .ne 10, 3) := by decide +kernel
theorem dX6_term_12 : decode cX6_term 12 = .ok (.lload_n 0, 1) := by decide +kernel
theorem dX6_term_13 : decode cX6_term 13 = .ok (.lload 5, 2) := by decide +kernel
theorem dX6_term_15 : decode cX6_term 15 = .ok (.ldiv, 1) := by decide +kernel
theorem dX6_term_16 : decode cX6_term 16 = .ok (.goto 7, 3) := by decide +kernel
theorem dX6_term_19 : decode cX6_term 19 = .ok (.lload_n 2, 1) := by decide +kernel
theorem dX6_term_20 : decode cX6_term 20 = .ok (.lload 5, 2) := by decide +kernel
theorem dX6_term_22 : decode cX6_term 22 = .ok (.ldiv, 1) := by decide +kernel
theorem dX6_term_23 : decode cX6_term 23 = .ok (.lreturn, 1) := by decide +kernel
theorem dX6_abs_0 : decode cX6_abs 0 = .ok (.lload_n 0, 1) := by decide +kernel
theorem dX6_abs_1 : decode cX6_abs 1 = .ok (.lconst 0, 1) := by decide +kernel
theorem dX6_abs_2 : decode cX6_abs 2 = .ok (.lcmp, 1) := by decide +kernel
theorem dX6_abs_3 : decode cX6_abs 3 = .ok (.ifCond .ge 8, 3) := by decide +kernel
theorem dX6_abs_6 : decode cX6_abs 6 = .ok (.lload_n 0, 1) := by decide +kernel
theorem dX6_abs_7 : decode cX6_abs 7 = .ok (.lneg, 1) := by decide +kernel
theorem dX6_abs_8 : decode cX6_abs 8 = .ok (.goto 4, 3) := by decide +kernel
theorem dX6_abs_11 : decode cX6_abs 11 = .ok (.lload_n 0, 1) := by decide +kernel
theorem dX6_abs_12 : decode cX6_abs 12 = .ok (.lreturn, 1) := by decide +kernel
theorem dX6_frees_0 : decode cX6_frees 0 = .ok (.iconst 0, 1) := by decide +kernel
theorem dX6_frees_1 : decode cX6_frees 1 = .ok (.istore_n 1, 1) := by decide +kernel
theorem dX6_frees_2 : decode cX6_frees 2 = .ok (.iconst 0, 1) := by decide +kernel
theorem dX6_frees_3 : decode cX6_frees 3 = .ok (.istore_n 2, 1) := by decide +kernel
theorem dX6_frees_4 : decode cX6_frees 4 = .ok (.iload_n 2, 1) := by decide +kernel
theorem dX6_frees_5 : decode cX6_frees 5 = .ok (.aload_n 0, 1) := by decide +kernel
theorem dX6_frees_6 : decode cX6_frees 6 = .ok (.getfield 57, 3) := by decide +kernel
theorem dX6_frees_9 : decode cX6_frees 9 = .ok (.if_icmp .ge 26, 3) := by decide +kernel
theorem dX6_frees_12 : decode cX6_frees 12 = .ok (.iload_n 1, 1) := by decide +kernel
theorem dX6_frees_13 : decode cX6_frees 13 = .ok (.aload_n 0, 1) := by decide +kernel
theorem dX6_frees_14 : decode cX6_frees 14 = .ok (.getfield 16, 3) := by decide +kernel
theorem dX6_frees_17 : decode cX6_frees 17 = .ok (.iload_n 2, 1) := by decide +kernel
theorem dX6_frees_18 : decode cX6_frees 18 = .ok (.baload, 1) := by decide +kernel
theorem dX6_frees_19 : decode cX6_frees 19 = .ok (.ifCond .eq 7, 3) := by decide +kernel
theorem dX6_frees_22 : decode cX6_frees 22 = .ok (.iconst 0, 1) := by decide +kernel
theorem dX6_frees_23 : decode cX6_frees 23 = .ok (.goto 4, 3) := by decide +kernel
theorem dX6_frees_26 : decode cX6_frees 26 = .ok (.iconst 1, 1) := by decide +kernel
theorem dX6_frees_27 : decode cX6_frees 27 = .ok (.iadd, 1) := by decide +kernel
theorem dX6_frees_28 : decode cX6_frees 28 = .ok (.istore_n 1, 1) := by decide +kernel
theorem dX6_frees_29 : decode cX6_frees 29 = .ok (.iinc 2 1, 3) := by decide +kernel
theorem dX6_frees_32 : decode cX6_frees 32 = .ok (.goto (-28), 3) := by decide +kernel
theorem dX6_frees_35 : decode cX6_frees 35 = .ok (.iload_n 1, 1) := by decide +kernel
theorem dX6_frees_36 : decode cX6_frees 36 = .ok (.ireturn, 1) := by decide +kernel
theorem dX6_joint_0 : decode cX6_joint 0 = .ok (.iload_n 1, 1) := by decide +kernel
theorem dX6_joint_1 : decode cX6_joint 1 = .ok (.i2l, 1) := by decide +kernel
theorem dX6_joint_2 : decode cX6_joint 2 = .ok (.lconst 0, 1) := by decide +kernel
theorem dX6_joint_3 : decode cX6_joint 3 = .ok (.ldc2_w 72, 3) := by decide +kernel
theorem dX6_joint_6 : decode cX6_joint 6 = .ok (.invokestatic 61, 3) := by decide +kernel
theorem dX6_joint_9 : decode cX6_joint 9 = .ok (.ifCond .eq 15, 3) := by decide +kernel
theorem dX6_joint_12 : decode cX6_joint 12 = .ok (.iload_n 2, 1) := by decide +kernel
theorem dX6_joint_13 : decode cX6_joint 13 = .ok (.i2l, 1) := by decide +kernel
theorem dX6_joint_14 : decode cX6_joint 14 = .ok (.lconst 0, 1) := by decide +kernel
theorem dX6_joint_15 : decode cX6_joint 15 = .ok (.ldc2_w 72, 3) := by decide +kernel
theorem dX6_joint_18 : decode cX6_joint 18 = .ok (.invokestatic 61, 3) := by decide +kernel
theorem dX6_joint_21 : decode cX6_joint 21 = .ok (.ifCond .ne 6, 3) := by decide +kernel
theorem dX6_joint_24 : decode cX6_joint 24 = .ok (.bipush (-2), 2) := by decide +kernel
theorem dX6_joint_26 : decode cX6_joint 26 = .ok (.ireturn, 1) := by decide +kernel
theorem dX6_joint_27 : decode cX6_joint 27 = .ok (.aload_n 0, 1) := by decide +kernel
theorem dX6_joint_28 : decode cX6_joint 28 = .ok (.getfield 57, 3) := by decide +kernel
theorem dX6_joint_31 : decode cX6_joint 31 = .ok (.bipush 6, 2) := by decide +kernel
theorem dX6_joint_33 : decode cX6_joint 33 = .ok (.if_icmp .eq 15, 3) := by decide +kernel
theorem dX6_joint_36 : decode cX6_joint 36 = .ok (.iload_n 3, 1) := by decide +kernel
theorem dX6_joint_37 : decode cX6_joint 37 = .ok (.ifCond .ne 14, 3) := by decide +kernel
theorem dX6_joint_40 : decode cX6_joint 40 = .ok (.aload_n 0, 1) := by decide +kernel
theorem dX6_joint_41 : decode cX6_joint 41 = .ok (.invokevirtual 74, 3) := by decide +kernel
theorem dX6_joint_44 : decode cX6_joint 44 = .ok (.iconst 3, 1) := by decide +kernel
theorem dX6_joint_45 : decode cX6_joint 45 = .ok (.if_icmp .ne 6, 3) := by decide +kernel
theorem dX6_joint_48 : decode cX6_joint 48 = .ok (.bipush (-4), 2) := by decide +kernel
theorem dX6_joint_50 : decode cX6_joint 50 = .ok (.ireturn, 1) := by decide +kernel
theorem dX6_joint_51 : decode cX6_joint 51 = .ok (.iconst 0, 1) := by decide +kernel
theorem dX6_joint_52 : decode cX6_joint 52 = .ok (.istore 4, 2) := by decide +kernel
theorem dX6_joint_54 : decode cX6_joint 54 = .ok (.iload 4, 2) := by decide +kernel
theorem dX6_joint_56 : decode cX6_joint 56 = .ok (.aload_n 0, 1) := by decide +kernel
theorem dX6_joint_57 : decode cX6_joint 57 = .ok (.getfield 57, 3) := by decide +kernel
theorem dX6_joint_60 : decode cX6_joint 60 = .ok (.if_icmp .ge 34, 3) := by decide +kernel
theorem dX6_joint_63 : decode cX6_joint 63 = .ok (.aload_n 0, 1) := by decide +kernel
theorem dX6_joint_64 : decode cX6_joint 64 = .ok (.getfield 7, 3) := by decide +kernel
theorem dX6_joint_67 : decode cX6_joint 67 = .ok (.iload 4, 2) := by decide +kernel
theorem dX6_joint_69 : decode cX6_joint 69 = .ok (.iaload, 1) := by decide +kernel
theorem dX6_joint_70 : decode cX6_joint 70 = .ok (.iload_n 1, 1) := by decide +kernel
theorem dX6_joint_71 : decode cX6_joint 71 = .ok (.if_icmp .ne 17, 3) := by decide +kernel
theorem dX6_joint_74 : decode cX6_joint 74 = .ok (.aload_n 0, 1) := by decide +kernel
theorem dX6_joint_75 : decode cX6_joint 75 = .ok (.getfield 13, 3) := by decide +kernel
theorem dX6_joint_78 : decode cX6_joint 78 = .ok (.iload 4, 2) := by decide +kernel
theorem dX6_joint_80 : decode cX6_joint 80 = .ok (.iaload, 1) := by decide +kernel
theorem dX6_joint_81 : decode cX6_joint 81 = .ok (.iload_n 2, 1) := by decide +kernel
theorem dX6_joint_82 : decode cX6_joint 82 = .ok (.if_icmp .ne 6, 3) := by decide +kernel
theorem dX6_joint_85 : decode cX6_joint 85 = .ok (.bipush (-5), 2) := by decide +kernel
theorem dX6_joint_87 : decode cX6_joint 87 = .ok (.ireturn, 1) := by decide +kernel
theorem dX6_joint_88 : decode cX6_joint 88 = .ok (.iinc 4 1, 3) := by decide +kernel
theorem dX6_joint_91 : decode cX6_joint 91 = .ok (.goto (-37), 3) := by decide +kernel
theorem dX6_joint_94 : decode cX6_joint 94 = .ok (.aload_n 0, 1) := by decide +kernel
theorem dX6_joint_95 : decode cX6_joint 95 = .ok (.getfield 7, 3) := by decide +kernel
theorem dX6_joint_98 : decode cX6_joint 98 = .ok (.aload_n 0, 1) := by decide +kernel
theorem dX6_joint_99 : decode cX6_joint 99 = .ok (.getfield 57, 3) := by decide +kernel
theorem dX6_joint_102 : decode cX6_joint 102 = .ok (.iload_n 1, 1) := by decide +kernel
theorem dX6_joint_103 : decode cX6_joint 103 = .ok (.iastore, 1) := by decide +kernel
theorem dX6_joint_104 : decode cX6_joint 104 = .ok (.aload_n 0, 1) := by decide +kernel
theorem dX6_joint_105 : decode cX6_joint 105 = .ok (.getfield 13, 3) := by decide +kernel
theorem dX6_joint_108 : decode cX6_joint 108 = .ok (.aload_n 0, 1) := by decide +kernel
theorem dX6_joint_109 : decode cX6_joint 109 = .ok (.getfield 57, 3) := by decide +kernel
theorem dX6_joint_112 : decode cX6_joint 112 = .ok (.iload_n 2, 1) := by decide +kernel
theorem dX6_joint_113 : decode cX6_joint 113 = .ok (.iastore, 1) := by decide +kernel
theorem dX6_joint_114 : decode cX6_joint 114 = .ok (.aload_n 0, 1) := by decide +kernel
theorem dX6_joint_115 : decode cX6_joint 115 = .ok (.getfield 16, 3) := by decide +kernel
theorem dX6_joint_118 : decode cX6_joint 118 = .ok (.aload_n 0, 1) := by decide +kernel
theorem dX6_joint_119 : decode cX6_joint 119 = .ok (.getfield 57, 3) := by decide +kernel
theorem dX6_joint_122 : decode cX6_joint 122 = .ok (.iload_n 3, 1) := by decide +kernel
theorem dX6_joint_123 : decode cX6_joint 123 = .ok (.bastore, 1) := by decide +kernel
theorem dX6_joint_124 : decode cX6_joint 124 = .ok (.aload_n 0, 1) := by decide +kernel
theorem dX6_joint_125 : decode cX6_joint 125 = .ok (.getfield 20, 3) := by decide +kernel
theorem dX6_joint_128 : decode cX6_joint 128 = .ok (.aload_n 0, 1) := by decide +kernel
theorem dX6_joint_129 : decode cX6_joint 129 = .ok (.getfield 57, 3) := by decide +kernel
theorem dX6_joint_132 : decode cX6_joint 132 = .ok (.iconst 0, 1) := by decide +kernel
theorem dX6_joint_133 : decode cX6_joint 133 = .ok (.iastore, 1) := by decide +kernel
theorem dX6_joint_134 : decode cX6_joint 134 = .ok (.aload_n 0, 1) := by decide +kernel
theorem dX6_joint_135 : decode cX6_joint 135 = .ok (.getfield 23, 3) := by decide +kernel
theorem dX6_joint_138 : decode cX6_joint 138 = .ok (.aload_n 0, 1) := by decide +kernel
theorem dX6_joint_139 : decode cX6_joint 139 = .ok (.getfield 57, 3) := by decide +kernel
theorem dX6_joint_142 : decode cX6_joint 142 = .ok (.iconst 0, 1) := by decide +kernel
theorem dX6_joint_143 : decode cX6_joint 143 = .ok (.iastore, 1) := by decide +kernel
theorem dX6_joint_144 : decode cX6_joint 144 = .ok (.aload_n 0, 1) := by decide +kernel
theorem dX6_joint_145 : decode cX6_joint 145 = .ok (.dup, 1) := by decide +kernel
theorem dX6_joint_146 : decode cX6_joint 146 = .ok (.getfield 57, 3) := by decide +kernel
theorem dX6_joint_149 : decode cX6_joint 149 = .ok (.iconst 1, 1) := by decide +kernel
theorem dX6_joint_150 : decode cX6_joint 150 = .ok (.iadd, 1) := by decide +kernel
theorem dX6_joint_151 : decode cX6_joint 151 = .ok (.putfield 57, 3) := by decide +kernel
theorem dX6_joint_154 : decode cX6_joint 154 = .ok (.aload_n 0, 1) := by decide +kernel
theorem dX6_joint_155 : decode cX6_joint 155 = .ok (.iconst 0, 1) := by decide +kernel
theorem dX6_joint_156 : decode cX6_joint 156 = .ok (.putfield 78, 3) := by decide +kernel
theorem dX6_joint_159 : decode cX6_joint 159 = .ok (.aload_n 0, 1) := by decide +kernel
theorem dX6_joint_160 : decode cX6_joint 160 = .ok (.getfield 57, 3) := by decide +kernel
theorem dX6_joint_163 : decode cX6_joint 163 = .ok (.iconst 1, 1) := by decide +kernel
theorem dX6_joint_164 : decode cX6_joint 164 = .ok (.isub, 1) := by decide +kernel
theorem dX6_joint_165 : decode cX6_joint 165 = .ok (.ireturn, 1) := by decide +kernel
theorem dX6_bar_0 : decode cX6_bar 0 = .ok (.aload_n 0, 1) := by decide +kernel
theorem dX6_bar_1 : decode cX6_bar 1 = .ok (.iload_n 1, 1) := by decide +kernel
theorem dX6_bar_2 : decode cX6_bar 2 = .ok (.invokevirtual 82, 3) := by decide +kernel
theorem dX6_bar_5 : decode cX6_bar 5 = .ok (.ifCond .eq 16, 3) := by decide +kernel
theorem dX6_bar_8 : decode cX6_bar 8 = .ok (.aload_n 0, 1) := by decide +kernel
theorem dX6_bar_9 : decode cX6_bar 9 = .ok (.iload_n 2, 1) := by decide +kernel
theorem dX6_bar_10 : decode cX6_bar 10 = .ok (.invokevirtual 82, 3) := by decide +kernel
theorem dX6_bar_13 : decode cX6_bar 13 = .ok (.ifCond .eq 8, 3) := by decide +kernel
theorem dX6_bar_16 : decode cX6_bar 16 = .ok (.iload_n 1, 1) := by decide +kernel
theorem dX6_bar_17 : decode cX6_bar 17 = .ok (.iload_n 2, 1) := by decide +kernel
theorem dX6_bar_18 : decode cX6_bar 18 = .ok (.if_icmp .ne 5, 3) := by decide +kernel
theorem dX6_bar_21 : decode cX6_bar 21 = .ok (.iconst (-1), 1) := by decide +kernel
theorem dX6_bar_22 : decode cX6_bar 22 = .ok (.ireturn, 1) := by decide +kernel
theorem dX6_bar_23 : decode cX6_bar 23 = .ok (.aload_n 0, 1) := by decide +kernel
theorem dX6_bar_24 : decode cX6_bar 24 = .ok (.getfield 65, 3) := by decide +kernel
theorem dX6_bar_27 : decode cX6_bar 27 = .ok (.bipush 10, 2) := by decide +kernel
theorem dX6_bar_29 : decode cX6_bar 29 = .ok (.if_icmp .ne 6, 3) := by decide +kernel
theorem dX6_bar_32 : decode cX6_bar 32 = .ok (.bipush (-4), 2) := by decide +kernel
theorem dX6_bar_34 : decode cX6_bar 34 = .ok (.ireturn, 1) := by decide +kernel
theorem dX6_bar_35 : decode cX6_bar 35 = .ok (.iconst 0, 1) := by decide +kernel
theorem dX6_bar_36 : decode cX6_bar 36 = .ok (.istore_n 3, 1) := by decide +kernel
theorem dX6_bar_37 : decode cX6_bar 37 = .ok (.iload_n 3, 1) := by decide +kernel
theorem dX6_bar_38 : decode cX6_bar 38 = .ok (.aload_n 0, 1) := by decide +kernel
theorem dX6_bar_39 : decode cX6_bar 39 = .ok (.getfield 65, 3) := by decide +kernel
theorem dX6_bar_42 : decode cX6_bar 42 = .ok (.if_icmp .ge 52, 3) := by decide +kernel
theorem dX6_bar_45 : decode cX6_bar 45 = .ok (.aload_n 0, 1) := by decide +kernel
theorem dX6_bar_46 : decode cX6_bar 46 = .ok (.getfield 26, 3) := by decide +kernel
theorem dX6_bar_49 : decode cX6_bar 49 = .ok (.iload_n 3, 1) := by decide +kernel
theorem dX6_bar_50 : decode cX6_bar 50 = .ok (.iaload, 1) := by decide +kernel
theorem dX6_bar_51 : decode cX6_bar 51 = .ok (.iload_n 1, 1) := by decide +kernel
theorem dX6_bar_52 : decode cX6_bar 52 = .ok (.if_icmp .ne 13, 3) := by decide +kernel
theorem dX6_bar_55 : decode cX6_bar 55 = .ok (.aload_n 0, 1) := by decide +kernel
theorem dX6_bar_56 : decode cX6_bar 56 = .ok (.getfield 29, 3) := by decide +kernel
theorem dX6_bar_59 : decode cX6_bar 59 = .ok (.iload_n 3, 1) := by decide +kernel
theorem dX6_bar_60 : decode cX6_bar 60 = .ok (.iaload, 1) := by decide +kernel
theorem dX6_bar_61 : decode cX6_bar 61 = .ok (.iload_n 2, 1) := by decide +kernel
theorem dX6_bar_62 : decode cX6_bar 62 = .ok (.if_icmp .eq 23, 3) := by decide +kernel
theorem dX6_bar_65 : decode cX6_bar 65 = .ok (.aload_n 0, 1) := by decide +kernel
theorem dX6_bar_66 : decode cX6_bar 66 = .ok (.getfield 26, 3) := by decide +kernel
theorem dX6_bar_69 : decode cX6_bar 69 = .ok (.iload_n 3, 1) := by decide +kernel
theorem dX6_bar_70 : decode cX6_bar 70 = .ok (.iaload, 1) := by decide +kernel
theorem dX6_bar_71 : decode cX6_bar 71 = .ok (.iload_n 2, 1) := by decide +kernel
theorem dX6_bar_72 : decode cX6_bar 72 = .ok (.if_icmp .ne 16, 3) := by decide +kernel
theorem dX6_bar_75 : decode cX6_bar 75 = .ok (.aload_n 0, 1) := by decide +kernel
theorem dX6_bar_76 : decode cX6_bar 76 = .ok (.getfield 29, 3) := by decide +kernel
theorem dX6_bar_79 : decode cX6_bar 79 = .ok (.iload_n 3, 1) := by decide +kernel
theorem dX6_bar_80 : decode cX6_bar 80 = .ok (.iaload, 1) := by decide +kernel
theorem dX6_bar_81 : decode cX6_bar 81 = .ok (.iload_n 1, 1) := by decide +kernel
theorem dX6_bar_82 : decode cX6_bar 82 = .ok (.if_icmp .ne 6, 3) := by decide +kernel
theorem dX6_bar_85 : decode cX6_bar 85 = .ok (.bipush (-5), 2) := by decide +kernel
theorem dX6_bar_87 : decode cX6_bar 87 = .ok (.ireturn, 1) := by decide +kernel
theorem dX6_bar_88 : decode cX6_bar 88 = .ok (.iinc 3 1, 3) := by decide +kernel
theorem dX6_bar_91 : decode cX6_bar 91 = .ok (.goto (-54), 3) := by decide +kernel
theorem dX6_bar_94 : decode cX6_bar 94 = .ok (.aload_n 0, 1) := by decide +kernel
theorem dX6_bar_95 : decode cX6_bar 95 = .ok (.getfield 26, 3) := by decide +kernel
theorem dX6_bar_98 : decode cX6_bar 98 = .ok (.aload_n 0, 1) := by decide +kernel
theorem dX6_bar_99 : decode cX6_bar 99 = .ok (.getfield 65, 3) := by decide +kernel
theorem dX6_bar_102 : decode cX6_bar 102 = .ok (.iload_n 1, 1) := by decide +kernel
theorem dX6_bar_103 : decode cX6_bar 103 = .ok (.iastore, 1) := by decide +kernel
theorem dX6_bar_104 : decode cX6_bar 104 = .ok (.aload_n 0, 1) := by decide +kernel
theorem dX6_bar_105 : decode cX6_bar 105 = .ok (.getfield 29, 3) := by decide +kernel
theorem dX6_bar_108 : decode cX6_bar 108 = .ok (.aload_n 0, 1) := by decide +kernel
theorem dX6_bar_109 : decode cX6_bar 109 = .ok (.getfield 65, 3) := by decide +kernel
theorem dX6_bar_112 : decode cX6_bar 112 = .ok (.iload_n 2, 1) := by decide +kernel
theorem dX6_bar_113 : decode cX6_bar 113 = .ok (.iastore, 1) := by decide +kernel
theorem dX6_bar_114 : decode cX6_bar 114 = .ok (.aload_n 0, 1) := by decide +kernel
theorem dX6_bar_115 : decode cX6_bar 115 = .ok (.dup, 1) := by decide +kernel
theorem dX6_bar_116 : decode cX6_bar 116 = .ok (.getfield 65, 3) := by decide +kernel
theorem dX6_bar_119 : decode cX6_bar 119 = .ok (.iconst 1, 1) := by decide +kernel
theorem dX6_bar_120 : decode cX6_bar 120 = .ok (.iadd, 1) := by decide +kernel
theorem dX6_bar_121 : decode cX6_bar 121 = .ok (.putfield 65, 3) := by decide +kernel
theorem dX6_bar_124 : decode cX6_bar 124 = .ok (.aload_n 0, 1) := by decide +kernel
theorem dX6_bar_125 : decode cX6_bar 125 = .ok (.iconst 0, 1) := by decide +kernel
theorem dX6_bar_126 : decode cX6_bar 126 = .ok (.putfield 78, 3) := by decide +kernel
theorem dX6_bar_129 : decode cX6_bar 129 = .ok (.aload_n 0, 1) := by decide +kernel
theorem dX6_bar_130 : decode cX6_bar 130 = .ok (.getfield 65, 3) := by decide +kernel
theorem dX6_bar_133 : decode cX6_bar 133 = .ok (.iconst 1, 1) := by decide +kernel
theorem dX6_bar_134 : decode cX6_bar 134 = .ok (.isub, 1) := by decide +kernel
theorem dX6_bar_135 : decode cX6_bar 135 = .ok (.ireturn, 1) := by decide +kernel
theorem dX6_load_0 : decode cX6_load 0 = .ok (.aload_n 0, 1) := by decide +kernel
theorem dX6_load_1 : decode cX6_load 1 = .ok (.iload_n 1, 1) := by decide +kernel
theorem dX6_load_2 : decode cX6_load 2 = .ok (.invokevirtual 82, 3) := by decide +kernel
theorem dX6_load_5 : decode cX6_load 5 = .ok (.ifCond .ne 5, 3) := by decide +kernel
theorem dX6_load_8 : decode cX6_load 8 = .ok (.iconst (-1), 1) := by decide +kernel
theorem dX6_load_9 : decode cX6_load 9 = .ok (.ireturn, 1) := by decide +kernel
theorem dX6_load_10 : decode cX6_load 10 = .ok (.iload_n 2, 1) := by decide +kernel
theorem dX6_load_11 : decode cX6_load 11 = .ok (.i2l, 1) := by decide +kernel
theorem dX6_load_12 : decode cX6_load 12 = .ok (.ldc2_w 86, 3) := by decide +kernel
theorem dX6_load_15 : decode cX6_load 15 = .ok (.ldc2_w 88, 3) := by decide +kernel
theorem dX6_load_18 : decode cX6_load 18 = .ok (.invokestatic 61, 3) := by decide +kernel
theorem dX6_load_21 : decode cX6_load 21 = .ok (.ifCond .eq 17, 3) := by decide +kernel
theorem dX6_load_24 : decode cX6_load 24 = .ok (.iload_n 3, 1) := by decide +kernel
theorem dX6_load_25 : decode cX6_load 25 = .ok (.i2l, 1) := by decide +kernel
theorem dX6_load_26 : decode cX6_load 26 = .ok (.ldc2_w 86, 3) := by decide +kernel
theorem dX6_load_29 : decode cX6_load 29 = .ok (.ldc2_w 88, 3) := by decide +kernel
theorem dX6_load_32 : decode cX6_load 32 = .ok (.invokestatic 61, 3) := by decide +kernel
theorem dX6_load_35 : decode cX6_load 35 = .ok (.ifCond .ne 6, 3) := by decide +kernel
theorem dX6_load_38 : decode cX6_load 38 = .ok (.bipush (-2), 2) := by decide +kernel
theorem dX6_load_40 : decode cX6_load 40 = .ok (.ireturn, 1) := by decide +kernel
theorem dX6_load_41 : decode cX6_load 41 = .ok (.aload_n 0, 1) := by decide +kernel
theorem dX6_load_42 : decode cX6_load 42 = .ok (.getfield 16, 3) := by decide +kernel
theorem dX6_load_45 : decode cX6_load 45 = .ok (.iload_n 1, 1) := by decide +kernel
theorem dX6_load_46 : decode cX6_load 46 = .ok (.baload, 1) := by decide +kernel
theorem dX6_load_47 : decode cX6_load 47 = .ok (.ifCond .eq 6, 3) := by decide +kernel
theorem dX6_load_50 : decode cX6_load 50 = .ok (.bipush (-5), 2) := by decide +kernel
theorem dX6_load_52 : decode cX6_load 52 = .ok (.ireturn, 1) := by decide +kernel
theorem dX6_load_53 : decode cX6_load 53 = .ok (.aload_n 0, 1) := by decide +kernel
theorem dX6_load_54 : decode cX6_load 54 = .ok (.getfield 20, 3) := by decide +kernel
theorem dX6_load_57 : decode cX6_load 57 = .ok (.iload_n 1, 1) := by decide +kernel
theorem dX6_load_58 : decode cX6_load 58 = .ok (.iload_n 2, 1) := by decide +kernel
theorem dX6_load_59 : decode cX6_load 59 = .ok (.iastore, 1) := by decide +kernel
theorem dX6_load_60 : decode cX6_load 60 = .ok (.aload_n 0, 1) := by decide +kernel
theorem dX6_load_61 : decode cX6_load 61 = .ok (.getfield 23, 3) := by decide +kernel
theorem dX6_load_64 : decode cX6_load 64 = .ok (.iload_n 1, 1) := by decide +kernel
theorem dX6_load_65 : decode cX6_load 65 = .ok (.iload_n 3, 1) := by decide +kernel
theorem dX6_load_66 : decode cX6_load 66 = .ok (.iastore, 1) := by decide +kernel
theorem dX6_load_67 : decode cX6_load 67 = .ok (.aload_n 0, 1) := by decide +kernel
theorem dX6_load_68 : decode cX6_load 68 = .ok (.iconst 0, 1) := by decide +kernel
theorem dX6_load_69 : decode cX6_load 69 = .ok (.putfield 78, 3) := by decide +kernel
theorem dX6_load_72 : decode cX6_load 72 = .ok (.iconst 1, 1) := by decide +kernel
theorem dX6_load_73 : decode cX6_load 73 = .ok (.ireturn, 1) := by decide +kernel
theorem dX6_about_0 : decode cX6_about 0 = .ok (.aload_n 0, 1) := by decide +kernel
theorem dX6_about_1 : decode cX6_about 1 = .ok (.iload_n 1, 1) := by decide +kernel
theorem dX6_about_2 : decode cX6_about 2 = .ok (.invokevirtual 82, 3) := by decide +kernel
theorem dX6_about_5 : decode cX6_about 5 = .ok (.ifCond .ne 6, 3) := by decide +kernel
theorem dX6_about_8 : decode cX6_about 8 = .ok (.bipush (-101), 2) := by decide +kernel
theorem dX6_about_10 : decode cX6_about 10 = .ok (.ireturn, 1) := by decide +kernel
theorem dX6_about_11 : decode cX6_about 11 = .ok (.iload_n 2, 1) := by decide +kernel
theorem dX6_about_12 : decode cX6_about 12 = .ok (.tableswitch 79 0 4 #[36, 43, 50, 65, 72], 36) := by decide +kernel
theorem dX6_about_48 : decode cX6_about 48 = .ok (.aload_n 0, 1) := by decide +kernel
theorem dX6_about_49 : decode cX6_about 49 = .ok (.getfield 7, 3) := by decide +kernel
theorem dX6_about_52 : decode cX6_about 52 = .ok (.iload_n 1, 1) := by decide +kernel
theorem dX6_about_53 : decode cX6_about 53 = .ok (.iaload, 1) := by decide +kernel
theorem dX6_about_54 : decode cX6_about 54 = .ok (.ireturn, 1) := by decide +kernel
theorem dX6_about_55 : decode cX6_about 55 = .ok (.aload_n 0, 1) := by decide +kernel
theorem dX6_about_56 : decode cX6_about 56 = .ok (.getfield 13, 3) := by decide +kernel
theorem dX6_about_59 : decode cX6_about 59 = .ok (.iload_n 1, 1) := by decide +kernel
theorem dX6_about_60 : decode cX6_about 60 = .ok (.iaload, 1) := by decide +kernel
theorem dX6_about_61 : decode cX6_about 61 = .ok (.ireturn, 1) := by decide +kernel
theorem dX6_about_62 : decode cX6_about 62 = .ok (.aload_n 0, 1) := by decide +kernel
theorem dX6_about_63 : decode cX6_about 63 = .ok (.getfield 16, 3) := by decide +kernel
theorem dX6_about_66 : decode cX6_about 66 = .ok (.iload_n 1, 1) := by decide +kernel
theorem dX6_about_67 : decode cX6_about 67 = .ok (.baload, 1) := by decide +kernel
theorem dX6_about_68 : decode cX6_about 68 = .ok (.ifCond .eq 7, 3) := by decide +kernel
theorem dX6_about_71 : decode cX6_about 71 = .ok (.iconst 1, 1) := by decide +kernel
theorem dX6_about_72 : decode cX6_about 72 = .ok (.goto 4, 3) := by decide +kernel
theorem dX6_about_75 : decode cX6_about 75 = .ok (.iconst 0, 1) := by decide +kernel
theorem dX6_about_76 : decode cX6_about 76 = .ok (.ireturn, 1) := by decide +kernel
theorem dX6_about_77 : decode cX6_about 77 = .ok (.aload_n 0, 1) := by decide +kernel
theorem dX6_about_78 : decode cX6_about 78 = .ok (.getfield 20, 3) := by decide +kernel
theorem dX6_about_81 : decode cX6_about 81 = .ok (.iload_n 1, 1) := by decide +kernel
theorem dX6_about_82 : decode cX6_about 82 = .ok (.iaload, 1) := by decide +kernel
theorem dX6_about_83 : decode cX6_about 83 = .ok (.ireturn, 1) := by decide +kernel
theorem dX6_about_84 : decode cX6_about 84 = .ok (.aload_n 0, 1) := by decide +kernel
theorem dX6_about_85 : decode cX6_about 85 = .ok (.getfield 23, 3) := by decide +kernel
theorem dX6_about_88 : decode cX6_about 88 = .ok (.iload_n 1, 1) := by decide +kernel
theorem dX6_about_89 : decode cX6_about 89 = .ok (.iaload, 1) := by decide +kernel
theorem dX6_about_90 : decode cX6_about 90 = .ok (.ireturn, 1) := by decide +kernel
theorem dX6_about_91 : decode cX6_about 91 = .ok (.bipush (-102), 2) := by decide +kernel
theorem dX6_about_93 : decode cX6_about 93 = .ok (.ireturn, 1) := by decide +kernel
theorem dX6_stuff_0 : decode cX6_stuff 0 = .ok (.aload_n 0, 1) := by decide +kernel
theorem dX6_stuff_1 : decode cX6_stuff 1 = .ok (.getfield 7, 3) := by decide +kernel
theorem dX6_stuff_4 : decode cX6_stuff 4 = .ok (.aload_n 0, 1) := by decide +kernel
theorem dX6_stuff_5 : decode cX6_stuff 5 = .ok (.getfield 29, 3) := by decide +kernel
theorem dX6_stuff_8 : decode cX6_stuff 8 = .ok (.iload_n 1, 1) := by decide +kernel
theorem dX6_stuff_9 : decode cX6_stuff 9 = .ok (.iaload, 1) := by decide +kernel
theorem dX6_stuff_10 : decode cX6_stuff 10 = .ok (.iaload, 1) := by decide +kernel
theorem dX6_stuff_11 : decode cX6_stuff 11 = .ok (.aload_n 0, 1) := by decide +kernel
theorem dX6_stuff_12 : decode cX6_stuff 12 = .ok (.getfield 7, 3) := by decide +kernel
theorem dX6_stuff_15 : decode cX6_stuff 15 = .ok (.aload_n 0, 1) := by decide +kernel
theorem dX6_stuff_16 : decode cX6_stuff 16 = .ok (.getfield 26, 3) := by decide +kernel
theorem dX6_stuff_19 : decode cX6_stuff 19 = .ok (.iload_n 1, 1) := by decide +kernel
theorem dX6_stuff_20 : decode cX6_stuff 20 = .ok (.iaload, 1) := by decide +kernel
theorem dX6_stuff_21 : decode cX6_stuff 21 = .ok (.iaload, 1) := by decide +kernel
theorem dX6_stuff_22 : decode cX6_stuff 22 = .ok (.isub, 1) := by decide +kernel
theorem dX6_stuff_23 : decode cX6_stuff 23 = .ok (.istore_n 2, 1) := by decide +kernel
theorem dX6_stuff_24 : decode cX6_stuff 24 = .ok (.aload_n 0, 1) := by decide +kernel
theorem dX6_stuff_25 : decode cX6_stuff 25 = .ok (.getfield 13, 3) := by decide +kernel
theorem dX6_stuff_28 : decode cX6_stuff 28 = .ok (.aload_n 0, 1) := by decide +kernel
theorem dX6_stuff_29 : decode cX6_stuff 29 = .ok (.getfield 29, 3) := by decide +kernel
theorem dX6_stuff_32 : decode cX6_stuff 32 = .ok (.iload_n 1, 1) := by decide +kernel
theorem dX6_stuff_33 : decode cX6_stuff 33 = .ok (.iaload, 1) := by decide +kernel
theorem dX6_stuff_34 : decode cX6_stuff 34 = .ok (.iaload, 1) := by decide +kernel
theorem dX6_stuff_35 : decode cX6_stuff 35 = .ok (.aload_n 0, 1) := by decide +kernel
theorem dX6_stuff_36 : decode cX6_stuff 36 = .ok (.getfield 13, 3) := by decide +kernel
theorem dX6_stuff_39 : decode cX6_stuff 39 = .ok (.aload_n 0, 1) := by decide +kernel
theorem dX6_stuff_40 : decode cX6_stuff 40 = .ok (.getfield 26, 3) := by decide +kernel
theorem dX6_stuff_43 : decode cX6_stuff 43 = .ok (.iload_n 1, 1) := by decide +kernel
theorem dX6_stuff_44 : decode cX6_stuff 44 = .ok (.iaload, 1) := by decide +kernel
theorem dX6_stuff_45 : decode cX6_stuff 45 = .ok (.iaload, 1) := by decide +kernel
theorem dX6_stuff_46 : decode cX6_stuff 46 = .ok (.isub, 1) := by decide +kernel
theorem dX6_stuff_47 : decode cX6_stuff 47 = .ok (.istore_n 3, 1) := by decide +kernel
theorem dX6_stuff_48 : decode cX6_stuff 48 = .ok (.iload_n 2, 1) := by decide +kernel
theorem dX6_stuff_49 : decode cX6_stuff 49 = .ok (.iload_n 2, 1) := by decide +kernel
theorem dX6_stuff_50 : decode cX6_stuff 50 = .ok (.imul, 1) := by decide +kernel
theorem dX6_stuff_51 : decode cX6_stuff 51 = .ok (.iload_n 3, 1) := by decide +kernel
theorem dX6_stuff_52 : decode cX6_stuff 52 = .ok (.iload_n 3, 1) := by decide +kernel
theorem dX6_stuff_53 : decode cX6_stuff 53 = .ok (.imul, 1) := by decide +kernel
theorem dX6_stuff_54 : decode cX6_stuff 54 = .ok (.iadd, 1) := by decide +kernel
theorem dX6_stuff_55 : decode cX6_stuff 55 = .ok (.ireturn, 1) := by decide +kernel
theorem dX6_ofBar_0 : decode cX6_ofBar 0 = .ok (.aload_n 0, 1) := by decide +kernel
theorem dX6_ofBar_1 : decode cX6_ofBar 1 = .ok (.iload_n 1, 1) := by decide +kernel
theorem dX6_ofBar_2 : decode cX6_ofBar 2 = .ok (.invokevirtual 90, 3) := by decide +kernel
theorem dX6_ofBar_5 : decode cX6_ofBar 5 = .ok (.ifCond .ne 5, 3) := by decide +kernel
theorem dX6_ofBar_8 : decode cX6_ofBar 8 = .ok (.iconst (-1), 1) := by decide +kernel
theorem dX6_ofBar_9 : decode cX6_ofBar 9 = .ok (.ireturn, 1) := by decide +kernel
theorem dX6_ofBar_10 : decode cX6_ofBar 10 = .ok (.iload_n 2, 1) := by decide +kernel
theorem dX6_ofBar_11 : decode cX6_ofBar 11 = .ok (.ifCond .ne 12, 3) := by decide +kernel
theorem dX6_ofBar_14 : decode cX6_ofBar 14 = .ok (.aload_n 0, 1) := by decide +kernel
theorem dX6_ofBar_15 : decode cX6_ofBar 15 = .ok (.getfield 26, 3) := by decide +kernel
theorem dX6_ofBar_18 : decode cX6_ofBar 18 = .ok (.iload_n 1, 1) := by decide +kernel
theorem dX6_ofBar_19 : decode cX6_ofBar 19 = .ok (.iaload, 1) := by decide +kernel
theorem dX6_ofBar_20 : decode cX6_ofBar 20 = .ok (.goto 32, 3) := by decide +kernel
theorem dX6_ofBar_23 : decode cX6_ofBar 23 = .ok (.iload_n 2, 1) := by decide +kernel
theorem dX6_ofBar_24 : decode cX6_ofBar 24 = .ok (.iconst 1, 1) := by decide +kernel
theorem dX6_ofBar_25 : decode cX6_ofBar 25 = .ok (.if_icmp .ne 12, 3) := by decide +kernel
theorem dX6_ofBar_28 : decode cX6_ofBar 28 = .ok (.aload_n 0, 1) := by decide +kernel
theorem dX6_ofBar_29 : decode cX6_ofBar 29 = .ok (.getfield 29, 3) := by decide +kernel
theorem dX6_ofBar_32 : decode cX6_ofBar 32 = .ok (.iload_n 1, 1) := by decide +kernel
theorem dX6_ofBar_33 : decode cX6_ofBar 33 = .ok (.iaload, 1) := by decide +kernel
theorem dX6_ofBar_34 : decode cX6_ofBar 34 = .ok (.goto 18, 3) := by decide +kernel
theorem dX6_ofBar_37 : decode cX6_ofBar 37 = .ok (.iload_n 2, 1) := by decide +kernel
theorem dX6_ofBar_38 : decode cX6_ofBar 38 = .ok (.iconst 2, 1) := by decide +kernel
theorem dX6_ofBar_39 : decode cX6_ofBar 39 = .ok (.if_icmp .ne 11, 3) := by decide +kernel
theorem dX6_ofBar_42 : decode cX6_ofBar 42 = .ok (.aload_n 0, 1) := by decide +kernel
theorem dX6_ofBar_43 : decode cX6_ofBar 43 = .ok (.iload_n 1, 1) := by decide +kernel
theorem dX6_ofBar_44 : decode cX6_ofBar 44 = .ok (.invokevirtual 93, 3) := by decide +kernel
theorem dX6_ofBar_47 : decode cX6_ofBar 47 = .ok (.goto 5, 3) := by decide +kernel
theorem dX6_ofBar_50 : decode cX6_ofBar 50 = .ok (.bipush (-2), 2) := by decide +kernel
theorem dX6_ofBar_52 : decode cX6_ofBar 52 = .ok (.ireturn, 1) := by decide +kernel
theorem dX6_size_0 : decode cX6_size 0 = .ok (.iload_n 1, 1) := by decide +kernel
theorem dX6_size_1 : decode cX6_size 1 = .ok (.i2l, 1) := by decide +kernel
theorem dX6_size_2 : decode cX6_size 2 = .ok (.lconst 1, 1) := by decide +kernel
theorem dX6_size_3 : decode cX6_size 3 = .ok (.ldc2_w 97, 3) := by decide +kernel
theorem dX6_size_6 : decode cX6_size 6 = .ok (.invokestatic 61, 3) := by decide +kernel
theorem dX6_size_9 : decode cX6_size 9 = .ok (.ifCond .ne 6, 3) := by decide +kernel
theorem dX6_size_12 : decode cX6_size 12 = .ok (.bipush (-2), 2) := by decide +kernel
theorem dX6_size_14 : decode cX6_size 14 = .ok (.ireturn, 1) := by decide +kernel
theorem dX6_size_15 : decode cX6_size 15 = .ok (.aload_n 0, 1) := by decide +kernel
theorem dX6_size_16 : decode cX6_size 16 = .ok (.getfield 99, 3) := by decide +kernel
theorem dX6_size_19 : decode cX6_size 19 = .ok (.iconst 5, 1) := by decide +kernel
theorem dX6_size_20 : decode cX6_size 20 = .ok (.if_icmp .ne 6, 3) := by decide +kernel
theorem dX6_size_23 : decode cX6_size 23 = .ok (.bipush (-4), 2) := by decide +kernel
theorem dX6_size_25 : decode cX6_size 25 = .ok (.ireturn, 1) := by decide +kernel
theorem dX6_size_26 : decode cX6_size 26 = .ok (.iconst 0, 1) := by decide +kernel
theorem dX6_size_27 : decode cX6_size 27 = .ok (.istore_n 2, 1) := by decide +kernel
theorem dX6_size_28 : decode cX6_size 28 = .ok (.iload_n 2, 1) := by decide +kernel
theorem dX6_size_29 : decode cX6_size 29 = .ok (.aload_n 0, 1) := by decide +kernel
theorem dX6_size_30 : decode cX6_size 30 = .ok (.getfield 99, 3) := by decide +kernel
theorem dX6_size_33 : decode cX6_size 33 = .ok (.if_icmp .ge 22, 3) := by decide +kernel
theorem dX6_size_36 : decode cX6_size 36 = .ok (.aload_n 0, 1) := by decide +kernel
theorem dX6_size_37 : decode cX6_size 37 = .ok (.getfield 32, 3) := by decide +kernel
theorem dX6_size_40 : decode cX6_size 40 = .ok (.iload_n 2, 1) := by decide +kernel
theorem dX6_size_41 : decode cX6_size 41 = .ok (.iaload, 1) := by decide +kernel
theorem dX6_size_42 : decode cX6_size 42 = .ok (.iload_n 1, 1) := by decide +kernel
theorem dX6_size_43 : decode cX6_size 43 = .ok (.if_icmp .ne 6, 3) := by decide +kernel
theorem dX6_size_46 : decode cX6_size 46 = .ok (.bipush (-5), 2) := by decide +kernel
theorem dX6_size_48 : decode cX6_size 48 = .ok (.ireturn, 1) := by decide +kernel
theorem dX6_size_49 : decode cX6_size 49 = .ok (.iinc 2 1, 3) := by decide +kernel
theorem dX6_size_52 : decode cX6_size 52 = .ok (.goto (-24), 3) := by decide +kernel
theorem dX6_size_55 : decode cX6_size 55 = .ok (.aload_n 0, 1) := by decide +kernel
theorem dX6_size_56 : decode cX6_size 56 = .ok (.getfield 32, 3) := by decide +kernel
theorem dX6_size_59 : decode cX6_size 59 = .ok (.aload_n 0, 1) := by decide +kernel
theorem dX6_size_60 : decode cX6_size 60 = .ok (.getfield 99, 3) := by decide +kernel
theorem dX6_size_63 : decode cX6_size 63 = .ok (.iload_n 1, 1) := by decide +kernel
theorem dX6_size_64 : decode cX6_size 64 = .ok (.iastore, 1) := by decide +kernel
theorem dX6_size_65 : decode cX6_size 65 = .ok (.aload_n 0, 1) := by decide +kernel
theorem dX6_size_66 : decode cX6_size 66 = .ok (.dup, 1) := by decide +kernel
theorem dX6_size_67 : decode cX6_size 67 = .ok (.getfield 99, 3) := by decide +kernel
theorem dX6_size_70 : decode cX6_size 70 = .ok (.iconst 1, 1) := by decide +kernel
theorem dX6_size_71 : decode cX6_size 71 = .ok (.iadd, 1) := by decide +kernel
theorem dX6_size_72 : decode cX6_size 72 = .ok (.putfield 99, 3) := by decide +kernel
theorem dX6_size_75 : decode cX6_size 75 = .ok (.aload_n 0, 1) := by decide +kernel
theorem dX6_size_76 : decode cX6_size 76 = .ok (.iconst 0, 1) := by decide +kernel
theorem dX6_size_77 : decode cX6_size 77 = .ok (.putfield 78, 3) := by decide +kernel
theorem dX6_size_80 : decode cX6_size 80 = .ok (.aload_n 0, 1) := by decide +kernel
theorem dX6_size_81 : decode cX6_size 81 = .ok (.getfield 99, 3) := by decide +kernel
theorem dX6_size_84 : decode cX6_size 84 = .ok (.ireturn, 1) := by decide +kernel
theorem dX6_price_0 : decode cX6_price 0 = .ok (.iload_n 1, 1) := by decide +kernel
theorem dX6_price_1 : decode cX6_price 1 = .ok (.i2l, 1) := by decide +kernel
theorem dX6_price_2 : decode cX6_price 2 = .ok (.lconst 0, 1) := by decide +kernel
theorem dX6_price_3 : decode cX6_price 3 = .ok (.ldc2_w 102, 3) := by decide +kernel
theorem dX6_price_6 : decode cX6_price 6 = .ok (.invokestatic 61, 3) := by decide +kernel
theorem dX6_price_9 : decode cX6_price 9 = .ok (.ifCond .ne 6, 3) := by decide +kernel
theorem dX6_price_12 : decode cX6_price 12 = .ok (.bipush (-2), 2) := by decide +kernel
theorem dX6_price_14 : decode cX6_price 14 = .ok (.ireturn, 1) := by decide +kernel
theorem dX6_price_15 : decode cX6_price 15 = .ok (.aload_n 0, 1) := by decide +kernel
theorem dX6_price_16 : decode cX6_price 16 = .ok (.getfield 104, 3) := by decide +kernel
theorem dX6_price_19 : decode cX6_price 19 = .ok (.istore_n 2, 1) := by decide +kernel
theorem dX6_price_20 : decode cX6_price 20 = .ok (.aload_n 0, 1) := by decide +kernel
theorem dX6_price_21 : decode cX6_price 21 = .ok (.iload_n 1, 1) := by decide +kernel
theorem dX6_price_22 : decode cX6_price 22 = .ok (.putfield 104, 3) := by decide +kernel
theorem dX6_price_25 : decode cX6_price 25 = .ok (.aload_n 0, 1) := by decide +kernel
theorem dX6_price_26 : decode cX6_price 26 = .ok (.iconst 0, 1) := by decide +kernel
theorem dX6_price_27 : decode cX6_price 27 = .ok (.putfield 78, 3) := by decide +kernel
theorem dX6_price_30 : decode cX6_price 30 = .ok (.iload_n 2, 1) := by decide +kernel
theorem dX6_price_31 : decode cX6_price 31 = .ok (.ireturn, 1) := by decide +kernel
theorem dX6_drop_0 : decode cX6_drop 0 = .ok (.aload_n 0, 1) := by decide +kernel
theorem dX6_drop_1 : decode cX6_drop 1 = .ok (.getfield 65, 3) := by decide +kernel
theorem dX6_drop_4 : decode cX6_drop 4 = .ok (.ifCond .ne 5, 3) := by decide +kernel
theorem dX6_drop_7 : decode cX6_drop 7 = .ok (.iconst (-1), 1) := by decide +kernel
theorem dX6_drop_8 : decode cX6_drop 8 = .ok (.ireturn, 1) := by decide +kernel
theorem dX6_drop_9 : decode cX6_drop 9 = .ok (.aload_n 0, 1) := by decide +kernel
theorem dX6_drop_10 : decode cX6_drop 10 = .ok (.dup, 1) := by decide +kernel
theorem dX6_drop_11 : decode cX6_drop 11 = .ok (.getfield 65, 3) := by decide +kernel
theorem dX6_drop_14 : decode cX6_drop 14 = .ok (.iconst 1, 1) := by decide +kernel
theorem dX6_drop_15 : decode cX6_drop 15 = .ok (.isub, 1) := by decide +kernel
theorem dX6_drop_16 : decode cX6_drop 16 = .ok (.putfield 65, 3) := by decide +kernel
theorem dX6_drop_19 : decode cX6_drop 19 = .ok (.aload_n 0, 1) := by decide +kernel
theorem dX6_drop_20 : decode cX6_drop 20 = .ok (.iconst 0, 1) := by decide +kernel
theorem dX6_drop_21 : decode cX6_drop 21 = .ok (.putfield 78, 3) := by decide +kernel
theorem dX6_drop_24 : decode cX6_drop 24 = .ok (.aload_n 0, 1) := by decide +kernel
theorem dX6_drop_25 : decode cX6_drop 25 = .ok (.getfield 65, 3) := by decide +kernel
theorem dX6_drop_28 : decode cX6_drop 28 = .ok (.ireturn, 1) := by decide +kernel
theorem dX6_side_0 : decode cX6_side 0 = .ok (.aload_n 0, 1) := by decide +kernel
theorem dX6_side_1 : decode cX6_side 1 = .ok (.getfield 7, 3) := by decide +kernel
theorem dX6_side_4 : decode cX6_side 4 = .ok (.iload_n 2, 1) := by decide +kernel
theorem dX6_side_5 : decode cX6_side 5 = .ok (.iaload, 1) := by decide +kernel
theorem dX6_side_6 : decode cX6_side 6 = .ok (.aload_n 0, 1) := by decide +kernel
theorem dX6_side_7 : decode cX6_side 7 = .ok (.getfield 7, 3) := by decide +kernel
theorem dX6_side_10 : decode cX6_side 10 = .ok (.iload_n 1, 1) := by decide +kernel
theorem dX6_side_11 : decode cX6_side 11 = .ok (.iaload, 1) := by decide +kernel
theorem dX6_side_12 : decode cX6_side 12 = .ok (.isub, 1) := by decide +kernel
theorem dX6_side_13 : decode cX6_side 13 = .ok (.aload_n 0, 1) := by decide +kernel
theorem dX6_side_14 : decode cX6_side 14 = .ok (.getfield 13, 3) := by decide +kernel
theorem dX6_side_17 : decode cX6_side 17 = .ok (.iload_n 3, 1) := by decide +kernel
theorem dX6_side_18 : decode cX6_side 18 = .ok (.iaload, 1) := by decide +kernel
theorem dX6_side_19 : decode cX6_side 19 = .ok (.aload_n 0, 1) := by decide +kernel
theorem dX6_side_20 : decode cX6_side 20 = .ok (.getfield 13, 3) := by decide +kernel
theorem dX6_side_23 : decode cX6_side 23 = .ok (.iload_n 1, 1) := by decide +kernel
theorem dX6_side_24 : decode cX6_side 24 = .ok (.iaload, 1) := by decide +kernel
theorem dX6_side_25 : decode cX6_side 25 = .ok (.isub, 1) := by decide +kernel
theorem dX6_side_26 : decode cX6_side 26 = .ok (.imul, 1) := by decide +kernel
theorem dX6_side_27 : decode cX6_side 27 = .ok (.aload_n 0, 1) := by decide +kernel
theorem dX6_side_28 : decode cX6_side 28 = .ok (.getfield 13, 3) := by decide +kernel
theorem dX6_side_31 : decode cX6_side 31 = .ok (.iload_n 2, 1) := by decide +kernel
theorem dX6_side_32 : decode cX6_side 32 = .ok (.iaload, 1) := by decide +kernel
theorem dX6_side_33 : decode cX6_side 33 = .ok (.aload_n 0, 1) := by decide +kernel
theorem dX6_side_34 : decode cX6_side 34 = .ok (.getfield 13, 3) := by decide +kernel
theorem dX6_side_37 : decode cX6_side 37 = .ok (.iload_n 1, 1) := by decide +kernel
theorem dX6_side_38 : decode cX6_side 38 = .ok (.iaload, 1) := by decide +kernel
theorem dX6_side_39 : decode cX6_side 39 = .ok (.isub, 1) := by decide +kernel
theorem dX6_side_40 : decode cX6_side 40 = .ok (.aload_n 0, 1) := by decide +kernel
theorem dX6_side_41 : decode cX6_side 41 = .ok (.getfield 7, 3) := by decide +kernel
theorem dX6_side_44 : decode cX6_side 44 = .ok (.iload_n 3, 1) := by decide +kernel
theorem dX6_side_45 : decode cX6_side 45 = .ok (.iaload, 1) := by decide +kernel
theorem dX6_side_46 : decode cX6_side 46 = .ok (.aload_n 0, 1) := by decide +kernel
theorem dX6_side_47 : decode cX6_side 47 = .ok (.getfield 7, 3) := by decide +kernel
theorem dX6_side_50 : decode cX6_side 50 = .ok (.iload_n 1, 1) := by decide +kernel
theorem dX6_side_51 : decode cX6_side 51 = .ok (.iaload, 1) := by decide +kernel
theorem dX6_side_52 : decode cX6_side 52 = .ok (.isub, 1) := by decide +kernel
theorem dX6_side_53 : decode cX6_side 53 = .ok (.imul, 1) := by decide +kernel
theorem dX6_side_54 : decode cX6_side 54 = .ok (.isub, 1) := by decide +kernel
theorem dX6_side_55 : decode cX6_side 55 = .ok (.istore 4, 2) := by decide +kernel
theorem dX6_side_57 : decode cX6_side 57 = .ok (.iload 4, 2) := by decide +kernel
theorem dX6_side_59 : decode cX6_side 59 = .ok (.ifCond .ge 7, 3) := by decide +kernel
theorem dX6_side_62 : decode cX6_side 62 = .ok (.iconst (-1), 1) := by decide +kernel
theorem dX6_side_63 : decode cX6_side 63 = .ok (.goto 13, 3) := by decide +kernel
theorem dX6_side_66 : decode cX6_side 66 = .ok (.iload 4, 2) := by decide +kernel
theorem dX6_side_68 : decode cX6_side 68 = .ok (.ifCond .le 7, 3) := by decide +kernel
theorem dX6_side_71 : decode cX6_side 71 = .ok (.iconst 1, 1) := by decide +kernel
theorem dX6_side_72 : decode cX6_side 72 = .ok (.goto 4, 3) := by decide +kernel
theorem dX6_side_75 : decode cX6_side 75 = .ok (.iconst 0, 1) := by decide +kernel
theorem dX6_side_76 : decode cX6_side 76 = .ok (.ireturn, 1) := by decide +kernel
theorem dX6_isOn_0 : decode cX6_isOn 0 = .ok (.aload_n 0, 1) := by decide +kernel
theorem dX6_isOn_1 : decode cX6_isOn 1 = .ok (.getfield 7, 3) := by decide +kernel
theorem dX6_isOn_4 : decode cX6_isOn 4 = .ok (.iload_n 2, 1) := by decide +kernel
theorem dX6_isOn_5 : decode cX6_isOn 5 = .ok (.iaload, 1) := by decide +kernel
theorem dX6_isOn_6 : decode cX6_isOn 6 = .ok (.aload_n 0, 1) := by decide +kernel
theorem dX6_isOn_7 : decode cX6_isOn 7 = .ok (.getfield 7, 3) := by decide +kernel
theorem dX6_isOn_10 : decode cX6_isOn 10 = .ok (.iload_n 1, 1) := by decide +kernel
theorem dX6_isOn_11 : decode cX6_isOn 11 = .ok (.iaload, 1) := by decide +kernel
theorem dX6_isOn_12 : decode cX6_isOn 12 = .ok (.isub, 1) := by decide +kernel
theorem dX6_isOn_13 : decode cX6_isOn 13 = .ok (.aload_n 0, 1) := by decide +kernel
theorem dX6_isOn_14 : decode cX6_isOn 14 = .ok (.getfield 7, 3) := by decide +kernel
theorem dX6_isOn_17 : decode cX6_isOn 17 = .ok (.iload_n 3, 1) := by decide +kernel
theorem dX6_isOn_18 : decode cX6_isOn 18 = .ok (.iaload, 1) := by decide +kernel
theorem dX6_isOn_19 : decode cX6_isOn 19 = .ok (.aload_n 0, 1) := by decide +kernel
theorem dX6_isOn_20 : decode cX6_isOn 20 = .ok (.getfield 7, 3) := by decide +kernel
theorem dX6_isOn_23 : decode cX6_isOn 23 = .ok (.iload_n 1, 1) := by decide +kernel
theorem dX6_isOn_24 : decode cX6_isOn 24 = .ok (.iaload, 1) := by decide +kernel
theorem dX6_isOn_25 : decode cX6_isOn 25 = .ok (.isub, 1) := by decide +kernel
theorem dX6_isOn_26 : decode cX6_isOn 26 = .ok (.imul, 1) := by decide +kernel
theorem dX6_isOn_27 : decode cX6_isOn 27 = .ok (.aload_n 0, 1) := by decide +kernel
theorem dX6_isOn_28 : decode cX6_isOn 28 = .ok (.getfield 13, 3) := by decide +kernel
theorem dX6_isOn_31 : decode cX6_isOn 31 = .ok (.iload_n 2, 1) := by decide +kernel
theorem dX6_isOn_32 : decode cX6_isOn 32 = .ok (.iaload, 1) := by decide +kernel
theorem dX6_isOn_33 : decode cX6_isOn 33 = .ok (.aload_n 0, 1) := by decide +kernel
theorem dX6_isOn_34 : decode cX6_isOn 34 = .ok (.getfield 13, 3) := by decide +kernel
theorem dX6_isOn_37 : decode cX6_isOn 37 = .ok (.iload_n 1, 1) := by decide +kernel
theorem dX6_isOn_38 : decode cX6_isOn 38 = .ok (.iaload, 1) := by decide +kernel
theorem dX6_isOn_39 : decode cX6_isOn 39 = .ok (.isub, 1) := by decide +kernel
theorem dX6_isOn_40 : decode cX6_isOn 40 = .ok (.aload_n 0, 1) := by decide +kernel
theorem dX6_isOn_41 : decode cX6_isOn 41 = .ok (.getfield 13, 3) := by decide +kernel
theorem dX6_isOn_44 : decode cX6_isOn 44 = .ok (.iload_n 3, 1) := by decide +kernel
theorem dX6_isOn_45 : decode cX6_isOn 45 = .ok (.iaload, 1) := by decide +kernel
theorem dX6_isOn_46 : decode cX6_isOn 46 = .ok (.aload_n 0, 1) := by decide +kernel
theorem dX6_isOn_47 : decode cX6_isOn 47 = .ok (.getfield 13, 3) := by decide +kernel
theorem dX6_isOn_50 : decode cX6_isOn 50 = .ok (.iload_n 1, 1) := by decide +kernel
theorem dX6_isOn_51 : decode cX6_isOn 51 = .ok (.iaload, 1) := by decide +kernel
theorem dX6_isOn_52 : decode cX6_isOn 52 = .ok (.isub, 1) := by decide +kernel
theorem dX6_isOn_53 : decode cX6_isOn 53 = .ok (.imul, 1) := by decide +kernel
theorem dX6_isOn_54 : decode cX6_isOn 54 = .ok (.iadd, 1) := by decide +kernel
theorem dX6_isOn_55 : decode cX6_isOn 55 = .ok (.istore 4, 2) := by decide +kernel
theorem dX6_isOn_57 : decode cX6_isOn 57 = .ok (.aload_n 0, 1) := by decide +kernel
theorem dX6_isOn_58 : decode cX6_isOn 58 = .ok (.iload_n 2, 1) := by decide +kernel
theorem dX6_isOn_59 : decode cX6_isOn 59 = .ok (.iload_n 3, 1) := by decide +kernel
theorem dX6_isOn_60 : decode cX6_isOn 60 = .ok (.iload_n 1, 1) := by decide +kernel
theorem dX6_isOn_61 : decode cX6_isOn 61 = .ok (.invokevirtual 107, 3) := by decide +kernel
theorem dX6_isOn_64 : decode cX6_isOn 64 = .ok (.ifCond .ne 12, 3) := by decide +kernel
theorem dX6_isOn_67 : decode cX6_isOn 67 = .ok (.iload 4, 2) := by decide +kernel
theorem dX6_isOn_69 : decode cX6_isOn 69 = .ok (.ifCond .gt 7, 3) := by decide +kernel
theorem dX6_isOn_72 : decode cX6_isOn 72 = .ok (.iconst 1, 1) := by decide +kernel
theorem dX6_isOn_73 : decode cX6_isOn 73 = .ok (.goto 4, 3) := by decide +kernel
theorem dX6_isOn_76 : decode cX6_isOn 76 = .ok (.iconst 0, 1) := by decide +kernel
theorem dX6_isOn_77 : decode cX6_isOn 77 = .ok (.ireturn, 1) := by decide +kernel
theorem dX6_areCrossed_0 : decode cX6_areCrossed 0 = .ok (.aload_n 0, 1) := by decide +kernel
theorem dX6_areCrossed_1 : decode cX6_areCrossed 1 = .ok (.getfield 26, 3) := by decide +kernel
theorem dX6_areCrossed_4 : decode cX6_areCrossed 4 = .ok (.iload_n 1, 1) := by decide +kernel
theorem dX6_areCrossed_5 : decode cX6_areCrossed 5 = .ok (.iaload, 1) := by decide +kernel
theorem dX6_areCrossed_6 : decode cX6_areCrossed 6 = .ok (.istore_n 3, 1) := by decide +kernel
theorem dX6_areCrossed_7 : decode cX6_areCrossed 7 = .ok (.aload_n 0, 1) := by decide +kernel
theorem dX6_areCrossed_8 : decode cX6_areCrossed 8 = .ok (.getfield 29, 3) := by decide +kernel
theorem dX6_areCrossed_11 : decode cX6_areCrossed 11 = .ok (.iload_n 1, 1) := by decide +kernel
theorem dX6_areCrossed_12 : decode cX6_areCrossed 12 = .ok (.iaload, 1) := by decide +kernel
theorem dX6_areCrossed_13 : decode cX6_areCrossed 13 = .ok (.istore 4, 2) := by decide +kernel
theorem dX6_areCrossed_15 : decode cX6_areCrossed 15 = .ok (.aload_n 0, 1) := by decide +kernel
theorem dX6_areCrossed_16 : decode cX6_areCrossed 16 = .ok (.getfield 26, 3) := by decide +kernel
theorem dX6_areCrossed_19 : decode cX6_areCrossed 19 = .ok (.iload_n 2, 1) := by decide +kernel
theorem dX6_areCrossed_20 : decode cX6_areCrossed 20 = .ok (.iaload, 1) := by decide +kernel
theorem dX6_areCrossed_21 : decode cX6_areCrossed 21 = .ok (.istore 5, 2) := by decide +kernel
theorem dX6_areCrossed_23 : decode cX6_areCrossed 23 = .ok (.aload_n 0, 1) := by decide +kernel
theorem dX6_areCrossed_24 : decode cX6_areCrossed 24 = .ok (.getfield 29, 3) := by decide +kernel
theorem dX6_areCrossed_27 : decode cX6_areCrossed 27 = .ok (.iload_n 2, 1) := by decide +kernel
theorem dX6_areCrossed_28 : decode cX6_areCrossed 28 = .ok (.iaload, 1) := by decide +kernel
theorem dX6_areCrossed_29 : decode cX6_areCrossed 29 = .ok (.istore 6, 2) := by decide +kernel
theorem dX6_areCrossed_31 : decode cX6_areCrossed 31 = .ok (.iload_n 3, 1) := by decide +kernel
theorem dX6_areCrossed_32 : decode cX6_areCrossed 32 = .ok (.iload 5, 2) := by decide +kernel
theorem dX6_areCrossed_34 : decode cX6_areCrossed 34 = .ok (.if_icmp .eq 23, 3) := by decide +kernel
theorem dX6_areCrossed_37 : decode cX6_areCrossed 37 = .ok (.iload_n 3, 1) := by decide +kernel
theorem dX6_areCrossed_38 : decode cX6_areCrossed 38 = .ok (.iload 6, 2) := by decide +kernel
theorem dX6_areCrossed_40 : decode cX6_areCrossed 40 = .ok (.if_icmp .eq 17, 3) := by decide +kernel
theorem dX6_areCrossed_43 : decode cX6_areCrossed 43 = .ok (.iload 4, 2) := by decide +kernel
theorem dX6_areCrossed_45 : decode cX6_areCrossed 45 = .ok (.iload 5, 2) := by decide +kernel
theorem dX6_areCrossed_47 : decode cX6_areCrossed 47 = .ok (.if_icmp .eq 10, 3) := by decide +kernel
theorem dX6_areCrossed_50 : decode cX6_areCrossed 50 = .ok (.iload 4, 2) := by decide +kernel
theorem dX6_areCrossed_52 : decode cX6_areCrossed 52 = .ok (.iload 6, 2) := by decide +kernel
theorem dX6_areCrossed_54 : decode cX6_areCrossed 54 = .ok (.if_icmp .ne 73, 3) := by decide +kernel
theorem dX6_areCrossed_57 : decode cX6_areCrossed 57 = .ok (.iload_n 3, 1) := by decide +kernel
theorem dX6_areCrossed_58 : decode cX6_areCrossed 58 = .ok (.iload 5, 2) := by decide +kernel
theorem dX6_areCrossed_60 : decode cX6_areCrossed 60 = .ok (.if_icmp .eq 9, 3) := by decide +kernel
theorem dX6_areCrossed_63 : decode cX6_areCrossed 63 = .ok (.iload_n 3, 1) := by decide +kernel
theorem dX6_areCrossed_64 : decode cX6_areCrossed 64 = .ok (.iload 6, 2) := by decide +kernel
theorem dX6_areCrossed_66 : decode cX6_areCrossed 66 = .ok (.if_icmp .ne 7, 3) := by decide +kernel
theorem dX6_areCrossed_69 : decode cX6_areCrossed 69 = .ok (.iload_n 3, 1) := by decide +kernel
theorem dX6_areCrossed_70 : decode cX6_areCrossed 70 = .ok (.goto 5, 3) := by decide +kernel
theorem dX6_areCrossed_73 : decode cX6_areCrossed 73 = .ok (.iload 4, 2) := by decide +kernel
theorem dX6_areCrossed_75 : decode cX6_areCrossed 75 = .ok (.istore 7, 2) := by decide +kernel
theorem dX6_areCrossed_77 : decode cX6_areCrossed 77 = .ok (.iload_n 3, 1) := by decide +kernel
theorem dX6_areCrossed_78 : decode cX6_areCrossed 78 = .ok (.iload 4, 2) := by decide +kernel
theorem dX6_areCrossed_80 : decode cX6_areCrossed 80 = .ok (.iadd, 1) := by decide +kernel
theorem dX6_areCrossed_81 : decode cX6_areCrossed 81 = .ok (.iload 7, 2) := by decide +kernel
theorem dX6_areCrossed_83 : decode cX6_areCrossed 83 = .ok (.isub, 1) := by decide +kernel
theorem dX6_areCrossed_84 : decode cX6_areCrossed 84 = .ok (.istore 8, 2) := by decide +kernel
theorem dX6_areCrossed_86 : decode cX6_areCrossed 86 = .ok (.iload 5, 2) := by decide +kernel
theorem dX6_areCrossed_88 : decode cX6_areCrossed 88 = .ok (.iload 6, 2) := by decide +kernel
theorem dX6_areCrossed_90 : decode cX6_areCrossed 90 = .ok (.iadd, 1) := by decide +kernel
theorem dX6_areCrossed_91 : decode cX6_areCrossed 91 = .ok (.iload 7, 2) := by decide +kernel
theorem dX6_areCrossed_93 : decode cX6_areCrossed 93 = .ok (.isub, 1) := by decide +kernel
theorem dX6_areCrossed_94 : decode cX6_areCrossed 94 = .ok (.istore 9, 2) := by decide +kernel
theorem dX6_areCrossed_96 : decode cX6_areCrossed 96 = .ok (.aload_n 0, 1) := by decide +kernel
theorem dX6_areCrossed_97 : decode cX6_areCrossed 97 = .ok (.iload 8, 2) := by decide +kernel
theorem dX6_areCrossed_99 : decode cX6_areCrossed 99 = .ok (.iload 5, 2) := by decide +kernel
theorem dX6_areCrossed_101 : decode cX6_areCrossed 101 = .ok (.iload 6, 2) := by decide +kernel
theorem dX6_areCrossed_103 : decode cX6_areCrossed 103 = .ok (.invokevirtual 111, 3) := by decide +kernel
theorem dX6_areCrossed_106 : decode cX6_areCrossed 106 = .ok (.ifCond .ne 15, 3) := by decide +kernel
theorem dX6_areCrossed_109 : decode cX6_areCrossed 109 = .ok (.aload_n 0, 1) := by decide +kernel
theorem dX6_areCrossed_110 : decode cX6_areCrossed 110 = .ok (.iload 9, 2) := by decide +kernel
theorem dX6_areCrossed_112 : decode cX6_areCrossed 112 = .ok (.iload_n 3, 1) := by decide +kernel
theorem dX6_areCrossed_113 : decode cX6_areCrossed 113 = .ok (.iload 4, 2) := by decide +kernel
theorem dX6_areCrossed_115 : decode cX6_areCrossed 115 = .ok (.invokevirtual 111, 3) := by decide +kernel
theorem dX6_areCrossed_118 : decode cX6_areCrossed 118 = .ok (.ifCond .eq 7, 3) := by decide +kernel
theorem dX6_areCrossed_121 : decode cX6_areCrossed 121 = .ok (.iconst 1, 1) := by decide +kernel
theorem dX6_areCrossed_122 : decode cX6_areCrossed 122 = .ok (.goto 4, 3) := by decide +kernel
theorem dX6_areCrossed_125 : decode cX6_areCrossed 125 = .ok (.iconst 0, 1) := by decide +kernel
theorem dX6_areCrossed_126 : decode cX6_areCrossed 126 = .ok (.ireturn, 1) := by decide +kernel
theorem dX6_areCrossed_127 : decode cX6_areCrossed 127 = .ok (.aload_n 0, 1) := by decide +kernel
theorem dX6_areCrossed_128 : decode cX6_areCrossed 128 = .ok (.iload_n 3, 1) := by decide +kernel
theorem dX6_areCrossed_129 : decode cX6_areCrossed 129 = .ok (.iload 5, 2) := by decide +kernel
theorem dX6_areCrossed_131 : decode cX6_areCrossed 131 = .ok (.iload 6, 2) := by decide +kernel
theorem dX6_areCrossed_133 : decode cX6_areCrossed 133 = .ok (.invokevirtual 111, 3) := by decide +kernel
theorem dX6_areCrossed_136 : decode cX6_areCrossed 136 = .ok (.ifCond .ne 40, 3) := by decide +kernel
theorem dX6_areCrossed_139 : decode cX6_areCrossed 139 = .ok (.aload_n 0, 1) := by decide +kernel
theorem dX6_areCrossed_140 : decode cX6_areCrossed 140 = .ok (.iload 4, 2) := by decide +kernel
theorem dX6_areCrossed_142 : decode cX6_areCrossed 142 = .ok (.iload 5, 2) := by decide +kernel
theorem dX6_areCrossed_144 : decode cX6_areCrossed 144 = .ok (.iload 6, 2) := by decide +kernel
theorem dX6_areCrossed_146 : decode cX6_areCrossed 146 = .ok (.invokevirtual 111, 3) := by decide +kernel
theorem dX6_areCrossed_149 : decode cX6_areCrossed 149 = .ok (.ifCond .ne 27, 3) := by decide +kernel
theorem dX6_areCrossed_152 : decode cX6_areCrossed 152 = .ok (.aload_n 0, 1) := by decide +kernel
theorem dX6_areCrossed_153 : decode cX6_areCrossed 153 = .ok (.iload 5, 2) := by decide +kernel
theorem dX6_areCrossed_155 : decode cX6_areCrossed 155 = .ok (.iload_n 3, 1) := by decide +kernel
theorem dX6_areCrossed_156 : decode cX6_areCrossed 156 = .ok (.iload 4, 2) := by decide +kernel
theorem dX6_areCrossed_158 : decode cX6_areCrossed 158 = .ok (.invokevirtual 111, 3) := by decide +kernel
theorem dX6_areCrossed_161 : decode cX6_areCrossed 161 = .ok (.ifCond .ne 15, 3) := by decide +kernel
theorem dX6_areCrossed_164 : decode cX6_areCrossed 164 = .ok (.aload_n 0, 1) := by decide +kernel
theorem dX6_areCrossed_165 : decode cX6_areCrossed 165 = .ok (.iload 6, 2) := by decide +kernel
theorem dX6_areCrossed_167 : decode cX6_areCrossed 167 = .ok (.iload_n 3, 1) := by decide +kernel
theorem dX6_areCrossed_168 : decode cX6_areCrossed 168 = .ok (.iload 4, 2) := by decide +kernel
theorem dX6_areCrossed_170 : decode cX6_areCrossed 170 = .ok (.invokevirtual 111, 3) := by decide +kernel
theorem dX6_areCrossed_173 : decode cX6_areCrossed 173 = .ok (.ifCond .eq 5, 3) := by decide +kernel
theorem dX6_areCrossed_176 : decode cX6_areCrossed 176 = .ok (.iconst 1, 1) := by decide +kernel
theorem dX6_areCrossed_177 : decode cX6_areCrossed 177 = .ok (.ireturn, 1) := by decide +kernel
theorem dX6_areCrossed_178 : decode cX6_areCrossed 178 = .ok (.aload_n 0, 1) := by decide +kernel
theorem dX6_areCrossed_179 : decode cX6_areCrossed 179 = .ok (.iload_n 3, 1) := by decide +kernel
theorem dX6_areCrossed_180 : decode cX6_areCrossed 180 = .ok (.iload 4, 2) := by decide +kernel
theorem dX6_areCrossed_182 : decode cX6_areCrossed 182 = .ok (.iload 5, 2) := by decide +kernel
theorem dX6_areCrossed_184 : decode cX6_areCrossed 184 = .ok (.invokevirtual 107, 3) := by decide +kernel
theorem dX6_areCrossed_187 : decode cX6_areCrossed 187 = .ok (.aload_n 0, 1) := by decide +kernel
theorem dX6_areCrossed_188 : decode cX6_areCrossed 188 = .ok (.iload_n 3, 1) := by decide +kernel
theorem dX6_areCrossed_189 : decode cX6_areCrossed 189 = .ok (.iload 4, 2) := by decide +kernel
theorem dX6_areCrossed_191 : decode cX6_areCrossed 191 = .ok (.iload 6, 2) := by decide +kernel
theorem dX6_areCrossed_193 : decode cX6_areCrossed 193 = .ok (.invokevirtual 107, 3) := by decide +kernel
theorem dX6_areCrossed_196 : decode cX6_areCrossed 196 = .ok (.imul, 1) := by decide +kernel
theorem dX6_areCrossed_197 : decode cX6_areCrossed 197 = .ok (.ifCond .ge 30, 3) := by decide +kernel
theorem dX6_areCrossed_200 : decode cX6_areCrossed 200 = .ok (.aload_n 0, 1) := by decide +kernel
theorem dX6_areCrossed_201 : decode cX6_areCrossed 201 = .ok (.iload 5, 2) := by decide +kernel
theorem dX6_areCrossed_203 : decode cX6_areCrossed 203 = .ok (.iload 6, 2) := by decide +kernel
theorem dX6_areCrossed_205 : decode cX6_areCrossed 205 = .ok (.iload_n 3, 1) := by decide +kernel
theorem dX6_areCrossed_206 : decode cX6_areCrossed 206 = .ok (.invokevirtual 107, 3) := by decide +kernel
theorem dX6_areCrossed_209 : decode cX6_areCrossed 209 = .ok (.aload_n 0, 1) := by decide +kernel
theorem dX6_areCrossed_210 : decode cX6_areCrossed 210 = .ok (.iload 5, 2) := by decide +kernel
theorem dX6_areCrossed_212 : decode cX6_areCrossed 212 = .ok (.iload 6, 2) := by decide +kernel
theorem dX6_areCrossed_214 : decode cX6_areCrossed 214 = .ok (.iload 4, 2) := by decide +kernel
theorem dX6_areCrossed_216 : decode cX6_areCrossed 216 = .ok (.invokevirtual 107, 3) := by decide +kernel
theorem dX6_areCrossed_219 : decode cX6_areCrossed 219 = .ok (.imul, 1) := by decide +kernel
theorem dX6_areCrossed_220 : decode cX6_areCrossed 220 = .ok (.ifCond .ge 7, 3) := by decide +kernel
theorem dX6_areCrossed_223 : decode cX6_areCrossed 223 = .ok (.iconst 1, 1) := by decide +kernel
theorem dX6_areCrossed_224 : decode cX6_areCrossed 224 = .ok (.goto 4, 3) := by decide +kernel
theorem dX6_areCrossed_227 : decode cX6_areCrossed 227 = .ok (.iconst 0, 1) := by decide +kernel
theorem dX6_areCrossed_228 : decode cX6_areCrossed 228 = .ok (.ireturn, 1) := by decide +kernel
theorem dX6_cross_0 : decode cX6_cross 0 = .ok (.aload_n 0, 1) := by decide +kernel
theorem dX6_cross_1 : decode cX6_cross 1 = .ok (.iload_n 1, 1) := by decide +kernel
theorem dX6_cross_2 : decode cX6_cross 2 = .ok (.invokevirtual 90, 3) := by decide +kernel
theorem dX6_cross_5 : decode cX6_cross 5 = .ok (.ifCond .eq 33, 3) := by decide +kernel
theorem dX6_cross_8 : decode cX6_cross 8 = .ok (.aload_n 0, 1) := by decide +kernel
theorem dX6_cross_9 : decode cX6_cross 9 = .ok (.iload_n 2, 1) := by decide +kernel
theorem dX6_cross_10 : decode cX6_cross 10 = .ok (.invokevirtual 90, 3) := by decide +kernel
theorem dX6_cross_13 : decode cX6_cross 13 = .ok (.ifCond .eq 25, 3) := by decide +kernel
theorem dX6_cross_16 : decode cX6_cross 16 = .ok (.iload_n 1, 1) := by decide +kernel
theorem dX6_cross_17 : decode cX6_cross 17 = .ok (.iload_n 2, 1) := by decide +kernel
theorem dX6_cross_18 : decode cX6_cross 18 = .ok (.if_icmp .eq 20, 3) := by decide +kernel
theorem dX6_cross_21 : decode cX6_cross 21 = .ok (.aload_n 0, 1) := by decide +kernel
theorem dX6_cross_22 : decode cX6_cross 22 = .ok (.iload_n 1, 1) := by decide +kernel
theorem dX6_cross_23 : decode cX6_cross 23 = .ok (.iload_n 2, 1) := by decide +kernel
theorem dX6_cross_24 : decode cX6_cross 24 = .ok (.invokevirtual 115, 3) := by decide +kernel
theorem dX6_cross_27 : decode cX6_cross 27 = .ok (.ifCond .eq 7, 3) := by decide +kernel
theorem dX6_cross_30 : decode cX6_cross 30 = .ok (.iconst 1, 1) := by decide +kernel
theorem dX6_cross_31 : decode cX6_cross 31 = .ok (.goto 8, 3) := by decide +kernel
theorem dX6_cross_34 : decode cX6_cross 34 = .ok (.iconst 0, 1) := by decide +kernel
theorem dX6_cross_35 : decode cX6_cross 35 = .ok (.goto 4, 3) := by decide +kernel
theorem dX6_cross_38 : decode cX6_cross 38 = .ok (.iconst (-1), 1) := by decide +kernel
theorem dX6_cross_39 : decode cX6_cross 39 = .ok (.ireturn, 1) := by decide +kernel
theorem dX6_determinant_0 : decode cX6_determinant 0 = .ok (.iconst 0, 1) := by decide +kernel
theorem dX6_determinant_1 : decode cX6_determinant 1 = .ok (.istore_n 2, 1) := by decide +kernel
theorem dX6_determinant_2 : decode cX6_determinant 2 = .ok (.iload_n 2, 1) := by decide +kernel
theorem dX6_determinant_3 : decode cX6_determinant 3 = .ok (.aload_n 0, 1) := by decide +kernel
theorem dX6_determinant_4 : decode cX6_determinant 4 = .ok (.getfield 119, 3) := by decide +kernel
theorem dX6_determinant_7 : decode cX6_determinant 7 = .ok (.if_icmp .ge 61, 3) := by decide +kernel
theorem dX6_determinant_10 : decode cX6_determinant 10 = .ok (.iconst 0, 1) := by decide +kernel
theorem dX6_determinant_11 : decode cX6_determinant 11 = .ok (.istore_n 3, 1) := by decide +kernel
theorem dX6_determinant_12 : decode cX6_determinant 12 = .ok (.iload_n 3, 1) := by decide +kernel
theorem dX6_determinant_13 : decode cX6_determinant 13 = .ok (.aload_n 0, 1) := by decide +kernel
theorem dX6_determinant_14 : decode cX6_determinant 14 = .ok (.getfield 119, 3) := by decide +kernel
theorem dX6_determinant_17 : decode cX6_determinant 17 = .ok (.if_icmp .ge 45, 3) := by decide +kernel
theorem dX6_determinant_20 : decode cX6_determinant 20 = .ok (.aload_n 0, 1) := by decide +kernel
theorem dX6_determinant_21 : decode cX6_determinant 21 = .ok (.getfield 42, 3) := by decide +kernel
theorem dX6_determinant_24 : decode cX6_determinant 24 = .ok (.bipush 6, 2) := by decide +kernel
theorem dX6_determinant_26 : decode cX6_determinant 26 = .ok (.iload_n 2, 1) := by decide +kernel
theorem dX6_determinant_27 : decode cX6_determinant 27 = .ok (.imul, 1) := by decide +kernel
theorem dX6_determinant_28 : decode cX6_determinant 28 = .ok (.iload_n 3, 1) := by decide +kernel
theorem dX6_determinant_29 : decode cX6_determinant 29 = .ok (.iadd, 1) := by decide +kernel
theorem dX6_determinant_30 : decode cX6_determinant 30 = .ok (.iload_n 3, 1) := by decide +kernel
theorem dX6_determinant_31 : decode cX6_determinant 31 = .ok (.iload_n 1, 1) := by decide +kernel
theorem dX6_determinant_32 : decode cX6_determinant 32 = .ok (.if_icmp .ne 12, 3) := by decide +kernel
theorem dX6_determinant_35 : decode cX6_determinant 35 = .ok (.aload_n 0, 1) := by decide +kernel
theorem dX6_determinant_36 : decode cX6_determinant 36 = .ok (.getfield 45, 3) := by decide +kernel
theorem dX6_determinant_39 : decode cX6_determinant 39 = .ok (.iload_n 2, 1) := by decide +kernel
theorem dX6_determinant_40 : decode cX6_determinant 40 = .ok (.laload, 1) := by decide +kernel
theorem dX6_determinant_41 : decode cX6_determinant 41 = .ok (.goto 14, 3) := by decide +kernel
theorem dX6_determinant_44 : decode cX6_determinant 44 = .ok (.aload_n 0, 1) := by decide +kernel
theorem dX6_determinant_45 : decode cX6_determinant 45 = .ok (.getfield 38, 3) := by decide +kernel
theorem dX6_determinant_48 : decode cX6_determinant 48 = .ok (.bipush 6, 2) := by decide +kernel
theorem dX6_determinant_50 : decode cX6_determinant 50 = .ok (.iload_n 2, 1) := by decide +kernel
theorem dX6_determinant_51 : decode cX6_determinant 51 = .ok (.imul, 1) := by decide +kernel
theorem dX6_determinant_52 : decode cX6_determinant 52 = .ok (.iload_n 3, 1) := by decide +kernel
theorem dX6_determinant_53 : decode cX6_determinant 53 = .ok (.iadd, 1) := by decide +kernel
theorem dX6_determinant_54 : decode cX6_determinant 54 = .ok (.laload, 1) := by decide +kernel
theorem dX6_determinant_55 : decode cX6_determinant 55 = .ok (.lastore, 1) := by decide +kernel
theorem dX6_determinant_56 : decode cX6_determinant 56 = .ok (.iinc 3 1, 3) := by decide +kernel
theorem dX6_determinant_59 : decode cX6_determinant 59 = .ok (.goto (-47), 3) := by decide +kernel
theorem dX6_determinant_62 : decode cX6_determinant 62 = .ok (.iinc 2 1, 3) := by decide +kernel
theorem dX6_determinant_65 : decode cX6_determinant 65 = .ok (.goto (-63), 3) := by decide +kernel
theorem dX6_determinant_68 : decode cX6_determinant 68 = .ok (.lconst 1, 1) := by decide +kernel
theorem dX6_determinant_69 : decode cX6_determinant 69 = .ok (.lstore_n 2, 1) := by decide +kernel
theorem dX6_determinant_70 : decode cX6_determinant 70 = .ok (.lconst 1, 1) := by decide +kernel
theorem dX6_determinant_71 : decode cX6_determinant 71 = .ok (.lstore 4, 2) := by decide +kernel
theorem dX6_determinant_73 : decode cX6_determinant 73 = .ok (.iconst 0, 1) := by decide +kernel
theorem dX6_determinant_74 : decode cX6_determinant 74 = .ok (.istore 6, 2) := by decide +kernel
theorem dX6_determinant_76 : decode cX6_determinant 76 = .ok (.iload 6, 2) := by decide +kernel
theorem dX6_determinant_78 : decode cX6_determinant 78 = .ok (.aload_n 0, 1) := by decide +kernel
theorem dX6_determinant_79 : decode cX6_determinant 79 = .ok (.getfield 119, 3) := by decide +kernel
theorem dX6_determinant_82 : decode cX6_determinant 82 = .ok (.if_icmp .ge 269, 3) := by decide +kernel
theorem dX6_determinant_85 : decode cX6_determinant 85 = .ok (.iload 6, 2) := by decide +kernel
theorem dX6_determinant_87 : decode cX6_determinant 87 = .ok (.istore 7, 2) := by decide +kernel
theorem dX6_determinant_89 : decode cX6_determinant 89 = .ok (.iload 7, 2) := by decide +kernel
theorem dX6_determinant_91 : decode cX6_determinant 91 = .ok (.aload_n 0, 1) := by decide +kernel
theorem dX6_determinant_92 : decode cX6_determinant 92 = .ok (.getfield 119, 3) := by decide +kernel
theorem dX6_determinant_95 : decode cX6_determinant 95 = .ok (.if_icmp .ge 27, 3) := by decide +kernel
theorem dX6_determinant_98 : decode cX6_determinant 98 = .ok (.aload_n 0, 1) := by decide +kernel
theorem dX6_determinant_99 : decode cX6_determinant 99 = .ok (.getfield 42, 3) := by decide +kernel
theorem dX6_determinant_102 : decode cX6_determinant 102 = .ok (.bipush 6, 2) := by decide +kernel
theorem dX6_determinant_104 : decode cX6_determinant 104 = .ok (.iload 7, 2) := by decide +kernel
theorem dX6_determinant_106 : decode cX6_determinant 106 = .ok (.imul, 1) := by decide +kernel
theorem dX6_determinant_107 : decode cX6_determinant 107 = .ok (.iload 6, 2) := by decide +kernel
theorem dX6_determinant_109 : decode cX6_determinant 109 = .ok (.iadd, 1) := by decide +kernel
theorem dX6_determinant_110 : decode cX6_determinant 110 = .ok (.laload, 1) := by decide +kernel
theorem dX6_determinant_111 : decode cX6_determinant 111 = .ok (.lconst 0, 1) := by decide +kernel
theorem dX6_determinant_112 : decode cX6_determinant 112 = .ok (.lcmp, 1) := by decide +kernel
theorem dX6_determinant_113 : decode cX6_determinant 113 = .ok (.ifCond .ne 9, 3) := by decide +kernel
theorem dX6_determinant_116 : decode cX6_determinant 116 = .ok (.iinc 7 1, 3) := by decide +kernel
theorem dX6_determinant_119 : decode cX6_determinant 119 = .ok (.goto (-30), 3) := by decide +kernel
theorem dX6_determinant_122 : decode cX6_determinant 122 = .ok (.iload 7, 2) := by decide +kernel
theorem dX6_determinant_124 : decode cX6_determinant 124 = .ok (.aload_n 0, 1) := by decide +kernel
theorem dX6_determinant_125 : decode cX6_determinant 125 = .ok (.getfield 119, 3) := by decide +kernel
theorem dX6_determinant_128 : decode cX6_determinant 128 = .ok (.if_icmp .ne 5, 3) := by decide +kernel
theorem dX6_determinant_131 : decode cX6_determinant 131 = .ok (.lconst 0, 1) := by decide +kernel
theorem dX6_determinant_132 : decode cX6_determinant 132 = .ok (.lreturn, 1) := by decide +kernel
theorem dX6_determinant_133 : decode cX6_determinant 133 = .ok (.iload 7, 2) := by decide +kernel
theorem dX6_determinant_135 : decode cX6_determinant 135 = .ok (.iload 6, 2) := by decide +kernel
theorem dX6_determinant_137 : decode cX6_determinant 137 = .ok (.if_icmp .eq 82, 3) := by decide +kernel
theorem dX6_determinant_140 : decode cX6_determinant 140 = .ok (.iconst 0, 1) := by decide +kernel
theorem dX6_determinant_141 : decode cX6_determinant 141 = .ok (.istore 8, 2) := by decide +kernel
theorem dX6_determinant_143 : decode cX6_determinant 143 = .ok (.iload 8, 2) := by decide +kernel
theorem dX6_determinant_145 : decode cX6_determinant 145 = .ok (.aload_n 0, 1) := by decide +kernel
theorem dX6_determinant_146 : decode cX6_determinant 146 = .ok (.getfield 119, 3) := by decide +kernel
theorem dX6_determinant_149 : decode cX6_determinant 149 = .ok (.if_icmp .ge 65, 3) := by decide +kernel
theorem dX6_determinant_152 : decode cX6_determinant 152 = .ok (.aload_n 0, 1) := by decide +kernel
theorem dX6_determinant_153 : decode cX6_determinant 153 = .ok (.getfield 42, 3) := by decide +kernel
theorem dX6_determinant_156 : decode cX6_determinant 156 = .ok (.bipush 6, 2) := by decide +kernel
theorem dX6_determinant_158 : decode cX6_determinant 158 = .ok (.iload 7, 2) := by decide +kernel
theorem dX6_determinant_160 : decode cX6_determinant 160 = .ok (.imul, 1) := by decide +kernel
theorem dX6_determinant_161 : decode cX6_determinant 161 = .ok (.iload 8, 2) := by decide +kernel
theorem dX6_determinant_163 : decode cX6_determinant 163 = .ok (.iadd, 1) := by decide +kernel
theorem dX6_determinant_164 : decode cX6_determinant 164 = .ok (.laload, 1) := by decide +kernel
theorem dX6_determinant_165 : decode cX6_determinant 165 = .ok (.lstore 9, 2) := by decide +kernel
theorem dX6_determinant_167 : decode cX6_determinant 167 = .ok (.aload_n 0, 1) := by decide +kernel
theorem dX6_determinant_168 : decode cX6_determinant 168 = .ok (.getfield 42, 3) := by decide +kernel
theorem dX6_determinant_171 : decode cX6_determinant 171 = .ok (.bipush 6, 2) := by decide +kernel
theorem dX6_determinant_173 : decode cX6_determinant 173 = .ok (.iload 7, 2) := by decide +kernel
theorem dX6_determinant_175 : decode cX6_determinant 175 = .ok (.imul, 1) := by decide +kernel
theorem dX6_determinant_176 : decode cX6_determinant 176 = .ok (.iload 8, 2) := by decide +kernel
theorem dX6_determinant_178 : decode cX6_determinant 178 = .ok (.iadd, 1) := by decide +kernel
theorem dX6_determinant_179 : decode cX6_determinant 179 = .ok (.aload_n 0, 1) := by decide +kernel
theorem dX6_determinant_180 : decode cX6_determinant 180 = .ok (.getfield 42, 3) := by decide +kernel
theorem dX6_determinant_183 : decode cX6_determinant 183 = .ok (.bipush 6, 2) := by decide +kernel
theorem dX6_determinant_185 : decode cX6_determinant 185 = .ok (.iload 6, 2) := by decide +kernel
theorem dX6_determinant_187 : decode cX6_determinant 187 = .ok (.imul, 1) := by decide +kernel
theorem dX6_determinant_188 : decode cX6_determinant 188 = .ok (.iload 8, 2) := by decide +kernel
theorem dX6_determinant_190 : decode cX6_determinant 190 = .ok (.iadd, 1) := by decide +kernel
theorem dX6_determinant_191 : decode cX6_determinant 191 = .ok (.laload, 1) := by decide +kernel
theorem dX6_determinant_192 : decode cX6_determinant 192 = .ok (.lastore, 1) := by decide +kernel
theorem dX6_determinant_193 : decode cX6_determinant 193 = .ok (.aload_n 0, 1) := by decide +kernel
theorem dX6_determinant_194 : decode cX6_determinant 194 = .ok (.getfield 42, 3) := by decide +kernel
theorem dX6_determinant_197 : decode cX6_determinant 197 = .ok (.bipush 6, 2) := by decide +kernel
theorem dX6_determinant_199 : decode cX6_determinant 199 = .ok (.iload 6, 2) := by decide +kernel
theorem dX6_determinant_201 : decode cX6_determinant 201 = .ok (.imul, 1) := by decide +kernel
theorem dX6_determinant_202 : decode cX6_determinant 202 = .ok (.iload 8, 2) := by decide +kernel
theorem dX6_determinant_204 : decode cX6_determinant 204 = .ok (.iadd, 1) := by decide +kernel
theorem dX6_determinant_205 : decode cX6_determinant 205 = .ok (.lload 9, 2) := by decide +kernel
theorem dX6_determinant_207 : decode cX6_determinant 207 = .ok (.lastore, 1) := by decide +kernel
theorem dX6_determinant_208 : decode cX6_determinant 208 = .ok (.iinc 8 1, 3) := by decide +kernel
theorem dX6_determinant_211 : decode cX6_determinant 211 = .ok (.goto (-68), 3) := by decide +kernel
theorem dX6_determinant_214 : decode cX6_determinant 214 = .ok (.lload 4, 2) := by decide +kernel
theorem dX6_determinant_216 : decode cX6_determinant 216 = .ok (.lneg, 1) := by decide +kernel
theorem dX6_determinant_217 : decode cX6_determinant 217 = .ok (.lstore 4, 2) := by decide +kernel
theorem dX6_determinant_219 : decode cX6_determinant 219 = .ok (.iload 6, 2) := by decide +kernel
theorem dX6_determinant_221 : decode cX6_determinant 221 = .ok (.iconst 1, 1) := by decide +kernel
theorem dX6_determinant_222 : decode cX6_determinant 222 = .ok (.iadd, 1) := by decide +kernel
theorem dX6_determinant_223 : decode cX6_determinant 223 = .ok (.istore 8, 2) := by decide +kernel
theorem dX6_determinant_225 : decode cX6_determinant 225 = .ok (.iload 8, 2) := by decide +kernel
theorem dX6_determinant_227 : decode cX6_determinant 227 = .ok (.aload_n 0, 1) := by decide +kernel
theorem dX6_determinant_228 : decode cX6_determinant 228 = .ok (.getfield 119, 3) := by decide +kernel
theorem dX6_determinant_231 : decode cX6_determinant 231 = .ok (.if_icmp .ge 100, 3) := by decide +kernel
theorem dX6_determinant_234 : decode cX6_determinant 234 = .ok (.iload 6, 2) := by decide +kernel
theorem dX6_determinant_236 : decode cX6_determinant 236 = .ok (.iconst 1, 1) := by decide +kernel
theorem dX6_determinant_237 : decode cX6_determinant 237 = .ok (.iadd, 1) := by decide +kernel
theorem dX6_determinant_238 : decode cX6_determinant 238 = .ok (.istore 9, 2) := by decide +kernel
theorem dX6_determinant_240 : decode cX6_determinant 240 = .ok (.iload 9, 2) := by decide +kernel
theorem dX6_determinant_242 : decode cX6_determinant 242 = .ok (.aload_n 0, 1) := by decide +kernel
theorem dX6_determinant_243 : decode cX6_determinant 243 = .ok (.getfield 119, 3) := by decide +kernel
theorem dX6_determinant_246 : decode cX6_determinant 246 = .ok (.if_icmp .ge 79, 3) := by decide +kernel
theorem dX6_determinant_249 : decode cX6_determinant 249 = .ok (.aload_n 0, 1) := by decide +kernel
theorem dX6_determinant_250 : decode cX6_determinant 250 = .ok (.getfield 42, 3) := by decide +kernel
theorem dX6_determinant_253 : decode cX6_determinant 253 = .ok (.bipush 6, 2) := by decide +kernel
theorem dX6_determinant_255 : decode cX6_determinant 255 = .ok (.iload 8, 2) := by decide +kernel
theorem dX6_determinant_257 : decode cX6_determinant 257 = .ok (.imul, 1) := by decide +kernel
theorem dX6_determinant_258 : decode cX6_determinant 258 = .ok (.iload 9, 2) := by decide +kernel
theorem dX6_determinant_260 : decode cX6_determinant 260 = .ok (.iadd, 1) := by decide +kernel
theorem dX6_determinant_261 : decode cX6_determinant 261 = .ok (.aload_n 0, 1) := by decide +kernel
theorem dX6_determinant_262 : decode cX6_determinant 262 = .ok (.getfield 42, 3) := by decide +kernel
theorem dX6_determinant_265 : decode cX6_determinant 265 = .ok (.bipush 6, 2) := by decide +kernel
theorem dX6_determinant_267 : decode cX6_determinant 267 = .ok (.iload 8, 2) := by decide +kernel
theorem dX6_determinant_269 : decode cX6_determinant 269 = .ok (.imul, 1) := by decide +kernel
theorem dX6_determinant_270 : decode cX6_determinant 270 = .ok (.iload 9, 2) := by decide +kernel
theorem dX6_determinant_272 : decode cX6_determinant 272 = .ok (.iadd, 1) := by decide +kernel
theorem dX6_determinant_273 : decode cX6_determinant 273 = .ok (.laload, 1) := by decide +kernel
theorem dX6_determinant_274 : decode cX6_determinant 274 = .ok (.aload_n 0, 1) := by decide +kernel
theorem dX6_determinant_275 : decode cX6_determinant 275 = .ok (.getfield 42, 3) := by decide +kernel
theorem dX6_determinant_278 : decode cX6_determinant 278 = .ok (.bipush 6, 2) := by decide +kernel
theorem dX6_determinant_280 : decode cX6_determinant 280 = .ok (.iload 6, 2) := by decide +kernel
theorem dX6_determinant_282 : decode cX6_determinant 282 = .ok (.imul, 1) := by decide +kernel
theorem dX6_determinant_283 : decode cX6_determinant 283 = .ok (.iload 6, 2) := by decide +kernel
theorem dX6_determinant_285 : decode cX6_determinant 285 = .ok (.iadd, 1) := by decide +kernel
theorem dX6_determinant_286 : decode cX6_determinant 286 = .ok (.laload, 1) := by decide +kernel
theorem dX6_determinant_287 : decode cX6_determinant 287 = .ok (.lmul, 1) := by decide +kernel
theorem dX6_determinant_288 : decode cX6_determinant 288 = .ok (.aload_n 0, 1) := by decide +kernel
theorem dX6_determinant_289 : decode cX6_determinant 289 = .ok (.getfield 42, 3) := by decide +kernel
theorem dX6_determinant_292 : decode cX6_determinant 292 = .ok (.bipush 6, 2) := by decide +kernel
theorem dX6_determinant_294 : decode cX6_determinant 294 = .ok (.iload 8, 2) := by decide +kernel
theorem dX6_determinant_296 : decode cX6_determinant 296 = .ok (.imul, 1) := by decide +kernel
theorem dX6_determinant_297 : decode cX6_determinant 297 = .ok (.iload 6, 2) := by decide +kernel
theorem dX6_determinant_299 : decode cX6_determinant 299 = .ok (.iadd, 1) := by decide +kernel
theorem dX6_determinant_300 : decode cX6_determinant 300 = .ok (.laload, 1) := by decide +kernel
theorem dX6_determinant_301 : decode cX6_determinant 301 = .ok (.aload_n 0, 1) := by decide +kernel
theorem dX6_determinant_302 : decode cX6_determinant 302 = .ok (.getfield 42, 3) := by decide +kernel
theorem dX6_determinant_305 : decode cX6_determinant 305 = .ok (.bipush 6, 2) := by decide +kernel
theorem dX6_determinant_307 : decode cX6_determinant 307 = .ok (.iload 6, 2) := by decide +kernel
theorem dX6_determinant_309 : decode cX6_determinant 309 = .ok (.imul, 1) := by decide +kernel
theorem dX6_determinant_310 : decode cX6_determinant 310 = .ok (.iload 9, 2) := by decide +kernel
theorem dX6_determinant_312 : decode cX6_determinant 312 = .ok (.iadd, 1) := by decide +kernel
theorem dX6_determinant_313 : decode cX6_determinant 313 = .ok (.laload, 1) := by decide +kernel
theorem dX6_determinant_314 : decode cX6_determinant 314 = .ok (.lmul, 1) := by decide +kernel
theorem dX6_determinant_315 : decode cX6_determinant 315 = .ok (.lsub, 1) := by decide +kernel
theorem dX6_determinant_316 : decode cX6_determinant 316 = .ok (.lload_n 2, 1) := by decide +kernel
theorem dX6_determinant_317 : decode cX6_determinant 317 = .ok (.ldiv, 1) := by decide +kernel
theorem dX6_determinant_318 : decode cX6_determinant 318 = .ok (.lastore, 1) := by decide +kernel
theorem dX6_determinant_319 : decode cX6_determinant 319 = .ok (.iinc 9 1, 3) := by decide +kernel
theorem dX6_determinant_322 : decode cX6_determinant 322 = .ok (.goto (-82), 3) := by decide +kernel
theorem dX6_determinant_325 : decode cX6_determinant 325 = .ok (.iinc 8 1, 3) := by decide +kernel
theorem dX6_determinant_328 : decode cX6_determinant 328 = .ok (.goto (-103), 3) := by decide +kernel
theorem dX6_determinant_331 : decode cX6_determinant 331 = .ok (.aload_n 0, 1) := by decide +kernel
theorem dX6_determinant_332 : decode cX6_determinant 332 = .ok (.getfield 42, 3) := by decide +kernel
theorem dX6_determinant_335 : decode cX6_determinant 335 = .ok (.bipush 6, 2) := by decide +kernel
theorem dX6_determinant_337 : decode cX6_determinant 337 = .ok (.iload 6, 2) := by decide +kernel
theorem dX6_determinant_339 : decode cX6_determinant 339 = .ok (.imul, 1) := by decide +kernel
theorem dX6_determinant_340 : decode cX6_determinant 340 = .ok (.iload 6, 2) := by decide +kernel
theorem dX6_determinant_342 : decode cX6_determinant 342 = .ok (.iadd, 1) := by decide +kernel
theorem dX6_determinant_343 : decode cX6_determinant 343 = .ok (.laload, 1) := by decide +kernel
theorem dX6_determinant_344 : decode cX6_determinant 344 = .ok (.lstore_n 2, 1) := by decide +kernel
theorem dX6_determinant_345 : decode cX6_determinant 345 = .ok (.iinc 6 1, 3) := by decide +kernel
theorem dX6_determinant_348 : decode cX6_determinant 348 = .ok (.goto (-272), 3) := by decide +kernel
theorem dX6_determinant_351 : decode cX6_determinant 351 = .ok (.lload 4, 2) := by decide +kernel
theorem dX6_determinant_353 : decode cX6_determinant 353 = .ok (.lload_n 2, 1) := by decide +kernel
theorem dX6_determinant_354 : decode cX6_determinant 354 = .ok (.lmul, 1) := by decide +kernel
theorem dX6_determinant_355 : decode cX6_determinant 355 = .ok (.lreturn, 1) := by decide +kernel
theorem dX6_layRows_0 : decode cX6_layRows 0 = .ok (.aload_n 0, 1) := by decide +kernel
theorem dX6_layRows_1 : decode cX6_layRows 1 = .ok (.iconst 0, 1) := by decide +kernel
theorem dX6_layRows_2 : decode cX6_layRows 2 = .ok (.putfield 119, 3) := by decide +kernel
theorem dX6_layRows_5 : decode cX6_layRows 5 = .ok (.iconst 0, 1) := by decide +kernel
theorem dX6_layRows_6 : decode cX6_layRows 6 = .ok (.istore_n 1, 1) := by decide +kernel
theorem dX6_layRows_7 : decode cX6_layRows 7 = .ok (.iload_n 1, 1) := by decide +kernel
theorem dX6_layRows_8 : decode cX6_layRows 8 = .ok (.aload_n 0, 1) := by decide +kernel
theorem dX6_layRows_9 : decode cX6_layRows 9 = .ok (.getfield 57, 3) := by decide +kernel
theorem dX6_layRows_12 : decode cX6_layRows 12 = .ok (.if_icmp .ge 56, 3) := by decide +kernel
theorem dX6_layRows_15 : decode cX6_layRows 15 = .ok (.aload_n 0, 1) := by decide +kernel
theorem dX6_layRows_16 : decode cX6_layRows 16 = .ok (.getfield 35, 3) := by decide +kernel
theorem dX6_layRows_19 : decode cX6_layRows 19 = .ok (.iload_n 1, 1) := by decide +kernel
theorem dX6_layRows_20 : decode cX6_layRows 20 = .ok (.aload_n 0, 1) := by decide +kernel
theorem dX6_layRows_21 : decode cX6_layRows 21 = .ok (.getfield 16, 3) := by decide +kernel
theorem dX6_layRows_24 : decode cX6_layRows 24 = .ok (.iload_n 1, 1) := by decide +kernel
theorem dX6_layRows_25 : decode cX6_layRows 25 = .ok (.baload, 1) := by decide +kernel
theorem dX6_layRows_26 : decode cX6_layRows 26 = .ok (.ifCond .eq 8, 3) := by decide +kernel
theorem dX6_layRows_29 : decode cX6_layRows 29 = .ok (.bipush (-6), 2) := by decide +kernel
theorem dX6_layRows_31 : decode cX6_layRows 31 = .ok (.goto 7, 3) := by decide +kernel
theorem dX6_layRows_34 : decode cX6_layRows 34 = .ok (.aload_n 0, 1) := by decide +kernel
theorem dX6_layRows_35 : decode cX6_layRows 35 = .ok (.getfield 119, 3) := by decide +kernel
theorem dX6_layRows_38 : decode cX6_layRows 38 = .ok (.iastore, 1) := by decide +kernel
theorem dX6_layRows_39 : decode cX6_layRows 39 = .ok (.aload_n 0, 1) := by decide +kernel
theorem dX6_layRows_40 : decode cX6_layRows 40 = .ok (.dup, 1) := by decide +kernel
theorem dX6_layRows_41 : decode cX6_layRows 41 = .ok (.getfield 119, 3) := by decide +kernel
theorem dX6_layRows_44 : decode cX6_layRows 44 = .ok (.aload_n 0, 1) := by decide +kernel
theorem dX6_layRows_45 : decode cX6_layRows 45 = .ok (.getfield 16, 3) := by decide +kernel
theorem dX6_layRows_48 : decode cX6_layRows 48 = .ok (.iload_n 1, 1) := by decide +kernel
theorem dX6_layRows_49 : decode cX6_layRows 49 = .ok (.baload, 1) := by decide +kernel
theorem dX6_layRows_50 : decode cX6_layRows 50 = .ok (.ifCond .eq 7, 3) := by decide +kernel
theorem dX6_layRows_53 : decode cX6_layRows 53 = .ok (.iconst 0, 1) := by decide +kernel
theorem dX6_layRows_54 : decode cX6_layRows 54 = .ok (.goto 4, 3) := by decide +kernel
theorem dX6_layRows_57 : decode cX6_layRows 57 = .ok (.iconst 2, 1) := by decide +kernel
theorem dX6_layRows_58 : decode cX6_layRows 58 = .ok (.iadd, 1) := by decide +kernel
theorem dX6_layRows_59 : decode cX6_layRows 59 = .ok (.putfield 119, 3) := by decide +kernel
theorem dX6_layRows_62 : decode cX6_layRows 62 = .ok (.iinc 1 1, 3) := by decide +kernel
theorem dX6_layRows_65 : decode cX6_layRows 65 = .ok (.goto (-58), 3) := by decide +kernel
theorem dX6_layRows_68 : decode cX6_layRows 68 = .ok (.return_, 1) := by decide +kernel
theorem dX6_put_0 : decode cX6_put 0 = .ok (.aload_n 0, 1) := by decide +kernel
theorem dX6_put_1 : decode cX6_put 1 = .ok (.getfield 38, 3) := by decide +kernel
theorem dX6_put_4 : decode cX6_put 4 = .ok (.bipush 6, 2) := by decide +kernel
theorem dX6_put_6 : decode cX6_put 6 = .ok (.iload_n 1, 1) := by decide +kernel
theorem dX6_put_7 : decode cX6_put 7 = .ok (.imul, 1) := by decide +kernel
theorem dX6_put_8 : decode cX6_put 8 = .ok (.iload_n 2, 1) := by decide +kernel
theorem dX6_put_9 : decode cX6_put 9 = .ok (.iadd, 1) := by decide +kernel
theorem dX6_put_10 : decode cX6_put 10 = .ok (.lload_n 3, 1) := by decide +kernel
theorem dX6_put_11 : decode cX6_put 11 = .ok (.lastore, 1) := by decide +kernel
theorem dX6_put_12 : decode cX6_put 12 = .ok (.return_, 1) := by decide +kernel
theorem dX6_layCells_0 : decode cX6_layCells 0 = .ok (.iconst 0, 1) := by decide +kernel
theorem dX6_layCells_1 : decode cX6_layCells 1 = .ok (.istore_n 1, 1) := by decide +kernel
theorem dX6_layCells_2 : decode cX6_layCells 2 = .ok (.iload_n 1, 1) := by decide +kernel
theorem dX6_layCells_3 : decode cX6_layCells 3 = .ok (.bipush 36, 2) := by decide +kernel
theorem dX6_layCells_5 : decode cX6_layCells 5 = .ok (.if_icmp .ge 16, 3) := by decide +kernel
theorem dX6_layCells_8 : decode cX6_layCells 8 = .ok (.aload_n 0, 1) := by decide +kernel
theorem dX6_layCells_9 : decode cX6_layCells 9 = .ok (.getfield 38, 3) := by decide +kernel
theorem dX6_layCells_12 : decode cX6_layCells 12 = .ok (.iload_n 1, 1) := by decide +kernel
theorem dX6_layCells_13 : decode cX6_layCells 13 = .ok (.lconst 0, 1) := by decide +kernel
theorem dX6_layCells_14 : decode cX6_layCells 14 = .ok (.lastore, 1) := by decide +kernel
theorem dX6_layCells_15 : decode cX6_layCells 15 = .ok (.iinc 1 1, 3) := by decide +kernel
theorem dX6_layCells_18 : decode cX6_layCells 18 = .ok (.goto (-16), 3) := by decide +kernel
theorem dX6_layCells_21 : decode cX6_layCells 21 = .ok (.iconst 0, 1) := by decide +kernel
theorem dX6_layCells_22 : decode cX6_layCells 22 = .ok (.istore_n 1, 1) := by decide +kernel
theorem dX6_layCells_23 : decode cX6_layCells 23 = .ok (.iload_n 1, 1) := by decide +kernel
theorem dX6_layCells_24 : decode cX6_layCells 24 = .ok (.aload_n 0, 1) := by decide +kernel
theorem dX6_layCells_25 : decode cX6_layCells 25 = .ok (.getfield 119, 3) := by decide +kernel
theorem dX6_layCells_28 : decode cX6_layCells 28 = .ok (.if_icmp .ge 155, 3) := by decide +kernel
theorem dX6_layCells_31 : decode cX6_layCells 31 = .ok (.aload_n 0, 1) := by decide +kernel
theorem dX6_layCells_32 : decode cX6_layCells 32 = .ok (.getfield 26, 3) := by decide +kernel
theorem dX6_layCells_35 : decode cX6_layCells 35 = .ok (.aload_n 0, 1) := by decide +kernel
theorem dX6_layCells_36 : decode cX6_layCells 36 = .ok (.getfield 48, 3) := by decide +kernel
theorem dX6_layCells_39 : decode cX6_layCells 39 = .ok (.iload_n 1, 1) := by decide +kernel
theorem dX6_layCells_40 : decode cX6_layCells 40 = .ok (.iaload, 1) := by decide +kernel
theorem dX6_layCells_41 : decode cX6_layCells 41 = .ok (.iaload, 1) := by decide +kernel
theorem dX6_layCells_42 : decode cX6_layCells 42 = .ok (.istore_n 2, 1) := by decide +kernel
theorem dX6_layCells_43 : decode cX6_layCells 43 = .ok (.aload_n 0, 1) := by decide +kernel
theorem dX6_layCells_44 : decode cX6_layCells 44 = .ok (.getfield 29, 3) := by decide +kernel
theorem dX6_layCells_47 : decode cX6_layCells 47 = .ok (.aload_n 0, 1) := by decide +kernel
theorem dX6_layCells_48 : decode cX6_layCells 48 = .ok (.getfield 48, 3) := by decide +kernel
theorem dX6_layCells_51 : decode cX6_layCells 51 = .ok (.iload_n 1, 1) := by decide +kernel
theorem dX6_layCells_52 : decode cX6_layCells 52 = .ok (.iaload, 1) := by decide +kernel
theorem dX6_layCells_53 : decode cX6_layCells 53 = .ok (.iaload, 1) := by decide +kernel
theorem dX6_layCells_54 : decode cX6_layCells 54 = .ok (.istore_n 3, 1) := by decide +kernel
theorem dX6_layCells_55 : decode cX6_layCells 55 = .ok (.aload_n 0, 1) := by decide +kernel
theorem dX6_layCells_56 : decode cX6_layCells 56 = .ok (.getfield 35, 3) := by decide +kernel
theorem dX6_layCells_59 : decode cX6_layCells 59 = .ok (.iload_n 2, 1) := by decide +kernel
theorem dX6_layCells_60 : decode cX6_layCells 60 = .ok (.iaload, 1) := by decide +kernel
theorem dX6_layCells_61 : decode cX6_layCells 61 = .ok (.ifCond .lt 55, 3) := by decide +kernel
theorem dX6_layCells_64 : decode cX6_layCells 64 = .ok (.aload_n 0, 1) := by decide +kernel
theorem dX6_layCells_65 : decode cX6_layCells 65 = .ok (.aload_n 0, 1) := by decide +kernel
theorem dX6_layCells_66 : decode cX6_layCells 66 = .ok (.getfield 35, 3) := by decide +kernel
theorem dX6_layCells_69 : decode cX6_layCells 69 = .ok (.iload_n 2, 1) := by decide +kernel
theorem dX6_layCells_70 : decode cX6_layCells 70 = .ok (.iaload, 1) := by decide +kernel
theorem dX6_layCells_71 : decode cX6_layCells 71 = .ok (.iload_n 1, 1) := by decide +kernel
theorem dX6_layCells_72 : decode cX6_layCells 72 = .ok (.aload_n 0, 1) := by decide +kernel
theorem dX6_layCells_73 : decode cX6_layCells 73 = .ok (.getfield 7, 3) := by decide +kernel
theorem dX6_layCells_76 : decode cX6_layCells 76 = .ok (.iload_n 3, 1) := by decide +kernel
theorem dX6_layCells_77 : decode cX6_layCells 77 = .ok (.iaload, 1) := by decide +kernel
theorem dX6_layCells_78 : decode cX6_layCells 78 = .ok (.aload_n 0, 1) := by decide +kernel
theorem dX6_layCells_79 : decode cX6_layCells 79 = .ok (.getfield 7, 3) := by decide +kernel
theorem dX6_layCells_82 : decode cX6_layCells 82 = .ok (.iload_n 2, 1) := by decide +kernel
theorem dX6_layCells_83 : decode cX6_layCells 83 = .ok (.iaload, 1) := by decide +kernel
theorem dX6_layCells_84 : decode cX6_layCells 84 = .ok (.isub, 1) := by decide +kernel
theorem dX6_layCells_85 : decode cX6_layCells 85 = .ok (.i2l, 1) := by decide +kernel
theorem dX6_layCells_86 : decode cX6_layCells 86 = .ok (.invokevirtual 122, 3) := by decide +kernel
theorem dX6_layCells_89 : decode cX6_layCells 89 = .ok (.aload_n 0, 1) := by decide +kernel
theorem dX6_layCells_90 : decode cX6_layCells 90 = .ok (.aload_n 0, 1) := by decide +kernel
theorem dX6_layCells_91 : decode cX6_layCells 91 = .ok (.getfield 35, 3) := by decide +kernel
theorem dX6_layCells_94 : decode cX6_layCells 94 = .ok (.iload_n 2, 1) := by decide +kernel
theorem dX6_layCells_95 : decode cX6_layCells 95 = .ok (.iaload, 1) := by decide +kernel
theorem dX6_layCells_96 : decode cX6_layCells 96 = .ok (.iconst 1, 1) := by decide +kernel
theorem dX6_layCells_97 : decode cX6_layCells 97 = .ok (.iadd, 1) := by decide +kernel
theorem dX6_layCells_98 : decode cX6_layCells 98 = .ok (.iload_n 1, 1) := by decide +kernel
theorem dX6_layCells_99 : decode cX6_layCells 99 = .ok (.aload_n 0, 1) := by decide +kernel
theorem dX6_layCells_100 : decode cX6_layCells 100 = .ok (.getfield 13, 3) := by decide +kernel
theorem dX6_layCells_103 : decode cX6_layCells 103 = .ok (.iload_n 3, 1) := by decide +kernel
theorem dX6_layCells_104 : decode cX6_layCells 104 = .ok (.iaload, 1) := by decide +kernel
theorem dX6_layCells_105 : decode cX6_layCells 105 = .ok (.aload_n 0, 1) := by decide +kernel
theorem dX6_layCells_106 : decode cX6_layCells 106 = .ok (.getfield 13, 3) := by decide +kernel
theorem dX6_layCells_109 : decode cX6_layCells 109 = .ok (.iload_n 2, 1) := by decide +kernel
theorem dX6_layCells_110 : decode cX6_layCells 110 = .ok (.iaload, 1) := by decide +kernel
theorem dX6_layCells_111 : decode cX6_layCells 111 = .ok (.isub, 1) := by decide +kernel
theorem dX6_layCells_112 : decode cX6_layCells 112 = .ok (.i2l, 1) := by decide +kernel
theorem dX6_layCells_113 : decode cX6_layCells 113 = .ok (.invokevirtual 122, 3) := by decide +kernel
theorem dX6_layCells_116 : decode cX6_layCells 116 = .ok (.aload_n 0, 1) := by decide +kernel
theorem dX6_layCells_117 : decode cX6_layCells 117 = .ok (.getfield 35, 3) := by decide +kernel
theorem dX6_layCells_120 : decode cX6_layCells 120 = .ok (.iload_n 3, 1) := by decide +kernel
theorem dX6_layCells_121 : decode cX6_layCells 121 = .ok (.iaload, 1) := by decide +kernel
theorem dX6_layCells_122 : decode cX6_layCells 122 = .ok (.ifCond .lt 55, 3) := by decide +kernel
theorem dX6_layCells_125 : decode cX6_layCells 125 = .ok (.aload_n 0, 1) := by decide +kernel
theorem dX6_layCells_126 : decode cX6_layCells 126 = .ok (.aload_n 0, 1) := by decide +kernel
theorem dX6_layCells_127 : decode cX6_layCells 127 = .ok (.getfield 35, 3) := by decide +kernel
theorem dX6_layCells_130 : decode cX6_layCells 130 = .ok (.iload_n 3, 1) := by decide +kernel
theorem dX6_layCells_131 : decode cX6_layCells 131 = .ok (.iaload, 1) := by decide +kernel
theorem dX6_layCells_132 : decode cX6_layCells 132 = .ok (.iload_n 1, 1) := by decide +kernel
theorem dX6_layCells_133 : decode cX6_layCells 133 = .ok (.aload_n 0, 1) := by decide +kernel
theorem dX6_layCells_134 : decode cX6_layCells 134 = .ok (.getfield 7, 3) := by decide +kernel
theorem dX6_layCells_137 : decode cX6_layCells 137 = .ok (.iload_n 2, 1) := by decide +kernel
theorem dX6_layCells_138 : decode cX6_layCells 138 = .ok (.iaload, 1) := by decide +kernel
theorem dX6_layCells_139 : decode cX6_layCells 139 = .ok (.aload_n 0, 1) := by decide +kernel
theorem dX6_layCells_140 : decode cX6_layCells 140 = .ok (.getfield 7, 3) := by decide +kernel
theorem dX6_layCells_143 : decode cX6_layCells 143 = .ok (.iload_n 3, 1) := by decide +kernel
theorem dX6_layCells_144 : decode cX6_layCells 144 = .ok (.iaload, 1) := by decide +kernel
theorem dX6_layCells_145 : decode cX6_layCells 145 = .ok (.isub, 1) := by decide +kernel
theorem dX6_layCells_146 : decode cX6_layCells 146 = .ok (.i2l, 1) := by decide +kernel
theorem dX6_layCells_147 : decode cX6_layCells 147 = .ok (.invokevirtual 122, 3) := by decide +kernel
theorem dX6_layCells_150 : decode cX6_layCells 150 = .ok (.aload_n 0, 1) := by decide +kernel
theorem dX6_layCells_151 : decode cX6_layCells 151 = .ok (.aload_n 0, 1) := by decide +kernel
theorem dX6_layCells_152 : decode cX6_layCells 152 = .ok (.getfield 35, 3) := by decide +kernel
theorem dX6_layCells_155 : decode cX6_layCells 155 = .ok (.iload_n 3, 1) := by decide +kernel
theorem dX6_layCells_156 : decode cX6_layCells 156 = .ok (.iaload, 1) := by decide +kernel
theorem dX6_layCells_157 : decode cX6_layCells 157 = .ok (.iconst 1, 1) := by decide +kernel
theorem dX6_layCells_158 : decode cX6_layCells 158 = .ok (.iadd, 1) := by decide +kernel
theorem dX6_layCells_159 : decode cX6_layCells 159 = .ok (.iload_n 1, 1) := by decide +kernel
theorem dX6_layCells_160 : decode cX6_layCells 160 = .ok (.aload_n 0, 1) := by decide +kernel
theorem dX6_layCells_161 : decode cX6_layCells 161 = .ok (.getfield 13, 3) := by decide +kernel
theorem dX6_layCells_164 : decode cX6_layCells 164 = .ok (.iload_n 2, 1) := by decide +kernel
theorem dX6_layCells_165 : decode cX6_layCells 165 = .ok (.iaload, 1) := by decide +kernel
theorem dX6_layCells_166 : decode cX6_layCells 166 = .ok (.aload_n 0, 1) := by decide +kernel
theorem dX6_layCells_167 : decode cX6_layCells 167 = .ok (.getfield 13, 3) := by decide +kernel
theorem dX6_layCells_170 : decode cX6_layCells 170 = .ok (.iload_n 3, 1) := by decide +kernel
theorem dX6_layCells_171 : decode cX6_layCells 171 = .ok (.iaload, 1) := by decide +kernel
theorem dX6_layCells_172 : decode cX6_layCells 172 = .ok (.isub, 1) := by decide +kernel
theorem dX6_layCells_173 : decode cX6_layCells 173 = .ok (.i2l, 1) := by decide +kernel
theorem dX6_layCells_174 : decode cX6_layCells 174 = .ok (.invokevirtual 122, 3) := by decide +kernel
theorem dX6_layCells_177 : decode cX6_layCells 177 = .ok (.iinc 1 1, 3) := by decide +kernel
theorem dX6_layCells_180 : decode cX6_layCells 180 = .ok (.goto (-157), 3) := by decide +kernel
theorem dX6_layCells_183 : decode cX6_layCells 183 = .ok (.iconst 0, 1) := by decide +kernel
theorem dX6_layCells_184 : decode cX6_layCells 184 = .ok (.istore_n 1, 1) := by decide +kernel
theorem dX6_layCells_185 : decode cX6_layCells 185 = .ok (.iload_n 1, 1) := by decide +kernel
theorem dX6_layCells_186 : decode cX6_layCells 186 = .ok (.aload_n 0, 1) := by decide +kernel
theorem dX6_layCells_187 : decode cX6_layCells 187 = .ok (.getfield 57, 3) := by decide +kernel
theorem dX6_layCells_190 : decode cX6_layCells 190 = .ok (.if_icmp .ge 58, 3) := by decide +kernel
theorem dX6_layCells_193 : decode cX6_layCells 193 = .ok (.aload_n 0, 1) := by decide +kernel
theorem dX6_layCells_194 : decode cX6_layCells 194 = .ok (.getfield 35, 3) := by decide +kernel
theorem dX6_layCells_197 : decode cX6_layCells 197 = .ok (.iload_n 1, 1) := by decide +kernel
theorem dX6_layCells_198 : decode cX6_layCells 198 = .ok (.iaload, 1) := by decide +kernel
theorem dX6_layCells_199 : decode cX6_layCells 199 = .ok (.ifCond .lt 43, 3) := by decide +kernel
theorem dX6_layCells_202 : decode cX6_layCells 202 = .ok (.aload_n 0, 1) := by decide +kernel
theorem dX6_layCells_203 : decode cX6_layCells 203 = .ok (.getfield 45, 3) := by decide +kernel
theorem dX6_layCells_206 : decode cX6_layCells 206 = .ok (.aload_n 0, 1) := by decide +kernel
theorem dX6_layCells_207 : decode cX6_layCells 207 = .ok (.getfield 35, 3) := by decide +kernel
theorem dX6_layCells_210 : decode cX6_layCells 210 = .ok (.iload_n 1, 1) := by decide +kernel
theorem dX6_layCells_211 : decode cX6_layCells 211 = .ok (.iaload, 1) := by decide +kernel
theorem dX6_layCells_212 : decode cX6_layCells 212 = .ok (.aload_n 0, 1) := by decide +kernel
theorem dX6_layCells_213 : decode cX6_layCells 213 = .ok (.getfield 20, 3) := by decide +kernel
theorem dX6_layCells_216 : decode cX6_layCells 216 = .ok (.iload_n 1, 1) := by decide +kernel
theorem dX6_layCells_217 : decode cX6_layCells 217 = .ok (.iaload, 1) := by decide +kernel
theorem dX6_layCells_218 : decode cX6_layCells 218 = .ok (.ineg, 1) := by decide +kernel
theorem dX6_layCells_219 : decode cX6_layCells 219 = .ok (.i2l, 1) := by decide +kernel
theorem dX6_layCells_220 : decode cX6_layCells 220 = .ok (.lastore, 1) := by decide +kernel
theorem dX6_layCells_221 : decode cX6_layCells 221 = .ok (.aload_n 0, 1) := by decide +kernel
theorem dX6_layCells_222 : decode cX6_layCells 222 = .ok (.getfield 45, 3) := by decide +kernel
theorem dX6_layCells_225 : decode cX6_layCells 225 = .ok (.aload_n 0, 1) := by decide +kernel
theorem dX6_layCells_226 : decode cX6_layCells 226 = .ok (.getfield 35, 3) := by decide +kernel
theorem dX6_layCells_229 : decode cX6_layCells 229 = .ok (.iload_n 1, 1) := by decide +kernel
theorem dX6_layCells_230 : decode cX6_layCells 230 = .ok (.iaload, 1) := by decide +kernel
theorem dX6_layCells_231 : decode cX6_layCells 231 = .ok (.iconst 1, 1) := by decide +kernel
theorem dX6_layCells_232 : decode cX6_layCells 232 = .ok (.iadd, 1) := by decide +kernel
theorem dX6_layCells_233 : decode cX6_layCells 233 = .ok (.aload_n 0, 1) := by decide +kernel
theorem dX6_layCells_234 : decode cX6_layCells 234 = .ok (.getfield 23, 3) := by decide +kernel
theorem dX6_layCells_237 : decode cX6_layCells 237 = .ok (.iload_n 1, 1) := by decide +kernel
theorem dX6_layCells_238 : decode cX6_layCells 238 = .ok (.iaload, 1) := by decide +kernel
theorem dX6_layCells_239 : decode cX6_layCells 239 = .ok (.ineg, 1) := by decide +kernel
theorem dX6_layCells_240 : decode cX6_layCells 240 = .ok (.i2l, 1) := by decide +kernel
theorem dX6_layCells_241 : decode cX6_layCells 241 = .ok (.lastore, 1) := by decide +kernel
theorem dX6_layCells_242 : decode cX6_layCells 242 = .ok (.iinc 1 1, 3) := by decide +kernel
theorem dX6_layCells_245 : decode cX6_layCells 245 = .ok (.goto (-60), 3) := by decide +kernel
theorem dX6_layCells_248 : decode cX6_layCells 248 = .ok (.return_, 1) := by decide +kernel
theorem dX6_isChoice_0 : decode cX6_isChoice 0 = .ok (.aload_n 0, 1) := by decide +kernel
theorem dX6_isChoice_1 : decode cX6_isChoice 1 = .ok (.iconst 0, 1) := by decide +kernel
theorem dX6_isChoice_2 : decode cX6_isChoice 2 = .ok (.putfield 126, 3) := by decide +kernel
theorem dX6_isChoice_5 : decode cX6_isChoice 5 = .ok (.iconst 0, 1) := by decide +kernel
theorem dX6_isChoice_6 : decode cX6_isChoice 6 = .ok (.istore_n 2, 1) := by decide +kernel
theorem dX6_isChoice_7 : decode cX6_isChoice 7 = .ok (.iload_n 2, 1) := by decide +kernel
theorem dX6_isChoice_8 : decode cX6_isChoice 8 = .ok (.aload_n 0, 1) := by decide +kernel
theorem dX6_isChoice_9 : decode cX6_isChoice 9 = .ok (.getfield 65, 3) := by decide +kernel
theorem dX6_isChoice_12 : decode cX6_isChoice 12 = .ok (.if_icmp .ge 51, 3) := by decide +kernel
theorem dX6_isChoice_15 : decode cX6_isChoice 15 = .ok (.iload_n 1, 1) := by decide +kernel
end
section
theorem dX6_isChoice_16 : decode cX6_isChoice 16 = .ok (.iload_n 2, 1) := by decide +kernel
theorem dX6_isChoice_17 : decode cX6_isChoice 17 = .ok (.ishr, 1) := by decide +kernel
theorem dX6_isChoice_18 : decode cX6_isChoice 18 = .ok (.iconst 1, 1) := by decide +kernel
theorem dX6_isChoice_19 : decode cX6_isChoice 19 = .ok (.iand, 1) := by decide +kernel
theorem dX6_isChoice_20 : decode cX6_isChoice 20 = .ok (.iconst 1, 1) := by decide +kernel
theorem dX6_isChoice_21 : decode cX6_isChoice 21 = .ok (.if_icmp .ne 36, 3) := by decide +kernel
theorem dX6_isChoice_24 : decode cX6_isChoice 24 = .ok (.aload_n 0, 1) := by decide +kernel
theorem dX6_isChoice_25 : decode cX6_isChoice 25 = .ok (.getfield 126, 3) := by decide +kernel
theorem dX6_isChoice_28 : decode cX6_isChoice 28 = .ok (.aload_n 0, 1) := by decide +kernel
theorem dX6_isChoice_29 : decode cX6_isChoice 29 = .ok (.getfield 119, 3) := by decide +kernel
theorem dX6_isChoice_32 : decode cX6_isChoice 32 = .ok (.if_icmp .ne 5, 3) := by decide +kernel
theorem dX6_isChoice_35 : decode cX6_isChoice 35 = .ok (.iconst 0, 1) := by decide +kernel
theorem dX6_isChoice_36 : decode cX6_isChoice 36 = .ok (.ireturn, 1) := by decide +kernel
theorem dX6_isChoice_37 : decode cX6_isChoice 37 = .ok (.aload_n 0, 1) := by decide +kernel
theorem dX6_isChoice_38 : decode cX6_isChoice 38 = .ok (.getfield 48, 3) := by decide +kernel
theorem dX6_isChoice_41 : decode cX6_isChoice 41 = .ok (.aload_n 0, 1) := by decide +kernel
theorem dX6_isChoice_42 : decode cX6_isChoice 42 = .ok (.getfield 126, 3) := by decide +kernel
theorem dX6_isChoice_45 : decode cX6_isChoice 45 = .ok (.iload_n 2, 1) := by decide +kernel
theorem dX6_isChoice_46 : decode cX6_isChoice 46 = .ok (.iastore, 1) := by decide +kernel
theorem dX6_isChoice_47 : decode cX6_isChoice 47 = .ok (.aload_n 0, 1) := by decide +kernel
theorem dX6_isChoice_48 : decode cX6_isChoice 48 = .ok (.dup, 1) := by decide +kernel
theorem dX6_isChoice_49 : decode cX6_isChoice 49 = .ok (.getfield 126, 3) := by decide +kernel
theorem dX6_isChoice_52 : decode cX6_isChoice 52 = .ok (.iconst 1, 1) := by decide +kernel
theorem dX6_isChoice_53 : decode cX6_isChoice 53 = .ok (.iadd, 1) := by decide +kernel
theorem dX6_isChoice_54 : decode cX6_isChoice 54 = .ok (.putfield 126, 3) := by decide +kernel
theorem dX6_isChoice_57 : decode cX6_isChoice 57 = .ok (.iinc 2 1, 3) := by decide +kernel
theorem dX6_isChoice_60 : decode cX6_isChoice 60 = .ok (.goto (-53), 3) := by decide +kernel
theorem dX6_isChoice_63 : decode cX6_isChoice 63 = .ok (.aload_n 0, 1) := by decide +kernel
theorem dX6_isChoice_64 : decode cX6_isChoice 64 = .ok (.getfield 126, 3) := by decide +kernel
theorem dX6_isChoice_67 : decode cX6_isChoice 67 = .ok (.aload_n 0, 1) := by decide +kernel
theorem dX6_isChoice_68 : decode cX6_isChoice 68 = .ok (.getfield 119, 3) := by decide +kernel
theorem dX6_isChoice_71 : decode cX6_isChoice 71 = .ok (.if_icmp .eq 5, 3) := by decide +kernel
theorem dX6_isChoice_74 : decode cX6_isChoice 74 = .ok (.iconst 0, 1) := by decide +kernel
theorem dX6_isChoice_75 : decode cX6_isChoice 75 = .ok (.ireturn, 1) := by decide +kernel
theorem dX6_isChoice_76 : decode cX6_isChoice 76 = .ok (.aload_n 0, 1) := by decide +kernel
theorem dX6_isChoice_77 : decode cX6_isChoice 77 = .ok (.invokevirtual 129, 3) := by decide +kernel
theorem dX6_isChoice_80 : decode cX6_isChoice 80 = .ok (.aload_n 0, 1) := by decide +kernel
theorem dX6_isChoice_81 : decode cX6_isChoice 81 = .ok (.aload_n 0, 1) := by decide +kernel
theorem dX6_isChoice_82 : decode cX6_isChoice 82 = .ok (.iconst (-1), 1) := by decide +kernel
theorem dX6_isChoice_83 : decode cX6_isChoice 83 = .ok (.invokevirtual 132, 3) := by decide +kernel
theorem dX6_isChoice_86 : decode cX6_isChoice 86 = .ok (.putfield 136, 3) := by decide +kernel
theorem dX6_isChoice_89 : decode cX6_isChoice 89 = .ok (.aload_n 0, 1) := by decide +kernel
theorem dX6_isChoice_90 : decode cX6_isChoice 90 = .ok (.getfield 136, 3) := by decide +kernel
theorem dX6_isChoice_93 : decode cX6_isChoice 93 = .ok (.lconst 0, 1) := by decide +kernel
theorem dX6_isChoice_94 : decode cX6_isChoice 94 = .ok (.lcmp, 1) := by decide +kernel
theorem dX6_isChoice_95 : decode cX6_isChoice 95 = .ok (.ifCond .ne 5, 3) := by decide +kernel
theorem dX6_isChoice_98 : decode cX6_isChoice 98 = .ok (.iconst 0, 1) := by decide +kernel
theorem dX6_isChoice_99 : decode cX6_isChoice 99 = .ok (.ireturn, 1) := by decide +kernel
theorem dX6_isChoice_100 : decode cX6_isChoice 100 = .ok (.iconst 0, 1) := by decide +kernel
theorem dX6_isChoice_101 : decode cX6_isChoice 101 = .ok (.istore_n 2, 1) := by decide +kernel
theorem dX6_isChoice_102 : decode cX6_isChoice 102 = .ok (.iload_n 2, 1) := by decide +kernel
theorem dX6_isChoice_103 : decode cX6_isChoice 103 = .ok (.aload_n 0, 1) := by decide +kernel
theorem dX6_isChoice_104 : decode cX6_isChoice 104 = .ok (.getfield 119, 3) := by decide +kernel
theorem dX6_isChoice_107 : decode cX6_isChoice 107 = .ok (.if_icmp .ge 36, 3) := by decide +kernel
theorem dX6_isChoice_110 : decode cX6_isChoice 110 = .ok (.aload_n 0, 1) := by decide +kernel
theorem dX6_isChoice_111 : decode cX6_isChoice 111 = .ok (.iload_n 2, 1) := by decide +kernel
theorem dX6_isChoice_112 : decode cX6_isChoice 112 = .ok (.invokevirtual 132, 3) := by decide +kernel
theorem dX6_isChoice_115 : decode cX6_isChoice 115 = .ok (.lstore_n 3, 1) := by decide +kernel
theorem dX6_isChoice_116 : decode cX6_isChoice 116 = .ok (.aload_n 0, 1) := by decide +kernel
theorem dX6_isChoice_117 : decode cX6_isChoice 117 = .ok (.getfield 51, 3) := by decide +kernel
theorem dX6_isChoice_120 : decode cX6_isChoice 120 = .ok (.iload_n 2, 1) := by decide +kernel
theorem dX6_isChoice_121 : decode cX6_isChoice 121 = .ok (.aload_n 0, 1) := by decide +kernel
theorem dX6_isChoice_122 : decode cX6_isChoice 122 = .ok (.getfield 136, 3) := by decide +kernel
theorem dX6_isChoice_125 : decode cX6_isChoice 125 = .ok (.lconst 0, 1) := by decide +kernel
theorem dX6_isChoice_126 : decode cX6_isChoice 126 = .ok (.lcmp, 1) := by decide +kernel
theorem dX6_isChoice_127 : decode cX6_isChoice 127 = .ok (.ifCond .ge 8, 3) := by decide +kernel
theorem dX6_isChoice_130 : decode cX6_isChoice 130 = .ok (.lload_n 3, 1) := by decide +kernel
theorem dX6_isChoice_131 : decode cX6_isChoice 131 = .ok (.lneg, 1) := by decide +kernel
theorem dX6_isChoice_132 : decode cX6_isChoice 132 = .ok (.goto 4, 3) := by decide +kernel
theorem dX6_isChoice_135 : decode cX6_isChoice 135 = .ok (.lload_n 3, 1) := by decide +kernel
theorem dX6_isChoice_136 : decode cX6_isChoice 136 = .ok (.lastore, 1) := by decide +kernel
theorem dX6_isChoice_137 : decode cX6_isChoice 137 = .ok (.iinc 2 1, 3) := by decide +kernel
theorem dX6_isChoice_140 : decode cX6_isChoice 140 = .ok (.goto (-38), 3) := by decide +kernel
theorem dX6_isChoice_143 : decode cX6_isChoice 143 = .ok (.aload_n 0, 1) := by decide +kernel
theorem dX6_isChoice_144 : decode cX6_isChoice 144 = .ok (.aload_n 0, 1) := by decide +kernel
theorem dX6_isChoice_145 : decode cX6_isChoice 145 = .ok (.getfield 136, 3) := by decide +kernel
theorem dX6_isChoice_148 : decode cX6_isChoice 148 = .ok (.invokestatic 140, 3) := by decide +kernel
theorem dX6_isChoice_151 : decode cX6_isChoice 151 = .ok (.putfield 136, 3) := by decide +kernel
theorem dX6_isChoice_154 : decode cX6_isChoice 154 = .ok (.iconst 1, 1) := by decide +kernel
theorem dX6_isChoice_155 : decode cX6_isChoice 155 = .ok (.ireturn, 1) := by decide +kernel
theorem dX6_isAhead_0 : decode cX6_isAhead 0 = .ok (.iload_n 0, 1) := by decide +kernel
theorem dX6_isAhead_1 : decode cX6_isAhead 1 = .ok (.iload_n 1, 1) := by decide +kernel
theorem dX6_isAhead_2 : decode cX6_isAhead 2 = .ok (.ixor, 1) := by decide +kernel
theorem dX6_isAhead_3 : decode cX6_isAhead 3 = .ok (.istore_n 2, 1) := by decide +kernel
theorem dX6_isAhead_4 : decode cX6_isAhead 4 = .ok (.iload_n 0, 1) := by decide +kernel
theorem dX6_isAhead_5 : decode cX6_isAhead 5 = .ok (.iload_n 2, 1) := by decide +kernel
theorem dX6_isAhead_6 : decode cX6_isAhead 6 = .ok (.iand, 1) := by decide +kernel
theorem dX6_isAhead_7 : decode cX6_isAhead 7 = .ok (.iload_n 2, 1) := by decide +kernel
theorem dX6_isAhead_8 : decode cX6_isAhead 8 = .ok (.ineg, 1) := by decide +kernel
theorem dX6_isAhead_9 : decode cX6_isAhead 9 = .ok (.iand, 1) := by decide +kernel
theorem dX6_isAhead_10 : decode cX6_isAhead 10 = .ok (.ifCond .eq 7, 3) := by decide +kernel
theorem dX6_isAhead_13 : decode cX6_isAhead 13 = .ok (.iconst 1, 1) := by decide +kernel
theorem dX6_isAhead_14 : decode cX6_isAhead 14 = .ok (.goto 4, 3) := by decide +kernel
theorem dX6_isAhead_17 : decode cX6_isAhead 17 = .ok (.iconst 0, 1) := by decide +kernel
theorem dX6_isAhead_18 : decode cX6_isAhead 18 = .ok (.ireturn, 1) := by decide +kernel
theorem dX6_after_0 : decode cX6_after 0 = .ok (.bipush (-6), 2) := by decide +kernel
theorem dX6_after_2 : decode cX6_after 2 = .ok (.istore_n 2, 1) := by decide +kernel
theorem dX6_after_3 : decode cX6_after 3 = .ok (.iconst 0, 1) := by decide +kernel
theorem dX6_after_4 : decode cX6_after 4 = .ok (.istore_n 3, 1) := by decide +kernel
theorem dX6_after_5 : decode cX6_after 5 = .ok (.iload_n 3, 1) := by decide +kernel
theorem dX6_after_6 : decode cX6_after 6 = .ok (.iconst 1, 1) := by decide +kernel
theorem dX6_after_7 : decode cX6_after 7 = .ok (.aload_n 0, 1) := by decide +kernel
theorem dX6_after_8 : decode cX6_after 8 = .ok (.getfield 65, 3) := by decide +kernel
theorem dX6_after_11 : decode cX6_after 11 = .ok (.ishl, 1) := by decide +kernel
theorem dX6_after_12 : decode cX6_after 12 = .ok (.if_icmp .ge 62, 3) := by decide +kernel
theorem dX6_after_15 : decode cX6_after 15 = .ok (.iload_n 1, 1) := by decide +kernel
theorem dX6_after_16 : decode cX6_after 16 = .ok (.ifCond .lt 11, 3) := by decide +kernel
theorem dX6_after_19 : decode cX6_after 19 = .ok (.iload_n 1, 1) := by decide +kernel
theorem dX6_after_20 : decode cX6_after 20 = .ok (.iload_n 3, 1) := by decide +kernel
theorem dX6_after_21 : decode cX6_after 21 = .ok (.invokestatic 144, 3) := by decide +kernel
theorem dX6_after_24 : decode cX6_after 24 = .ok (.ifCond .eq 7, 3) := by decide +kernel
theorem dX6_after_27 : decode cX6_after 27 = .ok (.iconst 1, 1) := by decide +kernel
theorem dX6_after_28 : decode cX6_after 28 = .ok (.goto 4, 3) := by decide +kernel
theorem dX6_after_31 : decode cX6_after 31 = .ok (.iconst 0, 1) := by decide +kernel
theorem dX6_after_32 : decode cX6_after 32 = .ok (.istore 4, 2) := by decide +kernel
theorem dX6_after_34 : decode cX6_after 34 = .ok (.iload_n 3, 1) := by decide +kernel
theorem dX6_after_35 : decode cX6_after 35 = .ok (.invokestatic 147, 3) := by decide +kernel
theorem dX6_after_38 : decode cX6_after 38 = .ok (.aload_n 0, 1) := by decide +kernel
theorem dX6_after_39 : decode cX6_after 39 = .ok (.getfield 119, 3) := by decide +kernel
theorem dX6_after_42 : decode cX6_after 42 = .ok (.if_icmp .ne 24, 3) := by decide +kernel
theorem dX6_after_45 : decode cX6_after 45 = .ok (.iload 4, 2) := by decide +kernel
theorem dX6_after_47 : decode cX6_after 47 = .ok (.ifCond .eq 19, 3) := by decide +kernel
theorem dX6_after_50 : decode cX6_after 50 = .ok (.iload_n 2, 1) := by decide +kernel
theorem dX6_after_51 : decode cX6_after 51 = .ok (.ifCond .lt 11, 3) := by decide +kernel
theorem dX6_after_54 : decode cX6_after 54 = .ok (.iload_n 3, 1) := by decide +kernel
theorem dX6_after_55 : decode cX6_after 55 = .ok (.iload_n 2, 1) := by decide +kernel
theorem dX6_after_56 : decode cX6_after 56 = .ok (.invokestatic 144, 3) := by decide +kernel
theorem dX6_after_59 : decode cX6_after 59 = .ok (.ifCond .eq 7, 3) := by decide +kernel
theorem dX6_after_62 : decode cX6_after 62 = .ok (.iload_n 3, 1) := by decide +kernel
theorem dX6_after_63 : decode cX6_after 63 = .ok (.goto 4, 3) := by decide +kernel
theorem dX6_after_66 : decode cX6_after 66 = .ok (.iload_n 2, 1) := by decide +kernel
theorem dX6_after_67 : decode cX6_after 67 = .ok (.istore_n 2, 1) := by decide +kernel
theorem dX6_after_68 : decode cX6_after 68 = .ok (.iinc 3 1, 3) := by decide +kernel
theorem dX6_after_71 : decode cX6_after 71 = .ok (.goto (-66), 3) := by decide +kernel
theorem dX6_after_74 : decode cX6_after 74 = .ok (.iload_n 2, 1) := by decide +kernel
theorem dX6_after_75 : decode cX6_after 75 = .ok (.ireturn, 1) := by decide +kernel
theorem dX6_bits_0 : decode cX6_bits 0 = .ok (.iconst 0, 1) := by decide +kernel
theorem dX6_bits_1 : decode cX6_bits 1 = .ok (.istore_n 1, 1) := by decide +kernel
theorem dX6_bits_2 : decode cX6_bits 2 = .ok (.iconst 0, 1) := by decide +kernel
theorem dX6_bits_3 : decode cX6_bits 3 = .ok (.istore_n 2, 1) := by decide +kernel
theorem dX6_bits_4 : decode cX6_bits 4 = .ok (.iload_n 2, 1) := by decide +kernel
theorem dX6_bits_5 : decode cX6_bits 5 = .ok (.bipush 10, 2) := by decide +kernel
theorem dX6_bits_7 : decode cX6_bits 7 = .ok (.if_icmp .ge 17, 3) := by decide +kernel
theorem dX6_bits_10 : decode cX6_bits 10 = .ok (.iload_n 1, 1) := by decide +kernel
theorem dX6_bits_11 : decode cX6_bits 11 = .ok (.iload_n 0, 1) := by decide +kernel
theorem dX6_bits_12 : decode cX6_bits 12 = .ok (.iload_n 2, 1) := by decide +kernel
theorem dX6_bits_13 : decode cX6_bits 13 = .ok (.ishr, 1) := by decide +kernel
theorem dX6_bits_14 : decode cX6_bits 14 = .ok (.iconst 1, 1) := by decide +kernel
theorem dX6_bits_15 : decode cX6_bits 15 = .ok (.iand, 1) := by decide +kernel
theorem dX6_bits_16 : decode cX6_bits 16 = .ok (.iadd, 1) := by decide +kernel
theorem dX6_bits_17 : decode cX6_bits 17 = .ok (.istore_n 1, 1) := by decide +kernel
theorem dX6_bits_18 : decode cX6_bits 18 = .ok (.iinc 2 1, 3) := by decide +kernel
theorem dX6_bits_21 : decode cX6_bits 21 = .ok (.goto (-17), 3) := by decide +kernel
theorem dX6_bits_24 : decode cX6_bits 24 = .ok (.iload_n 1, 1) := by decide +kernel
theorem dX6_bits_25 : decode cX6_bits 25 = .ok (.ireturn, 1) := by decide +kernel
theorem dX6_stiff_0 : decode cX6_stiff 0 = .ok (.iload_n 1, 1) := by decide +kernel
theorem dX6_stiff_1 : decode cX6_stiff 1 = .ok (.i2l, 1) := by decide +kernel
theorem dX6_stiff_2 : decode cX6_stiff 2 = .ok (.lconst 0, 1) := by decide +kernel
theorem dX6_stiff_3 : decode cX6_stiff 3 = .ok (.iconst 1, 1) := by decide +kernel
theorem dX6_stiff_4 : decode cX6_stiff 4 = .ok (.aload_n 0, 1) := by decide +kernel
theorem dX6_stiff_5 : decode cX6_stiff 5 = .ok (.getfield 65, 3) := by decide +kernel
theorem dX6_stiff_8 : decode cX6_stiff 8 = .ok (.ishl, 1) := by decide +kernel
theorem dX6_stiff_9 : decode cX6_stiff 9 = .ok (.iconst 1, 1) := by decide +kernel
theorem dX6_stiff_10 : decode cX6_stiff 10 = .ok (.isub, 1) := by decide +kernel
theorem dX6_stiff_11 : decode cX6_stiff 11 = .ok (.i2l, 1) := by decide +kernel
theorem dX6_stiff_12 : decode cX6_stiff 12 = .ok (.invokestatic 61, 3) := by decide +kernel
theorem dX6_stiff_15 : decode cX6_stiff 15 = .ok (.ifCond .ne 6, 3) := by decide +kernel
theorem dX6_stiff_18 : decode cX6_stiff 18 = .ok (.bipush (-2), 2) := by decide +kernel
theorem dX6_stiff_20 : decode cX6_stiff 20 = .ok (.ireturn, 1) := by decide +kernel
theorem dX6_stiff_21 : decode cX6_stiff 21 = .ok (.aload_n 0, 1) := by decide +kernel
theorem dX6_stiff_22 : decode cX6_stiff 22 = .ok (.invokevirtual 150, 3) := by decide +kernel
theorem dX6_stiff_25 : decode cX6_stiff 25 = .ok (.iconst 0, 1) := by decide +kernel
theorem dX6_stiff_26 : decode cX6_stiff 26 = .ok (.istore_n 2, 1) := by decide +kernel
theorem dX6_stiff_27 : decode cX6_stiff 27 = .ok (.iload_n 2, 1) := by decide +kernel
theorem dX6_stiff_28 : decode cX6_stiff 28 = .ok (.iconst 1, 1) := by decide +kernel
theorem dX6_stiff_29 : decode cX6_stiff 29 = .ok (.aload_n 0, 1) := by decide +kernel
theorem dX6_stiff_30 : decode cX6_stiff 30 = .ok (.getfield 65, 3) := by decide +kernel
theorem dX6_stiff_33 : decode cX6_stiff 33 = .ok (.ishl, 1) := by decide +kernel
theorem dX6_stiff_34 : decode cX6_stiff 34 = .ok (.if_icmp .ge 27, 3) := by decide +kernel
theorem dX6_stiff_37 : decode cX6_stiff 37 = .ok (.iload_n 2, 1) := by decide +kernel
theorem dX6_stiff_38 : decode cX6_stiff 38 = .ok (.iload_n 1, 1) := by decide +kernel
theorem dX6_stiff_39 : decode cX6_stiff 39 = .ok (.iconst (-1), 1) := by decide +kernel
theorem dX6_stiff_40 : decode cX6_stiff 40 = .ok (.ixor, 1) := by decide +kernel
theorem dX6_stiff_41 : decode cX6_stiff 41 = .ok (.iand, 1) := by decide +kernel
theorem dX6_stiff_42 : decode cX6_stiff 42 = .ok (.ifCond .ne 13, 3) := by decide +kernel
theorem dX6_stiff_45 : decode cX6_stiff 45 = .ok (.aload_n 0, 1) := by decide +kernel
theorem dX6_stiff_46 : decode cX6_stiff 46 = .ok (.iload_n 2, 1) := by decide +kernel
theorem dX6_stiff_47 : decode cX6_stiff 47 = .ok (.invokevirtual 153, 3) := by decide +kernel
theorem dX6_stiff_50 : decode cX6_stiff 50 = .ok (.ifCond .eq 5, 3) := by decide +kernel
theorem dX6_stiff_53 : decode cX6_stiff 53 = .ok (.iconst 1, 1) := by decide +kernel
theorem dX6_stiff_54 : decode cX6_stiff 54 = .ok (.ireturn, 1) := by decide +kernel
theorem dX6_stiff_55 : decode cX6_stiff 55 = .ok (.iinc 2 1, 3) := by decide +kernel
theorem dX6_stiff_58 : decode cX6_stiff 58 = .ok (.goto (-31), 3) := by decide +kernel
theorem dX6_stiff_61 : decode cX6_stiff 61 = .ok (.iconst 0, 1) := by decide +kernel
theorem dX6_stiff_62 : decode cX6_stiff 62 = .ok (.ireturn, 1) := by decide +kernel
theorem dX6_choices_0 : decode cX6_choices 0 = .ok (.aload_n 0, 1) := by decide +kernel
theorem dX6_choices_1 : decode cX6_choices 1 = .ok (.invokevirtual 150, 3) := by decide +kernel
theorem dX6_choices_4 : decode cX6_choices 4 = .ok (.iconst 0, 1) := by decide +kernel
theorem dX6_choices_5 : decode cX6_choices 5 = .ok (.istore_n 1, 1) := by decide +kernel
theorem dX6_choices_6 : decode cX6_choices 6 = .ok (.iconst 0, 1) := by decide +kernel
theorem dX6_choices_7 : decode cX6_choices 7 = .ok (.istore_n 2, 1) := by decide +kernel
theorem dX6_choices_8 : decode cX6_choices 8 = .ok (.iload_n 2, 1) := by decide +kernel
theorem dX6_choices_9 : decode cX6_choices 9 = .ok (.iconst 1, 1) := by decide +kernel
theorem dX6_choices_10 : decode cX6_choices 10 = .ok (.aload_n 0, 1) := by decide +kernel
theorem dX6_choices_11 : decode cX6_choices 11 = .ok (.getfield 65, 3) := by decide +kernel
theorem dX6_choices_14 : decode cX6_choices 14 = .ok (.ishl, 1) := by decide +kernel
theorem dX6_choices_15 : decode cX6_choices 15 = .ok (.if_icmp .ge 25, 3) := by decide +kernel
theorem dX6_choices_18 : decode cX6_choices 18 = .ok (.iload_n 1, 1) := by decide +kernel
theorem dX6_choices_19 : decode cX6_choices 19 = .ok (.aload_n 0, 1) := by decide +kernel
theorem dX6_choices_20 : decode cX6_choices 20 = .ok (.iload_n 2, 1) := by decide +kernel
theorem dX6_choices_21 : decode cX6_choices 21 = .ok (.invokevirtual 153, 3) := by decide +kernel
theorem dX6_choices_24 : decode cX6_choices 24 = .ok (.ifCond .eq 7, 3) := by decide +kernel
theorem dX6_choices_27 : decode cX6_choices 27 = .ok (.iconst 1, 1) := by decide +kernel
theorem dX6_choices_28 : decode cX6_choices 28 = .ok (.goto 4, 3) := by decide +kernel
theorem dX6_choices_31 : decode cX6_choices 31 = .ok (.iconst 0, 1) := by decide +kernel
theorem dX6_choices_32 : decode cX6_choices 32 = .ok (.iadd, 1) := by decide +kernel
theorem dX6_choices_33 : decode cX6_choices 33 = .ok (.istore_n 1, 1) := by decide +kernel
theorem dX6_choices_34 : decode cX6_choices 34 = .ok (.iinc 2 1, 3) := by decide +kernel
theorem dX6_choices_37 : decode cX6_choices 37 = .ok (.goto (-29), 3) := by decide +kernel
theorem dX6_choices_40 : decode cX6_choices 40 = .ok (.iload_n 1, 1) := by decide +kernel
theorem dX6_choices_41 : decode cX6_choices 41 = .ok (.ireturn, 1) := by decide +kernel
theorem dX6_sizeFor_0 : decode cX6_sizeFor 0 = .ok (.lload_n 1, 1) := by decide +kernel
theorem dX6_sizeFor_1 : decode cX6_sizeFor 1 = .ok (.lconst 0, 1) := by decide +kernel
theorem dX6_sizeFor_2 : decode cX6_sizeFor 2 = .ok (.lcmp, 1) := by decide +kernel
theorem dX6_sizeFor_3 : decode cX6_sizeFor 3 = .ok (.ifCond .ne 5, 3) := by decide +kernel
theorem dX6_sizeFor_6 : decode cX6_sizeFor 6 = .ok (.iconst 0, 1) := by decide +kernel
theorem dX6_sizeFor_7 : decode cX6_sizeFor 7 = .ok (.ireturn, 1) := by decide +kernel
theorem dX6_sizeFor_8 : decode cX6_sizeFor 8 = .ok (.bipush (-6), 2) := by decide +kernel
theorem dX6_sizeFor_10 : decode cX6_sizeFor 10 = .ok (.istore_n 3, 1) := by decide +kernel
theorem dX6_sizeFor_11 : decode cX6_sizeFor 11 = .ok (.iconst 0, 1) := by decide +kernel
theorem dX6_sizeFor_12 : decode cX6_sizeFor 12 = .ok (.istore 4, 2) := by decide +kernel
theorem dX6_sizeFor_14 : decode cX6_sizeFor 14 = .ok (.iload 4, 2) := by decide +kernel
theorem dX6_sizeFor_16 : decode cX6_sizeFor 16 = .ok (.aload_n 0, 1) := by decide +kernel
theorem dX6_sizeFor_17 : decode cX6_sizeFor 17 = .ok (.getfield 99, 3) := by decide +kernel
theorem dX6_sizeFor_20 : decode cX6_sizeFor 20 = .ok (.if_icmp .ge 69, 3) := by decide +kernel
theorem dX6_sizeFor_23 : decode cX6_sizeFor 23 = .ok (.aload_n 0, 1) := by decide +kernel
theorem dX6_sizeFor_24 : decode cX6_sizeFor 24 = .ok (.getfield 32, 3) := by decide +kernel
theorem dX6_sizeFor_27 : decode cX6_sizeFor 27 = .ok (.iload 4, 2) := by decide +kernel
theorem dX6_sizeFor_29 : decode cX6_sizeFor 29 = .ok (.iaload, 1) := by decide +kernel
theorem dX6_sizeFor_30 : decode cX6_sizeFor 30 = .ok (.i2l, 1) := by decide +kernel
theorem dX6_sizeFor_31 : decode cX6_sizeFor 31 = .ok (.aload_n 0, 1) := by decide +kernel
theorem dX6_sizeFor_32 : decode cX6_sizeFor 32 = .ok (.getfield 136, 3) := by decide +kernel
theorem dX6_sizeFor_35 : decode cX6_sizeFor 35 = .ok (.lmul, 1) := by decide +kernel
theorem dX6_sizeFor_36 : decode cX6_sizeFor 36 = .ok (.lload_n 1, 1) := by decide +kernel
theorem dX6_sizeFor_37 : decode cX6_sizeFor 37 = .ok (.invokestatic 140, 3) := by decide +kernel
theorem dX6_sizeFor_40 : decode cX6_sizeFor 40 = .ok (.lcmp, 1) := by decide +kernel
theorem dX6_sizeFor_41 : decode cX6_sizeFor 41 = .ok (.ifCond .lt 7, 3) := by decide +kernel
theorem dX6_sizeFor_44 : decode cX6_sizeFor 44 = .ok (.iconst 1, 1) := by decide +kernel
theorem dX6_sizeFor_45 : decode cX6_sizeFor 45 = .ok (.goto 4, 3) := by decide +kernel
theorem dX6_sizeFor_48 : decode cX6_sizeFor 48 = .ok (.iconst 0, 1) := by decide +kernel
theorem dX6_sizeFor_49 : decode cX6_sizeFor 49 = .ok (.istore 5, 2) := by decide +kernel
theorem dX6_sizeFor_51 : decode cX6_sizeFor 51 = .ok (.iload 5, 2) := by decide +kernel
theorem dX6_sizeFor_53 : decode cX6_sizeFor 53 = .ok (.ifCond .eq 28, 3) := by decide +kernel
theorem dX6_sizeFor_56 : decode cX6_sizeFor 56 = .ok (.iload_n 3, 1) := by decide +kernel
theorem dX6_sizeFor_57 : decode cX6_sizeFor 57 = .ok (.ifCond .lt 14, 3) := by decide +kernel
theorem dX6_sizeFor_60 : decode cX6_sizeFor 60 = .ok (.aload_n 0, 1) := by decide +kernel
theorem dX6_sizeFor_61 : decode cX6_sizeFor 61 = .ok (.getfield 32, 3) := by decide +kernel
theorem dX6_sizeFor_64 : decode cX6_sizeFor 64 = .ok (.iload 4, 2) := by decide +kernel
theorem dX6_sizeFor_66 : decode cX6_sizeFor 66 = .ok (.iaload, 1) := by decide +kernel
theorem dX6_sizeFor_67 : decode cX6_sizeFor 67 = .ok (.iload_n 3, 1) := by decide +kernel
theorem dX6_sizeFor_68 : decode cX6_sizeFor 68 = .ok (.if_icmp .ge 13, 3) := by decide +kernel
theorem dX6_sizeFor_71 : decode cX6_sizeFor 71 = .ok (.aload_n 0, 1) := by decide +kernel
theorem dX6_sizeFor_72 : decode cX6_sizeFor 72 = .ok (.getfield 32, 3) := by decide +kernel
theorem dX6_sizeFor_75 : decode cX6_sizeFor 75 = .ok (.iload 4, 2) := by decide +kernel
theorem dX6_sizeFor_77 : decode cX6_sizeFor 77 = .ok (.iaload, 1) := by decide +kernel
theorem dX6_sizeFor_78 : decode cX6_sizeFor 78 = .ok (.goto 4, 3) := by decide +kernel
theorem dX6_sizeFor_81 : decode cX6_sizeFor 81 = .ok (.iload_n 3, 1) := by decide +kernel
theorem dX6_sizeFor_82 : decode cX6_sizeFor 82 = .ok (.istore_n 3, 1) := by decide +kernel
theorem dX6_sizeFor_83 : decode cX6_sizeFor 83 = .ok (.iinc 4 1, 3) := by decide +kernel
theorem dX6_sizeFor_86 : decode cX6_sizeFor 86 = .ok (.goto (-72), 3) := by decide +kernel
theorem dX6_sizeFor_89 : decode cX6_sizeFor 89 = .ok (.iload_n 3, 1) := by decide +kernel
theorem dX6_sizeFor_90 : decode cX6_sizeFor 90 = .ok (.ireturn, 1) := by decide +kernel
theorem dX6_usedBars_0 : decode cX6_usedBars 0 = .ok (.iconst 0, 1) := by decide +kernel
theorem dX6_usedBars_1 : decode cX6_usedBars 1 = .ok (.istore_n 1, 1) := by decide +kernel
theorem dX6_usedBars_2 : decode cX6_usedBars 2 = .ok (.iconst 0, 1) := by decide +kernel
theorem dX6_usedBars_3 : decode cX6_usedBars 3 = .ok (.istore_n 2, 1) := by decide +kernel
theorem dX6_usedBars_4 : decode cX6_usedBars 4 = .ok (.iload_n 2, 1) := by decide +kernel
theorem dX6_usedBars_5 : decode cX6_usedBars 5 = .ok (.aload_n 0, 1) := by decide +kernel
theorem dX6_usedBars_6 : decode cX6_usedBars 6 = .ok (.getfield 119, 3) := by decide +kernel
theorem dX6_usedBars_9 : decode cX6_usedBars 9 = .ok (.if_icmp .ge 35, 3) := by decide +kernel
theorem dX6_usedBars_12 : decode cX6_usedBars 12 = .ok (.iload_n 1, 1) := by decide +kernel
theorem dX6_usedBars_13 : decode cX6_usedBars 13 = .ok (.aload_n 0, 1) := by decide +kernel
theorem dX6_usedBars_14 : decode cX6_usedBars 14 = .ok (.getfield 51, 3) := by decide +kernel
theorem dX6_usedBars_17 : decode cX6_usedBars 17 = .ok (.iload_n 2, 1) := by decide +kernel
theorem dX6_usedBars_18 : decode cX6_usedBars 18 = .ok (.laload, 1) := by decide +kernel
theorem dX6_usedBars_19 : decode cX6_usedBars 19 = .ok (.lconst 0, 1) := by decide +kernel
theorem dX6_usedBars_20 : decode cX6_usedBars 20 = .ok (.lcmp, 1) := by decide +kernel
theorem dX6_usedBars_21 : decode cX6_usedBars 21 = .ok (.ifCond .eq 14, 3) := by decide +kernel
theorem dX6_usedBars_24 : decode cX6_usedBars 24 = .ok (.iconst 1, 1) := by decide +kernel
theorem dX6_usedBars_25 : decode cX6_usedBars 25 = .ok (.aload_n 0, 1) := by decide +kernel
theorem dX6_usedBars_26 : decode cX6_usedBars 26 = .ok (.getfield 48, 3) := by decide +kernel
theorem dX6_usedBars_29 : decode cX6_usedBars 29 = .ok (.iload_n 2, 1) := by decide +kernel
theorem dX6_usedBars_30 : decode cX6_usedBars 30 = .ok (.iaload, 1) := by decide +kernel
theorem dX6_usedBars_31 : decode cX6_usedBars 31 = .ok (.ishl, 1) := by decide +kernel
theorem dX6_usedBars_32 : decode cX6_usedBars 32 = .ok (.goto 4, 3) := by decide +kernel
theorem dX6_usedBars_35 : decode cX6_usedBars 35 = .ok (.iconst 0, 1) := by decide +kernel
theorem dX6_usedBars_36 : decode cX6_usedBars 36 = .ok (.ior, 1) := by decide +kernel
theorem dX6_usedBars_37 : decode cX6_usedBars 37 = .ok (.istore_n 1, 1) := by decide +kernel
theorem dX6_usedBars_38 : decode cX6_usedBars 38 = .ok (.iinc 2 1, 3) := by decide +kernel
theorem dX6_usedBars_41 : decode cX6_usedBars 41 = .ok (.goto (-37), 3) := by decide +kernel
theorem dX6_usedBars_44 : decode cX6_usedBars 44 = .ok (.iload_n 1, 1) := by decide +kernel
theorem dX6_usedBars_45 : decode cX6_usedBars 45 = .ok (.ireturn, 1) := by decide +kernel
theorem dX6_usedJoints_0 : decode cX6_usedJoints 0 = .ok (.iconst 0, 1) := by decide +kernel
theorem dX6_usedJoints_1 : decode cX6_usedJoints 1 = .ok (.istore_n 1, 1) := by decide +kernel
theorem dX6_usedJoints_2 : decode cX6_usedJoints 2 = .ok (.iconst 0, 1) := by decide +kernel
theorem dX6_usedJoints_3 : decode cX6_usedJoints 3 = .ok (.istore_n 2, 1) := by decide +kernel
theorem dX6_usedJoints_4 : decode cX6_usedJoints 4 = .ok (.iload_n 2, 1) := by decide +kernel
theorem dX6_usedJoints_5 : decode cX6_usedJoints 5 = .ok (.aload_n 0, 1) := by decide +kernel
theorem dX6_usedJoints_6 : decode cX6_usedJoints 6 = .ok (.getfield 119, 3) := by decide +kernel
theorem dX6_usedJoints_9 : decode cX6_usedJoints 9 = .ok (.if_icmp .ge 54, 3) := by decide +kernel
theorem dX6_usedJoints_12 : decode cX6_usedJoints 12 = .ok (.iload_n 1, 1) := by decide +kernel
theorem dX6_usedJoints_13 : decode cX6_usedJoints 13 = .ok (.aload_n 0, 1) := by decide +kernel
theorem dX6_usedJoints_14 : decode cX6_usedJoints 14 = .ok (.getfield 51, 3) := by decide +kernel
theorem dX6_usedJoints_17 : decode cX6_usedJoints 17 = .ok (.iload_n 2, 1) := by decide +kernel
theorem dX6_usedJoints_18 : decode cX6_usedJoints 18 = .ok (.laload, 1) := by decide +kernel
theorem dX6_usedJoints_19 : decode cX6_usedJoints 19 = .ok (.lconst 0, 1) := by decide +kernel
theorem dX6_usedJoints_20 : decode cX6_usedJoints 20 = .ok (.lcmp, 1) := by decide +kernel
theorem dX6_usedJoints_21 : decode cX6_usedJoints 21 = .ok (.ifCond .eq 33, 3) := by decide +kernel
theorem dX6_usedJoints_24 : decode cX6_usedJoints 24 = .ok (.iconst 1, 1) := by decide +kernel
theorem dX6_usedJoints_25 : decode cX6_usedJoints 25 = .ok (.aload_n 0, 1) := by decide +kernel
theorem dX6_usedJoints_26 : decode cX6_usedJoints 26 = .ok (.getfield 26, 3) := by decide +kernel
theorem dX6_usedJoints_29 : decode cX6_usedJoints 29 = .ok (.aload_n 0, 1) := by decide +kernel
theorem dX6_usedJoints_30 : decode cX6_usedJoints 30 = .ok (.getfield 48, 3) := by decide +kernel
theorem dX6_usedJoints_33 : decode cX6_usedJoints 33 = .ok (.iload_n 2, 1) := by decide +kernel
theorem dX6_usedJoints_34 : decode cX6_usedJoints 34 = .ok (.iaload, 1) := by decide +kernel
theorem dX6_usedJoints_35 : decode cX6_usedJoints 35 = .ok (.iaload, 1) := by decide +kernel
theorem dX6_usedJoints_36 : decode cX6_usedJoints 36 = .ok (.ishl, 1) := by decide +kernel
theorem dX6_usedJoints_37 : decode cX6_usedJoints 37 = .ok (.iconst 1, 1) := by decide +kernel
theorem dX6_usedJoints_38 : decode cX6_usedJoints 38 = .ok (.aload_n 0, 1) := by decide +kernel
theorem dX6_usedJoints_39 : decode cX6_usedJoints 39 = .ok (.getfield 29, 3) := by decide +kernel
theorem dX6_usedJoints_42 : decode cX6_usedJoints 42 = .ok (.aload_n 0, 1) := by decide +kernel
theorem dX6_usedJoints_43 : decode cX6_usedJoints 43 = .ok (.getfield 48, 3) := by decide +kernel
theorem dX6_usedJoints_46 : decode cX6_usedJoints 46 = .ok (.iload_n 2, 1) := by decide +kernel
theorem dX6_usedJoints_47 : decode cX6_usedJoints 47 = .ok (.iaload, 1) := by decide +kernel
theorem dX6_usedJoints_48 : decode cX6_usedJoints 48 = .ok (.iaload, 1) := by decide +kernel
theorem dX6_usedJoints_49 : decode cX6_usedJoints 49 = .ok (.ishl, 1) := by decide +kernel
theorem dX6_usedJoints_50 : decode cX6_usedJoints 50 = .ok (.ior, 1) := by decide +kernel
theorem dX6_usedJoints_51 : decode cX6_usedJoints 51 = .ok (.goto 4, 3) := by decide +kernel
theorem dX6_usedJoints_54 : decode cX6_usedJoints 54 = .ok (.iconst 0, 1) := by decide +kernel
theorem dX6_usedJoints_55 : decode cX6_usedJoints 55 = .ok (.ior, 1) := by decide +kernel
theorem dX6_usedJoints_56 : decode cX6_usedJoints 56 = .ok (.istore_n 1, 1) := by decide +kernel
theorem dX6_usedJoints_57 : decode cX6_usedJoints 57 = .ok (.iinc 2 1, 3) := by decide +kernel
theorem dX6_usedJoints_60 : decode cX6_usedJoints 60 = .ok (.goto (-56), 3) := by decide +kernel
theorem dX6_usedJoints_63 : decode cX6_usedJoints 63 = .ok (.iload_n 1, 1) := by decide +kernel
theorem dX6_usedJoints_64 : decode cX6_usedJoints 64 = .ok (.ireturn, 1) := by decide +kernel
theorem dX6_costOf_0 : decode cX6_costOf 0 = .ok (.lconst 0, 1) := by decide +kernel
theorem dX6_costOf_1 : decode cX6_costOf 1 = .ok (.lstore_n 2, 1) := by decide +kernel
theorem dX6_costOf_2 : decode cX6_costOf 2 = .ok (.iconst 0, 1) := by decide +kernel
theorem dX6_costOf_3 : decode cX6_costOf 3 = .ok (.istore 4, 2) := by decide +kernel
theorem dX6_costOf_5 : decode cX6_costOf 5 = .ok (.iload 4, 2) := by decide +kernel
theorem dX6_costOf_7 : decode cX6_costOf 7 = .ok (.aload_n 0, 1) := by decide +kernel
theorem dX6_costOf_8 : decode cX6_costOf 8 = .ok (.getfield 119, 3) := by decide +kernel
theorem dX6_costOf_11 : decode cX6_costOf 11 = .ok (.if_icmp .ge 148, 3) := by decide +kernel
theorem dX6_costOf_14 : decode cX6_costOf 14 = .ok (.aload_n 0, 1) := by decide +kernel
theorem dX6_costOf_15 : decode cX6_costOf 15 = .ok (.aload_n 0, 1) := by decide +kernel
theorem dX6_costOf_16 : decode cX6_costOf 16 = .ok (.getfield 51, 3) := by decide +kernel
theorem dX6_costOf_19 : decode cX6_costOf 19 = .ok (.iload 4, 2) := by decide +kernel
theorem dX6_costOf_21 : decode cX6_costOf 21 = .ok (.laload, 1) := by decide +kernel
theorem dX6_costOf_22 : decode cX6_costOf 22 = .ok (.invokevirtual 156, 3) := by decide +kernel
theorem dX6_costOf_25 : decode cX6_costOf 25 = .ok (.istore 5, 2) := by decide +kernel
theorem dX6_costOf_27 : decode cX6_costOf 27 = .ok (.iload_n 1, 1) := by decide +kernel
theorem dX6_costOf_28 : decode cX6_costOf 28 = .ok (.iconst 2, 1) := by decide +kernel
theorem dX6_costOf_29 : decode cX6_costOf 29 = .ok (.if_icmp .ne 12, 3) := by decide +kernel
theorem dX6_costOf_32 : decode cX6_costOf 32 = .ok (.iload 5, 2) := by decide +kernel
theorem dX6_costOf_34 : decode cX6_costOf 34 = .ok (.ifCond .ge 7, 3) := by decide +kernel
theorem dX6_costOf_37 : decode cX6_costOf 37 = .ok (.ldc2_w 160, 3) := by decide +kernel
theorem dX6_costOf_40 : decode cX6_costOf 40 = .ok (.lreturn, 1) := by decide +kernel
theorem dX6_costOf_41 : decode cX6_costOf 41 = .ok (.lload_n 2, 1) := by decide +kernel
theorem dX6_costOf_42 : decode cX6_costOf 42 = .ok (.aload_n 0, 1) := by decide +kernel
theorem dX6_costOf_43 : decode cX6_costOf 43 = .ok (.aload_n 0, 1) := by decide +kernel
theorem dX6_costOf_44 : decode cX6_costOf 44 = .ok (.getfield 48, 3) := by decide +kernel
theorem dX6_costOf_47 : decode cX6_costOf 47 = .ok (.iload 4, 2) := by decide +kernel
theorem dX6_costOf_49 : decode cX6_costOf 49 = .ok (.iaload, 1) := by decide +kernel
theorem dX6_costOf_50 : decode cX6_costOf 50 = .ok (.invokevirtual 93, 3) := by decide +kernel
theorem dX6_costOf_53 : decode cX6_costOf 53 = .ok (.i2l, 1) := by decide +kernel
theorem dX6_costOf_54 : decode cX6_costOf 54 = .ok (.iload_n 1, 1) := by decide +kernel
theorem dX6_costOf_55 : decode cX6_costOf 55 = .ok (.iconst 2, 1) := by decide +kernel
theorem dX6_costOf_56 : decode cX6_costOf 56 = .ok (.if_icmp .ne 14, 3) := by decide +kernel
theorem dX6_costOf_59 : decode cX6_costOf 59 = .ok (.iload 5, 2) := by decide +kernel
theorem dX6_costOf_61 : decode cX6_costOf 61 = .ok (.i2l, 1) := by decide +kernel
theorem dX6_costOf_62 : decode cX6_costOf 62 = .ok (.aload_n 0, 1) := by decide +kernel
theorem dX6_costOf_63 : decode cX6_costOf 63 = .ok (.getfield 136, 3) := by decide +kernel
theorem dX6_costOf_66 : decode cX6_costOf 66 = .ok (.lmul, 1) := by decide +kernel
theorem dX6_costOf_67 : decode cX6_costOf 67 = .ok (.goto 13, 3) := by decide +kernel
theorem dX6_costOf_70 : decode cX6_costOf 70 = .ok (.aload_n 0, 1) := by decide +kernel
theorem dX6_costOf_71 : decode cX6_costOf 71 = .ok (.getfield 51, 3) := by decide +kernel
theorem dX6_costOf_74 : decode cX6_costOf 74 = .ok (.iload 4, 2) := by decide +kernel
theorem dX6_costOf_76 : decode cX6_costOf 76 = .ok (.laload, 1) := by decide +kernel
theorem dX6_costOf_77 : decode cX6_costOf 77 = .ok (.invokestatic 140, 3) := by decide +kernel
theorem dX6_costOf_80 : decode cX6_costOf 80 = .ok (.lmul, 1) := by decide +kernel
theorem dX6_costOf_81 : decode cX6_costOf 81 = .ok (.ladd, 1) := by decide +kernel
theorem dX6_costOf_82 : decode cX6_costOf 82 = .ok (.lstore_n 2, 1) := by decide +kernel
theorem dX6_costOf_83 : decode cX6_costOf 83 = .ok (.iconst 0, 1) := by decide +kernel
theorem dX6_costOf_84 : decode cX6_costOf 84 = .ok (.istore 6, 2) := by decide +kernel
theorem dX6_costOf_86 : decode cX6_costOf 86 = .ok (.iload 6, 2) := by decide +kernel
theorem dX6_costOf_88 : decode cX6_costOf 88 = .ok (.iload 4, 2) := by decide +kernel
theorem dX6_costOf_90 : decode cX6_costOf 90 = .ok (.if_icmp .ge 63, 3) := by decide +kernel
theorem dX6_costOf_93 : decode cX6_costOf 93 = .ok (.iload_n 1, 1) := by decide +kernel
theorem dX6_costOf_94 : decode cX6_costOf 94 = .ok (.iconst 1, 1) := by decide +kernel
theorem dX6_costOf_95 : decode cX6_costOf 95 = .ok (.if_icmp .ne 58, 3) := by decide +kernel
theorem dX6_costOf_98 : decode cX6_costOf 98 = .ok (.aload_n 0, 1) := by decide +kernel
theorem dX6_costOf_99 : decode cX6_costOf 99 = .ok (.getfield 51, 3) := by decide +kernel
theorem dX6_costOf_102 : decode cX6_costOf 102 = .ok (.iload 4, 2) := by decide +kernel
theorem dX6_costOf_104 : decode cX6_costOf 104 = .ok (.laload, 1) := by decide +kernel
theorem dX6_costOf_105 : decode cX6_costOf 105 = .ok (.lconst 0, 1) := by decide +kernel
theorem dX6_costOf_106 : decode cX6_costOf 106 = .ok (.lcmp, 1) := by decide +kernel
theorem dX6_costOf_107 : decode cX6_costOf 107 = .ok (.ifCond .eq 40, 3) := by decide +kernel
theorem dX6_costOf_110 : decode cX6_costOf 110 = .ok (.aload_n 0, 1) := by decide +kernel
theorem dX6_costOf_111 : decode cX6_costOf 111 = .ok (.getfield 51, 3) := by decide +kernel
theorem dX6_costOf_114 : decode cX6_costOf 114 = .ok (.iload 6, 2) := by decide +kernel
theorem dX6_costOf_116 : decode cX6_costOf 116 = .ok (.laload, 1) := by decide +kernel
theorem dX6_costOf_117 : decode cX6_costOf 117 = .ok (.lconst 0, 1) := by decide +kernel
theorem dX6_costOf_118 : decode cX6_costOf 118 = .ok (.lcmp, 1) := by decide +kernel
theorem dX6_costOf_119 : decode cX6_costOf 119 = .ok (.ifCond .eq 28, 3) := by decide +kernel
theorem dX6_costOf_122 : decode cX6_costOf 122 = .ok (.aload_n 0, 1) := by decide +kernel
theorem dX6_costOf_123 : decode cX6_costOf 123 = .ok (.aload_n 0, 1) := by decide +kernel
theorem dX6_costOf_124 : decode cX6_costOf 124 = .ok (.getfield 48, 3) := by decide +kernel
theorem dX6_costOf_127 : decode cX6_costOf 127 = .ok (.iload 4, 2) := by decide +kernel
theorem dX6_costOf_129 : decode cX6_costOf 129 = .ok (.iaload, 1) := by decide +kernel
theorem dX6_costOf_130 : decode cX6_costOf 130 = .ok (.aload_n 0, 1) := by decide +kernel
theorem dX6_costOf_131 : decode cX6_costOf 131 = .ok (.getfield 48, 3) := by decide +kernel
theorem dX6_costOf_134 : decode cX6_costOf 134 = .ok (.iload 6, 2) := by decide +kernel
theorem dX6_costOf_136 : decode cX6_costOf 136 = .ok (.iaload, 1) := by decide +kernel
theorem dX6_costOf_137 : decode cX6_costOf 137 = .ok (.invokevirtual 115, 3) := by decide +kernel
theorem dX6_costOf_140 : decode cX6_costOf 140 = .ok (.ifCond .eq 7, 3) := by decide +kernel
theorem dX6_costOf_143 : decode cX6_costOf 143 = .ok (.ldc2_w 160, 3) := by decide +kernel
theorem dX6_costOf_146 : decode cX6_costOf 146 = .ok (.lreturn, 1) := by decide +kernel
theorem dX6_costOf_147 : decode cX6_costOf 147 = .ok (.iinc 6 1, 3) := by decide +kernel
theorem dX6_costOf_150 : decode cX6_costOf 150 = .ok (.goto (-64), 3) := by decide +kernel
theorem dX6_costOf_153 : decode cX6_costOf 153 = .ok (.iinc 4 1, 3) := by decide +kernel
theorem dX6_costOf_156 : decode cX6_costOf 156 = .ok (.goto (-151), 3) := by decide +kernel
theorem dX6_costOf_159 : decode cX6_costOf 159 = .ok (.lload_n 2, 1) := by decide +kernel
theorem dX6_costOf_160 : decode cX6_costOf 160 = .ok (.iload_n 1, 1) := by decide +kernel
theorem dX6_costOf_161 : decode cX6_costOf 161 = .ok (.iconst 3, 1) := by decide +kernel
theorem dX6_costOf_162 : decode cX6_costOf 162 = .ok (.if_icmp .ne 25, 3) := by decide +kernel
theorem dX6_costOf_165 : decode cX6_costOf 165 = .ok (.aload_n 0, 1) := by decide +kernel
theorem dX6_costOf_166 : decode cX6_costOf 166 = .ok (.getfield 104, 3) := by decide +kernel
theorem dX6_costOf_169 : decode cX6_costOf 169 = .ok (.i2l, 1) := by decide +kernel
theorem dX6_costOf_170 : decode cX6_costOf 170 = .ok (.aload_n 0, 1) := by decide +kernel
theorem dX6_costOf_171 : decode cX6_costOf 171 = .ok (.invokevirtual 162, 3) := by decide +kernel
theorem dX6_costOf_174 : decode cX6_costOf 174 = .ok (.invokestatic 147, 3) := by decide +kernel
theorem dX6_costOf_177 : decode cX6_costOf 177 = .ok (.i2l, 1) := by decide +kernel
theorem dX6_costOf_178 : decode cX6_costOf 178 = .ok (.lmul, 1) := by decide +kernel
theorem dX6_costOf_179 : decode cX6_costOf 179 = .ok (.aload_n 0, 1) := by decide +kernel
theorem dX6_costOf_180 : decode cX6_costOf 180 = .ok (.getfield 136, 3) := by decide +kernel
theorem dX6_costOf_183 : decode cX6_costOf 183 = .ok (.lmul, 1) := by decide +kernel
theorem dX6_costOf_184 : decode cX6_costOf 184 = .ok (.goto 4, 3) := by decide +kernel
theorem dX6_costOf_187 : decode cX6_costOf 187 = .ok (.lconst 0, 1) := by decide +kernel
theorem dX6_costOf_188 : decode cX6_costOf 188 = .ok (.ladd, 1) := by decide +kernel
theorem dX6_costOf_189 : decode cX6_costOf 189 = .ok (.lreturn, 1) := by decide +kernel
theorem dX6_find_0 : decode cX6_find 0 = .ok (.aload_n 0, 1) := by decide +kernel
theorem dX6_find_1 : decode cX6_find 1 = .ok (.invokevirtual 150, 3) := by decide +kernel
theorem dX6_find_4 : decode cX6_find 4 = .ok (.bipush (-6), 2) := by decide +kernel
theorem dX6_find_6 : decode cX6_find 6 = .ok (.istore_n 2, 1) := by decide +kernel
theorem dX6_find_7 : decode cX6_find 7 = .ok (.iconst 0, 1) := by decide +kernel
theorem dX6_find_8 : decode cX6_find 8 = .ok (.istore_n 3, 1) := by decide +kernel
theorem dX6_find_9 : decode cX6_find 9 = .ok (.iload_n 3, 1) := by decide +kernel
theorem dX6_find_10 : decode cX6_find 10 = .ok (.iconst 1, 1) := by decide +kernel
theorem dX6_find_11 : decode cX6_find 11 = .ok (.aload_n 0, 1) := by decide +kernel
theorem dX6_find_12 : decode cX6_find 12 = .ok (.getfield 65, 3) := by decide +kernel
theorem dX6_find_15 : decode cX6_find 15 = .ok (.ishl, 1) := by decide +kernel
theorem dX6_find_16 : decode cX6_find 16 = .ok (.if_icmp .ge 127, 3) := by decide +kernel
theorem dX6_find_19 : decode cX6_find 19 = .ok (.aload_n 0, 1) := by decide +kernel
theorem dX6_find_20 : decode cX6_find 20 = .ok (.iload_n 3, 1) := by decide +kernel
theorem dX6_find_21 : decode cX6_find 21 = .ok (.invokevirtual 153, 3) := by decide +kernel
theorem dX6_find_24 : decode cX6_find 24 = .ok (.ifCond .eq 113, 3) := by decide +kernel
theorem dX6_find_27 : decode cX6_find 27 = .ok (.aload_n 0, 1) := by decide +kernel
theorem dX6_find_28 : decode cX6_find 28 = .ok (.iload_n 1, 1) := by decide +kernel
theorem dX6_find_29 : decode cX6_find 29 = .ok (.invokevirtual 165, 3) := by decide +kernel
theorem dX6_find_32 : decode cX6_find 32 = .ok (.lstore 4, 2) := by decide +kernel
theorem dX6_find_34 : decode cX6_find 34 = .ok (.iload_n 2, 1) := by decide +kernel
theorem dX6_find_35 : decode cX6_find 35 = .ok (.ifCond .lt 23, 3) := by decide +kernel
theorem dX6_find_38 : decode cX6_find 38 = .ok (.lload 4, 2) := by decide +kernel
theorem dX6_find_40 : decode cX6_find 40 = .ok (.aload_n 0, 1) := by decide +kernel
theorem dX6_find_41 : decode cX6_find 41 = .ok (.getfield 168, 3) := by decide +kernel
theorem dX6_find_44 : decode cX6_find 44 = .ok (.lmul, 1) := by decide +kernel
theorem dX6_find_45 : decode cX6_find 45 = .ok (.aload_n 0, 1) := by decide +kernel
theorem dX6_find_46 : decode cX6_find 46 = .ok (.getfield 171, 3) := by decide +kernel
theorem dX6_find_49 : decode cX6_find 49 = .ok (.aload_n 0, 1) := by decide +kernel
theorem dX6_find_50 : decode cX6_find 50 = .ok (.getfield 136, 3) := by decide +kernel
theorem dX6_find_53 : decode cX6_find 53 = .ok (.lmul, 1) := by decide +kernel
theorem dX6_find_54 : decode cX6_find 54 = .ok (.lcmp, 1) := by decide +kernel
theorem dX6_find_55 : decode cX6_find 55 = .ok (.ifCond .ge 7, 3) := by decide +kernel
theorem dX6_find_58 : decode cX6_find 58 = .ok (.iconst 1, 1) := by decide +kernel
theorem dX6_find_59 : decode cX6_find 59 = .ok (.goto 4, 3) := by decide +kernel
theorem dX6_find_62 : decode cX6_find 62 = .ok (.iconst 0, 1) := by decide +kernel
theorem dX6_find_63 : decode cX6_find 63 = .ok (.istore 6, 2) := by decide +kernel
theorem dX6_find_65 : decode cX6_find 65 = .ok (.iload_n 2, 1) := by decide +kernel
theorem dX6_find_66 : decode cX6_find 66 = .ok (.ifCond .lt 35, 3) := by decide +kernel
theorem dX6_find_69 : decode cX6_find 69 = .ok (.lload 4, 2) := by decide +kernel
theorem dX6_find_71 : decode cX6_find 71 = .ok (.aload_n 0, 1) := by decide +kernel
theorem dX6_find_72 : decode cX6_find 72 = .ok (.getfield 168, 3) := by decide +kernel
theorem dX6_find_75 : decode cX6_find 75 = .ok (.lmul, 1) := by decide +kernel
theorem dX6_find_76 : decode cX6_find 76 = .ok (.aload_n 0, 1) := by decide +kernel
theorem dX6_find_77 : decode cX6_find 77 = .ok (.getfield 171, 3) := by decide +kernel
theorem dX6_find_80 : decode cX6_find 80 = .ok (.aload_n 0, 1) := by decide +kernel
theorem dX6_find_81 : decode cX6_find 81 = .ok (.getfield 136, 3) := by decide +kernel
theorem dX6_find_84 : decode cX6_find 84 = .ok (.lmul, 1) := by decide +kernel
theorem dX6_find_85 : decode cX6_find 85 = .ok (.lcmp, 1) := by decide +kernel
theorem dX6_find_86 : decode cX6_find 86 = .ok (.ifCond .ne 15, 3) := by decide +kernel
theorem dX6_find_89 : decode cX6_find 89 = .ok (.iload_n 3, 1) := by decide +kernel
theorem dX6_find_90 : decode cX6_find 90 = .ok (.iload_n 2, 1) := by decide +kernel
theorem dX6_find_91 : decode cX6_find 91 = .ok (.invokestatic 144, 3) := by decide +kernel
theorem dX6_find_94 : decode cX6_find 94 = .ok (.ifCond .eq 7, 3) := by decide +kernel
theorem dX6_find_97 : decode cX6_find 97 = .ok (.iconst 1, 1) := by decide +kernel
theorem dX6_find_98 : decode cX6_find 98 = .ok (.goto 4, 3) := by decide +kernel
theorem dX6_find_101 : decode cX6_find 101 = .ok (.iconst 0, 1) := by decide +kernel
theorem dX6_find_102 : decode cX6_find 102 = .ok (.istore 7, 2) := by decide +kernel
theorem dX6_find_104 : decode cX6_find 104 = .ok (.lload 4, 2) := by decide +kernel
theorem dX6_find_106 : decode cX6_find 106 = .ok (.lconst 0, 1) := by decide +kernel
theorem dX6_find_107 : decode cX6_find 107 = .ok (.lcmp, 1) := by decide +kernel
theorem dX6_find_108 : decode cX6_find 108 = .ok (.ifCond .lt 29, 3) := by decide +kernel
theorem dX6_find_111 : decode cX6_find 111 = .ok (.iload 6, 2) := by decide +kernel
theorem dX6_find_113 : decode cX6_find 113 = .ok (.ifCond .ne 8, 3) := by decide +kernel
theorem dX6_find_116 : decode cX6_find 116 = .ok (.iload 7, 2) := by decide +kernel
theorem dX6_find_118 : decode cX6_find 118 = .ok (.ifCond .eq 19, 3) := by decide +kernel
theorem dX6_find_121 : decode cX6_find 121 = .ok (.iload_n 3, 1) := by decide +kernel
theorem dX6_find_122 : decode cX6_find 122 = .ok (.istore_n 2, 1) := by decide +kernel
theorem dX6_find_123 : decode cX6_find 123 = .ok (.aload_n 0, 1) := by decide +kernel
theorem dX6_find_124 : decode cX6_find 124 = .ok (.lload 4, 2) := by decide +kernel
theorem dX6_find_126 : decode cX6_find 126 = .ok (.putfield 171, 3) := by decide +kernel
theorem dX6_find_129 : decode cX6_find 129 = .ok (.aload_n 0, 1) := by decide +kernel
theorem dX6_find_130 : decode cX6_find 130 = .ok (.aload_n 0, 1) := by decide +kernel
theorem dX6_find_131 : decode cX6_find 131 = .ok (.getfield 136, 3) := by decide +kernel
theorem dX6_find_134 : decode cX6_find 134 = .ok (.putfield 168, 3) := by decide +kernel
theorem dX6_find_137 : decode cX6_find 137 = .ok (.iinc 3 1, 3) := by decide +kernel
theorem dX6_find_140 : decode cX6_find 140 = .ok (.goto (-131), 3) := by decide +kernel
theorem dX6_find_143 : decode cX6_find 143 = .ok (.iload_n 2, 1) := by decide +kernel
theorem dX6_find_144 : decode cX6_find 144 = .ok (.ireturn, 1) := by decide +kernel
theorem dX6_isKind_0 : decode cX6_isKind 0 = .ok (.iload_n 0, 1) := by decide +kernel
theorem dX6_isKind_1 : decode cX6_isKind 1 = .ok (.i2l, 1) := by decide +kernel
theorem dX6_isKind_2 : decode cX6_isKind 2 = .ok (.lconst 0, 1) := by decide +kernel
theorem dX6_isKind_3 : decode cX6_isKind 3 = .ok (.ldc2_w 174, 3) := by decide +kernel
theorem dX6_isKind_6 : decode cX6_isKind 6 = .ok (.invokestatic 61, 3) := by decide +kernel
theorem dX6_isKind_9 : decode cX6_isKind 9 = .ok (.ireturn, 1) := by decide +kernel
theorem dX6_frame_0 : decode cX6_frame 0 = .ok (.iload_n 1, 1) := by decide +kernel
theorem dX6_frame_1 : decode cX6_frame 1 = .ok (.invokestatic 176, 3) := by decide +kernel
theorem dX6_frame_4 : decode cX6_frame 4 = .ok (.ifCond .eq 11, 3) := by decide +kernel
theorem dX6_frame_7 : decode cX6_frame 7 = .ok (.aload_n 0, 1) := by decide +kernel
theorem dX6_frame_8 : decode cX6_frame 8 = .ok (.iload_n 1, 1) := by decide +kernel
theorem dX6_frame_9 : decode cX6_frame 9 = .ok (.invokevirtual 179, 3) := by decide +kernel
theorem dX6_frame_12 : decode cX6_frame 12 = .ok (.goto 5, 3) := by decide +kernel
theorem dX6_frame_15 : decode cX6_frame 15 = .ok (.bipush (-2), 2) := by decide +kernel
theorem dX6_frame_17 : decode cX6_frame 17 = .ok (.ireturn, 1) := by decide +kernel
theorem dX6_isPart_0 : decode cX6_isPart 0 = .ok (.iload_n 0, 1) := by decide +kernel
theorem dX6_isPart_1 : decode cX6_isPart 1 = .ok (.i2l, 1) := by decide +kernel
theorem dX6_isPart_2 : decode cX6_isPart 2 = .ok (.lconst 0, 1) := by decide +kernel
theorem dX6_isPart_3 : decode cX6_isPart 3 = .ok (.lconst 1, 1) := by decide +kernel
theorem dX6_isPart_4 : decode cX6_isPart 4 = .ok (.invokestatic 61, 3) := by decide +kernel
theorem dX6_isPart_7 : decode cX6_isPart 7 = .ok (.ireturn, 1) := by decide +kernel
theorem dX6_cost_0 : decode cX6_cost 0 = .ok (.iload_n 1, 1) := by decide +kernel
theorem dX6_cost_1 : decode cX6_cost 1 = .ok (.invokestatic 176, 3) := by decide +kernel
theorem dX6_cost_4 : decode cX6_cost 4 = .ok (.ifCond .eq 10, 3) := by decide +kernel
theorem dX6_cost_7 : decode cX6_cost 7 = .ok (.iload_n 2, 1) := by decide +kernel
theorem dX6_cost_8 : decode cX6_cost 8 = .ok (.invokestatic 182, 3) := by decide +kernel
theorem dX6_cost_11 : decode cX6_cost 11 = .ok (.ifCond .ne 7, 3) := by decide +kernel
theorem dX6_cost_14 : decode cX6_cost 14 = .ok (.ldc2_w 185, 3) := by decide +kernel
theorem dX6_cost_17 : decode cX6_cost 17 = .ok (.lreturn, 1) := by decide +kernel
theorem dX6_cost_18 : decode cX6_cost 18 = .ok (.aload_n 0, 1) := by decide +kernel
theorem dX6_cost_19 : decode cX6_cost 19 = .ok (.iload_n 1, 1) := by decide +kernel
theorem dX6_cost_20 : decode cX6_cost 20 = .ok (.invokevirtual 179, 3) := by decide +kernel
theorem dX6_cost_23 : decode cX6_cost 23 = .ok (.ifCond .ge 9, 3) := by decide +kernel
theorem dX6_cost_26 : decode cX6_cost 26 = .ok (.ldc2_w 187, 3) := by decide +kernel
theorem dX6_cost_29 : decode cX6_cost 29 = .ok (.goto 15, 3) := by decide +kernel
theorem dX6_cost_32 : decode cX6_cost 32 = .ok (.aload_n 0, 1) := by decide +kernel
theorem dX6_cost_33 : decode cX6_cost 33 = .ok (.getfield 171, 3) := by decide +kernel
theorem dX6_cost_36 : decode cX6_cost 36 = .ok (.aload_n 0, 1) := by decide +kernel
theorem dX6_cost_37 : decode cX6_cost 37 = .ok (.getfield 168, 3) := by decide +kernel
theorem dX6_cost_40 : decode cX6_cost 40 = .ok (.iload_n 2, 1) := by decide +kernel
theorem dX6_cost_41 : decode cX6_cost 41 = .ok (.invokestatic 189, 3) := by decide +kernel
theorem dX6_cost_44 : decode cX6_cost 44 = .ok (.lreturn, 1) := by decide +kernel
theorem dX6_placeOf_0 : decode cX6_placeOf 0 = .ok (.bipush (-6), 2) := by decide +kernel
theorem dX6_placeOf_2 : decode cX6_placeOf 2 = .ok (.istore_n 2, 1) := by decide +kernel
theorem dX6_placeOf_3 : decode cX6_placeOf 3 = .ok (.iconst 0, 1) := by decide +kernel
theorem dX6_placeOf_4 : decode cX6_placeOf 4 = .ok (.istore_n 3, 1) := by decide +kernel
theorem dX6_placeOf_5 : decode cX6_placeOf 5 = .ok (.iload_n 3, 1) := by decide +kernel
theorem dX6_placeOf_6 : decode cX6_placeOf 6 = .ok (.aload_n 0, 1) := by decide +kernel
theorem dX6_placeOf_7 : decode cX6_placeOf 7 = .ok (.getfield 119, 3) := by decide +kernel
theorem dX6_placeOf_10 : decode cX6_placeOf 10 = .ok (.if_icmp .ge 25, 3) := by decide +kernel
theorem dX6_placeOf_13 : decode cX6_placeOf 13 = .ok (.aload_n 0, 1) := by decide +kernel
theorem dX6_placeOf_14 : decode cX6_placeOf 14 = .ok (.getfield 48, 3) := by decide +kernel
theorem dX6_placeOf_17 : decode cX6_placeOf 17 = .ok (.iload_n 3, 1) := by decide +kernel
theorem dX6_placeOf_18 : decode cX6_placeOf 18 = .ok (.iaload, 1) := by decide +kernel
theorem dX6_placeOf_19 : decode cX6_placeOf 19 = .ok (.iload_n 1, 1) := by decide +kernel
theorem dX6_placeOf_20 : decode cX6_placeOf 20 = .ok (.if_icmp .ne 7, 3) := by decide +kernel
theorem dX6_placeOf_23 : decode cX6_placeOf 23 = .ok (.iload_n 3, 1) := by decide +kernel
theorem dX6_placeOf_24 : decode cX6_placeOf 24 = .ok (.goto 4, 3) := by decide +kernel
theorem dX6_placeOf_27 : decode cX6_placeOf 27 = .ok (.iload_n 2, 1) := by decide +kernel
theorem dX6_placeOf_28 : decode cX6_placeOf 28 = .ok (.istore_n 2, 1) := by decide +kernel
theorem dX6_placeOf_29 : decode cX6_placeOf 29 = .ok (.iinc 3 1, 3) := by decide +kernel
theorem dX6_placeOf_32 : decode cX6_placeOf 32 = .ok (.goto (-27), 3) := by decide +kernel
theorem dX6_placeOf_35 : decode cX6_placeOf 35 = .ok (.iload_n 2, 1) := by decide +kernel
theorem dX6_placeOf_36 : decode cX6_placeOf 36 = .ok (.ireturn, 1) := by decide +kernel
theorem dX6_pull_0 : decode cX6_pull 0 = .ok (.aload_n 0, 1) := by decide +kernel
theorem dX6_pull_1 : decode cX6_pull 1 = .ok (.iload_n 2, 1) := by decide +kernel
theorem dX6_pull_2 : decode cX6_pull 2 = .ok (.invokevirtual 90, 3) := by decide +kernel
theorem dX6_pull_5 : decode cX6_pull 5 = .ok (.ifCond .ne 7, 3) := by decide +kernel
theorem dX6_pull_8 : decode cX6_pull 8 = .ok (.ldc2_w 193, 3) := by decide +kernel
theorem dX6_pull_11 : decode cX6_pull 11 = .ok (.lreturn, 1) := by decide +kernel
theorem dX6_pull_12 : decode cX6_pull 12 = .ok (.iload_n 1, 1) := by decide +kernel
theorem dX6_pull_13 : decode cX6_pull 13 = .ok (.invokestatic 176, 3) := by decide +kernel
theorem dX6_pull_16 : decode cX6_pull 16 = .ok (.ifCond .eq 10, 3) := by decide +kernel
theorem dX6_pull_19 : decode cX6_pull 19 = .ok (.iload_n 3, 1) := by decide +kernel
theorem dX6_pull_20 : decode cX6_pull 20 = .ok (.invokestatic 182, 3) := by decide +kernel
theorem dX6_pull_23 : decode cX6_pull 23 = .ok (.ifCond .ne 7, 3) := by decide +kernel
theorem dX6_pull_26 : decode cX6_pull 26 = .ok (.ldc2_w 185, 3) := by decide +kernel
theorem dX6_pull_29 : decode cX6_pull 29 = .ok (.lreturn, 1) := by decide +kernel
theorem dX6_pull_30 : decode cX6_pull 30 = .ok (.aload_n 0, 1) := by decide +kernel
theorem dX6_pull_31 : decode cX6_pull 31 = .ok (.iload_n 1, 1) := by decide +kernel
theorem dX6_pull_32 : decode cX6_pull 32 = .ok (.invokevirtual 179, 3) := by decide +kernel
theorem dX6_pull_35 : decode cX6_pull 35 = .ok (.istore 4, 2) := by decide +kernel
theorem dX6_pull_37 : decode cX6_pull 37 = .ok (.iload 4, 2) := by decide +kernel
theorem dX6_pull_39 : decode cX6_pull 39 = .ok (.ifCond .lt 12, 3) := by decide +kernel
theorem dX6_pull_42 : decode cX6_pull 42 = .ok (.aload_n 0, 1) := by decide +kernel
theorem dX6_pull_43 : decode cX6_pull 43 = .ok (.iload 4, 2) := by decide +kernel
theorem dX6_pull_45 : decode cX6_pull 45 = .ok (.invokevirtual 153, 3) := by decide +kernel
theorem dX6_pull_48 : decode cX6_pull 48 = .ok (.ifCond .ne 7, 3) := by decide +kernel
theorem dX6_pull_51 : decode cX6_pull 51 = .ok (.ldc2_w 187, 3) := by decide +kernel
theorem dX6_pull_54 : decode cX6_pull 54 = .ok (.lreturn, 1) := by decide +kernel
theorem dX6_pull_55 : decode cX6_pull 55 = .ok (.aload_n 0, 1) := by decide +kernel
theorem dX6_pull_56 : decode cX6_pull 56 = .ok (.iload_n 2, 1) := by decide +kernel
theorem dX6_pull_57 : decode cX6_pull 57 = .ok (.invokevirtual 195, 3) := by decide +kernel
theorem dX6_pull_60 : decode cX6_pull 60 = .ok (.istore 5, 2) := by decide +kernel
theorem dX6_pull_62 : decode cX6_pull 62 = .ok (.iload 5, 2) := by decide +kernel
theorem dX6_pull_64 : decode cX6_pull 64 = .ok (.ifCond .ge 12, 3) := by decide +kernel
theorem dX6_pull_67 : decode cX6_pull 67 = .ok (.lconst 0, 1) := by decide +kernel
theorem dX6_pull_68 : decode cX6_pull 68 = .ok (.lconst 1, 1) := by decide +kernel
theorem dX6_pull_69 : decode cX6_pull 69 = .ok (.iload_n 3, 1) := by decide +kernel
theorem dX6_pull_70 : decode cX6_pull 70 = .ok (.invokestatic 189, 3) := by decide +kernel
theorem dX6_pull_73 : decode cX6_pull 73 = .ok (.goto 18, 3) := by decide +kernel
theorem dX6_pull_76 : decode cX6_pull 76 = .ok (.aload_n 0, 1) := by decide +kernel
theorem dX6_pull_77 : decode cX6_pull 77 = .ok (.getfield 51, 3) := by decide +kernel
theorem dX6_pull_80 : decode cX6_pull 80 = .ok (.iload 5, 2) := by decide +kernel
theorem dX6_pull_82 : decode cX6_pull 82 = .ok (.laload, 1) := by decide +kernel
theorem dX6_pull_83 : decode cX6_pull 83 = .ok (.aload_n 0, 1) := by decide +kernel
theorem dX6_pull_84 : decode cX6_pull 84 = .ok (.getfield 136, 3) := by decide +kernel
theorem dX6_pull_87 : decode cX6_pull 87 = .ok (.iload_n 3, 1) := by decide +kernel
theorem dX6_pull_88 : decode cX6_pull 88 = .ok (.invokestatic 189, 3) := by decide +kernel
theorem dX6_pull_91 : decode cX6_pull 91 = .ok (.lreturn, 1) := by decide +kernel
theorem dX6_used_0 : decode cX6_used 0 = .ok (.iload_n 1, 1) := by decide +kernel
theorem dX6_used_1 : decode cX6_used 1 = .ok (.invokestatic 176, 3) := by decide +kernel
theorem dX6_used_4 : decode cX6_used 4 = .ok (.ifCond .eq 10, 3) := by decide +kernel
theorem dX6_used_7 : decode cX6_used 7 = .ok (.iload_n 2, 1) := by decide +kernel
theorem dX6_used_8 : decode cX6_used 8 = .ok (.invokestatic 182, 3) := by decide +kernel
theorem dX6_used_11 : decode cX6_used 11 = .ok (.ifCond .ne 6, 3) := by decide +kernel
theorem dX6_used_14 : decode cX6_used 14 = .ok (.bipush (-2), 2) := by decide +kernel
theorem dX6_used_16 : decode cX6_used 16 = .ok (.ireturn, 1) := by decide +kernel
theorem dX6_used_17 : decode cX6_used 17 = .ok (.aload_n 0, 1) := by decide +kernel
theorem dX6_used_18 : decode cX6_used 18 = .ok (.iload_n 1, 1) := by decide +kernel
theorem dX6_used_19 : decode cX6_used 19 = .ok (.invokevirtual 179, 3) := by decide +kernel
theorem dX6_used_22 : decode cX6_used 22 = .ok (.istore_n 3, 1) := by decide +kernel
theorem dX6_used_23 : decode cX6_used 23 = .ok (.iload_n 3, 1) := by decide +kernel
theorem dX6_used_24 : decode cX6_used 24 = .ok (.ifCond .lt 11, 3) := by decide +kernel
theorem dX6_used_27 : decode cX6_used 27 = .ok (.aload_n 0, 1) := by decide +kernel
theorem dX6_used_28 : decode cX6_used 28 = .ok (.iload_n 3, 1) := by decide +kernel
theorem dX6_used_29 : decode cX6_used 29 = .ok (.invokevirtual 153, 3) := by decide +kernel
theorem dX6_used_32 : decode cX6_used 32 = .ok (.ifCond .ne 8, 3) := by decide +kernel
theorem dX6_used_35 : decode cX6_used 35 = .ok (.bipush (-6), 2) := by decide +kernel
theorem dX6_used_37 : decode cX6_used 37 = .ok (.goto 18, 3) := by decide +kernel
theorem dX6_used_40 : decode cX6_used 40 = .ok (.iload_n 2, 1) := by decide +kernel
theorem dX6_used_41 : decode cX6_used 41 = .ok (.ifCond .ne 10, 3) := by decide +kernel
theorem dX6_used_44 : decode cX6_used 44 = .ok (.aload_n 0, 1) := by decide +kernel
theorem dX6_used_45 : decode cX6_used 45 = .ok (.invokevirtual 198, 3) := by decide +kernel
theorem dX6_used_48 : decode cX6_used 48 = .ok (.goto 7, 3) := by decide +kernel
theorem dX6_used_51 : decode cX6_used 51 = .ok (.aload_n 0, 1) := by decide +kernel
theorem dX6_used_52 : decode cX6_used 52 = .ok (.invokevirtual 162, 3) := by decide +kernel
theorem dX6_used_55 : decode cX6_used 55 = .ok (.ireturn, 1) := by decide +kernel
theorem dX6_sized_0 : decode cX6_sized 0 = .ok (.aload_n 0, 1) := by decide +kernel
theorem dX6_sized_1 : decode cX6_sized 1 = .ok (.iload_n 1, 1) := by decide +kernel
theorem dX6_sized_2 : decode cX6_sized 2 = .ok (.invokevirtual 90, 3) := by decide +kernel
theorem dX6_sized_5 : decode cX6_sized 5 = .ok (.ifCond .ne 5, 3) := by decide +kernel
theorem dX6_sized_8 : decode cX6_sized 8 = .ok (.iconst (-1), 1) := by decide +kernel
theorem dX6_sized_9 : decode cX6_sized 9 = .ok (.ireturn, 1) := by decide +kernel
theorem dX6_sized_10 : decode cX6_sized 10 = .ok (.aload_n 0, 1) := by decide +kernel
theorem dX6_sized_11 : decode cX6_sized 11 = .ok (.iconst 2, 1) := by decide +kernel
theorem dX6_sized_12 : decode cX6_sized 12 = .ok (.invokevirtual 179, 3) := by decide +kernel
theorem dX6_sized_15 : decode cX6_sized 15 = .ok (.istore_n 2, 1) := by decide +kernel
theorem dX6_sized_16 : decode cX6_sized 16 = .ok (.iload_n 2, 1) := by decide +kernel
theorem dX6_sized_17 : decode cX6_sized 17 = .ok (.ifCond .lt 11, 3) := by decide +kernel
theorem dX6_sized_20 : decode cX6_sized 20 = .ok (.aload_n 0, 1) := by decide +kernel
theorem dX6_sized_21 : decode cX6_sized 21 = .ok (.iload_n 2, 1) := by decide +kernel
theorem dX6_sized_22 : decode cX6_sized 22 = .ok (.invokevirtual 153, 3) := by decide +kernel
theorem dX6_sized_25 : decode cX6_sized 25 = .ok (.ifCond .ne 6, 3) := by decide +kernel
theorem dX6_sized_28 : decode cX6_sized 28 = .ok (.bipush (-6), 2) := by decide +kernel
theorem dX6_sized_30 : decode cX6_sized 30 = .ok (.ireturn, 1) := by decide +kernel
theorem dX6_sized_31 : decode cX6_sized 31 = .ok (.aload_n 0, 1) := by decide +kernel
theorem dX6_sized_32 : decode cX6_sized 32 = .ok (.iload_n 1, 1) := by decide +kernel
theorem dX6_sized_33 : decode cX6_sized 33 = .ok (.invokevirtual 195, 3) := by decide +kernel
theorem dX6_sized_36 : decode cX6_sized 36 = .ok (.istore_n 3, 1) := by decide +kernel
theorem dX6_sized_37 : decode cX6_sized 37 = .ok (.iload_n 3, 1) := by decide +kernel
theorem dX6_sized_38 : decode cX6_sized 38 = .ok (.ifCond .ge 7, 3) := by decide +kernel
theorem dX6_sized_41 : decode cX6_sized 41 = .ok (.iconst 0, 1) := by decide +kernel
theorem dX6_sized_42 : decode cX6_sized 42 = .ok (.goto 13, 3) := by decide +kernel
theorem dX6_sized_45 : decode cX6_sized 45 = .ok (.aload_n 0, 1) := by decide +kernel
theorem dX6_sized_46 : decode cX6_sized 46 = .ok (.aload_n 0, 1) := by decide +kernel
theorem dX6_sized_47 : decode cX6_sized 47 = .ok (.getfield 51, 3) := by decide +kernel
theorem dX6_sized_50 : decode cX6_sized 50 = .ok (.iload_n 3, 1) := by decide +kernel
theorem dX6_sized_51 : decode cX6_sized 51 = .ok (.laload, 1) := by decide +kernel
theorem dX6_sized_52 : decode cX6_sized 52 = .ok (.invokevirtual 156, 3) := by decide +kernel
theorem dX6_sized_55 : decode cX6_sized 55 = .ok (.ireturn, 1) := by decide +kernel
theorem dX6_numberOf_0 : decode cX6_numberOf 0 = .ok (.lconst 0, 1) := by decide +kernel
theorem dX6_numberOf_1 : decode cX6_numberOf 1 = .ok (.lstore_n 2, 1) := by decide +kernel
theorem dX6_numberOf_2 : decode cX6_numberOf 2 = .ok (.aload_n 0, 1) := by decide +kernel
theorem dX6_numberOf_3 : decode cX6_numberOf 3 = .ok (.getfield 26, 3) := by decide +kernel
theorem dX6_numberOf_6 : decode cX6_numberOf 6 = .ok (.iload_n 1, 1) := by decide +kernel
theorem dX6_numberOf_7 : decode cX6_numberOf 7 = .ok (.iaload, 1) := by decide +kernel
theorem dX6_numberOf_8 : decode cX6_numberOf 8 = .ok (.istore 4, 2) := by decide +kernel
theorem dX6_numberOf_10 : decode cX6_numberOf 10 = .ok (.aload_n 0, 1) := by decide +kernel
theorem dX6_numberOf_11 : decode cX6_numberOf 11 = .ok (.getfield 29, 3) := by decide +kernel
theorem dX6_numberOf_14 : decode cX6_numberOf 14 = .ok (.iload_n 1, 1) := by decide +kernel
theorem dX6_numberOf_15 : decode cX6_numberOf 15 = .ok (.iaload, 1) := by decide +kernel
theorem dX6_numberOf_16 : decode cX6_numberOf 16 = .ok (.istore 5, 2) := by decide +kernel
theorem dX6_numberOf_18 : decode cX6_numberOf 18 = .ok (.aload_n 0, 1) := by decide +kernel
theorem dX6_numberOf_19 : decode cX6_numberOf 19 = .ok (.getfield 35, 3) := by decide +kernel
theorem dX6_numberOf_22 : decode cX6_numberOf 22 = .ok (.iload 4, 2) := by decide +kernel
theorem dX6_numberOf_24 : decode cX6_numberOf 24 = .ok (.iaload, 1) := by decide +kernel
theorem dX6_numberOf_25 : decode cX6_numberOf 25 = .ok (.ifCond .lt 67, 3) := by decide +kernel
theorem dX6_numberOf_28 : decode cX6_numberOf 28 = .ok (.lload_n 2, 1) := by decide +kernel
theorem dX6_numberOf_29 : decode cX6_numberOf 29 = .ok (.aload_n 0, 1) := by decide +kernel
theorem dX6_numberOf_30 : decode cX6_numberOf 30 = .ok (.getfield 7, 3) := by decide +kernel
theorem dX6_numberOf_33 : decode cX6_numberOf 33 = .ok (.iload 4, 2) := by decide +kernel
theorem dX6_numberOf_35 : decode cX6_numberOf 35 = .ok (.iaload, 1) := by decide +kernel
theorem dX6_numberOf_36 : decode cX6_numberOf 36 = .ok (.aload_n 0, 1) := by decide +kernel
theorem dX6_numberOf_37 : decode cX6_numberOf 37 = .ok (.getfield 7, 3) := by decide +kernel
theorem dX6_numberOf_40 : decode cX6_numberOf 40 = .ok (.iload 5, 2) := by decide +kernel
theorem dX6_numberOf_42 : decode cX6_numberOf 42 = .ok (.iaload, 1) := by decide +kernel
theorem dX6_numberOf_43 : decode cX6_numberOf 43 = .ok (.isub, 1) := by decide +kernel
theorem dX6_numberOf_44 : decode cX6_numberOf 44 = .ok (.i2l, 1) := by decide +kernel
theorem dX6_numberOf_45 : decode cX6_numberOf 45 = .ok (.aload_n 0, 1) := by decide +kernel
theorem dX6_numberOf_46 : decode cX6_numberOf 46 = .ok (.getfield 54, 3) := by decide +kernel
theorem dX6_numberOf_49 : decode cX6_numberOf 49 = .ok (.aload_n 0, 1) := by decide +kernel
theorem dX6_numberOf_50 : decode cX6_numberOf 50 = .ok (.getfield 35, 3) := by decide +kernel
theorem dX6_numberOf_53 : decode cX6_numberOf 53 = .ok (.iload 4, 2) := by decide +kernel
theorem dX6_numberOf_55 : decode cX6_numberOf 55 = .ok (.iaload, 1) := by decide +kernel
theorem dX6_numberOf_56 : decode cX6_numberOf 56 = .ok (.laload, 1) := by decide +kernel
theorem dX6_numberOf_57 : decode cX6_numberOf 57 = .ok (.lmul, 1) := by decide +kernel
theorem dX6_numberOf_58 : decode cX6_numberOf 58 = .ok (.aload_n 0, 1) := by decide +kernel
theorem dX6_numberOf_59 : decode cX6_numberOf 59 = .ok (.getfield 13, 3) := by decide +kernel
theorem dX6_numberOf_62 : decode cX6_numberOf 62 = .ok (.iload 4, 2) := by decide +kernel
theorem dX6_numberOf_64 : decode cX6_numberOf 64 = .ok (.iaload, 1) := by decide +kernel
theorem dX6_numberOf_65 : decode cX6_numberOf 65 = .ok (.aload_n 0, 1) := by decide +kernel
theorem dX6_numberOf_66 : decode cX6_numberOf 66 = .ok (.getfield 13, 3) := by decide +kernel
theorem dX6_numberOf_69 : decode cX6_numberOf 69 = .ok (.iload 5, 2) := by decide +kernel
theorem dX6_numberOf_71 : decode cX6_numberOf 71 = .ok (.iaload, 1) := by decide +kernel
theorem dX6_numberOf_72 : decode cX6_numberOf 72 = .ok (.isub, 1) := by decide +kernel
theorem dX6_numberOf_73 : decode cX6_numberOf 73 = .ok (.i2l, 1) := by decide +kernel
theorem dX6_numberOf_74 : decode cX6_numberOf 74 = .ok (.aload_n 0, 1) := by decide +kernel
theorem dX6_numberOf_75 : decode cX6_numberOf 75 = .ok (.getfield 54, 3) := by decide +kernel
theorem dX6_numberOf_78 : decode cX6_numberOf 78 = .ok (.aload_n 0, 1) := by decide +kernel
theorem dX6_numberOf_79 : decode cX6_numberOf 79 = .ok (.getfield 35, 3) := by decide +kernel
theorem dX6_numberOf_82 : decode cX6_numberOf 82 = .ok (.iload 4, 2) := by decide +kernel
theorem dX6_numberOf_84 : decode cX6_numberOf 84 = .ok (.iaload, 1) := by decide +kernel
theorem dX6_numberOf_85 : decode cX6_numberOf 85 = .ok (.iconst 1, 1) := by decide +kernel
theorem dX6_numberOf_86 : decode cX6_numberOf 86 = .ok (.iadd, 1) := by decide +kernel
theorem dX6_numberOf_87 : decode cX6_numberOf 87 = .ok (.laload, 1) := by decide +kernel
theorem dX6_numberOf_88 : decode cX6_numberOf 88 = .ok (.lmul, 1) := by decide +kernel
theorem dX6_numberOf_89 : decode cX6_numberOf 89 = .ok (.ladd, 1) := by decide +kernel
theorem dX6_numberOf_90 : decode cX6_numberOf 90 = .ok (.ladd, 1) := by decide +kernel
theorem dX6_numberOf_91 : decode cX6_numberOf 91 = .ok (.lstore_n 2, 1) := by decide +kernel
theorem dX6_numberOf_92 : decode cX6_numberOf 92 = .ok (.aload_n 0, 1) := by decide +kernel
theorem dX6_numberOf_93 : decode cX6_numberOf 93 = .ok (.getfield 35, 3) := by decide +kernel
theorem dX6_numberOf_96 : decode cX6_numberOf 96 = .ok (.iload 5, 2) := by decide +kernel
theorem dX6_numberOf_98 : decode cX6_numberOf 98 = .ok (.iaload, 1) := by decide +kernel
theorem dX6_numberOf_99 : decode cX6_numberOf 99 = .ok (.ifCond .lt 67, 3) := by decide +kernel
theorem dX6_numberOf_102 : decode cX6_numberOf 102 = .ok (.lload_n 2, 1) := by decide +kernel
theorem dX6_numberOf_103 : decode cX6_numberOf 103 = .ok (.aload_n 0, 1) := by decide +kernel
theorem dX6_numberOf_104 : decode cX6_numberOf 104 = .ok (.getfield 7, 3) := by decide +kernel
theorem dX6_numberOf_107 : decode cX6_numberOf 107 = .ok (.iload 5, 2) := by decide +kernel
theorem dX6_numberOf_109 : decode cX6_numberOf 109 = .ok (.iaload, 1) := by decide +kernel
theorem dX6_numberOf_110 : decode cX6_numberOf 110 = .ok (.aload_n 0, 1) := by decide +kernel
theorem dX6_numberOf_111 : decode cX6_numberOf 111 = .ok (.getfield 7, 3) := by decide +kernel
theorem dX6_numberOf_114 : decode cX6_numberOf 114 = .ok (.iload 4, 2) := by decide +kernel
theorem dX6_numberOf_116 : decode cX6_numberOf 116 = .ok (.iaload, 1) := by decide +kernel
theorem dX6_numberOf_117 : decode cX6_numberOf 117 = .ok (.isub, 1) := by decide +kernel
theorem dX6_numberOf_118 : decode cX6_numberOf 118 = .ok (.i2l, 1) := by decide +kernel
theorem dX6_numberOf_119 : decode cX6_numberOf 119 = .ok (.aload_n 0, 1) := by decide +kernel
theorem dX6_numberOf_120 : decode cX6_numberOf 120 = .ok (.getfield 54, 3) := by decide +kernel
theorem dX6_numberOf_123 : decode cX6_numberOf 123 = .ok (.aload_n 0, 1) := by decide +kernel
theorem dX6_numberOf_124 : decode cX6_numberOf 124 = .ok (.getfield 35, 3) := by decide +kernel
theorem dX6_numberOf_127 : decode cX6_numberOf 127 = .ok (.iload 5, 2) := by decide +kernel
theorem dX6_numberOf_129 : decode cX6_numberOf 129 = .ok (.iaload, 1) := by decide +kernel
theorem dX6_numberOf_130 : decode cX6_numberOf 130 = .ok (.laload, 1) := by decide +kernel
theorem dX6_numberOf_131 : decode cX6_numberOf 131 = .ok (.lmul, 1) := by decide +kernel
theorem dX6_numberOf_132 : decode cX6_numberOf 132 = .ok (.aload_n 0, 1) := by decide +kernel
theorem dX6_numberOf_133 : decode cX6_numberOf 133 = .ok (.getfield 13, 3) := by decide +kernel
theorem dX6_numberOf_136 : decode cX6_numberOf 136 = .ok (.iload 5, 2) := by decide +kernel
theorem dX6_numberOf_138 : decode cX6_numberOf 138 = .ok (.iaload, 1) := by decide +kernel
theorem dX6_numberOf_139 : decode cX6_numberOf 139 = .ok (.aload_n 0, 1) := by decide +kernel
theorem dX6_numberOf_140 : decode cX6_numberOf 140 = .ok (.getfield 13, 3) := by decide +kernel
theorem dX6_numberOf_143 : decode cX6_numberOf 143 = .ok (.iload 4, 2) := by decide +kernel
theorem dX6_numberOf_145 : decode cX6_numberOf 145 = .ok (.iaload, 1) := by decide +kernel
theorem dX6_numberOf_146 : decode cX6_numberOf 146 = .ok (.isub, 1) := by decide +kernel
theorem dX6_numberOf_147 : decode cX6_numberOf 147 = .ok (.i2l, 1) := by decide +kernel
theorem dX6_numberOf_148 : decode cX6_numberOf 148 = .ok (.aload_n 0, 1) := by decide +kernel
theorem dX6_numberOf_149 : decode cX6_numberOf 149 = .ok (.getfield 54, 3) := by decide +kernel
theorem dX6_numberOf_152 : decode cX6_numberOf 152 = .ok (.aload_n 0, 1) := by decide +kernel
theorem dX6_numberOf_153 : decode cX6_numberOf 153 = .ok (.getfield 35, 3) := by decide +kernel
theorem dX6_numberOf_156 : decode cX6_numberOf 156 = .ok (.iload 5, 2) := by decide +kernel
theorem dX6_numberOf_158 : decode cX6_numberOf 158 = .ok (.iaload, 1) := by decide +kernel
theorem dX6_numberOf_159 : decode cX6_numberOf 159 = .ok (.iconst 1, 1) := by decide +kernel
theorem dX6_numberOf_160 : decode cX6_numberOf 160 = .ok (.iadd, 1) := by decide +kernel
theorem dX6_numberOf_161 : decode cX6_numberOf 161 = .ok (.laload, 1) := by decide +kernel
theorem dX6_numberOf_162 : decode cX6_numberOf 162 = .ok (.lmul, 1) := by decide +kernel
theorem dX6_numberOf_163 : decode cX6_numberOf 163 = .ok (.ladd, 1) := by decide +kernel
theorem dX6_numberOf_164 : decode cX6_numberOf 164 = .ok (.ladd, 1) := by decide +kernel
theorem dX6_numberOf_165 : decode cX6_numberOf 165 = .ok (.lstore_n 2, 1) := by decide +kernel
theorem dX6_numberOf_166 : decode cX6_numberOf 166 = .ok (.lload_n 2, 1) := by decide +kernel
theorem dX6_numberOf_167 : decode cX6_numberOf 167 = .ok (.lreturn, 1) := by decide +kernel
theorem dX6_isGood_0 : decode cX6_isGood 0 = .ok (.aload_n 0, 1) := by decide +kernel
theorem dX6_isGood_1 : decode cX6_isGood 1 = .ok (.iload_n 1, 1) := by decide +kernel
theorem dX6_isGood_2 : decode cX6_isGood 2 = .ok (.invokevirtual 153, 3) := by decide +kernel
theorem dX6_isGood_5 : decode cX6_isGood 5 = .ok (.istore_n 3, 1) := by decide +kernel
theorem dX6_isGood_6 : decode cX6_isGood 6 = .ok (.iconst 0, 1) := by decide +kernel
theorem dX6_isGood_7 : decode cX6_isGood 7 = .ok (.istore 4, 2) := by decide +kernel
theorem dX6_isGood_9 : decode cX6_isGood 9 = .ok (.iconst 0, 1) := by decide +kernel
theorem dX6_isGood_10 : decode cX6_isGood 10 = .ok (.istore 5, 2) := by decide +kernel
theorem dX6_isGood_12 : decode cX6_isGood 12 = .ok (.iload 5, 2) := by decide +kernel
theorem dX6_isGood_14 : decode cX6_isGood 14 = .ok (.aload_n 0, 1) := by decide +kernel
theorem dX6_isGood_15 : decode cX6_isGood 15 = .ok (.getfield 119, 3) := by decide +kernel
theorem dX6_isGood_18 : decode cX6_isGood 18 = .ok (.if_icmp .ge 114, 3) := by decide +kernel
theorem dX6_isGood_21 : decode cX6_isGood 21 = .ok (.aload_n 0, 1) := by decide +kernel
theorem dX6_isGood_22 : decode cX6_isGood 22 = .ok (.aload_n 0, 1) := by decide +kernel
theorem dX6_isGood_23 : decode cX6_isGood 23 = .ok (.getfield 48, 3) := by decide +kernel
theorem dX6_isGood_26 : decode cX6_isGood 26 = .ok (.iload 5, 2) := by decide +kernel
theorem dX6_isGood_28 : decode cX6_isGood 28 = .ok (.iaload, 1) := by decide +kernel
theorem dX6_isGood_29 : decode cX6_isGood 29 = .ok (.invokevirtual 93, 3) := by decide +kernel
theorem dX6_isGood_32 : decode cX6_isGood 32 = .ok (.i2l, 1) := by decide +kernel
theorem dX6_isGood_33 : decode cX6_isGood 33 = .ok (.lstore 6, 2) := by decide +kernel
theorem dX6_isGood_35 : decode cX6_isGood 35 = .ok (.aload_n 0, 1) := by decide +kernel
theorem dX6_isGood_36 : decode cX6_isGood 36 = .ok (.getfield 51, 3) := by decide +kernel
theorem dX6_isGood_39 : decode cX6_isGood 39 = .ok (.iload 5, 2) := by decide +kernel
theorem dX6_isGood_41 : decode cX6_isGood 41 = .ok (.laload, 1) := by decide +kernel
theorem dX6_isGood_42 : decode cX6_isGood 42 = .ok (.lconst 0, 1) := by decide +kernel
theorem dX6_isGood_43 : decode cX6_isGood 43 = .ok (.lcmp, 1) := by decide +kernel
theorem dX6_isGood_44 : decode cX6_isGood 44 = .ok (.ifCond .ne 21, 3) := by decide +kernel
theorem dX6_isGood_47 : decode cX6_isGood 47 = .ok (.iload_n 2, 1) := by decide +kernel
theorem dX6_isGood_48 : decode cX6_isGood 48 = .ok (.iload 4, 2) := by decide +kernel
theorem dX6_isGood_50 : decode cX6_isGood 50 = .ok (.ishr, 1) := by decide +kernel
theorem dX6_isGood_51 : decode cX6_isGood 51 = .ok (.iconst 1, 1) := by decide +kernel
theorem dX6_isGood_52 : decode cX6_isGood 52 = .ok (.iand, 1) := by decide +kernel
theorem dX6_isGood_53 : decode cX6_isGood 53 = .ok (.iconst 1, 1) := by decide +kernel
theorem dX6_isGood_54 : decode cX6_isGood 54 = .ok (.if_icmp .ne 7, 3) := by decide +kernel
theorem dX6_isGood_57 : decode cX6_isGood 57 = .ok (.iconst 1, 1) := by decide +kernel
theorem dX6_isGood_58 : decode cX6_isGood 58 = .ok (.goto 24, 3) := by decide +kernel
theorem dX6_isGood_61 : decode cX6_isGood 61 = .ok (.iconst 0, 1) := by decide +kernel
theorem dX6_isGood_62 : decode cX6_isGood 62 = .ok (.goto 20, 3) := by decide +kernel
theorem dX6_isGood_65 : decode cX6_isGood 65 = .ok (.aload_n 0, 1) := by decide +kernel
theorem dX6_isGood_66 : decode cX6_isGood 66 = .ok (.getfield 51, 3) := by decide +kernel
theorem dX6_isGood_69 : decode cX6_isGood 69 = .ok (.iload 5, 2) := by decide +kernel
theorem dX6_isGood_71 : decode cX6_isGood 71 = .ok (.laload, 1) := by decide +kernel
theorem dX6_isGood_72 : decode cX6_isGood 72 = .ok (.lconst 0, 1) := by decide +kernel
theorem dX6_isGood_73 : decode cX6_isGood 73 = .ok (.lcmp, 1) := by decide +kernel
theorem dX6_isGood_74 : decode cX6_isGood 74 = .ok (.ifCond .ge 7, 3) := by decide +kernel
theorem dX6_isGood_77 : decode cX6_isGood 77 = .ok (.iconst 1, 1) := by decide +kernel
theorem dX6_isGood_78 : decode cX6_isGood 78 = .ok (.goto 4, 3) := by decide +kernel
theorem dX6_isGood_81 : decode cX6_isGood 81 = .ok (.iconst 0, 1) := by decide +kernel
theorem dX6_isGood_82 : decode cX6_isGood 82 = .ok (.istore 8, 2) := by decide +kernel
theorem dX6_isGood_84 : decode cX6_isGood 84 = .ok (.iload 4, 2) := by decide +kernel
theorem dX6_isGood_86 : decode cX6_isGood 86 = .ok (.aload_n 0, 1) := by decide +kernel
theorem dX6_isGood_87 : decode cX6_isGood 87 = .ok (.getfield 51, 3) := by decide +kernel
theorem dX6_isGood_90 : decode cX6_isGood 90 = .ok (.iload 5, 2) := by decide +kernel
theorem dX6_isGood_92 : decode cX6_isGood 92 = .ok (.laload, 1) := by decide +kernel
theorem dX6_isGood_93 : decode cX6_isGood 93 = .ok (.lconst 0, 1) := by decide +kernel
theorem dX6_isGood_94 : decode cX6_isGood 94 = .ok (.lcmp, 1) := by decide +kernel
theorem dX6_isGood_95 : decode cX6_isGood 95 = .ok (.ifCond .ne 7, 3) := by decide +kernel
theorem dX6_isGood_98 : decode cX6_isGood 98 = .ok (.iconst 1, 1) := by decide +kernel
theorem dX6_isGood_99 : decode cX6_isGood 99 = .ok (.goto 4, 3) := by decide +kernel
theorem dX6_isGood_102 : decode cX6_isGood 102 = .ok (.iconst 0, 1) := by decide +kernel
theorem dX6_isGood_103 : decode cX6_isGood 103 = .ok (.iadd, 1) := by decide +kernel
theorem dX6_isGood_104 : decode cX6_isGood 104 = .ok (.istore 4, 2) := by decide +kernel
theorem dX6_isGood_106 : decode cX6_isGood 106 = .ok (.aload_n 0, 1) := by decide +kernel
theorem dX6_isGood_107 : decode cX6_isGood 107 = .ok (.getfield 45, 3) := by decide +kernel
theorem dX6_isGood_110 : decode cX6_isGood 110 = .ok (.iload 5, 2) := by decide +kernel
theorem dX6_isGood_112 : decode cX6_isGood 112 = .ok (.iload 8, 2) := by decide +kernel
theorem dX6_isGood_114 : decode cX6_isGood 114 = .ok (.ifCond .eq 9, 3) := by decide +kernel
theorem dX6_isGood_117 : decode cX6_isGood 117 = .ok (.lload 6, 2) := by decide +kernel
theorem dX6_isGood_119 : decode cX6_isGood 119 = .ok (.lneg, 1) := by decide +kernel
theorem dX6_isGood_120 : decode cX6_isGood 120 = .ok (.goto 5, 3) := by decide +kernel
theorem dX6_isGood_123 : decode cX6_isGood 123 = .ok (.lload 6, 2) := by decide +kernel
theorem dX6_isGood_125 : decode cX6_isGood 125 = .ok (.lastore, 1) := by decide +kernel
theorem dX6_isGood_126 : decode cX6_isGood 126 = .ok (.iinc 5 1, 3) := by decide +kernel
theorem dX6_isGood_129 : decode cX6_isGood 129 = .ok (.goto (-117), 3) := by decide +kernel
theorem dX6_isGood_132 : decode cX6_isGood 132 = .ok (.iconst 0, 1) := by decide +kernel
theorem dX6_isGood_133 : decode cX6_isGood 133 = .ok (.istore 5, 2) := by decide +kernel
theorem dX6_isGood_135 : decode cX6_isGood 135 = .ok (.iload 5, 2) := by decide +kernel
theorem dX6_isGood_137 : decode cX6_isGood 137 = .ok (.bipush 36, 2) := by decide +kernel
theorem dX6_isGood_139 : decode cX6_isGood 139 = .ok (.if_icmp .ge 17, 3) := by decide +kernel
theorem dX6_isGood_142 : decode cX6_isGood 142 = .ok (.aload_n 0, 1) := by decide +kernel
theorem dX6_isGood_143 : decode cX6_isGood 143 = .ok (.getfield 38, 3) := by decide +kernel
theorem dX6_isGood_146 : decode cX6_isGood 146 = .ok (.iload 5, 2) := by decide +kernel
theorem dX6_isGood_148 : decode cX6_isGood 148 = .ok (.lconst 0, 1) := by decide +kernel
theorem dX6_isGood_149 : decode cX6_isGood 149 = .ok (.lastore, 1) := by decide +kernel
theorem dX6_isGood_150 : decode cX6_isGood 150 = .ok (.iinc 5 1, 3) := by decide +kernel
theorem dX6_isGood_153 : decode cX6_isGood 153 = .ok (.goto (-18), 3) := by decide +kernel
theorem dX6_isGood_156 : decode cX6_isGood 156 = .ok (.iconst 0, 1) := by decide +kernel
theorem dX6_isGood_157 : decode cX6_isGood 157 = .ok (.istore 5, 2) := by decide +kernel
theorem dX6_isGood_159 : decode cX6_isGood 159 = .ok (.iload 5, 2) := by decide +kernel
theorem dX6_isGood_161 : decode cX6_isGood 161 = .ok (.aload_n 0, 1) := by decide +kernel
theorem dX6_isGood_162 : decode cX6_isGood 162 = .ok (.getfield 119, 3) := by decide +kernel
theorem dX6_isGood_165 : decode cX6_isGood 165 = .ok (.if_icmp .ge 177, 3) := by decide +kernel
theorem dX6_isGood_168 : decode cX6_isGood 168 = .ok (.aload_n 0, 1) := by decide +kernel
theorem dX6_isGood_169 : decode cX6_isGood 169 = .ok (.getfield 26, 3) := by decide +kernel
theorem dX6_isGood_172 : decode cX6_isGood 172 = .ok (.aload_n 0, 1) := by decide +kernel
theorem dX6_isGood_173 : decode cX6_isGood 173 = .ok (.getfield 48, 3) := by decide +kernel
theorem dX6_isGood_176 : decode cX6_isGood 176 = .ok (.iload 5, 2) := by decide +kernel
theorem dX6_isGood_178 : decode cX6_isGood 178 = .ok (.iaload, 1) := by decide +kernel
theorem dX6_isGood_179 : decode cX6_isGood 179 = .ok (.iaload, 1) := by decide +kernel
theorem dX6_isGood_180 : decode cX6_isGood 180 = .ok (.istore 6, 2) := by decide +kernel
theorem dX6_isGood_182 : decode cX6_isGood 182 = .ok (.aload_n 0, 1) := by decide +kernel
theorem dX6_isGood_183 : decode cX6_isGood 183 = .ok (.getfield 29, 3) := by decide +kernel
theorem dX6_isGood_186 : decode cX6_isGood 186 = .ok (.aload_n 0, 1) := by decide +kernel
theorem dX6_isGood_187 : decode cX6_isGood 187 = .ok (.getfield 48, 3) := by decide +kernel
theorem dX6_isGood_190 : decode cX6_isGood 190 = .ok (.iload 5, 2) := by decide +kernel
theorem dX6_isGood_192 : decode cX6_isGood 192 = .ok (.iaload, 1) := by decide +kernel
theorem dX6_isGood_193 : decode cX6_isGood 193 = .ok (.iaload, 1) := by decide +kernel
theorem dX6_isGood_194 : decode cX6_isGood 194 = .ok (.istore 7, 2) := by decide +kernel
theorem dX6_isGood_196 : decode cX6_isGood 196 = .ok (.aload_n 0, 1) := by decide +kernel
theorem dX6_isGood_197 : decode cX6_isGood 197 = .ok (.getfield 35, 3) := by decide +kernel
theorem dX6_isGood_200 : decode cX6_isGood 200 = .ok (.iload 6, 2) := by decide +kernel
theorem dX6_isGood_202 : decode cX6_isGood 202 = .ok (.iaload, 1) := by decide +kernel
theorem dX6_isGood_203 : decode cX6_isGood 203 = .ok (.ifCond .lt 63, 3) := by decide +kernel
theorem dX6_isGood_206 : decode cX6_isGood 206 = .ok (.aload_n 0, 1) := by decide +kernel
theorem dX6_isGood_207 : decode cX6_isGood 207 = .ok (.iload 5, 2) := by decide +kernel
theorem dX6_isGood_209 : decode cX6_isGood 209 = .ok (.aload_n 0, 1) := by decide +kernel
theorem dX6_isGood_210 : decode cX6_isGood 210 = .ok (.getfield 35, 3) := by decide +kernel
theorem dX6_isGood_213 : decode cX6_isGood 213 = .ok (.iload 6, 2) := by decide +kernel
theorem dX6_isGood_215 : decode cX6_isGood 215 = .ok (.iaload, 1) := by decide +kernel
theorem dX6_isGood_216 : decode cX6_isGood 216 = .ok (.aload_n 0, 1) := by decide +kernel
theorem dX6_isGood_217 : decode cX6_isGood 217 = .ok (.getfield 7, 3) := by decide +kernel
theorem dX6_isGood_220 : decode cX6_isGood 220 = .ok (.iload 6, 2) := by decide +kernel
theorem dX6_isGood_222 : decode cX6_isGood 222 = .ok (.iaload, 1) := by decide +kernel
theorem dX6_isGood_223 : decode cX6_isGood 223 = .ok (.aload_n 0, 1) := by decide +kernel
theorem dX6_isGood_224 : decode cX6_isGood 224 = .ok (.getfield 7, 3) := by decide +kernel
theorem dX6_isGood_227 : decode cX6_isGood 227 = .ok (.iload 7, 2) := by decide +kernel
theorem dX6_isGood_229 : decode cX6_isGood 229 = .ok (.iaload, 1) := by decide +kernel
theorem dX6_isGood_230 : decode cX6_isGood 230 = .ok (.isub, 1) := by decide +kernel
theorem dX6_isGood_231 : decode cX6_isGood 231 = .ok (.i2l, 1) := by decide +kernel
theorem dX6_isGood_232 : decode cX6_isGood 232 = .ok (.invokevirtual 122, 3) := by decide +kernel
theorem dX6_isGood_235 : decode cX6_isGood 235 = .ok (.aload_n 0, 1) := by decide +kernel
theorem dX6_isGood_236 : decode cX6_isGood 236 = .ok (.iload 5, 2) := by decide +kernel
theorem dX6_isGood_238 : decode cX6_isGood 238 = .ok (.aload_n 0, 1) := by decide +kernel
theorem dX6_isGood_239 : decode cX6_isGood 239 = .ok (.getfield 35, 3) := by decide +kernel
theorem dX6_isGood_242 : decode cX6_isGood 242 = .ok (.iload 6, 2) := by decide +kernel
theorem dX6_isGood_244 : decode cX6_isGood 244 = .ok (.iaload, 1) := by decide +kernel
theorem dX6_isGood_245 : decode cX6_isGood 245 = .ok (.iconst 1, 1) := by decide +kernel
theorem dX6_isGood_246 : decode cX6_isGood 246 = .ok (.iadd, 1) := by decide +kernel
theorem dX6_isGood_247 : decode cX6_isGood 247 = .ok (.aload_n 0, 1) := by decide +kernel
theorem dX6_isGood_248 : decode cX6_isGood 248 = .ok (.getfield 13, 3) := by decide +kernel
theorem dX6_isGood_251 : decode cX6_isGood 251 = .ok (.iload 6, 2) := by decide +kernel
theorem dX6_isGood_253 : decode cX6_isGood 253 = .ok (.iaload, 1) := by decide +kernel
theorem dX6_isGood_254 : decode cX6_isGood 254 = .ok (.aload_n 0, 1) := by decide +kernel
theorem dX6_isGood_255 : decode cX6_isGood 255 = .ok (.getfield 13, 3) := by decide +kernel
theorem dX6_isGood_258 : decode cX6_isGood 258 = .ok (.iload 7, 2) := by decide +kernel
theorem dX6_isGood_260 : decode cX6_isGood 260 = .ok (.iaload, 1) := by decide +kernel
theorem dX6_isGood_261 : decode cX6_isGood 261 = .ok (.isub, 1) := by decide +kernel
theorem dX6_isGood_262 : decode cX6_isGood 262 = .ok (.i2l, 1) := by decide +kernel
theorem dX6_isGood_263 : decode cX6_isGood 263 = .ok (.invokevirtual 122, 3) := by decide +kernel
theorem dX6_isGood_266 : decode cX6_isGood 266 = .ok (.aload_n 0, 1) := by decide +kernel
theorem dX6_isGood_267 : decode cX6_isGood 267 = .ok (.getfield 35, 3) := by decide +kernel
theorem dX6_isGood_270 : decode cX6_isGood 270 = .ok (.iload 7, 2) := by decide +kernel
theorem dX6_isGood_272 : decode cX6_isGood 272 = .ok (.iaload, 1) := by decide +kernel
theorem dX6_isGood_273 : decode cX6_isGood 273 = .ok (.ifCond .lt 63, 3) := by decide +kernel
theorem dX6_isGood_276 : decode cX6_isGood 276 = .ok (.aload_n 0, 1) := by decide +kernel
theorem dX6_isGood_277 : decode cX6_isGood 277 = .ok (.iload 5, 2) := by decide +kernel
theorem dX6_isGood_279 : decode cX6_isGood 279 = .ok (.aload_n 0, 1) := by decide +kernel
theorem dX6_isGood_280 : decode cX6_isGood 280 = .ok (.getfield 35, 3) := by decide +kernel
theorem dX6_isGood_283 : decode cX6_isGood 283 = .ok (.iload 7, 2) := by decide +kernel
theorem dX6_isGood_285 : decode cX6_isGood 285 = .ok (.iaload, 1) := by decide +kernel
theorem dX6_isGood_286 : decode cX6_isGood 286 = .ok (.aload_n 0, 1) := by decide +kernel
theorem dX6_isGood_287 : decode cX6_isGood 287 = .ok (.getfield 7, 3) := by decide +kernel
theorem dX6_isGood_290 : decode cX6_isGood 290 = .ok (.iload 7, 2) := by decide +kernel
theorem dX6_isGood_292 : decode cX6_isGood 292 = .ok (.iaload, 1) := by decide +kernel
theorem dX6_isGood_293 : decode cX6_isGood 293 = .ok (.aload_n 0, 1) := by decide +kernel
theorem dX6_isGood_294 : decode cX6_isGood 294 = .ok (.getfield 7, 3) := by decide +kernel
theorem dX6_isGood_297 : decode cX6_isGood 297 = .ok (.iload 6, 2) := by decide +kernel
theorem dX6_isGood_299 : decode cX6_isGood 299 = .ok (.iaload, 1) := by decide +kernel
theorem dX6_isGood_300 : decode cX6_isGood 300 = .ok (.isub, 1) := by decide +kernel
theorem dX6_isGood_301 : decode cX6_isGood 301 = .ok (.i2l, 1) := by decide +kernel
theorem dX6_isGood_302 : decode cX6_isGood 302 = .ok (.invokevirtual 122, 3) := by decide +kernel
theorem dX6_isGood_305 : decode cX6_isGood 305 = .ok (.aload_n 0, 1) := by decide +kernel
theorem dX6_isGood_306 : decode cX6_isGood 306 = .ok (.iload 5, 2) := by decide +kernel
theorem dX6_isGood_308 : decode cX6_isGood 308 = .ok (.aload_n 0, 1) := by decide +kernel
theorem dX6_isGood_309 : decode cX6_isGood 309 = .ok (.getfield 35, 3) := by decide +kernel
theorem dX6_isGood_312 : decode cX6_isGood 312 = .ok (.iload 7, 2) := by decide +kernel
theorem dX6_isGood_314 : decode cX6_isGood 314 = .ok (.iaload, 1) := by decide +kernel
theorem dX6_isGood_315 : decode cX6_isGood 315 = .ok (.iconst 1, 1) := by decide +kernel
theorem dX6_isGood_316 : decode cX6_isGood 316 = .ok (.iadd, 1) := by decide +kernel
theorem dX6_isGood_317 : decode cX6_isGood 317 = .ok (.aload_n 0, 1) := by decide +kernel
theorem dX6_isGood_318 : decode cX6_isGood 318 = .ok (.getfield 13, 3) := by decide +kernel
theorem dX6_isGood_321 : decode cX6_isGood 321 = .ok (.iload 7, 2) := by decide +kernel
theorem dX6_isGood_323 : decode cX6_isGood 323 = .ok (.iaload, 1) := by decide +kernel
theorem dX6_isGood_324 : decode cX6_isGood 324 = .ok (.aload_n 0, 1) := by decide +kernel
theorem dX6_isGood_325 : decode cX6_isGood 325 = .ok (.getfield 13, 3) := by decide +kernel
theorem dX6_isGood_328 : decode cX6_isGood 328 = .ok (.iload 6, 2) := by decide +kernel
theorem dX6_isGood_330 : decode cX6_isGood 330 = .ok (.iaload, 1) := by decide +kernel
theorem dX6_isGood_331 : decode cX6_isGood 331 = .ok (.isub, 1) := by decide +kernel
theorem dX6_isGood_332 : decode cX6_isGood 332 = .ok (.i2l, 1) := by decide +kernel
theorem dX6_isGood_333 : decode cX6_isGood 333 = .ok (.invokevirtual 122, 3) := by decide +kernel
theorem dX6_isGood_336 : decode cX6_isGood 336 = .ok (.iinc 5 1, 3) := by decide +kernel
theorem dX6_isGood_339 : decode cX6_isGood 339 = .ok (.goto (-180), 3) := by decide +kernel
theorem dX6_isGood_342 : decode cX6_isGood 342 = .ok (.aload_n 0, 1) := by decide +kernel
theorem dX6_isGood_343 : decode cX6_isGood 343 = .ok (.iconst (-1), 1) := by decide +kernel
theorem dX6_isGood_344 : decode cX6_isGood 344 = .ok (.invokevirtual 132, 3) := by decide +kernel
theorem dX6_isGood_347 : decode cX6_isGood 347 = .ok (.lstore 5, 2) := by decide +kernel
theorem dX6_isGood_349 : decode cX6_isGood 349 = .ok (.iconst 0, 1) := by decide +kernel
theorem dX6_isGood_350 : decode cX6_isGood 350 = .ok (.istore 7, 2) := by decide +kernel
theorem dX6_isGood_352 : decode cX6_isGood 352 = .ok (.iload 7, 2) := by decide +kernel
theorem dX6_isGood_354 : decode cX6_isGood 354 = .ok (.aload_n 0, 1) := by decide +kernel
theorem dX6_isGood_355 : decode cX6_isGood 355 = .ok (.getfield 119, 3) := by decide +kernel
theorem dX6_isGood_358 : decode cX6_isGood 358 = .ok (.if_icmp .ge 39, 3) := by decide +kernel
theorem dX6_isGood_361 : decode cX6_isGood 361 = .ok (.aload_n 0, 1) := by decide +kernel
theorem dX6_isGood_362 : decode cX6_isGood 362 = .ok (.iload 7, 2) := by decide +kernel
theorem dX6_isGood_364 : decode cX6_isGood 364 = .ok (.invokevirtual 132, 3) := by decide +kernel
theorem dX6_isGood_367 : decode cX6_isGood 367 = .ok (.lstore 8, 2) := by decide +kernel
theorem dX6_isGood_369 : decode cX6_isGood 369 = .ok (.aload_n 0, 1) := by decide +kernel
theorem dX6_isGood_370 : decode cX6_isGood 370 = .ok (.getfield 54, 3) := by decide +kernel
theorem dX6_isGood_373 : decode cX6_isGood 373 = .ok (.iload 7, 2) := by decide +kernel
theorem dX6_isGood_375 : decode cX6_isGood 375 = .ok (.lload 5, 2) := by decide +kernel
theorem dX6_isGood_377 : decode cX6_isGood 377 = .ok (.lconst 0, 1) := by decide +kernel
theorem dX6_isGood_378 : decode cX6_isGood 378 = .ok (.lcmp, 1) := by decide +kernel
theorem dX6_isGood_379 : decode cX6_isGood 379 = .ok (.ifCond .ge 9, 3) := by decide +kernel
theorem dX6_isGood_382 : decode cX6_isGood 382 = .ok (.lload 8, 2) := by decide +kernel
theorem dX6_isGood_384 : decode cX6_isGood 384 = .ok (.lneg, 1) := by decide +kernel
theorem dX6_isGood_385 : decode cX6_isGood 385 = .ok (.goto 5, 3) := by decide +kernel
theorem dX6_isGood_388 : decode cX6_isGood 388 = .ok (.lload 8, 2) := by decide +kernel
theorem dX6_isGood_390 : decode cX6_isGood 390 = .ok (.lastore, 1) := by decide +kernel
theorem dX6_isGood_391 : decode cX6_isGood 391 = .ok (.iinc 7 1, 3) := by decide +kernel
theorem dX6_isGood_394 : decode cX6_isGood 394 = .ok (.goto (-42), 3) := by decide +kernel
theorem dX6_isGood_397 : decode cX6_isGood 397 = .ok (.aload_n 0, 1) := by decide +kernel
theorem dX6_isGood_398 : decode cX6_isGood 398 = .ok (.lload 5, 2) := by decide +kernel
theorem dX6_isGood_400 : decode cX6_isGood 400 = .ok (.invokestatic 140, 3) := by decide +kernel
theorem dX6_isGood_403 : decode cX6_isGood 403 = .ok (.putfield 201, 3) := by decide +kernel
theorem dX6_isGood_406 : decode cX6_isGood 406 = .ok (.iconst 0, 1) := by decide +kernel
theorem dX6_isGood_407 : decode cX6_isGood 407 = .ok (.istore 7, 2) := by decide +kernel
theorem dX6_isGood_409 : decode cX6_isGood 409 = .ok (.iload 7, 2) := by decide +kernel
theorem dX6_isGood_411 : decode cX6_isGood 411 = .ok (.aload_n 0, 1) := by decide +kernel
theorem dX6_isGood_412 : decode cX6_isGood 412 = .ok (.getfield 65, 3) := by decide +kernel
theorem dX6_isGood_415 : decode cX6_isGood 415 = .ok (.if_icmp .ge 44, 3) := by decide +kernel
theorem dX6_isGood_418 : decode cX6_isGood 418 = .ok (.iload_n 3, 1) := by decide +kernel
theorem dX6_isGood_419 : decode cX6_isGood 419 = .ok (.ifCond .eq 40, 3) := by decide +kernel
theorem dX6_isGood_422 : decode cX6_isGood 422 = .ok (.aload_n 0, 1) := by decide +kernel
theorem dX6_isGood_423 : decode cX6_isGood 423 = .ok (.iload 7, 2) := by decide +kernel
theorem dX6_isGood_425 : decode cX6_isGood 425 = .ok (.invokevirtual 204, 3) := by decide +kernel
theorem dX6_isGood_428 : decode cX6_isGood 428 = .ok (.invokestatic 140, 3) := by decide +kernel
theorem dX6_isGood_431 : decode cX6_isGood 431 = .ok (.aload_n 0, 1) := by decide +kernel
theorem dX6_isGood_432 : decode cX6_isGood 432 = .ok (.iload 7, 2) := by decide +kernel
theorem dX6_isGood_434 : decode cX6_isGood 434 = .ok (.invokevirtual 93, 3) := by decide +kernel
theorem dX6_isGood_437 : decode cX6_isGood 437 = .ok (.i2l, 1) := by decide +kernel
theorem dX6_isGood_438 : decode cX6_isGood 438 = .ok (.aload_n 0, 1) := by decide +kernel
theorem dX6_isGood_439 : decode cX6_isGood 439 = .ok (.getfield 201, 3) := by decide +kernel
theorem dX6_isGood_442 : decode cX6_isGood 442 = .ok (.lmul, 1) := by decide +kernel
theorem dX6_isGood_443 : decode cX6_isGood 443 = .ok (.lcmp, 1) := by decide +kernel
theorem dX6_isGood_444 : decode cX6_isGood 444 = .ok (.ifCond .gt 7, 3) := by decide +kernel
theorem dX6_isGood_447 : decode cX6_isGood 447 = .ok (.iconst 1, 1) := by decide +kernel
theorem dX6_isGood_448 : decode cX6_isGood 448 = .ok (.goto 4, 3) := by decide +kernel
theorem dX6_isGood_451 : decode cX6_isGood 451 = .ok (.iconst 0, 1) := by decide +kernel
theorem dX6_isGood_452 : decode cX6_isGood 452 = .ok (.istore_n 3, 1) := by decide +kernel
theorem dX6_isGood_453 : decode cX6_isGood 453 = .ok (.iinc 7 1, 3) := by decide +kernel
theorem dX6_isGood_456 : decode cX6_isGood 456 = .ok (.goto (-47), 3) := by decide +kernel
theorem dX6_isGood_459 : decode cX6_isGood 459 = .ok (.iload_n 3, 1) := by decide +kernel
theorem dX6_isGood_460 : decode cX6_isGood 460 = .ok (.ireturn, 1) := by decide +kernel
theorem dX6_unused_0 : decode cX6_unused 0 = .ok (.iconst 0, 1) := by decide +kernel
theorem dX6_unused_1 : decode cX6_unused 1 = .ok (.istore_n 1, 1) := by decide +kernel
theorem dX6_unused_2 : decode cX6_unused 2 = .ok (.iconst 0, 1) := by decide +kernel
theorem dX6_unused_3 : decode cX6_unused 3 = .ok (.istore_n 2, 1) := by decide +kernel
theorem dX6_unused_4 : decode cX6_unused 4 = .ok (.iload_n 2, 1) := by decide +kernel
theorem dX6_unused_5 : decode cX6_unused 5 = .ok (.aload_n 0, 1) := by decide +kernel
theorem dX6_unused_6 : decode cX6_unused 6 = .ok (.getfield 119, 3) := by decide +kernel
theorem dX6_unused_9 : decode cX6_unused 9 = .ok (.if_icmp .ge 28, 3) := by decide +kernel
theorem dX6_unused_12 : decode cX6_unused 12 = .ok (.iload_n 1, 1) := by decide +kernel
theorem dX6_unused_13 : decode cX6_unused 13 = .ok (.aload_n 0, 1) := by decide +kernel
theorem dX6_unused_14 : decode cX6_unused 14 = .ok (.getfield 51, 3) := by decide +kernel
theorem dX6_unused_17 : decode cX6_unused 17 = .ok (.iload_n 2, 1) := by decide +kernel
theorem dX6_unused_18 : decode cX6_unused 18 = .ok (.laload, 1) := by decide +kernel
theorem dX6_unused_19 : decode cX6_unused 19 = .ok (.lconst 0, 1) := by decide +kernel
theorem dX6_unused_20 : decode cX6_unused 20 = .ok (.lcmp, 1) := by decide +kernel
theorem dX6_unused_21 : decode cX6_unused 21 = .ok (.ifCond .ne 7, 3) := by decide +kernel
theorem dX6_unused_24 : decode cX6_unused 24 = .ok (.iconst 1, 1) := by decide +kernel
theorem dX6_unused_25 : decode cX6_unused 25 = .ok (.goto 4, 3) := by decide +kernel
theorem dX6_unused_28 : decode cX6_unused 28 = .ok (.iconst 0, 1) := by decide +kernel
theorem dX6_unused_29 : decode cX6_unused 29 = .ok (.iadd, 1) := by decide +kernel
theorem dX6_unused_30 : decode cX6_unused 30 = .ok (.istore_n 1, 1) := by decide +kernel
theorem dX6_unused_31 : decode cX6_unused 31 = .ok (.iinc 2 1, 3) := by decide +kernel
theorem dX6_unused_34 : decode cX6_unused 34 = .ok (.goto (-30), 3) := by decide +kernel
theorem dX6_unused_37 : decode cX6_unused 37 = .ok (.iload_n 1, 1) := by decide +kernel
theorem dX6_unused_38 : decode cX6_unused 38 = .ok (.ireturn, 1) := by decide +kernel
theorem dX6_prove_0 : decode cX6_prove 0 = .ok (.aload_n 0, 1) := by decide +kernel
theorem dX6_prove_1 : decode cX6_prove 1 = .ok (.iconst 0, 1) := by decide +kernel
theorem dX6_prove_2 : decode cX6_prove 2 = .ok (.putfield 78, 3) := by decide +kernel
theorem dX6_prove_5 : decode cX6_prove 5 = .ok (.aload_n 0, 1) := by decide +kernel
theorem dX6_prove_6 : decode cX6_prove 6 = .ok (.iconst 0, 1) := by decide +kernel
theorem dX6_prove_7 : decode cX6_prove 7 = .ok (.invokevirtual 179, 3) := by decide +kernel
theorem dX6_prove_10 : decode cX6_prove 10 = .ok (.ifCond .ge 6, 3) := by decide +kernel
theorem dX6_prove_13 : decode cX6_prove 13 = .ok (.bipush (-6), 2) := by decide +kernel
theorem dX6_prove_15 : decode cX6_prove 15 = .ok (.ireturn, 1) := by decide +kernel
theorem dX6_prove_16 : decode cX6_prove 16 = .ok (.aload_n 0, 1) := by decide +kernel
theorem dX6_prove_17 : decode cX6_prove 17 = .ok (.iconst (-1), 1) := by decide +kernel
theorem dX6_prove_18 : decode cX6_prove 18 = .ok (.invokevirtual 207, 3) := by decide +kernel
theorem dX6_prove_21 : decode cX6_prove 21 = .ok (.istore_n 1, 1) := by decide +kernel
theorem dX6_prove_22 : decode cX6_prove 22 = .ok (.iload_n 1, 1) := by decide +kernel
theorem dX6_prove_23 : decode cX6_prove 23 = .ok (.ifCond .lt 79, 3) := by decide +kernel
theorem dX6_prove_26 : decode cX6_prove 26 = .ok (.aload_n 0, 1) := by decide +kernel
theorem dX6_prove_27 : decode cX6_prove 27 = .ok (.iload_n 1, 1) := by decide +kernel
theorem dX6_prove_28 : decode cX6_prove 28 = .ok (.invokevirtual 153, 3) := by decide +kernel
theorem dX6_prove_31 : decode cX6_prove 31 = .ok (.ifCond .eq 62, 3) := by decide +kernel
theorem dX6_prove_34 : decode cX6_prove 34 = .ok (.aload_n 0, 1) := by decide +kernel
theorem dX6_prove_35 : decode cX6_prove 35 = .ok (.iconst 0, 1) := by decide +kernel
theorem dX6_prove_36 : decode cX6_prove 36 = .ok (.invokevirtual 165, 3) := by decide +kernel
theorem dX6_prove_39 : decode cX6_prove 39 = .ok (.aload_n 0, 1) := by decide +kernel
theorem dX6_prove_40 : decode cX6_prove 40 = .ok (.getfield 168, 3) := by decide +kernel
theorem dX6_prove_43 : decode cX6_prove 43 = .ok (.lmul, 1) := by decide +kernel
theorem dX6_prove_44 : decode cX6_prove 44 = .ok (.aload_n 0, 1) := by decide +kernel
theorem dX6_prove_45 : decode cX6_prove 45 = .ok (.getfield 171, 3) := by decide +kernel
theorem dX6_prove_48 : decode cX6_prove 48 = .ok (.aload_n 0, 1) := by decide +kernel
theorem dX6_prove_49 : decode cX6_prove 49 = .ok (.getfield 136, 3) := by decide +kernel
theorem dX6_prove_52 : decode cX6_prove 52 = .ok (.lmul, 1) := by decide +kernel
theorem dX6_prove_53 : decode cX6_prove 53 = .ok (.lcmp, 1) := by decide +kernel
theorem dX6_prove_54 : decode cX6_prove 54 = .ok (.ifCond .ne 39, 3) := by decide +kernel
theorem dX6_prove_57 : decode cX6_prove 57 = .ok (.iconst 1, 1) := by decide +kernel
theorem dX6_prove_58 : decode cX6_prove 58 = .ok (.aload_n 0, 1) := by decide +kernel
theorem dX6_prove_59 : decode cX6_prove 59 = .ok (.invokevirtual 210, 3) := by decide +kernel
theorem dX6_prove_62 : decode cX6_prove 62 = .ok (.ishl, 1) := by decide +kernel
theorem dX6_prove_63 : decode cX6_prove 63 = .ok (.istore_n 2, 1) := by decide +kernel
theorem dX6_prove_64 : decode cX6_prove 64 = .ok (.iconst 0, 1) := by decide +kernel
theorem dX6_prove_65 : decode cX6_prove 65 = .ok (.istore_n 3, 1) := by decide +kernel
theorem dX6_prove_66 : decode cX6_prove 66 = .ok (.iload_n 3, 1) := by decide +kernel
theorem dX6_prove_67 : decode cX6_prove 67 = .ok (.iload_n 2, 1) := by decide +kernel
theorem dX6_prove_68 : decode cX6_prove 68 = .ok (.if_icmp .ge 25, 3) := by decide +kernel
theorem dX6_prove_71 : decode cX6_prove 71 = .ok (.aload_n 0, 1) := by decide +kernel
theorem dX6_prove_72 : decode cX6_prove 72 = .ok (.iload_n 1, 1) := by decide +kernel
theorem dX6_prove_73 : decode cX6_prove 73 = .ok (.iload_n 3, 1) := by decide +kernel
theorem dX6_prove_74 : decode cX6_prove 74 = .ok (.invokevirtual 213, 3) := by decide +kernel
theorem dX6_prove_77 : decode cX6_prove 77 = .ok (.ifCond .eq 10, 3) := by decide +kernel
theorem dX6_prove_80 : decode cX6_prove 80 = .ok (.aload_n 0, 1) := by decide +kernel
theorem dX6_prove_81 : decode cX6_prove 81 = .ok (.iconst 1, 1) := by decide +kernel
theorem dX6_prove_82 : decode cX6_prove 82 = .ok (.putfield 78, 3) := by decide +kernel
theorem dX6_prove_85 : decode cX6_prove 85 = .ok (.iload_n 1, 1) := by decide +kernel
theorem dX6_prove_86 : decode cX6_prove 86 = .ok (.ireturn, 1) := by decide +kernel
theorem dX6_prove_87 : decode cX6_prove 87 = .ok (.iinc 3 1, 3) := by decide +kernel
theorem dX6_prove_90 : decode cX6_prove 90 = .ok (.goto (-24), 3) := by decide +kernel
theorem dX6_prove_93 : decode cX6_prove 93 = .ok (.aload_n 0, 1) := by decide +kernel
theorem dX6_prove_94 : decode cX6_prove 94 = .ok (.iload_n 1, 1) := by decide +kernel
theorem dX6_prove_95 : decode cX6_prove 95 = .ok (.invokevirtual 207, 3) := by decide +kernel
theorem dX6_prove_98 : decode cX6_prove 98 = .ok (.istore_n 1, 1) := by decide +kernel
theorem dX6_prove_99 : decode cX6_prove 99 = .ok (.goto (-77), 3) := by decide +kernel
theorem dX6_prove_102 : decode cX6_prove 102 = .ok (.bipush (-6), 2) := by decide +kernel
theorem dX6_prove_104 : decode cX6_prove 104 = .ok (.ireturn, 1) := by decide +kernel
theorem dX6_field_0 : decode cX6_field 0 = .ok (.aload_n 0, 1) := by decide +kernel
theorem dX6_field_1 : decode cX6_field 1 = .ok (.getfield 78, 3) := by decide +kernel
theorem dX6_field_4 : decode cX6_field 4 = .ok (.ifCond .ne 7, 3) := by decide +kernel
theorem dX6_field_7 : decode cX6_field 7 = .ok (.ldc2_w 216, 3) := by decide +kernel
theorem dX6_field_10 : decode cX6_field 10 = .ok (.lreturn, 1) := by decide +kernel
theorem dX6_field_11 : decode cX6_field 11 = .ok (.aload_n 0, 1) := by decide +kernel
theorem dX6_field_12 : decode cX6_field 12 = .ok (.iload_n 1, 1) := by decide +kernel
theorem dX6_field_13 : decode cX6_field 13 = .ok (.invokevirtual 82, 3) := by decide +kernel
theorem dX6_field_16 : decode cX6_field 16 = .ok (.ifCond .ne 7, 3) := by decide +kernel
theorem dX6_field_19 : decode cX6_field 19 = .ok (.ldc2_w 193, 3) := by decide +kernel
theorem dX6_field_22 : decode cX6_field 22 = .ok (.lreturn, 1) := by decide +kernel
theorem dX6_field_23 : decode cX6_field 23 = .ok (.iload_n 2, 1) := by decide +kernel
theorem dX6_field_24 : decode cX6_field 24 = .ok (.invokestatic 182, 3) := by decide +kernel
theorem dX6_field_27 : decode cX6_field 27 = .ok (.ifCond .eq 10, 3) := by decide +kernel
theorem dX6_field_30 : decode cX6_field 30 = .ok (.iload_n 3, 1) := by decide +kernel
theorem dX6_field_31 : decode cX6_field 31 = .ok (.invokestatic 182, 3) := by decide +kernel
theorem dX6_field_34 : decode cX6_field 34 = .ok (.ifCond .ne 7, 3) := by decide +kernel
theorem dX6_field_37 : decode cX6_field 37 = .ok (.ldc2_w 185, 3) := by decide +kernel
theorem dX6_field_40 : decode cX6_field 40 = .ok (.lreturn, 1) := by decide +kernel
theorem dX6_field_41 : decode cX6_field 41 = .ok (.aload_n 0, 1) := by decide +kernel
theorem dX6_field_42 : decode cX6_field 42 = .ok (.getfield 16, 3) := by decide +kernel
theorem dX6_field_45 : decode cX6_field 45 = .ok (.iload_n 1, 1) := by decide +kernel
theorem dX6_field_46 : decode cX6_field 46 = .ok (.baload, 1) := by decide +kernel
theorem dX6_field_47 : decode cX6_field 47 = .ok (.ifCond .eq 12, 3) := by decide +kernel
theorem dX6_field_50 : decode cX6_field 50 = .ok (.lconst 0, 1) := by decide +kernel
theorem dX6_field_51 : decode cX6_field 51 = .ok (.lconst 1, 1) := by decide +kernel
theorem dX6_field_52 : decode cX6_field 52 = .ok (.iload_n 3, 1) := by decide +kernel
theorem dX6_field_53 : decode cX6_field 53 = .ok (.invokestatic 189, 3) := by decide +kernel
theorem dX6_field_56 : decode cX6_field 56 = .ok (.goto 24, 3) := by decide +kernel
theorem dX6_field_59 : decode cX6_field 59 = .ok (.aload_n 0, 1) := by decide +kernel
theorem dX6_field_60 : decode cX6_field 60 = .ok (.getfield 54, 3) := by decide +kernel
theorem dX6_field_63 : decode cX6_field 63 = .ok (.aload_n 0, 1) := by decide +kernel
theorem dX6_field_64 : decode cX6_field 64 = .ok (.getfield 35, 3) := by decide +kernel
theorem dX6_field_67 : decode cX6_field 67 = .ok (.iload_n 1, 1) := by decide +kernel
theorem dX6_field_68 : decode cX6_field 68 = .ok (.iaload, 1) := by decide +kernel
theorem dX6_field_69 : decode cX6_field 69 = .ok (.iload_n 2, 1) := by decide +kernel
theorem dX6_field_70 : decode cX6_field 70 = .ok (.iadd, 1) := by decide +kernel
theorem dX6_field_71 : decode cX6_field 71 = .ok (.laload, 1) := by decide +kernel
theorem dX6_field_72 : decode cX6_field 72 = .ok (.aload_n 0, 1) := by decide +kernel
theorem dX6_field_73 : decode cX6_field 73 = .ok (.getfield 201, 3) := by decide +kernel
theorem dX6_field_76 : decode cX6_field 76 = .ok (.iload_n 3, 1) := by decide +kernel
theorem dX6_field_77 : decode cX6_field 77 = .ok (.invokestatic 189, 3) := by decide +kernel
theorem dX6_field_80 : decode cX6_field 80 = .ok (.lreturn, 1) := by decide +kernel
theorem dX6_slack_0 : decode cX6_slack 0 = .ok (.aload_n 0, 1) := by decide +kernel
theorem dX6_slack_1 : decode cX6_slack 1 = .ok (.getfield 78, 3) := by decide +kernel
theorem dX6_slack_4 : decode cX6_slack 4 = .ok (.ifCond .ne 7, 3) := by decide +kernel
theorem dX6_slack_7 : decode cX6_slack 7 = .ok (.ldc2_w 216, 3) := by decide +kernel
theorem dX6_slack_10 : decode cX6_slack 10 = .ok (.lreturn, 1) := by decide +kernel
theorem dX6_slack_11 : decode cX6_slack 11 = .ok (.aload_n 0, 1) := by decide +kernel
theorem dX6_slack_12 : decode cX6_slack 12 = .ok (.iload_n 1, 1) := by decide +kernel
theorem dX6_slack_13 : decode cX6_slack 13 = .ok (.invokevirtual 90, 3) := by decide +kernel
theorem dX6_slack_16 : decode cX6_slack 16 = .ok (.ifCond .ne 7, 3) := by decide +kernel
theorem dX6_slack_19 : decode cX6_slack 19 = .ok (.ldc2_w 193, 3) := by decide +kernel
theorem dX6_slack_22 : decode cX6_slack 22 = .ok (.lreturn, 1) := by decide +kernel
theorem dX6_slack_23 : decode cX6_slack 23 = .ok (.iload_n 2, 1) := by decide +kernel
theorem dX6_slack_24 : decode cX6_slack 24 = .ok (.invokestatic 182, 3) := by decide +kernel
theorem dX6_slack_27 : decode cX6_slack 27 = .ok (.ifCond .ne 7, 3) := by decide +kernel
theorem dX6_slack_30 : decode cX6_slack 30 = .ok (.ldc2_w 185, 3) := by decide +kernel
theorem dX6_slack_33 : decode cX6_slack 33 = .ok (.lreturn, 1) := by decide +kernel
theorem dX6_slack_34 : decode cX6_slack 34 = .ok (.aload_n 0, 1) := by decide +kernel
theorem dX6_slack_35 : decode cX6_slack 35 = .ok (.iload_n 1, 1) := by decide +kernel
theorem dX6_slack_36 : decode cX6_slack 36 = .ok (.invokevirtual 93, 3) := by decide +kernel
theorem dX6_slack_39 : decode cX6_slack 39 = .ok (.i2l, 1) := by decide +kernel
theorem dX6_slack_40 : decode cX6_slack 40 = .ok (.aload_n 0, 1) := by decide +kernel
theorem dX6_slack_41 : decode cX6_slack 41 = .ok (.getfield 201, 3) := by decide +kernel
theorem dX6_slack_44 : decode cX6_slack 44 = .ok (.lmul, 1) := by decide +kernel
theorem dX6_slack_45 : decode cX6_slack 45 = .ok (.aload_n 0, 1) := by decide +kernel
theorem dX6_slack_46 : decode cX6_slack 46 = .ok (.iload_n 1, 1) := by decide +kernel
theorem dX6_slack_47 : decode cX6_slack 47 = .ok (.invokevirtual 204, 3) := by decide +kernel
theorem dX6_slack_50 : decode cX6_slack 50 = .ok (.invokestatic 140, 3) := by decide +kernel
theorem dX6_slack_53 : decode cX6_slack 53 = .ok (.lsub, 1) := by decide +kernel
theorem dX6_slack_54 : decode cX6_slack 54 = .ok (.aload_n 0, 1) := by decide +kernel
theorem dX6_slack_55 : decode cX6_slack 55 = .ok (.getfield 201, 3) := by decide +kernel
theorem dX6_slack_58 : decode cX6_slack 58 = .ok (.iload_n 2, 1) := by decide +kernel
theorem dX6_slack_59 : decode cX6_slack 59 = .ok (.invokestatic 189, 3) := by decide +kernel
theorem dX6_slack_62 : decode cX6_slack 62 = .ok (.lreturn, 1) := by decide +kernel
theorem dX6_told_0 : decode cX6_told 0 = .ok (.iload_n 1, 1) := by decide +kernel
theorem dX6_told_1 : decode cX6_told 1 = .ok (.tableswitch 60 0 4 #[35, 40, 45, 50, 55], 35) := by decide +kernel
theorem dX6_told_36 : decode cX6_told 36 = .ok (.aload_n 0, 1) := by decide +kernel
theorem dX6_told_37 : decode cX6_told 37 = .ok (.getfield 57, 3) := by decide +kernel
theorem dX6_told_40 : decode cX6_told 40 = .ok (.ireturn, 1) := by decide +kernel
theorem dX6_told_41 : decode cX6_told 41 = .ok (.aload_n 0, 1) := by decide +kernel
theorem dX6_told_42 : decode cX6_told 42 = .ok (.invokevirtual 74, 3) := by decide +kernel
theorem dX6_told_45 : decode cX6_told 45 = .ok (.ireturn, 1) := by decide +kernel
theorem dX6_told_46 : decode cX6_told 46 = .ok (.aload_n 0, 1) := by decide +kernel
theorem dX6_told_47 : decode cX6_told 47 = .ok (.getfield 65, 3) := by decide +kernel
theorem dX6_told_50 : decode cX6_told 50 = .ok (.ireturn, 1) := by decide +kernel
theorem dX6_told_51 : decode cX6_told 51 = .ok (.aload_n 0, 1) := by decide +kernel
theorem dX6_told_52 : decode cX6_told 52 = .ok (.getfield 99, 3) := by decide +kernel
theorem dX6_told_55 : decode cX6_told 55 = .ok (.ireturn, 1) := by decide +kernel
theorem dX6_told_56 : decode cX6_told 56 = .ok (.aload_n 0, 1) := by decide +kernel
theorem dX6_told_57 : decode cX6_told 57 = .ok (.getfield 104, 3) := by decide +kernel
theorem dX6_told_60 : decode cX6_told 60 = .ok (.ireturn, 1) := by decide +kernel
theorem dX6_told_61 : decode cX6_told 61 = .ok (.bipush (-2), 2) := by decide +kernel
theorem dX6_told_63 : decode cX6_told 63 = .ok (.ireturn, 1) := by decide +kernel
end
section
/-! STATE: int fields, long fields, int arrays, long arrays, by numbers -/
abbrev lf_St : Type := (Nat → Int32) × (Nat → Int64) × (Nat → Nat → Int32) × (Nat → Nat → Int64)
def lf_gi (σ : lf_St) (k : Nat) : Int32 := σ.1 k
def lf_gl (σ : lf_St) (k : Nat) : Int64 := σ.2.1 k
def lf_ai (σ : lf_St) (k : Nat) : Nat → Int32 := σ.2.2.1 k
def lf_al (σ : lf_St) (k : Nat) : Nat → Int64 := σ.2.2.2 k
def lf_si (σ : lf_St) (k : Nat) (v : Int32) : lf_St := (va_up σ.1 k v, σ.2)
def lf_sl (σ : lf_St) (k : Nat) (v : Int64) : lf_St := (σ.1, va_up σ.2.1 k v, σ.2.2)
def lf_sa (σ : lf_St) (k j : Nat) (v : Int32) : lf_St := (σ.1, σ.2.1, va_up σ.2.2.1 k (upd (σ.2.2.1 k) j v), σ.2.2.2)
def lf_sb (σ : lf_St) (k j : Nat) (v : Int64) : lf_St := (σ.1, σ.2.1, σ.2.2.1, va_up σ.2.2.2 k (vp_updL (σ.2.2.2 k) j v))
def lf_sB (σ : lf_St) (k : Nat) (f : Nat → Int64) : lf_St := (σ.1, σ.2.1, σ.2.2.1, va_up σ.2.2.2 k f)
/-- a method's frame stands: the machine, its code, the law's words, its classes -/
def lf_C (p : Program) (s : State) (m : MethodId) (args : Array Value) (meth : Method) (c : Code) (own : String) (cc : ByteArray) (nL : Nat) (ret : Option FieldType) (D : va_G) (tys : List (ClassId × FieldType)) (A : Nat → Prop) : Prop :=
  CallFix p m c cc nL s args wsL_law own ∧ meth.sig.returnType = ret ∧ meth.locks = false ∧ (∀ q, s.heap.size ≤ q → A q) ∧ va_K D vwCl tys s
/-- the heap holds the state σ -/
def lf_H (D : va_G) (wf : lf_St → va_W) (A : Nat → Prop) (s : State) (σ : lf_St) (H : Heap) (locs : List Loc) : Prop :=
  va_P D vwCl (wf σ) H ∧ va_D A (wf σ) ∧ va_S A s.heap H locs
def lf_B (D : va_G) (tys : List (ClassId × FieldType)) (A : Nat → Prop) (wf : lf_St → va_W) (u : lf_St) (t : State) : Prop :=
  va_P D vwCl (wf u) t.heap ∧ va_K D vwCl tys t ∧ va_D A (wf u)
def lf_P (D : va_G) (tys : List (ClassId × FieldType)) (wf : lf_St → va_W) (sz : Nat) (σ : lf_St) (avs : List Value) : Array Value → State → Prop :=
  va_Pc avs (fun U => U.heap.size = sz ∧ va_P D vwCl (wf σ) U.heap ∧ va_K D vwCl tys U ∧ va_D (fun _ => True) (wf σ))
theorem lf_P_blind (D : va_G) (tys : List (ClassId × FieldType)) (wf : lf_St → va_W) (sz : Nat) (σ : lf_St) (avs : List Value) : FrameBlind (lf_P D tys wf sz σ avs) := fun a U g mk q => by
  obtain ⟨q0, q1, qP, qK, qD⟩ := q
  exact ⟨q0, q1, qP, va_K.moved (u := U) (U := U.calling g mk a) (Vm.Alike.refl U.vm) qK, qD⟩
/-- contracts: an int, a long, nothing comes back -/
def lf_Mi (l : Launch) (y : MethodName) (ws : List Cond) (rm : Room) (D : va_G) (tys : List (ClassId × FieldType)) (wf : lf_St → va_W) (sz : Nat) (σ : lf_St) (avs : List Value) (Post : Int32 → lf_St → Prop) : Prop :=
  Met l y ws rm (lf_P D tys wf sz σ avs) (va_Qi Post (lf_B D tys (va_A (wf σ) sz) wf) (va_A (wf σ) sz)) 0 0 (va_A (wf σ) sz)
def lf_Ml (l : Launch) (y : MethodName) (ws : List Cond) (rm : Room) (D : va_G) (tys : List (ClassId × FieldType)) (wf : lf_St → va_W) (sz : Nat) (σ : lf_St) (avs : List Value) (Post : Int64 → lf_St → Prop) : Prop :=
  Met l y ws rm (lf_P D tys wf sz σ avs) (va_Ql Post (lf_B D tys (va_A (wf σ) sz) wf) (va_A (wf σ) sz)) 0 0 (va_A (wf σ) sz)
def lf_Mv (l : Launch) (y : MethodName) (ws : List Cond) (rm : Room) (D : va_G) (tys : List (ClassId × FieldType)) (wf : lf_St → va_W) (sz : Nat) (σ : lf_St) (avs : List Value) (Post : lf_St → Prop) : Prop :=
  Met l y ws rm (lf_P D tys wf sz σ avs) (va_Qv Post (lf_B D tys (va_A (wf σ) sz) wf) (va_A (wf σ) sz)) 0 0 (va_A (wf σ) sz)
/-- a reference comes back: the address that the state tells -/
def lf_Mr (l : Launch) (y : MethodName) (ws : List Cond) (rm : Room) (D : va_G) (tys : List (ClassId × FieldType)) (wf : lf_St → va_W) (sz : Nat) (σ : lf_St) (avs : List Value) (ra : Nat) (Post : lf_St → Prop) : Prop :=
  Met l y ws rm (lf_P D tys wf sz σ avs) (va_Qr Post (fun u a t => a = ra ∧ lf_B D tys (va_A (wf σ) sz) wf u t) (va_A (wf σ) sz)) 0 0 (va_A (wf σ) sz)
abbrev lf_Qi (below : List Frame) (args : Array Value) (s : State) (D : va_G) (tys : List (ClassId × FieldType)) (A : Nat → Prop) (wf : lf_St → va_W) (Post : Int32 → lf_St → Prop) : State → Prop := MQ below (va_Qi Post (lf_B D tys A wf) A) args s 0 0 A
abbrev lf_Ql (below : List Frame) (args : Array Value) (s : State) (D : va_G) (tys : List (ClassId × FieldType)) (A : Nat → Prop) (wf : lf_St → va_W) (Post : Int64 → lf_St → Prop) : State → Prop := MQ below (va_Ql Post (lf_B D tys A wf) A) args s 0 0 A
abbrev lf_Qv (below : List Frame) (args : Array Value) (s : State) (D : va_G) (tys : List (ClassId × FieldType)) (A : Nat → Prop) (wf : lf_St → va_W) (Post : lf_St → Prop) : State → Prop := MQ below (va_Qv Post (lf_B D tys A wf) A) args s 0 0 A
abbrev lf_Qr (below : List Frame) (args : Array Value) (s : State) (D : va_G) (tys : List (ClassId × FieldType)) (A : Nat → Prop) (wf : lf_St → va_W) (ra : Nat) (Post : lf_St → Prop) : State → Prop := MQ below (va_Qr Post (fun u a t => a = ra ∧ lf_B D tys A wf u t) A) args s 0 0 A
section LFB
variable {p : Program} {l : Launch} {e : Env} {R : Room} {s : State} {m : MethodId} {args : Array Value} {below : List Frame} {meth : Method} {c : Code} {H : Heap} {locs : List Loc} {Q : State → Prop}
variable {cc : ByteArray} {pc : Nat} {ls : Array Slot} {rest : List Value} {D : va_G} {A : Nat → Prop} {tys : List (ClassId × FieldType)} {wf : lf_St → va_W} {own : String} {nL : Nat} {ret : Option FieldType} {σ : lf_St}
theorem lf_B_of (F : lf_C p s m args meth c own cc nL ret D tys A) (hh : lf_H D wf A s σ H locs) {t : State} (ht : t.heap = H) (hW : s.WarmedH t.vm) : lf_B D tys A wf σ t :=
  ⟨by rw [ht]; exact hh.1, va_K.moved hW.alike F.2.2.2.2, hh.2.1⟩
theorem lf_reti {Post : Int32 → lf_St → Prop} {v : Int32} (F : lf_C p s m args meth c own cc nL (some .int) D tys A) (hh : lf_H D wf A s σ H locs) (hw : Post v σ) (hdg : decode cc pc = .ok (.ireturn, 1)) : W p l e R s m args below meth c H locs 0 0 (lf_Qi below args s D tys A wf Post) (F0 m pc ls [.int v]) :=
  W.iret F.1.1 F.1.2.1 F.2.1 (fun _ ht hW => ⟨⟨v, σ, rfl, hw, lf_B_of F hh ht hW⟩, hh.2.2.F ht⟩) hh.2.2.2.2 hdg (hlocks := F.2.2.1)
theorem lf_retz {Post : Int32 → lf_St → Prop} {v : Int32} (F : lf_C p s m args meth c own cc nL (some .boolean) D tys A) (hh : lf_H D wf A s σ H locs) (hn : narrow .boolean (.int v) = .int v) (hw : Post v σ) (hdg : decode cc pc = .ok (.ireturn, 1)) : W p l e R s m args below meth c H locs 0 0 (lf_Qi below args s D tys A wf Post) (F0 m pc ls [.int v]) :=
  W.zret F.1.1 F.1.2.1 F.2.1 hn (fun _ ht hW => ⟨⟨v, σ, rfl, hw, lf_B_of F hh ht hW⟩, hh.2.2.F ht⟩) hh.2.2.2.2 hdg (hlocks := F.2.2.1)
theorem lf_retl {Post : Int64 → lf_St → Prop} {v : Int64} (F : lf_C p s m args meth c own cc nL (some .long) D tys A) (hh : lf_H D wf A s σ H locs) (hw : Post v σ) (hdg : decode cc pc = .ok (.lreturn, 1)) : W p l e R s m args below meth c H locs 0 0 (lf_Ql below args s D tys A wf Post) (F0 m pc ls [.long v]) :=
  W.lret F.1.1 F.1.2.1 F.2.1 (fun _ ht hW => ⟨⟨v, σ, rfl, hw, lf_B_of F hh ht hW⟩, hh.2.2.F ht⟩) hh.2.2.2.2 hdg (hlocks := F.2.2.1)
theorem lf_retv {Post : lf_St → Prop} (F : lf_C p s m args meth c own cc nL none D tys A) (hh : lf_H D wf A s σ H locs) (hw : Post σ) (hdg : decode cc pc = .ok (.return_, 1)) : W p l e R s m args below meth c H locs 0 0 (lf_Qv below args s D tys A wf Post) (F0 m pc ls []) :=
  W.vret F.1.1 F.1.2.1 F.2.1 (fun _ ht hW => ⟨⟨σ, rfl, hw, lf_B_of F hh ht hW⟩, hh.2.2.F ht⟩) hh.2.2.2.2 hdg (hlocks := F.2.2.1)
theorem lf_retr {Post : lf_St → Prop} {ra : Nat} {C : String} (F : lf_C p s m args meth c own cc nL (some (.object C)) D tys A) (hh : lf_H D wf A s σ H locs) (hw : Post σ) (hdg : decode cc pc = .ok (.areturn, 1)) : W p l e R s m args below meth c H locs 0 0 (lf_Qr below args s D tys A wf ra Post) (F0 m pc ls [.ref ra]) :=
  W.aret F.1.1 F.1.2.1 F.2.1 (Or.inl ⟨C, rfl⟩) (Or.inr ⟨ra, rfl⟩) (fun _ ht hW => ⟨⟨σ, ra, rfl, hw, rfl, lf_B_of F hh ht hW⟩, hh.2.2.F ht⟩) hh.2.2.2.2 hdg (hlocks := F.2.2.1)
/-! compares of longs -/
theorem lf_lcmp_lt {x y : Int64} {off : Int} {tgt : Nat} (hx : p.tables.exec = Jvm.exec) (hb : c.code = cc) (hd : decode cc pc = .ok (.lcmp, 1)) (hd2 : decode cc (pc + 1) = .ok (.ifCond .lt off, 3)) (ht : ((pc + 1 : Nat) : Int) + off = (tgt : Int)) (kt : x < y → W p l e R s m args below meth c H locs 0 0 Q (F0 m tgt ls rest)) (kf : ¬ x < y → W p l e R s m args below meth c H locs 0 0 Q (F0 m (pc + 4) ls rest)) : W p l e R s m args below meth c H locs 0 0 Q (F0 m pc ls (.long y :: .long x :: rest)) :=
  W.lcmp hx hb hd (lv_if_lt (tgt := tgt) hx hb hd2 ht (fun q => kt ((lg_cmp_lt x y).mp q)) (fun q => kf (fun z => q ((lg_cmp_lt x y).mpr z))))
theorem lf_lcmp_ge {x y : Int64} {off : Int} {tgt : Nat} (hx : p.tables.exec = Jvm.exec) (hb : c.code = cc) (hd : decode cc pc = .ok (.lcmp, 1)) (hd2 : decode cc (pc + 1) = .ok (.ifCond .ge off, 3)) (ht : ((pc + 1 : Nat) : Int) + off = (tgt : Int)) (kt : y ≤ x → W p l e R s m args below meth c H locs 0 0 Q (F0 m tgt ls rest)) (kf : ¬ y ≤ x → W p l e R s m args below meth c H locs 0 0 Q (F0 m (pc + 4) ls rest)) : W p l e R s m args below meth c H locs 0 0 Q (F0 m pc ls (.long y :: .long x :: rest)) :=
  W.lcmp hx hb hd (lv_if_ge (tgt := tgt) hx hb hd2 ht (fun q => kt ((lg_cmp_ge x y).mp q)) (fun q => kf (fun z => q ((lg_cmp_ge x y).mpr z))))
theorem lf_lcmp_gt {x y : Int64} {off : Int} {tgt : Nat} (hx : p.tables.exec = Jvm.exec) (hb : c.code = cc) (hd : decode cc pc = .ok (.lcmp, 1)) (hd2 : decode cc (pc + 1) = .ok (.ifCond .gt off, 3)) (ht : ((pc + 1 : Nat) : Int) + off = (tgt : Int)) (kt : y < x → W p l e R s m args below meth c H locs 0 0 Q (F0 m tgt ls rest)) (kf : ¬ y < x → W p l e R s m args below meth c H locs 0 0 Q (F0 m (pc + 4) ls rest)) : W p l e R s m args below meth c H locs 0 0 Q (F0 m pc ls (.long y :: .long x :: rest)) :=
  W.lcmp hx hb hd (lv_if_gt (tgt := tgt) hx hb hd2 ht (fun q => kt ((lg_cmp_gt x y).mp q)) (fun q => kf (fun z => q ((lg_cmp_gt x y).mpr z))))
theorem lf_lcmp_le {x y : Int64} {off : Int} {tgt : Nat} (hx : p.tables.exec = Jvm.exec) (hb : c.code = cc) (hd : decode cc pc = .ok (.lcmp, 1)) (hd2 : decode cc (pc + 1) = .ok (.ifCond .le off, 3)) (ht : ((pc + 1 : Nat) : Int) + off = (tgt : Int)) (kt : x ≤ y → W p l e R s m args below meth c H locs 0 0 Q (F0 m tgt ls rest)) (kf : ¬ x ≤ y → W p l e R s m args below meth c H locs 0 0 Q (F0 m (pc + 4) ls rest)) : W p l e R s m args below meth c H locs 0 0 Q (F0 m pc ls (.long y :: .long x :: rest)) :=
  W.lcmp hx hb hd (lv_if_le (tgt := tgt) hx hb hd2 ht (fun q => kt ((lg_cmp_le x y).mp q)) (fun q => kf (fun z => q ((lg_cmp_le x y).mpr z))))
theorem lf_lcmp_eq {x y : Int64} {off : Int} {tgt : Nat} (hx : p.tables.exec = Jvm.exec) (hb : c.code = cc) (hd : decode cc pc = .ok (.lcmp, 1)) (hd2 : decode cc (pc + 1) = .ok (.ifCond .eq off, 3)) (ht : ((pc + 1 : Nat) : Int) + off = (tgt : Int)) (kt : x = y → W p l e R s m args below meth c H locs 0 0 Q (F0 m tgt ls rest)) (kf : ¬ x = y → W p l e R s m args below meth c H locs 0 0 Q (F0 m (pc + 4) ls rest)) : W p l e R s m args below meth c H locs 0 0 Q (F0 m pc ls (.long y :: .long x :: rest)) :=
  W.lcmp hx hb hd (lv_if_eq (tgt := tgt) hx hb hd2 ht (fun q => kt ((lg_cmp_eq x y).mp q)) (fun q => kf (fun z => q ((lg_cmp_eq x y).mpr z))))
theorem lf_lcmp_ne {x y : Int64} {off : Int} {tgt : Nat} (hx : p.tables.exec = Jvm.exec) (hb : c.code = cc) (hd : decode cc pc = .ok (.lcmp, 1)) (hd2 : decode cc (pc + 1) = .ok (.ifCond .ne off, 3)) (ht : ((pc + 1 : Nat) : Int) + off = (tgt : Int)) (kt : ¬ x = y → W p l e R s m args below meth c H locs 0 0 Q (F0 m tgt ls rest)) (kf : x = y → W p l e R s m args below meth c H locs 0 0 Q (F0 m (pc + 4) ls rest)) : W p l e R s m args below meth c H locs 0 0 Q (F0 m pc ls (.long y :: .long x :: rest)) :=
  W.lcmp hx hb hd (lv_if_ne (tgt := tgt) hx hb hd2 ht (fun q => kt (fun z => q ((lg_cmp_eq x y).mpr z))) (fun q => kf ((lg_cmp_eq x y).mp q)))
/-! calls -/
variable {y : MethodName} {bytes : ByteArray} {maxL index n : Nat} {rt : Option FieldType} {rm : Room} {C : String} {b : Addr} {As : List Value}
theorem lf_free (F : lf_C p s m args meth c own cc nL ret D tys A) (hh : lf_H D wf A s σ H locs) : ∀ q, va_A (wf σ) H.size q → A q := by
  intro q h
  rcases h with ⟨k, e, h⟩ | h
  · exact hh.2.1.2 k (q, e) h
  · exact F.2.2.2.1 q (Nat.le_trans hh.2.2.1 h)
theorem lf_pre (F : lf_C p s m args meth c own cc nL ret D tys A) (hh : lf_H D wf A s σ H locs) {avs : List Value} : ∀ U : State, U.heap = H → s.WarmedH U.vm → lf_P D tys wf H.size σ avs avs.toArray U := fun U hU hW =>
  ⟨rfl, by rw [hU], by rw [hU]; exact hh.1, va_K.moved hW.alike F.2.2.2.2, hh.2.1.weaken (fun _ _ _ _ => trivial)⟩
theorem lf_back (F : lf_C p s m args meth c own cc nL ret D tys A) (hh : lf_H D wf A s σ H locs) {u : lf_St} {t : State} {H1 : Heap} {locs1 : List Loc} (ht : t.heap = H1) (hB : lf_B D tys (va_A (wf σ) H.size) wf u t) (hS : va_S A s.heap H1 locs1) : lf_H D wf A s u H1 locs1 :=
  ⟨by rw [← ht]; exact hB.1, ⟨hB.2.2.1, fun k q h => lf_free F hh _ (hB.2.2.2 k q h)⟩, hS⟩
abbrev lf_ws (y : MethodName) (bytes : ByteArray) (maxL : Nat) (rt : Option FieldType) : List Cond := Cond.code y bytes maxL rt :: wsL_law
abbrev lf_cV (R : Room) (s : State) (args : Array Value) (own C : String) (index : Nat) (y : MethodName) (bytes : ByteArray) (maxL : Nat) (rt : Option FieldType) (rm : Room) (n : Nat) : Prop := CallW R s args own C index y bytes maxL rt (lf_ws y bytes maxL rt) rm 0 0 n
abbrev lf_cS (R : Room) (s : State) (args : Array Value) (own : String) (index : Nat) (y : MethodName) (bytes : ByteArray) (maxL : Nat) (rt : Option FieldType) (rm : Room) (n : Nat) : Prop := CallB R s args own index y bytes maxL rt (lf_ws y bytes maxL rt) rm 0 0 n ∧ (Cond.static y).before args s = true
theorem lf_callVi {Post : Int32 → lf_St → Prop} (F : lf_C p s m args meth c own cc nL ret D tys A) (hh : lf_H D wf A s σ H locs) (cw : lf_cV R s args own C index y bytes maxL rt rm n) (hM : lf_Mi l y (lf_ws y bytes maxL rt) rm D tys wf H.size σ (.ref b :: As) Post)
    (q0 ci : Nat) {q : vw_C} {fs : List Value} (hc : vwCl[ci]? = some q) (hC : q.1 = C) (he : (wf σ)[q0]? = some (b, .inr (ci, fs))) (hn : As.length = n) (hl : ls.size = nL) (hW : (rest.map fun v => v.category).sum ≤ 8) (hdg : decode cc pc = .ok (.invokevirtual index, 3)) {st0 : List Value} (hst : st0 = As.reverse ++ .ref b :: rest)
    (kk : ∀ (r : Int32) (σ' : lf_St) (H1 : Heap) (locs1 : List Loc), Post r σ' → lf_H D wf A s σ' H1 locs1 → W p l e R s m args below meth c H1 locs1 0 0 Q (F0 m (pc + 3) ls (.int r :: rest))) : W p l e R s m args below meth c H locs 0 0 Q (F0 m pc ls st0) := by
  subst hst; subst hC
  exact va_calli (va_runV (As := As) (rest := rest) F.1 hM cw ⟨lf_P_blind _ _ _ _ _ _, va_recv F.2.2.2.2 hh.1 hc he, lf_pre F hh⟩ rfl hn hl rfl (lv_room hW) hdg ⟨Nat.zero_le _, Nat.zero_le _⟩) hh.2.2 (fun q _ h => lf_free F hh q h) (lf_free F hh) (fun r u t H1 locs1 ht _ hw hB _ _ hS => kk r u H1 locs1 hw (lf_back F hh ht hB hS))
theorem lf_callVl {Post : Int64 → lf_St → Prop} (F : lf_C p s m args meth c own cc nL ret D tys A) (hh : lf_H D wf A s σ H locs) (cw : lf_cV R s args own C index y bytes maxL rt rm n) (hM : lf_Ml l y (lf_ws y bytes maxL rt) rm D tys wf H.size σ (.ref b :: As) Post)
    (q0 ci : Nat) {q : vw_C} {fs : List Value} (hc : vwCl[ci]? = some q) (hC : q.1 = C) (he : (wf σ)[q0]? = some (b, .inr (ci, fs))) (hn : As.length = n) (hl : ls.size = nL) (hW : (rest.map fun v => v.category).sum ≤ 8) (hdg : decode cc pc = .ok (.invokevirtual index, 3)) {st0 : List Value} (hst : st0 = As.reverse ++ .ref b :: rest)
    (kk : ∀ (r : Int64) (σ' : lf_St) (H1 : Heap) (locs1 : List Loc), Post r σ' → lf_H D wf A s σ' H1 locs1 → W p l e R s m args below meth c H1 locs1 0 0 Q (F0 m (pc + 3) ls (.long r :: rest))) : W p l e R s m args below meth c H locs 0 0 Q (F0 m pc ls st0) := by
  subst hst; subst hC
  exact va_calll (va_runV (As := As) (rest := rest) F.1 hM cw ⟨lf_P_blind _ _ _ _ _ _, va_recv F.2.2.2.2 hh.1 hc he, lf_pre F hh⟩ rfl hn hl rfl (lv_room hW) hdg ⟨Nat.zero_le _, Nat.zero_le _⟩) hh.2.2 (fun q _ h => lf_free F hh q h) (lf_free F hh) (fun r u t H1 locs1 ht _ hw hB _ _ hS => kk r u H1 locs1 hw (lf_back F hh ht hB hS))
theorem lf_callVv {Post : lf_St → Prop} (F : lf_C p s m args meth c own cc nL ret D tys A) (hh : lf_H D wf A s σ H locs) (cw : lf_cV R s args own C index y bytes maxL rt rm n) (hM : lf_Mv l y (lf_ws y bytes maxL rt) rm D tys wf H.size σ (.ref b :: As) Post)
    (q0 ci : Nat) {q : vw_C} {fs : List Value} (hc : vwCl[ci]? = some q) (hC : q.1 = C) (he : (wf σ)[q0]? = some (b, .inr (ci, fs))) (hn : As.length = n) (hl : ls.size = nL) (hW : (rest.map fun v => v.category).sum ≤ 8) (hdg : decode cc pc = .ok (.invokevirtual index, 3)) {st0 : List Value} (hst : st0 = As.reverse ++ .ref b :: rest)
    (kk : ∀ (σ' : lf_St) (H1 : Heap) (locs1 : List Loc), Post σ' → lf_H D wf A s σ' H1 locs1 → W p l e R s m args below meth c H1 locs1 0 0 Q (F0 m (pc + 3) ls rest)) : W p l e R s m args below meth c H locs 0 0 Q (F0 m pc ls st0) := by
  subst hst; subst hC
  exact va_callv (va_runV (As := As) (rest := rest) F.1 hM cw ⟨lf_P_blind _ _ _ _ _ _, va_recv F.2.2.2.2 hh.1 hc he, lf_pre F hh⟩ rfl hn hl rfl (lv_room hW) hdg ⟨Nat.zero_le _, Nat.zero_le _⟩) hh.2.2 (fun q _ h => lf_free F hh q h) (lf_free F hh) (fun u t H1 locs1 ht _ hw hB _ _ hS => kk u H1 locs1 hw (lf_back F hh ht hB hS))
theorem lf_callVr {Post : lf_St → Prop} {ra : Nat} (F : lf_C p s m args meth c own cc nL ret D tys A) (hh : lf_H D wf A s σ H locs) (cw : lf_cV R s args own C index y bytes maxL rt rm n) (hM : lf_Mr l y (lf_ws y bytes maxL rt) rm D tys wf H.size σ (.ref b :: As) ra Post)
    (q0 ci : Nat) {q : vw_C} {fs : List Value} (hc : vwCl[ci]? = some q) (hC : q.1 = C) (he : (wf σ)[q0]? = some (b, .inr (ci, fs))) (hn : As.length = n) (hl : ls.size = nL) (hW : (rest.map fun v => v.category).sum ≤ 8) (hdg : decode cc pc = .ok (.invokevirtual index, 3)) {st0 : List Value} (hst : st0 = As.reverse ++ .ref b :: rest)
    (kk : ∀ (σ' : lf_St) (H1 : Heap) (locs1 : List Loc), Post σ' → lf_H D wf A s σ' H1 locs1 → W p l e R s m args below meth c H1 locs1 0 0 Q (F0 m (pc + 3) ls (.ref ra :: rest))) : W p l e R s m args below meth c H locs 0 0 Q (F0 m pc ls st0) := by
  subst hst; subst hC
  exact va_callr (va_runV (As := As) (rest := rest) F.1 hM cw ⟨lf_P_blind _ _ _ _ _ _, va_recv F.2.2.2.2 hh.1 hc he, lf_pre F hh⟩ rfl hn hl rfl (lv_room hW) hdg ⟨Nat.zero_le _, Nat.zero_le _⟩) hh.2.2 (fun q _ h => lf_free F hh q h) (lf_free F hh) (fun u a t H1 locs1 ht _ hw hB _ _ hS => by obtain ⟨rfl, hB⟩ := hB; exact kk u H1 locs1 hw (lf_back F hh ht hB hS))
theorem lf_callSi {Post : Int32 → lf_St → Prop} (F : lf_C p s m args meth c own cc nL ret D tys A) (hh : lf_H D wf A s σ H locs) (cw : lf_cS R s args own index y bytes maxL rt rm n) (hM : lf_Mi l y (lf_ws y bytes maxL rt) rm D tys wf H.size σ As Post)
    (hn : As.length = n) (hl : ls.size = nL) (hW : (rest.map fun v => v.category).sum ≤ 8) (hdg : decode cc pc = .ok (.invokestatic index, 3)) {st0 : List Value} (hst : st0 = As.reverse ++ rest)
    (kk : ∀ (r : Int32) (σ' : lf_St) (H1 : Heap) (locs1 : List Loc), Post r σ' → lf_H D wf A s σ' H1 locs1 → W p l e R s m args below meth c H1 locs1 0 0 Q (F0 m (pc + 3) ls (.int r :: rest))) : W p l e R s m args below meth c H locs 0 0 Q (F0 m pc ls st0) := by
  subst hst
  exact va_calli (va_runS (As := As) (rest := rest) F.1 hM cw ⟨lf_P_blind _ _ _ _ _ _, lf_pre F hh⟩ rfl hn hl rfl (lv_room hW) hdg ⟨Nat.zero_le _, Nat.zero_le _⟩) hh.2.2 (fun q _ h => lf_free F hh q h) (lf_free F hh) (fun r u t H1 locs1 ht _ hw hB _ _ hS => kk r u H1 locs1 hw (lf_back F hh ht hB hS))
theorem lf_callSl {Post : Int64 → lf_St → Prop} (F : lf_C p s m args meth c own cc nL ret D tys A) (hh : lf_H D wf A s σ H locs) (cw : lf_cS R s args own index y bytes maxL rt rm n) (hM : lf_Ml l y (lf_ws y bytes maxL rt) rm D tys wf H.size σ As Post)
    (hn : As.length = n) (hl : ls.size = nL) (hW : (rest.map fun v => v.category).sum ≤ 8) (hdg : decode cc pc = .ok (.invokestatic index, 3)) {st0 : List Value} (hst : st0 = As.reverse ++ rest)
    (kk : ∀ (r : Int64) (σ' : lf_St) (H1 : Heap) (locs1 : List Loc), Post r σ' → lf_H D wf A s σ' H1 locs1 → W p l e R s m args below meth c H1 locs1 0 0 Q (F0 m (pc + 3) ls (.long r :: rest))) : W p l e R s m args below meth c H locs 0 0 Q (F0 m pc ls st0) := by
  subst hst
  exact va_calll (va_runS (As := As) (rest := rest) F.1 hM cw ⟨lf_P_blind _ _ _ _ _ _, lf_pre F hh⟩ rfl hn hl rfl (lv_room hW) hdg ⟨Nat.zero_le _, Nat.zero_le _⟩) hh.2.2 (fun q _ h => lf_free F hh q h) (lf_free F hh) (fun r u t H1 locs1 ht _ hw hB _ _ hS => kk r u H1 locs1 hw (lf_back F hh ht hB hS))
theorem lf_callSv {Post : lf_St → Prop} (F : lf_C p s m args meth c own cc nL ret D tys A) (hh : lf_H D wf A s σ H locs) (cw : lf_cS R s args own index y bytes maxL rt rm n) (hM : lf_Mv l y (lf_ws y bytes maxL rt) rm D tys wf H.size σ As Post)
    (hn : As.length = n) (hl : ls.size = nL) (hW : (rest.map fun v => v.category).sum ≤ 8) (hdg : decode cc pc = .ok (.invokestatic index, 3)) {st0 : List Value} (hst : st0 = As.reverse ++ rest)
    (kk : ∀ (σ' : lf_St) (H1 : Heap) (locs1 : List Loc), Post σ' → lf_H D wf A s σ' H1 locs1 → W p l e R s m args below meth c H1 locs1 0 0 Q (F0 m (pc + 3) ls rest)) : W p l e R s m args below meth c H locs 0 0 Q (F0 m pc ls st0) := by
  subst hst
  exact va_callv (va_runS (As := As) (rest := rest) F.1 hM cw ⟨lf_P_blind _ _ _ _ _ _, lf_pre F hh⟩ rfl hn hl rfl (lv_room hW) hdg ⟨Nat.zero_le _, Nat.zero_le _⟩) hh.2.2 (fun q _ h => lf_free F hh q h) (lf_free F hh) (fun u t H1 locs1 ht _ hw hB _ _ hS => kk u H1 locs1 hw (lf_back F hh ht hB hS))
end LFB
set_option maxRecDepth 20000 in
theorem lf_good : wsL_law.all goodWord = true := by decide +kernel
theorem lf_goodIn {y : MethodName} {bytes : ByteArray} {maxL : Nat} {rt : Option FieldType} (h : Cond.code y bytes maxL rt ∈ wsL_law) : GoodIn wsL_law (lf_ws y bytes maxL rt) := fun w hw => by
  rcases List.mem_cons.mp hw with rfl | hw
  · exact ⟨h, good_of_word (List.all_eq_true.mp lf_good _ h)⟩
  · exact ⟨hw, good_of_word (List.all_eq_true.mp lf_good _ hw)⟩
theorem lf_cV_of {R : Room} {s : State} {args : Array Value} {own : String} {index : Nat} {y : MethodName} {bytes : ByteArray} {maxL : Nat} {rt : Option FieldType} {rm : Room} (n : Nat) (ht : ∀ w ∈ wsL_law, w.before args s = true) (h1 : Cond.code y bytes maxL rt ∈ wsL_law) (h2 : Cond.methodLink own index y ∈ wsL_law) (h3 : Cond.instanceMethod y ∈ wsL_law) (h4 : Cond.selects y.cls y y ∈ wsL_law) (h5 : Cond.initialized y.cls ∈ wsL_law) (hrc : rm.cells = 0) (hrs : rm.slots = 0)
    (hd : y.cls ≠ "java/lang/invoke/MethodHandle" ∧ y.cls ≠ "java/lang/invoke/VarHandle" ∧ (parseMethodDescriptor y.desc).map (fun d => d.parameters.length) = some n) (hR : rm.frames + 1 ≤ R.frames ∧ 8 + (maxL + 11) + rm.locals ≤ R.locals) : lf_cV R s args own y.cls index y bytes maxL rt rm n :=
  ⟨callB_of n ht (lf_goodIn h1) rfl hrc hrs (ht _ h5) (ht _ h2) hd hR, ht _ h3, ht _ h4⟩
theorem lf_cS_of {R : Room} {s : State} {args : Array Value} {own : String} {index : Nat} {y : MethodName} {bytes : ByteArray} {maxL : Nat} {rt : Option FieldType} {rm : Room} (n : Nat) (ht : ∀ w ∈ wsL_law, w.before args s = true) (h1 : Cond.code y bytes maxL rt ∈ wsL_law) (h2 : Cond.methodLink own index y ∈ wsL_law) (h3 : Cond.static y ∈ wsL_law) (h5 : Cond.initialized y.cls ∈ wsL_law) (hrc : rm.cells = 0) (hrs : rm.slots = 0)
    (hd : y.cls ≠ "java/lang/invoke/MethodHandle" ∧ y.cls ≠ "java/lang/invoke/VarHandle" ∧ (parseMethodDescriptor y.desc).map (fun d => d.parameters.length) = some n) (hR : rm.frames + 1 ≤ R.frames ∧ 8 + (maxL + 11) + rm.locals ≤ R.locals) : lf_cS R s args own index y bytes maxL rt rm n :=
  ⟨callB_of n ht (lf_goodIn h1) rfl hrc hrs (ht _ h5) (ht _ h2) hd hR, ht _ h3⟩
/-! a contract out of the walk of a body -/
section LFE
variable {l : Launch} {y : MethodName} {rm : Room} {D : va_G} {tys : List (ClassId × FieldType)} {wf : lf_St → va_W} {sz : Nat} {σ : lf_St} {avs : List Value} {cc : ByteArray} {maxL : Nat}
theorem lf_ofi {Post : Int32 → lf_St → Prop} {rt : FieldType} (hy : plainName y.cls = true) (hav : (lg_sl avs).length ≤ maxL)
    (body : ∀ (p : Program) (e : Env) (s : State) (m : MethodId) (args : Array Value) (below : List Frame) (meth : Method) (c : Code) (A : Nat → Prop) (ls : Array Slot), lf_C p s m args meth c y.cls cc maxL (some rt) D tys A → lf_H D wf A s σ s.heap [] → lv_has ls maxL (lv_args 0 avs) → W p l e rm s m args below meth c s.heap [] 0 0 (lf_Qi below args s D tys A wf Post) (F0 m 0 ls [])) : lf_Mi l y (lf_ws y cc maxL (some rt)) rm D tys wf sz σ avs Post := by
  refine Met.ofW (cc := cc) (maxL := maxL) (ret := some rt) hy rfl ?_
  intro p e s m args below meth c s₁ B hml hv
  obtain ⟨rfl, hsz, hP, hK, hD0⟩ := hv
  subst hsz
  have hts := atoms_spec (ws := lf_ws y cc maxL (some rt)) B.pre
  rw [lg_entry_eq]
  exact body p e s m _ below meth c _ _ ⟨⟨B.exec, B.bytes, hml, findClass_of_methodNamed B.named, fun w h => hts w (List.mem_cons_of_mem _ h)⟩, B.returns, B.notSynchronized, fun q h => Or.inr h, hK⟩ ⟨hP, hD0.self, va_S.rf⟩ (lv_entry avs hav)
theorem lf_ofl {Post : Int64 → lf_St → Prop} {rt : FieldType} (hy : plainName y.cls = true) (hav : (lg_sl avs).length ≤ maxL)
    (body : ∀ (p : Program) (e : Env) (s : State) (m : MethodId) (args : Array Value) (below : List Frame) (meth : Method) (c : Code) (A : Nat → Prop) (ls : Array Slot), lf_C p s m args meth c y.cls cc maxL (some rt) D tys A → lf_H D wf A s σ s.heap [] → lv_has ls maxL (lv_args 0 avs) → W p l e rm s m args below meth c s.heap [] 0 0 (lf_Ql below args s D tys A wf Post) (F0 m 0 ls [])) : lf_Ml l y (lf_ws y cc maxL (some rt)) rm D tys wf sz σ avs Post := by
  refine Met.ofW (cc := cc) (maxL := maxL) (ret := some rt) hy rfl ?_
  intro p e s m args below meth c s₁ B hml hv
  obtain ⟨rfl, hsz, hP, hK, hD0⟩ := hv
  subst hsz
  have hts := atoms_spec (ws := lf_ws y cc maxL (some rt)) B.pre
  rw [lg_entry_eq]
  exact body p e s m _ below meth c _ _ ⟨⟨B.exec, B.bytes, hml, findClass_of_methodNamed B.named, fun w h => hts w (List.mem_cons_of_mem _ h)⟩, B.returns, B.notSynchronized, fun q h => Or.inr h, hK⟩ ⟨hP, hD0.self, va_S.rf⟩ (lv_entry avs hav)
theorem lf_ofv {Post : lf_St → Prop} (hy : plainName y.cls = true) (hav : (lg_sl avs).length ≤ maxL)
    (body : ∀ (p : Program) (e : Env) (s : State) (m : MethodId) (args : Array Value) (below : List Frame) (meth : Method) (c : Code) (A : Nat → Prop) (ls : Array Slot), lf_C p s m args meth c y.cls cc maxL none D tys A → lf_H D wf A s σ s.heap [] → lv_has ls maxL (lv_args 0 avs) → W p l e rm s m args below meth c s.heap [] 0 0 (lf_Qv below args s D tys A wf Post) (F0 m 0 ls [])) : lf_Mv l y (lf_ws y cc maxL none) rm D tys wf sz σ avs Post := by
  refine Met.ofW (cc := cc) (maxL := maxL) (ret := none) hy rfl ?_
  intro p e s m args below meth c s₁ B hml hv
  obtain ⟨rfl, hsz, hP, hK, hD0⟩ := hv
  subst hsz
  have hts := atoms_spec (ws := lf_ws y cc maxL none) B.pre
  rw [lg_entry_eq]
  exact body p e s m _ below meth c _ _ ⟨⟨B.exec, B.bytes, hml, findClass_of_methodNamed B.named, fun w h => hts w (List.mem_cons_of_mem _ h)⟩, B.returns, B.notSynchronized, fun q h => Or.inr h, hK⟩ ⟨hP, hD0.self, va_S.rf⟩ (lv_entry avs hav)
theorem lf_ofr {Post : lf_St → Prop} {ra : Nat} {rt : FieldType} (hy : plainName y.cls = true) (hav : (lg_sl avs).length ≤ maxL)
    (body : ∀ (p : Program) (e : Env) (s : State) (m : MethodId) (args : Array Value) (below : List Frame) (meth : Method) (c : Code) (A : Nat → Prop) (ls : Array Slot), lf_C p s m args meth c y.cls cc maxL (some rt) D tys A → lf_H D wf A s σ s.heap [] → lv_has ls maxL (lv_args 0 avs) → W p l e rm s m args below meth c s.heap [] 0 0 (lf_Qr below args s D tys A wf ra Post) (F0 m 0 ls [])) : lf_Mr l y (lf_ws y cc maxL (some rt)) rm D tys wf sz σ avs ra Post := by
  refine Met.ofW (cc := cc) (maxL := maxL) (ret := some rt) hy rfl ?_
  intro p e s m args below meth c s₁ B hml hv
  obtain ⟨rfl, hsz, hP, hK, hD0⟩ := hv
  subst hsz
  have hts := atoms_spec (ws := lf_ws y cc maxL (some rt)) B.pre
  rw [lg_entry_eq]
  exact body p e s m _ below meth c _ _ ⟨⟨B.exec, B.bytes, hml, findClass_of_methodNamed B.named, fun w h => hts w (List.mem_cons_of_mem _ h)⟩, B.returns, B.notSynchronized, fun q h => Or.inr h, hK⟩ ⟨hP, hD0.self, va_S.rf⟩ (lv_entry avs hav)
end LFE
end
section
/-- the cells of a LightFrameModel in the state σ -/
def wM_ (ha : Nat → Nat) (cy : Nat → ClassId) (σ : lf_St) : va_W := [(ha 0, .inr (6, [.int (lf_gi σ 0), .ref (ha 1), .ref (ha 2), .ref (ha 3), .ref (ha 4), .ref (ha 5), .int (lf_gi σ 6), .ref (ha 7), .ref (ha 8), .int (lf_gi σ 9), .ref (ha 10), .int (lf_gi σ 11), .int (lf_gi σ 12), .ref (ha 13), .int (lf_gi σ 14), .ref (ha 15), .ref (ha 16), .ref (ha 17), .int (lf_gi σ 18), .ref (ha 19), .long (lf_gl σ 20), .ref (ha 21), .long (lf_gl σ 22), .long (lf_gl σ 23), .ref (ha 24), .long (lf_gl σ 25)])), (ha 1, .inl (cy 1, 6, .inl (lf_ai σ 1))), (ha 2, .inl (cy 2, 6, .inl (lf_ai σ 2))), (ha 3, .inl (cy 3, 6, .inl (lf_ai σ 3))), (ha 4, .inl (cy 4, 6, .inl (lf_ai σ 4))), (ha 5, .inl (cy 5, 6, .inl (lf_ai σ 5))), (ha 7, .inl (cy 7, 10, .inl (lf_ai σ 7))), (ha 8, .inl (cy 8, 10, .inl (lf_ai σ 8))), (ha 10, .inl (cy 10, 5, .inl (lf_ai σ 10))), (ha 13, .inl (cy 13, 6, .inl (lf_ai σ 13))), (ha 15, .inl (cy 15, 36, .inr (.inl (lf_al σ 15)))), (ha 16, .inl (cy 16, 36, .inr (.inl (lf_al σ 16)))), (ha 17, .inl (cy 17, 6, .inr (.inl (lf_al σ 17)))), (ha 19, .inl (cy 19, 6, .inl (lf_ai σ 19))), (ha 21, .inl (cy 21, 6, .inr (.inl (lf_al σ 21)))), (ha 24, .inl (cy 24, 6, .inr (.inl (lf_al σ 24))))]
def tyM_ (cy : Nat → ClassId) : List (ClassId × FieldType) := [(cy 1, .int), (cy 2, .int), (cy 3, .boolean), (cy 4, .int), (cy 5, .int), (cy 7, .int), (cy 8, .int), (cy 10, .int), (cy 13, .int), (cy 15, .long), (cy 16, .long), (cy 17, .long), (cy 19, .int), (cy 21, .long), (cy 24, .long)]

theorem lf_nz {v : Int32} (h : fits .boolean (.int v) = true) : narrow .boolean (.int v) = .int v := by
  have h2 : v = 0 ∨ v = 1 := by simpa [fits] using h
  rcases h2 with rfl | rfl <;> rfl
theorem lr_1 : ∀ w ∈ wsL_law_r1, w ∈ wsL_law := fun _ h => List.mem_append_left _ (List.mem_append_left _ (List.mem_append_left _ (List.mem_append_left _ (List.mem_append_left _ (List.mem_append_left _ (List.mem_append_left _ (List.mem_append_left _ (List.mem_append_left _ h))))))))
theorem lr_2 : ∀ w ∈ wsL_law_r2, w ∈ wsL_law := fun _ h => List.mem_append_left _ (List.mem_append_left _ (List.mem_append_left _ (List.mem_append_left _ (List.mem_append_left _ (List.mem_append_left _ (List.mem_append_left _ (List.mem_append_left _ (List.mem_append_right _ (List.mem_append_left _ h)))))))))
theorem lr_3 : ∀ w ∈ wsL_law_r3, w ∈ wsL_law := fun _ h => List.mem_append_left _ (List.mem_append_left _ (List.mem_append_left _ (List.mem_append_left _ (List.mem_append_left _ (List.mem_append_left _ (List.mem_append_left _ (List.mem_append_left _ (List.mem_append_right _ (List.mem_append_right _ (List.mem_append_left _ h))))))))))
theorem lr_4 : ∀ w ∈ wsL_law_r4, w ∈ wsL_law := fun _ h => List.mem_append_left _ (List.mem_append_left _ (List.mem_append_left _ (List.mem_append_left _ (List.mem_append_left _ (List.mem_append_left _ (List.mem_append_left _ (List.mem_append_left _ (List.mem_append_right _ (List.mem_append_right _ (List.mem_append_right _ (List.mem_append_left _ h)))))))))))
theorem lr_5 : ∀ w ∈ wsL_law_r5, w ∈ wsL_law := fun _ h => List.mem_append_left _ (List.mem_append_left _ (List.mem_append_left _ (List.mem_append_left _ (List.mem_append_left _ (List.mem_append_left _ (List.mem_append_left _ (List.mem_append_left _ (List.mem_append_right _ (List.mem_append_right _ (List.mem_append_right _ (List.mem_append_right _ (List.mem_append_left _ h))))))))))))
theorem lr_6 : ∀ w ∈ wsL_law_r6, w ∈ wsL_law := fun _ h => List.mem_append_left _ (List.mem_append_left _ (List.mem_append_left _ (List.mem_append_left _ (List.mem_append_left _ (List.mem_append_left _ (List.mem_append_left _ (List.mem_append_left _ (List.mem_append_right _ (List.mem_append_right _ (List.mem_append_right _ (List.mem_append_right _ (List.mem_append_right _ (List.mem_append_left _ h)))))))))))))
theorem lr_7 : ∀ w ∈ wsL_law_r7, w ∈ wsL_law := fun _ h => List.mem_append_left _ (List.mem_append_left _ (List.mem_append_left _ (List.mem_append_left _ (List.mem_append_left _ (List.mem_append_left _ (List.mem_append_left _ (List.mem_append_left _ (List.mem_append_right _ (List.mem_append_right _ (List.mem_append_right _ (List.mem_append_right _ (List.mem_append_right _ (List.mem_append_right _ (List.mem_append_left _ h))))))))))))))
theorem lr_8 : ∀ w ∈ wsL_law_r8, w ∈ wsL_law := fun _ h => List.mem_append_left _ (List.mem_append_left _ (List.mem_append_left _ (List.mem_append_left _ (List.mem_append_left _ (List.mem_append_left _ (List.mem_append_left _ (List.mem_append_left _ (List.mem_append_right _ (List.mem_append_right _ (List.mem_append_right _ (List.mem_append_right _ (List.mem_append_right _ (List.mem_append_right _ (List.mem_append_right _ (List.mem_append_left _ h)))))))))))))))
theorem lr_9 : ∀ w ∈ wsL_law_r9, w ∈ wsL_law := fun _ h => List.mem_append_left _ (List.mem_append_left _ (List.mem_append_left _ (List.mem_append_left _ (List.mem_append_left _ (List.mem_append_left _ (List.mem_append_left _ (List.mem_append_left _ (List.mem_append_right _ (List.mem_append_right _ (List.mem_append_right _ (List.mem_append_right _ (List.mem_append_right _ (List.mem_append_right _ (List.mem_append_right _ (List.mem_append_right _ (List.mem_append_left _ h))))))))))))))))
theorem lr_10 : ∀ w ∈ wsL_law_r10, w ∈ wsL_law := fun _ h => List.mem_append_left _ (List.mem_append_left _ (List.mem_append_left _ (List.mem_append_left _ (List.mem_append_left _ (List.mem_append_left _ (List.mem_append_left _ (List.mem_append_left _ (List.mem_append_right _ (List.mem_append_right _ (List.mem_append_right _ (List.mem_append_right _ (List.mem_append_right _ (List.mem_append_right _ (List.mem_append_right _ (List.mem_append_right _ (List.mem_append_right _ (List.mem_append_left _ h)))))))))))))))))
theorem lr_11 : ∀ w ∈ wsL_law_r11, w ∈ wsL_law := fun _ h => List.mem_append_left _ (List.mem_append_left _ (List.mem_append_left _ (List.mem_append_left _ (List.mem_append_left _ (List.mem_append_left _ (List.mem_append_left _ (List.mem_append_left _ (List.mem_append_right _ (List.mem_append_right _ (List.mem_append_right _ (List.mem_append_right _ (List.mem_append_right _ (List.mem_append_right _ (List.mem_append_right _ (List.mem_append_right _ (List.mem_append_right _ (List.mem_append_right _ (List.mem_append_left _ h))))))))))))))))))
theorem lr_12 : ∀ w ∈ wsL_law_r12, w ∈ wsL_law := fun _ h => List.mem_append_left _ (List.mem_append_left _ (List.mem_append_left _ (List.mem_append_left _ (List.mem_append_left _ (List.mem_append_left _ (List.mem_append_left _ (List.mem_append_left _ (List.mem_append_right _ (List.mem_append_right _ (List.mem_append_right _ (List.mem_append_right _ (List.mem_append_right _ (List.mem_append_right _ (List.mem_append_right _ (List.mem_append_right _ (List.mem_append_right _ (List.mem_append_right _ (List.mem_append_right _ (List.mem_append_left _ h)))))))))))))))))))
theorem lr_13 : ∀ w ∈ wsL_law_r13, w ∈ wsL_law := fun _ h => List.mem_append_left _ (List.mem_append_left _ (List.mem_append_left _ (List.mem_append_left _ (List.mem_append_left _ (List.mem_append_left _ (List.mem_append_left _ (List.mem_append_left _ (List.mem_append_right _ (List.mem_append_right _ (List.mem_append_right _ (List.mem_append_right _ (List.mem_append_right _ (List.mem_append_right _ (List.mem_append_right _ (List.mem_append_right _ (List.mem_append_right _ (List.mem_append_right _ (List.mem_append_right _ (List.mem_append_right _ (List.mem_append_left _ h))))))))))))))))))))
theorem lr_14 : ∀ w ∈ wsL_law_r14, w ∈ wsL_law := fun _ h => List.mem_append_left _ (List.mem_append_left _ (List.mem_append_left _ (List.mem_append_left _ (List.mem_append_left _ (List.mem_append_left _ (List.mem_append_left _ (List.mem_append_left _ (List.mem_append_right _ (List.mem_append_right _ (List.mem_append_right _ (List.mem_append_right _ (List.mem_append_right _ (List.mem_append_right _ (List.mem_append_right _ (List.mem_append_right _ (List.mem_append_right _ (List.mem_append_right _ (List.mem_append_right _ (List.mem_append_right _ (List.mem_append_right _ (List.mem_append_left _ h)))))))))))))))))))))
theorem lr_15 : ∀ w ∈ wsL_law_r15, w ∈ wsL_law := fun _ h => List.mem_append_left _ (List.mem_append_left _ (List.mem_append_left _ (List.mem_append_left _ (List.mem_append_left _ (List.mem_append_left _ (List.mem_append_left _ (List.mem_append_left _ (List.mem_append_right _ (List.mem_append_right _ (List.mem_append_right _ (List.mem_append_right _ (List.mem_append_right _ (List.mem_append_right _ (List.mem_append_right _ (List.mem_append_right _ (List.mem_append_right _ (List.mem_append_right _ (List.mem_append_right _ (List.mem_append_right _ (List.mem_append_right _ (List.mem_append_right _ (List.mem_append_left _ h))))))))))))))))))))))
theorem lr_16 : ∀ w ∈ wsL_law_r16, w ∈ wsL_law := fun _ h => List.mem_append_left _ (List.mem_append_left _ (List.mem_append_left _ (List.mem_append_left _ (List.mem_append_left _ (List.mem_append_left _ (List.mem_append_left _ (List.mem_append_left _ (List.mem_append_right _ (List.mem_append_right _ (List.mem_append_right _ (List.mem_append_right _ (List.mem_append_right _ (List.mem_append_right _ (List.mem_append_right _ (List.mem_append_right _ (List.mem_append_right _ (List.mem_append_right _ (List.mem_append_right _ (List.mem_append_right _ (List.mem_append_right _ (List.mem_append_right _ (List.mem_append_right _ (List.mem_append_left _ h)))))))))))))))))))))))
theorem lr_17 : ∀ w ∈ wsL_law_r17, w ∈ wsL_law := fun _ h => List.mem_append_left _ (List.mem_append_left _ (List.mem_append_left _ (List.mem_append_left _ (List.mem_append_left _ (List.mem_append_left _ (List.mem_append_left _ (List.mem_append_left _ (List.mem_append_right _ (List.mem_append_right _ (List.mem_append_right _ (List.mem_append_right _ (List.mem_append_right _ (List.mem_append_right _ (List.mem_append_right _ (List.mem_append_right _ (List.mem_append_right _ (List.mem_append_right _ (List.mem_append_right _ (List.mem_append_right _ (List.mem_append_right _ (List.mem_append_right _ (List.mem_append_right _ (List.mem_append_right _ (List.mem_append_left _ h))))))))))))))))))))))))
theorem lr_18 : ∀ w ∈ wsL_law_r18, w ∈ wsL_law := fun _ h => List.mem_append_left _ (List.mem_append_left _ (List.mem_append_left _ (List.mem_append_left _ (List.mem_append_left _ (List.mem_append_left _ (List.mem_append_left _ (List.mem_append_left _ (List.mem_append_right _ (List.mem_append_right _ (List.mem_append_right _ (List.mem_append_right _ (List.mem_append_right _ (List.mem_append_right _ (List.mem_append_right _ (List.mem_append_right _ (List.mem_append_right _ (List.mem_append_right _ (List.mem_append_right _ (List.mem_append_right _ (List.mem_append_right _ (List.mem_append_right _ (List.mem_append_right _ (List.mem_append_right _ (List.mem_append_right _ (List.mem_append_left _ h)))))))))))))))))))))))))
theorem lr_19 : ∀ w ∈ wsL_law_r19, w ∈ wsL_law := fun _ h => List.mem_append_left _ (List.mem_append_left _ (List.mem_append_left _ (List.mem_append_left _ (List.mem_append_left _ (List.mem_append_left _ (List.mem_append_left _ (List.mem_append_left _ (List.mem_append_right _ (List.mem_append_right _ (List.mem_append_right _ (List.mem_append_right _ (List.mem_append_right _ (List.mem_append_right _ (List.mem_append_right _ (List.mem_append_right _ (List.mem_append_right _ (List.mem_append_right _ (List.mem_append_right _ (List.mem_append_right _ (List.mem_append_right _ (List.mem_append_right _ (List.mem_append_right _ (List.mem_append_right _ (List.mem_append_right _ (List.mem_append_right _ (List.mem_append_left _ h))))))))))))))))))))))))))
theorem lr_20 : ∀ w ∈ wsL_law_r20, w ∈ wsL_law := fun _ h => List.mem_append_left _ (List.mem_append_left _ (List.mem_append_left _ (List.mem_append_left _ (List.mem_append_left _ (List.mem_append_left _ (List.mem_append_left _ (List.mem_append_left _ (List.mem_append_right _ (List.mem_append_right _ (List.mem_append_right _ (List.mem_append_right _ (List.mem_append_right _ (List.mem_append_right _ (List.mem_append_right _ (List.mem_append_right _ (List.mem_append_right _ (List.mem_append_right _ (List.mem_append_right _ (List.mem_append_right _ (List.mem_append_right _ (List.mem_append_right _ (List.mem_append_right _ (List.mem_append_right _ (List.mem_append_right _ (List.mem_append_right _ (List.mem_append_right _ (List.mem_append_left _ h)))))))))))))))))))))))))))
theorem lr_21 : ∀ w ∈ wsL_law_r21, w ∈ wsL_law := fun _ h => List.mem_append_left _ (List.mem_append_left _ (List.mem_append_left _ (List.mem_append_left _ (List.mem_append_left _ (List.mem_append_left _ (List.mem_append_left _ (List.mem_append_left _ (List.mem_append_right _ (List.mem_append_right _ (List.mem_append_right _ (List.mem_append_right _ (List.mem_append_right _ (List.mem_append_right _ (List.mem_append_right _ (List.mem_append_right _ (List.mem_append_right _ (List.mem_append_right _ (List.mem_append_right _ (List.mem_append_right _ (List.mem_append_right _ (List.mem_append_right _ (List.mem_append_right _ (List.mem_append_right _ (List.mem_append_right _ (List.mem_append_right _ (List.mem_append_right _ (List.mem_append_right _ (List.mem_append_left _ h))))))))))))))))))))))))))))
theorem lr_22 : ∀ w ∈ wsL_law_r22, w ∈ wsL_law := fun _ h => List.mem_append_left _ (List.mem_append_left _ (List.mem_append_left _ (List.mem_append_left _ (List.mem_append_left _ (List.mem_append_left _ (List.mem_append_left _ (List.mem_append_left _ (List.mem_append_right _ (List.mem_append_right _ (List.mem_append_right _ (List.mem_append_right _ (List.mem_append_right _ (List.mem_append_right _ (List.mem_append_right _ (List.mem_append_right _ (List.mem_append_right _ (List.mem_append_right _ (List.mem_append_right _ (List.mem_append_right _ (List.mem_append_right _ (List.mem_append_right _ (List.mem_append_right _ (List.mem_append_right _ (List.mem_append_right _ (List.mem_append_right _ (List.mem_append_right _ (List.mem_append_right _ (List.mem_append_right _ (List.mem_append_left _ h)))))))))))))))))))))))))))))
theorem lr_23 : ∀ w ∈ wsL_law_r23, w ∈ wsL_law := fun _ h => List.mem_append_left _ (List.mem_append_left _ (List.mem_append_left _ (List.mem_append_left _ (List.mem_append_left _ (List.mem_append_left _ (List.mem_append_left _ (List.mem_append_left _ (List.mem_append_right _ (List.mem_append_right _ (List.mem_append_right _ (List.mem_append_right _ (List.mem_append_right _ (List.mem_append_right _ (List.mem_append_right _ (List.mem_append_right _ (List.mem_append_right _ (List.mem_append_right _ (List.mem_append_right _ (List.mem_append_right _ (List.mem_append_right _ (List.mem_append_right _ (List.mem_append_right _ (List.mem_append_right _ (List.mem_append_right _ (List.mem_append_right _ (List.mem_append_right _ (List.mem_append_right _ (List.mem_append_right _ (List.mem_append_right _ (List.mem_append_left _ h))))))))))))))))))))))))))))))
theorem lr_24 : ∀ w ∈ wsL_law_r24, w ∈ wsL_law := fun _ h => List.mem_append_left _ (List.mem_append_left _ (List.mem_append_left _ (List.mem_append_left _ (List.mem_append_left _ (List.mem_append_left _ (List.mem_append_left _ (List.mem_append_left _ (List.mem_append_right _ (List.mem_append_right _ (List.mem_append_right _ (List.mem_append_right _ (List.mem_append_right _ (List.mem_append_right _ (List.mem_append_right _ (List.mem_append_right _ (List.mem_append_right _ (List.mem_append_right _ (List.mem_append_right _ (List.mem_append_right _ (List.mem_append_right _ (List.mem_append_right _ (List.mem_append_right _ (List.mem_append_right _ (List.mem_append_right _ (List.mem_append_right _ (List.mem_append_right _ (List.mem_append_right _ (List.mem_append_right _ (List.mem_append_right _ (List.mem_append_right _ (List.mem_append_left _ h)))))))))))))))))))))))))))))))
theorem lr_25 : ∀ w ∈ wsL_law_r25, w ∈ wsL_law := fun _ h => List.mem_append_left _ (List.mem_append_left _ (List.mem_append_left _ (List.mem_append_left _ (List.mem_append_left _ (List.mem_append_left _ (List.mem_append_left _ (List.mem_append_left _ (List.mem_append_right _ (List.mem_append_right _ (List.mem_append_right _ (List.mem_append_right _ (List.mem_append_right _ (List.mem_append_right _ (List.mem_append_right _ (List.mem_append_right _ (List.mem_append_right _ (List.mem_append_right _ (List.mem_append_right _ (List.mem_append_right _ (List.mem_append_right _ (List.mem_append_right _ (List.mem_append_right _ (List.mem_append_right _ (List.mem_append_right _ (List.mem_append_right _ (List.mem_append_right _ (List.mem_append_right _ (List.mem_append_right _ (List.mem_append_right _ (List.mem_append_right _ (List.mem_append_right _ (List.mem_append_left _ h))))))))))))))))))))))))))))))))
theorem lr_26 : ∀ w ∈ wsL_law_r26, w ∈ wsL_law := fun _ h => List.mem_append_left _ (List.mem_append_left _ (List.mem_append_left _ (List.mem_append_left _ (List.mem_append_left _ (List.mem_append_left _ (List.mem_append_left _ (List.mem_append_left _ (List.mem_append_right _ (List.mem_append_right _ (List.mem_append_right _ (List.mem_append_right _ (List.mem_append_right _ (List.mem_append_right _ (List.mem_append_right _ (List.mem_append_right _ (List.mem_append_right _ (List.mem_append_right _ (List.mem_append_right _ (List.mem_append_right _ (List.mem_append_right _ (List.mem_append_right _ (List.mem_append_right _ (List.mem_append_right _ (List.mem_append_right _ (List.mem_append_right _ (List.mem_append_right _ (List.mem_append_right _ (List.mem_append_right _ (List.mem_append_right _ (List.mem_append_right _ (List.mem_append_right _ (List.mem_append_right _ (List.mem_append_left _ h)))))))))))))))))))))))))))))))))
theorem lr_27 : ∀ w ∈ wsL_law_r27, w ∈ wsL_law := fun _ h => List.mem_append_left _ (List.mem_append_left _ (List.mem_append_left _ (List.mem_append_left _ (List.mem_append_left _ (List.mem_append_left _ (List.mem_append_left _ (List.mem_append_left _ (List.mem_append_right _ (List.mem_append_right _ (List.mem_append_right _ (List.mem_append_right _ (List.mem_append_right _ (List.mem_append_right _ (List.mem_append_right _ (List.mem_append_right _ (List.mem_append_right _ (List.mem_append_right _ (List.mem_append_right _ (List.mem_append_right _ (List.mem_append_right _ (List.mem_append_right _ (List.mem_append_right _ (List.mem_append_right _ (List.mem_append_right _ (List.mem_append_right _ (List.mem_append_right _ (List.mem_append_right _ (List.mem_append_right _ (List.mem_append_right _ (List.mem_append_right _ (List.mem_append_right _ (List.mem_append_right _ (List.mem_append_right _ (List.mem_append_left _ h))))))))))))))))))))))))))))))))))
theorem lr_28 : ∀ w ∈ wsL_law_r28, w ∈ wsL_law := fun _ h => List.mem_append_left _ (List.mem_append_left _ (List.mem_append_left _ (List.mem_append_left _ (List.mem_append_left _ (List.mem_append_left _ (List.mem_append_left _ (List.mem_append_left _ (List.mem_append_right _ (List.mem_append_right _ (List.mem_append_right _ (List.mem_append_right _ (List.mem_append_right _ (List.mem_append_right _ (List.mem_append_right _ (List.mem_append_right _ (List.mem_append_right _ (List.mem_append_right _ (List.mem_append_right _ (List.mem_append_right _ (List.mem_append_right _ (List.mem_append_right _ (List.mem_append_right _ (List.mem_append_right _ (List.mem_append_right _ (List.mem_append_right _ (List.mem_append_right _ (List.mem_append_right _ (List.mem_append_right _ (List.mem_append_right _ (List.mem_append_right _ (List.mem_append_right _ (List.mem_append_right _ (List.mem_append_right _ (List.mem_append_right _ (List.mem_append_left _ h)))))))))))))))))))))))))))))))))))
theorem lr_29 : ∀ w ∈ wsL_law_r29, w ∈ wsL_law := fun _ h => List.mem_append_left _ (List.mem_append_left _ (List.mem_append_left _ (List.mem_append_left _ (List.mem_append_left _ (List.mem_append_left _ (List.mem_append_left _ (List.mem_append_left _ (List.mem_append_right _ (List.mem_append_right _ (List.mem_append_right _ (List.mem_append_right _ (List.mem_append_right _ (List.mem_append_right _ (List.mem_append_right _ (List.mem_append_right _ (List.mem_append_right _ (List.mem_append_right _ (List.mem_append_right _ (List.mem_append_right _ (List.mem_append_right _ (List.mem_append_right _ (List.mem_append_right _ (List.mem_append_right _ (List.mem_append_right _ (List.mem_append_right _ (List.mem_append_right _ (List.mem_append_right _ (List.mem_append_right _ (List.mem_append_right _ (List.mem_append_right _ (List.mem_append_right _ (List.mem_append_right _ (List.mem_append_right _ (List.mem_append_right _ (List.mem_append_right _ (List.mem_append_left _ h))))))))))))))))))))))))))))))))))))
theorem lr_30 : ∀ w ∈ wsL_law_r30, w ∈ wsL_law := fun _ h => List.mem_append_left _ (List.mem_append_left _ (List.mem_append_left _ (List.mem_append_left _ (List.mem_append_left _ (List.mem_append_left _ (List.mem_append_left _ (List.mem_append_left _ (List.mem_append_right _ (List.mem_append_right _ (List.mem_append_right _ (List.mem_append_right _ (List.mem_append_right _ (List.mem_append_right _ (List.mem_append_right _ (List.mem_append_right _ (List.mem_append_right _ (List.mem_append_right _ (List.mem_append_right _ (List.mem_append_right _ (List.mem_append_right _ (List.mem_append_right _ (List.mem_append_right _ (List.mem_append_right _ (List.mem_append_right _ (List.mem_append_right _ (List.mem_append_right _ (List.mem_append_right _ (List.mem_append_right _ (List.mem_append_right _ (List.mem_append_right _ (List.mem_append_right _ (List.mem_append_right _ (List.mem_append_right _ (List.mem_append_right _ (List.mem_append_right _ (List.mem_append_right _ (List.mem_append_left _ h)))))))))))))))))))))))))))))))))))))
theorem lr_31 : ∀ w ∈ wsL_law_r31, w ∈ wsL_law := fun _ h => List.mem_append_left _ (List.mem_append_left _ (List.mem_append_left _ (List.mem_append_left _ (List.mem_append_left _ (List.mem_append_left _ (List.mem_append_left _ (List.mem_append_left _ (List.mem_append_right _ (List.mem_append_right _ (List.mem_append_right _ (List.mem_append_right _ (List.mem_append_right _ (List.mem_append_right _ (List.mem_append_right _ (List.mem_append_right _ (List.mem_append_right _ (List.mem_append_right _ (List.mem_append_right _ (List.mem_append_right _ (List.mem_append_right _ (List.mem_append_right _ (List.mem_append_right _ (List.mem_append_right _ (List.mem_append_right _ (List.mem_append_right _ (List.mem_append_right _ (List.mem_append_right _ (List.mem_append_right _ (List.mem_append_right _ (List.mem_append_right _ (List.mem_append_right _ (List.mem_append_right _ (List.mem_append_right _ (List.mem_append_right _ (List.mem_append_right _ (List.mem_append_right _ (List.mem_append_right _ (h))))))))))))))))))))))))))))))))))))))
section LFM
variable {p : Program} {l : Launch} {e : Env} {R : Room} {s : State} {m : MethodId} {args : Array Value} {below : List Frame} {meth : Method} {c : Code} {H : Heap} {locs : List Loc} {Q : State → Prop}
variable {cc : ByteArray} {pc : Nat} {ls : Array Slot} {rest : List Value} {D : va_G} {A : Nat → Prop} {own : String} {nL : Nat} {ret : Option FieldType} {σ : lf_St} {ha : Nat → Nat} {cy : Nat → ClassId}

theorem fg_X6_7 (F : lf_C p s m args meth c RX6 cc nL ret D (tyM_ cy) A) (hh : lf_H D (wM_ ha cy) A s σ H locs) (hdg : decode cc pc = .ok (.getfield 7, 3)) (kk : W p l e R s m args below meth c H locs 0 0 Q (F0 m (pc + 3) ls (.ref (ha 1) :: rest))) : W p l e R s m args below meth c H locs 0 0 Q (F0 m pc ls (.ref (ha 0) :: rest)) :=
  va_get (D := D) (ci := 6) (C := RX6) (T := TX6) (N := 26) F.1.1 F.1.2.1 F.1.2.2.2.2 inlX6 F.1.2.2.2.1 F.2.2.2.2 hh.1 0 rfl rfl 1 (by decide) (F.1.2.2.2.2 _ (lr_4 _ (List.mem_of_getElem? (i := 10) rfl))) (fun _ h9 => h9) rfl hdg kk
theorem fg_X6_13 (F : lf_C p s m args meth c RX6 cc nL ret D (tyM_ cy) A) (hh : lf_H D (wM_ ha cy) A s σ H locs) (hdg : decode cc pc = .ok (.getfield 13, 3)) (kk : W p l e R s m args below meth c H locs 0 0 Q (F0 m (pc + 3) ls (.ref (ha 2) :: rest))) : W p l e R s m args below meth c H locs 0 0 Q (F0 m pc ls (.ref (ha 0) :: rest)) :=
  va_get (D := D) (ci := 6) (C := RX6) (T := TX6) (N := 26) F.1.1 F.1.2.1 F.1.2.2.2.2 inlX6 F.1.2.2.2.1 F.2.2.2.2 hh.1 0 rfl rfl 2 (by decide) (F.1.2.2.2.2 _ (lr_4 _ (List.mem_of_getElem? (i := 11) rfl))) (fun _ h9 => h9) rfl hdg kk
theorem fg_X6_16 (F : lf_C p s m args meth c RX6 cc nL ret D (tyM_ cy) A) (hh : lf_H D (wM_ ha cy) A s σ H locs) (hdg : decode cc pc = .ok (.getfield 16, 3)) (kk : W p l e R s m args below meth c H locs 0 0 Q (F0 m (pc + 3) ls (.ref (ha 3) :: rest))) : W p l e R s m args below meth c H locs 0 0 Q (F0 m pc ls (.ref (ha 0) :: rest)) :=
  va_get (D := D) (ci := 6) (C := RX6) (T := TX6) (N := 26) F.1.1 F.1.2.1 F.1.2.2.2.2 inlX6 F.1.2.2.2.1 F.2.2.2.2 hh.1 0 rfl rfl 3 (by decide) (F.1.2.2.2.2 _ (lr_4 _ (List.mem_of_getElem? (i := 13) rfl))) (fun _ h9 => h9) rfl hdg kk
theorem fg_X6_20 (F : lf_C p s m args meth c RX6 cc nL ret D (tyM_ cy) A) (hh : lf_H D (wM_ ha cy) A s σ H locs) (hdg : decode cc pc = .ok (.getfield 20, 3)) (kk : W p l e R s m args below meth c H locs 0 0 Q (F0 m (pc + 3) ls (.ref (ha 4) :: rest))) : W p l e R s m args below meth c H locs 0 0 Q (F0 m pc ls (.ref (ha 0) :: rest)) :=
  va_get (D := D) (ci := 6) (C := RX6) (T := TX6) (N := 26) F.1.1 F.1.2.1 F.1.2.2.2.2 inlX6 F.1.2.2.2.1 F.2.2.2.2 hh.1 0 rfl rfl 4 (by decide) (F.1.2.2.2.2 _ (lr_4 _ (List.mem_of_getElem? (i := 14) rfl))) (fun _ h9 => h9) rfl hdg kk
theorem fg_X6_23 (F : lf_C p s m args meth c RX6 cc nL ret D (tyM_ cy) A) (hh : lf_H D (wM_ ha cy) A s σ H locs) (hdg : decode cc pc = .ok (.getfield 23, 3)) (kk : W p l e R s m args below meth c H locs 0 0 Q (F0 m (pc + 3) ls (.ref (ha 5) :: rest))) : W p l e R s m args below meth c H locs 0 0 Q (F0 m pc ls (.ref (ha 0) :: rest)) :=
  va_get (D := D) (ci := 6) (C := RX6) (T := TX6) (N := 26) F.1.1 F.1.2.1 F.1.2.2.2.2 inlX6 F.1.2.2.2.1 F.2.2.2.2 hh.1 0 rfl rfl 5 (by decide) (F.1.2.2.2.2 _ (lr_4 _ (List.mem_of_getElem? (i := 15) rfl))) (fun _ h9 => h9) rfl hdg kk
theorem fg_X6_26 (F : lf_C p s m args meth c RX6 cc nL ret D (tyM_ cy) A) (hh : lf_H D (wM_ ha cy) A s σ H locs) (hdg : decode cc pc = .ok (.getfield 26, 3)) (kk : W p l e R s m args below meth c H locs 0 0 Q (F0 m (pc + 3) ls (.ref (ha 7) :: rest))) : W p l e R s m args below meth c H locs 0 0 Q (F0 m pc ls (.ref (ha 0) :: rest)) :=
  va_get (D := D) (ci := 6) (C := RX6) (T := TX6) (N := 26) F.1.1 F.1.2.1 F.1.2.2.2.2 inlX6 F.1.2.2.2.1 F.2.2.2.2 hh.1 0 rfl rfl 7 (by decide) (F.1.2.2.2.2 _ (lr_4 _ (List.mem_of_getElem? (i := 16) rfl))) (fun _ h9 => h9) rfl hdg kk
theorem fg_X6_29 (F : lf_C p s m args meth c RX6 cc nL ret D (tyM_ cy) A) (hh : lf_H D (wM_ ha cy) A s σ H locs) (hdg : decode cc pc = .ok (.getfield 29, 3)) (kk : W p l e R s m args below meth c H locs 0 0 Q (F0 m (pc + 3) ls (.ref (ha 8) :: rest))) : W p l e R s m args below meth c H locs 0 0 Q (F0 m pc ls (.ref (ha 0) :: rest)) :=
  va_get (D := D) (ci := 6) (C := RX6) (T := TX6) (N := 26) F.1.1 F.1.2.1 F.1.2.2.2.2 inlX6 F.1.2.2.2.1 F.2.2.2.2 hh.1 0 rfl rfl 8 (by decide) (F.1.2.2.2.2 _ (lr_4 _ (List.mem_of_getElem? (i := 17) rfl))) (fun _ h9 => h9) rfl hdg kk
theorem fg_X6_32 (F : lf_C p s m args meth c RX6 cc nL ret D (tyM_ cy) A) (hh : lf_H D (wM_ ha cy) A s σ H locs) (hdg : decode cc pc = .ok (.getfield 32, 3)) (kk : W p l e R s m args below meth c H locs 0 0 Q (F0 m (pc + 3) ls (.ref (ha 10) :: rest))) : W p l e R s m args below meth c H locs 0 0 Q (F0 m pc ls (.ref (ha 0) :: rest)) :=
  va_get (D := D) (ci := 6) (C := RX6) (T := TX6) (N := 26) F.1.1 F.1.2.1 F.1.2.2.2.2 inlX6 F.1.2.2.2.1 F.2.2.2.2 hh.1 0 rfl rfl 10 (by decide) (F.1.2.2.2.2 _ (lr_4 _ (List.mem_of_getElem? (i := 18) rfl))) (fun _ h9 => h9) rfl hdg kk
theorem fg_X6_35 (F : lf_C p s m args meth c RX6 cc nL ret D (tyM_ cy) A) (hh : lf_H D (wM_ ha cy) A s σ H locs) (hdg : decode cc pc = .ok (.getfield 35, 3)) (kk : W p l e R s m args below meth c H locs 0 0 Q (F0 m (pc + 3) ls (.ref (ha 13) :: rest))) : W p l e R s m args below meth c H locs 0 0 Q (F0 m pc ls (.ref (ha 0) :: rest)) :=
  va_get (D := D) (ci := 6) (C := RX6) (T := TX6) (N := 26) F.1.1 F.1.2.1 F.1.2.2.2.2 inlX6 F.1.2.2.2.1 F.2.2.2.2 hh.1 0 rfl rfl 13 (by decide) (F.1.2.2.2.2 _ (lr_4 _ (List.mem_of_getElem? (i := 19) rfl))) (fun _ h9 => h9) rfl hdg kk
theorem fg_X6_38 (F : lf_C p s m args meth c RX6 cc nL ret D (tyM_ cy) A) (hh : lf_H D (wM_ ha cy) A s σ H locs) (hdg : decode cc pc = .ok (.getfield 38, 3)) (kk : W p l e R s m args below meth c H locs 0 0 Q (F0 m (pc + 3) ls (.ref (ha 15) :: rest))) : W p l e R s m args below meth c H locs 0 0 Q (F0 m pc ls (.ref (ha 0) :: rest)) :=
  va_get (D := D) (ci := 6) (C := RX6) (T := TX6) (N := 26) F.1.1 F.1.2.1 F.1.2.2.2.2 inlX6 F.1.2.2.2.1 F.2.2.2.2 hh.1 0 rfl rfl 15 (by decide) (F.1.2.2.2.2 _ (lr_4 _ (List.mem_of_getElem? (i := 20) rfl))) (fun _ h9 => h9) rfl hdg kk
theorem fg_X6_42 (F : lf_C p s m args meth c RX6 cc nL ret D (tyM_ cy) A) (hh : lf_H D (wM_ ha cy) A s σ H locs) (hdg : decode cc pc = .ok (.getfield 42, 3)) (kk : W p l e R s m args below meth c H locs 0 0 Q (F0 m (pc + 3) ls (.ref (ha 16) :: rest))) : W p l e R s m args below meth c H locs 0 0 Q (F0 m pc ls (.ref (ha 0) :: rest)) :=
  va_get (D := D) (ci := 6) (C := RX6) (T := TX6) (N := 26) F.1.1 F.1.2.1 F.1.2.2.2.2 inlX6 F.1.2.2.2.1 F.2.2.2.2 hh.1 0 rfl rfl 16 (by decide) (F.1.2.2.2.2 _ (lr_4 _ (List.mem_of_getElem? (i := 21) rfl))) (fun _ h9 => h9) rfl hdg kk
theorem fg_X6_45 (F : lf_C p s m args meth c RX6 cc nL ret D (tyM_ cy) A) (hh : lf_H D (wM_ ha cy) A s σ H locs) (hdg : decode cc pc = .ok (.getfield 45, 3)) (kk : W p l e R s m args below meth c H locs 0 0 Q (F0 m (pc + 3) ls (.ref (ha 17) :: rest))) : W p l e R s m args below meth c H locs 0 0 Q (F0 m pc ls (.ref (ha 0) :: rest)) :=
  va_get (D := D) (ci := 6) (C := RX6) (T := TX6) (N := 26) F.1.1 F.1.2.1 F.1.2.2.2.2 inlX6 F.1.2.2.2.1 F.2.2.2.2 hh.1 0 rfl rfl 17 (by decide) (F.1.2.2.2.2 _ (lr_4 _ (List.mem_of_getElem? (i := 22) rfl))) (fun _ h9 => h9) rfl hdg kk
theorem fg_X6_48 (F : lf_C p s m args meth c RX6 cc nL ret D (tyM_ cy) A) (hh : lf_H D (wM_ ha cy) A s σ H locs) (hdg : decode cc pc = .ok (.getfield 48, 3)) (kk : W p l e R s m args below meth c H locs 0 0 Q (F0 m (pc + 3) ls (.ref (ha 19) :: rest))) : W p l e R s m args below meth c H locs 0 0 Q (F0 m pc ls (.ref (ha 0) :: rest)) :=
  va_get (D := D) (ci := 6) (C := RX6) (T := TX6) (N := 26) F.1.1 F.1.2.1 F.1.2.2.2.2 inlX6 F.1.2.2.2.1 F.2.2.2.2 hh.1 0 rfl rfl 19 (by decide) (F.1.2.2.2.2 _ (lr_4 _ (List.mem_of_getElem? (i := 23) rfl))) (fun _ h9 => h9) rfl hdg kk
theorem fg_X6_51 (F : lf_C p s m args meth c RX6 cc nL ret D (tyM_ cy) A) (hh : lf_H D (wM_ ha cy) A s σ H locs) (hdg : decode cc pc = .ok (.getfield 51, 3)) (kk : W p l e R s m args below meth c H locs 0 0 Q (F0 m (pc + 3) ls (.ref (ha 21) :: rest))) : W p l e R s m args below meth c H locs 0 0 Q (F0 m pc ls (.ref (ha 0) :: rest)) :=
  va_get (D := D) (ci := 6) (C := RX6) (T := TX6) (N := 26) F.1.1 F.1.2.1 F.1.2.2.2.2 inlX6 F.1.2.2.2.1 F.2.2.2.2 hh.1 0 rfl rfl 21 (by decide) (F.1.2.2.2.2 _ (lr_5 _ (List.mem_of_getElem? (i := 0) rfl))) (fun _ h9 => h9) rfl hdg kk
theorem fg_X6_54 (F : lf_C p s m args meth c RX6 cc nL ret D (tyM_ cy) A) (hh : lf_H D (wM_ ha cy) A s σ H locs) (hdg : decode cc pc = .ok (.getfield 54, 3)) (kk : W p l e R s m args below meth c H locs 0 0 Q (F0 m (pc + 3) ls (.ref (ha 24) :: rest))) : W p l e R s m args below meth c H locs 0 0 Q (F0 m pc ls (.ref (ha 0) :: rest)) :=
  va_get (D := D) (ci := 6) (C := RX6) (T := TX6) (N := 26) F.1.1 F.1.2.1 F.1.2.2.2.2 inlX6 F.1.2.2.2.1 F.2.2.2.2 hh.1 0 rfl rfl 24 (by decide) (F.1.2.2.2.2 _ (lr_5 _ (List.mem_of_getElem? (i := 1) rfl))) (fun _ h9 => h9) rfl hdg kk
theorem fg_X6_57 (F : lf_C p s m args meth c RX6 cc nL ret D (tyM_ cy) A) (hh : lf_H D (wM_ ha cy) A s σ H locs) (hdg : decode cc pc = .ok (.getfield 57, 3)) (kk : W p l e R s m args below meth c H locs 0 0 Q (F0 m (pc + 3) ls (.int (lf_gi σ 0) :: rest))) : W p l e R s m args below meth c H locs 0 0 Q (F0 m pc ls (.ref (ha 0) :: rest)) :=
  va_get (D := D) (ci := 6) (C := RX6) (T := TX6) (N := 26) F.1.1 F.1.2.1 F.1.2.2.2.2 inlX6 F.1.2.2.2.1 F.2.2.2.2 hh.1 0 rfl rfl 0 (by decide) (F.1.2.2.2.2 _ (lr_6 _ (List.mem_of_getElem? (i := 12) rfl))) (fun _ h9 => h9) rfl hdg kk
theorem fp_X6_57 {v : Int32} (F : lf_C p s m args meth c RX6 cc nL ret D (tyM_ cy) A) (hh : lf_H D (wM_ ha cy) A s σ H locs) (hdg : decode cc pc = .ok (.putfield 57, 3)) (kk : ∀ (H1 : Heap) (locs1 : List Loc), lf_H D (wM_ ha cy) A s (lf_si σ 0 v) H1 locs1 → W p l e R s m args below meth c H1 locs1 0 0 Q (F0 m (pc + 3) ls (rest))) : W p l e R s m args below meth c H locs 0 0 Q (F0 m pc ls (.int v :: .ref (ha 0) :: rest)) :=
  va_put (D := D) (ci := 6) (ty := .int) (C := RX6) (T := TX6) (N := 26) F.1.1 F.1.2.1 F.1.2.2.2.2 inlX6 tyX6 tyX6_ok nmX6 F.1.2.2.2.1 F.2.2.2.2 hh.1 hh.2.1 hh.2.2 0 rfl rfl 0 (by decide) (F.1.2.2.2.2 _ (lr_6 _ (List.mem_of_getElem? (i := 12) rfl))) (fun _ h9 => h9) rfl (by decide +kernel) rfl rfl (Nat.le_of_ble_eq_true rfl) hdg (fun H1 locs1 h1 h2 h3 => kk H1 locs1 ⟨h1, h2, h3⟩)
theorem fg_X6_65 (F : lf_C p s m args meth c RX6 cc nL ret D (tyM_ cy) A) (hh : lf_H D (wM_ ha cy) A s σ H locs) (hdg : decode cc pc = .ok (.getfield 65, 3)) (kk : W p l e R s m args below meth c H locs 0 0 Q (F0 m (pc + 3) ls (.int (lf_gi σ 6) :: rest))) : W p l e R s m args below meth c H locs 0 0 Q (F0 m pc ls (.ref (ha 0) :: rest)) :=
  va_get (D := D) (ci := 6) (C := RX6) (T := TX6) (N := 26) F.1.1 F.1.2.1 F.1.2.2.2.2 inlX6 F.1.2.2.2.1 F.2.2.2.2 hh.1 0 rfl rfl 6 (by decide) (F.1.2.2.2.2 _ (lr_8 _ (List.mem_of_getElem? (i := 22) rfl))) (fun _ h9 => h9) rfl hdg kk
theorem fp_X6_65 {v : Int32} (F : lf_C p s m args meth c RX6 cc nL ret D (tyM_ cy) A) (hh : lf_H D (wM_ ha cy) A s σ H locs) (hdg : decode cc pc = .ok (.putfield 65, 3)) (kk : ∀ (H1 : Heap) (locs1 : List Loc), lf_H D (wM_ ha cy) A s (lf_si σ 6 v) H1 locs1 → W p l e R s m args below meth c H1 locs1 0 0 Q (F0 m (pc + 3) ls (rest))) : W p l e R s m args below meth c H locs 0 0 Q (F0 m pc ls (.int v :: .ref (ha 0) :: rest)) :=
  va_put (D := D) (ci := 6) (ty := .int) (C := RX6) (T := TX6) (N := 26) F.1.1 F.1.2.1 F.1.2.2.2.2 inlX6 tyX6 tyX6_ok nmX6 F.1.2.2.2.1 F.2.2.2.2 hh.1 hh.2.1 hh.2.2 0 rfl rfl 6 (by decide) (F.1.2.2.2.2 _ (lr_8 _ (List.mem_of_getElem? (i := 22) rfl))) (fun _ h9 => h9) rfl (by decide +kernel) rfl rfl (Nat.le_of_ble_eq_true rfl) hdg (fun H1 locs1 h1 h2 h3 => kk H1 locs1 ⟨h1, h2, h3⟩)
theorem fg_X6_78 (F : lf_C p s m args meth c RX6 cc nL ret D (tyM_ cy) A) (hh : lf_H D (wM_ ha cy) A s σ H locs) (hdg : decode cc pc = .ok (.getfield 78, 3)) (kk : W p l e R s m args below meth c H locs 0 0 Q (F0 m (pc + 3) ls (.int (lf_gi σ 12) :: rest))) : W p l e R s m args below meth c H locs 0 0 Q (F0 m pc ls (.ref (ha 0) :: rest)) :=
  va_get (D := D) (ci := 6) (C := RX6) (T := TX6) (N := 26) F.1.1 F.1.2.1 F.1.2.2.2.2 inlX6 F.1.2.2.2.1 F.2.2.2.2 hh.1 0 rfl rfl 12 (by decide) (F.1.2.2.2.2 _ (lr_6 _ (List.mem_of_getElem? (i := 13) rfl))) (fun _ h9 => h9) rfl hdg kk
theorem fp_X6_78 {v : Int32} (F : lf_C p s m args meth c RX6 cc nL ret D (tyM_ cy) A) (hh : lf_H D (wM_ ha cy) A s σ H locs) (hn : fits .boolean (.int v) = true) (hdg : decode cc pc = .ok (.putfield 78, 3)) (kk : ∀ (H1 : Heap) (locs1 : List Loc), lf_H D (wM_ ha cy) A s (lf_si σ 12 v) H1 locs1 → W p l e R s m args below meth c H1 locs1 0 0 Q (F0 m (pc + 3) ls (rest))) : W p l e R s m args below meth c H locs 0 0 Q (F0 m pc ls (.int v :: .ref (ha 0) :: rest)) :=
  va_put (D := D) (ci := 6) (ty := .boolean) (C := RX6) (T := TX6) (N := 26) F.1.1 F.1.2.1 F.1.2.2.2.2 inlX6 tyX6 tyX6_ok nmX6 F.1.2.2.2.1 F.2.2.2.2 hh.1 hh.2.1 hh.2.2 0 rfl rfl 12 (by decide) (F.1.2.2.2.2 _ (lr_6 _ (List.mem_of_getElem? (i := 13) rfl))) (fun _ h9 => h9) rfl (by decide +kernel) (lf_nz hn) hn (Nat.le_of_ble_eq_true rfl) hdg (fun H1 locs1 h1 h2 h3 => kk H1 locs1 ⟨h1, h2, h3⟩)
theorem fg_X6_99 (F : lf_C p s m args meth c RX6 cc nL ret D (tyM_ cy) A) (hh : lf_H D (wM_ ha cy) A s σ H locs) (hdg : decode cc pc = .ok (.getfield 99, 3)) (kk : W p l e R s m args below meth c H locs 0 0 Q (F0 m (pc + 3) ls (.int (lf_gi σ 9) :: rest))) : W p l e R s m args below meth c H locs 0 0 Q (F0 m pc ls (.ref (ha 0) :: rest)) :=
  va_get (D := D) (ci := 6) (C := RX6) (T := TX6) (N := 26) F.1.1 F.1.2.1 F.1.2.2.2.2 inlX6 F.1.2.2.2.1 F.2.2.2.2 hh.1 0 rfl rfl 9 (by decide) (F.1.2.2.2.2 _ (lr_11 _ (List.mem_of_getElem? (i := 22) rfl))) (fun _ h9 => h9) rfl hdg kk
theorem fp_X6_99 {v : Int32} (F : lf_C p s m args meth c RX6 cc nL ret D (tyM_ cy) A) (hh : lf_H D (wM_ ha cy) A s σ H locs) (hdg : decode cc pc = .ok (.putfield 99, 3)) (kk : ∀ (H1 : Heap) (locs1 : List Loc), lf_H D (wM_ ha cy) A s (lf_si σ 9 v) H1 locs1 → W p l e R s m args below meth c H1 locs1 0 0 Q (F0 m (pc + 3) ls (rest))) : W p l e R s m args below meth c H locs 0 0 Q (F0 m pc ls (.int v :: .ref (ha 0) :: rest)) :=
  va_put (D := D) (ci := 6) (ty := .int) (C := RX6) (T := TX6) (N := 26) F.1.1 F.1.2.1 F.1.2.2.2.2 inlX6 tyX6 tyX6_ok nmX6 F.1.2.2.2.1 F.2.2.2.2 hh.1 hh.2.1 hh.2.2 0 rfl rfl 9 (by decide) (F.1.2.2.2.2 _ (lr_11 _ (List.mem_of_getElem? (i := 22) rfl))) (fun _ h9 => h9) rfl (by decide +kernel) rfl rfl (Nat.le_of_ble_eq_true rfl) hdg (fun H1 locs1 h1 h2 h3 => kk H1 locs1 ⟨h1, h2, h3⟩)
theorem fg_X6_104 (F : lf_C p s m args meth c RX6 cc nL ret D (tyM_ cy) A) (hh : lf_H D (wM_ ha cy) A s σ H locs) (hdg : decode cc pc = .ok (.getfield 104, 3)) (kk : W p l e R s m args below meth c H locs 0 0 Q (F0 m (pc + 3) ls (.int (lf_gi σ 11) :: rest))) : W p l e R s m args below meth c H locs 0 0 Q (F0 m pc ls (.ref (ha 0) :: rest)) :=
  va_get (D := D) (ci := 6) (C := RX6) (T := TX6) (N := 26) F.1.1 F.1.2.1 F.1.2.2.2.2 inlX6 F.1.2.2.2.1 F.2.2.2.2 hh.1 0 rfl rfl 11 (by decide) (F.1.2.2.2.2 _ (lr_12 _ (List.mem_of_getElem? (i := 9) rfl))) (fun _ h9 => h9) rfl hdg kk
theorem fp_X6_104 {v : Int32} (F : lf_C p s m args meth c RX6 cc nL ret D (tyM_ cy) A) (hh : lf_H D (wM_ ha cy) A s σ H locs) (hdg : decode cc pc = .ok (.putfield 104, 3)) (kk : ∀ (H1 : Heap) (locs1 : List Loc), lf_H D (wM_ ha cy) A s (lf_si σ 11 v) H1 locs1 → W p l e R s m args below meth c H1 locs1 0 0 Q (F0 m (pc + 3) ls (rest))) : W p l e R s m args below meth c H locs 0 0 Q (F0 m pc ls (.int v :: .ref (ha 0) :: rest)) :=
  va_put (D := D) (ci := 6) (ty := .int) (C := RX6) (T := TX6) (N := 26) F.1.1 F.1.2.1 F.1.2.2.2.2 inlX6 tyX6 tyX6_ok nmX6 F.1.2.2.2.1 F.2.2.2.2 hh.1 hh.2.1 hh.2.2 0 rfl rfl 11 (by decide) (F.1.2.2.2.2 _ (lr_12 _ (List.mem_of_getElem? (i := 9) rfl))) (fun _ h9 => h9) rfl (by decide +kernel) rfl rfl (Nat.le_of_ble_eq_true rfl) hdg (fun H1 locs1 h1 h2 h3 => kk H1 locs1 ⟨h1, h2, h3⟩)
theorem fg_X6_119 (F : lf_C p s m args meth c RX6 cc nL ret D (tyM_ cy) A) (hh : lf_H D (wM_ ha cy) A s σ H locs) (hdg : decode cc pc = .ok (.getfield 119, 3)) (kk : W p l e R s m args below meth c H locs 0 0 Q (F0 m (pc + 3) ls (.int (lf_gi σ 14) :: rest))) : W p l e R s m args below meth c H locs 0 0 Q (F0 m pc ls (.ref (ha 0) :: rest)) :=
  va_get (D := D) (ci := 6) (C := RX6) (T := TX6) (N := 26) F.1.1 F.1.2.1 F.1.2.2.2.2 inlX6 F.1.2.2.2.1 F.2.2.2.2 hh.1 0 rfl rfl 14 (by decide) (F.1.2.2.2.2 _ (lr_20 _ (List.mem_of_getElem? (i := 15) rfl))) (fun _ h9 => h9) rfl hdg kk
theorem fp_X6_119 {v : Int32} (F : lf_C p s m args meth c RX6 cc nL ret D (tyM_ cy) A) (hh : lf_H D (wM_ ha cy) A s σ H locs) (hdg : decode cc pc = .ok (.putfield 119, 3)) (kk : ∀ (H1 : Heap) (locs1 : List Loc), lf_H D (wM_ ha cy) A s (lf_si σ 14 v) H1 locs1 → W p l e R s m args below meth c H1 locs1 0 0 Q (F0 m (pc + 3) ls (rest))) : W p l e R s m args below meth c H locs 0 0 Q (F0 m pc ls (.int v :: .ref (ha 0) :: rest)) :=
  va_put (D := D) (ci := 6) (ty := .int) (C := RX6) (T := TX6) (N := 26) F.1.1 F.1.2.1 F.1.2.2.2.2 inlX6 tyX6 tyX6_ok nmX6 F.1.2.2.2.1 F.2.2.2.2 hh.1 hh.2.1 hh.2.2 0 rfl rfl 14 (by decide) (F.1.2.2.2.2 _ (lr_20 _ (List.mem_of_getElem? (i := 15) rfl))) (fun _ h9 => h9) rfl (by decide +kernel) rfl rfl (Nat.le_of_ble_eq_true rfl) hdg (fun H1 locs1 h1 h2 h3 => kk H1 locs1 ⟨h1, h2, h3⟩)
theorem fg_X6_126 (F : lf_C p s m args meth c RX6 cc nL ret D (tyM_ cy) A) (hh : lf_H D (wM_ ha cy) A s σ H locs) (hdg : decode cc pc = .ok (.getfield 126, 3)) (kk : W p l e R s m args below meth c H locs 0 0 Q (F0 m (pc + 3) ls (.int (lf_gi σ 18) :: rest))) : W p l e R s m args below meth c H locs 0 0 Q (F0 m pc ls (.ref (ha 0) :: rest)) :=
  va_get (D := D) (ci := 6) (C := RX6) (T := TX6) (N := 26) F.1.1 F.1.2.1 F.1.2.2.2.2 inlX6 F.1.2.2.2.1 F.2.2.2.2 hh.1 0 rfl rfl 18 (by decide) (F.1.2.2.2.2 _ (lr_20 _ (List.mem_of_getElem? (i := 20) rfl))) (fun _ h9 => h9) rfl hdg kk
theorem fp_X6_126 {v : Int32} (F : lf_C p s m args meth c RX6 cc nL ret D (tyM_ cy) A) (hh : lf_H D (wM_ ha cy) A s σ H locs) (hdg : decode cc pc = .ok (.putfield 126, 3)) (kk : ∀ (H1 : Heap) (locs1 : List Loc), lf_H D (wM_ ha cy) A s (lf_si σ 18 v) H1 locs1 → W p l e R s m args below meth c H1 locs1 0 0 Q (F0 m (pc + 3) ls (rest))) : W p l e R s m args below meth c H locs 0 0 Q (F0 m pc ls (.int v :: .ref (ha 0) :: rest)) :=
  va_put (D := D) (ci := 6) (ty := .int) (C := RX6) (T := TX6) (N := 26) F.1.1 F.1.2.1 F.1.2.2.2.2 inlX6 tyX6 tyX6_ok nmX6 F.1.2.2.2.1 F.2.2.2.2 hh.1 hh.2.1 hh.2.2 0 rfl rfl 18 (by decide) (F.1.2.2.2.2 _ (lr_20 _ (List.mem_of_getElem? (i := 20) rfl))) (fun _ h9 => h9) rfl (by decide +kernel) rfl rfl (Nat.le_of_ble_eq_true rfl) hdg (fun H1 locs1 h1 h2 h3 => kk H1 locs1 ⟨h1, h2, h3⟩)
theorem fg_X6_136 (F : lf_C p s m args meth c RX6 cc nL ret D (tyM_ cy) A) (hh : lf_H D (wM_ ha cy) A s σ H locs) (hdg : decode cc pc = .ok (.getfield 136, 3)) (kk : W p l e R s m args below meth c H locs 0 0 Q (F0 m (pc + 3) ls (.long (lf_gl σ 20) :: rest))) : W p l e R s m args below meth c H locs 0 0 Q (F0 m pc ls (.ref (ha 0) :: rest)) :=
  va_get (D := D) (ci := 6) (C := RX6) (T := TX6) (N := 26) F.1.1 F.1.2.1 F.1.2.2.2.2 inlX6 F.1.2.2.2.1 F.2.2.2.2 hh.1 0 rfl rfl 20 (by decide) (F.1.2.2.2.2 _ (lr_20 _ (List.mem_of_getElem? (i := 21) rfl))) (fun _ h9 => h9) rfl hdg kk
theorem fp_X6_136 {v : Int64} (F : lf_C p s m args meth c RX6 cc nL ret D (tyM_ cy) A) (hh : lf_H D (wM_ ha cy) A s σ H locs) (hdg : decode cc pc = .ok (.putfield 136, 3)) (kk : ∀ (H1 : Heap) (locs1 : List Loc), lf_H D (wM_ ha cy) A s (lf_sl σ 20 v) H1 locs1 → W p l e R s m args below meth c H1 locs1 0 0 Q (F0 m (pc + 3) ls (rest))) : W p l e R s m args below meth c H locs 0 0 Q (F0 m pc ls (.long v :: .ref (ha 0) :: rest)) :=
  va_put (D := D) (ci := 6) (ty := .long) (C := RX6) (T := TX6) (N := 26) F.1.1 F.1.2.1 F.1.2.2.2.2 inlX6 tyX6 tyX6_ok nmX6 F.1.2.2.2.1 F.2.2.2.2 hh.1 hh.2.1 hh.2.2 0 rfl rfl 20 (by decide) (F.1.2.2.2.2 _ (lr_20 _ (List.mem_of_getElem? (i := 21) rfl))) (fun _ h9 => h9) rfl (by decide +kernel) rfl rfl (Nat.le_of_ble_eq_true rfl) hdg (fun H1 locs1 h1 h2 h3 => kk H1 locs1 ⟨h1, h2, h3⟩)
theorem fg_X6_168 (F : lf_C p s m args meth c RX6 cc nL ret D (tyM_ cy) A) (hh : lf_H D (wM_ ha cy) A s σ H locs) (hdg : decode cc pc = .ok (.getfield 168, 3)) (kk : W p l e R s m args below meth c H locs 0 0 Q (F0 m (pc + 3) ls (.long (lf_gl σ 23) :: rest))) : W p l e R s m args below meth c H locs 0 0 Q (F0 m pc ls (.ref (ha 0) :: rest)) :=
  va_get (D := D) (ci := 6) (C := RX6) (T := TX6) (N := 26) F.1.1 F.1.2.1 F.1.2.2.2.2 inlX6 F.1.2.2.2.1 F.2.2.2.2 hh.1 0 rfl rfl 23 (by decide) (F.1.2.2.2.2 _ (lr_23 _ (List.mem_of_getElem? (i := 0) rfl))) (fun _ h9 => h9) rfl hdg kk
theorem fp_X6_168 {v : Int64} (F : lf_C p s m args meth c RX6 cc nL ret D (tyM_ cy) A) (hh : lf_H D (wM_ ha cy) A s σ H locs) (hdg : decode cc pc = .ok (.putfield 168, 3)) (kk : ∀ (H1 : Heap) (locs1 : List Loc), lf_H D (wM_ ha cy) A s (lf_sl σ 23 v) H1 locs1 → W p l e R s m args below meth c H1 locs1 0 0 Q (F0 m (pc + 3) ls (rest))) : W p l e R s m args below meth c H locs 0 0 Q (F0 m pc ls (.long v :: .ref (ha 0) :: rest)) :=
  va_put (D := D) (ci := 6) (ty := .long) (C := RX6) (T := TX6) (N := 26) F.1.1 F.1.2.1 F.1.2.2.2.2 inlX6 tyX6 tyX6_ok nmX6 F.1.2.2.2.1 F.2.2.2.2 hh.1 hh.2.1 hh.2.2 0 rfl rfl 23 (by decide) (F.1.2.2.2.2 _ (lr_23 _ (List.mem_of_getElem? (i := 0) rfl))) (fun _ h9 => h9) rfl (by decide +kernel) rfl rfl (Nat.le_of_ble_eq_true rfl) hdg (fun H1 locs1 h1 h2 h3 => kk H1 locs1 ⟨h1, h2, h3⟩)
theorem fg_X6_171 (F : lf_C p s m args meth c RX6 cc nL ret D (tyM_ cy) A) (hh : lf_H D (wM_ ha cy) A s σ H locs) (hdg : decode cc pc = .ok (.getfield 171, 3)) (kk : W p l e R s m args below meth c H locs 0 0 Q (F0 m (pc + 3) ls (.long (lf_gl σ 22) :: rest))) : W p l e R s m args below meth c H locs 0 0 Q (F0 m pc ls (.ref (ha 0) :: rest)) :=
  va_get (D := D) (ci := 6) (C := RX6) (T := TX6) (N := 26) F.1.1 F.1.2.1 F.1.2.2.2.2 inlX6 F.1.2.2.2.1 F.2.2.2.2 hh.1 0 rfl rfl 22 (by decide) (F.1.2.2.2.2 _ (lr_23 _ (List.mem_of_getElem? (i := 1) rfl))) (fun _ h9 => h9) rfl hdg kk
theorem fp_X6_171 {v : Int64} (F : lf_C p s m args meth c RX6 cc nL ret D (tyM_ cy) A) (hh : lf_H D (wM_ ha cy) A s σ H locs) (hdg : decode cc pc = .ok (.putfield 171, 3)) (kk : ∀ (H1 : Heap) (locs1 : List Loc), lf_H D (wM_ ha cy) A s (lf_sl σ 22 v) H1 locs1 → W p l e R s m args below meth c H1 locs1 0 0 Q (F0 m (pc + 3) ls (rest))) : W p l e R s m args below meth c H locs 0 0 Q (F0 m pc ls (.long v :: .ref (ha 0) :: rest)) :=
  va_put (D := D) (ci := 6) (ty := .long) (C := RX6) (T := TX6) (N := 26) F.1.1 F.1.2.1 F.1.2.2.2.2 inlX6 tyX6 tyX6_ok nmX6 F.1.2.2.2.1 F.2.2.2.2 hh.1 hh.2.1 hh.2.2 0 rfl rfl 22 (by decide) (F.1.2.2.2.2 _ (lr_23 _ (List.mem_of_getElem? (i := 1) rfl))) (fun _ h9 => h9) rfl (by decide +kernel) rfl rfl (Nat.le_of_ble_eq_true rfl) hdg (fun H1 locs1 h1 h2 h3 => kk H1 locs1 ⟨h1, h2, h3⟩)
theorem fg_X6_201 (F : lf_C p s m args meth c RX6 cc nL ret D (tyM_ cy) A) (hh : lf_H D (wM_ ha cy) A s σ H locs) (hdg : decode cc pc = .ok (.getfield 201, 3)) (kk : W p l e R s m args below meth c H locs 0 0 Q (F0 m (pc + 3) ls (.long (lf_gl σ 25) :: rest))) : W p l e R s m args below meth c H locs 0 0 Q (F0 m pc ls (.ref (ha 0) :: rest)) :=
  va_get (D := D) (ci := 6) (C := RX6) (T := TX6) (N := 26) F.1.1 F.1.2.1 F.1.2.2.2.2 inlX6 F.1.2.2.2.1 F.2.2.2.2 hh.1 0 rfl rfl 25 (by decide) (F.1.2.2.2.2 _ (lr_30 _ (List.mem_of_getElem? (i := 4) rfl))) (fun _ h9 => h9) rfl hdg kk
theorem fp_X6_201 {v : Int64} (F : lf_C p s m args meth c RX6 cc nL ret D (tyM_ cy) A) (hh : lf_H D (wM_ ha cy) A s σ H locs) (hdg : decode cc pc = .ok (.putfield 201, 3)) (kk : ∀ (H1 : Heap) (locs1 : List Loc), lf_H D (wM_ ha cy) A s (lf_sl σ 25 v) H1 locs1 → W p l e R s m args below meth c H1 locs1 0 0 Q (F0 m (pc + 3) ls (rest))) : W p l e R s m args below meth c H locs 0 0 Q (F0 m pc ls (.long v :: .ref (ha 0) :: rest)) :=
  va_put (D := D) (ci := 6) (ty := .long) (C := RX6) (T := TX6) (N := 26) F.1.1 F.1.2.1 F.1.2.2.2.2 inlX6 tyX6 tyX6_ok nmX6 F.1.2.2.2.1 F.2.2.2.2 hh.1 hh.2.1 hh.2.2 0 rfl rfl 25 (by decide) (F.1.2.2.2.2 _ (lr_30 _ (List.mem_of_getElem? (i := 4) rfl))) (fun _ h9 => h9) rfl (by decide +kernel) rfl rfl (Nat.le_of_ble_eq_true rfl) hdg (fun H1 locs1 h1 h2 h3 => kk H1 locs1 ⟨h1, h2, h3⟩)
theorem ra_M_1 (F : lf_C p s m args meth c own cc nL ret D (tyM_ cy) A) (hh : lf_H D (wM_ ha cy) A s σ H locs) {i : Int32} (hin : vp_in i 6) (hdg : decode cc pc = .ok (.iaload, 1)) (kk : W p l e R s m args below meth c H locs 0 0 Q (F0 m (pc + 1) ls (.int (lf_ai σ 1 i.toNatClampNeg) :: rest))) : W p l e R s m args below meth c H locs 0 0 Q (F0 m pc ls (.int i :: .ref (ha 1) :: rest)) :=
  va_iald (D := D) F.1.1 F.1.2.1 F.2.2.2.2 hh.1 1 0 rfl rfl hin hdg kk
theorem wa_M_1 (F : lf_C p s m args meth c own cc nL ret D (tyM_ cy) A) (hh : lf_H D (wM_ ha cy) A s σ H locs) {i : Int32} {x : Int32} (hin : vp_in i 6) (hdg : decode cc pc = .ok (.iastore, 1)) (kk : ∀ (H1 : Heap) (locs1 : List Loc), lf_H D (wM_ ha cy) A s (lf_sa σ 1 i.toNatClampNeg x) H1 locs1 → W p l e R s m args below meth c H1 locs1 0 0 Q (F0 m (pc + 1) ls (rest))) : W p l e R s m args below meth c H locs 0 0 Q (F0 m pc ls (.int x :: .int i :: .ref (ha 1) :: rest)) :=
  va_iast (D := D) F.1.1 F.1.2.1 F.2.2.2.2 hh.1 hh.2.1 hh.2.2 1 0 rfl rfl hin hdg (fun H1 locs1 h1 h2 h3 => kk H1 locs1 ⟨h1, h2, h3⟩)
theorem ra_M_2 (F : lf_C p s m args meth c own cc nL ret D (tyM_ cy) A) (hh : lf_H D (wM_ ha cy) A s σ H locs) {i : Int32} (hin : vp_in i 6) (hdg : decode cc pc = .ok (.iaload, 1)) (kk : W p l e R s m args below meth c H locs 0 0 Q (F0 m (pc + 1) ls (.int (lf_ai σ 2 i.toNatClampNeg) :: rest))) : W p l e R s m args below meth c H locs 0 0 Q (F0 m pc ls (.int i :: .ref (ha 2) :: rest)) :=
  va_iald (D := D) F.1.1 F.1.2.1 F.2.2.2.2 hh.1 2 1 rfl rfl hin hdg kk
theorem wa_M_2 (F : lf_C p s m args meth c own cc nL ret D (tyM_ cy) A) (hh : lf_H D (wM_ ha cy) A s σ H locs) {i : Int32} {x : Int32} (hin : vp_in i 6) (hdg : decode cc pc = .ok (.iastore, 1)) (kk : ∀ (H1 : Heap) (locs1 : List Loc), lf_H D (wM_ ha cy) A s (lf_sa σ 2 i.toNatClampNeg x) H1 locs1 → W p l e R s m args below meth c H1 locs1 0 0 Q (F0 m (pc + 1) ls (rest))) : W p l e R s m args below meth c H locs 0 0 Q (F0 m pc ls (.int x :: .int i :: .ref (ha 2) :: rest)) :=
  va_iast (D := D) F.1.1 F.1.2.1 F.2.2.2.2 hh.1 hh.2.1 hh.2.2 2 1 rfl rfl hin hdg (fun H1 locs1 h1 h2 h3 => kk H1 locs1 ⟨h1, h2, h3⟩)
theorem ra_M_3 (F : lf_C p s m args meth c own cc nL ret D (tyM_ cy) A) (hh : lf_H D (wM_ ha cy) A s σ H locs) {i : Int32} (hin : vp_in i 6) (hdg : decode cc pc = .ok (.baload, 1)) (kk : W p l e R s m args below meth c H locs 0 0 Q (F0 m (pc + 1) ls (.int (lf_ai σ 3 i.toNatClampNeg) :: rest))) : W p l e R s m args below meth c H locs 0 0 Q (F0 m pc ls (.int i :: .ref (ha 3) :: rest)) :=
  va_zald (D := D) F.1.1 F.1.2.1 F.2.2.2.2 hh.1 3 2 rfl rfl hin hdg kk
theorem wa_M_3 (F : lf_C p s m args meth c own cc nL ret D (tyM_ cy) A) (hh : lf_H D (wM_ ha cy) A s σ H locs) {i : Int32} {x : Int32} (hin : vp_in i 6) (hdg : decode cc pc = .ok (.bastore, 1)) (kk : ∀ (H1 : Heap) (locs1 : List Loc), lf_H D (wM_ ha cy) A s (lf_sa σ 3 i.toNatClampNeg (vp_nar .boolean x)) H1 locs1 → W p l e R s m args below meth c H1 locs1 0 0 Q (F0 m (pc + 1) ls (rest))) : W p l e R s m args below meth c H locs 0 0 Q (F0 m pc ls (.int x :: .int i :: .ref (ha 3) :: rest)) :=
  va_zast (D := D) F.1.1 F.1.2.1 F.2.2.2.2 hh.1 hh.2.1 hh.2.2 3 2 rfl rfl hin hdg (fun H1 locs1 h1 h2 h3 => kk H1 locs1 ⟨h1, h2, h3⟩)
theorem ra_M_4 (F : lf_C p s m args meth c own cc nL ret D (tyM_ cy) A) (hh : lf_H D (wM_ ha cy) A s σ H locs) {i : Int32} (hin : vp_in i 6) (hdg : decode cc pc = .ok (.iaload, 1)) (kk : W p l e R s m args below meth c H locs 0 0 Q (F0 m (pc + 1) ls (.int (lf_ai σ 4 i.toNatClampNeg) :: rest))) : W p l e R s m args below meth c H locs 0 0 Q (F0 m pc ls (.int i :: .ref (ha 4) :: rest)) :=
  va_iald (D := D) F.1.1 F.1.2.1 F.2.2.2.2 hh.1 4 3 rfl rfl hin hdg kk
theorem wa_M_4 (F : lf_C p s m args meth c own cc nL ret D (tyM_ cy) A) (hh : lf_H D (wM_ ha cy) A s σ H locs) {i : Int32} {x : Int32} (hin : vp_in i 6) (hdg : decode cc pc = .ok (.iastore, 1)) (kk : ∀ (H1 : Heap) (locs1 : List Loc), lf_H D (wM_ ha cy) A s (lf_sa σ 4 i.toNatClampNeg x) H1 locs1 → W p l e R s m args below meth c H1 locs1 0 0 Q (F0 m (pc + 1) ls (rest))) : W p l e R s m args below meth c H locs 0 0 Q (F0 m pc ls (.int x :: .int i :: .ref (ha 4) :: rest)) :=
  va_iast (D := D) F.1.1 F.1.2.1 F.2.2.2.2 hh.1 hh.2.1 hh.2.2 4 3 rfl rfl hin hdg (fun H1 locs1 h1 h2 h3 => kk H1 locs1 ⟨h1, h2, h3⟩)
theorem ra_M_5 (F : lf_C p s m args meth c own cc nL ret D (tyM_ cy) A) (hh : lf_H D (wM_ ha cy) A s σ H locs) {i : Int32} (hin : vp_in i 6) (hdg : decode cc pc = .ok (.iaload, 1)) (kk : W p l e R s m args below meth c H locs 0 0 Q (F0 m (pc + 1) ls (.int (lf_ai σ 5 i.toNatClampNeg) :: rest))) : W p l e R s m args below meth c H locs 0 0 Q (F0 m pc ls (.int i :: .ref (ha 5) :: rest)) :=
  va_iald (D := D) F.1.1 F.1.2.1 F.2.2.2.2 hh.1 5 4 rfl rfl hin hdg kk
theorem wa_M_5 (F : lf_C p s m args meth c own cc nL ret D (tyM_ cy) A) (hh : lf_H D (wM_ ha cy) A s σ H locs) {i : Int32} {x : Int32} (hin : vp_in i 6) (hdg : decode cc pc = .ok (.iastore, 1)) (kk : ∀ (H1 : Heap) (locs1 : List Loc), lf_H D (wM_ ha cy) A s (lf_sa σ 5 i.toNatClampNeg x) H1 locs1 → W p l e R s m args below meth c H1 locs1 0 0 Q (F0 m (pc + 1) ls (rest))) : W p l e R s m args below meth c H locs 0 0 Q (F0 m pc ls (.int x :: .int i :: .ref (ha 5) :: rest)) :=
  va_iast (D := D) F.1.1 F.1.2.1 F.2.2.2.2 hh.1 hh.2.1 hh.2.2 5 4 rfl rfl hin hdg (fun H1 locs1 h1 h2 h3 => kk H1 locs1 ⟨h1, h2, h3⟩)
theorem ra_M_7 (F : lf_C p s m args meth c own cc nL ret D (tyM_ cy) A) (hh : lf_H D (wM_ ha cy) A s σ H locs) {i : Int32} (hin : vp_in i 10) (hdg : decode cc pc = .ok (.iaload, 1)) (kk : W p l e R s m args below meth c H locs 0 0 Q (F0 m (pc + 1) ls (.int (lf_ai σ 7 i.toNatClampNeg) :: rest))) : W p l e R s m args below meth c H locs 0 0 Q (F0 m pc ls (.int i :: .ref (ha 7) :: rest)) :=
  va_iald (D := D) F.1.1 F.1.2.1 F.2.2.2.2 hh.1 6 5 rfl rfl hin hdg kk
theorem wa_M_7 (F : lf_C p s m args meth c own cc nL ret D (tyM_ cy) A) (hh : lf_H D (wM_ ha cy) A s σ H locs) {i : Int32} {x : Int32} (hin : vp_in i 10) (hdg : decode cc pc = .ok (.iastore, 1)) (kk : ∀ (H1 : Heap) (locs1 : List Loc), lf_H D (wM_ ha cy) A s (lf_sa σ 7 i.toNatClampNeg x) H1 locs1 → W p l e R s m args below meth c H1 locs1 0 0 Q (F0 m (pc + 1) ls (rest))) : W p l e R s m args below meth c H locs 0 0 Q (F0 m pc ls (.int x :: .int i :: .ref (ha 7) :: rest)) :=
  va_iast (D := D) F.1.1 F.1.2.1 F.2.2.2.2 hh.1 hh.2.1 hh.2.2 6 5 rfl rfl hin hdg (fun H1 locs1 h1 h2 h3 => kk H1 locs1 ⟨h1, h2, h3⟩)
theorem ra_M_8 (F : lf_C p s m args meth c own cc nL ret D (tyM_ cy) A) (hh : lf_H D (wM_ ha cy) A s σ H locs) {i : Int32} (hin : vp_in i 10) (hdg : decode cc pc = .ok (.iaload, 1)) (kk : W p l e R s m args below meth c H locs 0 0 Q (F0 m (pc + 1) ls (.int (lf_ai σ 8 i.toNatClampNeg) :: rest))) : W p l e R s m args below meth c H locs 0 0 Q (F0 m pc ls (.int i :: .ref (ha 8) :: rest)) :=
  va_iald (D := D) F.1.1 F.1.2.1 F.2.2.2.2 hh.1 7 6 rfl rfl hin hdg kk
theorem wa_M_8 (F : lf_C p s m args meth c own cc nL ret D (tyM_ cy) A) (hh : lf_H D (wM_ ha cy) A s σ H locs) {i : Int32} {x : Int32} (hin : vp_in i 10) (hdg : decode cc pc = .ok (.iastore, 1)) (kk : ∀ (H1 : Heap) (locs1 : List Loc), lf_H D (wM_ ha cy) A s (lf_sa σ 8 i.toNatClampNeg x) H1 locs1 → W p l e R s m args below meth c H1 locs1 0 0 Q (F0 m (pc + 1) ls (rest))) : W p l e R s m args below meth c H locs 0 0 Q (F0 m pc ls (.int x :: .int i :: .ref (ha 8) :: rest)) :=
  va_iast (D := D) F.1.1 F.1.2.1 F.2.2.2.2 hh.1 hh.2.1 hh.2.2 7 6 rfl rfl hin hdg (fun H1 locs1 h1 h2 h3 => kk H1 locs1 ⟨h1, h2, h3⟩)
theorem ra_M_10 (F : lf_C p s m args meth c own cc nL ret D (tyM_ cy) A) (hh : lf_H D (wM_ ha cy) A s σ H locs) {i : Int32} (hin : vp_in i 5) (hdg : decode cc pc = .ok (.iaload, 1)) (kk : W p l e R s m args below meth c H locs 0 0 Q (F0 m (pc + 1) ls (.int (lf_ai σ 10 i.toNatClampNeg) :: rest))) : W p l e R s m args below meth c H locs 0 0 Q (F0 m pc ls (.int i :: .ref (ha 10) :: rest)) :=
  va_iald (D := D) F.1.1 F.1.2.1 F.2.2.2.2 hh.1 8 7 rfl rfl hin hdg kk
theorem wa_M_10 (F : lf_C p s m args meth c own cc nL ret D (tyM_ cy) A) (hh : lf_H D (wM_ ha cy) A s σ H locs) {i : Int32} {x : Int32} (hin : vp_in i 5) (hdg : decode cc pc = .ok (.iastore, 1)) (kk : ∀ (H1 : Heap) (locs1 : List Loc), lf_H D (wM_ ha cy) A s (lf_sa σ 10 i.toNatClampNeg x) H1 locs1 → W p l e R s m args below meth c H1 locs1 0 0 Q (F0 m (pc + 1) ls (rest))) : W p l e R s m args below meth c H locs 0 0 Q (F0 m pc ls (.int x :: .int i :: .ref (ha 10) :: rest)) :=
  va_iast (D := D) F.1.1 F.1.2.1 F.2.2.2.2 hh.1 hh.2.1 hh.2.2 8 7 rfl rfl hin hdg (fun H1 locs1 h1 h2 h3 => kk H1 locs1 ⟨h1, h2, h3⟩)
theorem ra_M_13 (F : lf_C p s m args meth c own cc nL ret D (tyM_ cy) A) (hh : lf_H D (wM_ ha cy) A s σ H locs) {i : Int32} (hin : vp_in i 6) (hdg : decode cc pc = .ok (.iaload, 1)) (kk : W p l e R s m args below meth c H locs 0 0 Q (F0 m (pc + 1) ls (.int (lf_ai σ 13 i.toNatClampNeg) :: rest))) : W p l e R s m args below meth c H locs 0 0 Q (F0 m pc ls (.int i :: .ref (ha 13) :: rest)) :=
  va_iald (D := D) F.1.1 F.1.2.1 F.2.2.2.2 hh.1 9 8 rfl rfl hin hdg kk
theorem wa_M_13 (F : lf_C p s m args meth c own cc nL ret D (tyM_ cy) A) (hh : lf_H D (wM_ ha cy) A s σ H locs) {i : Int32} {x : Int32} (hin : vp_in i 6) (hdg : decode cc pc = .ok (.iastore, 1)) (kk : ∀ (H1 : Heap) (locs1 : List Loc), lf_H D (wM_ ha cy) A s (lf_sa σ 13 i.toNatClampNeg x) H1 locs1 → W p l e R s m args below meth c H1 locs1 0 0 Q (F0 m (pc + 1) ls (rest))) : W p l e R s m args below meth c H locs 0 0 Q (F0 m pc ls (.int x :: .int i :: .ref (ha 13) :: rest)) :=
  va_iast (D := D) F.1.1 F.1.2.1 F.2.2.2.2 hh.1 hh.2.1 hh.2.2 9 8 rfl rfl hin hdg (fun H1 locs1 h1 h2 h3 => kk H1 locs1 ⟨h1, h2, h3⟩)
theorem ra_M_15 (F : lf_C p s m args meth c own cc nL ret D (tyM_ cy) A) (hh : lf_H D (wM_ ha cy) A s σ H locs) {i : Int32} (hin : vp_in i 36) (hdg : decode cc pc = .ok (.laload, 1)) (kk : W p l e R s m args below meth c H locs 0 0 Q (F0 m (pc + 1) ls (.long (lf_al σ 15 i.toNatClampNeg) :: rest))) : W p l e R s m args below meth c H locs 0 0 Q (F0 m pc ls (.int i :: .ref (ha 15) :: rest)) :=
  va_lald (D := D) F.1.1 F.1.2.1 F.2.2.2.2 hh.1 10 9 rfl rfl hin hdg kk
theorem wa_M_15 (F : lf_C p s m args meth c own cc nL ret D (tyM_ cy) A) (hh : lf_H D (wM_ ha cy) A s σ H locs) {i : Int32} {x : Int64} (hin : vp_in i 36) (hdg : decode cc pc = .ok (.lastore, 1)) (kk : ∀ (H1 : Heap) (locs1 : List Loc), lf_H D (wM_ ha cy) A s (lf_sb σ 15 i.toNatClampNeg x) H1 locs1 → W p l e R s m args below meth c H1 locs1 0 0 Q (F0 m (pc + 1) ls (rest))) : W p l e R s m args below meth c H locs 0 0 Q (F0 m pc ls (.long x :: .int i :: .ref (ha 15) :: rest)) :=
  va_last (D := D) F.1.1 F.1.2.1 F.2.2.2.2 hh.1 hh.2.1 hh.2.2 10 9 rfl rfl hin hdg (fun H1 locs1 h1 h2 h3 => kk H1 locs1 ⟨h1, h2, h3⟩)
theorem ra_M_16 (F : lf_C p s m args meth c own cc nL ret D (tyM_ cy) A) (hh : lf_H D (wM_ ha cy) A s σ H locs) {i : Int32} (hin : vp_in i 36) (hdg : decode cc pc = .ok (.laload, 1)) (kk : W p l e R s m args below meth c H locs 0 0 Q (F0 m (pc + 1) ls (.long (lf_al σ 16 i.toNatClampNeg) :: rest))) : W p l e R s m args below meth c H locs 0 0 Q (F0 m pc ls (.int i :: .ref (ha 16) :: rest)) :=
  va_lald (D := D) F.1.1 F.1.2.1 F.2.2.2.2 hh.1 11 10 rfl rfl hin hdg kk
theorem wa_M_16 (F : lf_C p s m args meth c own cc nL ret D (tyM_ cy) A) (hh : lf_H D (wM_ ha cy) A s σ H locs) {i : Int32} {x : Int64} (hin : vp_in i 36) (hdg : decode cc pc = .ok (.lastore, 1)) (kk : ∀ (H1 : Heap) (locs1 : List Loc), lf_H D (wM_ ha cy) A s (lf_sb σ 16 i.toNatClampNeg x) H1 locs1 → W p l e R s m args below meth c H1 locs1 0 0 Q (F0 m (pc + 1) ls (rest))) : W p l e R s m args below meth c H locs 0 0 Q (F0 m pc ls (.long x :: .int i :: .ref (ha 16) :: rest)) :=
  va_last (D := D) F.1.1 F.1.2.1 F.2.2.2.2 hh.1 hh.2.1 hh.2.2 11 10 rfl rfl hin hdg (fun H1 locs1 h1 h2 h3 => kk H1 locs1 ⟨h1, h2, h3⟩)
theorem ra_M_17 (F : lf_C p s m args meth c own cc nL ret D (tyM_ cy) A) (hh : lf_H D (wM_ ha cy) A s σ H locs) {i : Int32} (hin : vp_in i 6) (hdg : decode cc pc = .ok (.laload, 1)) (kk : W p l e R s m args below meth c H locs 0 0 Q (F0 m (pc + 1) ls (.long (lf_al σ 17 i.toNatClampNeg) :: rest))) : W p l e R s m args below meth c H locs 0 0 Q (F0 m pc ls (.int i :: .ref (ha 17) :: rest)) :=
  va_lald (D := D) F.1.1 F.1.2.1 F.2.2.2.2 hh.1 12 11 rfl rfl hin hdg kk
theorem wa_M_17 (F : lf_C p s m args meth c own cc nL ret D (tyM_ cy) A) (hh : lf_H D (wM_ ha cy) A s σ H locs) {i : Int32} {x : Int64} (hin : vp_in i 6) (hdg : decode cc pc = .ok (.lastore, 1)) (kk : ∀ (H1 : Heap) (locs1 : List Loc), lf_H D (wM_ ha cy) A s (lf_sb σ 17 i.toNatClampNeg x) H1 locs1 → W p l e R s m args below meth c H1 locs1 0 0 Q (F0 m (pc + 1) ls (rest))) : W p l e R s m args below meth c H locs 0 0 Q (F0 m pc ls (.long x :: .int i :: .ref (ha 17) :: rest)) :=
  va_last (D := D) F.1.1 F.1.2.1 F.2.2.2.2 hh.1 hh.2.1 hh.2.2 12 11 rfl rfl hin hdg (fun H1 locs1 h1 h2 h3 => kk H1 locs1 ⟨h1, h2, h3⟩)
theorem ra_M_19 (F : lf_C p s m args meth c own cc nL ret D (tyM_ cy) A) (hh : lf_H D (wM_ ha cy) A s σ H locs) {i : Int32} (hin : vp_in i 6) (hdg : decode cc pc = .ok (.iaload, 1)) (kk : W p l e R s m args below meth c H locs 0 0 Q (F0 m (pc + 1) ls (.int (lf_ai σ 19 i.toNatClampNeg) :: rest))) : W p l e R s m args below meth c H locs 0 0 Q (F0 m pc ls (.int i :: .ref (ha 19) :: rest)) :=
  va_iald (D := D) F.1.1 F.1.2.1 F.2.2.2.2 hh.1 13 12 rfl rfl hin hdg kk
theorem wa_M_19 (F : lf_C p s m args meth c own cc nL ret D (tyM_ cy) A) (hh : lf_H D (wM_ ha cy) A s σ H locs) {i : Int32} {x : Int32} (hin : vp_in i 6) (hdg : decode cc pc = .ok (.iastore, 1)) (kk : ∀ (H1 : Heap) (locs1 : List Loc), lf_H D (wM_ ha cy) A s (lf_sa σ 19 i.toNatClampNeg x) H1 locs1 → W p l e R s m args below meth c H1 locs1 0 0 Q (F0 m (pc + 1) ls (rest))) : W p l e R s m args below meth c H locs 0 0 Q (F0 m pc ls (.int x :: .int i :: .ref (ha 19) :: rest)) :=
  va_iast (D := D) F.1.1 F.1.2.1 F.2.2.2.2 hh.1 hh.2.1 hh.2.2 13 12 rfl rfl hin hdg (fun H1 locs1 h1 h2 h3 => kk H1 locs1 ⟨h1, h2, h3⟩)
theorem ra_M_21 (F : lf_C p s m args meth c own cc nL ret D (tyM_ cy) A) (hh : lf_H D (wM_ ha cy) A s σ H locs) {i : Int32} (hin : vp_in i 6) (hdg : decode cc pc = .ok (.laload, 1)) (kk : W p l e R s m args below meth c H locs 0 0 Q (F0 m (pc + 1) ls (.long (lf_al σ 21 i.toNatClampNeg) :: rest))) : W p l e R s m args below meth c H locs 0 0 Q (F0 m pc ls (.int i :: .ref (ha 21) :: rest)) :=
  va_lald (D := D) F.1.1 F.1.2.1 F.2.2.2.2 hh.1 14 13 rfl rfl hin hdg kk
theorem wa_M_21 (F : lf_C p s m args meth c own cc nL ret D (tyM_ cy) A) (hh : lf_H D (wM_ ha cy) A s σ H locs) {i : Int32} {x : Int64} (hin : vp_in i 6) (hdg : decode cc pc = .ok (.lastore, 1)) (kk : ∀ (H1 : Heap) (locs1 : List Loc), lf_H D (wM_ ha cy) A s (lf_sb σ 21 i.toNatClampNeg x) H1 locs1 → W p l e R s m args below meth c H1 locs1 0 0 Q (F0 m (pc + 1) ls (rest))) : W p l e R s m args below meth c H locs 0 0 Q (F0 m pc ls (.long x :: .int i :: .ref (ha 21) :: rest)) :=
  va_last (D := D) F.1.1 F.1.2.1 F.2.2.2.2 hh.1 hh.2.1 hh.2.2 14 13 rfl rfl hin hdg (fun H1 locs1 h1 h2 h3 => kk H1 locs1 ⟨h1, h2, h3⟩)
theorem ra_M_24 (F : lf_C p s m args meth c own cc nL ret D (tyM_ cy) A) (hh : lf_H D (wM_ ha cy) A s σ H locs) {i : Int32} (hin : vp_in i 6) (hdg : decode cc pc = .ok (.laload, 1)) (kk : W p l e R s m args below meth c H locs 0 0 Q (F0 m (pc + 1) ls (.long (lf_al σ 24 i.toNatClampNeg) :: rest))) : W p l e R s m args below meth c H locs 0 0 Q (F0 m pc ls (.int i :: .ref (ha 24) :: rest)) :=
  va_lald (D := D) F.1.1 F.1.2.1 F.2.2.2.2 hh.1 15 14 rfl rfl hin hdg kk
theorem wa_M_24 (F : lf_C p s m args meth c own cc nL ret D (tyM_ cy) A) (hh : lf_H D (wM_ ha cy) A s σ H locs) {i : Int32} {x : Int64} (hin : vp_in i 6) (hdg : decode cc pc = .ok (.lastore, 1)) (kk : ∀ (H1 : Heap) (locs1 : List Loc), lf_H D (wM_ ha cy) A s (lf_sb σ 24 i.toNatClampNeg x) H1 locs1 → W p l e R s m args below meth c H1 locs1 0 0 Q (F0 m (pc + 1) ls (rest))) : W p l e R s m args below meth c H locs 0 0 Q (F0 m pc ls (.long x :: .int i :: .ref (ha 24) :: rest)) :=
  va_last (D := D) F.1.1 F.1.2.1 F.2.2.2.2 hh.1 hh.2.1 hh.2.2 15 14 rfl rfl hin hdg (fun H1 locs1 h1 h2 h3 => kk H1 locs1 ⟨h1, h2, h3⟩)
end LFM
end
section
theorem lf_sw_0_2 {x : Int32} (h0 : ¬ x = 0) (h1 : ¬ x = 1) (h2 : ¬ x = 2) : x.toInt < 0 ∨ 2 < x.toInt := by
  have e0 : ¬ x.toInt = 0 := lv_neT h0 (by decide)
  have e1 : ¬ x.toInt = 1 := lv_neT h1 (by decide)
  have e2 : ¬ x.toInt = 2 := lv_neT h2 (by decide)
  omega
theorem lf_sw_0_4 {x : Int32} (h0 : ¬ x = 0) (h1 : ¬ x = 1) (h2 : ¬ x = 2) (h3 : ¬ x = 3) (h4 : ¬ x = 4) : x.toInt < 0 ∨ 4 < x.toInt := by
  have e0 : ¬ x.toInt = 0 := lv_neT h0 (by decide)
  have e1 : ¬ x.toInt = 1 := lv_neT h1 (by decide)
  have e2 : ¬ x.toInt = 2 := lv_neT h2 (by decide)
  have e3 : ¬ x.toInt = 3 := lv_neT h3 (by decide)
  have e4 : ¬ x.toInt = 4 := lv_neT h4 (by decide)
  omega
theorem lf_sw_1_3 {x : Int32} (h1 : ¬ x = 1) (h2 : ¬ x = 2) (h3 : ¬ x = 3) : x.toInt < 1 ∨ 3 < x.toInt := by
  have e1 : ¬ x.toInt = 1 := lv_neT h1 (by decide)
  have e2 : ¬ x.toInt = 2 := lv_neT h2 (by decide)
  have e3 : ¬ x.toInt = 3 := lv_neT h3 (by decide)
  omega
theorem lf_sw_0_19 {x : Int32} (h0 : ¬ x = 0) (h1 : ¬ x = 1) (h2 : ¬ x = 2) (h3 : ¬ x = 3) (h4 : ¬ x = 4) (h5 : ¬ x = 5) (h6 : ¬ x = 6) (h7 : ¬ x = 7) (h8 : ¬ x = 8) (h9 : ¬ x = 9) (h10 : ¬ x = 10) (h11 : ¬ x = 11) (h12 : ¬ x = 12) (h13 : ¬ x = 13) (h14 : ¬ x = 14) (h15 : ¬ x = 15) (h16 : ¬ x = 16) (h17 : ¬ x = 17) (h18 : ¬ x = 18) (h19 : ¬ x = 19) : x.toInt < 0 ∨ 19 < x.toInt := by
  have e0 : ¬ x.toInt = 0 := lv_neT h0 (by decide)
  have e1 : ¬ x.toInt = 1 := lv_neT h1 (by decide)
  have e2 : ¬ x.toInt = 2 := lv_neT h2 (by decide)
  have e3 : ¬ x.toInt = 3 := lv_neT h3 (by decide)
  have e4 : ¬ x.toInt = 4 := lv_neT h4 (by decide)
  have e5 : ¬ x.toInt = 5 := lv_neT h5 (by decide)
  have e6 : ¬ x.toInt = 6 := lv_neT h6 (by decide)
  have e7 : ¬ x.toInt = 7 := lv_neT h7 (by decide)
  have e8 : ¬ x.toInt = 8 := lv_neT h8 (by decide)
  have e9 : ¬ x.toInt = 9 := lv_neT h9 (by decide)
  have e10 : ¬ x.toInt = 10 := lv_neT h10 (by decide)
  have e11 : ¬ x.toInt = 11 := lv_neT h11 (by decide)
  have e12 : ¬ x.toInt = 12 := lv_neT h12 (by decide)
  have e13 : ¬ x.toInt = 13 := lv_neT h13 (by decide)
  have e14 : ¬ x.toInt = 14 := lv_neT h14 (by decide)
  have e15 : ¬ x.toInt = 15 := lv_neT h15 (by decide)
  have e16 : ¬ x.toInt = 16 := lv_neT h16 (by decide)
  have e17 : ¬ x.toInt = 17 := lv_neT h17 (by decide)
  have e18 : ¬ x.toInt = 18 := lv_neT h18 (by decide)
  have e19 : ¬ x.toInt = 19 := lv_neT h19 (by decide)
  omega
def wp_X6_in (x0 : Int64) (x2 : Int64) (x4 : Int64) (σ : lf_St) (Post : Int32 → lf_St → Prop) : Prop := ((x0 < x2) → (Post 0 σ)) ∧ ((¬ (x0 < x2)) → (((x4 < x0) → (Post 0 σ)) ∧ ((¬ (x4 < x0)) → (Post 1 σ))))
def rm_X6_in : Room := ({ frames := 0, cells := 0, slots := 0, locals := 0 } : Room)
set_option maxHeartbeats 4000000 in
set_option maxRecDepth 100000 in
theorem c_X6_in (l : Launch) (D : va_G) (ha : Nat → Nat) (cy : Nat → ClassId) (sz : Nat) (σ : lf_St) (x0 : Int64) (x2 : Int64) (x4 : Int64) (Post : Int32 → lf_St → Prop) (hw : wp_X6_in x0 x2 x4 σ Post) : lf_Mi l yX6_in (lf_ws yX6_in cX6_in 6 (some .boolean)) rm_X6_in D (tyM_ cy) (wM_ ha cy) sz σ [.long x0, .long x2, .long x4] Post := by
  refine lf_ofi (by decide +kernel) (Nat.le_of_ble_eq_true rfl) ?_
  intro p e s m args below meth c A ls F hh hl
  have hx := F.1.1
  have hb := F.1.2.1
  have hl : lv_has ls 6 [(0, .long x0), (2, .long x2), (4, .long x4)] := hl
  obtain ⟨H, hHe⟩ : ∃ H, H = s.heap := ⟨_, rfl⟩
  rw [← hHe] at hh ⊢
  unfold wp_X6_in at hw
  refine lv_lload_n hx hb dX6_in_0 rfl (lv_at hl 0 rfl) ?_
  refine lv_lload_n hx hb dX6_in_1 rfl (lv_at hl 1 rfl) ?_
  refine lf_lcmp_lt (tgt := 17) hx hb dX6_in_2 dX6_in_3 (by decide) (fun c1 => ?_) (fun c1 => ?_)
  · have hw := hw.1 c1
    refine lv_iconst (v := 0) hx hb dX6_in_17 (by decide) ?_
    exact lf_retz F hh rfl hw dX6_in_18
  · have hw := hw.2 c1
    refine lv_lload_n hx hb dX6_in_6 rfl (lv_at hl 0 rfl) ?_
    refine lv_lload hx hb dX6_in_7 (lv_at hl 2 rfl) ?_
    refine lf_lcmp_gt (tgt := 17) hx hb dX6_in_9 dX6_in_10 (by decide) (fun c2 => ?_) (fun c2 => ?_)
    · have hw := hw.1 c2
      refine lv_iconst (v := 0) hx hb dX6_in_17 (by decide) ?_
      exact lf_retz F hh rfl hw dX6_in_18
    · have hw := hw.2 c2
      refine lv_iconst (v := 1) hx hb dX6_in_13 (by decide) ?_
      refine lv_goto (tgt := 18) hx hb dX6_in_14 (by decide) ?_
      exact lf_retz F hh rfl hw dX6_in_18
theorem cw_X6_61 {R : Room} {s : State} {args : Array Value} (ht : ∀ w ∈ wsL_law, w.before args s = true) (hR : rm_X6_in.frames + 1 ≤ R.frames ∧ 8 + (6 + 11) + rm_X6_in.locals ≤ R.locals) : lf_cS R s args RX6 61 yX6_in cX6_in 6 (some .boolean) rm_X6_in 3 :=
  lf_cS_of 3 ht (lr_6 _ (List.mem_of_getElem? (i := 16) rfl)) (lr_6 _ (List.mem_of_getElem? (i := 14) rfl)) (lr_6 _ (List.mem_of_getElem? (i := 15) rfl)) (lr_1 _ (List.mem_of_getElem? (i := 5) rfl)) rfl rfl (by decide +kernel) hR
def wp_X6_isJoint (x1 : Int32) (σ : lf_St) (Post : Int32 → lf_St → Prop) : Prop := wp_X6_in (x1.toInt64) 0 ((((lf_gi σ 0) - 1) : Int32).toInt64) σ (fun r1 σ1 => (fits .boolean (.int r1) = true) ∧ Post r1 σ1)
def rm_X6_isJoint : Room := ({ frames := 1, cells := 0, slots := 0, locals := 25 } : Room)
set_option maxHeartbeats 4000000 in
set_option maxRecDepth 100000 in
theorem c_X6_isJoint (l : Launch) (D : va_G) (ha : Nat → Nat) (cy : Nat → ClassId) (sz : Nat) (σ : lf_St) (x1 : Int32) (Post : Int32 → lf_St → Prop) (hw : wp_X6_isJoint x1 σ Post) : lf_Mi l yX6_isJoint (lf_ws yX6_isJoint cX6_isJoint 2 (some .boolean)) rm_X6_isJoint D (tyM_ cy) (wM_ ha cy) sz σ [.ref (ha 0), .int x1] Post := by
  refine lf_ofi (by decide +kernel) (Nat.le_of_ble_eq_true rfl) ?_
  intro p e s m args below meth c A ls F hh hl
  have hx := F.1.1
  have hb := F.1.2.1
  have hl : lv_has ls 2 [(0, .ref (ha 0)), (1, .int x1)] := hl
  obtain ⟨H, hHe⟩ : ∃ H, H = s.heap := ⟨_, rfl⟩
  rw [← hHe] at hh ⊢
  unfold wp_X6_isJoint at hw
  refine lv_iload_n hx hb dX6_isJoint_0 rfl (lv_at hl 1 rfl) ?_
  refine lv_i2l hx hb dX6_isJoint_1 rfl ?_
  refine lv_lconst (v := 0) hx hb dX6_isJoint_2 (by decide) ?_
  refine lv_aload_n hx hb dX6_isJoint_3 rfl (lv_at hl 0 rfl) ?_
  refine fg_X6_57 F hh dX6_isJoint_4 ?_
  refine lv_iconst (v := 1) hx hb dX6_isJoint_7 (by decide) ?_
  refine lv_isub hx hb dX6_isJoint_8 ?_
  refine lv_i2l hx hb dX6_isJoint_9 rfl ?_
  refine lf_callSi (rest := []) F hh (cw_X6_61 F.1.2.2.2.2 ⟨Nat.le_of_ble_eq_true rfl, Nat.le_of_ble_eq_true rfl⟩) (c_X6_in l D ha cy H.size σ (x1.toInt64) 0 ((((lf_gi σ 0) - 1) : Int32).toInt64) _ hw) rfl hl.1 (Nat.le_of_ble_eq_true rfl) dX6_isJoint_10 rfl (fun r1 σ1 H locs hw hh => ?_)
  obtain ⟨q2, hw⟩ := hw
  exact lf_retz F hh (lf_nz q2) hw dX6_isJoint_13
def wp_X6_isBar (x1 : Int32) (σ : lf_St) (Post : Int32 → lf_St → Prop) : Prop := wp_X6_in (x1.toInt64) 0 ((((lf_gi σ 6) - 1) : Int32).toInt64) σ (fun r1 σ1 => (fits .boolean (.int r1) = true) ∧ Post r1 σ1)
def rm_X6_isBar : Room := ({ frames := 1, cells := 0, slots := 0, locals := 25 } : Room)
set_option maxHeartbeats 4000000 in
set_option maxRecDepth 100000 in
theorem c_X6_isBar (l : Launch) (D : va_G) (ha : Nat → Nat) (cy : Nat → ClassId) (sz : Nat) (σ : lf_St) (x1 : Int32) (Post : Int32 → lf_St → Prop) (hw : wp_X6_isBar x1 σ Post) : lf_Mi l yX6_isBar (lf_ws yX6_isBar cX6_isBar 2 (some .boolean)) rm_X6_isBar D (tyM_ cy) (wM_ ha cy) sz σ [.ref (ha 0), .int x1] Post := by
  refine lf_ofi (by decide +kernel) (Nat.le_of_ble_eq_true rfl) ?_
  intro p e s m args below meth c A ls F hh hl
  have hx := F.1.1
  have hb := F.1.2.1
  have hl : lv_has ls 2 [(0, .ref (ha 0)), (1, .int x1)] := hl
  obtain ⟨H, hHe⟩ : ∃ H, H = s.heap := ⟨_, rfl⟩
  rw [← hHe] at hh ⊢
  unfold wp_X6_isBar at hw
  refine lv_iload_n hx hb dX6_isBar_0 rfl (lv_at hl 1 rfl) ?_
  refine lv_i2l hx hb dX6_isBar_1 rfl ?_
  refine lv_lconst (v := 0) hx hb dX6_isBar_2 (by decide) ?_
  refine lv_aload_n hx hb dX6_isBar_3 rfl (lv_at hl 0 rfl) ?_
  refine fg_X6_65 F hh dX6_isBar_4 ?_
  refine lv_iconst (v := 1) hx hb dX6_isBar_7 (by decide) ?_
  refine lv_isub hx hb dX6_isBar_8 ?_
  refine lv_i2l hx hb dX6_isBar_9 rfl ?_
  refine lf_callSi (rest := []) F hh (cw_X6_61 F.1.2.2.2.2 ⟨Nat.le_of_ble_eq_true rfl, Nat.le_of_ble_eq_true rfl⟩) (c_X6_in l D ha cy H.size σ (x1.toInt64) 0 ((((lf_gi σ 6) - 1) : Int32).toInt64) _ hw) rfl hl.1 (Nat.le_of_ble_eq_true rfl) dX6_isBar_10 rfl (fun r1 σ1 H locs hw hh => ?_)
  obtain ⟨q2, hw⟩ := hw
  exact lf_retz F hh (lf_nz q2) hw dX6_isBar_13
def L_X6_common_17 (Post : Int64 → lf_St → Prop) : Nat → Int64 → Int64 → lf_St → Prop
  | 0, _, _, _ => False
  | n + 1, x4, x6, σ => ((x6 = 0) → (Post x4 σ)) ∧ ((¬ (x6 = 0)) → ((¬ x6 = 0) ∧ (∀ v3 : Int64, v3 = (x4 - x4 / x6 * x6) → (L_X6_common_17 Post n x6 v3 σ))))
def wp_X6_common (x0 : Int64) (x2 : Int64) (σ : lf_St) (Post : Int64 → lf_St → Prop) : Prop := ((0 ≤ x0) → (∃ fu : Nat, L_X6_common_17 Post fu x0 x2 σ)) ∧ ((¬ (0 ≤ x0)) → (∀ v2 : Int64, v2 = (-x0) → (∃ fu : Nat, L_X6_common_17 Post fu v2 x2 σ)))
def rm_X6_common : Room := ({ frames := 0, cells := 0, slots := 0, locals := 0 } : Room)
set_option maxHeartbeats 4000000 in
set_option maxRecDepth 100000 in
theorem w_X6_common_17 {p : Program} {l : Launch} {e : Env} {s : State} {m : MethodId} {args : Array Value} {below : List Frame} {meth : Method} {c : Code} {D : va_G} {A : Nat → Prop} {ha : Nat → Nat} {cy : Nat → ClassId} (Post : Int64 → lf_St → Prop) (F : lf_C p s m args meth c RX6 cX6_common 10 (some .long) D (tyM_ cy) A) : ∀ (n : Nat) (x4 : Int64) (x6 : Int64) (σ : lf_St) (H : Heap) (locs : List Loc) (ls : Array Slot), lf_H D (wM_ ha cy) A s σ H locs → lv_has ls 10 [(4, .long x4), (6, .long x6)] → L_X6_common_17 Post n x4 x6 σ → W p l e rm_X6_common s m args below meth c H locs 0 0 (lf_Ql below args s D (tyM_ cy) A (wM_ ha cy) Post) (F0 m 17 ls []) := by
  have hx := F.1.1
  have hb := F.1.2.1
  intro n
  induction n with
  | zero =>
    intro x4 x6 σ H locs ls hh hl hw
    exact False.elim hw
  | succ n ih =>
    intro x4 x6 σ H locs ls hh hl hw
    unfold L_X6_common_17 at hw
    refine lv_lload hx hb dX6_common_17 (lv_at hl 1 rfl) ?_
    refine lv_lconst (v := 0) hx hb dX6_common_19 (by decide) ?_
    refine lf_lcmp_eq (tgt := 42) hx hb dX6_common_20 dX6_common_21 (by decide) (fun c1 => ?_) (fun c1 => ?_)
    · have hw := hw.1 c1
      refine lv_lload hx hb dX6_common_42 (lv_at hl 0 rfl) ?_
      exact lf_retl F hh hw dX6_common_44
    · have hw := hw.2 c1
      refine lv_lload hx hb dX6_common_24 (lv_at hl 0 rfl) ?_
      refine lv_lload hx hb dX6_common_26 (lv_at hl 1 rfl) ?_
      obtain ⟨q2, hw⟩ := hw
      refine lv_lrem hx hb dX6_common_28 q2 ?_
      refine lv_topl (fun v3 ev3 => ?_)
      have hw := hw v3 ev3
      refine lv_lstore (lv' := [(8, .long v3), (4, .long x4), (6, .long x6)]) hx hb dX6_common_29 hl (by decide) rfl (fun ls hl => ?_)
      refine lv_lload hx hb dX6_common_31 (lv_at hl 2 rfl) ?_
      refine lv_lstore (lv' := [(4, .long x6), (8, .long v3), (6, .long x6)]) hx hb dX6_common_33 hl (by decide) rfl (fun ls hl => ?_)
      refine lv_lload hx hb dX6_common_35 (lv_at hl 1 rfl) ?_
      refine lv_lstore (lv' := [(6, .long v3), (4, .long x6), (8, .long v3)]) hx hb dX6_common_37 hl (by decide) rfl (fun ls hl => ?_)
      refine lv_goto (tgt := 17) hx hb dX6_common_39 (by decide) ?_
      exact ih x6 v3 σ _ _ _ hh (lv_sub hl [1, 0] rfl) hw
set_option maxHeartbeats 4000000 in
set_option maxRecDepth 100000 in
theorem c_X6_common (l : Launch) (D : va_G) (ha : Nat → Nat) (cy : Nat → ClassId) (sz : Nat) (σ : lf_St) (x0 : Int64) (x2 : Int64) (Post : Int64 → lf_St → Prop) (hw : wp_X6_common x0 x2 σ Post) : lf_Ml l yX6_common (lf_ws yX6_common cX6_common 10 (some .long)) rm_X6_common D (tyM_ cy) (wM_ ha cy) sz σ [.long x0, .long x2] Post := by
  refine lf_ofl (by decide +kernel) (Nat.le_of_ble_eq_true rfl) ?_
  intro p e s m args below meth c A ls F hh hl
  have hx := F.1.1
  have hb := F.1.2.1
  have hl : lv_has ls 10 [(0, .long x0), (2, .long x2)] := hl
  obtain ⟨H, hHe⟩ : ∃ H, H = s.heap := ⟨_, rfl⟩
  rw [← hHe] at hh ⊢
  unfold wp_X6_common at hw
  refine lv_lload_n hx hb dX6_common_0 rfl (lv_at hl 0 rfl) ?_
  refine lv_lconst (v := 0) hx hb dX6_common_1 (by decide) ?_
  refine lf_lcmp_ge (tgt := 11) hx hb dX6_common_2 dX6_common_3 (by decide) (fun c1 => ?_) (fun c1 => ?_)
  · have hw := hw.1 c1
    refine lv_lload_n hx hb dX6_common_11 rfl (lv_at hl 0 rfl) ?_
    refine lv_lstore (lv' := [(4, .long x0), (0, .long x0), (2, .long x2)]) hx hb dX6_common_12 hl (by decide) rfl (fun ls hl => ?_)
    refine lv_lload_n hx hb dX6_common_14 rfl (lv_at hl 2 rfl) ?_
    refine lv_lstore (lv' := [(6, .long x2), (4, .long x0), (0, .long x0), (2, .long x2)]) hx hb dX6_common_15 hl (by decide) rfl (fun ls hl => ?_)
    obtain ⟨n17, hw⟩ := hw
    exact w_X6_common_17 Post F  n17 x0 x2 σ _ _ _ hh (lv_sub hl [1, 0] rfl) hw
  · have hw := hw.2 c1
    refine lv_lload_n hx hb dX6_common_6 rfl (lv_at hl 0 rfl) ?_
    refine lv_lneg hx hb dX6_common_7 ?_
    refine lv_goto (tgt := 12) hx hb dX6_common_8 (by decide) ?_
    refine lv_topl (fun v2 ev2 => ?_)
    have hw := hw v2 ev2
    refine lv_lstore (lv' := [(4, .long v2), (0, .long x0), (2, .long x2)]) hx hb dX6_common_12 hl (by decide) rfl (fun ls hl => ?_)
    refine lv_lload_n hx hb dX6_common_14 rfl (lv_at hl 2 rfl) ?_
    refine lv_lstore (lv' := [(6, .long x2), (4, .long v2), (0, .long x0), (2, .long x2)]) hx hb dX6_common_15 hl (by decide) rfl (fun ls hl => ?_)
    obtain ⟨n17, hw⟩ := hw
    exact w_X6_common_17 Post F  n17 v2 x2 σ _ _ _ hh (lv_sub hl [1, 0] rfl) hw
theorem cw_X6_68 {R : Room} {s : State} {args : Array Value} (ht : ∀ w ∈ wsL_law, w.before args s = true) (hR : rm_X6_common.frames + 1 ≤ R.frames ∧ 8 + (10 + 11) + rm_X6_common.locals ≤ R.locals) : lf_cS R s args RX6 68 yX6_common cX6_common 10 (some .long) rm_X6_common 2 :=
  lf_cS_of 2 ht (lr_25 _ (List.mem_of_getElem? (i := 5) rfl)) (lr_25 _ (List.mem_of_getElem? (i := 3) rfl)) (lr_25 _ (List.mem_of_getElem? (i := 4) rfl)) (lr_1 _ (List.mem_of_getElem? (i := 5) rfl)) rfl rfl (by decide +kernel) hR
def wp_X6_term (x0 : Int64) (x2 : Int64) (x4 : Int32) (σ : lf_St) (Post : Int64 → lf_St → Prop) : Prop := wp_X6_common x0 x2 σ (fun r1 σ1 => ((¬ x4 = 0) → ((¬ r1 = 0) ∧ (Post (x2 / r1) σ1))) ∧ ((x4 = 0) → ((¬ r1 = 0) ∧ (Post (x0 / r1) σ1))))
def rm_X6_term : Room := ({ frames := 1, cells := 0, slots := 0, locals := 29 } : Room)
set_option maxHeartbeats 4000000 in
set_option maxRecDepth 100000 in
theorem c_X6_term (l : Launch) (D : va_G) (ha : Nat → Nat) (cy : Nat → ClassId) (sz : Nat) (σ : lf_St) (x0 : Int64) (x2 : Int64) (x4 : Int32) (Post : Int64 → lf_St → Prop) (hw : wp_X6_term x0 x2 x4 σ Post) : lf_Ml l yX6_term (lf_ws yX6_term cX6_term 7 (some .long)) rm_X6_term D (tyM_ cy) (wM_ ha cy) sz σ [.long x0, .long x2, .int x4] Post := by
  refine lf_ofl (by decide +kernel) (Nat.le_of_ble_eq_true rfl) ?_
  intro p e s m args below meth c A ls F hh hl
  have hx := F.1.1
  have hb := F.1.2.1
  have hl : lv_has ls 7 [(0, .long x0), (2, .long x2), (4, .int x4)] := hl
  obtain ⟨H, hHe⟩ : ∃ H, H = s.heap := ⟨_, rfl⟩
  rw [← hHe] at hh ⊢
  unfold wp_X6_term at hw
  refine lv_lload_n hx hb dX6_term_0 rfl (lv_at hl 0 rfl) ?_
  refine lv_lload_n hx hb dX6_term_1 rfl (lv_at hl 1 rfl) ?_
  refine lf_callSl (rest := []) F hh (cw_X6_68 F.1.2.2.2.2 ⟨Nat.le_of_ble_eq_true rfl, Nat.le_of_ble_eq_true rfl⟩) (c_X6_common l D ha cy H.size σ x0 x2 _ hw) rfl hl.1 (Nat.le_of_ble_eq_true rfl) dX6_term_2 rfl (fun r1 σ1 H locs hw hh => ?_)
  refine lv_lstore (lv' := [(5, .long r1), (0, .long x0), (2, .long x2), (4, .int x4)]) hx hb dX6_term_5 hl (by decide) rfl (fun ls hl => ?_)
  refine lv_iload hx hb dX6_term_7 (lv_at hl 3 rfl) ?_
  refine lv_if_ne (tgt := 19) hx hb dX6_term_9 (by decide) (fun c2 => ?_) (fun c2 => ?_)
  · have hw := hw.1 c2
    refine lv_lload_n hx hb dX6_term_19 rfl (lv_at hl 2 rfl) ?_
    refine lv_lload hx hb dX6_term_20 (lv_at hl 0 rfl) ?_
    obtain ⟨q3, hw⟩ := hw
    refine lv_ldiv hx hb dX6_term_22 q3 ?_
    exact lf_retl F hh hw dX6_term_23
  · have hw := hw.2 c2
    refine lv_lload_n hx hb dX6_term_12 rfl (lv_at hl 1 rfl) ?_
    refine lv_lload hx hb dX6_term_13 (lv_at hl 0 rfl) ?_
    obtain ⟨q4, hw⟩ := hw
    refine lv_ldiv hx hb dX6_term_15 q4 ?_
    refine lv_goto (tgt := 23) hx hb dX6_term_16 (by decide) ?_
    exact lf_retl F hh hw dX6_term_23
def wp_X6_abs (x0 : Int64) (σ : lf_St) (Post : Int64 → lf_St → Prop) : Prop := ((0 ≤ x0) → (Post x0 σ)) ∧ ((¬ (0 ≤ x0)) → (Post (-x0) σ))
def rm_X6_abs : Room := ({ frames := 0, cells := 0, slots := 0, locals := 0 } : Room)
set_option maxHeartbeats 4000000 in
set_option maxRecDepth 100000 in
theorem c_X6_abs (l : Launch) (D : va_G) (ha : Nat → Nat) (cy : Nat → ClassId) (sz : Nat) (σ : lf_St) (x0 : Int64) (Post : Int64 → lf_St → Prop) (hw : wp_X6_abs x0 σ Post) : lf_Ml l yX6_abs (lf_ws yX6_abs cX6_abs 2 (some .long)) rm_X6_abs D (tyM_ cy) (wM_ ha cy) sz σ [.long x0] Post := by
  refine lf_ofl (by decide +kernel) (Nat.le_of_ble_eq_true rfl) ?_
  intro p e s m args below meth c A ls F hh hl
  have hx := F.1.1
  have hb := F.1.2.1
  have hl : lv_has ls 2 [(0, .long x0)] := hl
  obtain ⟨H, hHe⟩ : ∃ H, H = s.heap := ⟨_, rfl⟩
  rw [← hHe] at hh ⊢
  unfold wp_X6_abs at hw
  refine lv_lload_n hx hb dX6_abs_0 rfl (lv_at hl 0 rfl) ?_
  refine lv_lconst (v := 0) hx hb dX6_abs_1 (by decide) ?_
  refine lf_lcmp_ge (tgt := 11) hx hb dX6_abs_2 dX6_abs_3 (by decide) (fun c1 => ?_) (fun c1 => ?_)
  · have hw := hw.1 c1
    refine lv_lload_n hx hb dX6_abs_11 rfl (lv_at hl 0 rfl) ?_
    exact lf_retl F hh hw dX6_abs_12
  · have hw := hw.2 c1
    refine lv_lload_n hx hb dX6_abs_6 rfl (lv_at hl 0 rfl) ?_
    refine lv_lneg hx hb dX6_abs_7 ?_
    refine lv_goto (tgt := 12) hx hb dX6_abs_8 (by decide) ?_
    exact lf_retl F hh hw dX6_abs_12
def L_X6_frees_4 (Post : Int32 → lf_St → Prop) : Nat → Int32 → Int32 → lf_St → Prop
  | 0, _, _, _ => False
  | n + 1, x1, x2, σ => (((lf_gi σ 0) ≤ x2) → (Post x1 σ)) ∧ ((¬ ((lf_gi σ 0) ≤ x2)) → (vp_in x2 6 ∧ ((((lf_ai σ 3 x2.toNatClampNeg) = 0) → (∀ v4 : Int32, v4 = (x1 + 1) → (∀ v5 : Int32, v5 = x2 + 1 → (L_X6_frees_4 Post n v4 v5 σ)))) ∧ ((¬ ((lf_ai σ 3 x2.toNatClampNeg) = 0)) → (∀ v6 : Int32, v6 = (x1 + 0) → (∀ v7 : Int32, v7 = x2 + 1 → (L_X6_frees_4 Post n v6 v7 σ)))))))
def wp_X6_frees (σ : lf_St) (Post : Int32 → lf_St → Prop) : Prop := ∃ fu : Nat, L_X6_frees_4 Post fu 0 0 σ
def rm_X6_frees : Room := ({ frames := 0, cells := 0, slots := 0, locals := 0 } : Room)
set_option maxHeartbeats 4000000 in
set_option maxRecDepth 100000 in
theorem w_X6_frees_4 {p : Program} {l : Launch} {e : Env} {s : State} {m : MethodId} {args : Array Value} {below : List Frame} {meth : Method} {c : Code} {D : va_G} {A : Nat → Prop} {ha : Nat → Nat} {cy : Nat → ClassId} (Post : Int32 → lf_St → Prop) (F : lf_C p s m args meth c RX6 cX6_frees 3 (some .int) D (tyM_ cy) A) : ∀ (n : Nat) (x1 : Int32) (x2 : Int32) (σ : lf_St) (H : Heap) (locs : List Loc) (ls : Array Slot), lf_H D (wM_ ha cy) A s σ H locs → lv_has ls 3 [(0, .ref (ha 0)), (1, .int x1), (2, .int x2)] → L_X6_frees_4 Post n x1 x2 σ → W p l e rm_X6_frees s m args below meth c H locs 0 0 (lf_Qi below args s D (tyM_ cy) A (wM_ ha cy) Post) (F0 m 4 ls []) := by
  have hx := F.1.1
  have hb := F.1.2.1
  intro n
  induction n with
  | zero =>
    intro x1 x2 σ H locs ls hh hl hw
    exact False.elim hw
  | succ n ih =>
    intro x1 x2 σ H locs ls hh hl hw
    unfold L_X6_frees_4 at hw
    refine lv_iload_n hx hb dX6_frees_4 rfl (lv_at hl 2 rfl) ?_
    refine lv_aload_n hx hb dX6_frees_5 rfl (lv_at hl 0 rfl) ?_
    refine fg_X6_57 F hh dX6_frees_6 ?_
    refine lv_icmp_ge (tgt := 35) hx hb dX6_frees_9 (by decide) (fun c1 => ?_) (fun c1 => ?_)
    · have hw := hw.1 c1
      refine lv_iload_n hx hb dX6_frees_35 rfl (lv_at hl 1 rfl) ?_
      exact lf_reti F hh hw dX6_frees_36
    · have hw := hw.2 c1
      refine lv_iload_n hx hb dX6_frees_12 rfl (lv_at hl 1 rfl) ?_
      refine lv_aload_n hx hb dX6_frees_13 rfl (lv_at hl 0 rfl) ?_
      refine fg_X6_16 F hh dX6_frees_14 ?_
      refine lv_iload_n hx hb dX6_frees_17 rfl (lv_at hl 2 rfl) ?_
      obtain ⟨q2, hw⟩ := hw
      refine ra_M_3 F hh q2 dX6_frees_18 ?_
      refine lv_if_eq (tgt := 26) hx hb dX6_frees_19 (by decide) (fun c3 => ?_) (fun c3 => ?_)
      · have hw := hw.1 c3
        refine lv_iconst (v := 1) hx hb dX6_frees_26 (by decide) ?_
        refine lv_iadd hx hb dX6_frees_27 ?_
        refine lv_topi (fun v4 ev4 => ?_)
        have hw := hw v4 ev4
        refine lv_istore_n (lv' := [(1, .int v4), (0, .ref (ha 0)), (2, .int x2)]) hx hb dX6_frees_28 rfl hl (by decide) rfl (fun ls hl => ?_)
        obtain ⟨v5, ev5⟩ : ∃ y : Int32, y = x2 + 1 := ⟨_, rfl⟩
        have hw := hw v5 ev5
        refine lv_iinc (v := v5) (lv' := [(2, .int v5), (1, .int v4), (0, .ref (ha 0))]) hx hb dX6_frees_29 hl (k := 2) rfl (by rw [ev5]; rfl) (by decide) rfl (fun ls hl => ?_)
        refine lv_goto (tgt := 4) hx hb dX6_frees_32 (by decide) ?_
        exact ih v4 v5 σ _ _ _ hh (lv_sub hl [2, 1, 0] rfl) hw
      · have hw := hw.2 c3
        refine lv_iconst (v := 0) hx hb dX6_frees_22 (by decide) ?_
        refine lv_goto (tgt := 27) hx hb dX6_frees_23 (by decide) ?_
        refine lv_iadd hx hb dX6_frees_27 ?_
        refine lv_topi (fun v6 ev6 => ?_)
        have hw := hw v6 ev6
        refine lv_istore_n (lv' := [(1, .int v6), (0, .ref (ha 0)), (2, .int x2)]) hx hb dX6_frees_28 rfl hl (by decide) rfl (fun ls hl => ?_)
        obtain ⟨v7, ev7⟩ : ∃ y : Int32, y = x2 + 1 := ⟨_, rfl⟩
        have hw := hw v7 ev7
        refine lv_iinc (v := v7) (lv' := [(2, .int v7), (1, .int v6), (0, .ref (ha 0))]) hx hb dX6_frees_29 hl (k := 2) rfl (by rw [ev7]; rfl) (by decide) rfl (fun ls hl => ?_)
        refine lv_goto (tgt := 4) hx hb dX6_frees_32 (by decide) ?_
        exact ih v6 v7 σ _ _ _ hh (lv_sub hl [2, 1, 0] rfl) hw
set_option maxHeartbeats 4000000 in
set_option maxRecDepth 100000 in
theorem c_X6_frees (l : Launch) (D : va_G) (ha : Nat → Nat) (cy : Nat → ClassId) (sz : Nat) (σ : lf_St) (Post : Int32 → lf_St → Prop) (hw : wp_X6_frees σ Post) : lf_Mi l yX6_frees (lf_ws yX6_frees cX6_frees 3 (some .int)) rm_X6_frees D (tyM_ cy) (wM_ ha cy) sz σ [.ref (ha 0)] Post := by
  refine lf_ofi (by decide +kernel) (Nat.le_of_ble_eq_true rfl) ?_
  intro p e s m args below meth c A ls F hh hl
  have hx := F.1.1
  have hb := F.1.2.1
  have hl : lv_has ls 3 [(0, .ref (ha 0))] := hl
  obtain ⟨H, hHe⟩ : ∃ H, H = s.heap := ⟨_, rfl⟩
  rw [← hHe] at hh ⊢
  unfold wp_X6_frees at hw
  refine lv_iconst (v := 0) hx hb dX6_frees_0 (by decide) ?_
  refine lv_istore_n (lv' := [(1, .int 0), (0, .ref (ha 0))]) hx hb dX6_frees_1 rfl hl (by decide) rfl (fun ls hl => ?_)
  refine lv_iconst (v := 0) hx hb dX6_frees_2 (by decide) ?_
  refine lv_istore_n (lv' := [(2, .int 0), (1, .int 0), (0, .ref (ha 0))]) hx hb dX6_frees_3 rfl hl (by decide) rfl (fun ls hl => ?_)
  obtain ⟨n4, hw⟩ := hw
  exact w_X6_frees_4 Post F  n4 0 0 σ _ _ _ hh (lv_sub hl [2, 1, 0] rfl) hw
theorem cw_X6_74 {R : Room} {s : State} {args : Array Value} (ht : ∀ w ∈ wsL_law, w.before args s = true) (hR : rm_X6_frees.frames + 1 ≤ R.frames ∧ 8 + (3 + 11) + rm_X6_frees.locals ≤ R.locals) : lf_cV R s args RX6 RX6 74 yX6_frees cX6_frees 3 (some .int) rm_X6_frees 0 :=
  lf_cV_of 0 ht (lr_6 _ (List.mem_of_getElem? (i := 20) rfl)) (lr_6 _ (List.mem_of_getElem? (i := 17) rfl)) (lr_6 _ (List.mem_of_getElem? (i := 18) rfl)) (lr_6 _ (List.mem_of_getElem? (i := 19) rfl)) (lr_1 _ (List.mem_of_getElem? (i := 5) rfl)) rfl rfl (by decide +kernel) hR
def L_X6_joint_54 (Post : Int32 → lf_St → Prop) : Nat → Int32 → Int32 → Int32 → Int32 → lf_St → Prop
  | 0, _, _, _, _, _ => False
  | n + 1, x1, x2, x3, x4, σ => (((lf_gi σ 0) ≤ x4) → (vp_in (lf_gi σ 0) 6 ∧ (∀ σ3 : lf_St, σ3 = (lf_sa σ 1 ((lf_gi σ 0) : Int32).toNatClampNeg x1) → (vp_in (lf_gi σ3 0) 6 ∧ (∀ σ5 : lf_St, σ5 = (lf_sa σ3 2 ((lf_gi σ3 0) : Int32).toNatClampNeg x2) → (vp_in (lf_gi σ5 0) 6 ∧ (∀ σ7 : lf_St, σ7 = (lf_sa σ5 3 ((lf_gi σ5 0) : Int32).toNatClampNeg (vp_nar .boolean x3)) → (vp_in (lf_gi σ7 0) 6 ∧ (∀ σ9 : lf_St, σ9 = (lf_sa σ7 4 ((lf_gi σ7 0) : Int32).toNatClampNeg 0) → (vp_in (lf_gi σ9 0) 6 ∧ (∀ σ11 : lf_St, σ11 = (lf_sa σ9 5 ((lf_gi σ9 0) : Int32).toNatClampNeg 0) → (∀ σ12 : lf_St, σ12 = (lf_si (lf_si σ11 0 ((lf_gi σ11 0) + 1)) 12 0) → (Post ((lf_gi σ12 0) - 1) σ12))))))))))))) ∧ ((¬ ((lf_gi σ 0) ≤ x4)) → (vp_in x4 6 ∧ (((¬ (lf_ai σ 1 x4.toNatClampNeg) = x1) → (∀ v15 : Int32, v15 = x4 + 1 → (L_X6_joint_54 Post n x1 x2 x3 v15 σ))) ∧ (((lf_ai σ 1 x4.toNatClampNeg) = x1) → (vp_in x4 6 ∧ (((¬ (lf_ai σ 2 x4.toNatClampNeg) = x2) → (∀ v18 : Int32, v18 = x4 + 1 → (L_X6_joint_54 Post n x1 x2 x3 v18 σ))) ∧ (((lf_ai σ 2 x4.toNatClampNeg) = x2) → (Post (-5) σ))))))))
def wp_X6_joint (x1 : Int32) (x2 : Int32) (x3 : Int32) (σ : lf_St) (Post : Int32 → lf_St → Prop) : Prop := wp_X6_in (x1.toInt64) 0 6 σ (fun r1 σ1 => ((r1 = 0) → (Post (-2) σ1)) ∧ ((¬ (r1 = 0)) → (wp_X6_in (x2.toInt64) 0 6 σ1 (fun r3 σ3 => ((¬ r3 = 0) → ((((lf_gi σ3 0) = 6) → (Post (-4) σ3)) ∧ ((¬ ((lf_gi σ3 0) = 6)) → (((¬ x3 = 0) → (∃ fu : Nat, L_X6_joint_54 Post fu x1 x2 x3 0 σ3)) ∧ ((x3 = 0) → (wp_X6_frees σ3 (fun r7 σ7 => ((¬ r7 = 3) → (∃ fu : Nat, L_X6_joint_54 Post fu x1 x2 x3 0 σ7)) ∧ ((r7 = 3) → (Post (-4) σ7))))))))) ∧ ((r3 = 0) → (Post (-2) σ3))))))
def rm_X6_joint : Room := ({ frames := 1, cells := 0, slots := 0, locals := 25 } : Room)
set_option maxHeartbeats 4000000 in
set_option maxRecDepth 100000 in
theorem w_X6_joint_54 {p : Program} {l : Launch} {e : Env} {s : State} {m : MethodId} {args : Array Value} {below : List Frame} {meth : Method} {c : Code} {D : va_G} {A : Nat → Prop} {ha : Nat → Nat} {cy : Nat → ClassId} (Post : Int32 → lf_St → Prop) (F : lf_C p s m args meth c RX6 cX6_joint 5 (some .int) D (tyM_ cy) A) : ∀ (n : Nat) (x1 : Int32) (x2 : Int32) (x3 : Int32) (x4 : Int32) (σ : lf_St) (H : Heap) (locs : List Loc) (ls : Array Slot), lf_H D (wM_ ha cy) A s σ H locs → lv_has ls 5 [(0, .ref (ha 0)), (1, .int x1), (2, .int x2), (3, .int x3), (4, .int x4)] → L_X6_joint_54 Post n x1 x2 x3 x4 σ → W p l e rm_X6_joint s m args below meth c H locs 0 0 (lf_Qi below args s D (tyM_ cy) A (wM_ ha cy) Post) (F0 m 54 ls []) := by
  have hx := F.1.1
  have hb := F.1.2.1
  intro n
  induction n with
  | zero =>
    intro x1 x2 x3 x4 σ H locs ls hh hl hw
    exact False.elim hw
  | succ n ih =>
    intro x1 x2 x3 x4 σ H locs ls hh hl hw
    unfold L_X6_joint_54 at hw
    refine lv_iload hx hb dX6_joint_54 (lv_at hl 4 rfl) ?_
    refine lv_aload_n hx hb dX6_joint_56 rfl (lv_at hl 0 rfl) ?_
    refine fg_X6_57 F hh dX6_joint_57 ?_
    refine lv_icmp_ge (tgt := 94) hx hb dX6_joint_60 (by decide) (fun c1 => ?_) (fun c1 => ?_)
    · have hw := hw.1 c1
      refine lv_aload_n hx hb dX6_joint_94 rfl (lv_at hl 0 rfl) ?_
      refine fg_X6_7 F hh dX6_joint_95 ?_
      refine lv_aload_n hx hb dX6_joint_98 rfl (lv_at hl 0 rfl) ?_
      refine fg_X6_57 F hh dX6_joint_99 ?_
      refine lv_iload_n hx hb dX6_joint_102 rfl (lv_at hl 1 rfl) ?_
      obtain ⟨q2, hw⟩ := hw
      refine wa_M_1 F hh q2 dX6_joint_103 (fun H locs hh => ?_)
      refine lv_aload_n hx hb dX6_joint_104 rfl (lv_at hl 0 rfl) ?_
      refine fg_X6_13 F hh dX6_joint_105 ?_
      refine lv_aload_n hx hb dX6_joint_108 rfl (lv_at hl 0 rfl) ?_
      obtain ⟨σ3, eσ3⟩ : ∃ z : lf_St, z = (lf_sa σ 1 ((lf_gi σ 0) : Int32).toNatClampNeg x1) := ⟨_, rfl⟩
      rw [← eσ3] at hh
      have hw := hw σ3 eσ3
      refine fg_X6_57 F hh dX6_joint_109 ?_
      refine lv_iload_n hx hb dX6_joint_112 rfl (lv_at hl 2 rfl) ?_
      obtain ⟨q4, hw⟩ := hw
      refine wa_M_2 F hh q4 dX6_joint_113 (fun H locs hh => ?_)
      refine lv_aload_n hx hb dX6_joint_114 rfl (lv_at hl 0 rfl) ?_
      refine fg_X6_16 F hh dX6_joint_115 ?_
      refine lv_aload_n hx hb dX6_joint_118 rfl (lv_at hl 0 rfl) ?_
      obtain ⟨σ5, eσ5⟩ : ∃ z : lf_St, z = (lf_sa σ3 2 ((lf_gi σ3 0) : Int32).toNatClampNeg x2) := ⟨_, rfl⟩
      rw [← eσ5] at hh
      have hw := hw σ5 eσ5
      refine fg_X6_57 F hh dX6_joint_119 ?_
      refine lv_iload_n hx hb dX6_joint_122 rfl (lv_at hl 3 rfl) ?_
      obtain ⟨q6, hw⟩ := hw
      refine wa_M_3 F hh q6 dX6_joint_123 (fun H locs hh => ?_)
      refine lv_aload_n hx hb dX6_joint_124 rfl (lv_at hl 0 rfl) ?_
      refine fg_X6_20 F hh dX6_joint_125 ?_
      refine lv_aload_n hx hb dX6_joint_128 rfl (lv_at hl 0 rfl) ?_
      obtain ⟨σ7, eσ7⟩ : ∃ z : lf_St, z = (lf_sa σ5 3 ((lf_gi σ5 0) : Int32).toNatClampNeg (vp_nar .boolean x3)) := ⟨_, rfl⟩
      rw [← eσ7] at hh
      have hw := hw σ7 eσ7
      refine fg_X6_57 F hh dX6_joint_129 ?_
      refine lv_iconst (v := 0) hx hb dX6_joint_132 (by decide) ?_
      obtain ⟨q8, hw⟩ := hw
      refine wa_M_4 F hh q8 dX6_joint_133 (fun H locs hh => ?_)
      refine lv_aload_n hx hb dX6_joint_134 rfl (lv_at hl 0 rfl) ?_
      refine fg_X6_23 F hh dX6_joint_135 ?_
      refine lv_aload_n hx hb dX6_joint_138 rfl (lv_at hl 0 rfl) ?_
      obtain ⟨σ9, eσ9⟩ : ∃ z : lf_St, z = (lf_sa σ7 4 ((lf_gi σ7 0) : Int32).toNatClampNeg 0) := ⟨_, rfl⟩
      rw [← eσ9] at hh
      have hw := hw σ9 eσ9
      refine fg_X6_57 F hh dX6_joint_139 ?_
      refine lv_iconst (v := 0) hx hb dX6_joint_142 (by decide) ?_
      obtain ⟨q10, hw⟩ := hw
      refine wa_M_5 F hh q10 dX6_joint_143 (fun H locs hh => ?_)
      refine lv_aload_n hx hb dX6_joint_144 rfl (lv_at hl 0 rfl) ?_
      refine lv_dup hx hb dX6_joint_145 rfl ?_
      obtain ⟨σ11, eσ11⟩ : ∃ z : lf_St, z = (lf_sa σ9 5 ((lf_gi σ9 0) : Int32).toNatClampNeg 0) := ⟨_, rfl⟩
      rw [← eσ11] at hh
      have hw := hw σ11 eσ11
      refine fg_X6_57 F hh dX6_joint_146 ?_
      refine lv_iconst (v := 1) hx hb dX6_joint_149 (by decide) ?_
      refine lv_iadd hx hb dX6_joint_150 ?_
      refine fp_X6_57 F hh dX6_joint_151 (fun H locs hh => ?_)
      refine lv_aload_n hx hb dX6_joint_154 rfl (lv_at hl 0 rfl) ?_
      refine lv_iconst (v := 0) hx hb dX6_joint_155 (by decide) ?_
      refine fp_X6_78 F hh rfl dX6_joint_156 (fun H locs hh => ?_)
      refine lv_aload_n hx hb dX6_joint_159 rfl (lv_at hl 0 rfl) ?_
      obtain ⟨σ12, eσ12⟩ : ∃ z : lf_St, z = (lf_si (lf_si σ11 0 ((lf_gi σ11 0) + 1)) 12 0) := ⟨_, rfl⟩
      rw [← eσ12] at hh
      have hw := hw σ12 eσ12
      refine fg_X6_57 F hh dX6_joint_160 ?_
      refine lv_iconst (v := 1) hx hb dX6_joint_163 (by decide) ?_
      refine lv_isub hx hb dX6_joint_164 ?_
      exact lf_reti F hh hw dX6_joint_165
    · have hw := hw.2 c1
      refine lv_aload_n hx hb dX6_joint_63 rfl (lv_at hl 0 rfl) ?_
      refine fg_X6_7 F hh dX6_joint_64 ?_
      refine lv_iload hx hb dX6_joint_67 (lv_at hl 4 rfl) ?_
      obtain ⟨q13, hw⟩ := hw
      refine ra_M_1 F hh q13 dX6_joint_69 ?_
      refine lv_iload_n hx hb dX6_joint_70 rfl (lv_at hl 1 rfl) ?_
      refine lv_icmp_ne (tgt := 88) hx hb dX6_joint_71 (by decide) (fun c14 => ?_) (fun c14 => ?_)
      · have hw := hw.1 c14
        obtain ⟨v15, ev15⟩ : ∃ y : Int32, y = x4 + 1 := ⟨_, rfl⟩
        have hw := hw v15 ev15
        refine lv_iinc (v := v15) (lv' := [(4, .int v15), (0, .ref (ha 0)), (1, .int x1), (2, .int x2), (3, .int x3)]) hx hb dX6_joint_88 hl (k := 4) rfl (by rw [ev15]; rfl) (by decide) rfl (fun ls hl => ?_)
        refine lv_goto (tgt := 54) hx hb dX6_joint_91 (by decide) ?_
        exact ih x1 x2 x3 v15 σ _ _ _ hh (lv_sub hl [1, 2, 3, 4, 0] rfl) hw
      · have hw := hw.2 c14
        refine lv_aload_n hx hb dX6_joint_74 rfl (lv_at hl 0 rfl) ?_
        refine fg_X6_13 F hh dX6_joint_75 ?_
        refine lv_iload hx hb dX6_joint_78 (lv_at hl 4 rfl) ?_
        obtain ⟨q16, hw⟩ := hw
        refine ra_M_2 F hh q16 dX6_joint_80 ?_
        refine lv_iload_n hx hb dX6_joint_81 rfl (lv_at hl 2 rfl) ?_
        refine lv_icmp_ne (tgt := 88) hx hb dX6_joint_82 (by decide) (fun c17 => ?_) (fun c17 => ?_)
        · have hw := hw.1 c17
          obtain ⟨v18, ev18⟩ : ∃ y : Int32, y = x4 + 1 := ⟨_, rfl⟩
          have hw := hw v18 ev18
          refine lv_iinc (v := v18) (lv' := [(4, .int v18), (0, .ref (ha 0)), (1, .int x1), (2, .int x2), (3, .int x3)]) hx hb dX6_joint_88 hl (k := 4) rfl (by rw [ev18]; rfl) (by decide) rfl (fun ls hl => ?_)
          refine lv_goto (tgt := 54) hx hb dX6_joint_91 (by decide) ?_
          exact ih x1 x2 x3 v18 σ _ _ _ hh (lv_sub hl [1, 2, 3, 4, 0] rfl) hw
        · have hw := hw.2 c17
          refine lv_bipush (v := (-5)) hx hb dX6_joint_85 (by decide) ?_
          exact lf_reti F hh hw dX6_joint_87
set_option maxHeartbeats 4000000 in
set_option maxRecDepth 100000 in
theorem c_X6_joint (l : Launch) (D : va_G) (ha : Nat → Nat) (cy : Nat → ClassId) (sz : Nat) (σ : lf_St) (x1 : Int32) (x2 : Int32) (x3 : Int32) (Post : Int32 → lf_St → Prop) (hw : wp_X6_joint x1 x2 x3 σ Post) : lf_Mi l yX6_joint (lf_ws yX6_joint cX6_joint 5 (some .int)) rm_X6_joint D (tyM_ cy) (wM_ ha cy) sz σ [.ref (ha 0), .int x1, .int x2, .int x3] Post := by
  refine lf_ofi (by decide +kernel) (Nat.le_of_ble_eq_true rfl) ?_
  intro p e s m args below meth c A ls F hh hl
  have hx := F.1.1
  have hb := F.1.2.1
  have hl : lv_has ls 5 [(0, .ref (ha 0)), (1, .int x1), (2, .int x2), (3, .int x3)] := hl
  obtain ⟨H, hHe⟩ : ∃ H, H = s.heap := ⟨_, rfl⟩
  rw [← hHe] at hh ⊢
  unfold wp_X6_joint at hw
  refine lv_iload_n hx hb dX6_joint_0 rfl (lv_at hl 1 rfl) ?_
  refine lv_i2l hx hb dX6_joint_1 rfl ?_
  refine lv_lconst (v := 0) hx hb dX6_joint_2 (by decide) ?_
  refine lv_ldc2 hx hb F.1.2.2.2.1 (F.1.2.2.2.2 _ (lr_6 _ (List.mem_of_getElem? (i := 11) rfl))) dX6_joint_3 ?_
  refine lf_callSi (rest := []) F hh (cw_X6_61 F.1.2.2.2.2 ⟨Nat.le_of_ble_eq_true rfl, Nat.le_of_ble_eq_true rfl⟩) (c_X6_in l D ha cy H.size σ (x1.toInt64) 0 6 _ hw) rfl hl.1 (Nat.le_of_ble_eq_true rfl) dX6_joint_6 rfl (fun r1 σ1 H locs hw hh => ?_)
  refine lv_if_eq (tgt := 24) hx hb dX6_joint_9 (by decide) (fun c2 => ?_) (fun c2 => ?_)
  · have hw := hw.1 c2
    refine lv_bipush (v := (-2)) hx hb dX6_joint_24 (by decide) ?_
    exact lf_reti F hh hw dX6_joint_26
  · have hw := hw.2 c2
    refine lv_iload_n hx hb dX6_joint_12 rfl (lv_at hl 2 rfl) ?_
    refine lv_i2l hx hb dX6_joint_13 rfl ?_
    refine lv_lconst (v := 0) hx hb dX6_joint_14 (by decide) ?_
    refine lv_ldc2 hx hb F.1.2.2.2.1 (F.1.2.2.2.2 _ (lr_6 _ (List.mem_of_getElem? (i := 11) rfl))) dX6_joint_15 ?_
    refine lf_callSi (rest := []) F hh (cw_X6_61 F.1.2.2.2.2 ⟨Nat.le_of_ble_eq_true rfl, Nat.le_of_ble_eq_true rfl⟩) (c_X6_in l D ha cy H.size σ1 (x2.toInt64) 0 6 _ hw) rfl hl.1 (Nat.le_of_ble_eq_true rfl) dX6_joint_18 rfl (fun r3 σ3 H locs hw hh => ?_)
    refine lv_if_ne (tgt := 27) hx hb dX6_joint_21 (by decide) (fun c4 => ?_) (fun c4 => ?_)
    · have hw := hw.1 c4
      refine lv_aload_n hx hb dX6_joint_27 rfl (lv_at hl 0 rfl) ?_
      refine fg_X6_57 F hh dX6_joint_28 ?_
      refine lv_bipush (v := 6) hx hb dX6_joint_31 (by decide) ?_
      refine lv_icmp_eq (tgt := 48) hx hb dX6_joint_33 (by decide) (fun c5 => ?_) (fun c5 => ?_)
      · have hw := hw.1 c5
        refine lv_bipush (v := (-4)) hx hb dX6_joint_48 (by decide) ?_
        exact lf_reti F hh hw dX6_joint_50
      · have hw := hw.2 c5
        refine lv_iload_n hx hb dX6_joint_36 rfl (lv_at hl 3 rfl) ?_
        refine lv_if_ne (tgt := 51) hx hb dX6_joint_37 (by decide) (fun c6 => ?_) (fun c6 => ?_)
        · have hw := hw.1 c6
          refine lv_iconst (v := 0) hx hb dX6_joint_51 (by decide) ?_
          refine lv_istore (lv' := [(4, .int 0), (0, .ref (ha 0)), (1, .int x1), (2, .int x2), (3, .int x3)]) hx hb dX6_joint_52 hl (by decide) rfl (fun ls hl => ?_)
          obtain ⟨n54, hw⟩ := hw
          exact w_X6_joint_54 Post F  n54 x1 x2 x3 0 σ3 _ _ _ hh (lv_sub hl [1, 2, 3, 4, 0] rfl) hw
        · have hw := hw.2 c6
          refine lv_aload_n hx hb dX6_joint_40 rfl (lv_at hl 0 rfl) ?_
          refine lf_callVi (rest := []) F hh (cw_X6_74 F.1.2.2.2.2 ⟨Nat.le_of_ble_eq_true rfl, Nat.le_of_ble_eq_true rfl⟩) (c_X6_frees l D ha cy H.size σ3  _ hw) 0 6 rfl rfl rfl rfl hl.1 (Nat.le_of_ble_eq_true rfl) dX6_joint_41 rfl (fun r7 σ7 H locs hw hh => ?_)
          refine lv_iconst (v := 3) hx hb dX6_joint_44 (by decide) ?_
          refine lv_icmp_ne (tgt := 51) hx hb dX6_joint_45 (by decide) (fun c8 => ?_) (fun c8 => ?_)
          · have hw := hw.1 c8
            refine lv_iconst (v := 0) hx hb dX6_joint_51 (by decide) ?_
            refine lv_istore (lv' := [(4, .int 0), (0, .ref (ha 0)), (1, .int x1), (2, .int x2), (3, .int x3)]) hx hb dX6_joint_52 hl (by decide) rfl (fun ls hl => ?_)
            obtain ⟨n54, hw⟩ := hw
            exact w_X6_joint_54 Post F  n54 x1 x2 x3 0 σ7 _ _ _ hh (lv_sub hl [1, 2, 3, 4, 0] rfl) hw
          · have hw := hw.2 c8
            refine lv_bipush (v := (-4)) hx hb dX6_joint_48 (by decide) ?_
            exact lf_reti F hh hw dX6_joint_50
    · have hw := hw.2 c4
      refine lv_bipush (v := (-2)) hx hb dX6_joint_24 (by decide) ?_
      exact lf_reti F hh hw dX6_joint_26
theorem cw_X6_82 {R : Room} {s : State} {args : Array Value} (ht : ∀ w ∈ wsL_law, w.before args s = true) (hR : rm_X6_isJoint.frames + 1 ≤ R.frames ∧ 8 + (2 + 11) + rm_X6_isJoint.locals ≤ R.locals) : lf_cV R s args RX6 RX6 82 yX6_isJoint cX6_isJoint 2 (some .boolean) rm_X6_isJoint 1 :=
  lf_cV_of 1 ht (lr_9 _ (List.mem_of_getElem? (i := 2) rfl)) (lr_8 _ (List.mem_of_getElem? (i := 23) rfl)) (lr_9 _ (List.mem_of_getElem? (i := 0) rfl)) (lr_9 _ (List.mem_of_getElem? (i := 1) rfl)) (lr_1 _ (List.mem_of_getElem? (i := 5) rfl)) rfl rfl (by decide +kernel) hR
def J_X6_bar_65 (K_37 : Int32 → Int32 → Int32 → lf_St → Prop) (Post : Int32 → lf_St → Prop) (x1 : Int32) (x2 : Int32) (x3 : Int32) (σ : lf_St) : Prop := vp_in x3 10 ∧ (((¬ (lf_ai σ 7 x3.toNatClampNeg) = x2) → (∀ v3 : Int32, v3 = x3 + 1 → (K_37 x1 x2 v3 σ))) ∧ (((lf_ai σ 7 x3.toNatClampNeg) = x2) → (vp_in x3 10 ∧ (((¬ (lf_ai σ 8 x3.toNatClampNeg) = x1) → (∀ v6 : Int32, v6 = x3 + 1 → (K_37 x1 x2 v6 σ))) ∧ (((lf_ai σ 8 x3.toNatClampNeg) = x1) → (Post (-5) σ))))))
def L_X6_bar_37 (Post : Int32 → lf_St → Prop) : Nat → Int32 → Int32 → Int32 → lf_St → Prop
  | 0, _, _, _, _ => False
  | n + 1, x1, x2, x3, σ => (((lf_gi σ 6) ≤ x3) → (vp_in (lf_gi σ 6) 10 ∧ (∀ σ3 : lf_St, σ3 = (lf_sa σ 7 ((lf_gi σ 6) : Int32).toNatClampNeg x1) → (vp_in (lf_gi σ3 6) 10 ∧ (∀ σ5 : lf_St, σ5 = (lf_sa σ3 8 ((lf_gi σ3 6) : Int32).toNatClampNeg x2) → (∀ σ6 : lf_St, σ6 = (lf_si (lf_si σ5 6 ((lf_gi σ5 6) + 1)) 12 0) → (Post ((lf_gi σ6 6) - 1) σ6))))))) ∧ ((¬ ((lf_gi σ 6) ≤ x3)) → (vp_in x3 10 ∧ (((¬ (lf_ai σ 7 x3.toNatClampNeg) = x1) → (J_X6_bar_65 (L_X6_bar_37 Post n) Post x1 x2 x3 σ)) ∧ (((lf_ai σ 7 x3.toNatClampNeg) = x1) → (vp_in x3 10 ∧ ((((lf_ai σ 8 x3.toNatClampNeg) = x2) → (Post (-5) σ)) ∧ ((¬ ((lf_ai σ 8 x3.toNatClampNeg) = x2)) → (J_X6_bar_65 (L_X6_bar_37 Post n) Post x1 x2 x3 σ))))))))
def wp_X6_bar (x1 : Int32) (x2 : Int32) (σ : lf_St) (Post : Int32 → lf_St → Prop) : Prop := wp_X6_isJoint x1 σ (fun r1 σ1 => ((r1 = 0) → (Post (-1) σ1)) ∧ ((¬ (r1 = 0)) → (wp_X6_isJoint x2 σ1 (fun r3 σ3 => ((r3 = 0) → (Post (-1) σ3)) ∧ ((¬ (r3 = 0)) → (((¬ x1 = x2) → (((¬ (lf_gi σ3 6) = 10) → (∃ fu : Nat, L_X6_bar_37 Post fu x1 x2 0 σ3)) ∧ (((lf_gi σ3 6) = 10) → (Post (-4) σ3)))) ∧ ((x1 = x2) → (Post (-1) σ3))))))))
def rm_X6_bar : Room := ({ frames := 2, cells := 0, slots := 0, locals := 46 } : Room)
set_option maxHeartbeats 4000000 in
set_option maxRecDepth 100000 in
theorem w_X6_bar_65 {p : Program} {l : Launch} {e : Env} {s : State} {m : MethodId} {args : Array Value} {below : List Frame} {meth : Method} {c : Code} {D : va_G} {A : Nat → Prop} {ha : Nat → Nat} {cy : Nat → ClassId} (K_37 : Int32 → Int32 → Int32 → lf_St → Prop) (Post : Int32 → lf_St → Prop) (F : lf_C p s m args meth c RX6 cX6_bar 4 (some .int) D (tyM_ cy) A) (hK_37 : ∀ (x1 : Int32) (x2 : Int32) (x3 : Int32) (σ : lf_St) (H : Heap) (locs : List Loc) (ls : Array Slot), lf_H D (wM_ ha cy) A s σ H locs → lv_has ls 4 [(0, .ref (ha 0)), (1, .int x1), (2, .int x2), (3, .int x3)] → K_37 x1 x2 x3 σ → W p l e rm_X6_bar s m args below meth c H locs 0 0 (lf_Qi below args s D (tyM_ cy) A (wM_ ha cy) Post) (F0 m 37 ls [])) (x1 : Int32) (x2 : Int32) (x3 : Int32) (σ : lf_St) (H : Heap) (locs : List Loc) (ls : Array Slot) (hh : lf_H D (wM_ ha cy) A s σ H locs) (hl : lv_has ls 4 [(0, .ref (ha 0)), (1, .int x1), (2, .int x2), (3, .int x3)]) (hw : J_X6_bar_65 K_37 Post x1 x2 x3 σ) : W p l e rm_X6_bar s m args below meth c H locs 0 0 (lf_Qi below args s D (tyM_ cy) A (wM_ ha cy) Post) (F0 m 65 ls []) := by
  have hx := F.1.1
  have hb := F.1.2.1
  unfold J_X6_bar_65 at hw
  refine lv_aload_n hx hb dX6_bar_65 rfl (lv_at hl 0 rfl) ?_
  refine fg_X6_26 F hh dX6_bar_66 ?_
  refine lv_iload_n hx hb dX6_bar_69 rfl (lv_at hl 3 rfl) ?_
  obtain ⟨q1, hw⟩ := hw
  refine ra_M_7 F hh q1 dX6_bar_70 ?_
  refine lv_iload_n hx hb dX6_bar_71 rfl (lv_at hl 2 rfl) ?_
  refine lv_icmp_ne (tgt := 88) hx hb dX6_bar_72 (by decide) (fun c2 => ?_) (fun c2 => ?_)
  · have hw := hw.1 c2
    obtain ⟨v3, ev3⟩ : ∃ y : Int32, y = x3 + 1 := ⟨_, rfl⟩
    have hw := hw v3 ev3
    refine lv_iinc (v := v3) (lv' := [(3, .int v3), (0, .ref (ha 0)), (1, .int x1), (2, .int x2)]) hx hb dX6_bar_88 hl (k := 3) rfl (by rw [ev3]; rfl) (by decide) rfl (fun ls hl => ?_)
    refine lv_goto (tgt := 37) hx hb dX6_bar_91 (by decide) ?_
    exact hK_37 x1 x2 v3 σ _ _ _ hh (lv_sub hl [1, 2, 3, 0] rfl) hw
  · have hw := hw.2 c2
    refine lv_aload_n hx hb dX6_bar_75 rfl (lv_at hl 0 rfl) ?_
    refine fg_X6_29 F hh dX6_bar_76 ?_
    refine lv_iload_n hx hb dX6_bar_79 rfl (lv_at hl 3 rfl) ?_
    obtain ⟨q4, hw⟩ := hw
    refine ra_M_8 F hh q4 dX6_bar_80 ?_
    refine lv_iload_n hx hb dX6_bar_81 rfl (lv_at hl 1 rfl) ?_
    refine lv_icmp_ne (tgt := 88) hx hb dX6_bar_82 (by decide) (fun c5 => ?_) (fun c5 => ?_)
    · have hw := hw.1 c5
      obtain ⟨v6, ev6⟩ : ∃ y : Int32, y = x3 + 1 := ⟨_, rfl⟩
      have hw := hw v6 ev6
      refine lv_iinc (v := v6) (lv' := [(3, .int v6), (0, .ref (ha 0)), (1, .int x1), (2, .int x2)]) hx hb dX6_bar_88 hl (k := 3) rfl (by rw [ev6]; rfl) (by decide) rfl (fun ls hl => ?_)
      refine lv_goto (tgt := 37) hx hb dX6_bar_91 (by decide) ?_
      exact hK_37 x1 x2 v6 σ _ _ _ hh (lv_sub hl [1, 2, 3, 0] rfl) hw
    · have hw := hw.2 c5
      refine lv_bipush (v := (-5)) hx hb dX6_bar_85 (by decide) ?_
      exact lf_reti F hh hw dX6_bar_87
set_option maxHeartbeats 4000000 in
set_option maxRecDepth 100000 in
theorem w_X6_bar_37 {p : Program} {l : Launch} {e : Env} {s : State} {m : MethodId} {args : Array Value} {below : List Frame} {meth : Method} {c : Code} {D : va_G} {A : Nat → Prop} {ha : Nat → Nat} {cy : Nat → ClassId} (Post : Int32 → lf_St → Prop) (F : lf_C p s m args meth c RX6 cX6_bar 4 (some .int) D (tyM_ cy) A) : ∀ (n : Nat) (x1 : Int32) (x2 : Int32) (x3 : Int32) (σ : lf_St) (H : Heap) (locs : List Loc) (ls : Array Slot), lf_H D (wM_ ha cy) A s σ H locs → lv_has ls 4 [(0, .ref (ha 0)), (1, .int x1), (2, .int x2), (3, .int x3)] → L_X6_bar_37 Post n x1 x2 x3 σ → W p l e rm_X6_bar s m args below meth c H locs 0 0 (lf_Qi below args s D (tyM_ cy) A (wM_ ha cy) Post) (F0 m 37 ls []) := by
  have hx := F.1.1
  have hb := F.1.2.1
  intro n
  induction n with
  | zero =>
    intro x1 x2 x3 σ H locs ls hh hl hw
    exact False.elim hw
  | succ n ih =>
    intro x1 x2 x3 σ H locs ls hh hl hw
    unfold L_X6_bar_37 at hw
    refine lv_iload_n hx hb dX6_bar_37 rfl (lv_at hl 3 rfl) ?_
    refine lv_aload_n hx hb dX6_bar_38 rfl (lv_at hl 0 rfl) ?_
    refine fg_X6_65 F hh dX6_bar_39 ?_
    refine lv_icmp_ge (tgt := 94) hx hb dX6_bar_42 (by decide) (fun c1 => ?_) (fun c1 => ?_)
    · have hw := hw.1 c1
      refine lv_aload_n hx hb dX6_bar_94 rfl (lv_at hl 0 rfl) ?_
      refine fg_X6_26 F hh dX6_bar_95 ?_
      refine lv_aload_n hx hb dX6_bar_98 rfl (lv_at hl 0 rfl) ?_
      refine fg_X6_65 F hh dX6_bar_99 ?_
      refine lv_iload_n hx hb dX6_bar_102 rfl (lv_at hl 1 rfl) ?_
      obtain ⟨q2, hw⟩ := hw
      refine wa_M_7 F hh q2 dX6_bar_103 (fun H locs hh => ?_)
      refine lv_aload_n hx hb dX6_bar_104 rfl (lv_at hl 0 rfl) ?_
      refine fg_X6_29 F hh dX6_bar_105 ?_
      refine lv_aload_n hx hb dX6_bar_108 rfl (lv_at hl 0 rfl) ?_
      obtain ⟨σ3, eσ3⟩ : ∃ z : lf_St, z = (lf_sa σ 7 ((lf_gi σ 6) : Int32).toNatClampNeg x1) := ⟨_, rfl⟩
      rw [← eσ3] at hh
      have hw := hw σ3 eσ3
      refine fg_X6_65 F hh dX6_bar_109 ?_
      refine lv_iload_n hx hb dX6_bar_112 rfl (lv_at hl 2 rfl) ?_
      obtain ⟨q4, hw⟩ := hw
      refine wa_M_8 F hh q4 dX6_bar_113 (fun H locs hh => ?_)
      refine lv_aload_n hx hb dX6_bar_114 rfl (lv_at hl 0 rfl) ?_
      refine lv_dup hx hb dX6_bar_115 rfl ?_
      obtain ⟨σ5, eσ5⟩ : ∃ z : lf_St, z = (lf_sa σ3 8 ((lf_gi σ3 6) : Int32).toNatClampNeg x2) := ⟨_, rfl⟩
      rw [← eσ5] at hh
      have hw := hw σ5 eσ5
      refine fg_X6_65 F hh dX6_bar_116 ?_
      refine lv_iconst (v := 1) hx hb dX6_bar_119 (by decide) ?_
      refine lv_iadd hx hb dX6_bar_120 ?_
      refine fp_X6_65 F hh dX6_bar_121 (fun H locs hh => ?_)
      refine lv_aload_n hx hb dX6_bar_124 rfl (lv_at hl 0 rfl) ?_
      refine lv_iconst (v := 0) hx hb dX6_bar_125 (by decide) ?_
      refine fp_X6_78 F hh rfl dX6_bar_126 (fun H locs hh => ?_)
      refine lv_aload_n hx hb dX6_bar_129 rfl (lv_at hl 0 rfl) ?_
      obtain ⟨σ6, eσ6⟩ : ∃ z : lf_St, z = (lf_si (lf_si σ5 6 ((lf_gi σ5 6) + 1)) 12 0) := ⟨_, rfl⟩
      rw [← eσ6] at hh
      have hw := hw σ6 eσ6
      refine fg_X6_65 F hh dX6_bar_130 ?_
      refine lv_iconst (v := 1) hx hb dX6_bar_133 (by decide) ?_
      refine lv_isub hx hb dX6_bar_134 ?_
      exact lf_reti F hh hw dX6_bar_135
    · have hw := hw.2 c1
      refine lv_aload_n hx hb dX6_bar_45 rfl (lv_at hl 0 rfl) ?_
      refine fg_X6_26 F hh dX6_bar_46 ?_
      refine lv_iload_n hx hb dX6_bar_49 rfl (lv_at hl 3 rfl) ?_
      obtain ⟨q7, hw⟩ := hw
      refine ra_M_7 F hh q7 dX6_bar_50 ?_
      refine lv_iload_n hx hb dX6_bar_51 rfl (lv_at hl 1 rfl) ?_
      refine lv_icmp_ne (tgt := 65) hx hb dX6_bar_52 (by decide) (fun c8 => ?_) (fun c8 => ?_)
      · have hw := hw.1 c8
        exact w_X6_bar_65 _ Post F ih x1 x2 x3 σ _ _ _ hh (lv_sub hl [0, 1, 2, 3] rfl) hw
      · have hw := hw.2 c8
        refine lv_aload_n hx hb dX6_bar_55 rfl (lv_at hl 0 rfl) ?_
        refine fg_X6_29 F hh dX6_bar_56 ?_
        refine lv_iload_n hx hb dX6_bar_59 rfl (lv_at hl 3 rfl) ?_
        obtain ⟨q9, hw⟩ := hw
        refine ra_M_8 F hh q9 dX6_bar_60 ?_
        refine lv_iload_n hx hb dX6_bar_61 rfl (lv_at hl 2 rfl) ?_
        refine lv_icmp_eq (tgt := 85) hx hb dX6_bar_62 (by decide) (fun c10 => ?_) (fun c10 => ?_)
        · have hw := hw.1 c10
          refine lv_bipush (v := (-5)) hx hb dX6_bar_85 (by decide) ?_
          exact lf_reti F hh hw dX6_bar_87
        · have hw := hw.2 c10
          exact w_X6_bar_65 _ Post F ih x1 x2 x3 σ _ _ _ hh (lv_sub hl [0, 1, 2, 3] rfl) hw
set_option maxHeartbeats 4000000 in
set_option maxRecDepth 100000 in
theorem c_X6_bar (l : Launch) (D : va_G) (ha : Nat → Nat) (cy : Nat → ClassId) (sz : Nat) (σ : lf_St) (x1 : Int32) (x2 : Int32) (Post : Int32 → lf_St → Prop) (hw : wp_X6_bar x1 x2 σ Post) : lf_Mi l yX6_bar (lf_ws yX6_bar cX6_bar 4 (some .int)) rm_X6_bar D (tyM_ cy) (wM_ ha cy) sz σ [.ref (ha 0), .int x1, .int x2] Post := by
  refine lf_ofi (by decide +kernel) (Nat.le_of_ble_eq_true rfl) ?_
  intro p e s m args below meth c A ls F hh hl
  have hx := F.1.1
  have hb := F.1.2.1
  have hl : lv_has ls 4 [(0, .ref (ha 0)), (1, .int x1), (2, .int x2)] := hl
  obtain ⟨H, hHe⟩ : ∃ H, H = s.heap := ⟨_, rfl⟩
  rw [← hHe] at hh ⊢
  unfold wp_X6_bar at hw
  refine lv_aload_n hx hb dX6_bar_0 rfl (lv_at hl 0 rfl) ?_
  refine lv_iload_n hx hb dX6_bar_1 rfl (lv_at hl 1 rfl) ?_
  refine lf_callVi (rest := []) F hh (cw_X6_82 F.1.2.2.2.2 ⟨Nat.le_of_ble_eq_true rfl, Nat.le_of_ble_eq_true rfl⟩) (c_X6_isJoint l D ha cy H.size σ x1 _ hw) 0 6 rfl rfl rfl rfl hl.1 (Nat.le_of_ble_eq_true rfl) dX6_bar_2 rfl (fun r1 σ1 H locs hw hh => ?_)
  refine lv_if_eq (tgt := 21) hx hb dX6_bar_5 (by decide) (fun c2 => ?_) (fun c2 => ?_)
  · have hw := hw.1 c2
    refine lv_iconst (v := (-1)) hx hb dX6_bar_21 (by decide) ?_
    exact lf_reti F hh hw dX6_bar_22
  · have hw := hw.2 c2
    refine lv_aload_n hx hb dX6_bar_8 rfl (lv_at hl 0 rfl) ?_
    refine lv_iload_n hx hb dX6_bar_9 rfl (lv_at hl 2 rfl) ?_
    refine lf_callVi (rest := []) F hh (cw_X6_82 F.1.2.2.2.2 ⟨Nat.le_of_ble_eq_true rfl, Nat.le_of_ble_eq_true rfl⟩) (c_X6_isJoint l D ha cy H.size σ1 x2 _ hw) 0 6 rfl rfl rfl rfl hl.1 (Nat.le_of_ble_eq_true rfl) dX6_bar_10 rfl (fun r3 σ3 H locs hw hh => ?_)
    refine lv_if_eq (tgt := 21) hx hb dX6_bar_13 (by decide) (fun c4 => ?_) (fun c4 => ?_)
    · have hw := hw.1 c4
      refine lv_iconst (v := (-1)) hx hb dX6_bar_21 (by decide) ?_
      exact lf_reti F hh hw dX6_bar_22
    · have hw := hw.2 c4
      refine lv_iload_n hx hb dX6_bar_16 rfl (lv_at hl 1 rfl) ?_
      refine lv_iload_n hx hb dX6_bar_17 rfl (lv_at hl 2 rfl) ?_
      refine lv_icmp_ne (tgt := 23) hx hb dX6_bar_18 (by decide) (fun c5 => ?_) (fun c5 => ?_)
      · have hw := hw.1 c5
        refine lv_aload_n hx hb dX6_bar_23 rfl (lv_at hl 0 rfl) ?_
        refine fg_X6_65 F hh dX6_bar_24 ?_
        refine lv_bipush (v := 10) hx hb dX6_bar_27 (by decide) ?_
        refine lv_icmp_ne (tgt := 35) hx hb dX6_bar_29 (by decide) (fun c6 => ?_) (fun c6 => ?_)
        · have hw := hw.1 c6
          refine lv_iconst (v := 0) hx hb dX6_bar_35 (by decide) ?_
          refine lv_istore_n (lv' := [(3, .int 0), (0, .ref (ha 0)), (1, .int x1), (2, .int x2)]) hx hb dX6_bar_36 rfl hl (by decide) rfl (fun ls hl => ?_)
          obtain ⟨n37, hw⟩ := hw
          exact w_X6_bar_37 Post F  n37 x1 x2 0 σ3 _ _ _ hh (lv_sub hl [1, 2, 3, 0] rfl) hw
        · have hw := hw.2 c6
          refine lv_bipush (v := (-4)) hx hb dX6_bar_32 (by decide) ?_
          exact lf_reti F hh hw dX6_bar_34
      · have hw := hw.2 c5
        refine lv_iconst (v := (-1)) hx hb dX6_bar_21 (by decide) ?_
        exact lf_reti F hh hw dX6_bar_22
def wp_X6_load (x1 : Int32) (x2 : Int32) (x3 : Int32) (σ : lf_St) (Post : Int32 → lf_St → Prop) : Prop := wp_X6_isJoint x1 σ (fun r1 σ1 => ((¬ r1 = 0) → (wp_X6_in (x2.toInt64) (-20) 20 σ1 (fun r3 σ3 => ((r3 = 0) → (Post (-2) σ3)) ∧ ((¬ (r3 = 0)) → (wp_X6_in (x3.toInt64) (-20) 20 σ3 (fun r5 σ5 => ((¬ r5 = 0) → (vp_in x1 6 ∧ ((((lf_ai σ5 3 x1.toNatClampNeg) = 0) → (vp_in x1 6 ∧ (vp_in x1 6 ∧ (Post 1 (lf_si (lf_sa (lf_sa σ5 4 x1.toNatClampNeg x2) 5 x1.toNatClampNeg x3) 12 0))))) ∧ ((¬ ((lf_ai σ5 3 x1.toNatClampNeg) = 0)) → (Post (-5) σ5))))) ∧ ((r5 = 0) → (Post (-2) σ5)))))))) ∧ ((r1 = 0) → (Post (-1) σ1)))
def rm_X6_load : Room := ({ frames := 2, cells := 0, slots := 0, locals := 46 } : Room)
set_option maxHeartbeats 4000000 in
set_option maxRecDepth 100000 in
theorem c_X6_load (l : Launch) (D : va_G) (ha : Nat → Nat) (cy : Nat → ClassId) (sz : Nat) (σ : lf_St) (x1 : Int32) (x2 : Int32) (x3 : Int32) (Post : Int32 → lf_St → Prop) (hw : wp_X6_load x1 x2 x3 σ Post) : lf_Mi l yX6_load (lf_ws yX6_load cX6_load 4 (some .int)) rm_X6_load D (tyM_ cy) (wM_ ha cy) sz σ [.ref (ha 0), .int x1, .int x2, .int x3] Post := by
  refine lf_ofi (by decide +kernel) (Nat.le_of_ble_eq_true rfl) ?_
  intro p e s m args below meth c A ls F hh hl
  have hx := F.1.1
  have hb := F.1.2.1
  have hl : lv_has ls 4 [(0, .ref (ha 0)), (1, .int x1), (2, .int x2), (3, .int x3)] := hl
  obtain ⟨H, hHe⟩ : ∃ H, H = s.heap := ⟨_, rfl⟩
  rw [← hHe] at hh ⊢
  unfold wp_X6_load at hw
  refine lv_aload_n hx hb dX6_load_0 rfl (lv_at hl 0 rfl) ?_
  refine lv_iload_n hx hb dX6_load_1 rfl (lv_at hl 1 rfl) ?_
  refine lf_callVi (rest := []) F hh (cw_X6_82 F.1.2.2.2.2 ⟨Nat.le_of_ble_eq_true rfl, Nat.le_of_ble_eq_true rfl⟩) (c_X6_isJoint l D ha cy H.size σ x1 _ hw) 0 6 rfl rfl rfl rfl hl.1 (Nat.le_of_ble_eq_true rfl) dX6_load_2 rfl (fun r1 σ1 H locs hw hh => ?_)
  refine lv_if_ne (tgt := 10) hx hb dX6_load_5 (by decide) (fun c2 => ?_) (fun c2 => ?_)
  · have hw := hw.1 c2
    refine lv_iload_n hx hb dX6_load_10 rfl (lv_at hl 2 rfl) ?_
    refine lv_i2l hx hb dX6_load_11 rfl ?_
    refine lv_ldc2 hx hb F.1.2.2.2.1 (F.1.2.2.2.2 _ (lr_9 _ (List.mem_of_getElem? (i := 16) rfl))) dX6_load_12 ?_
    refine lv_ldc2 hx hb F.1.2.2.2.1 (F.1.2.2.2.2 _ (lr_9 _ (List.mem_of_getElem? (i := 17) rfl))) dX6_load_15 ?_
    refine lf_callSi (rest := []) F hh (cw_X6_61 F.1.2.2.2.2 ⟨Nat.le_of_ble_eq_true rfl, Nat.le_of_ble_eq_true rfl⟩) (c_X6_in l D ha cy H.size σ1 (x2.toInt64) (-20) 20 _ hw) rfl hl.1 (Nat.le_of_ble_eq_true rfl) dX6_load_18 rfl (fun r3 σ3 H locs hw hh => ?_)
    refine lv_if_eq (tgt := 38) hx hb dX6_load_21 (by decide) (fun c4 => ?_) (fun c4 => ?_)
    · have hw := hw.1 c4
      refine lv_bipush (v := (-2)) hx hb dX6_load_38 (by decide) ?_
      exact lf_reti F hh hw dX6_load_40
    · have hw := hw.2 c4
      refine lv_iload_n hx hb dX6_load_24 rfl (lv_at hl 3 rfl) ?_
      refine lv_i2l hx hb dX6_load_25 rfl ?_
      refine lv_ldc2 hx hb F.1.2.2.2.1 (F.1.2.2.2.2 _ (lr_9 _ (List.mem_of_getElem? (i := 16) rfl))) dX6_load_26 ?_
      refine lv_ldc2 hx hb F.1.2.2.2.1 (F.1.2.2.2.2 _ (lr_9 _ (List.mem_of_getElem? (i := 17) rfl))) dX6_load_29 ?_
      refine lf_callSi (rest := []) F hh (cw_X6_61 F.1.2.2.2.2 ⟨Nat.le_of_ble_eq_true rfl, Nat.le_of_ble_eq_true rfl⟩) (c_X6_in l D ha cy H.size σ3 (x3.toInt64) (-20) 20 _ hw) rfl hl.1 (Nat.le_of_ble_eq_true rfl) dX6_load_32 rfl (fun r5 σ5 H locs hw hh => ?_)
      refine lv_if_ne (tgt := 41) hx hb dX6_load_35 (by decide) (fun c6 => ?_) (fun c6 => ?_)
      · have hw := hw.1 c6
        refine lv_aload_n hx hb dX6_load_41 rfl (lv_at hl 0 rfl) ?_
        refine fg_X6_16 F hh dX6_load_42 ?_
        refine lv_iload_n hx hb dX6_load_45 rfl (lv_at hl 1 rfl) ?_
        obtain ⟨q7, hw⟩ := hw
        refine ra_M_3 F hh q7 dX6_load_46 ?_
        refine lv_if_eq (tgt := 53) hx hb dX6_load_47 (by decide) (fun c8 => ?_) (fun c8 => ?_)
        · have hw := hw.1 c8
          refine lv_aload_n hx hb dX6_load_53 rfl (lv_at hl 0 rfl) ?_
          refine fg_X6_20 F hh dX6_load_54 ?_
          refine lv_iload_n hx hb dX6_load_57 rfl (lv_at hl 1 rfl) ?_
          refine lv_iload_n hx hb dX6_load_58 rfl (lv_at hl 2 rfl) ?_
          obtain ⟨q9, hw⟩ := hw
          refine wa_M_4 F hh q9 dX6_load_59 (fun H locs hh => ?_)
          refine lv_aload_n hx hb dX6_load_60 rfl (lv_at hl 0 rfl) ?_
          refine fg_X6_23 F hh dX6_load_61 ?_
          refine lv_iload_n hx hb dX6_load_64 rfl (lv_at hl 1 rfl) ?_
          refine lv_iload_n hx hb dX6_load_65 rfl (lv_at hl 3 rfl) ?_
          obtain ⟨q10, hw⟩ := hw
          refine wa_M_5 F hh q10 dX6_load_66 (fun H locs hh => ?_)
          refine lv_aload_n hx hb dX6_load_67 rfl (lv_at hl 0 rfl) ?_
          refine lv_iconst (v := 0) hx hb dX6_load_68 (by decide) ?_
          refine fp_X6_78 F hh rfl dX6_load_69 (fun H locs hh => ?_)
          refine lv_iconst (v := 1) hx hb dX6_load_72 (by decide) ?_
          exact lf_reti F hh hw dX6_load_73
        · have hw := hw.2 c8
          refine lv_bipush (v := (-5)) hx hb dX6_load_50 (by decide) ?_
          exact lf_reti F hh hw dX6_load_52
      · have hw := hw.2 c6
        refine lv_bipush (v := (-2)) hx hb dX6_load_38 (by decide) ?_
        exact lf_reti F hh hw dX6_load_40
  · have hw := hw.2 c2
    refine lv_iconst (v := (-1)) hx hb dX6_load_8 (by decide) ?_
    exact lf_reti F hh hw dX6_load_9
def wp_X6_about (x1 : Int32) (x2 : Int32) (σ : lf_St) (Post : Int32 → lf_St → Prop) : Prop := wp_X6_isJoint x1 σ (fun r1 σ1 => ((¬ r1 = 0) → (((x2 = 0) → (vp_in x1 6 ∧ (Post (lf_ai σ1 1 x1.toNatClampNeg) σ1))) ∧ (¬ (x2 = 0) → (((x2 = 1) → (vp_in x1 6 ∧ (Post (lf_ai σ1 2 x1.toNatClampNeg) σ1))) ∧ (¬ (x2 = 1) → (((x2 = 2) → (vp_in x1 6 ∧ ((((lf_ai σ1 3 x1.toNatClampNeg) = 0) → (Post 0 σ1)) ∧ ((¬ ((lf_ai σ1 3 x1.toNatClampNeg) = 0)) → (Post 1 σ1))))) ∧ (¬ (x2 = 2) → (((x2 = 3) → (vp_in x1 6 ∧ (Post (lf_ai σ1 4 x1.toNatClampNeg) σ1))) ∧ (¬ (x2 = 3) → (((x2 = 4) → (vp_in x1 6 ∧ (Post (lf_ai σ1 5 x1.toNatClampNeg) σ1))) ∧ (¬ (x2 = 4) → (Post (-102) σ1)))))))))))) ∧ ((r1 = 0) → (Post (-101) σ1)))
def rm_X6_about : Room := ({ frames := 2, cells := 0, slots := 0, locals := 46 } : Room)
set_option maxHeartbeats 4000000 in
set_option maxRecDepth 100000 in
theorem c_X6_about (l : Launch) (D : va_G) (ha : Nat → Nat) (cy : Nat → ClassId) (sz : Nat) (σ : lf_St) (x1 : Int32) (x2 : Int32) (Post : Int32 → lf_St → Prop) (hw : wp_X6_about x1 x2 σ Post) : lf_Mi l yX6_about (lf_ws yX6_about cX6_about 3 (some .int)) rm_X6_about D (tyM_ cy) (wM_ ha cy) sz σ [.ref (ha 0), .int x1, .int x2] Post := by
  refine lf_ofi (by decide +kernel) (Nat.le_of_ble_eq_true rfl) ?_
  intro p e s m args below meth c A ls F hh hl
  have hx := F.1.1
  have hb := F.1.2.1
  have hl : lv_has ls 3 [(0, .ref (ha 0)), (1, .int x1), (2, .int x2)] := hl
  obtain ⟨H, hHe⟩ : ∃ H, H = s.heap := ⟨_, rfl⟩
  rw [← hHe] at hh ⊢
  unfold wp_X6_about at hw
  refine lv_aload_n hx hb dX6_about_0 rfl (lv_at hl 0 rfl) ?_
  refine lv_iload_n hx hb dX6_about_1 rfl (lv_at hl 1 rfl) ?_
  refine lf_callVi (rest := []) F hh (cw_X6_82 F.1.2.2.2.2 ⟨Nat.le_of_ble_eq_true rfl, Nat.le_of_ble_eq_true rfl⟩) (c_X6_isJoint l D ha cy H.size σ x1 _ hw) 0 6 rfl rfl rfl rfl hl.1 (Nat.le_of_ble_eq_true rfl) dX6_about_2 rfl (fun r1 σ1 H locs hw hh => ?_)
  refine lv_if_ne (tgt := 11) hx hb dX6_about_5 (by decide) (fun c2 => ?_) (fun c2 => ?_)
  · have hw := hw.1 c2
    refine lv_iload_n hx hb dX6_about_11 rfl (lv_at hl 2 rfl) ?_
    by_cases c3 : x2 = 0
    · have hw := hw.1 c3
      refine lv_tableIn (tgt := 48) hx hb dX6_about_12 (by rw [c3]; decide) (by rw [c3]; decide) (by rw [c3]; rfl) (by decide) ?_
      refine lv_aload_n hx hb dX6_about_48 rfl (lv_at hl 0 rfl) ?_
      refine fg_X6_7 F hh dX6_about_49 ?_
      refine lv_iload_n hx hb dX6_about_52 rfl (lv_at hl 1 rfl) ?_
      obtain ⟨q4, hw⟩ := hw
      refine ra_M_1 F hh q4 dX6_about_53 ?_
      exact lf_reti F hh hw dX6_about_54
    · have hw := hw.2 c3
      by_cases c5 : x2 = 1
      · have hw := hw.1 c5
        refine lv_tableIn (tgt := 55) hx hb dX6_about_12 (by rw [c5]; decide) (by rw [c5]; decide) (by rw [c5]; rfl) (by decide) ?_
        refine lv_aload_n hx hb dX6_about_55 rfl (lv_at hl 0 rfl) ?_
        refine fg_X6_13 F hh dX6_about_56 ?_
        refine lv_iload_n hx hb dX6_about_59 rfl (lv_at hl 1 rfl) ?_
        obtain ⟨q6, hw⟩ := hw
        refine ra_M_2 F hh q6 dX6_about_60 ?_
        exact lf_reti F hh hw dX6_about_61
      · have hw := hw.2 c5
        by_cases c7 : x2 = 2
        · have hw := hw.1 c7
          refine lv_tableIn (tgt := 62) hx hb dX6_about_12 (by rw [c7]; decide) (by rw [c7]; decide) (by rw [c7]; rfl) (by decide) ?_
          refine lv_aload_n hx hb dX6_about_62 rfl (lv_at hl 0 rfl) ?_
          refine fg_X6_16 F hh dX6_about_63 ?_
          refine lv_iload_n hx hb dX6_about_66 rfl (lv_at hl 1 rfl) ?_
          obtain ⟨q8, hw⟩ := hw
          refine ra_M_3 F hh q8 dX6_about_67 ?_
          refine lv_if_eq (tgt := 75) hx hb dX6_about_68 (by decide) (fun c9 => ?_) (fun c9 => ?_)
          · have hw := hw.1 c9
            refine lv_iconst (v := 0) hx hb dX6_about_75 (by decide) ?_
            exact lf_reti F hh hw dX6_about_76
          · have hw := hw.2 c9
            refine lv_iconst (v := 1) hx hb dX6_about_71 (by decide) ?_
            refine lv_goto (tgt := 76) hx hb dX6_about_72 (by decide) ?_
            exact lf_reti F hh hw dX6_about_76
        · have hw := hw.2 c7
          by_cases c10 : x2 = 3
          · have hw := hw.1 c10
            refine lv_tableIn (tgt := 77) hx hb dX6_about_12 (by rw [c10]; decide) (by rw [c10]; decide) (by rw [c10]; rfl) (by decide) ?_
            refine lv_aload_n hx hb dX6_about_77 rfl (lv_at hl 0 rfl) ?_
            refine fg_X6_20 F hh dX6_about_78 ?_
            refine lv_iload_n hx hb dX6_about_81 rfl (lv_at hl 1 rfl) ?_
            obtain ⟨q11, hw⟩ := hw
            refine ra_M_4 F hh q11 dX6_about_82 ?_
            exact lf_reti F hh hw dX6_about_83
          · have hw := hw.2 c10
            by_cases c12 : x2 = 4
            · have hw := hw.1 c12
              refine lv_tableIn (tgt := 84) hx hb dX6_about_12 (by rw [c12]; decide) (by rw [c12]; decide) (by rw [c12]; rfl) (by decide) ?_
              refine lv_aload_n hx hb dX6_about_84 rfl (lv_at hl 0 rfl) ?_
              refine fg_X6_23 F hh dX6_about_85 ?_
              refine lv_iload_n hx hb dX6_about_88 rfl (lv_at hl 1 rfl) ?_
              obtain ⟨q13, hw⟩ := hw
              refine ra_M_5 F hh q13 dX6_about_89 ?_
              exact lf_reti F hh hw dX6_about_90
            · have hw := hw.2 c12
              refine lv_tableOut (tgt := 91) hx hb dX6_about_12 (lf_sw_0_4 c3 c5 c7 c10 c12) (by decide) ?_
              refine lv_bipush (v := (-102)) hx hb dX6_about_91 (by decide) ?_
              exact lf_reti F hh hw dX6_about_93
  · have hw := hw.2 c2
    refine lv_bipush (v := (-101)) hx hb dX6_about_8 (by decide) ?_
    exact lf_reti F hh hw dX6_about_10
def wp_X6_stuff (x1 : Int32) (σ : lf_St) (Post : Int32 → lf_St → Prop) : Prop := vp_in x1 10 ∧ (vp_in (lf_ai σ 8 x1.toNatClampNeg) 6 ∧ (vp_in x1 10 ∧ (vp_in (lf_ai σ 7 x1.toNatClampNeg) 6 ∧ (∀ v5 : Int32, v5 = ((lf_ai σ 1 ((lf_ai σ 8 x1.toNatClampNeg) : Int32).toNatClampNeg) - (lf_ai σ 1 ((lf_ai σ 7 x1.toNatClampNeg) : Int32).toNatClampNeg)) → (vp_in x1 10 ∧ (vp_in (lf_ai σ 8 x1.toNatClampNeg) 6 ∧ (vp_in x1 10 ∧ (vp_in (lf_ai σ 7 x1.toNatClampNeg) 6 ∧ (∀ v10 : Int32, v10 = ((lf_ai σ 2 ((lf_ai σ 8 x1.toNatClampNeg) : Int32).toNatClampNeg) - (lf_ai σ 2 ((lf_ai σ 7 x1.toNatClampNeg) : Int32).toNatClampNeg)) → (Post ((v5 * v5) + (v10 * v10)) σ))))))))))
def rm_X6_stuff : Room := ({ frames := 0, cells := 0, slots := 0, locals := 0 } : Room)
set_option maxHeartbeats 4000000 in
set_option maxRecDepth 100000 in
theorem c_X6_stuff (l : Launch) (D : va_G) (ha : Nat → Nat) (cy : Nat → ClassId) (sz : Nat) (σ : lf_St) (x1 : Int32) (Post : Int32 → lf_St → Prop) (hw : wp_X6_stuff x1 σ Post) : lf_Mi l yX6_stuff (lf_ws yX6_stuff cX6_stuff 4 (some .int)) rm_X6_stuff D (tyM_ cy) (wM_ ha cy) sz σ [.ref (ha 0), .int x1] Post := by
  refine lf_ofi (by decide +kernel) (Nat.le_of_ble_eq_true rfl) ?_
  intro p e s m args below meth c A ls F hh hl
  have hx := F.1.1
  have hb := F.1.2.1
  have hl : lv_has ls 4 [(0, .ref (ha 0)), (1, .int x1)] := hl
  obtain ⟨H, hHe⟩ : ∃ H, H = s.heap := ⟨_, rfl⟩
  rw [← hHe] at hh ⊢
  unfold wp_X6_stuff at hw
  refine lv_aload_n hx hb dX6_stuff_0 rfl (lv_at hl 0 rfl) ?_
  refine fg_X6_7 F hh dX6_stuff_1 ?_
  refine lv_aload_n hx hb dX6_stuff_4 rfl (lv_at hl 0 rfl) ?_
  refine fg_X6_29 F hh dX6_stuff_5 ?_
  refine lv_iload_n hx hb dX6_stuff_8 rfl (lv_at hl 1 rfl) ?_
  obtain ⟨q1, hw⟩ := hw
  refine ra_M_8 F hh q1 dX6_stuff_9 ?_
  obtain ⟨q2, hw⟩ := hw
  refine ra_M_1 F hh q2 dX6_stuff_10 ?_
  refine lv_aload_n hx hb dX6_stuff_11 rfl (lv_at hl 0 rfl) ?_
  refine fg_X6_7 F hh dX6_stuff_12 ?_
  refine lv_aload_n hx hb dX6_stuff_15 rfl (lv_at hl 0 rfl) ?_
  refine fg_X6_26 F hh dX6_stuff_16 ?_
  refine lv_iload_n hx hb dX6_stuff_19 rfl (lv_at hl 1 rfl) ?_
  obtain ⟨q3, hw⟩ := hw
  refine ra_M_7 F hh q3 dX6_stuff_20 ?_
  obtain ⟨q4, hw⟩ := hw
  refine ra_M_1 F hh q4 dX6_stuff_21 ?_
  refine lv_isub hx hb dX6_stuff_22 ?_
  refine lv_topi (fun v5 ev5 => ?_)
  have hw := hw v5 ev5
  refine lv_istore_n (lv' := [(2, .int v5), (0, .ref (ha 0)), (1, .int x1)]) hx hb dX6_stuff_23 rfl hl (by decide) rfl (fun ls hl => ?_)
  refine lv_aload_n hx hb dX6_stuff_24 rfl (lv_at hl 1 rfl) ?_
  refine fg_X6_13 F hh dX6_stuff_25 ?_
  refine lv_aload_n hx hb dX6_stuff_28 rfl (lv_at hl 1 rfl) ?_
  refine fg_X6_29 F hh dX6_stuff_29 ?_
  refine lv_iload_n hx hb dX6_stuff_32 rfl (lv_at hl 2 rfl) ?_
  obtain ⟨q6, hw⟩ := hw
  refine ra_M_8 F hh q6 dX6_stuff_33 ?_
  obtain ⟨q7, hw⟩ := hw
  refine ra_M_2 F hh q7 dX6_stuff_34 ?_
  refine lv_aload_n hx hb dX6_stuff_35 rfl (lv_at hl 1 rfl) ?_
  refine fg_X6_13 F hh dX6_stuff_36 ?_
  refine lv_aload_n hx hb dX6_stuff_39 rfl (lv_at hl 1 rfl) ?_
  refine fg_X6_26 F hh dX6_stuff_40 ?_
  refine lv_iload_n hx hb dX6_stuff_43 rfl (lv_at hl 2 rfl) ?_
  obtain ⟨q8, hw⟩ := hw
  refine ra_M_7 F hh q8 dX6_stuff_44 ?_
  obtain ⟨q9, hw⟩ := hw
  refine ra_M_2 F hh q9 dX6_stuff_45 ?_
  refine lv_isub hx hb dX6_stuff_46 ?_
  refine lv_topi (fun v10 ev10 => ?_)
  have hw := hw v10 ev10
  refine lv_istore_n (lv' := [(3, .int v10), (2, .int v5), (0, .ref (ha 0)), (1, .int x1)]) hx hb dX6_stuff_47 rfl hl (by decide) rfl (fun ls hl => ?_)
  refine lv_iload_n hx hb dX6_stuff_48 rfl (lv_at hl 1 rfl) ?_
  refine lv_iload_n hx hb dX6_stuff_49 rfl (lv_at hl 1 rfl) ?_
  refine lv_imul hx hb dX6_stuff_50 ?_
  refine lv_iload_n hx hb dX6_stuff_51 rfl (lv_at hl 0 rfl) ?_
  refine lv_iload_n hx hb dX6_stuff_52 rfl (lv_at hl 0 rfl) ?_
  refine lv_imul hx hb dX6_stuff_53 ?_
  refine lv_iadd hx hb dX6_stuff_54 ?_
  exact lf_reti F hh hw dX6_stuff_55
theorem cw_X6_90 {R : Room} {s : State} {args : Array Value} (ht : ∀ w ∈ wsL_law, w.before args s = true) (hR : rm_X6_isBar.frames + 1 ≤ R.frames ∧ 8 + (2 + 11) + rm_X6_isBar.locals ≤ R.locals) : lf_cV R s args RX6 RX6 90 yX6_isBar cX6_isBar 2 (some .boolean) rm_X6_isBar 1 :=
  lf_cV_of 1 ht (lr_10 _ (List.mem_of_getElem? (i := 22) rfl)) (lr_10 _ (List.mem_of_getElem? (i := 19) rfl)) (lr_10 _ (List.mem_of_getElem? (i := 20) rfl)) (lr_10 _ (List.mem_of_getElem? (i := 21) rfl)) (lr_1 _ (List.mem_of_getElem? (i := 5) rfl)) rfl rfl (by decide +kernel) hR
theorem cw_X6_93 {R : Room} {s : State} {args : Array Value} (ht : ∀ w ∈ wsL_law, w.before args s = true) (hR : rm_X6_stuff.frames + 1 ≤ R.frames ∧ 8 + (4 + 11) + rm_X6_stuff.locals ≤ R.locals) : lf_cV R s args RX6 RX6 93 yX6_stuff cX6_stuff 4 (some .int) rm_X6_stuff 1 :=
  lf_cV_of 1 ht (lr_11 _ (List.mem_of_getElem? (i := 2) rfl)) (lr_10 _ (List.mem_of_getElem? (i := 23) rfl)) (lr_11 _ (List.mem_of_getElem? (i := 0) rfl)) (lr_11 _ (List.mem_of_getElem? (i := 1) rfl)) (lr_1 _ (List.mem_of_getElem? (i := 5) rfl)) rfl rfl (by decide +kernel) hR
def wp_X6_ofBar (x1 : Int32) (x2 : Int32) (σ : lf_St) (Post : Int32 → lf_St → Prop) : Prop := wp_X6_isBar x1 σ (fun r1 σ1 => ((¬ r1 = 0) → (((¬ x2 = 0) → (((¬ x2 = 1) → (((¬ x2 = 2) → (Post (-2) σ1)) ∧ ((x2 = 2) → (wp_X6_stuff x1 σ1 (fun r6 σ6 => Post r6 σ6))))) ∧ ((x2 = 1) → (vp_in x1 10 ∧ (Post (lf_ai σ1 8 x1.toNatClampNeg) σ1))))) ∧ ((x2 = 0) → (vp_in x1 10 ∧ (Post (lf_ai σ1 7 x1.toNatClampNeg) σ1))))) ∧ ((r1 = 0) → (Post (-1) σ1)))
def rm_X6_ofBar : Room := ({ frames := 2, cells := 0, slots := 0, locals := 46 } : Room)
set_option maxHeartbeats 4000000 in
set_option maxRecDepth 100000 in
theorem c_X6_ofBar (l : Launch) (D : va_G) (ha : Nat → Nat) (cy : Nat → ClassId) (sz : Nat) (σ : lf_St) (x1 : Int32) (x2 : Int32) (Post : Int32 → lf_St → Prop) (hw : wp_X6_ofBar x1 x2 σ Post) : lf_Mi l yX6_ofBar (lf_ws yX6_ofBar cX6_ofBar 3 (some .int)) rm_X6_ofBar D (tyM_ cy) (wM_ ha cy) sz σ [.ref (ha 0), .int x1, .int x2] Post := by
  refine lf_ofi (by decide +kernel) (Nat.le_of_ble_eq_true rfl) ?_
  intro p e s m args below meth c A ls F hh hl
  have hx := F.1.1
  have hb := F.1.2.1
  have hl : lv_has ls 3 [(0, .ref (ha 0)), (1, .int x1), (2, .int x2)] := hl
  obtain ⟨H, hHe⟩ : ∃ H, H = s.heap := ⟨_, rfl⟩
  rw [← hHe] at hh ⊢
  unfold wp_X6_ofBar at hw
  refine lv_aload_n hx hb dX6_ofBar_0 rfl (lv_at hl 0 rfl) ?_
  refine lv_iload_n hx hb dX6_ofBar_1 rfl (lv_at hl 1 rfl) ?_
  refine lf_callVi (rest := []) F hh (cw_X6_90 F.1.2.2.2.2 ⟨Nat.le_of_ble_eq_true rfl, Nat.le_of_ble_eq_true rfl⟩) (c_X6_isBar l D ha cy H.size σ x1 _ hw) 0 6 rfl rfl rfl rfl hl.1 (Nat.le_of_ble_eq_true rfl) dX6_ofBar_2 rfl (fun r1 σ1 H locs hw hh => ?_)
  refine lv_if_ne (tgt := 10) hx hb dX6_ofBar_5 (by decide) (fun c2 => ?_) (fun c2 => ?_)
  · have hw := hw.1 c2
    refine lv_iload_n hx hb dX6_ofBar_10 rfl (lv_at hl 2 rfl) ?_
    refine lv_if_ne (tgt := 23) hx hb dX6_ofBar_11 (by decide) (fun c3 => ?_) (fun c3 => ?_)
    · have hw := hw.1 c3
      refine lv_iload_n hx hb dX6_ofBar_23 rfl (lv_at hl 2 rfl) ?_
      refine lv_iconst (v := 1) hx hb dX6_ofBar_24 (by decide) ?_
      refine lv_icmp_ne (tgt := 37) hx hb dX6_ofBar_25 (by decide) (fun c4 => ?_) (fun c4 => ?_)
      · have hw := hw.1 c4
        refine lv_iload_n hx hb dX6_ofBar_37 rfl (lv_at hl 2 rfl) ?_
        refine lv_iconst (v := 2) hx hb dX6_ofBar_38 (by decide) ?_
        refine lv_icmp_ne (tgt := 50) hx hb dX6_ofBar_39 (by decide) (fun c5 => ?_) (fun c5 => ?_)
        · have hw := hw.1 c5
          refine lv_bipush (v := (-2)) hx hb dX6_ofBar_50 (by decide) ?_
          exact lf_reti F hh hw dX6_ofBar_52
        · have hw := hw.2 c5
          refine lv_aload_n hx hb dX6_ofBar_42 rfl (lv_at hl 0 rfl) ?_
          refine lv_iload_n hx hb dX6_ofBar_43 rfl (lv_at hl 1 rfl) ?_
          refine lf_callVi (rest := []) F hh (cw_X6_93 F.1.2.2.2.2 ⟨Nat.le_of_ble_eq_true rfl, Nat.le_of_ble_eq_true rfl⟩) (c_X6_stuff l D ha cy H.size σ1 x1 _ hw) 0 6 rfl rfl rfl rfl hl.1 (Nat.le_of_ble_eq_true rfl) dX6_ofBar_44 rfl (fun r6 σ6 H locs hw hh => ?_)
          refine lv_goto (tgt := 52) hx hb dX6_ofBar_47 (by decide) ?_
          exact lf_reti F hh hw dX6_ofBar_52
      · have hw := hw.2 c4
        refine lv_aload_n hx hb dX6_ofBar_28 rfl (lv_at hl 0 rfl) ?_
        refine fg_X6_29 F hh dX6_ofBar_29 ?_
        refine lv_iload_n hx hb dX6_ofBar_32 rfl (lv_at hl 1 rfl) ?_
        obtain ⟨q7, hw⟩ := hw
        refine ra_M_8 F hh q7 dX6_ofBar_33 ?_
        refine lv_goto (tgt := 52) hx hb dX6_ofBar_34 (by decide) ?_
        exact lf_reti F hh hw dX6_ofBar_52
    · have hw := hw.2 c3
      refine lv_aload_n hx hb dX6_ofBar_14 rfl (lv_at hl 0 rfl) ?_
      refine fg_X6_26 F hh dX6_ofBar_15 ?_
      refine lv_iload_n hx hb dX6_ofBar_18 rfl (lv_at hl 1 rfl) ?_
      obtain ⟨q8, hw⟩ := hw
      refine ra_M_7 F hh q8 dX6_ofBar_19 ?_
      refine lv_goto (tgt := 52) hx hb dX6_ofBar_20 (by decide) ?_
      exact lf_reti F hh hw dX6_ofBar_52
  · have hw := hw.2 c2
    refine lv_iconst (v := (-1)) hx hb dX6_ofBar_8 (by decide) ?_
    exact lf_reti F hh hw dX6_ofBar_9
end
section
def L_X6_size_28 (Post : Int32 → lf_St → Prop) : Nat → Int32 → Int32 → lf_St → Prop
  | 0, _, _, _ => False
  | n + 1, x1, x2, σ => (((lf_gi σ 9) ≤ x2) → (vp_in (lf_gi σ 9) 5 ∧ (∀ σ3 : lf_St, σ3 = (lf_sa σ 10 ((lf_gi σ 9) : Int32).toNatClampNeg x1) → (∀ σ4 : lf_St, σ4 = (lf_si (lf_si σ3 9 ((lf_gi σ3 9) + 1)) 12 0) → (Post (lf_gi σ4 9) σ4))))) ∧ ((¬ ((lf_gi σ 9) ≤ x2)) → (vp_in x2 5 ∧ (((¬ (lf_ai σ 10 x2.toNatClampNeg) = x1) → (∀ v7 : Int32, v7 = x2 + 1 → (L_X6_size_28 Post n x1 v7 σ))) ∧ (((lf_ai σ 10 x2.toNatClampNeg) = x1) → (Post (-5) σ)))))
def wp_X6_size (x1 : Int32) (σ : lf_St) (Post : Int32 → lf_St → Prop) : Prop := wp_X6_in (x1.toInt64) 1 200 σ (fun r1 σ1 => ((¬ r1 = 0) → (((¬ (lf_gi σ1 9) = 5) → (∃ fu : Nat, L_X6_size_28 Post fu x1 0 σ1)) ∧ (((lf_gi σ1 9) = 5) → (Post (-4) σ1)))) ∧ ((r1 = 0) → (Post (-2) σ1)))
def rm_X6_size : Room := ({ frames := 1, cells := 0, slots := 0, locals := 25 } : Room)
set_option maxHeartbeats 4000000 in
set_option maxRecDepth 100000 in
theorem w_X6_size_28 {p : Program} {l : Launch} {e : Env} {s : State} {m : MethodId} {args : Array Value} {below : List Frame} {meth : Method} {c : Code} {D : va_G} {A : Nat → Prop} {ha : Nat → Nat} {cy : Nat → ClassId} (Post : Int32 → lf_St → Prop) (F : lf_C p s m args meth c RX6 cX6_size 3 (some .int) D (tyM_ cy) A) : ∀ (n : Nat) (x1 : Int32) (x2 : Int32) (σ : lf_St) (H : Heap) (locs : List Loc) (ls : Array Slot), lf_H D (wM_ ha cy) A s σ H locs → lv_has ls 3 [(0, .ref (ha 0)), (1, .int x1), (2, .int x2)] → L_X6_size_28 Post n x1 x2 σ → W p l e rm_X6_size s m args below meth c H locs 0 0 (lf_Qi below args s D (tyM_ cy) A (wM_ ha cy) Post) (F0 m 28 ls []) := by
  have hx := F.1.1
  have hb := F.1.2.1
  intro n
  induction n with
  | zero =>
    intro x1 x2 σ H locs ls hh hl hw
    exact False.elim hw
  | succ n ih =>
    intro x1 x2 σ H locs ls hh hl hw
    unfold L_X6_size_28 at hw
    refine lv_iload_n hx hb dX6_size_28 rfl (lv_at hl 2 rfl) ?_
    refine lv_aload_n hx hb dX6_size_29 rfl (lv_at hl 0 rfl) ?_
    refine fg_X6_99 F hh dX6_size_30 ?_
    refine lv_icmp_ge (tgt := 55) hx hb dX6_size_33 (by decide) (fun c1 => ?_) (fun c1 => ?_)
    · have hw := hw.1 c1
      refine lv_aload_n hx hb dX6_size_55 rfl (lv_at hl 0 rfl) ?_
      refine fg_X6_32 F hh dX6_size_56 ?_
      refine lv_aload_n hx hb dX6_size_59 rfl (lv_at hl 0 rfl) ?_
      refine fg_X6_99 F hh dX6_size_60 ?_
      refine lv_iload_n hx hb dX6_size_63 rfl (lv_at hl 1 rfl) ?_
      obtain ⟨q2, hw⟩ := hw
      refine wa_M_10 F hh q2 dX6_size_64 (fun H locs hh => ?_)
      refine lv_aload_n hx hb dX6_size_65 rfl (lv_at hl 0 rfl) ?_
      refine lv_dup hx hb dX6_size_66 rfl ?_
      obtain ⟨σ3, eσ3⟩ : ∃ z : lf_St, z = (lf_sa σ 10 ((lf_gi σ 9) : Int32).toNatClampNeg x1) := ⟨_, rfl⟩
      rw [← eσ3] at hh
      have hw := hw σ3 eσ3
      refine fg_X6_99 F hh dX6_size_67 ?_
      refine lv_iconst (v := 1) hx hb dX6_size_70 (by decide) ?_
      refine lv_iadd hx hb dX6_size_71 ?_
      refine fp_X6_99 F hh dX6_size_72 (fun H locs hh => ?_)
      refine lv_aload_n hx hb dX6_size_75 rfl (lv_at hl 0 rfl) ?_
      refine lv_iconst (v := 0) hx hb dX6_size_76 (by decide) ?_
      refine fp_X6_78 F hh rfl dX6_size_77 (fun H locs hh => ?_)
      refine lv_aload_n hx hb dX6_size_80 rfl (lv_at hl 0 rfl) ?_
      obtain ⟨σ4, eσ4⟩ : ∃ z : lf_St, z = (lf_si (lf_si σ3 9 ((lf_gi σ3 9) + 1)) 12 0) := ⟨_, rfl⟩
      rw [← eσ4] at hh
      have hw := hw σ4 eσ4
      refine fg_X6_99 F hh dX6_size_81 ?_
      exact lf_reti F hh hw dX6_size_84
    · have hw := hw.2 c1
      refine lv_aload_n hx hb dX6_size_36 rfl (lv_at hl 0 rfl) ?_
      refine fg_X6_32 F hh dX6_size_37 ?_
      refine lv_iload_n hx hb dX6_size_40 rfl (lv_at hl 2 rfl) ?_
      obtain ⟨q5, hw⟩ := hw
      refine ra_M_10 F hh q5 dX6_size_41 ?_
      refine lv_iload_n hx hb dX6_size_42 rfl (lv_at hl 1 rfl) ?_
      refine lv_icmp_ne (tgt := 49) hx hb dX6_size_43 (by decide) (fun c6 => ?_) (fun c6 => ?_)
      · have hw := hw.1 c6
        obtain ⟨v7, ev7⟩ : ∃ y : Int32, y = x2 + 1 := ⟨_, rfl⟩
        have hw := hw v7 ev7
        refine lv_iinc (v := v7) (lv' := [(2, .int v7), (0, .ref (ha 0)), (1, .int x1)]) hx hb dX6_size_49 hl (k := 2) rfl (by rw [ev7]; rfl) (by decide) rfl (fun ls hl => ?_)
        refine lv_goto (tgt := 28) hx hb dX6_size_52 (by decide) ?_
        exact ih x1 v7 σ _ _ _ hh (lv_sub hl [1, 2, 0] rfl) hw
      · have hw := hw.2 c6
        refine lv_bipush (v := (-5)) hx hb dX6_size_46 (by decide) ?_
        exact lf_reti F hh hw dX6_size_48
set_option maxHeartbeats 4000000 in
set_option maxRecDepth 100000 in
theorem c_X6_size (l : Launch) (D : va_G) (ha : Nat → Nat) (cy : Nat → ClassId) (sz : Nat) (σ : lf_St) (x1 : Int32) (Post : Int32 → lf_St → Prop) (hw : wp_X6_size x1 σ Post) : lf_Mi l yX6_size (lf_ws yX6_size cX6_size 3 (some .int)) rm_X6_size D (tyM_ cy) (wM_ ha cy) sz σ [.ref (ha 0), .int x1] Post := by
  refine lf_ofi (by decide +kernel) (Nat.le_of_ble_eq_true rfl) ?_
  intro p e s m args below meth c A ls F hh hl
  have hx := F.1.1
  have hb := F.1.2.1
  have hl : lv_has ls 3 [(0, .ref (ha 0)), (1, .int x1)] := hl
  obtain ⟨H, hHe⟩ : ∃ H, H = s.heap := ⟨_, rfl⟩
  rw [← hHe] at hh ⊢
  unfold wp_X6_size at hw
  refine lv_iload_n hx hb dX6_size_0 rfl (lv_at hl 1 rfl) ?_
  refine lv_i2l hx hb dX6_size_1 rfl ?_
  refine lv_lconst (v := 1) hx hb dX6_size_2 (by decide) ?_
  refine lv_ldc2 hx hb F.1.2.2.2.1 (F.1.2.2.2.2 _ (lr_11 _ (List.mem_of_getElem? (i := 21) rfl))) dX6_size_3 ?_
  refine lf_callSi (rest := []) F hh (cw_X6_61 F.1.2.2.2.2 ⟨Nat.le_of_ble_eq_true rfl, Nat.le_of_ble_eq_true rfl⟩) (c_X6_in l D ha cy H.size σ (x1.toInt64) 1 200 _ hw) rfl hl.1 (Nat.le_of_ble_eq_true rfl) dX6_size_6 rfl (fun r1 σ1 H locs hw hh => ?_)
  refine lv_if_ne (tgt := 15) hx hb dX6_size_9 (by decide) (fun c2 => ?_) (fun c2 => ?_)
  · have hw := hw.1 c2
    refine lv_aload_n hx hb dX6_size_15 rfl (lv_at hl 0 rfl) ?_
    refine fg_X6_99 F hh dX6_size_16 ?_
    refine lv_iconst (v := 5) hx hb dX6_size_19 (by decide) ?_
    refine lv_icmp_ne (tgt := 26) hx hb dX6_size_20 (by decide) (fun c3 => ?_) (fun c3 => ?_)
    · have hw := hw.1 c3
      refine lv_iconst (v := 0) hx hb dX6_size_26 (by decide) ?_
      refine lv_istore_n (lv' := [(2, .int 0), (0, .ref (ha 0)), (1, .int x1)]) hx hb dX6_size_27 rfl hl (by decide) rfl (fun ls hl => ?_)
      obtain ⟨n28, hw⟩ := hw
      exact w_X6_size_28 Post F  n28 x1 0 σ1 _ _ _ hh (lv_sub hl [1, 2, 0] rfl) hw
    · have hw := hw.2 c3
      refine lv_bipush (v := (-4)) hx hb dX6_size_23 (by decide) ?_
      exact lf_reti F hh hw dX6_size_25
  · have hw := hw.2 c2
    refine lv_bipush (v := (-2)) hx hb dX6_size_12 (by decide) ?_
    exact lf_reti F hh hw dX6_size_14
def wp_X6_price (x1 : Int32) (σ : lf_St) (Post : Int32 → lf_St → Prop) : Prop := wp_X6_in (x1.toInt64) 0 1000 σ (fun r1 σ1 => ((¬ r1 = 0) → (∀ v3 : Int32, v3 = (lf_gi σ1 11) → (Post v3 (lf_si (lf_si σ1 11 x1) 12 0)))) ∧ ((r1 = 0) → (Post (-2) σ1)))
def rm_X6_price : Room := ({ frames := 1, cells := 0, slots := 0, locals := 25 } : Room)
set_option maxHeartbeats 4000000 in
set_option maxRecDepth 100000 in
theorem c_X6_price (l : Launch) (D : va_G) (ha : Nat → Nat) (cy : Nat → ClassId) (sz : Nat) (σ : lf_St) (x1 : Int32) (Post : Int32 → lf_St → Prop) (hw : wp_X6_price x1 σ Post) : lf_Mi l yX6_price (lf_ws yX6_price cX6_price 3 (some .int)) rm_X6_price D (tyM_ cy) (wM_ ha cy) sz σ [.ref (ha 0), .int x1] Post := by
  refine lf_ofi (by decide +kernel) (Nat.le_of_ble_eq_true rfl) ?_
  intro p e s m args below meth c A ls F hh hl
  have hx := F.1.1
  have hb := F.1.2.1
  have hl : lv_has ls 3 [(0, .ref (ha 0)), (1, .int x1)] := hl
  obtain ⟨H, hHe⟩ : ∃ H, H = s.heap := ⟨_, rfl⟩
  rw [← hHe] at hh ⊢
  unfold wp_X6_price at hw
  refine lv_iload_n hx hb dX6_price_0 rfl (lv_at hl 1 rfl) ?_
  refine lv_i2l hx hb dX6_price_1 rfl ?_
  refine lv_lconst (v := 0) hx hb dX6_price_2 (by decide) ?_
  refine lv_ldc2 hx hb F.1.2.2.2.1 (F.1.2.2.2.2 _ (lr_12 _ (List.mem_of_getElem? (i := 8) rfl))) dX6_price_3 ?_
  refine lf_callSi (rest := []) F hh (cw_X6_61 F.1.2.2.2.2 ⟨Nat.le_of_ble_eq_true rfl, Nat.le_of_ble_eq_true rfl⟩) (c_X6_in l D ha cy H.size σ (x1.toInt64) 0 1000 _ hw) rfl hl.1 (Nat.le_of_ble_eq_true rfl) dX6_price_6 rfl (fun r1 σ1 H locs hw hh => ?_)
  refine lv_if_ne (tgt := 15) hx hb dX6_price_9 (by decide) (fun c2 => ?_) (fun c2 => ?_)
  · have hw := hw.1 c2
    refine lv_aload_n hx hb dX6_price_15 rfl (lv_at hl 0 rfl) ?_
    refine fg_X6_104 F hh dX6_price_16 ?_
    refine lv_topi (fun v3 ev3 => ?_)
    have hw := hw v3 ev3
    refine lv_istore_n (lv' := [(2, .int v3), (0, .ref (ha 0)), (1, .int x1)]) hx hb dX6_price_19 rfl hl (by decide) rfl (fun ls hl => ?_)
    refine lv_aload_n hx hb dX6_price_20 rfl (lv_at hl 1 rfl) ?_
    refine lv_iload_n hx hb dX6_price_21 rfl (lv_at hl 2 rfl) ?_
    refine fp_X6_104 F hh dX6_price_22 (fun H locs hh => ?_)
    refine lv_aload_n hx hb dX6_price_25 rfl (lv_at hl 1 rfl) ?_
    refine lv_iconst (v := 0) hx hb dX6_price_26 (by decide) ?_
    refine fp_X6_78 F hh rfl dX6_price_27 (fun H locs hh => ?_)
    refine lv_iload_n hx hb dX6_price_30 rfl (lv_at hl 0 rfl) ?_
    exact lf_reti F hh hw dX6_price_31
  · have hw := hw.2 c2
    refine lv_bipush (v := (-2)) hx hb dX6_price_12 (by decide) ?_
    exact lf_reti F hh hw dX6_price_14
def wp_X6_drop (σ : lf_St) (Post : Int32 → lf_St → Prop) : Prop := ((¬ (lf_gi σ 6) = 0) → (∀ σ2 : lf_St, σ2 = (lf_si (lf_si σ 6 ((lf_gi σ 6) - 1)) 12 0) → (Post (lf_gi σ2 6) σ2))) ∧ (((lf_gi σ 6) = 0) → (Post (-1) σ))
def rm_X6_drop : Room := ({ frames := 0, cells := 0, slots := 0, locals := 0 } : Room)
set_option maxHeartbeats 4000000 in
set_option maxRecDepth 100000 in
theorem c_X6_drop (l : Launch) (D : va_G) (ha : Nat → Nat) (cy : Nat → ClassId) (sz : Nat) (σ : lf_St) (Post : Int32 → lf_St → Prop) (hw : wp_X6_drop σ Post) : lf_Mi l yX6_drop (lf_ws yX6_drop cX6_drop 1 (some .int)) rm_X6_drop D (tyM_ cy) (wM_ ha cy) sz σ [.ref (ha 0)] Post := by
  refine lf_ofi (by decide +kernel) (Nat.le_of_ble_eq_true rfl) ?_
  intro p e s m args below meth c A ls F hh hl
  have hx := F.1.1
  have hb := F.1.2.1
  have hl : lv_has ls 1 [(0, .ref (ha 0))] := hl
  obtain ⟨H, hHe⟩ : ∃ H, H = s.heap := ⟨_, rfl⟩
  rw [← hHe] at hh ⊢
  unfold wp_X6_drop at hw
  refine lv_aload_n hx hb dX6_drop_0 rfl (lv_at hl 0 rfl) ?_
  refine fg_X6_65 F hh dX6_drop_1 ?_
  refine lv_if_ne (tgt := 9) hx hb dX6_drop_4 (by decide) (fun c1 => ?_) (fun c1 => ?_)
  · have hw := hw.1 c1
    refine lv_aload_n hx hb dX6_drop_9 rfl (lv_at hl 0 rfl) ?_
    refine lv_dup hx hb dX6_drop_10 rfl ?_
    refine fg_X6_65 F hh dX6_drop_11 ?_
    refine lv_iconst (v := 1) hx hb dX6_drop_14 (by decide) ?_
    refine lv_isub hx hb dX6_drop_15 ?_
    refine fp_X6_65 F hh dX6_drop_16 (fun H locs hh => ?_)
    refine lv_aload_n hx hb dX6_drop_19 rfl (lv_at hl 0 rfl) ?_
    refine lv_iconst (v := 0) hx hb dX6_drop_20 (by decide) ?_
    refine fp_X6_78 F hh rfl dX6_drop_21 (fun H locs hh => ?_)
    refine lv_aload_n hx hb dX6_drop_24 rfl (lv_at hl 0 rfl) ?_
    obtain ⟨σ2, eσ2⟩ : ∃ z : lf_St, z = (lf_si (lf_si σ 6 ((lf_gi σ 6) - 1)) 12 0) := ⟨_, rfl⟩
    rw [← eσ2] at hh
    have hw := hw σ2 eσ2
    refine fg_X6_65 F hh dX6_drop_25 ?_
    exact lf_reti F hh hw dX6_drop_28
  · have hw := hw.2 c1
    refine lv_iconst (v := (-1)) hx hb dX6_drop_7 (by decide) ?_
    exact lf_reti F hh hw dX6_drop_8
def wp_X6_side (x1 : Int32) (x2 : Int32) (x3 : Int32) (σ : lf_St) (Post : Int32 → lf_St → Prop) : Prop := vp_in x2 6 ∧ (vp_in x1 6 ∧ (vp_in x3 6 ∧ (vp_in x1 6 ∧ (vp_in x2 6 ∧ (vp_in x1 6 ∧ (vp_in x3 6 ∧ (vp_in x1 6 ∧ (∀ v9 : Int32, v9 = ((((lf_ai σ 1 x2.toNatClampNeg) - (lf_ai σ 1 x1.toNatClampNeg)) * ((lf_ai σ 2 x3.toNatClampNeg) - (lf_ai σ 2 x1.toNatClampNeg))) - (((lf_ai σ 2 x2.toNatClampNeg) - (lf_ai σ 2 x1.toNatClampNeg)) * ((lf_ai σ 1 x3.toNatClampNeg) - (lf_ai σ 1 x1.toNatClampNeg)))) → (((0 ≤ v9) → (((v9 ≤ 0) → (Post 0 σ)) ∧ ((¬ (v9 ≤ 0)) → (Post 1 σ)))) ∧ ((¬ (0 ≤ v9)) → (Post (-1) σ)))))))))))
def rm_X6_side : Room := ({ frames := 0, cells := 0, slots := 0, locals := 0 } : Room)
set_option maxHeartbeats 4000000 in
set_option maxRecDepth 100000 in
theorem c_X6_side (l : Launch) (D : va_G) (ha : Nat → Nat) (cy : Nat → ClassId) (sz : Nat) (σ : lf_St) (x1 : Int32) (x2 : Int32) (x3 : Int32) (Post : Int32 → lf_St → Prop) (hw : wp_X6_side x1 x2 x3 σ Post) : lf_Mi l yX6_side (lf_ws yX6_side cX6_side 5 (some .int)) rm_X6_side D (tyM_ cy) (wM_ ha cy) sz σ [.ref (ha 0), .int x1, .int x2, .int x3] Post := by
  refine lf_ofi (by decide +kernel) (Nat.le_of_ble_eq_true rfl) ?_
  intro p e s m args below meth c A ls F hh hl
  have hx := F.1.1
  have hb := F.1.2.1
  have hl : lv_has ls 5 [(0, .ref (ha 0)), (1, .int x1), (2, .int x2), (3, .int x3)] := hl
  obtain ⟨H, hHe⟩ : ∃ H, H = s.heap := ⟨_, rfl⟩
  rw [← hHe] at hh ⊢
  unfold wp_X6_side at hw
  refine lv_aload_n hx hb dX6_side_0 rfl (lv_at hl 0 rfl) ?_
  refine fg_X6_7 F hh dX6_side_1 ?_
  refine lv_iload_n hx hb dX6_side_4 rfl (lv_at hl 2 rfl) ?_
  obtain ⟨q1, hw⟩ := hw
  refine ra_M_1 F hh q1 dX6_side_5 ?_
  refine lv_aload_n hx hb dX6_side_6 rfl (lv_at hl 0 rfl) ?_
  refine fg_X6_7 F hh dX6_side_7 ?_
  refine lv_iload_n hx hb dX6_side_10 rfl (lv_at hl 1 rfl) ?_
  obtain ⟨q2, hw⟩ := hw
  refine ra_M_1 F hh q2 dX6_side_11 ?_
  refine lv_isub hx hb dX6_side_12 ?_
  refine lv_aload_n hx hb dX6_side_13 rfl (lv_at hl 0 rfl) ?_
  refine fg_X6_13 F hh dX6_side_14 ?_
  refine lv_iload_n hx hb dX6_side_17 rfl (lv_at hl 3 rfl) ?_
  obtain ⟨q3, hw⟩ := hw
  refine ra_M_2 F hh q3 dX6_side_18 ?_
  refine lv_aload_n hx hb dX6_side_19 rfl (lv_at hl 0 rfl) ?_
  refine fg_X6_13 F hh dX6_side_20 ?_
  refine lv_iload_n hx hb dX6_side_23 rfl (lv_at hl 1 rfl) ?_
  obtain ⟨q4, hw⟩ := hw
  refine ra_M_2 F hh q4 dX6_side_24 ?_
  refine lv_isub hx hb dX6_side_25 ?_
  refine lv_imul hx hb dX6_side_26 ?_
  refine lv_aload_n hx hb dX6_side_27 rfl (lv_at hl 0 rfl) ?_
  refine fg_X6_13 F hh dX6_side_28 ?_
  refine lv_iload_n hx hb dX6_side_31 rfl (lv_at hl 2 rfl) ?_
  obtain ⟨q5, hw⟩ := hw
  refine ra_M_2 F hh q5 dX6_side_32 ?_
  refine lv_aload_n hx hb dX6_side_33 rfl (lv_at hl 0 rfl) ?_
  refine fg_X6_13 F hh dX6_side_34 ?_
  refine lv_iload_n hx hb dX6_side_37 rfl (lv_at hl 1 rfl) ?_
  obtain ⟨q6, hw⟩ := hw
  refine ra_M_2 F hh q6 dX6_side_38 ?_
  refine lv_isub hx hb dX6_side_39 ?_
  refine lv_aload_n hx hb dX6_side_40 rfl (lv_at hl 0 rfl) ?_
  refine fg_X6_7 F hh dX6_side_41 ?_
  refine lv_iload_n hx hb dX6_side_44 rfl (lv_at hl 3 rfl) ?_
  obtain ⟨q7, hw⟩ := hw
  refine ra_M_1 F hh q7 dX6_side_45 ?_
  refine lv_aload_n hx hb dX6_side_46 rfl (lv_at hl 0 rfl) ?_
  refine fg_X6_7 F hh dX6_side_47 ?_
  refine lv_iload_n hx hb dX6_side_50 rfl (lv_at hl 1 rfl) ?_
  obtain ⟨q8, hw⟩ := hw
  refine ra_M_1 F hh q8 dX6_side_51 ?_
  refine lv_isub hx hb dX6_side_52 ?_
  refine lv_imul hx hb dX6_side_53 ?_
  refine lv_isub hx hb dX6_side_54 ?_
  refine lv_topi (fun v9 ev9 => ?_)
  have hw := hw v9 ev9
  refine lv_istore (lv' := [(4, .int v9), (0, .ref (ha 0)), (1, .int x1), (2, .int x2), (3, .int x3)]) hx hb dX6_side_55 hl (by decide) rfl (fun ls hl => ?_)
  refine lv_iload hx hb dX6_side_57 (lv_at hl 0 rfl) ?_
  refine lv_if_ge (tgt := 66) hx hb dX6_side_59 (by decide) (fun c10 => ?_) (fun c10 => ?_)
  · have hw := hw.1 c10
    refine lv_iload hx hb dX6_side_66 (lv_at hl 0 rfl) ?_
    refine lv_if_le (tgt := 75) hx hb dX6_side_68 (by decide) (fun c11 => ?_) (fun c11 => ?_)
    · have hw := hw.1 c11
      refine lv_iconst (v := 0) hx hb dX6_side_75 (by decide) ?_
      exact lf_reti F hh hw dX6_side_76
    · have hw := hw.2 c11
      refine lv_iconst (v := 1) hx hb dX6_side_71 (by decide) ?_
      refine lv_goto (tgt := 76) hx hb dX6_side_72 (by decide) ?_
      exact lf_reti F hh hw dX6_side_76
  · have hw := hw.2 c10
    refine lv_iconst (v := (-1)) hx hb dX6_side_62 (by decide) ?_
    refine lv_goto (tgt := 76) hx hb dX6_side_63 (by decide) ?_
    exact lf_reti F hh hw dX6_side_76
theorem cw_X6_107 {R : Room} {s : State} {args : Array Value} (ht : ∀ w ∈ wsL_law, w.before args s = true) (hR : rm_X6_side.frames + 1 ≤ R.frames ∧ 8 + (5 + 11) + rm_X6_side.locals ≤ R.locals) : lf_cV R s args RX6 RX6 107 yX6_side cX6_side 5 (some .int) rm_X6_side 3 :=
  lf_cV_of 3 ht (lr_13 _ (List.mem_of_getElem? (i := 17) rfl)) (lr_13 _ (List.mem_of_getElem? (i := 14) rfl)) (lr_13 _ (List.mem_of_getElem? (i := 15) rfl)) (lr_13 _ (List.mem_of_getElem? (i := 16) rfl)) (lr_1 _ (List.mem_of_getElem? (i := 5) rfl)) rfl rfl (by decide +kernel) hR
def wp_X6_isOn (x1 : Int32) (x2 : Int32) (x3 : Int32) (σ : lf_St) (Post : Int32 → lf_St → Prop) : Prop := vp_in x2 6 ∧ (vp_in x1 6 ∧ (vp_in x3 6 ∧ (vp_in x1 6 ∧ (vp_in x2 6 ∧ (vp_in x1 6 ∧ (vp_in x3 6 ∧ (vp_in x1 6 ∧ (∀ v9 : Int32, v9 = ((((lf_ai σ 1 x2.toNatClampNeg) - (lf_ai σ 1 x1.toNatClampNeg)) * ((lf_ai σ 1 x3.toNatClampNeg) - (lf_ai σ 1 x1.toNatClampNeg))) + (((lf_ai σ 2 x2.toNatClampNeg) - (lf_ai σ 2 x1.toNatClampNeg)) * ((lf_ai σ 2 x3.toNatClampNeg) - (lf_ai σ 2 x1.toNatClampNeg)))) → (wp_X6_side x2 x3 x1 σ (fun r10 σ10 => ((¬ r10 = 0) → (Post 0 σ10)) ∧ ((r10 = 0) → (((0 < v9) → (Post 0 σ10)) ∧ ((¬ (0 < v9)) → (Post 1 σ10))))))))))))))
def rm_X6_isOn : Room := ({ frames := 1, cells := 0, slots := 0, locals := 24 } : Room)
set_option maxHeartbeats 4000000 in
set_option maxRecDepth 100000 in
theorem c_X6_isOn (l : Launch) (D : va_G) (ha : Nat → Nat) (cy : Nat → ClassId) (sz : Nat) (σ : lf_St) (x1 : Int32) (x2 : Int32) (x3 : Int32) (Post : Int32 → lf_St → Prop) (hw : wp_X6_isOn x1 x2 x3 σ Post) : lf_Mi l yX6_isOn (lf_ws yX6_isOn cX6_isOn 5 (some .boolean)) rm_X6_isOn D (tyM_ cy) (wM_ ha cy) sz σ [.ref (ha 0), .int x1, .int x2, .int x3] Post := by
  refine lf_ofi (by decide +kernel) (Nat.le_of_ble_eq_true rfl) ?_
  intro p e s m args below meth c A ls F hh hl
  have hx := F.1.1
  have hb := F.1.2.1
  have hl : lv_has ls 5 [(0, .ref (ha 0)), (1, .int x1), (2, .int x2), (3, .int x3)] := hl
  obtain ⟨H, hHe⟩ : ∃ H, H = s.heap := ⟨_, rfl⟩
  rw [← hHe] at hh ⊢
  unfold wp_X6_isOn at hw
  refine lv_aload_n hx hb dX6_isOn_0 rfl (lv_at hl 0 rfl) ?_
  refine fg_X6_7 F hh dX6_isOn_1 ?_
  refine lv_iload_n hx hb dX6_isOn_4 rfl (lv_at hl 2 rfl) ?_
  obtain ⟨q1, hw⟩ := hw
  refine ra_M_1 F hh q1 dX6_isOn_5 ?_
  refine lv_aload_n hx hb dX6_isOn_6 rfl (lv_at hl 0 rfl) ?_
  refine fg_X6_7 F hh dX6_isOn_7 ?_
  refine lv_iload_n hx hb dX6_isOn_10 rfl (lv_at hl 1 rfl) ?_
  obtain ⟨q2, hw⟩ := hw
  refine ra_M_1 F hh q2 dX6_isOn_11 ?_
  refine lv_isub hx hb dX6_isOn_12 ?_
  refine lv_aload_n hx hb dX6_isOn_13 rfl (lv_at hl 0 rfl) ?_
  refine fg_X6_7 F hh dX6_isOn_14 ?_
  refine lv_iload_n hx hb dX6_isOn_17 rfl (lv_at hl 3 rfl) ?_
  obtain ⟨q3, hw⟩ := hw
  refine ra_M_1 F hh q3 dX6_isOn_18 ?_
  refine lv_aload_n hx hb dX6_isOn_19 rfl (lv_at hl 0 rfl) ?_
  refine fg_X6_7 F hh dX6_isOn_20 ?_
  refine lv_iload_n hx hb dX6_isOn_23 rfl (lv_at hl 1 rfl) ?_
  obtain ⟨q4, hw⟩ := hw
  refine ra_M_1 F hh q4 dX6_isOn_24 ?_
  refine lv_isub hx hb dX6_isOn_25 ?_
  refine lv_imul hx hb dX6_isOn_26 ?_
  refine lv_aload_n hx hb dX6_isOn_27 rfl (lv_at hl 0 rfl) ?_
  refine fg_X6_13 F hh dX6_isOn_28 ?_
  refine lv_iload_n hx hb dX6_isOn_31 rfl (lv_at hl 2 rfl) ?_
  obtain ⟨q5, hw⟩ := hw
  refine ra_M_2 F hh q5 dX6_isOn_32 ?_
  refine lv_aload_n hx hb dX6_isOn_33 rfl (lv_at hl 0 rfl) ?_
  refine fg_X6_13 F hh dX6_isOn_34 ?_
  refine lv_iload_n hx hb dX6_isOn_37 rfl (lv_at hl 1 rfl) ?_
  obtain ⟨q6, hw⟩ := hw
  refine ra_M_2 F hh q6 dX6_isOn_38 ?_
  refine lv_isub hx hb dX6_isOn_39 ?_
  refine lv_aload_n hx hb dX6_isOn_40 rfl (lv_at hl 0 rfl) ?_
  refine fg_X6_13 F hh dX6_isOn_41 ?_
  refine lv_iload_n hx hb dX6_isOn_44 rfl (lv_at hl 3 rfl) ?_
  obtain ⟨q7, hw⟩ := hw
  refine ra_M_2 F hh q7 dX6_isOn_45 ?_
  refine lv_aload_n hx hb dX6_isOn_46 rfl (lv_at hl 0 rfl) ?_
  refine fg_X6_13 F hh dX6_isOn_47 ?_
  refine lv_iload_n hx hb dX6_isOn_50 rfl (lv_at hl 1 rfl) ?_
  obtain ⟨q8, hw⟩ := hw
  refine ra_M_2 F hh q8 dX6_isOn_51 ?_
  refine lv_isub hx hb dX6_isOn_52 ?_
  refine lv_imul hx hb dX6_isOn_53 ?_
  refine lv_iadd hx hb dX6_isOn_54 ?_
  refine lv_topi (fun v9 ev9 => ?_)
  have hw := hw v9 ev9
  refine lv_istore (lv' := [(4, .int v9), (0, .ref (ha 0)), (1, .int x1), (2, .int x2), (3, .int x3)]) hx hb dX6_isOn_55 hl (by decide) rfl (fun ls hl => ?_)
  refine lv_aload_n hx hb dX6_isOn_57 rfl (lv_at hl 1 rfl) ?_
  refine lv_iload_n hx hb dX6_isOn_58 rfl (lv_at hl 3 rfl) ?_
  refine lv_iload_n hx hb dX6_isOn_59 rfl (lv_at hl 4 rfl) ?_
  refine lv_iload_n hx hb dX6_isOn_60 rfl (lv_at hl 2 rfl) ?_
  refine lf_callVi (rest := []) F hh (cw_X6_107 F.1.2.2.2.2 ⟨Nat.le_of_ble_eq_true rfl, Nat.le_of_ble_eq_true rfl⟩) (c_X6_side l D ha cy H.size σ x2 x3 x1 _ hw) 0 6 rfl rfl rfl rfl hl.1 (Nat.le_of_ble_eq_true rfl) dX6_isOn_61 rfl (fun r10 σ10 H locs hw hh => ?_)
  refine lv_if_ne (tgt := 76) hx hb dX6_isOn_64 (by decide) (fun c11 => ?_) (fun c11 => ?_)
  · have hw := hw.1 c11
    refine lv_iconst (v := 0) hx hb dX6_isOn_76 (by decide) ?_
    exact lf_retz F hh rfl hw dX6_isOn_77
  · have hw := hw.2 c11
    refine lv_iload hx hb dX6_isOn_67 (lv_at hl 0 rfl) ?_
    refine lv_if_gt (tgt := 76) hx hb dX6_isOn_69 (by decide) (fun c12 => ?_) (fun c12 => ?_)
    · have hw := hw.1 c12
      refine lv_iconst (v := 0) hx hb dX6_isOn_76 (by decide) ?_
      exact lf_retz F hh rfl hw dX6_isOn_77
    · have hw := hw.2 c12
      refine lv_iconst (v := 1) hx hb dX6_isOn_72 (by decide) ?_
      refine lv_goto (tgt := 77) hx hb dX6_isOn_73 (by decide) ?_
      exact lf_retz F hh rfl hw dX6_isOn_77
theorem cw_X6_111 {R : Room} {s : State} {args : Array Value} (ht : ∀ w ∈ wsL_law, w.before args s = true) (hR : rm_X6_isOn.frames + 1 ≤ R.frames ∧ 8 + (5 + 11) + rm_X6_isOn.locals ≤ R.locals) : lf_cV R s args RX6 RX6 111 yX6_isOn cX6_isOn 5 (some .boolean) rm_X6_isOn 3 :=
  lf_cV_of 3 ht (lr_13 _ (List.mem_of_getElem? (i := 13) rfl)) (lr_13 _ (List.mem_of_getElem? (i := 10) rfl)) (lr_13 _ (List.mem_of_getElem? (i := 11) rfl)) (lr_13 _ (List.mem_of_getElem? (i := 12) rfl)) (lr_1 _ (List.mem_of_getElem? (i := 5) rfl)) rfl rfl (by decide +kernel) hR
def J_X6_areCrossed_75 (Post : Int32 → lf_St → Prop) (x3 : Int32) (x4 : Int32) (x5 : Int32) (x6 : Int32) (t0 : Int32) (σ : lf_St) : Prop := ∀ v1 : Int32, v1 = ((x3 + x4) - t0) → (∀ v2 : Int32, v2 = ((x5 + x6) - t0) → (wp_X6_isOn v1 x5 x6 σ (fun r3 σ3 => ((¬ r3 = 0) → (Post 1 σ3)) ∧ ((r3 = 0) → (wp_X6_isOn v2 x3 x4 σ3 (fun r5 σ5 => ((r5 = 0) → (Post 0 σ5)) ∧ ((¬ (r5 = 0)) → (Post 1 σ5))))))))
def J_X6_areCrossed_69 (Post : Int32 → lf_St → Prop) (x3 : Int32) (x4 : Int32) (x5 : Int32) (x6 : Int32) (σ : lf_St) : Prop := J_X6_areCrossed_75 Post x3 x4 x5 x6 x3 σ
def J_X6_areCrossed_57 (Post : Int32 → lf_St → Prop) (x3 : Int32) (x4 : Int32) (x5 : Int32) (x6 : Int32) (σ : lf_St) : Prop := ((x3 = x5) → (J_X6_areCrossed_69 Post x3 x4 x5 x6 σ)) ∧ ((¬ (x3 = x5)) → (((¬ x3 = x6) → (J_X6_areCrossed_75 Post x3 x4 x5 x6 x4 σ)) ∧ ((x3 = x6) → (J_X6_areCrossed_69 Post x3 x4 x5 x6 σ))))
def wp_X6_areCrossed (x1 : Int32) (x2 : Int32) (σ : lf_St) (Post : Int32 → lf_St → Prop) : Prop := vp_in x1 10 ∧ (∀ v2 : Int32, v2 = (lf_ai σ 7 x1.toNatClampNeg) → (vp_in x1 10 ∧ (∀ v4 : Int32, v4 = (lf_ai σ 8 x1.toNatClampNeg) → (vp_in x2 10 ∧ (∀ v6 : Int32, v6 = (lf_ai σ 7 x2.toNatClampNeg) → (vp_in x2 10 ∧ (∀ v8 : Int32, v8 = (lf_ai σ 8 x2.toNatClampNeg) → (((v2 = v6) → (J_X6_areCrossed_57 Post v2 v4 v6 v8 σ)) ∧ ((¬ (v2 = v6)) → (((v2 = v8) → (J_X6_areCrossed_57 Post v2 v4 v6 v8 σ)) ∧ ((¬ (v2 = v8)) → (((v4 = v6) → (J_X6_areCrossed_57 Post v2 v4 v6 v8 σ)) ∧ ((¬ (v4 = v6)) → (((¬ v4 = v8) → (wp_X6_isOn v2 v6 v8 σ (fun r13 σ13 => ((¬ r13 = 0) → (Post 1 σ13)) ∧ ((r13 = 0) → (wp_X6_isOn v4 v6 v8 σ13 (fun r15 σ15 => ((¬ r15 = 0) → (Post 1 σ15)) ∧ ((r15 = 0) → (wp_X6_isOn v6 v2 v4 σ15 (fun r17 σ17 => ((¬ r17 = 0) → (Post 1 σ17)) ∧ ((r17 = 0) → (wp_X6_isOn v8 v2 v4 σ17 (fun r19 σ19 => ((r19 = 0) → (wp_X6_side v2 v4 v6 σ19 (fun r21 σ21 => wp_X6_side v2 v4 v8 σ21 (fun r22 σ22 => ((0 ≤ (r21 * r22)) → (Post 0 σ22)) ∧ ((¬ (0 ≤ (r21 * r22))) → (wp_X6_side v6 v8 v2 σ22 (fun r24 σ24 => wp_X6_side v6 v8 v4 σ24 (fun r25 σ25 => ((0 ≤ (r24 * r25)) → (Post 0 σ25)) ∧ ((¬ (0 ≤ (r24 * r25))) → (Post 1 σ25)))))))))) ∧ ((¬ (r19 = 0)) → (Post 1 σ19)))))))))))))) ∧ ((v4 = v8) → (J_X6_areCrossed_57 Post v2 v4 v6 v8 σ))))))))))))))))
def rm_X6_areCrossed : Room := ({ frames := 2, cells := 0, slots := 0, locals := 48 } : Room)
set_option maxHeartbeats 4000000 in
set_option maxRecDepth 100000 in
theorem w_X6_areCrossed_75 {p : Program} {l : Launch} {e : Env} {s : State} {m : MethodId} {args : Array Value} {below : List Frame} {meth : Method} {c : Code} {D : va_G} {A : Nat → Prop} {ha : Nat → Nat} {cy : Nat → ClassId} (Post : Int32 → lf_St → Prop) (F : lf_C p s m args meth c RX6 cX6_areCrossed 10 (some .boolean) D (tyM_ cy) A) (x3 : Int32) (x4 : Int32) (x5 : Int32) (x6 : Int32) (t0 : Int32) (σ : lf_St) (H : Heap) (locs : List Loc) (ls : Array Slot) (hh : lf_H D (wM_ ha cy) A s σ H locs) (hl : lv_has ls 10 [(0, .ref (ha 0)), (3, .int x3), (4, .int x4), (5, .int x5), (6, .int x6)]) (hw : J_X6_areCrossed_75 Post x3 x4 x5 x6 t0 σ) : W p l e rm_X6_areCrossed s m args below meth c H locs 0 0 (lf_Qi below args s D (tyM_ cy) A (wM_ ha cy) Post) (F0 m 75 ls [.int t0]) := by
  have hx := F.1.1
  have hb := F.1.2.1
  unfold J_X6_areCrossed_75 at hw
  refine lv_istore (lv' := [(7, .int t0), (0, .ref (ha 0)), (3, .int x3), (4, .int x4), (5, .int x5), (6, .int x6)]) hx hb dX6_areCrossed_75 hl (by decide) rfl (fun ls hl => ?_)
  refine lv_iload_n hx hb dX6_areCrossed_77 rfl (lv_at hl 2 rfl) ?_
  refine lv_iload hx hb dX6_areCrossed_78 (lv_at hl 3 rfl) ?_
  refine lv_iadd hx hb dX6_areCrossed_80 ?_
  refine lv_iload hx hb dX6_areCrossed_81 (lv_at hl 0 rfl) ?_
  refine lv_isub hx hb dX6_areCrossed_83 ?_
  refine lv_topi (fun v1 ev1 => ?_)
  have hw := hw v1 ev1
  refine lv_istore (lv' := [(8, .int v1), (7, .int t0), (0, .ref (ha 0)), (3, .int x3), (4, .int x4), (5, .int x5), (6, .int x6)]) hx hb dX6_areCrossed_84 hl (by decide) rfl (fun ls hl => ?_)
  refine lv_iload hx hb dX6_areCrossed_86 (lv_at hl 5 rfl) ?_
  refine lv_iload hx hb dX6_areCrossed_88 (lv_at hl 6 rfl) ?_
  refine lv_iadd hx hb dX6_areCrossed_90 ?_
  refine lv_iload hx hb dX6_areCrossed_91 (lv_at hl 1 rfl) ?_
  refine lv_isub hx hb dX6_areCrossed_93 ?_
  refine lv_topi (fun v2 ev2 => ?_)
  have hw := hw v2 ev2
  refine lv_istore (lv' := [(9, .int v2), (8, .int v1), (7, .int t0), (0, .ref (ha 0)), (3, .int x3), (4, .int x4), (5, .int x5), (6, .int x6)]) hx hb dX6_areCrossed_94 hl (by decide) rfl (fun ls hl => ?_)
  refine lv_aload_n hx hb dX6_areCrossed_96 rfl (lv_at hl 3 rfl) ?_
  refine lv_iload hx hb dX6_areCrossed_97 (lv_at hl 1 rfl) ?_
  refine lv_iload hx hb dX6_areCrossed_99 (lv_at hl 6 rfl) ?_
  refine lv_iload hx hb dX6_areCrossed_101 (lv_at hl 7 rfl) ?_
  refine lf_callVi (rest := []) F hh (cw_X6_111 F.1.2.2.2.2 ⟨Nat.le_of_ble_eq_true rfl, Nat.le_of_ble_eq_true rfl⟩) (c_X6_isOn l D ha cy H.size σ v1 x5 x6 _ hw) 0 6 rfl rfl rfl rfl hl.1 (Nat.le_of_ble_eq_true rfl) dX6_areCrossed_103 rfl (fun r3 σ3 H locs hw hh => ?_)
  refine lv_if_ne (tgt := 121) hx hb dX6_areCrossed_106 (by decide) (fun c4 => ?_) (fun c4 => ?_)
  · have hw := hw.1 c4
    refine lv_iconst (v := 1) hx hb dX6_areCrossed_121 (by decide) ?_
    refine lv_goto (tgt := 126) hx hb dX6_areCrossed_122 (by decide) ?_
    exact lf_retz F hh rfl hw dX6_areCrossed_126
  · have hw := hw.2 c4
    refine lv_aload_n hx hb dX6_areCrossed_109 rfl (lv_at hl 3 rfl) ?_
    refine lv_iload hx hb dX6_areCrossed_110 (lv_at hl 0 rfl) ?_
    refine lv_iload_n hx hb dX6_areCrossed_112 rfl (lv_at hl 4 rfl) ?_
    refine lv_iload hx hb dX6_areCrossed_113 (lv_at hl 5 rfl) ?_
    refine lf_callVi (rest := []) F hh (cw_X6_111 F.1.2.2.2.2 ⟨Nat.le_of_ble_eq_true rfl, Nat.le_of_ble_eq_true rfl⟩) (c_X6_isOn l D ha cy H.size σ3 v2 x3 x4 _ hw) 0 6 rfl rfl rfl rfl hl.1 (Nat.le_of_ble_eq_true rfl) dX6_areCrossed_115 rfl (fun r5 σ5 H locs hw hh => ?_)
    refine lv_if_eq (tgt := 125) hx hb dX6_areCrossed_118 (by decide) (fun c6 => ?_) (fun c6 => ?_)
    · have hw := hw.1 c6
      refine lv_iconst (v := 0) hx hb dX6_areCrossed_125 (by decide) ?_
      exact lf_retz F hh rfl hw dX6_areCrossed_126
    · have hw := hw.2 c6
      refine lv_iconst (v := 1) hx hb dX6_areCrossed_121 (by decide) ?_
      refine lv_goto (tgt := 126) hx hb dX6_areCrossed_122 (by decide) ?_
      exact lf_retz F hh rfl hw dX6_areCrossed_126
set_option maxHeartbeats 4000000 in
set_option maxRecDepth 100000 in
theorem w_X6_areCrossed_69 {p : Program} {l : Launch} {e : Env} {s : State} {m : MethodId} {args : Array Value} {below : List Frame} {meth : Method} {c : Code} {D : va_G} {A : Nat → Prop} {ha : Nat → Nat} {cy : Nat → ClassId} (Post : Int32 → lf_St → Prop) (F : lf_C p s m args meth c RX6 cX6_areCrossed 10 (some .boolean) D (tyM_ cy) A) (x3 : Int32) (x4 : Int32) (x5 : Int32) (x6 : Int32) (σ : lf_St) (H : Heap) (locs : List Loc) (ls : Array Slot) (hh : lf_H D (wM_ ha cy) A s σ H locs) (hl : lv_has ls 10 [(0, .ref (ha 0)), (3, .int x3), (4, .int x4), (5, .int x5), (6, .int x6)]) (hw : J_X6_areCrossed_69 Post x3 x4 x5 x6 σ) : W p l e rm_X6_areCrossed s m args below meth c H locs 0 0 (lf_Qi below args s D (tyM_ cy) A (wM_ ha cy) Post) (F0 m 69 ls []) := by
  have hx := F.1.1
  have hb := F.1.2.1
  unfold J_X6_areCrossed_69 at hw
  refine lv_iload_n hx hb dX6_areCrossed_69 rfl (lv_at hl 1 rfl) ?_
  refine lv_goto (tgt := 75) hx hb dX6_areCrossed_70 (by decide) ?_
  exact w_X6_areCrossed_75 Post F  x3 x4 x5 x6 x3 σ _ _ _ hh (lv_sub hl [0, 1, 2, 3, 4] rfl) hw
set_option maxHeartbeats 4000000 in
set_option maxRecDepth 100000 in
theorem w_X6_areCrossed_57 {p : Program} {l : Launch} {e : Env} {s : State} {m : MethodId} {args : Array Value} {below : List Frame} {meth : Method} {c : Code} {D : va_G} {A : Nat → Prop} {ha : Nat → Nat} {cy : Nat → ClassId} (Post : Int32 → lf_St → Prop) (F : lf_C p s m args meth c RX6 cX6_areCrossed 10 (some .boolean) D (tyM_ cy) A) (x3 : Int32) (x4 : Int32) (x5 : Int32) (x6 : Int32) (σ : lf_St) (H : Heap) (locs : List Loc) (ls : Array Slot) (hh : lf_H D (wM_ ha cy) A s σ H locs) (hl : lv_has ls 10 [(0, .ref (ha 0)), (3, .int x3), (4, .int x4), (5, .int x5), (6, .int x6)]) (hw : J_X6_areCrossed_57 Post x3 x4 x5 x6 σ) : W p l e rm_X6_areCrossed s m args below meth c H locs 0 0 (lf_Qi below args s D (tyM_ cy) A (wM_ ha cy) Post) (F0 m 57 ls []) := by
  have hx := F.1.1
  have hb := F.1.2.1
  unfold J_X6_areCrossed_57 at hw
  refine lv_iload_n hx hb dX6_areCrossed_57 rfl (lv_at hl 1 rfl) ?_
  refine lv_iload hx hb dX6_areCrossed_58 (lv_at hl 3 rfl) ?_
  refine lv_icmp_eq (tgt := 69) hx hb dX6_areCrossed_60 (by decide) (fun c1 => ?_) (fun c1 => ?_)
  · have hw := hw.1 c1
    exact w_X6_areCrossed_69 Post F  x3 x4 x5 x6 σ _ _ _ hh (lv_sub hl [0, 1, 2, 3, 4] rfl) hw
  · have hw := hw.2 c1
    refine lv_iload_n hx hb dX6_areCrossed_63 rfl (lv_at hl 1 rfl) ?_
    refine lv_iload hx hb dX6_areCrossed_64 (lv_at hl 4 rfl) ?_
    refine lv_icmp_ne (tgt := 73) hx hb dX6_areCrossed_66 (by decide) (fun c2 => ?_) (fun c2 => ?_)
    · have hw := hw.1 c2
      refine lv_iload hx hb dX6_areCrossed_73 (lv_at hl 2 rfl) ?_
      exact w_X6_areCrossed_75 Post F  x3 x4 x5 x6 x4 σ _ _ _ hh (lv_sub hl [0, 1, 2, 3, 4] rfl) hw
    · have hw := hw.2 c2
      exact w_X6_areCrossed_69 Post F  x3 x4 x5 x6 σ _ _ _ hh (lv_sub hl [0, 1, 2, 3, 4] rfl) hw
set_option maxHeartbeats 4000000 in
set_option maxRecDepth 100000 in
theorem c_X6_areCrossed (l : Launch) (D : va_G) (ha : Nat → Nat) (cy : Nat → ClassId) (sz : Nat) (σ : lf_St) (x1 : Int32) (x2 : Int32) (Post : Int32 → lf_St → Prop) (hw : wp_X6_areCrossed x1 x2 σ Post) : lf_Mi l yX6_areCrossed (lf_ws yX6_areCrossed cX6_areCrossed 10 (some .boolean)) rm_X6_areCrossed D (tyM_ cy) (wM_ ha cy) sz σ [.ref (ha 0), .int x1, .int x2] Post := by
  refine lf_ofi (by decide +kernel) (Nat.le_of_ble_eq_true rfl) ?_
  intro p e s m args below meth c A ls F hh hl
  have hx := F.1.1
  have hb := F.1.2.1
  have hl : lv_has ls 10 [(0, .ref (ha 0)), (1, .int x1), (2, .int x2)] := hl
  obtain ⟨H, hHe⟩ : ∃ H, H = s.heap := ⟨_, rfl⟩
  rw [← hHe] at hh ⊢
  unfold wp_X6_areCrossed at hw
  refine lv_aload_n hx hb dX6_areCrossed_0 rfl (lv_at hl 0 rfl) ?_
  refine fg_X6_26 F hh dX6_areCrossed_1 ?_
  refine lv_iload_n hx hb dX6_areCrossed_4 rfl (lv_at hl 1 rfl) ?_
  obtain ⟨q1, hw⟩ := hw
  refine ra_M_7 F hh q1 dX6_areCrossed_5 ?_
  refine lv_topi (fun v2 ev2 => ?_)
  have hw := hw v2 ev2
  refine lv_istore_n (lv' := [(3, .int v2), (0, .ref (ha 0)), (1, .int x1), (2, .int x2)]) hx hb dX6_areCrossed_6 rfl hl (by decide) rfl (fun ls hl => ?_)
  refine lv_aload_n hx hb dX6_areCrossed_7 rfl (lv_at hl 1 rfl) ?_
  refine fg_X6_29 F hh dX6_areCrossed_8 ?_
  refine lv_iload_n hx hb dX6_areCrossed_11 rfl (lv_at hl 2 rfl) ?_
  obtain ⟨q3, hw⟩ := hw
  refine ra_M_8 F hh q3 dX6_areCrossed_12 ?_
  refine lv_topi (fun v4 ev4 => ?_)
  have hw := hw v4 ev4
  refine lv_istore (lv' := [(4, .int v4), (3, .int v2), (0, .ref (ha 0)), (1, .int x1), (2, .int x2)]) hx hb dX6_areCrossed_13 hl (by decide) rfl (fun ls hl => ?_)
  refine lv_aload_n hx hb dX6_areCrossed_15 rfl (lv_at hl 2 rfl) ?_
  refine fg_X6_26 F hh dX6_areCrossed_16 ?_
  refine lv_iload_n hx hb dX6_areCrossed_19 rfl (lv_at hl 4 rfl) ?_
  obtain ⟨q5, hw⟩ := hw
  refine ra_M_7 F hh q5 dX6_areCrossed_20 ?_
  refine lv_topi (fun v6 ev6 => ?_)
  have hw := hw v6 ev6
  refine lv_istore (lv' := [(5, .int v6), (4, .int v4), (3, .int v2), (0, .ref (ha 0)), (1, .int x1), (2, .int x2)]) hx hb dX6_areCrossed_21 hl (by decide) rfl (fun ls hl => ?_)
  refine lv_aload_n hx hb dX6_areCrossed_23 rfl (lv_at hl 3 rfl) ?_
  refine fg_X6_29 F hh dX6_areCrossed_24 ?_
  refine lv_iload_n hx hb dX6_areCrossed_27 rfl (lv_at hl 5 rfl) ?_
  obtain ⟨q7, hw⟩ := hw
  refine ra_M_8 F hh q7 dX6_areCrossed_28 ?_
  refine lv_topi (fun v8 ev8 => ?_)
  have hw := hw v8 ev8
  refine lv_istore (lv' := [(6, .int v8), (5, .int v6), (4, .int v4), (3, .int v2), (0, .ref (ha 0)), (1, .int x1), (2, .int x2)]) hx hb dX6_areCrossed_29 hl (by decide) rfl (fun ls hl => ?_)
  refine lv_iload_n hx hb dX6_areCrossed_31 rfl (lv_at hl 3 rfl) ?_
  refine lv_iload hx hb dX6_areCrossed_32 (lv_at hl 1 rfl) ?_
  refine lv_icmp_eq (tgt := 57) hx hb dX6_areCrossed_34 (by decide) (fun c9 => ?_) (fun c9 => ?_)
  · have hw := hw.1 c9
    exact w_X6_areCrossed_57 Post F  v2 v4 v6 v8 σ _ _ _ hh (lv_sub hl [4, 3, 2, 1, 0] rfl) hw
  · have hw := hw.2 c9
    refine lv_iload_n hx hb dX6_areCrossed_37 rfl (lv_at hl 3 rfl) ?_
    refine lv_iload hx hb dX6_areCrossed_38 (lv_at hl 0 rfl) ?_
    refine lv_icmp_eq (tgt := 57) hx hb dX6_areCrossed_40 (by decide) (fun c10 => ?_) (fun c10 => ?_)
    · have hw := hw.1 c10
      exact w_X6_areCrossed_57 Post F  v2 v4 v6 v8 σ _ _ _ hh (lv_sub hl [4, 3, 2, 1, 0] rfl) hw
    · have hw := hw.2 c10
      refine lv_iload hx hb dX6_areCrossed_43 (lv_at hl 2 rfl) ?_
      refine lv_iload hx hb dX6_areCrossed_45 (lv_at hl 1 rfl) ?_
      refine lv_icmp_eq (tgt := 57) hx hb dX6_areCrossed_47 (by decide) (fun c11 => ?_) (fun c11 => ?_)
      · have hw := hw.1 c11
        exact w_X6_areCrossed_57 Post F  v2 v4 v6 v8 σ _ _ _ hh (lv_sub hl [4, 3, 2, 1, 0] rfl) hw
      · have hw := hw.2 c11
        refine lv_iload hx hb dX6_areCrossed_50 (lv_at hl 2 rfl) ?_
        refine lv_iload hx hb dX6_areCrossed_52 (lv_at hl 0 rfl) ?_
        refine lv_icmp_ne (tgt := 127) hx hb dX6_areCrossed_54 (by decide) (fun c12 => ?_) (fun c12 => ?_)
        · have hw := hw.1 c12
          refine lv_aload_n hx hb dX6_areCrossed_127 rfl (lv_at hl 4 rfl) ?_
          refine lv_iload_n hx hb dX6_areCrossed_128 rfl (lv_at hl 3 rfl) ?_
          refine lv_iload hx hb dX6_areCrossed_129 (lv_at hl 1 rfl) ?_
          refine lv_iload hx hb dX6_areCrossed_131 (lv_at hl 0 rfl) ?_
          refine lf_callVi (rest := []) F hh (cw_X6_111 F.1.2.2.2.2 ⟨Nat.le_of_ble_eq_true rfl, Nat.le_of_ble_eq_true rfl⟩) (c_X6_isOn l D ha cy H.size σ v2 v6 v8 _ hw) 0 6 rfl rfl rfl rfl hl.1 (Nat.le_of_ble_eq_true rfl) dX6_areCrossed_133 rfl (fun r13 σ13 H locs hw hh => ?_)
          refine lv_if_ne (tgt := 176) hx hb dX6_areCrossed_136 (by decide) (fun c14 => ?_) (fun c14 => ?_)
          · have hw := hw.1 c14
            refine lv_iconst (v := 1) hx hb dX6_areCrossed_176 (by decide) ?_
            exact lf_retz F hh rfl hw dX6_areCrossed_177
          · have hw := hw.2 c14
            refine lv_aload_n hx hb dX6_areCrossed_139 rfl (lv_at hl 4 rfl) ?_
            refine lv_iload hx hb dX6_areCrossed_140 (lv_at hl 2 rfl) ?_
            refine lv_iload hx hb dX6_areCrossed_142 (lv_at hl 1 rfl) ?_
            refine lv_iload hx hb dX6_areCrossed_144 (lv_at hl 0 rfl) ?_
            refine lf_callVi (rest := []) F hh (cw_X6_111 F.1.2.2.2.2 ⟨Nat.le_of_ble_eq_true rfl, Nat.le_of_ble_eq_true rfl⟩) (c_X6_isOn l D ha cy H.size σ13 v4 v6 v8 _ hw) 0 6 rfl rfl rfl rfl hl.1 (Nat.le_of_ble_eq_true rfl) dX6_areCrossed_146 rfl (fun r15 σ15 H locs hw hh => ?_)
            refine lv_if_ne (tgt := 176) hx hb dX6_areCrossed_149 (by decide) (fun c16 => ?_) (fun c16 => ?_)
            · have hw := hw.1 c16
              refine lv_iconst (v := 1) hx hb dX6_areCrossed_176 (by decide) ?_
              exact lf_retz F hh rfl hw dX6_areCrossed_177
            · have hw := hw.2 c16
              refine lv_aload_n hx hb dX6_areCrossed_152 rfl (lv_at hl 4 rfl) ?_
              refine lv_iload hx hb dX6_areCrossed_153 (lv_at hl 1 rfl) ?_
              refine lv_iload_n hx hb dX6_areCrossed_155 rfl (lv_at hl 3 rfl) ?_
              refine lv_iload hx hb dX6_areCrossed_156 (lv_at hl 2 rfl) ?_
              refine lf_callVi (rest := []) F hh (cw_X6_111 F.1.2.2.2.2 ⟨Nat.le_of_ble_eq_true rfl, Nat.le_of_ble_eq_true rfl⟩) (c_X6_isOn l D ha cy H.size σ15 v6 v2 v4 _ hw) 0 6 rfl rfl rfl rfl hl.1 (Nat.le_of_ble_eq_true rfl) dX6_areCrossed_158 rfl (fun r17 σ17 H locs hw hh => ?_)
              refine lv_if_ne (tgt := 176) hx hb dX6_areCrossed_161 (by decide) (fun c18 => ?_) (fun c18 => ?_)
              · have hw := hw.1 c18
                refine lv_iconst (v := 1) hx hb dX6_areCrossed_176 (by decide) ?_
                exact lf_retz F hh rfl hw dX6_areCrossed_177
              · have hw := hw.2 c18
                refine lv_aload_n hx hb dX6_areCrossed_164 rfl (lv_at hl 4 rfl) ?_
                refine lv_iload hx hb dX6_areCrossed_165 (lv_at hl 0 rfl) ?_
                refine lv_iload_n hx hb dX6_areCrossed_167 rfl (lv_at hl 3 rfl) ?_
                refine lv_iload hx hb dX6_areCrossed_168 (lv_at hl 2 rfl) ?_
                refine lf_callVi (rest := []) F hh (cw_X6_111 F.1.2.2.2.2 ⟨Nat.le_of_ble_eq_true rfl, Nat.le_of_ble_eq_true rfl⟩) (c_X6_isOn l D ha cy H.size σ17 v8 v2 v4 _ hw) 0 6 rfl rfl rfl rfl hl.1 (Nat.le_of_ble_eq_true rfl) dX6_areCrossed_170 rfl (fun r19 σ19 H locs hw hh => ?_)
                refine lv_if_eq (tgt := 178) hx hb dX6_areCrossed_173 (by decide) (fun c20 => ?_) (fun c20 => ?_)
                · have hw := hw.1 c20
                  refine lv_aload_n hx hb dX6_areCrossed_178 rfl (lv_at hl 4 rfl) ?_
                  refine lv_iload_n hx hb dX6_areCrossed_179 rfl (lv_at hl 3 rfl) ?_
                  refine lv_iload hx hb dX6_areCrossed_180 (lv_at hl 2 rfl) ?_
                  refine lv_iload hx hb dX6_areCrossed_182 (lv_at hl 1 rfl) ?_
                  refine lf_callVi (rest := []) F hh (cw_X6_107 F.1.2.2.2.2 ⟨Nat.le_of_ble_eq_true rfl, Nat.le_of_ble_eq_true rfl⟩) (c_X6_side l D ha cy H.size σ19 v2 v4 v6 _ hw) 0 6 rfl rfl rfl rfl hl.1 (Nat.le_of_ble_eq_true rfl) dX6_areCrossed_184 rfl (fun r21 σ21 H locs hw hh => ?_)
                  refine lv_aload_n hx hb dX6_areCrossed_187 rfl (lv_at hl 4 rfl) ?_
                  refine lv_iload_n hx hb dX6_areCrossed_188 rfl (lv_at hl 3 rfl) ?_
                  refine lv_iload hx hb dX6_areCrossed_189 (lv_at hl 2 rfl) ?_
                  refine lv_iload hx hb dX6_areCrossed_191 (lv_at hl 0 rfl) ?_
                  refine lf_callVi (rest := [.int r21]) F hh (cw_X6_107 F.1.2.2.2.2 ⟨Nat.le_of_ble_eq_true rfl, Nat.le_of_ble_eq_true rfl⟩) (c_X6_side l D ha cy H.size σ21 v2 v4 v8 _ hw) 0 6 rfl rfl rfl rfl hl.1 (Nat.le_of_ble_eq_true rfl) dX6_areCrossed_193 rfl (fun r22 σ22 H locs hw hh => ?_)
                  refine lv_imul hx hb dX6_areCrossed_196 ?_
                  refine lv_if_ge (tgt := 227) hx hb dX6_areCrossed_197 (by decide) (fun c23 => ?_) (fun c23 => ?_)
                  · have hw := hw.1 c23
                    refine lv_iconst (v := 0) hx hb dX6_areCrossed_227 (by decide) ?_
                    exact lf_retz F hh rfl hw dX6_areCrossed_228
                  · have hw := hw.2 c23
                    refine lv_aload_n hx hb dX6_areCrossed_200 rfl (lv_at hl 4 rfl) ?_
                    refine lv_iload hx hb dX6_areCrossed_201 (lv_at hl 1 rfl) ?_
                    refine lv_iload hx hb dX6_areCrossed_203 (lv_at hl 0 rfl) ?_
                    refine lv_iload_n hx hb dX6_areCrossed_205 rfl (lv_at hl 3 rfl) ?_
                    refine lf_callVi (rest := []) F hh (cw_X6_107 F.1.2.2.2.2 ⟨Nat.le_of_ble_eq_true rfl, Nat.le_of_ble_eq_true rfl⟩) (c_X6_side l D ha cy H.size σ22 v6 v8 v2 _ hw) 0 6 rfl rfl rfl rfl hl.1 (Nat.le_of_ble_eq_true rfl) dX6_areCrossed_206 rfl (fun r24 σ24 H locs hw hh => ?_)
                    refine lv_aload_n hx hb dX6_areCrossed_209 rfl (lv_at hl 4 rfl) ?_
                    refine lv_iload hx hb dX6_areCrossed_210 (lv_at hl 1 rfl) ?_
                    refine lv_iload hx hb dX6_areCrossed_212 (lv_at hl 0 rfl) ?_
                    refine lv_iload hx hb dX6_areCrossed_214 (lv_at hl 2 rfl) ?_
                    refine lf_callVi (rest := [.int r24]) F hh (cw_X6_107 F.1.2.2.2.2 ⟨Nat.le_of_ble_eq_true rfl, Nat.le_of_ble_eq_true rfl⟩) (c_X6_side l D ha cy H.size σ24 v6 v8 v4 _ hw) 0 6 rfl rfl rfl rfl hl.1 (Nat.le_of_ble_eq_true rfl) dX6_areCrossed_216 rfl (fun r25 σ25 H locs hw hh => ?_)
                    refine lv_imul hx hb dX6_areCrossed_219 ?_
                    refine lv_if_ge (tgt := 227) hx hb dX6_areCrossed_220 (by decide) (fun c26 => ?_) (fun c26 => ?_)
                    · have hw := hw.1 c26
                      refine lv_iconst (v := 0) hx hb dX6_areCrossed_227 (by decide) ?_
                      exact lf_retz F hh rfl hw dX6_areCrossed_228
                    · have hw := hw.2 c26
                      refine lv_iconst (v := 1) hx hb dX6_areCrossed_223 (by decide) ?_
                      refine lv_goto (tgt := 228) hx hb dX6_areCrossed_224 (by decide) ?_
                      exact lf_retz F hh rfl hw dX6_areCrossed_228
                · have hw := hw.2 c20
                  refine lv_iconst (v := 1) hx hb dX6_areCrossed_176 (by decide) ?_
                  exact lf_retz F hh rfl hw dX6_areCrossed_177
        · have hw := hw.2 c12
          exact w_X6_areCrossed_57 Post F  v2 v4 v6 v8 σ _ _ _ hh (lv_sub hl [4, 3, 2, 1, 0] rfl) hw
theorem cw_X6_115 {R : Room} {s : State} {args : Array Value} (ht : ∀ w ∈ wsL_law, w.before args s = true) (hR : rm_X6_areCrossed.frames + 1 ≤ R.frames ∧ 8 + (10 + 11) + rm_X6_areCrossed.locals ≤ R.locals) : lf_cV R s args RX6 RX6 115 yX6_areCrossed cX6_areCrossed 10 (some .boolean) rm_X6_areCrossed 2 :=
  lf_cV_of 2 ht (lr_13 _ (List.mem_of_getElem? (i := 9) rfl)) (lr_13 _ (List.mem_of_getElem? (i := 6) rfl)) (lr_13 _ (List.mem_of_getElem? (i := 7) rfl)) (lr_13 _ (List.mem_of_getElem? (i := 8) rfl)) (lr_1 _ (List.mem_of_getElem? (i := 5) rfl)) rfl rfl (by decide +kernel) hR
def wp_X6_cross (x1 : Int32) (x2 : Int32) (σ : lf_St) (Post : Int32 → lf_St → Prop) : Prop := wp_X6_isBar x1 σ (fun r1 σ1 => ((r1 = 0) → (Post (-1) σ1)) ∧ ((¬ (r1 = 0)) → (wp_X6_isBar x2 σ1 (fun r3 σ3 => ((r3 = 0) → (Post (-1) σ3)) ∧ ((¬ (r3 = 0)) → (((x1 = x2) → (Post (-1) σ3)) ∧ ((¬ (x1 = x2)) → (wp_X6_areCrossed x1 x2 σ3 (fun r6 σ6 => ((r6 = 0) → (Post 0 σ6)) ∧ ((¬ (r6 = 0)) → (Post 1 σ6)))))))))))
def rm_X6_cross : Room := ({ frames := 3, cells := 0, slots := 0, locals := 77 } : Room)
set_option maxHeartbeats 4000000 in
set_option maxRecDepth 100000 in
theorem c_X6_cross (l : Launch) (D : va_G) (ha : Nat → Nat) (cy : Nat → ClassId) (sz : Nat) (σ : lf_St) (x1 : Int32) (x2 : Int32) (Post : Int32 → lf_St → Prop) (hw : wp_X6_cross x1 x2 σ Post) : lf_Mi l yX6_cross (lf_ws yX6_cross cX6_cross 3 (some .int)) rm_X6_cross D (tyM_ cy) (wM_ ha cy) sz σ [.ref (ha 0), .int x1, .int x2] Post := by
  refine lf_ofi (by decide +kernel) (Nat.le_of_ble_eq_true rfl) ?_
  intro p e s m args below meth c A ls F hh hl
  have hx := F.1.1
  have hb := F.1.2.1
  have hl : lv_has ls 3 [(0, .ref (ha 0)), (1, .int x1), (2, .int x2)] := hl
  obtain ⟨H, hHe⟩ : ∃ H, H = s.heap := ⟨_, rfl⟩
  rw [← hHe] at hh ⊢
  unfold wp_X6_cross at hw
  refine lv_aload_n hx hb dX6_cross_0 rfl (lv_at hl 0 rfl) ?_
  refine lv_iload_n hx hb dX6_cross_1 rfl (lv_at hl 1 rfl) ?_
  refine lf_callVi (rest := []) F hh (cw_X6_90 F.1.2.2.2.2 ⟨Nat.le_of_ble_eq_true rfl, Nat.le_of_ble_eq_true rfl⟩) (c_X6_isBar l D ha cy H.size σ x1 _ hw) 0 6 rfl rfl rfl rfl hl.1 (Nat.le_of_ble_eq_true rfl) dX6_cross_2 rfl (fun r1 σ1 H locs hw hh => ?_)
  refine lv_if_eq (tgt := 38) hx hb dX6_cross_5 (by decide) (fun c2 => ?_) (fun c2 => ?_)
  · have hw := hw.1 c2
    refine lv_iconst (v := (-1)) hx hb dX6_cross_38 (by decide) ?_
    exact lf_reti F hh hw dX6_cross_39
  · have hw := hw.2 c2
    refine lv_aload_n hx hb dX6_cross_8 rfl (lv_at hl 0 rfl) ?_
    refine lv_iload_n hx hb dX6_cross_9 rfl (lv_at hl 2 rfl) ?_
    refine lf_callVi (rest := []) F hh (cw_X6_90 F.1.2.2.2.2 ⟨Nat.le_of_ble_eq_true rfl, Nat.le_of_ble_eq_true rfl⟩) (c_X6_isBar l D ha cy H.size σ1 x2 _ hw) 0 6 rfl rfl rfl rfl hl.1 (Nat.le_of_ble_eq_true rfl) dX6_cross_10 rfl (fun r3 σ3 H locs hw hh => ?_)
    refine lv_if_eq (tgt := 38) hx hb dX6_cross_13 (by decide) (fun c4 => ?_) (fun c4 => ?_)
    · have hw := hw.1 c4
      refine lv_iconst (v := (-1)) hx hb dX6_cross_38 (by decide) ?_
      exact lf_reti F hh hw dX6_cross_39
    · have hw := hw.2 c4
      refine lv_iload_n hx hb dX6_cross_16 rfl (lv_at hl 1 rfl) ?_
      refine lv_iload_n hx hb dX6_cross_17 rfl (lv_at hl 2 rfl) ?_
      refine lv_icmp_eq (tgt := 38) hx hb dX6_cross_18 (by decide) (fun c5 => ?_) (fun c5 => ?_)
      · have hw := hw.1 c5
        refine lv_iconst (v := (-1)) hx hb dX6_cross_38 (by decide) ?_
        exact lf_reti F hh hw dX6_cross_39
      · have hw := hw.2 c5
        refine lv_aload_n hx hb dX6_cross_21 rfl (lv_at hl 0 rfl) ?_
        refine lv_iload_n hx hb dX6_cross_22 rfl (lv_at hl 1 rfl) ?_
        refine lv_iload_n hx hb dX6_cross_23 rfl (lv_at hl 2 rfl) ?_
        refine lf_callVi (rest := []) F hh (cw_X6_115 F.1.2.2.2.2 ⟨Nat.le_of_ble_eq_true rfl, Nat.le_of_ble_eq_true rfl⟩) (c_X6_areCrossed l D ha cy H.size σ3 x1 x2 _ hw) 0 6 rfl rfl rfl rfl hl.1 (Nat.le_of_ble_eq_true rfl) dX6_cross_24 rfl (fun r6 σ6 H locs hw hh => ?_)
        refine lv_if_eq (tgt := 34) hx hb dX6_cross_27 (by decide) (fun c7 => ?_) (fun c7 => ?_)
        · have hw := hw.1 c7
          refine lv_iconst (v := 0) hx hb dX6_cross_34 (by decide) ?_
          refine lv_goto (tgt := 39) hx hb dX6_cross_35 (by decide) ?_
          exact lf_reti F hh hw dX6_cross_39
        · have hw := hw.2 c7
          refine lv_iconst (v := 1) hx hb dX6_cross_30 (by decide) ?_
          refine lv_goto (tgt := 39) hx hb dX6_cross_31 (by decide) ?_
          exact lf_reti F hh hw dX6_cross_39
end
section
def L_X6_determinant_240 (K_225 : Int64 → Int64 → Int32 → Int32 → lf_St → Prop) (Post : Int64 → lf_St → Prop) : Nat → Int64 → Int64 → Int32 → Int32 → Int32 → lf_St → Prop
  | 0, _, _, _, _, _, _ => False
  | n + 1, x2, x4, x6, x8, x9, σ => (((lf_gi σ 14) ≤ x9) → (∀ v2 : Int32, v2 = x8 + 1 → (K_225 x2 x4 x6 v2 σ))) ∧ ((¬ ((lf_gi σ 14) ≤ x9)) → (vp_in ((6 * x8) + x9) 36 ∧ (vp_in ((6 * x6) + x6) 36 ∧ (vp_in ((6 * x8) + x6) 36 ∧ (vp_in ((6 * x6) + x9) 36 ∧ ((¬ x2 = 0) ∧ (vp_in ((6 * x8) + x9) 36 ∧ (∀ v9 : Int32, v9 = x9 + 1 → (L_X6_determinant_240 K_225 Post n x2 x4 x6 x8 v9 (lf_sb σ 16 (((6 * x8) + x9) : Int32).toNatClampNeg ((((lf_al σ 16 (((6 * x8) + x9) : Int32).toNatClampNeg) * (lf_al σ 16 (((6 * x6) + x6) : Int32).toNatClampNeg)) - ((lf_al σ 16 (((6 * x8) + x6) : Int32).toNatClampNeg) * (lf_al σ 16 (((6 * x6) + x9) : Int32).toNatClampNeg))) / x2)))))))))))
def L_X6_determinant_225 (K_76 : Int64 → Int64 → Int32 → lf_St → Prop) (Post : Int64 → lf_St → Prop) : Nat → Int64 → Int64 → Int32 → Int32 → lf_St → Prop
  | 0, _, _, _, _, _ => False
  | n + 1, x2, x4, x6, x8, σ => (((lf_gi σ 14) ≤ x8) → (vp_in ((6 * x6) + x6) 36 ∧ (∀ v3 : Int64, v3 = (lf_al σ 16 (((6 * x6) + x6) : Int32).toNatClampNeg) → (∀ v4 : Int32, v4 = x6 + 1 → (K_76 v3 x4 v4 σ))))) ∧ ((¬ ((lf_gi σ 14) ≤ x8)) → (∀ v5 : Int32, v5 = (x6 + 1) → (∃ fu : Nat, L_X6_determinant_240 (L_X6_determinant_225 K_76 Post n) Post fu x2 x4 x6 x8 v5 σ)))
def L_X6_determinant_143 (K_76 : Int64 → Int64 → Int32 → lf_St → Prop) (Post : Int64 → lf_St → Prop) : Nat → Int64 → Int64 → Int32 → Int32 → Int32 → lf_St → Prop
  | 0, _, _, _, _, _, _ => False
  | n + 1, x2, x4, x6, x7, x8, σ => (((lf_gi σ 14) ≤ x8) → (∀ v2 : Int64, v2 = (-x4) → (∀ v3 : Int32, v3 = (x6 + 1) → (∃ fu : Nat, L_X6_determinant_225 K_76 Post fu x2 v2 x6 v3 σ)))) ∧ ((¬ ((lf_gi σ 14) ≤ x8)) → (vp_in ((6 * x7) + x8) 36 ∧ (∀ v5 : Int64, v5 = (lf_al σ 16 (((6 * x7) + x8) : Int32).toNatClampNeg) → (vp_in ((6 * x6) + x8) 36 ∧ (vp_in ((6 * x7) + x8) 36 ∧ (vp_in ((6 * x6) + x8) 36 ∧ (∀ v9 : Int32, v9 = x8 + 1 → (L_X6_determinant_143 K_76 Post n x2 x4 x6 x7 v9 (lf_sb (lf_sb σ 16 (((6 * x7) + x8) : Int32).toNatClampNeg (lf_al σ 16 (((6 * x6) + x8) : Int32).toNatClampNeg)) 16 (((6 * x6) + x8) : Int32).toNatClampNeg v5)))))))))
def J_X6_determinant_122 (K_76 : Int64 → Int64 → Int32 → lf_St → Prop) (Post : Int64 → lf_St → Prop) (x2 : Int64) (x4 : Int64) (x6 : Int32) (x7 : Int32) (σ : lf_St) : Prop := ((¬ x7 = (lf_gi σ 14)) → (((x7 = x6) → (∀ v3 : Int32, v3 = (x6 + 1) → (∃ fu : Nat, L_X6_determinant_225 K_76 Post fu x2 x4 x6 v3 σ))) ∧ ((¬ (x7 = x6)) → (∃ fu : Nat, L_X6_determinant_143 K_76 Post fu x2 x4 x6 x7 0 σ)))) ∧ ((x7 = (lf_gi σ 14)) → (Post 0 σ))
def L_X6_determinant_89 (K_76 : Int64 → Int64 → Int32 → lf_St → Prop) (Post : Int64 → lf_St → Prop) : Nat → Int64 → Int64 → Int32 → Int32 → lf_St → Prop
  | 0, _, _, _, _, _ => False
  | n + 1, x2, x4, x6, x7, σ => (((lf_gi σ 14) ≤ x7) → (J_X6_determinant_122 K_76 Post x2 x4 x6 x7 σ)) ∧ ((¬ ((lf_gi σ 14) ≤ x7)) → (vp_in ((6 * x7) + x6) 36 ∧ (((¬ (lf_al σ 16 (((6 * x7) + x6) : Int32).toNatClampNeg) = 0) → (J_X6_determinant_122 K_76 Post x2 x4 x6 x7 σ)) ∧ (((lf_al σ 16 (((6 * x7) + x6) : Int32).toNatClampNeg) = 0) → (∀ v4 : Int32, v4 = x7 + 1 → (L_X6_determinant_89 K_76 Post n x2 x4 x6 v4 σ))))))
def L_X6_determinant_76 (Post : Int64 → lf_St → Prop) : Nat → Int64 → Int64 → Int32 → lf_St → Prop
  | 0, _, _, _, _ => False
  | n + 1, x2, x4, x6, σ => (((lf_gi σ 14) ≤ x6) → (Post (x4 * x2) σ)) ∧ ((¬ ((lf_gi σ 14) ≤ x6)) → (∃ fu : Nat, L_X6_determinant_89 (L_X6_determinant_76 Post n) Post fu x2 x4 x6 x6 σ))
def L_X6_determinant_12 (K_2 : Int32 → Int32 → lf_St → Prop) (Post : Int64 → lf_St → Prop) : Nat → Int32 → Int32 → Int32 → lf_St → Prop
  | 0, _, _, _, _ => False
  | n + 1, x1, x2, x3, σ => (((lf_gi σ 14) ≤ x3) → (∀ v2 : Int32, v2 = x2 + 1 → (K_2 x1 v2 σ))) ∧ ((¬ ((lf_gi σ 14) ≤ x3)) → (((¬ x3 = x1) → (vp_in ((6 * x2) + x3) 36 ∧ (vp_in ((6 * x2) + x3) 36 ∧ (∀ v6 : Int32, v6 = x3 + 1 → (L_X6_determinant_12 K_2 Post n x1 x2 v6 (lf_sb σ 16 (((6 * x2) + x3) : Int32).toNatClampNeg (lf_al σ 15 (((6 * x2) + x3) : Int32).toNatClampNeg))))))) ∧ ((x3 = x1) → (vp_in x2 6 ∧ (vp_in ((6 * x2) + x3) 36 ∧ (∀ v9 : Int32, v9 = x3 + 1 → (L_X6_determinant_12 K_2 Post n x1 x2 v9 (lf_sb σ 16 (((6 * x2) + x3) : Int32).toNatClampNeg (lf_al σ 17 x2.toNatClampNeg)))))))))
def L_X6_determinant_2 (Post : Int64 → lf_St → Prop) : Nat → Int32 → Int32 → lf_St → Prop
  | 0, _, _, _ => False
  | n + 1, x1, x2, σ => (((lf_gi σ 14) ≤ x2) → (∃ fu : Nat, L_X6_determinant_76 Post fu 1 1 0 σ)) ∧ ((¬ ((lf_gi σ 14) ≤ x2)) → (∃ fu : Nat, L_X6_determinant_12 (L_X6_determinant_2 Post n) Post fu x1 x2 0 σ))
def wp_X6_determinant (x1 : Int32) (σ : lf_St) (Post : Int64 → lf_St → Prop) : Prop := ∃ fu : Nat, L_X6_determinant_2 Post fu x1 0 σ
def rm_X6_determinant : Room := ({ frames := 0, cells := 0, slots := 0, locals := 0 } : Room)
set_option maxHeartbeats 4000000 in
set_option maxRecDepth 100000 in
theorem w_X6_determinant_240 {p : Program} {l : Launch} {e : Env} {s : State} {m : MethodId} {args : Array Value} {below : List Frame} {meth : Method} {c : Code} {D : va_G} {A : Nat → Prop} {ha : Nat → Nat} {cy : Nat → ClassId} (K_225 : Int64 → Int64 → Int32 → Int32 → lf_St → Prop) (Post : Int64 → lf_St → Prop) (F : lf_C p s m args meth c RX6 cX6_determinant 11 (some .long) D (tyM_ cy) A) (hK_225 : ∀ (x2 : Int64) (x4 : Int64) (x6 : Int32) (x8 : Int32) (σ : lf_St) (H : Heap) (locs : List Loc) (ls : Array Slot), lf_H D (wM_ ha cy) A s σ H locs → lv_has ls 11 [(0, .ref (ha 0)), (2, .long x2), (4, .long x4), (6, .int x6), (8, .int x8)] → K_225 x2 x4 x6 x8 σ → W p l e rm_X6_determinant s m args below meth c H locs 0 0 (lf_Ql below args s D (tyM_ cy) A (wM_ ha cy) Post) (F0 m 225 ls [])) : ∀ (n : Nat) (x2 : Int64) (x4 : Int64) (x6 : Int32) (x8 : Int32) (x9 : Int32) (σ : lf_St) (H : Heap) (locs : List Loc) (ls : Array Slot), lf_H D (wM_ ha cy) A s σ H locs → lv_has ls 11 [(0, .ref (ha 0)), (2, .long x2), (4, .long x4), (6, .int x6), (8, .int x8), (9, .int x9)] → L_X6_determinant_240 K_225 Post n x2 x4 x6 x8 x9 σ → W p l e rm_X6_determinant s m args below meth c H locs 0 0 (lf_Ql below args s D (tyM_ cy) A (wM_ ha cy) Post) (F0 m 240 ls []) := by
  have hx := F.1.1
  have hb := F.1.2.1
  intro n
  induction n with
  | zero =>
    intro x2 x4 x6 x8 x9 σ H locs ls hh hl hw
    exact False.elim hw
  | succ n ih =>
    intro x2 x4 x6 x8 x9 σ H locs ls hh hl hw
    unfold L_X6_determinant_240 at hw
    refine lv_iload hx hb dX6_determinant_240 (lv_at hl 5 rfl) ?_
    refine lv_aload_n hx hb dX6_determinant_242 rfl (lv_at hl 0 rfl) ?_
    refine fg_X6_119 F hh dX6_determinant_243 ?_
    refine lv_icmp_ge (tgt := 325) hx hb dX6_determinant_246 (by decide) (fun c1 => ?_) (fun c1 => ?_)
    · have hw := hw.1 c1
      obtain ⟨v2, ev2⟩ : ∃ y : Int32, y = x8 + 1 := ⟨_, rfl⟩
      have hw := hw v2 ev2
      refine lv_iinc (v := v2) (lv' := [(8, .int v2), (0, .ref (ha 0)), (2, .long x2), (4, .long x4), (6, .int x6), (9, .int x9)]) hx hb dX6_determinant_325 hl (k := 4) rfl (by rw [ev2]; rfl) (by decide) rfl (fun ls hl => ?_)
      refine lv_goto (tgt := 225) hx hb dX6_determinant_328 (by decide) ?_
      exact hK_225 x2 x4 x6 v2 σ _ _ _ hh (lv_sub hl [1, 2, 3, 4, 0] rfl) hw
    · have hw := hw.2 c1
      refine lv_aload_n hx hb dX6_determinant_249 rfl (lv_at hl 0 rfl) ?_
      refine fg_X6_42 F hh dX6_determinant_250 ?_
      refine lv_bipush (v := 6) hx hb dX6_determinant_253 (by decide) ?_
      refine lv_iload hx hb dX6_determinant_255 (lv_at hl 4 rfl) ?_
      refine lv_imul hx hb dX6_determinant_257 ?_
      refine lv_iload hx hb dX6_determinant_258 (lv_at hl 5 rfl) ?_
      refine lv_iadd hx hb dX6_determinant_260 ?_
      refine lv_aload_n hx hb dX6_determinant_261 rfl (lv_at hl 0 rfl) ?_
      refine fg_X6_42 F hh dX6_determinant_262 ?_
      refine lv_bipush (v := 6) hx hb dX6_determinant_265 (by decide) ?_
      refine lv_iload hx hb dX6_determinant_267 (lv_at hl 4 rfl) ?_
      refine lv_imul hx hb dX6_determinant_269 ?_
      refine lv_iload hx hb dX6_determinant_270 (lv_at hl 5 rfl) ?_
      refine lv_iadd hx hb dX6_determinant_272 ?_
      obtain ⟨q3, hw⟩ := hw
      refine ra_M_16 F hh q3 dX6_determinant_273 ?_
      refine lv_aload_n hx hb dX6_determinant_274 rfl (lv_at hl 0 rfl) ?_
      refine fg_X6_42 F hh dX6_determinant_275 ?_
      refine lv_bipush (v := 6) hx hb dX6_determinant_278 (by decide) ?_
      refine lv_iload hx hb dX6_determinant_280 (lv_at hl 3 rfl) ?_
      refine lv_imul hx hb dX6_determinant_282 ?_
      refine lv_iload hx hb dX6_determinant_283 (lv_at hl 3 rfl) ?_
      refine lv_iadd hx hb dX6_determinant_285 ?_
      obtain ⟨q4, hw⟩ := hw
      refine ra_M_16 F hh q4 dX6_determinant_286 ?_
      refine lv_lmul hx hb dX6_determinant_287 ?_
      refine lv_aload_n hx hb dX6_determinant_288 rfl (lv_at hl 0 rfl) ?_
      refine fg_X6_42 F hh dX6_determinant_289 ?_
      refine lv_bipush (v := 6) hx hb dX6_determinant_292 (by decide) ?_
      refine lv_iload hx hb dX6_determinant_294 (lv_at hl 4 rfl) ?_
      refine lv_imul hx hb dX6_determinant_296 ?_
      refine lv_iload hx hb dX6_determinant_297 (lv_at hl 3 rfl) ?_
      refine lv_iadd hx hb dX6_determinant_299 ?_
      obtain ⟨q5, hw⟩ := hw
      refine ra_M_16 F hh q5 dX6_determinant_300 ?_
      refine lv_aload_n hx hb dX6_determinant_301 rfl (lv_at hl 0 rfl) ?_
      refine fg_X6_42 F hh dX6_determinant_302 ?_
      refine lv_bipush (v := 6) hx hb dX6_determinant_305 (by decide) ?_
      refine lv_iload hx hb dX6_determinant_307 (lv_at hl 3 rfl) ?_
      refine lv_imul hx hb dX6_determinant_309 ?_
      refine lv_iload hx hb dX6_determinant_310 (lv_at hl 5 rfl) ?_
      refine lv_iadd hx hb dX6_determinant_312 ?_
      obtain ⟨q6, hw⟩ := hw
      refine ra_M_16 F hh q6 dX6_determinant_313 ?_
      refine lv_lmul hx hb dX6_determinant_314 ?_
      refine lv_lsub hx hb dX6_determinant_315 ?_
      refine lv_lload_n hx hb dX6_determinant_316 rfl (lv_at hl 1 rfl) ?_
      obtain ⟨q7, hw⟩ := hw
      refine lv_ldiv hx hb dX6_determinant_317 q7 ?_
      obtain ⟨q8, hw⟩ := hw
      refine wa_M_16 F hh q8 dX6_determinant_318 (fun H locs hh => ?_)
      obtain ⟨v9, ev9⟩ : ∃ y : Int32, y = x9 + 1 := ⟨_, rfl⟩
      have hw := hw v9 ev9
      refine lv_iinc (v := v9) (lv' := [(9, .int v9), (0, .ref (ha 0)), (2, .long x2), (4, .long x4), (6, .int x6), (8, .int x8)]) hx hb dX6_determinant_319 hl (k := 5) rfl (by rw [ev9]; rfl) (by decide) rfl (fun ls hl => ?_)
      refine lv_goto (tgt := 240) hx hb dX6_determinant_322 (by decide) ?_
      exact ih x2 x4 x6 x8 v9 (lf_sb σ 16 (((6 * x8) + x9) : Int32).toNatClampNeg ((((lf_al σ 16 (((6 * x8) + x9) : Int32).toNatClampNeg) * (lf_al σ 16 (((6 * x6) + x6) : Int32).toNatClampNeg)) - ((lf_al σ 16 (((6 * x8) + x6) : Int32).toNatClampNeg) * (lf_al σ 16 (((6 * x6) + x9) : Int32).toNatClampNeg))) / x2)) _ _ _ hh (lv_sub hl [1, 2, 3, 4, 5, 0] rfl) hw
set_option maxHeartbeats 4000000 in
set_option maxRecDepth 100000 in
theorem w_X6_determinant_225 {p : Program} {l : Launch} {e : Env} {s : State} {m : MethodId} {args : Array Value} {below : List Frame} {meth : Method} {c : Code} {D : va_G} {A : Nat → Prop} {ha : Nat → Nat} {cy : Nat → ClassId} (K_76 : Int64 → Int64 → Int32 → lf_St → Prop) (Post : Int64 → lf_St → Prop) (F : lf_C p s m args meth c RX6 cX6_determinant 11 (some .long) D (tyM_ cy) A) (hK_76 : ∀ (x2 : Int64) (x4 : Int64) (x6 : Int32) (σ : lf_St) (H : Heap) (locs : List Loc) (ls : Array Slot), lf_H D (wM_ ha cy) A s σ H locs → lv_has ls 11 [(0, .ref (ha 0)), (2, .long x2), (4, .long x4), (6, .int x6)] → K_76 x2 x4 x6 σ → W p l e rm_X6_determinant s m args below meth c H locs 0 0 (lf_Ql below args s D (tyM_ cy) A (wM_ ha cy) Post) (F0 m 76 ls [])) : ∀ (n : Nat) (x2 : Int64) (x4 : Int64) (x6 : Int32) (x8 : Int32) (σ : lf_St) (H : Heap) (locs : List Loc) (ls : Array Slot), lf_H D (wM_ ha cy) A s σ H locs → lv_has ls 11 [(0, .ref (ha 0)), (2, .long x2), (4, .long x4), (6, .int x6), (8, .int x8)] → L_X6_determinant_225 K_76 Post n x2 x4 x6 x8 σ → W p l e rm_X6_determinant s m args below meth c H locs 0 0 (lf_Ql below args s D (tyM_ cy) A (wM_ ha cy) Post) (F0 m 225 ls []) := by
  have hx := F.1.1
  have hb := F.1.2.1
  intro n
  induction n with
  | zero =>
    intro x2 x4 x6 x8 σ H locs ls hh hl hw
    exact False.elim hw
  | succ n ih =>
    intro x2 x4 x6 x8 σ H locs ls hh hl hw
    unfold L_X6_determinant_225 at hw
    refine lv_iload hx hb dX6_determinant_225 (lv_at hl 4 rfl) ?_
    refine lv_aload_n hx hb dX6_determinant_227 rfl (lv_at hl 0 rfl) ?_
    refine fg_X6_119 F hh dX6_determinant_228 ?_
    refine lv_icmp_ge (tgt := 331) hx hb dX6_determinant_231 (by decide) (fun c1 => ?_) (fun c1 => ?_)
    · have hw := hw.1 c1
      refine lv_aload_n hx hb dX6_determinant_331 rfl (lv_at hl 0 rfl) ?_
      refine fg_X6_42 F hh dX6_determinant_332 ?_
      refine lv_bipush (v := 6) hx hb dX6_determinant_335 (by decide) ?_
      refine lv_iload hx hb dX6_determinant_337 (lv_at hl 3 rfl) ?_
      refine lv_imul hx hb dX6_determinant_339 ?_
      refine lv_iload hx hb dX6_determinant_340 (lv_at hl 3 rfl) ?_
      refine lv_iadd hx hb dX6_determinant_342 ?_
      obtain ⟨q2, hw⟩ := hw
      refine ra_M_16 F hh q2 dX6_determinant_343 ?_
      refine lv_topl (fun v3 ev3 => ?_)
      have hw := hw v3 ev3
      refine lv_lstore_n (lv' := [(2, .long v3), (0, .ref (ha 0)), (4, .long x4), (6, .int x6), (8, .int x8)]) hx hb dX6_determinant_344 rfl hl (by decide) rfl (fun ls hl => ?_)
      obtain ⟨v4, ev4⟩ : ∃ y : Int32, y = x6 + 1 := ⟨_, rfl⟩
      have hw := hw v4 ev4
      refine lv_iinc (v := v4) (lv' := [(6, .int v4), (2, .long v3), (0, .ref (ha 0)), (4, .long x4), (8, .int x8)]) hx hb dX6_determinant_345 hl (k := 3) rfl (by rw [ev4]; rfl) (by decide) rfl (fun ls hl => ?_)
      refine lv_goto (tgt := 76) hx hb dX6_determinant_348 (by decide) ?_
      exact hK_76 v3 x4 v4 σ _ _ _ hh (lv_sub hl [2, 1, 3, 0] rfl) hw
    · have hw := hw.2 c1
      refine lv_iload hx hb dX6_determinant_234 (lv_at hl 3 rfl) ?_
      refine lv_iconst (v := 1) hx hb dX6_determinant_236 (by decide) ?_
      refine lv_iadd hx hb dX6_determinant_237 ?_
      refine lv_topi (fun v5 ev5 => ?_)
      have hw := hw v5 ev5
      refine lv_istore (lv' := [(9, .int v5), (0, .ref (ha 0)), (2, .long x2), (4, .long x4), (6, .int x6), (8, .int x8)]) hx hb dX6_determinant_238 hl (by decide) rfl (fun ls hl => ?_)
      obtain ⟨n240, hw⟩ := hw
      exact w_X6_determinant_240 _ Post F ih n240 x2 x4 x6 x8 v5 σ _ _ _ hh (lv_sub hl [1, 2, 3, 4, 5, 0] rfl) hw
set_option maxHeartbeats 4000000 in
set_option maxRecDepth 100000 in
theorem w_X6_determinant_143 {p : Program} {l : Launch} {e : Env} {s : State} {m : MethodId} {args : Array Value} {below : List Frame} {meth : Method} {c : Code} {D : va_G} {A : Nat → Prop} {ha : Nat → Nat} {cy : Nat → ClassId} (K_76 : Int64 → Int64 → Int32 → lf_St → Prop) (Post : Int64 → lf_St → Prop) (F : lf_C p s m args meth c RX6 cX6_determinant 11 (some .long) D (tyM_ cy) A) (hK_76 : ∀ (x2 : Int64) (x4 : Int64) (x6 : Int32) (σ : lf_St) (H : Heap) (locs : List Loc) (ls : Array Slot), lf_H D (wM_ ha cy) A s σ H locs → lv_has ls 11 [(0, .ref (ha 0)), (2, .long x2), (4, .long x4), (6, .int x6)] → K_76 x2 x4 x6 σ → W p l e rm_X6_determinant s m args below meth c H locs 0 0 (lf_Ql below args s D (tyM_ cy) A (wM_ ha cy) Post) (F0 m 76 ls [])) : ∀ (n : Nat) (x2 : Int64) (x4 : Int64) (x6 : Int32) (x7 : Int32) (x8 : Int32) (σ : lf_St) (H : Heap) (locs : List Loc) (ls : Array Slot), lf_H D (wM_ ha cy) A s σ H locs → lv_has ls 11 [(0, .ref (ha 0)), (2, .long x2), (4, .long x4), (6, .int x6), (7, .int x7), (8, .int x8)] → L_X6_determinant_143 K_76 Post n x2 x4 x6 x7 x8 σ → W p l e rm_X6_determinant s m args below meth c H locs 0 0 (lf_Ql below args s D (tyM_ cy) A (wM_ ha cy) Post) (F0 m 143 ls []) := by
  have hx := F.1.1
  have hb := F.1.2.1
  intro n
  induction n with
  | zero =>
    intro x2 x4 x6 x7 x8 σ H locs ls hh hl hw
    exact False.elim hw
  | succ n ih =>
    intro x2 x4 x6 x7 x8 σ H locs ls hh hl hw
    unfold L_X6_determinant_143 at hw
    refine lv_iload hx hb dX6_determinant_143 (lv_at hl 5 rfl) ?_
    refine lv_aload_n hx hb dX6_determinant_145 rfl (lv_at hl 0 rfl) ?_
    refine fg_X6_119 F hh dX6_determinant_146 ?_
    refine lv_icmp_ge (tgt := 214) hx hb dX6_determinant_149 (by decide) (fun c1 => ?_) (fun c1 => ?_)
    · have hw := hw.1 c1
      refine lv_lload hx hb dX6_determinant_214 (lv_at hl 2 rfl) ?_
      refine lv_lneg hx hb dX6_determinant_216 ?_
      refine lv_topl (fun v2 ev2 => ?_)
      have hw := hw v2 ev2
      refine lv_lstore (lv' := [(4, .long v2), (0, .ref (ha 0)), (2, .long x2), (6, .int x6), (7, .int x7), (8, .int x8)]) hx hb dX6_determinant_217 hl (by decide) rfl (fun ls hl => ?_)
      refine lv_iload hx hb dX6_determinant_219 (lv_at hl 3 rfl) ?_
      refine lv_iconst (v := 1) hx hb dX6_determinant_221 (by decide) ?_
      refine lv_iadd hx hb dX6_determinant_222 ?_
      refine lv_topi (fun v3 ev3 => ?_)
      have hw := hw v3 ev3
      refine lv_istore (lv' := [(8, .int v3), (4, .long v2), (0, .ref (ha 0)), (2, .long x2), (6, .int x6), (7, .int x7)]) hx hb dX6_determinant_223 hl (by decide) rfl (fun ls hl => ?_)
      obtain ⟨n225, hw⟩ := hw
      exact w_X6_determinant_225 _ Post F hK_76 n225 x2 v2 x6 v3 σ _ _ _ hh (lv_sub hl [2, 3, 1, 4, 0] rfl) hw
    · have hw := hw.2 c1
      refine lv_aload_n hx hb dX6_determinant_152 rfl (lv_at hl 0 rfl) ?_
      refine fg_X6_42 F hh dX6_determinant_153 ?_
      refine lv_bipush (v := 6) hx hb dX6_determinant_156 (by decide) ?_
      refine lv_iload hx hb dX6_determinant_158 (lv_at hl 4 rfl) ?_
      refine lv_imul hx hb dX6_determinant_160 ?_
      refine lv_iload hx hb dX6_determinant_161 (lv_at hl 5 rfl) ?_
      refine lv_iadd hx hb dX6_determinant_163 ?_
      obtain ⟨q4, hw⟩ := hw
      refine ra_M_16 F hh q4 dX6_determinant_164 ?_
      refine lv_topl (fun v5 ev5 => ?_)
      have hw := hw v5 ev5
      refine lv_lstore (lv' := [(9, .long v5), (0, .ref (ha 0)), (2, .long x2), (4, .long x4), (6, .int x6), (7, .int x7), (8, .int x8)]) hx hb dX6_determinant_165 hl (by decide) rfl (fun ls hl => ?_)
      refine lv_aload_n hx hb dX6_determinant_167 rfl (lv_at hl 1 rfl) ?_
      refine fg_X6_42 F hh dX6_determinant_168 ?_
      refine lv_bipush (v := 6) hx hb dX6_determinant_171 (by decide) ?_
      refine lv_iload hx hb dX6_determinant_173 (lv_at hl 5 rfl) ?_
      refine lv_imul hx hb dX6_determinant_175 ?_
      refine lv_iload hx hb dX6_determinant_176 (lv_at hl 6 rfl) ?_
      refine lv_iadd hx hb dX6_determinant_178 ?_
      refine lv_aload_n hx hb dX6_determinant_179 rfl (lv_at hl 1 rfl) ?_
      refine fg_X6_42 F hh dX6_determinant_180 ?_
      refine lv_bipush (v := 6) hx hb dX6_determinant_183 (by decide) ?_
      refine lv_iload hx hb dX6_determinant_185 (lv_at hl 4 rfl) ?_
      refine lv_imul hx hb dX6_determinant_187 ?_
      refine lv_iload hx hb dX6_determinant_188 (lv_at hl 6 rfl) ?_
      refine lv_iadd hx hb dX6_determinant_190 ?_
      obtain ⟨q6, hw⟩ := hw
      refine ra_M_16 F hh q6 dX6_determinant_191 ?_
      obtain ⟨q7, hw⟩ := hw
      refine wa_M_16 F hh q7 dX6_determinant_192 (fun H locs hh => ?_)
      refine lv_aload_n hx hb dX6_determinant_193 rfl (lv_at hl 1 rfl) ?_
      refine fg_X6_42 F hh dX6_determinant_194 ?_
      refine lv_bipush (v := 6) hx hb dX6_determinant_197 (by decide) ?_
      refine lv_iload hx hb dX6_determinant_199 (lv_at hl 4 rfl) ?_
      refine lv_imul hx hb dX6_determinant_201 ?_
      refine lv_iload hx hb dX6_determinant_202 (lv_at hl 6 rfl) ?_
      refine lv_iadd hx hb dX6_determinant_204 ?_
      refine lv_lload hx hb dX6_determinant_205 (lv_at hl 0 rfl) ?_
      obtain ⟨q8, hw⟩ := hw
      refine wa_M_16 F hh q8 dX6_determinant_207 (fun H locs hh => ?_)
      obtain ⟨v9, ev9⟩ : ∃ y : Int32, y = x8 + 1 := ⟨_, rfl⟩
      have hw := hw v9 ev9
      refine lv_iinc (v := v9) (lv' := [(8, .int v9), (9, .long v5), (0, .ref (ha 0)), (2, .long x2), (4, .long x4), (6, .int x6), (7, .int x7)]) hx hb dX6_determinant_208 hl (k := 6) rfl (by rw [ev9]; rfl) (by decide) rfl (fun ls hl => ?_)
      refine lv_goto (tgt := 143) hx hb dX6_determinant_211 (by decide) ?_
      exact ih x2 x4 x6 x7 v9 (lf_sb (lf_sb σ 16 (((6 * x7) + x8) : Int32).toNatClampNeg (lf_al σ 16 (((6 * x6) + x8) : Int32).toNatClampNeg)) 16 (((6 * x6) + x8) : Int32).toNatClampNeg v5) _ _ _ hh (lv_sub hl [2, 3, 4, 5, 6, 0] rfl) hw
set_option maxHeartbeats 4000000 in
set_option maxRecDepth 100000 in
theorem w_X6_determinant_122 {p : Program} {l : Launch} {e : Env} {s : State} {m : MethodId} {args : Array Value} {below : List Frame} {meth : Method} {c : Code} {D : va_G} {A : Nat → Prop} {ha : Nat → Nat} {cy : Nat → ClassId} (K_76 : Int64 → Int64 → Int32 → lf_St → Prop) (Post : Int64 → lf_St → Prop) (F : lf_C p s m args meth c RX6 cX6_determinant 11 (some .long) D (tyM_ cy) A) (hK_76 : ∀ (x2 : Int64) (x4 : Int64) (x6 : Int32) (σ : lf_St) (H : Heap) (locs : List Loc) (ls : Array Slot), lf_H D (wM_ ha cy) A s σ H locs → lv_has ls 11 [(0, .ref (ha 0)), (2, .long x2), (4, .long x4), (6, .int x6)] → K_76 x2 x4 x6 σ → W p l e rm_X6_determinant s m args below meth c H locs 0 0 (lf_Ql below args s D (tyM_ cy) A (wM_ ha cy) Post) (F0 m 76 ls [])) (x2 : Int64) (x4 : Int64) (x6 : Int32) (x7 : Int32) (σ : lf_St) (H : Heap) (locs : List Loc) (ls : Array Slot) (hh : lf_H D (wM_ ha cy) A s σ H locs) (hl : lv_has ls 11 [(0, .ref (ha 0)), (2, .long x2), (4, .long x4), (6, .int x6), (7, .int x7)]) (hw : J_X6_determinant_122 K_76 Post x2 x4 x6 x7 σ) : W p l e rm_X6_determinant s m args below meth c H locs 0 0 (lf_Ql below args s D (tyM_ cy) A (wM_ ha cy) Post) (F0 m 122 ls []) := by
  have hx := F.1.1
  have hb := F.1.2.1
  unfold J_X6_determinant_122 at hw
  refine lv_iload hx hb dX6_determinant_122 (lv_at hl 4 rfl) ?_
  refine lv_aload_n hx hb dX6_determinant_124 rfl (lv_at hl 0 rfl) ?_
  refine fg_X6_119 F hh dX6_determinant_125 ?_
  refine lv_icmp_ne (tgt := 133) hx hb dX6_determinant_128 (by decide) (fun c1 => ?_) (fun c1 => ?_)
  · have hw := hw.1 c1
    refine lv_iload hx hb dX6_determinant_133 (lv_at hl 4 rfl) ?_
    refine lv_iload hx hb dX6_determinant_135 (lv_at hl 3 rfl) ?_
    refine lv_icmp_eq (tgt := 219) hx hb dX6_determinant_137 (by decide) (fun c2 => ?_) (fun c2 => ?_)
    · have hw := hw.1 c2
      refine lv_iload hx hb dX6_determinant_219 (lv_at hl 3 rfl) ?_
      refine lv_iconst (v := 1) hx hb dX6_determinant_221 (by decide) ?_
      refine lv_iadd hx hb dX6_determinant_222 ?_
      refine lv_topi (fun v3 ev3 => ?_)
      have hw := hw v3 ev3
      refine lv_istore (lv' := [(8, .int v3), (0, .ref (ha 0)), (2, .long x2), (4, .long x4), (6, .int x6), (7, .int x7)]) hx hb dX6_determinant_223 hl (by decide) rfl (fun ls hl => ?_)
      obtain ⟨n225, hw⟩ := hw
      exact w_X6_determinant_225 _ Post F hK_76 n225 x2 x4 x6 v3 σ _ _ _ hh (lv_sub hl [1, 2, 3, 4, 0] rfl) hw
    · have hw := hw.2 c2
      refine lv_iconst (v := 0) hx hb dX6_determinant_140 (by decide) ?_
      refine lv_istore (lv' := [(8, .int 0), (0, .ref (ha 0)), (2, .long x2), (4, .long x4), (6, .int x6), (7, .int x7)]) hx hb dX6_determinant_141 hl (by decide) rfl (fun ls hl => ?_)
      obtain ⟨n143, hw⟩ := hw
      exact w_X6_determinant_143 _ Post F hK_76 n143 x2 x4 x6 x7 0 σ _ _ _ hh (lv_sub hl [1, 2, 3, 4, 5, 0] rfl) hw
  · have hw := hw.2 c1
    refine lv_lconst (v := 0) hx hb dX6_determinant_131 (by decide) ?_
    exact lf_retl F hh hw dX6_determinant_132
set_option maxHeartbeats 4000000 in
set_option maxRecDepth 100000 in
theorem w_X6_determinant_89 {p : Program} {l : Launch} {e : Env} {s : State} {m : MethodId} {args : Array Value} {below : List Frame} {meth : Method} {c : Code} {D : va_G} {A : Nat → Prop} {ha : Nat → Nat} {cy : Nat → ClassId} (K_76 : Int64 → Int64 → Int32 → lf_St → Prop) (Post : Int64 → lf_St → Prop) (F : lf_C p s m args meth c RX6 cX6_determinant 11 (some .long) D (tyM_ cy) A) (hK_76 : ∀ (x2 : Int64) (x4 : Int64) (x6 : Int32) (σ : lf_St) (H : Heap) (locs : List Loc) (ls : Array Slot), lf_H D (wM_ ha cy) A s σ H locs → lv_has ls 11 [(0, .ref (ha 0)), (2, .long x2), (4, .long x4), (6, .int x6)] → K_76 x2 x4 x6 σ → W p l e rm_X6_determinant s m args below meth c H locs 0 0 (lf_Ql below args s D (tyM_ cy) A (wM_ ha cy) Post) (F0 m 76 ls [])) : ∀ (n : Nat) (x2 : Int64) (x4 : Int64) (x6 : Int32) (x7 : Int32) (σ : lf_St) (H : Heap) (locs : List Loc) (ls : Array Slot), lf_H D (wM_ ha cy) A s σ H locs → lv_has ls 11 [(0, .ref (ha 0)), (2, .long x2), (4, .long x4), (6, .int x6), (7, .int x7)] → L_X6_determinant_89 K_76 Post n x2 x4 x6 x7 σ → W p l e rm_X6_determinant s m args below meth c H locs 0 0 (lf_Ql below args s D (tyM_ cy) A (wM_ ha cy) Post) (F0 m 89 ls []) := by
  have hx := F.1.1
  have hb := F.1.2.1
  intro n
  induction n with
  | zero =>
    intro x2 x4 x6 x7 σ H locs ls hh hl hw
    exact False.elim hw
  | succ n ih =>
    intro x2 x4 x6 x7 σ H locs ls hh hl hw
    unfold L_X6_determinant_89 at hw
    refine lv_iload hx hb dX6_determinant_89 (lv_at hl 4 rfl) ?_
    refine lv_aload_n hx hb dX6_determinant_91 rfl (lv_at hl 0 rfl) ?_
    refine fg_X6_119 F hh dX6_determinant_92 ?_
    refine lv_icmp_ge (tgt := 122) hx hb dX6_determinant_95 (by decide) (fun c1 => ?_) (fun c1 => ?_)
    · have hw := hw.1 c1
      exact w_X6_determinant_122 _ Post F hK_76 x2 x4 x6 x7 σ _ _ _ hh (lv_sub hl [0, 1, 2, 3, 4] rfl) hw
    · have hw := hw.2 c1
      refine lv_aload_n hx hb dX6_determinant_98 rfl (lv_at hl 0 rfl) ?_
      refine fg_X6_42 F hh dX6_determinant_99 ?_
      refine lv_bipush (v := 6) hx hb dX6_determinant_102 (by decide) ?_
      refine lv_iload hx hb dX6_determinant_104 (lv_at hl 4 rfl) ?_
      refine lv_imul hx hb dX6_determinant_106 ?_
      refine lv_iload hx hb dX6_determinant_107 (lv_at hl 3 rfl) ?_
      refine lv_iadd hx hb dX6_determinant_109 ?_
      obtain ⟨q2, hw⟩ := hw
      refine ra_M_16 F hh q2 dX6_determinant_110 ?_
      refine lv_lconst (v := 0) hx hb dX6_determinant_111 (by decide) ?_
      refine lf_lcmp_ne (tgt := 122) hx hb dX6_determinant_112 dX6_determinant_113 (by decide) (fun c3 => ?_) (fun c3 => ?_)
      · have hw := hw.1 c3
        exact w_X6_determinant_122 _ Post F hK_76 x2 x4 x6 x7 σ _ _ _ hh (lv_sub hl [0, 1, 2, 3, 4] rfl) hw
      · have hw := hw.2 c3
        obtain ⟨v4, ev4⟩ : ∃ y : Int32, y = x7 + 1 := ⟨_, rfl⟩
        have hw := hw v4 ev4
        refine lv_iinc (v := v4) (lv' := [(7, .int v4), (0, .ref (ha 0)), (2, .long x2), (4, .long x4), (6, .int x6)]) hx hb dX6_determinant_116 hl (k := 4) rfl (by rw [ev4]; rfl) (by decide) rfl (fun ls hl => ?_)
        refine lv_goto (tgt := 89) hx hb dX6_determinant_119 (by decide) ?_
        exact ih x2 x4 x6 v4 σ _ _ _ hh (lv_sub hl [1, 2, 3, 4, 0] rfl) hw
set_option maxHeartbeats 4000000 in
set_option maxRecDepth 100000 in
theorem w_X6_determinant_76 {p : Program} {l : Launch} {e : Env} {s : State} {m : MethodId} {args : Array Value} {below : List Frame} {meth : Method} {c : Code} {D : va_G} {A : Nat → Prop} {ha : Nat → Nat} {cy : Nat → ClassId} (Post : Int64 → lf_St → Prop) (F : lf_C p s m args meth c RX6 cX6_determinant 11 (some .long) D (tyM_ cy) A) : ∀ (n : Nat) (x2 : Int64) (x4 : Int64) (x6 : Int32) (σ : lf_St) (H : Heap) (locs : List Loc) (ls : Array Slot), lf_H D (wM_ ha cy) A s σ H locs → lv_has ls 11 [(0, .ref (ha 0)), (2, .long x2), (4, .long x4), (6, .int x6)] → L_X6_determinant_76 Post n x2 x4 x6 σ → W p l e rm_X6_determinant s m args below meth c H locs 0 0 (lf_Ql below args s D (tyM_ cy) A (wM_ ha cy) Post) (F0 m 76 ls []) := by
  have hx := F.1.1
  have hb := F.1.2.1
  intro n
  induction n with
  | zero =>
    intro x2 x4 x6 σ H locs ls hh hl hw
    exact False.elim hw
  | succ n ih =>
    intro x2 x4 x6 σ H locs ls hh hl hw
    unfold L_X6_determinant_76 at hw
    refine lv_iload hx hb dX6_determinant_76 (lv_at hl 3 rfl) ?_
    refine lv_aload_n hx hb dX6_determinant_78 rfl (lv_at hl 0 rfl) ?_
    refine fg_X6_119 F hh dX6_determinant_79 ?_
    refine lv_icmp_ge (tgt := 351) hx hb dX6_determinant_82 (by decide) (fun c1 => ?_) (fun c1 => ?_)
    · have hw := hw.1 c1
      refine lv_lload hx hb dX6_determinant_351 (lv_at hl 2 rfl) ?_
      refine lv_lload_n hx hb dX6_determinant_353 rfl (lv_at hl 1 rfl) ?_
      refine lv_lmul hx hb dX6_determinant_354 ?_
      exact lf_retl F hh hw dX6_determinant_355
    · have hw := hw.2 c1
      refine lv_iload hx hb dX6_determinant_85 (lv_at hl 3 rfl) ?_
      refine lv_istore (lv' := [(7, .int x6), (0, .ref (ha 0)), (2, .long x2), (4, .long x4), (6, .int x6)]) hx hb dX6_determinant_87 hl (by decide) rfl (fun ls hl => ?_)
      obtain ⟨n89, hw⟩ := hw
      exact w_X6_determinant_89 _ Post F ih n89 x2 x4 x6 x6 σ _ _ _ hh (lv_sub hl [1, 2, 3, 4, 0] rfl) hw
set_option maxHeartbeats 4000000 in
set_option maxRecDepth 100000 in
theorem w_X6_determinant_12 {p : Program} {l : Launch} {e : Env} {s : State} {m : MethodId} {args : Array Value} {below : List Frame} {meth : Method} {c : Code} {D : va_G} {A : Nat → Prop} {ha : Nat → Nat} {cy : Nat → ClassId} (K_2 : Int32 → Int32 → lf_St → Prop) (Post : Int64 → lf_St → Prop) (F : lf_C p s m args meth c RX6 cX6_determinant 11 (some .long) D (tyM_ cy) A) (hK_2 : ∀ (x1 : Int32) (x2 : Int32) (σ : lf_St) (H : Heap) (locs : List Loc) (ls : Array Slot), lf_H D (wM_ ha cy) A s σ H locs → lv_has ls 11 [(0, .ref (ha 0)), (1, .int x1), (2, .int x2)] → K_2 x1 x2 σ → W p l e rm_X6_determinant s m args below meth c H locs 0 0 (lf_Ql below args s D (tyM_ cy) A (wM_ ha cy) Post) (F0 m 2 ls [])) : ∀ (n : Nat) (x1 : Int32) (x2 : Int32) (x3 : Int32) (σ : lf_St) (H : Heap) (locs : List Loc) (ls : Array Slot), lf_H D (wM_ ha cy) A s σ H locs → lv_has ls 11 [(0, .ref (ha 0)), (1, .int x1), (2, .int x2), (3, .int x3)] → L_X6_determinant_12 K_2 Post n x1 x2 x3 σ → W p l e rm_X6_determinant s m args below meth c H locs 0 0 (lf_Ql below args s D (tyM_ cy) A (wM_ ha cy) Post) (F0 m 12 ls []) := by
  have hx := F.1.1
  have hb := F.1.2.1
  intro n
  induction n with
  | zero =>
    intro x1 x2 x3 σ H locs ls hh hl hw
    exact False.elim hw
  | succ n ih =>
    intro x1 x2 x3 σ H locs ls hh hl hw
    unfold L_X6_determinant_12 at hw
    refine lv_iload_n hx hb dX6_determinant_12 rfl (lv_at hl 3 rfl) ?_
    refine lv_aload_n hx hb dX6_determinant_13 rfl (lv_at hl 0 rfl) ?_
    refine fg_X6_119 F hh dX6_determinant_14 ?_
    refine lv_icmp_ge (tgt := 62) hx hb dX6_determinant_17 (by decide) (fun c1 => ?_) (fun c1 => ?_)
    · have hw := hw.1 c1
      obtain ⟨v2, ev2⟩ : ∃ y : Int32, y = x2 + 1 := ⟨_, rfl⟩
      have hw := hw v2 ev2
      refine lv_iinc (v := v2) (lv' := [(2, .int v2), (0, .ref (ha 0)), (1, .int x1), (3, .int x3)]) hx hb dX6_determinant_62 hl (k := 2) rfl (by rw [ev2]; rfl) (by decide) rfl (fun ls hl => ?_)
      refine lv_goto (tgt := 2) hx hb dX6_determinant_65 (by decide) ?_
      exact hK_2 x1 v2 σ _ _ _ hh (lv_sub hl [1, 2, 0] rfl) hw
    · have hw := hw.2 c1
      refine lv_aload_n hx hb dX6_determinant_20 rfl (lv_at hl 0 rfl) ?_
      refine fg_X6_42 F hh dX6_determinant_21 ?_
      refine lv_bipush (v := 6) hx hb dX6_determinant_24 (by decide) ?_
      refine lv_iload_n hx hb dX6_determinant_26 rfl (lv_at hl 2 rfl) ?_
      refine lv_imul hx hb dX6_determinant_27 ?_
      refine lv_iload_n hx hb dX6_determinant_28 rfl (lv_at hl 3 rfl) ?_
      refine lv_iadd hx hb dX6_determinant_29 ?_
      refine lv_iload_n hx hb dX6_determinant_30 rfl (lv_at hl 3 rfl) ?_
      refine lv_iload_n hx hb dX6_determinant_31 rfl (lv_at hl 1 rfl) ?_
      refine lv_icmp_ne (tgt := 44) hx hb dX6_determinant_32 (by decide) (fun c3 => ?_) (fun c3 => ?_)
      · have hw := hw.1 c3
        refine lv_aload_n hx hb dX6_determinant_44 rfl (lv_at hl 0 rfl) ?_
        refine fg_X6_38 F hh dX6_determinant_45 ?_
        refine lv_bipush (v := 6) hx hb dX6_determinant_48 (by decide) ?_
        refine lv_iload_n hx hb dX6_determinant_50 rfl (lv_at hl 2 rfl) ?_
        refine lv_imul hx hb dX6_determinant_51 ?_
        refine lv_iload_n hx hb dX6_determinant_52 rfl (lv_at hl 3 rfl) ?_
        refine lv_iadd hx hb dX6_determinant_53 ?_
        obtain ⟨q4, hw⟩ := hw
        refine ra_M_15 F hh q4 dX6_determinant_54 ?_
        obtain ⟨q5, hw⟩ := hw
        refine wa_M_16 F hh q5 dX6_determinant_55 (fun H locs hh => ?_)
        obtain ⟨v6, ev6⟩ : ∃ y : Int32, y = x3 + 1 := ⟨_, rfl⟩
        have hw := hw v6 ev6
        refine lv_iinc (v := v6) (lv' := [(3, .int v6), (0, .ref (ha 0)), (1, .int x1), (2, .int x2)]) hx hb dX6_determinant_56 hl (k := 3) rfl (by rw [ev6]; rfl) (by decide) rfl (fun ls hl => ?_)
        refine lv_goto (tgt := 12) hx hb dX6_determinant_59 (by decide) ?_
        exact ih x1 x2 v6 (lf_sb σ 16 (((6 * x2) + x3) : Int32).toNatClampNeg (lf_al σ 15 (((6 * x2) + x3) : Int32).toNatClampNeg)) _ _ _ hh (lv_sub hl [1, 2, 3, 0] rfl) hw
      · have hw := hw.2 c3
        refine lv_aload_n hx hb dX6_determinant_35 rfl (lv_at hl 0 rfl) ?_
        refine fg_X6_45 F hh dX6_determinant_36 ?_
        refine lv_iload_n hx hb dX6_determinant_39 rfl (lv_at hl 2 rfl) ?_
        obtain ⟨q7, hw⟩ := hw
        refine ra_M_17 F hh q7 dX6_determinant_40 ?_
        refine lv_goto (tgt := 55) hx hb dX6_determinant_41 (by decide) ?_
        obtain ⟨q8, hw⟩ := hw
        refine wa_M_16 F hh q8 dX6_determinant_55 (fun H locs hh => ?_)
        obtain ⟨v9, ev9⟩ : ∃ y : Int32, y = x3 + 1 := ⟨_, rfl⟩
        have hw := hw v9 ev9
        refine lv_iinc (v := v9) (lv' := [(3, .int v9), (0, .ref (ha 0)), (1, .int x1), (2, .int x2)]) hx hb dX6_determinant_56 hl (k := 3) rfl (by rw [ev9]; rfl) (by decide) rfl (fun ls hl => ?_)
        refine lv_goto (tgt := 12) hx hb dX6_determinant_59 (by decide) ?_
        exact ih x1 x2 v9 (lf_sb σ 16 (((6 * x2) + x3) : Int32).toNatClampNeg (lf_al σ 17 x2.toNatClampNeg)) _ _ _ hh (lv_sub hl [1, 2, 3, 0] rfl) hw
set_option maxHeartbeats 4000000 in
set_option maxRecDepth 100000 in
theorem w_X6_determinant_2 {p : Program} {l : Launch} {e : Env} {s : State} {m : MethodId} {args : Array Value} {below : List Frame} {meth : Method} {c : Code} {D : va_G} {A : Nat → Prop} {ha : Nat → Nat} {cy : Nat → ClassId} (Post : Int64 → lf_St → Prop) (F : lf_C p s m args meth c RX6 cX6_determinant 11 (some .long) D (tyM_ cy) A) : ∀ (n : Nat) (x1 : Int32) (x2 : Int32) (σ : lf_St) (H : Heap) (locs : List Loc) (ls : Array Slot), lf_H D (wM_ ha cy) A s σ H locs → lv_has ls 11 [(0, .ref (ha 0)), (1, .int x1), (2, .int x2)] → L_X6_determinant_2 Post n x1 x2 σ → W p l e rm_X6_determinant s m args below meth c H locs 0 0 (lf_Ql below args s D (tyM_ cy) A (wM_ ha cy) Post) (F0 m 2 ls []) := by
  have hx := F.1.1
  have hb := F.1.2.1
  intro n
  induction n with
  | zero =>
    intro x1 x2 σ H locs ls hh hl hw
    exact False.elim hw
  | succ n ih =>
    intro x1 x2 σ H locs ls hh hl hw
    unfold L_X6_determinant_2 at hw
    refine lv_iload_n hx hb dX6_determinant_2 rfl (lv_at hl 2 rfl) ?_
    refine lv_aload_n hx hb dX6_determinant_3 rfl (lv_at hl 0 rfl) ?_
    refine fg_X6_119 F hh dX6_determinant_4 ?_
    refine lv_icmp_ge (tgt := 68) hx hb dX6_determinant_7 (by decide) (fun c1 => ?_) (fun c1 => ?_)
    · have hw := hw.1 c1
      refine lv_lconst (v := 1) hx hb dX6_determinant_68 (by decide) ?_
      refine lv_lstore_n (lv' := [(2, .long 1), (0, .ref (ha 0)), (1, .int x1)]) hx hb dX6_determinant_69 rfl hl (by decide) rfl (fun ls hl => ?_)
      refine lv_lconst (v := 1) hx hb dX6_determinant_70 (by decide) ?_
      refine lv_lstore (lv' := [(4, .long 1), (2, .long 1), (0, .ref (ha 0)), (1, .int x1)]) hx hb dX6_determinant_71 hl (by decide) rfl (fun ls hl => ?_)
      refine lv_iconst (v := 0) hx hb dX6_determinant_73 (by decide) ?_
      refine lv_istore (lv' := [(6, .int 0), (4, .long 1), (2, .long 1), (0, .ref (ha 0)), (1, .int x1)]) hx hb dX6_determinant_74 hl (by decide) rfl (fun ls hl => ?_)
      obtain ⟨n76, hw⟩ := hw
      exact w_X6_determinant_76 Post F  n76 1 1 0 σ _ _ _ hh (lv_sub hl [3, 2, 1, 0] rfl) hw
    · have hw := hw.2 c1
      refine lv_iconst (v := 0) hx hb dX6_determinant_10 (by decide) ?_
      refine lv_istore_n (lv' := [(3, .int 0), (0, .ref (ha 0)), (1, .int x1), (2, .int x2)]) hx hb dX6_determinant_11 rfl hl (by decide) rfl (fun ls hl => ?_)
      obtain ⟨n12, hw⟩ := hw
      exact w_X6_determinant_12 _ Post F ih n12 x1 x2 0 σ _ _ _ hh (lv_sub hl [1, 2, 3, 0] rfl) hw
set_option maxHeartbeats 4000000 in
set_option maxRecDepth 100000 in
theorem c_X6_determinant (l : Launch) (D : va_G) (ha : Nat → Nat) (cy : Nat → ClassId) (sz : Nat) (σ : lf_St) (x1 : Int32) (Post : Int64 → lf_St → Prop) (hw : wp_X6_determinant x1 σ Post) : lf_Ml l yX6_determinant (lf_ws yX6_determinant cX6_determinant 11 (some .long)) rm_X6_determinant D (tyM_ cy) (wM_ ha cy) sz σ [.ref (ha 0), .int x1] Post := by
  refine lf_ofl (by decide +kernel) (Nat.le_of_ble_eq_true rfl) ?_
  intro p e s m args below meth c A ls F hh hl
  have hx := F.1.1
  have hb := F.1.2.1
  have hl : lv_has ls 11 [(0, .ref (ha 0)), (1, .int x1)] := hl
  obtain ⟨H, hHe⟩ : ∃ H, H = s.heap := ⟨_, rfl⟩
  rw [← hHe] at hh ⊢
  unfold wp_X6_determinant at hw
  refine lv_iconst (v := 0) hx hb dX6_determinant_0 (by decide) ?_
  refine lv_istore_n (lv' := [(2, .int 0), (0, .ref (ha 0)), (1, .int x1)]) hx hb dX6_determinant_1 rfl hl (by decide) rfl (fun ls hl => ?_)
  obtain ⟨n2, hw⟩ := hw
  exact w_X6_determinant_2 Post F  n2 x1 0 σ _ _ _ hh (lv_sub hl [1, 2, 0] rfl) hw
def J_X6_layRows_38 (K_7 : Int32 → lf_St → Prop) (Post : lf_St → Prop) (x1 : Int32) (t0 : Int32) (t1 : Int32) (σ : lf_St) : Prop := vp_in t1 6 ∧ (∀ σ2 : lf_St, σ2 = (lf_sa σ 13 t1.toNatClampNeg t0) → (vp_in x1 6 ∧ ((((lf_ai σ2 3 x1.toNatClampNeg) = 0) → (∀ v5 : Int32, v5 = x1 + 1 → (K_7 v5 (lf_si σ2 14 ((lf_gi σ2 14) + 2))))) ∧ ((¬ ((lf_ai σ2 3 x1.toNatClampNeg) = 0)) → (∀ v6 : Int32, v6 = x1 + 1 → (K_7 v6 (lf_si σ2 14 ((lf_gi σ2 14) + 0))))))))
def L_X6_layRows_7 (Post : lf_St → Prop) : Nat → Int32 → lf_St → Prop
  | 0, _, _ => False
  | n + 1, x1, σ => (((lf_gi σ 0) ≤ x1) → (Post σ)) ∧ ((¬ ((lf_gi σ 0) ≤ x1)) → (vp_in x1 6 ∧ ((((lf_ai σ 3 x1.toNatClampNeg) = 0) → (J_X6_layRows_38 (L_X6_layRows_7 Post n) Post x1 (lf_gi σ 14) x1 σ)) ∧ ((¬ ((lf_ai σ 3 x1.toNatClampNeg) = 0)) → (J_X6_layRows_38 (L_X6_layRows_7 Post n) Post x1 (-6) x1 σ)))))
def wp_X6_layRows (σ : lf_St) (Post : lf_St → Prop) : Prop := ∃ fu : Nat, L_X6_layRows_7 Post fu 0 (lf_si σ 14 0)
def rm_X6_layRows : Room := ({ frames := 0, cells := 0, slots := 0, locals := 0 } : Room)
set_option maxHeartbeats 4000000 in
set_option maxRecDepth 100000 in
theorem w_X6_layRows_38 {p : Program} {l : Launch} {e : Env} {s : State} {m : MethodId} {args : Array Value} {below : List Frame} {meth : Method} {c : Code} {D : va_G} {A : Nat → Prop} {ha : Nat → Nat} {cy : Nat → ClassId} (K_7 : Int32 → lf_St → Prop) (Post : lf_St → Prop) (F : lf_C p s m args meth c RX6 cX6_layRows 2 none D (tyM_ cy) A) (hK_7 : ∀ (x1 : Int32) (σ : lf_St) (H : Heap) (locs : List Loc) (ls : Array Slot), lf_H D (wM_ ha cy) A s σ H locs → lv_has ls 2 [(0, .ref (ha 0)), (1, .int x1)] → K_7 x1 σ → W p l e rm_X6_layRows s m args below meth c H locs 0 0 (lf_Qv below args s D (tyM_ cy) A (wM_ ha cy) Post) (F0 m 7 ls [])) (x1 : Int32) (t0 : Int32) (t1 : Int32) (σ : lf_St) (H : Heap) (locs : List Loc) (ls : Array Slot) (hh : lf_H D (wM_ ha cy) A s σ H locs) (hl : lv_has ls 2 [(0, .ref (ha 0)), (1, .int x1)]) (hw : J_X6_layRows_38 K_7 Post x1 t0 t1 σ) : W p l e rm_X6_layRows s m args below meth c H locs 0 0 (lf_Qv below args s D (tyM_ cy) A (wM_ ha cy) Post) (F0 m 38 ls [.int t0, .int t1, .ref (ha 13)]) := by
  have hx := F.1.1
  have hb := F.1.2.1
  unfold J_X6_layRows_38 at hw
  obtain ⟨q1, hw⟩ := hw
  refine wa_M_13 F hh q1 dX6_layRows_38 (fun H locs hh => ?_)
  refine lv_aload_n hx hb dX6_layRows_39 rfl (lv_at hl 0 rfl) ?_
  refine lv_dup hx hb dX6_layRows_40 rfl ?_
  obtain ⟨σ2, eσ2⟩ : ∃ z : lf_St, z = (lf_sa σ 13 t1.toNatClampNeg t0) := ⟨_, rfl⟩
  rw [← eσ2] at hh
  have hw := hw σ2 eσ2
  refine fg_X6_119 F hh dX6_layRows_41 ?_
  refine lv_aload_n hx hb dX6_layRows_44 rfl (lv_at hl 0 rfl) ?_
  refine fg_X6_16 F hh dX6_layRows_45 ?_
  refine lv_iload_n hx hb dX6_layRows_48 rfl (lv_at hl 1 rfl) ?_
  obtain ⟨q3, hw⟩ := hw
  refine ra_M_3 F hh q3 dX6_layRows_49 ?_
  refine lv_if_eq (tgt := 57) hx hb dX6_layRows_50 (by decide) (fun c4 => ?_) (fun c4 => ?_)
  · have hw := hw.1 c4
    refine lv_iconst (v := 2) hx hb dX6_layRows_57 (by decide) ?_
    refine lv_iadd hx hb dX6_layRows_58 ?_
    refine fp_X6_119 F hh dX6_layRows_59 (fun H locs hh => ?_)
    obtain ⟨v5, ev5⟩ : ∃ y : Int32, y = x1 + 1 := ⟨_, rfl⟩
    have hw := hw v5 ev5
    refine lv_iinc (v := v5) (lv' := [(1, .int v5), (0, .ref (ha 0))]) hx hb dX6_layRows_62 hl (k := 1) rfl (by rw [ev5]; rfl) (by decide) rfl (fun ls hl => ?_)
    refine lv_goto (tgt := 7) hx hb dX6_layRows_65 (by decide) ?_
    exact hK_7 v5 (lf_si σ2 14 ((lf_gi σ2 14) + 2)) _ _ _ hh (lv_sub hl [1, 0] rfl) hw
  · have hw := hw.2 c4
    refine lv_iconst (v := 0) hx hb dX6_layRows_53 (by decide) ?_
    refine lv_goto (tgt := 58) hx hb dX6_layRows_54 (by decide) ?_
    refine lv_iadd hx hb dX6_layRows_58 ?_
    refine fp_X6_119 F hh dX6_layRows_59 (fun H locs hh => ?_)
    obtain ⟨v6, ev6⟩ : ∃ y : Int32, y = x1 + 1 := ⟨_, rfl⟩
    have hw := hw v6 ev6
    refine lv_iinc (v := v6) (lv' := [(1, .int v6), (0, .ref (ha 0))]) hx hb dX6_layRows_62 hl (k := 1) rfl (by rw [ev6]; rfl) (by decide) rfl (fun ls hl => ?_)
    refine lv_goto (tgt := 7) hx hb dX6_layRows_65 (by decide) ?_
    exact hK_7 v6 (lf_si σ2 14 ((lf_gi σ2 14) + 0)) _ _ _ hh (lv_sub hl [1, 0] rfl) hw
set_option maxHeartbeats 4000000 in
set_option maxRecDepth 100000 in
theorem w_X6_layRows_7 {p : Program} {l : Launch} {e : Env} {s : State} {m : MethodId} {args : Array Value} {below : List Frame} {meth : Method} {c : Code} {D : va_G} {A : Nat → Prop} {ha : Nat → Nat} {cy : Nat → ClassId} (Post : lf_St → Prop) (F : lf_C p s m args meth c RX6 cX6_layRows 2 none D (tyM_ cy) A) : ∀ (n : Nat) (x1 : Int32) (σ : lf_St) (H : Heap) (locs : List Loc) (ls : Array Slot), lf_H D (wM_ ha cy) A s σ H locs → lv_has ls 2 [(0, .ref (ha 0)), (1, .int x1)] → L_X6_layRows_7 Post n x1 σ → W p l e rm_X6_layRows s m args below meth c H locs 0 0 (lf_Qv below args s D (tyM_ cy) A (wM_ ha cy) Post) (F0 m 7 ls []) := by
  have hx := F.1.1
  have hb := F.1.2.1
  intro n
  induction n with
  | zero =>
    intro x1 σ H locs ls hh hl hw
    exact False.elim hw
  | succ n ih =>
    intro x1 σ H locs ls hh hl hw
    unfold L_X6_layRows_7 at hw
    refine lv_iload_n hx hb dX6_layRows_7 rfl (lv_at hl 1 rfl) ?_
    refine lv_aload_n hx hb dX6_layRows_8 rfl (lv_at hl 0 rfl) ?_
    refine fg_X6_57 F hh dX6_layRows_9 ?_
    refine lv_icmp_ge (tgt := 68) hx hb dX6_layRows_12 (by decide) (fun c1 => ?_) (fun c1 => ?_)
    · have hw := hw.1 c1
      exact lf_retv F hh hw dX6_layRows_68
    · have hw := hw.2 c1
      refine lv_aload_n hx hb dX6_layRows_15 rfl (lv_at hl 0 rfl) ?_
      refine fg_X6_35 F hh dX6_layRows_16 ?_
      refine lv_iload_n hx hb dX6_layRows_19 rfl (lv_at hl 1 rfl) ?_
      refine lv_aload_n hx hb dX6_layRows_20 rfl (lv_at hl 0 rfl) ?_
      refine fg_X6_16 F hh dX6_layRows_21 ?_
      refine lv_iload_n hx hb dX6_layRows_24 rfl (lv_at hl 1 rfl) ?_
      obtain ⟨q2, hw⟩ := hw
      refine ra_M_3 F hh q2 dX6_layRows_25 ?_
      refine lv_if_eq (tgt := 34) hx hb dX6_layRows_26 (by decide) (fun c3 => ?_) (fun c3 => ?_)
      · have hw := hw.1 c3
        refine lv_aload_n hx hb dX6_layRows_34 rfl (lv_at hl 0 rfl) ?_
        refine fg_X6_119 F hh dX6_layRows_35 ?_
        exact w_X6_layRows_38 _ Post F ih x1 (lf_gi σ 14) x1 σ _ _ _ hh (lv_sub hl [0, 1] rfl) hw
      · have hw := hw.2 c3
        refine lv_bipush (v := (-6)) hx hb dX6_layRows_29 (by decide) ?_
        refine lv_goto (tgt := 38) hx hb dX6_layRows_31 (by decide) ?_
        exact w_X6_layRows_38 _ Post F ih x1 (-6) x1 σ _ _ _ hh (lv_sub hl [0, 1] rfl) hw
set_option maxHeartbeats 4000000 in
set_option maxRecDepth 100000 in
theorem c_X6_layRows (l : Launch) (D : va_G) (ha : Nat → Nat) (cy : Nat → ClassId) (sz : Nat) (σ : lf_St) (Post : lf_St → Prop) (hw : wp_X6_layRows σ Post) : lf_Mv l yX6_layRows (lf_ws yX6_layRows cX6_layRows 2 none) rm_X6_layRows D (tyM_ cy) (wM_ ha cy) sz σ [.ref (ha 0)] Post := by
  refine lf_ofv (by decide +kernel) (Nat.le_of_ble_eq_true rfl) ?_
  intro p e s m args below meth c A ls F hh hl
  have hx := F.1.1
  have hb := F.1.2.1
  have hl : lv_has ls 2 [(0, .ref (ha 0))] := hl
  obtain ⟨H, hHe⟩ : ∃ H, H = s.heap := ⟨_, rfl⟩
  rw [← hHe] at hh ⊢
  unfold wp_X6_layRows at hw
  refine lv_aload_n hx hb dX6_layRows_0 rfl (lv_at hl 0 rfl) ?_
  refine lv_iconst (v := 0) hx hb dX6_layRows_1 (by decide) ?_
  refine fp_X6_119 F hh dX6_layRows_2 (fun H locs hh => ?_)
  refine lv_iconst (v := 0) hx hb dX6_layRows_5 (by decide) ?_
  refine lv_istore_n (lv' := [(1, .int 0), (0, .ref (ha 0))]) hx hb dX6_layRows_6 rfl hl (by decide) rfl (fun ls hl => ?_)
  obtain ⟨n7, hw⟩ := hw
  exact w_X6_layRows_7 Post F  n7 0 (lf_si σ 14 0) _ _ _ hh (lv_sub hl [1, 0] rfl) hw
def wp_X6_put (x1 : Int32) (x2 : Int32) (x3 : Int64) (σ : lf_St) (Post : lf_St → Prop) : Prop := vp_in ((6 * x1) + x2) 36 ∧ (Post (lf_sb σ 15 (((6 * x1) + x2) : Int32).toNatClampNeg x3))
def rm_X6_put : Room := ({ frames := 0, cells := 0, slots := 0, locals := 0 } : Room)
set_option maxHeartbeats 4000000 in
set_option maxRecDepth 100000 in
theorem c_X6_put (l : Launch) (D : va_G) (ha : Nat → Nat) (cy : Nat → ClassId) (sz : Nat) (σ : lf_St) (x1 : Int32) (x2 : Int32) (x3 : Int64) (Post : lf_St → Prop) (hw : wp_X6_put x1 x2 x3 σ Post) : lf_Mv l yX6_put (lf_ws yX6_put cX6_put 5 none) rm_X6_put D (tyM_ cy) (wM_ ha cy) sz σ [.ref (ha 0), .int x1, .int x2, .long x3] Post := by
  refine lf_ofv (by decide +kernel) (Nat.le_of_ble_eq_true rfl) ?_
  intro p e s m args below meth c A ls F hh hl
  have hx := F.1.1
  have hb := F.1.2.1
  have hl : lv_has ls 5 [(0, .ref (ha 0)), (1, .int x1), (2, .int x2), (3, .long x3)] := hl
  obtain ⟨H, hHe⟩ : ∃ H, H = s.heap := ⟨_, rfl⟩
  rw [← hHe] at hh ⊢
  unfold wp_X6_put at hw
  refine lv_aload_n hx hb dX6_put_0 rfl (lv_at hl 0 rfl) ?_
  refine fg_X6_38 F hh dX6_put_1 ?_
  refine lv_bipush (v := 6) hx hb dX6_put_4 (by decide) ?_
  refine lv_iload_n hx hb dX6_put_6 rfl (lv_at hl 1 rfl) ?_
  refine lv_imul hx hb dX6_put_7 ?_
  refine lv_iload_n hx hb dX6_put_8 rfl (lv_at hl 2 rfl) ?_
  refine lv_iadd hx hb dX6_put_9 ?_
  refine lv_lload_n hx hb dX6_put_10 rfl (lv_at hl 3 rfl) ?_
  obtain ⟨q1, hw⟩ := hw
  refine wa_M_15 F hh q1 dX6_put_11 (fun H locs hh => ?_)
  exact lf_retv F hh hw dX6_put_12
theorem cw_X6_122 {R : Room} {s : State} {args : Array Value} (ht : ∀ w ∈ wsL_law, w.before args s = true) (hR : rm_X6_put.frames + 1 ≤ R.frames ∧ 8 + (5 + 11) + rm_X6_put.locals ≤ R.locals) : lf_cV R s args RX6 RX6 122 yX6_put cX6_put 5 none rm_X6_put 3 :=
  lf_cV_of 3 ht (lr_21 _ (List.mem_of_getElem? (i := 5) rfl)) (lr_21 _ (List.mem_of_getElem? (i := 2) rfl)) (lr_21 _ (List.mem_of_getElem? (i := 3) rfl)) (lr_21 _ (List.mem_of_getElem? (i := 4) rfl)) (lr_1 _ (List.mem_of_getElem? (i := 5) rfl)) rfl rfl (by decide +kernel) hR
def L_X6_layCells_185 (Post : lf_St → Prop) : Nat → Int32 → lf_St → Prop
  | 0, _, _ => False
  | n + 1, x1, σ => (((lf_gi σ 0) ≤ x1) → (Post σ)) ∧ ((¬ ((lf_gi σ 0) ≤ x1)) → (vp_in x1 6 ∧ ((((lf_ai σ 13 x1.toNatClampNeg) < 0) → (∀ v4 : Int32, v4 = x1 + 1 → (L_X6_layCells_185 Post n v4 σ))) ∧ ((¬ ((lf_ai σ 13 x1.toNatClampNeg) < 0)) → (vp_in x1 6 ∧ (vp_in x1 6 ∧ (vp_in (lf_ai σ 13 x1.toNatClampNeg) 6 ∧ (∀ σ8 : lf_St, σ8 = (lf_sb σ 17 ((lf_ai σ 13 x1.toNatClampNeg) : Int32).toNatClampNeg (((-(lf_ai σ 4 x1.toNatClampNeg)) : Int32).toInt64)) → vp_in x1 6 ∧ (vp_in x1 6 ∧ (vp_in ((lf_ai σ8 13 x1.toNatClampNeg) + 1) 6 ∧ (∀ v12 : Int32, v12 = x1 + 1 → (L_X6_layCells_185 Post n v12 (lf_sb σ8 17 (((lf_ai σ8 13 x1.toNatClampNeg) + 1) : Int32).toNatClampNeg (((-(lf_ai σ8 5 x1.toNatClampNeg)) : Int32).toInt64))))))))))))))
def J_X6_layCells_116 (K_23 : Int32 → lf_St → Prop) (Post : lf_St → Prop) (x1 : Int32) (x2 : Int32) (x3 : Int32) (σ : lf_St) : Prop := vp_in x3 6 ∧ ((((lf_ai σ 13 x3.toNatClampNeg) < 0) → (∀ v3 : Int32, v3 = x1 + 1 → (K_23 v3 σ))) ∧ ((¬ ((lf_ai σ 13 x3.toNatClampNeg) < 0)) → (vp_in x3 6 ∧ (vp_in x2 6 ∧ (vp_in x3 6 ∧ (wp_X6_put (lf_ai σ 13 x3.toNatClampNeg) x1 ((((lf_ai σ 1 x2.toNatClampNeg) - (lf_ai σ 1 x3.toNatClampNeg)) : Int32).toInt64) σ (fun σ7 => vp_in x3 6 ∧ (vp_in x2 6 ∧ (vp_in x3 6 ∧ (wp_X6_put ((lf_ai σ7 13 x3.toNatClampNeg) + 1) x1 ((((lf_ai σ7 2 x2.toNatClampNeg) - (lf_ai σ7 2 x3.toNatClampNeg)) : Int32).toInt64) σ7 (fun σ11 => ∀ v12 : Int32, v12 = x1 + 1 → (K_23 v12 σ11))))))))))))
def L_X6_layCells_23 (Post : lf_St → Prop) : Nat → Int32 → lf_St → Prop
  | 0, _, _ => False
  | n + 1, x1, σ => (((lf_gi σ 14) ≤ x1) → (∃ fu : Nat, L_X6_layCells_185 Post fu 0 σ)) ∧ ((¬ ((lf_gi σ 14) ≤ x1)) → (vp_in x1 6 ∧ (vp_in (lf_ai σ 19 x1.toNatClampNeg) 10 ∧ (∀ v4 : Int32, v4 = (lf_ai σ 7 ((lf_ai σ 19 x1.toNatClampNeg) : Int32).toNatClampNeg) → (vp_in x1 6 ∧ (vp_in (lf_ai σ 19 x1.toNatClampNeg) 10 ∧ (∀ v7 : Int32, v7 = (lf_ai σ 8 ((lf_ai σ 19 x1.toNatClampNeg) : Int32).toNatClampNeg) → (vp_in v4 6 ∧ ((((lf_ai σ 13 v4.toNatClampNeg) < 0) → (J_X6_layCells_116 (L_X6_layCells_23 Post n) Post x1 v4 v7 σ)) ∧ ((¬ ((lf_ai σ 13 v4.toNatClampNeg) < 0)) → (vp_in v4 6 ∧ (vp_in v7 6 ∧ (vp_in v4 6 ∧ (wp_X6_put (lf_ai σ 13 v4.toNatClampNeg) x1 ((((lf_ai σ 1 v7.toNatClampNeg) - (lf_ai σ 1 v4.toNatClampNeg)) : Int32).toInt64) σ (fun σ13 => vp_in v4 6 ∧ (vp_in v7 6 ∧ (vp_in v4 6 ∧ (wp_X6_put ((lf_ai σ13 13 v4.toNatClampNeg) + 1) x1 ((((lf_ai σ13 2 v7.toNatClampNeg) - (lf_ai σ13 2 v4.toNatClampNeg)) : Int32).toInt64) σ13 (fun σ17 => J_X6_layCells_116 (L_X6_layCells_23 Post n) Post x1 v4 v7 σ17)))))))))))))))))))
def L_X6_layCells_2 (Post : lf_St → Prop) : Nat → Int32 → lf_St → Prop
  | 0, _, _ => False
  | n + 1, x1, σ => ((36 ≤ x1) → (∃ fu : Nat, L_X6_layCells_23 Post fu 0 σ)) ∧ ((¬ (36 ≤ x1)) → (vp_in x1 36 ∧ (∀ v3 : Int32, v3 = x1 + 1 → (L_X6_layCells_2 Post n v3 (lf_sb σ 15 x1.toNatClampNeg 0)))))
def wp_X6_layCells (σ : lf_St) (Post : lf_St → Prop) : Prop := ∃ fu : Nat, L_X6_layCells_2 Post fu 0 σ
def rm_X6_layCells : Room := ({ frames := 1, cells := 0, slots := 0, locals := 24 } : Room)
set_option maxHeartbeats 4000000 in
set_option maxRecDepth 100000 in
theorem w_X6_layCells_185 {p : Program} {l : Launch} {e : Env} {s : State} {m : MethodId} {args : Array Value} {below : List Frame} {meth : Method} {c : Code} {D : va_G} {A : Nat → Prop} {ha : Nat → Nat} {cy : Nat → ClassId} (Post : lf_St → Prop) (F : lf_C p s m args meth c RX6 cX6_layCells 4 none D (tyM_ cy) A) : ∀ (n : Nat) (x1 : Int32) (σ : lf_St) (H : Heap) (locs : List Loc) (ls : Array Slot), lf_H D (wM_ ha cy) A s σ H locs → lv_has ls 4 [(0, .ref (ha 0)), (1, .int x1)] → L_X6_layCells_185 Post n x1 σ → W p l e rm_X6_layCells s m args below meth c H locs 0 0 (lf_Qv below args s D (tyM_ cy) A (wM_ ha cy) Post) (F0 m 185 ls []) := by
  have hx := F.1.1
  have hb := F.1.2.1
  intro n
  induction n with
  | zero =>
    intro x1 σ H locs ls hh hl hw
    exact False.elim hw
  | succ n ih =>
    intro x1 σ H locs ls hh hl hw
    unfold L_X6_layCells_185 at hw
    refine lv_iload_n hx hb dX6_layCells_185 rfl (lv_at hl 1 rfl) ?_
    refine lv_aload_n hx hb dX6_layCells_186 rfl (lv_at hl 0 rfl) ?_
    refine fg_X6_57 F hh dX6_layCells_187 ?_
    refine lv_icmp_ge (tgt := 248) hx hb dX6_layCells_190 (by decide) (fun c1 => ?_) (fun c1 => ?_)
    · have hw := hw.1 c1
      exact lf_retv F hh hw dX6_layCells_248
    · have hw := hw.2 c1
      refine lv_aload_n hx hb dX6_layCells_193 rfl (lv_at hl 0 rfl) ?_
      refine fg_X6_35 F hh dX6_layCells_194 ?_
      refine lv_iload_n hx hb dX6_layCells_197 rfl (lv_at hl 1 rfl) ?_
      obtain ⟨q2, hw⟩ := hw
      refine ra_M_13 F hh q2 dX6_layCells_198 ?_
      refine lv_if_lt (tgt := 242) hx hb dX6_layCells_199 (by decide) (fun c3 => ?_) (fun c3 => ?_)
      · have hw := hw.1 c3
        obtain ⟨v4, ev4⟩ : ∃ y : Int32, y = x1 + 1 := ⟨_, rfl⟩
        have hw := hw v4 ev4
        refine lv_iinc (v := v4) (lv' := [(1, .int v4), (0, .ref (ha 0))]) hx hb dX6_layCells_242 hl (k := 1) rfl (by rw [ev4]; rfl) (by decide) rfl (fun ls hl => ?_)
        refine lv_goto (tgt := 185) hx hb dX6_layCells_245 (by decide) ?_
        exact ih v4 σ _ _ _ hh (lv_sub hl [1, 0] rfl) hw
      · have hw := hw.2 c3
        refine lv_aload_n hx hb dX6_layCells_202 rfl (lv_at hl 0 rfl) ?_
        refine fg_X6_45 F hh dX6_layCells_203 ?_
        refine lv_aload_n hx hb dX6_layCells_206 rfl (lv_at hl 0 rfl) ?_
        refine fg_X6_35 F hh dX6_layCells_207 ?_
        refine lv_iload_n hx hb dX6_layCells_210 rfl (lv_at hl 1 rfl) ?_
        obtain ⟨q5, hw⟩ := hw
        refine ra_M_13 F hh q5 dX6_layCells_211 ?_
        refine lv_aload_n hx hb dX6_layCells_212 rfl (lv_at hl 0 rfl) ?_
        refine fg_X6_20 F hh dX6_layCells_213 ?_
        refine lv_iload_n hx hb dX6_layCells_216 rfl (lv_at hl 1 rfl) ?_
        obtain ⟨q6, hw⟩ := hw
        refine ra_M_4 F hh q6 dX6_layCells_217 ?_
        refine lv_ineg hx hb dX6_layCells_218 ?_
        refine lv_i2l hx hb dX6_layCells_219 rfl ?_
        obtain ⟨q7, hw⟩ := hw
        refine wa_M_17 F hh q7 dX6_layCells_220 (fun H locs hh => ?_)
        refine lv_aload_n hx hb dX6_layCells_221 rfl (lv_at hl 0 rfl) ?_
        refine fg_X6_45 F hh dX6_layCells_222 ?_
        refine lv_aload_n hx hb dX6_layCells_225 rfl (lv_at hl 0 rfl) ?_
        refine fg_X6_35 F hh dX6_layCells_226 ?_
        refine lv_iload_n hx hb dX6_layCells_229 rfl (lv_at hl 1 rfl) ?_
        obtain ⟨σ8, eσ8⟩ : ∃ z : lf_St, z = (lf_sb σ 17 ((lf_ai σ 13 x1.toNatClampNeg) : Int32).toNatClampNeg (((-(lf_ai σ 4 x1.toNatClampNeg)) : Int32).toInt64)) := ⟨_, rfl⟩
        rw [← eσ8] at hh
        have hw := hw σ8 eσ8
        obtain ⟨q9, hw⟩ := hw
        refine ra_M_13 F hh q9 dX6_layCells_230 ?_
        refine lv_iconst (v := 1) hx hb dX6_layCells_231 (by decide) ?_
        refine lv_iadd hx hb dX6_layCells_232 ?_
        refine lv_aload_n hx hb dX6_layCells_233 rfl (lv_at hl 0 rfl) ?_
        refine fg_X6_23 F hh dX6_layCells_234 ?_
        refine lv_iload_n hx hb dX6_layCells_237 rfl (lv_at hl 1 rfl) ?_
        obtain ⟨q10, hw⟩ := hw
        refine ra_M_5 F hh q10 dX6_layCells_238 ?_
        refine lv_ineg hx hb dX6_layCells_239 ?_
        refine lv_i2l hx hb dX6_layCells_240 rfl ?_
        obtain ⟨q11, hw⟩ := hw
        refine wa_M_17 F hh q11 dX6_layCells_241 (fun H locs hh => ?_)
        obtain ⟨v12, ev12⟩ : ∃ y : Int32, y = x1 + 1 := ⟨_, rfl⟩
        have hw := hw v12 ev12
        refine lv_iinc (v := v12) (lv' := [(1, .int v12), (0, .ref (ha 0))]) hx hb dX6_layCells_242 hl (k := 1) rfl (by rw [ev12]; rfl) (by decide) rfl (fun ls hl => ?_)
        refine lv_goto (tgt := 185) hx hb dX6_layCells_245 (by decide) ?_
        exact ih v12 (lf_sb σ8 17 (((lf_ai σ8 13 x1.toNatClampNeg) + 1) : Int32).toNatClampNeg (((-(lf_ai σ8 5 x1.toNatClampNeg)) : Int32).toInt64)) _ _ _ hh (lv_sub hl [1, 0] rfl) hw
set_option maxHeartbeats 4000000 in
set_option maxRecDepth 100000 in
theorem w_X6_layCells_116 {p : Program} {l : Launch} {e : Env} {s : State} {m : MethodId} {args : Array Value} {below : List Frame} {meth : Method} {c : Code} {D : va_G} {A : Nat → Prop} {ha : Nat → Nat} {cy : Nat → ClassId} (K_23 : Int32 → lf_St → Prop) (Post : lf_St → Prop) (F : lf_C p s m args meth c RX6 cX6_layCells 4 none D (tyM_ cy) A) (hK_23 : ∀ (x1 : Int32) (σ : lf_St) (H : Heap) (locs : List Loc) (ls : Array Slot), lf_H D (wM_ ha cy) A s σ H locs → lv_has ls 4 [(0, .ref (ha 0)), (1, .int x1)] → K_23 x1 σ → W p l e rm_X6_layCells s m args below meth c H locs 0 0 (lf_Qv below args s D (tyM_ cy) A (wM_ ha cy) Post) (F0 m 23 ls [])) (x1 : Int32) (x2 : Int32) (x3 : Int32) (σ : lf_St) (H : Heap) (locs : List Loc) (ls : Array Slot) (hh : lf_H D (wM_ ha cy) A s σ H locs) (hl : lv_has ls 4 [(0, .ref (ha 0)), (1, .int x1), (2, .int x2), (3, .int x3)]) (hw : J_X6_layCells_116 K_23 Post x1 x2 x3 σ) : W p l e rm_X6_layCells s m args below meth c H locs 0 0 (lf_Qv below args s D (tyM_ cy) A (wM_ ha cy) Post) (F0 m 116 ls []) := by
  have hx := F.1.1
  have hb := F.1.2.1
  unfold J_X6_layCells_116 at hw
  refine lv_aload_n hx hb dX6_layCells_116 rfl (lv_at hl 0 rfl) ?_
  refine fg_X6_35 F hh dX6_layCells_117 ?_
  refine lv_iload_n hx hb dX6_layCells_120 rfl (lv_at hl 3 rfl) ?_
  obtain ⟨q1, hw⟩ := hw
  refine ra_M_13 F hh q1 dX6_layCells_121 ?_
  refine lv_if_lt (tgt := 177) hx hb dX6_layCells_122 (by decide) (fun c2 => ?_) (fun c2 => ?_)
  · have hw := hw.1 c2
    obtain ⟨v3, ev3⟩ : ∃ y : Int32, y = x1 + 1 := ⟨_, rfl⟩
    have hw := hw v3 ev3
    refine lv_iinc (v := v3) (lv' := [(1, .int v3), (0, .ref (ha 0)), (2, .int x2), (3, .int x3)]) hx hb dX6_layCells_177 hl (k := 1) rfl (by rw [ev3]; rfl) (by decide) rfl (fun ls hl => ?_)
    refine lv_goto (tgt := 23) hx hb dX6_layCells_180 (by decide) ?_
    exact hK_23 v3 σ _ _ _ hh (lv_sub hl [1, 0] rfl) hw
  · have hw := hw.2 c2
    refine lv_aload_n hx hb dX6_layCells_125 rfl (lv_at hl 0 rfl) ?_
    refine lv_aload_n hx hb dX6_layCells_126 rfl (lv_at hl 0 rfl) ?_
    refine fg_X6_35 F hh dX6_layCells_127 ?_
    refine lv_iload_n hx hb dX6_layCells_130 rfl (lv_at hl 3 rfl) ?_
    obtain ⟨q4, hw⟩ := hw
    refine ra_M_13 F hh q4 dX6_layCells_131 ?_
    refine lv_iload_n hx hb dX6_layCells_132 rfl (lv_at hl 1 rfl) ?_
    refine lv_aload_n hx hb dX6_layCells_133 rfl (lv_at hl 0 rfl) ?_
    refine fg_X6_7 F hh dX6_layCells_134 ?_
    refine lv_iload_n hx hb dX6_layCells_137 rfl (lv_at hl 2 rfl) ?_
    obtain ⟨q5, hw⟩ := hw
    refine ra_M_1 F hh q5 dX6_layCells_138 ?_
    refine lv_aload_n hx hb dX6_layCells_139 rfl (lv_at hl 0 rfl) ?_
    refine fg_X6_7 F hh dX6_layCells_140 ?_
    refine lv_iload_n hx hb dX6_layCells_143 rfl (lv_at hl 3 rfl) ?_
    obtain ⟨q6, hw⟩ := hw
    refine ra_M_1 F hh q6 dX6_layCells_144 ?_
    refine lv_isub hx hb dX6_layCells_145 ?_
    refine lv_i2l hx hb dX6_layCells_146 rfl ?_
    refine lf_callVv (rest := []) F hh (cw_X6_122 F.1.2.2.2.2 ⟨Nat.le_of_ble_eq_true rfl, Nat.le_of_ble_eq_true rfl⟩) (c_X6_put l D ha cy H.size σ (lf_ai σ 13 x3.toNatClampNeg) x1 ((((lf_ai σ 1 x2.toNatClampNeg) - (lf_ai σ 1 x3.toNatClampNeg)) : Int32).toInt64) _ hw) 0 6 rfl rfl rfl rfl hl.1 (Nat.le_of_ble_eq_true rfl) dX6_layCells_147 rfl (fun σ7 H locs hw hh => ?_)
    refine lv_aload_n hx hb dX6_layCells_150 rfl (lv_at hl 0 rfl) ?_
    refine lv_aload_n hx hb dX6_layCells_151 rfl (lv_at hl 0 rfl) ?_
    refine fg_X6_35 F hh dX6_layCells_152 ?_
    refine lv_iload_n hx hb dX6_layCells_155 rfl (lv_at hl 3 rfl) ?_
    obtain ⟨q8, hw⟩ := hw
    refine ra_M_13 F hh q8 dX6_layCells_156 ?_
    refine lv_iconst (v := 1) hx hb dX6_layCells_157 (by decide) ?_
    refine lv_iadd hx hb dX6_layCells_158 ?_
    refine lv_iload_n hx hb dX6_layCells_159 rfl (lv_at hl 1 rfl) ?_
    refine lv_aload_n hx hb dX6_layCells_160 rfl (lv_at hl 0 rfl) ?_
    refine fg_X6_13 F hh dX6_layCells_161 ?_
    refine lv_iload_n hx hb dX6_layCells_164 rfl (lv_at hl 2 rfl) ?_
    obtain ⟨q9, hw⟩ := hw
    refine ra_M_2 F hh q9 dX6_layCells_165 ?_
    refine lv_aload_n hx hb dX6_layCells_166 rfl (lv_at hl 0 rfl) ?_
    refine fg_X6_13 F hh dX6_layCells_167 ?_
    refine lv_iload_n hx hb dX6_layCells_170 rfl (lv_at hl 3 rfl) ?_
    obtain ⟨q10, hw⟩ := hw
    refine ra_M_2 F hh q10 dX6_layCells_171 ?_
    refine lv_isub hx hb dX6_layCells_172 ?_
    refine lv_i2l hx hb dX6_layCells_173 rfl ?_
    refine lf_callVv (rest := []) F hh (cw_X6_122 F.1.2.2.2.2 ⟨Nat.le_of_ble_eq_true rfl, Nat.le_of_ble_eq_true rfl⟩) (c_X6_put l D ha cy H.size σ7 ((lf_ai σ7 13 x3.toNatClampNeg) + 1) x1 ((((lf_ai σ7 2 x2.toNatClampNeg) - (lf_ai σ7 2 x3.toNatClampNeg)) : Int32).toInt64) _ hw) 0 6 rfl rfl rfl rfl hl.1 (Nat.le_of_ble_eq_true rfl) dX6_layCells_174 rfl (fun σ11 H locs hw hh => ?_)
    obtain ⟨v12, ev12⟩ : ∃ y : Int32, y = x1 + 1 := ⟨_, rfl⟩
    have hw := hw v12 ev12
    refine lv_iinc (v := v12) (lv' := [(1, .int v12), (0, .ref (ha 0)), (2, .int x2), (3, .int x3)]) hx hb dX6_layCells_177 hl (k := 1) rfl (by rw [ev12]; rfl) (by decide) rfl (fun ls hl => ?_)
    refine lv_goto (tgt := 23) hx hb dX6_layCells_180 (by decide) ?_
    exact hK_23 v12 σ11 _ _ _ hh (lv_sub hl [1, 0] rfl) hw
set_option maxHeartbeats 4000000 in
set_option maxRecDepth 100000 in
theorem w_X6_layCells_23 {p : Program} {l : Launch} {e : Env} {s : State} {m : MethodId} {args : Array Value} {below : List Frame} {meth : Method} {c : Code} {D : va_G} {A : Nat → Prop} {ha : Nat → Nat} {cy : Nat → ClassId} (Post : lf_St → Prop) (F : lf_C p s m args meth c RX6 cX6_layCells 4 none D (tyM_ cy) A) : ∀ (n : Nat) (x1 : Int32) (σ : lf_St) (H : Heap) (locs : List Loc) (ls : Array Slot), lf_H D (wM_ ha cy) A s σ H locs → lv_has ls 4 [(0, .ref (ha 0)), (1, .int x1)] → L_X6_layCells_23 Post n x1 σ → W p l e rm_X6_layCells s m args below meth c H locs 0 0 (lf_Qv below args s D (tyM_ cy) A (wM_ ha cy) Post) (F0 m 23 ls []) := by
  have hx := F.1.1
  have hb := F.1.2.1
  intro n
  induction n with
  | zero =>
    intro x1 σ H locs ls hh hl hw
    exact False.elim hw
  | succ n ih =>
    intro x1 σ H locs ls hh hl hw
    unfold L_X6_layCells_23 at hw
    refine lv_iload_n hx hb dX6_layCells_23 rfl (lv_at hl 1 rfl) ?_
    refine lv_aload_n hx hb dX6_layCells_24 rfl (lv_at hl 0 rfl) ?_
    refine fg_X6_119 F hh dX6_layCells_25 ?_
    refine lv_icmp_ge (tgt := 183) hx hb dX6_layCells_28 (by decide) (fun c1 => ?_) (fun c1 => ?_)
    · have hw := hw.1 c1
      refine lv_iconst (v := 0) hx hb dX6_layCells_183 (by decide) ?_
      refine lv_istore_n (lv' := [(1, .int 0), (0, .ref (ha 0))]) hx hb dX6_layCells_184 rfl hl (by decide) rfl (fun ls hl => ?_)
      obtain ⟨n185, hw⟩ := hw
      exact w_X6_layCells_185 Post F  n185 0 σ _ _ _ hh (lv_sub hl [1, 0] rfl) hw
    · have hw := hw.2 c1
      refine lv_aload_n hx hb dX6_layCells_31 rfl (lv_at hl 0 rfl) ?_
      refine fg_X6_26 F hh dX6_layCells_32 ?_
      refine lv_aload_n hx hb dX6_layCells_35 rfl (lv_at hl 0 rfl) ?_
      refine fg_X6_48 F hh dX6_layCells_36 ?_
      refine lv_iload_n hx hb dX6_layCells_39 rfl (lv_at hl 1 rfl) ?_
      obtain ⟨q2, hw⟩ := hw
      refine ra_M_19 F hh q2 dX6_layCells_40 ?_
      obtain ⟨q3, hw⟩ := hw
      refine ra_M_7 F hh q3 dX6_layCells_41 ?_
      refine lv_topi (fun v4 ev4 => ?_)
      have hw := hw v4 ev4
      refine lv_istore_n (lv' := [(2, .int v4), (0, .ref (ha 0)), (1, .int x1)]) hx hb dX6_layCells_42 rfl hl (by decide) rfl (fun ls hl => ?_)
      refine lv_aload_n hx hb dX6_layCells_43 rfl (lv_at hl 1 rfl) ?_
      refine fg_X6_29 F hh dX6_layCells_44 ?_
      refine lv_aload_n hx hb dX6_layCells_47 rfl (lv_at hl 1 rfl) ?_
      refine fg_X6_48 F hh dX6_layCells_48 ?_
      refine lv_iload_n hx hb dX6_layCells_51 rfl (lv_at hl 2 rfl) ?_
      obtain ⟨q5, hw⟩ := hw
      refine ra_M_19 F hh q5 dX6_layCells_52 ?_
      obtain ⟨q6, hw⟩ := hw
      refine ra_M_8 F hh q6 dX6_layCells_53 ?_
      refine lv_topi (fun v7 ev7 => ?_)
      have hw := hw v7 ev7
      refine lv_istore_n (lv' := [(3, .int v7), (2, .int v4), (0, .ref (ha 0)), (1, .int x1)]) hx hb dX6_layCells_54 rfl hl (by decide) rfl (fun ls hl => ?_)
      refine lv_aload_n hx hb dX6_layCells_55 rfl (lv_at hl 2 rfl) ?_
      refine fg_X6_35 F hh dX6_layCells_56 ?_
      refine lv_iload_n hx hb dX6_layCells_59 rfl (lv_at hl 1 rfl) ?_
      obtain ⟨q8, hw⟩ := hw
      refine ra_M_13 F hh q8 dX6_layCells_60 ?_
      refine lv_if_lt (tgt := 116) hx hb dX6_layCells_61 (by decide) (fun c9 => ?_) (fun c9 => ?_)
      · have hw := hw.1 c9
        exact w_X6_layCells_116 _ Post F ih x1 v4 v7 σ _ _ _ hh (lv_sub hl [2, 3, 1, 0] rfl) hw
      · have hw := hw.2 c9
        refine lv_aload_n hx hb dX6_layCells_64 rfl (lv_at hl 2 rfl) ?_
        refine lv_aload_n hx hb dX6_layCells_65 rfl (lv_at hl 2 rfl) ?_
        refine fg_X6_35 F hh dX6_layCells_66 ?_
        refine lv_iload_n hx hb dX6_layCells_69 rfl (lv_at hl 1 rfl) ?_
        obtain ⟨q10, hw⟩ := hw
        refine ra_M_13 F hh q10 dX6_layCells_70 ?_
        refine lv_iload_n hx hb dX6_layCells_71 rfl (lv_at hl 3 rfl) ?_
        refine lv_aload_n hx hb dX6_layCells_72 rfl (lv_at hl 2 rfl) ?_
        refine fg_X6_7 F hh dX6_layCells_73 ?_
        refine lv_iload_n hx hb dX6_layCells_76 rfl (lv_at hl 0 rfl) ?_
        obtain ⟨q11, hw⟩ := hw
        refine ra_M_1 F hh q11 dX6_layCells_77 ?_
        refine lv_aload_n hx hb dX6_layCells_78 rfl (lv_at hl 2 rfl) ?_
        refine fg_X6_7 F hh dX6_layCells_79 ?_
        refine lv_iload_n hx hb dX6_layCells_82 rfl (lv_at hl 1 rfl) ?_
        obtain ⟨q12, hw⟩ := hw
        refine ra_M_1 F hh q12 dX6_layCells_83 ?_
        refine lv_isub hx hb dX6_layCells_84 ?_
        refine lv_i2l hx hb dX6_layCells_85 rfl ?_
        refine lf_callVv (rest := []) F hh (cw_X6_122 F.1.2.2.2.2 ⟨Nat.le_of_ble_eq_true rfl, Nat.le_of_ble_eq_true rfl⟩) (c_X6_put l D ha cy H.size σ (lf_ai σ 13 v4.toNatClampNeg) x1 ((((lf_ai σ 1 v7.toNatClampNeg) - (lf_ai σ 1 v4.toNatClampNeg)) : Int32).toInt64) _ hw) 0 6 rfl rfl rfl rfl hl.1 (Nat.le_of_ble_eq_true rfl) dX6_layCells_86 rfl (fun σ13 H locs hw hh => ?_)
        refine lv_aload_n hx hb dX6_layCells_89 rfl (lv_at hl 2 rfl) ?_
        refine lv_aload_n hx hb dX6_layCells_90 rfl (lv_at hl 2 rfl) ?_
        refine fg_X6_35 F hh dX6_layCells_91 ?_
        refine lv_iload_n hx hb dX6_layCells_94 rfl (lv_at hl 1 rfl) ?_
        obtain ⟨q14, hw⟩ := hw
        refine ra_M_13 F hh q14 dX6_layCells_95 ?_
        refine lv_iconst (v := 1) hx hb dX6_layCells_96 (by decide) ?_
        refine lv_iadd hx hb dX6_layCells_97 ?_
        refine lv_iload_n hx hb dX6_layCells_98 rfl (lv_at hl 3 rfl) ?_
        refine lv_aload_n hx hb dX6_layCells_99 rfl (lv_at hl 2 rfl) ?_
        refine fg_X6_13 F hh dX6_layCells_100 ?_
        refine lv_iload_n hx hb dX6_layCells_103 rfl (lv_at hl 0 rfl) ?_
        obtain ⟨q15, hw⟩ := hw
        refine ra_M_2 F hh q15 dX6_layCells_104 ?_
        refine lv_aload_n hx hb dX6_layCells_105 rfl (lv_at hl 2 rfl) ?_
        refine fg_X6_13 F hh dX6_layCells_106 ?_
        refine lv_iload_n hx hb dX6_layCells_109 rfl (lv_at hl 1 rfl) ?_
        obtain ⟨q16, hw⟩ := hw
        refine ra_M_2 F hh q16 dX6_layCells_110 ?_
        refine lv_isub hx hb dX6_layCells_111 ?_
        refine lv_i2l hx hb dX6_layCells_112 rfl ?_
        refine lf_callVv (rest := []) F hh (cw_X6_122 F.1.2.2.2.2 ⟨Nat.le_of_ble_eq_true rfl, Nat.le_of_ble_eq_true rfl⟩) (c_X6_put l D ha cy H.size σ13 ((lf_ai σ13 13 v4.toNatClampNeg) + 1) x1 ((((lf_ai σ13 2 v7.toNatClampNeg) - (lf_ai σ13 2 v4.toNatClampNeg)) : Int32).toInt64) _ hw) 0 6 rfl rfl rfl rfl hl.1 (Nat.le_of_ble_eq_true rfl) dX6_layCells_113 rfl (fun σ17 H locs hw hh => ?_)
        exact w_X6_layCells_116 _ Post F ih x1 v4 v7 σ17 _ _ _ hh (lv_sub hl [2, 3, 1, 0] rfl) hw
set_option maxHeartbeats 4000000 in
set_option maxRecDepth 100000 in
theorem w_X6_layCells_2 {p : Program} {l : Launch} {e : Env} {s : State} {m : MethodId} {args : Array Value} {below : List Frame} {meth : Method} {c : Code} {D : va_G} {A : Nat → Prop} {ha : Nat → Nat} {cy : Nat → ClassId} (Post : lf_St → Prop) (F : lf_C p s m args meth c RX6 cX6_layCells 4 none D (tyM_ cy) A) : ∀ (n : Nat) (x1 : Int32) (σ : lf_St) (H : Heap) (locs : List Loc) (ls : Array Slot), lf_H D (wM_ ha cy) A s σ H locs → lv_has ls 4 [(0, .ref (ha 0)), (1, .int x1)] → L_X6_layCells_2 Post n x1 σ → W p l e rm_X6_layCells s m args below meth c H locs 0 0 (lf_Qv below args s D (tyM_ cy) A (wM_ ha cy) Post) (F0 m 2 ls []) := by
  have hx := F.1.1
  have hb := F.1.2.1
  intro n
  induction n with
  | zero =>
    intro x1 σ H locs ls hh hl hw
    exact False.elim hw
  | succ n ih =>
    intro x1 σ H locs ls hh hl hw
    unfold L_X6_layCells_2 at hw
    refine lv_iload_n hx hb dX6_layCells_2 rfl (lv_at hl 1 rfl) ?_
    refine lv_bipush (v := 36) hx hb dX6_layCells_3 (by decide) ?_
    refine lv_icmp_ge (tgt := 21) hx hb dX6_layCells_5 (by decide) (fun c1 => ?_) (fun c1 => ?_)
    · have hw := hw.1 c1
      refine lv_iconst (v := 0) hx hb dX6_layCells_21 (by decide) ?_
      refine lv_istore_n (lv' := [(1, .int 0), (0, .ref (ha 0))]) hx hb dX6_layCells_22 rfl hl (by decide) rfl (fun ls hl => ?_)
      obtain ⟨n23, hw⟩ := hw
      exact w_X6_layCells_23 Post F  n23 0 σ _ _ _ hh (lv_sub hl [1, 0] rfl) hw
    · have hw := hw.2 c1
      refine lv_aload_n hx hb dX6_layCells_8 rfl (lv_at hl 0 rfl) ?_
      refine fg_X6_38 F hh dX6_layCells_9 ?_
      refine lv_iload_n hx hb dX6_layCells_12 rfl (lv_at hl 1 rfl) ?_
      refine lv_lconst (v := 0) hx hb dX6_layCells_13 (by decide) ?_
      obtain ⟨q2, hw⟩ := hw
      refine wa_M_15 F hh q2 dX6_layCells_14 (fun H locs hh => ?_)
      obtain ⟨v3, ev3⟩ : ∃ y : Int32, y = x1 + 1 := ⟨_, rfl⟩
      have hw := hw v3 ev3
      refine lv_iinc (v := v3) (lv' := [(1, .int v3), (0, .ref (ha 0))]) hx hb dX6_layCells_15 hl (k := 1) rfl (by rw [ev3]; rfl) (by decide) rfl (fun ls hl => ?_)
      refine lv_goto (tgt := 2) hx hb dX6_layCells_18 (by decide) ?_
      exact ih v3 (lf_sb σ 15 x1.toNatClampNeg 0) _ _ _ hh (lv_sub hl [1, 0] rfl) hw
set_option maxHeartbeats 4000000 in
set_option maxRecDepth 100000 in
theorem c_X6_layCells (l : Launch) (D : va_G) (ha : Nat → Nat) (cy : Nat → ClassId) (sz : Nat) (σ : lf_St) (Post : lf_St → Prop) (hw : wp_X6_layCells σ Post) : lf_Mv l yX6_layCells (lf_ws yX6_layCells cX6_layCells 4 none) rm_X6_layCells D (tyM_ cy) (wM_ ha cy) sz σ [.ref (ha 0)] Post := by
  refine lf_ofv (by decide +kernel) (Nat.le_of_ble_eq_true rfl) ?_
  intro p e s m args below meth c A ls F hh hl
  have hx := F.1.1
  have hb := F.1.2.1
  have hl : lv_has ls 4 [(0, .ref (ha 0))] := hl
  obtain ⟨H, hHe⟩ : ∃ H, H = s.heap := ⟨_, rfl⟩
  rw [← hHe] at hh ⊢
  unfold wp_X6_layCells at hw
  refine lv_iconst (v := 0) hx hb dX6_layCells_0 (by decide) ?_
  refine lv_istore_n (lv' := [(1, .int 0), (0, .ref (ha 0))]) hx hb dX6_layCells_1 rfl hl (by decide) rfl (fun ls hl => ?_)
  obtain ⟨n2, hw⟩ := hw
  exact w_X6_layCells_2 Post F  n2 0 σ _ _ _ hh (lv_sub hl [1, 0] rfl) hw
end
section
theorem cw_X6_129 {R : Room} {s : State} {args : Array Value} (ht : ∀ w ∈ wsL_law, w.before args s = true) (hR : rm_X6_layCells.frames + 1 ≤ R.frames ∧ 8 + (4 + 11) + rm_X6_layCells.locals ≤ R.locals) : lf_cV R s args RX6 RX6 129 yX6_layCells cX6_layCells 4 none rm_X6_layCells 0 :=
  lf_cV_of 0 ht (lr_21 _ (List.mem_of_getElem? (i := 1) rfl)) (lr_20 _ (List.mem_of_getElem? (i := 22) rfl)) (lr_20 _ (List.mem_of_getElem? (i := 23) rfl)) (lr_21 _ (List.mem_of_getElem? (i := 0) rfl)) (lr_1 _ (List.mem_of_getElem? (i := 5) rfl)) rfl rfl (by decide +kernel) hR
theorem cw_X6_132 {R : Room} {s : State} {args : Array Value} (ht : ∀ w ∈ wsL_law, w.before args s = true) (hR : rm_X6_determinant.frames + 1 ≤ R.frames ∧ 8 + (11 + 11) + rm_X6_determinant.locals ≤ R.locals) : lf_cV R s args RX6 RX6 132 yX6_determinant cX6_determinant 11 (some .long) rm_X6_determinant 1 :=
  lf_cV_of 1 ht (lr_21 _ (List.mem_of_getElem? (i := 9) rfl)) (lr_21 _ (List.mem_of_getElem? (i := 6) rfl)) (lr_21 _ (List.mem_of_getElem? (i := 7) rfl)) (lr_21 _ (List.mem_of_getElem? (i := 8) rfl)) (lr_1 _ (List.mem_of_getElem? (i := 5) rfl)) rfl rfl (by decide +kernel) hR
theorem cw_X6_140 {R : Room} {s : State} {args : Array Value} (ht : ∀ w ∈ wsL_law, w.before args s = true) (hR : rm_X6_abs.frames + 1 ≤ R.frames ∧ 8 + (2 + 11) + rm_X6_abs.locals ≤ R.locals) : lf_cS R s args RX6 140 yX6_abs cX6_abs 2 (some .long) rm_X6_abs 1 :=
  lf_cS_of 1 ht (lr_21 _ (List.mem_of_getElem? (i := 12) rfl)) (lr_21 _ (List.mem_of_getElem? (i := 10) rfl)) (lr_21 _ (List.mem_of_getElem? (i := 11) rfl)) (lr_1 _ (List.mem_of_getElem? (i := 5) rfl)) rfl rfl (by decide +kernel) hR
def L_X6_isChoice_102 (Post : Int32 → lf_St → Prop) : Nat → Int32 → lf_St → Prop
  | 0, _, _ => False
  | n + 1, x2, σ => (((lf_gi σ 14) ≤ x2) → (wp_X6_abs (lf_gl σ 20) σ (fun r2 σ2 => Post 1 (lf_sl σ2 20 r2)))) ∧ ((¬ ((lf_gi σ 14) ≤ x2)) → (wp_X6_determinant x2 σ (fun r3 σ3 => ((0 ≤ (lf_gl σ3 20)) → (vp_in x2 6 ∧ (∀ v6 : Int32, v6 = x2 + 1 → (L_X6_isChoice_102 Post n v6 (lf_sb σ3 21 x2.toNatClampNeg r3))))) ∧ ((¬ (0 ≤ (lf_gl σ3 20))) → (vp_in x2 6 ∧ (∀ v8 : Int32, v8 = x2 + 1 → (L_X6_isChoice_102 Post n v8 (lf_sb σ3 21 x2.toNatClampNeg (-r3)))))))))
def L_X6_isChoice_7 (Post : Int32 → lf_St → Prop) : Nat → Int32 → Int32 → lf_St → Prop
  | 0, _, _, _ => False
  | n + 1, x1, x2, σ => (((lf_gi σ 6) ≤ x2) → ((((lf_gi σ 18) = (lf_gi σ 14)) → (wp_X6_layCells σ (fun σ3 => wp_X6_determinant (-1) σ3 (fun r4 σ4 => ∀ σ5 : lf_St, σ5 = (lf_sl σ4 20 r4) → (((¬ (lf_gl σ5 20) = 0) → (∃ fu : Nat, L_X6_isChoice_102 Post fu 0 σ5)) ∧ (((lf_gl σ5 20) = 0) → (Post 0 σ5))))))) ∧ ((¬ ((lf_gi σ 18) = (lf_gi σ 14))) → (Post 0 σ)))) ∧ ((¬ ((lf_gi σ 6) ≤ x2)) → (((¬ ((x1 >>> (x2 &&& 31)) &&& 1) = 1) → (∀ v8 : Int32, v8 = x2 + 1 → (L_X6_isChoice_7 Post n x1 v8 σ))) ∧ ((((x1 >>> (x2 &&& 31)) &&& 1) = 1) → (((¬ (lf_gi σ 18) = (lf_gi σ 14)) → (vp_in (lf_gi σ 18) 6 ∧ (∀ σ11 : lf_St, σ11 = (lf_sa σ 19 ((lf_gi σ 18) : Int32).toNatClampNeg x2) → (∀ v12 : Int32, v12 = x2 + 1 → (L_X6_isChoice_7 Post n x1 v12 (lf_si σ11 18 ((lf_gi σ11 18) + 1))))))) ∧ (((lf_gi σ 18) = (lf_gi σ 14)) → (Post 0 σ))))))
def wp_X6_isChoice (x1 : Int32) (σ : lf_St) (Post : Int32 → lf_St → Prop) : Prop := ∃ fu : Nat, L_X6_isChoice_7 Post fu x1 0 (lf_si σ 18 0)
def rm_X6_isChoice : Room := ({ frames := 2, cells := 0, slots := 0, locals := 47 } : Room)
set_option maxHeartbeats 4000000 in
set_option maxRecDepth 100000 in
theorem w_X6_isChoice_102 {p : Program} {l : Launch} {e : Env} {s : State} {m : MethodId} {args : Array Value} {below : List Frame} {meth : Method} {c : Code} {D : va_G} {A : Nat → Prop} {ha : Nat → Nat} {cy : Nat → ClassId} (Post : Int32 → lf_St → Prop) (F : lf_C p s m args meth c RX6 cX6_isChoice 5 (some .boolean) D (tyM_ cy) A) : ∀ (n : Nat) (x2 : Int32) (σ : lf_St) (H : Heap) (locs : List Loc) (ls : Array Slot), lf_H D (wM_ ha cy) A s σ H locs → lv_has ls 5 [(0, .ref (ha 0)), (2, .int x2)] → L_X6_isChoice_102 Post n x2 σ → W p l e rm_X6_isChoice s m args below meth c H locs 0 0 (lf_Qi below args s D (tyM_ cy) A (wM_ ha cy) Post) (F0 m 102 ls []) := by
  have hx := F.1.1
  have hb := F.1.2.1
  intro n
  induction n with
  | zero =>
    intro x2 σ H locs ls hh hl hw
    exact False.elim hw
  | succ n ih =>
    intro x2 σ H locs ls hh hl hw
    unfold L_X6_isChoice_102 at hw
    refine lv_iload_n hx hb dX6_isChoice_102 rfl (lv_at hl 1 rfl) ?_
    refine lv_aload_n hx hb dX6_isChoice_103 rfl (lv_at hl 0 rfl) ?_
    refine fg_X6_119 F hh dX6_isChoice_104 ?_
    refine lv_icmp_ge (tgt := 143) hx hb dX6_isChoice_107 (by decide) (fun c1 => ?_) (fun c1 => ?_)
    · have hw := hw.1 c1
      refine lv_aload_n hx hb dX6_isChoice_143 rfl (lv_at hl 0 rfl) ?_
      refine lv_aload_n hx hb dX6_isChoice_144 rfl (lv_at hl 0 rfl) ?_
      refine fg_X6_136 F hh dX6_isChoice_145 ?_
      refine lf_callSl (rest := [.ref (ha 0)]) F hh (cw_X6_140 F.1.2.2.2.2 ⟨Nat.le_of_ble_eq_true rfl, Nat.le_of_ble_eq_true rfl⟩) (c_X6_abs l D ha cy H.size σ (lf_gl σ 20) _ hw) rfl hl.1 (Nat.le_of_ble_eq_true rfl) dX6_isChoice_148 rfl (fun r2 σ2 H locs hw hh => ?_)
      refine fp_X6_136 F hh dX6_isChoice_151 (fun H locs hh => ?_)
      refine lv_iconst (v := 1) hx hb dX6_isChoice_154 (by decide) ?_
      exact lf_retz F hh rfl hw dX6_isChoice_155
    · have hw := hw.2 c1
      refine lv_aload_n hx hb dX6_isChoice_110 rfl (lv_at hl 0 rfl) ?_
      refine lv_iload_n hx hb dX6_isChoice_111 rfl (lv_at hl 1 rfl) ?_
      refine lf_callVl (rest := []) F hh (cw_X6_132 F.1.2.2.2.2 ⟨Nat.le_of_ble_eq_true rfl, Nat.le_of_ble_eq_true rfl⟩) (c_X6_determinant l D ha cy H.size σ x2 _ hw) 0 6 rfl rfl rfl rfl hl.1 (Nat.le_of_ble_eq_true rfl) dX6_isChoice_112 rfl (fun r3 σ3 H locs hw hh => ?_)
      refine lv_lstore_n (lv' := [(3, .long r3), (0, .ref (ha 0)), (2, .int x2)]) hx hb dX6_isChoice_115 rfl hl (by decide) rfl (fun ls hl => ?_)
      refine lv_aload_n hx hb dX6_isChoice_116 rfl (lv_at hl 1 rfl) ?_
      refine fg_X6_51 F hh dX6_isChoice_117 ?_
      refine lv_iload_n hx hb dX6_isChoice_120 rfl (lv_at hl 2 rfl) ?_
      refine lv_aload_n hx hb dX6_isChoice_121 rfl (lv_at hl 1 rfl) ?_
      refine fg_X6_136 F hh dX6_isChoice_122 ?_
      refine lv_lconst (v := 0) hx hb dX6_isChoice_125 (by decide) ?_
      refine lf_lcmp_ge (tgt := 135) hx hb dX6_isChoice_126 dX6_isChoice_127 (by decide) (fun c4 => ?_) (fun c4 => ?_)
      · have hw := hw.1 c4
        refine lv_lload_n hx hb dX6_isChoice_135 rfl (lv_at hl 0 rfl) ?_
        obtain ⟨q5, hw⟩ := hw
        refine wa_M_21 F hh q5 dX6_isChoice_136 (fun H locs hh => ?_)
        obtain ⟨v6, ev6⟩ : ∃ y : Int32, y = x2 + 1 := ⟨_, rfl⟩
        have hw := hw v6 ev6
        refine lv_iinc (v := v6) (lv' := [(2, .int v6), (3, .long r3), (0, .ref (ha 0))]) hx hb dX6_isChoice_137 hl (k := 2) rfl (by rw [ev6]; rfl) (by decide) rfl (fun ls hl => ?_)
        refine lv_goto (tgt := 102) hx hb dX6_isChoice_140 (by decide) ?_
        exact ih v6 (lf_sb σ3 21 x2.toNatClampNeg r3) _ _ _ hh (lv_sub hl [2, 0] rfl) hw
      · have hw := hw.2 c4
        refine lv_lload_n hx hb dX6_isChoice_130 rfl (lv_at hl 0 rfl) ?_
        refine lv_lneg hx hb dX6_isChoice_131 ?_
        refine lv_goto (tgt := 136) hx hb dX6_isChoice_132 (by decide) ?_
        obtain ⟨q7, hw⟩ := hw
        refine wa_M_21 F hh q7 dX6_isChoice_136 (fun H locs hh => ?_)
        obtain ⟨v8, ev8⟩ : ∃ y : Int32, y = x2 + 1 := ⟨_, rfl⟩
        have hw := hw v8 ev8
        refine lv_iinc (v := v8) (lv' := [(2, .int v8), (3, .long r3), (0, .ref (ha 0))]) hx hb dX6_isChoice_137 hl (k := 2) rfl (by rw [ev8]; rfl) (by decide) rfl (fun ls hl => ?_)
        refine lv_goto (tgt := 102) hx hb dX6_isChoice_140 (by decide) ?_
        exact ih v8 (lf_sb σ3 21 x2.toNatClampNeg (-r3)) _ _ _ hh (lv_sub hl [2, 0] rfl) hw
set_option maxHeartbeats 4000000 in
set_option maxRecDepth 100000 in
theorem w_X6_isChoice_7 {p : Program} {l : Launch} {e : Env} {s : State} {m : MethodId} {args : Array Value} {below : List Frame} {meth : Method} {c : Code} {D : va_G} {A : Nat → Prop} {ha : Nat → Nat} {cy : Nat → ClassId} (Post : Int32 → lf_St → Prop) (F : lf_C p s m args meth c RX6 cX6_isChoice 5 (some .boolean) D (tyM_ cy) A) : ∀ (n : Nat) (x1 : Int32) (x2 : Int32) (σ : lf_St) (H : Heap) (locs : List Loc) (ls : Array Slot), lf_H D (wM_ ha cy) A s σ H locs → lv_has ls 5 [(0, .ref (ha 0)), (1, .int x1), (2, .int x2)] → L_X6_isChoice_7 Post n x1 x2 σ → W p l e rm_X6_isChoice s m args below meth c H locs 0 0 (lf_Qi below args s D (tyM_ cy) A (wM_ ha cy) Post) (F0 m 7 ls []) := by
  have hx := F.1.1
  have hb := F.1.2.1
  intro n
  induction n with
  | zero =>
    intro x1 x2 σ H locs ls hh hl hw
    exact False.elim hw
  | succ n ih =>
    intro x1 x2 σ H locs ls hh hl hw
    unfold L_X6_isChoice_7 at hw
    refine lv_iload_n hx hb dX6_isChoice_7 rfl (lv_at hl 2 rfl) ?_
    refine lv_aload_n hx hb dX6_isChoice_8 rfl (lv_at hl 0 rfl) ?_
    refine fg_X6_65 F hh dX6_isChoice_9 ?_
    refine lv_icmp_ge (tgt := 63) hx hb dX6_isChoice_12 (by decide) (fun c1 => ?_) (fun c1 => ?_)
    · have hw := hw.1 c1
      refine lv_aload_n hx hb dX6_isChoice_63 rfl (lv_at hl 0 rfl) ?_
      refine fg_X6_126 F hh dX6_isChoice_64 ?_
      refine lv_aload_n hx hb dX6_isChoice_67 rfl (lv_at hl 0 rfl) ?_
      refine fg_X6_119 F hh dX6_isChoice_68 ?_
      refine lv_icmp_eq (tgt := 76) hx hb dX6_isChoice_71 (by decide) (fun c2 => ?_) (fun c2 => ?_)
      · have hw := hw.1 c2
        refine lv_aload_n hx hb dX6_isChoice_76 rfl (lv_at hl 0 rfl) ?_
        refine lf_callVv (rest := []) F hh (cw_X6_129 F.1.2.2.2.2 ⟨Nat.le_of_ble_eq_true rfl, Nat.le_of_ble_eq_true rfl⟩) (c_X6_layCells l D ha cy H.size σ  _ hw) 0 6 rfl rfl rfl rfl hl.1 (Nat.le_of_ble_eq_true rfl) dX6_isChoice_77 rfl (fun σ3 H locs hw hh => ?_)
        refine lv_aload_n hx hb dX6_isChoice_80 rfl (lv_at hl 0 rfl) ?_
        refine lv_aload_n hx hb dX6_isChoice_81 rfl (lv_at hl 0 rfl) ?_
        refine lv_iconst (v := (-1)) hx hb dX6_isChoice_82 (by decide) ?_
        refine lf_callVl (rest := [.ref (ha 0)]) F hh (cw_X6_132 F.1.2.2.2.2 ⟨Nat.le_of_ble_eq_true rfl, Nat.le_of_ble_eq_true rfl⟩) (c_X6_determinant l D ha cy H.size σ3 (-1) _ hw) 0 6 rfl rfl rfl rfl hl.1 (Nat.le_of_ble_eq_true rfl) dX6_isChoice_83 rfl (fun r4 σ4 H locs hw hh => ?_)
        refine fp_X6_136 F hh dX6_isChoice_86 (fun H locs hh => ?_)
        refine lv_aload_n hx hb dX6_isChoice_89 rfl (lv_at hl 0 rfl) ?_
        obtain ⟨σ5, eσ5⟩ : ∃ z : lf_St, z = (lf_sl σ4 20 r4) := ⟨_, rfl⟩
        rw [← eσ5] at hh
        have hw := hw σ5 eσ5
        refine fg_X6_136 F hh dX6_isChoice_90 ?_
        refine lv_lconst (v := 0) hx hb dX6_isChoice_93 (by decide) ?_
        refine lf_lcmp_ne (tgt := 100) hx hb dX6_isChoice_94 dX6_isChoice_95 (by decide) (fun c6 => ?_) (fun c6 => ?_)
        · have hw := hw.1 c6
          refine lv_iconst (v := 0) hx hb dX6_isChoice_100 (by decide) ?_
          refine lv_istore_n (lv' := [(2, .int 0), (0, .ref (ha 0)), (1, .int x1)]) hx hb dX6_isChoice_101 rfl hl (by decide) rfl (fun ls hl => ?_)
          obtain ⟨n102, hw⟩ := hw
          exact w_X6_isChoice_102 Post F  n102 0 σ5 _ _ _ hh (lv_sub hl [1, 0] rfl) hw
        · have hw := hw.2 c6
          refine lv_iconst (v := 0) hx hb dX6_isChoice_98 (by decide) ?_
          exact lf_retz F hh rfl hw dX6_isChoice_99
      · have hw := hw.2 c2
        refine lv_iconst (v := 0) hx hb dX6_isChoice_74 (by decide) ?_
        exact lf_retz F hh rfl hw dX6_isChoice_75
    · have hw := hw.2 c1
      refine lv_iload_n hx hb dX6_isChoice_15 rfl (lv_at hl 1 rfl) ?_
      refine lv_iload_n hx hb dX6_isChoice_16 rfl (lv_at hl 2 rfl) ?_
      refine lv_ishr hx hb dX6_isChoice_17 ?_
      refine lv_iconst (v := 1) hx hb dX6_isChoice_18 (by decide) ?_
      refine lv_iand hx hb dX6_isChoice_19 ?_
      refine lv_iconst (v := 1) hx hb dX6_isChoice_20 (by decide) ?_
      refine lv_icmp_ne (tgt := 57) hx hb dX6_isChoice_21 (by decide) (fun c7 => ?_) (fun c7 => ?_)
      · have hw := hw.1 c7
        obtain ⟨v8, ev8⟩ : ∃ y : Int32, y = x2 + 1 := ⟨_, rfl⟩
        have hw := hw v8 ev8
        refine lv_iinc (v := v8) (lv' := [(2, .int v8), (0, .ref (ha 0)), (1, .int x1)]) hx hb dX6_isChoice_57 hl (k := 2) rfl (by rw [ev8]; rfl) (by decide) rfl (fun ls hl => ?_)
        refine lv_goto (tgt := 7) hx hb dX6_isChoice_60 (by decide) ?_
        exact ih x1 v8 σ _ _ _ hh (lv_sub hl [1, 2, 0] rfl) hw
      · have hw := hw.2 c7
        refine lv_aload_n hx hb dX6_isChoice_24 rfl (lv_at hl 0 rfl) ?_
        refine fg_X6_126 F hh dX6_isChoice_25 ?_
        refine lv_aload_n hx hb dX6_isChoice_28 rfl (lv_at hl 0 rfl) ?_
        refine fg_X6_119 F hh dX6_isChoice_29 ?_
        refine lv_icmp_ne (tgt := 37) hx hb dX6_isChoice_32 (by decide) (fun c9 => ?_) (fun c9 => ?_)
        · have hw := hw.1 c9
          refine lv_aload_n hx hb dX6_isChoice_37 rfl (lv_at hl 0 rfl) ?_
          refine fg_X6_48 F hh dX6_isChoice_38 ?_
          refine lv_aload_n hx hb dX6_isChoice_41 rfl (lv_at hl 0 rfl) ?_
          refine fg_X6_126 F hh dX6_isChoice_42 ?_
          refine lv_iload_n hx hb dX6_isChoice_45 rfl (lv_at hl 2 rfl) ?_
          obtain ⟨q10, hw⟩ := hw
          refine wa_M_19 F hh q10 dX6_isChoice_46 (fun H locs hh => ?_)
          refine lv_aload_n hx hb dX6_isChoice_47 rfl (lv_at hl 0 rfl) ?_
          refine lv_dup hx hb dX6_isChoice_48 rfl ?_
          obtain ⟨σ11, eσ11⟩ : ∃ z : lf_St, z = (lf_sa σ 19 ((lf_gi σ 18) : Int32).toNatClampNeg x2) := ⟨_, rfl⟩
          rw [← eσ11] at hh
          have hw := hw σ11 eσ11
          refine fg_X6_126 F hh dX6_isChoice_49 ?_
          refine lv_iconst (v := 1) hx hb dX6_isChoice_52 (by decide) ?_
          refine lv_iadd hx hb dX6_isChoice_53 ?_
          refine fp_X6_126 F hh dX6_isChoice_54 (fun H locs hh => ?_)
          obtain ⟨v12, ev12⟩ : ∃ y : Int32, y = x2 + 1 := ⟨_, rfl⟩
          have hw := hw v12 ev12
          refine lv_iinc (v := v12) (lv' := [(2, .int v12), (0, .ref (ha 0)), (1, .int x1)]) hx hb dX6_isChoice_57 hl (k := 2) rfl (by rw [ev12]; rfl) (by decide) rfl (fun ls hl => ?_)
          refine lv_goto (tgt := 7) hx hb dX6_isChoice_60 (by decide) ?_
          exact ih x1 v12 (lf_si σ11 18 ((lf_gi σ11 18) + 1)) _ _ _ hh (lv_sub hl [1, 2, 0] rfl) hw
        · have hw := hw.2 c9
          refine lv_iconst (v := 0) hx hb dX6_isChoice_35 (by decide) ?_
          exact lf_retz F hh rfl hw dX6_isChoice_36
set_option maxHeartbeats 4000000 in
set_option maxRecDepth 100000 in
theorem c_X6_isChoice (l : Launch) (D : va_G) (ha : Nat → Nat) (cy : Nat → ClassId) (sz : Nat) (σ : lf_St) (x1 : Int32) (Post : Int32 → lf_St → Prop) (hw : wp_X6_isChoice x1 σ Post) : lf_Mi l yX6_isChoice (lf_ws yX6_isChoice cX6_isChoice 5 (some .boolean)) rm_X6_isChoice D (tyM_ cy) (wM_ ha cy) sz σ [.ref (ha 0), .int x1] Post := by
  refine lf_ofi (by decide +kernel) (Nat.le_of_ble_eq_true rfl) ?_
  intro p e s m args below meth c A ls F hh hl
  have hx := F.1.1
  have hb := F.1.2.1
  have hl : lv_has ls 5 [(0, .ref (ha 0)), (1, .int x1)] := hl
  obtain ⟨H, hHe⟩ : ∃ H, H = s.heap := ⟨_, rfl⟩
  rw [← hHe] at hh ⊢
  unfold wp_X6_isChoice at hw
  refine lv_aload_n hx hb dX6_isChoice_0 rfl (lv_at hl 0 rfl) ?_
  refine lv_iconst (v := 0) hx hb dX6_isChoice_1 (by decide) ?_
  refine fp_X6_126 F hh dX6_isChoice_2 (fun H locs hh => ?_)
  refine lv_iconst (v := 0) hx hb dX6_isChoice_5 (by decide) ?_
  refine lv_istore_n (lv' := [(2, .int 0), (0, .ref (ha 0)), (1, .int x1)]) hx hb dX6_isChoice_6 rfl hl (by decide) rfl (fun ls hl => ?_)
  obtain ⟨n7, hw⟩ := hw
  exact w_X6_isChoice_7 Post F  n7 x1 0 (lf_si σ 18 0) _ _ _ hh (lv_sub hl [1, 2, 0] rfl) hw
def wp_X6_isAhead (x0 : Int32) (x1 : Int32) (σ : lf_St) (Post : Int32 → lf_St → Prop) : Prop := ∀ v1 : Int32, v1 = (x0 ^^^ x1) → (((((x0 &&& v1) &&& (-v1)) = 0) → (Post 0 σ)) ∧ ((¬ (((x0 &&& v1) &&& (-v1)) = 0)) → (Post 1 σ)))
def rm_X6_isAhead : Room := ({ frames := 0, cells := 0, slots := 0, locals := 0 } : Room)
set_option maxHeartbeats 4000000 in
set_option maxRecDepth 100000 in
theorem c_X6_isAhead (l : Launch) (D : va_G) (ha : Nat → Nat) (cy : Nat → ClassId) (sz : Nat) (σ : lf_St) (x0 : Int32) (x1 : Int32) (Post : Int32 → lf_St → Prop) (hw : wp_X6_isAhead x0 x1 σ Post) : lf_Mi l yX6_isAhead (lf_ws yX6_isAhead cX6_isAhead 3 (some .boolean)) rm_X6_isAhead D (tyM_ cy) (wM_ ha cy) sz σ [.int x0, .int x1] Post := by
  refine lf_ofi (by decide +kernel) (Nat.le_of_ble_eq_true rfl) ?_
  intro p e s m args below meth c A ls F hh hl
  have hx := F.1.1
  have hb := F.1.2.1
  have hl : lv_has ls 3 [(0, .int x0), (1, .int x1)] := hl
  obtain ⟨H, hHe⟩ : ∃ H, H = s.heap := ⟨_, rfl⟩
  rw [← hHe] at hh ⊢
  unfold wp_X6_isAhead at hw
  refine lv_iload_n hx hb dX6_isAhead_0 rfl (lv_at hl 0 rfl) ?_
  refine lv_iload_n hx hb dX6_isAhead_1 rfl (lv_at hl 1 rfl) ?_
  refine lv_ixor hx hb dX6_isAhead_2 ?_
  refine lv_topi (fun v1 ev1 => ?_)
  have hw := hw v1 ev1
  refine lv_istore_n (lv' := [(2, .int v1), (0, .int x0), (1, .int x1)]) hx hb dX6_isAhead_3 rfl hl (by decide) rfl (fun ls hl => ?_)
  refine lv_iload_n hx hb dX6_isAhead_4 rfl (lv_at hl 1 rfl) ?_
  refine lv_iload_n hx hb dX6_isAhead_5 rfl (lv_at hl 0 rfl) ?_
  refine lv_iand hx hb dX6_isAhead_6 ?_
  refine lv_iload_n hx hb dX6_isAhead_7 rfl (lv_at hl 0 rfl) ?_
  refine lv_ineg hx hb dX6_isAhead_8 ?_
  refine lv_iand hx hb dX6_isAhead_9 ?_
  refine lv_if_eq (tgt := 17) hx hb dX6_isAhead_10 (by decide) (fun c2 => ?_) (fun c2 => ?_)
  · have hw := hw.1 c2
    refine lv_iconst (v := 0) hx hb dX6_isAhead_17 (by decide) ?_
    exact lf_retz F hh rfl hw dX6_isAhead_18
  · have hw := hw.2 c2
    refine lv_iconst (v := 1) hx hb dX6_isAhead_13 (by decide) ?_
    refine lv_goto (tgt := 18) hx hb dX6_isAhead_14 (by decide) ?_
    exact lf_retz F hh rfl hw dX6_isAhead_18
def L_X6_bits_4 (Post : Int32 → lf_St → Prop) : Nat → Int32 → Int32 → Int32 → lf_St → Prop
  | 0, _, _, _, _ => False
  | n + 1, x0, x1, x2, σ => ((10 ≤ x2) → (Post x1 σ)) ∧ ((¬ (10 ≤ x2)) → (∀ v2 : Int32, v2 = (x1 + ((x0 >>> (x2 &&& 31)) &&& 1)) → (∀ v3 : Int32, v3 = x2 + 1 → (L_X6_bits_4 Post n x0 v2 v3 σ))))
def wp_X6_bits (x0 : Int32) (σ : lf_St) (Post : Int32 → lf_St → Prop) : Prop := ∃ fu : Nat, L_X6_bits_4 Post fu x0 0 0 σ
def rm_X6_bits : Room := ({ frames := 0, cells := 0, slots := 0, locals := 0 } : Room)
set_option maxHeartbeats 4000000 in
set_option maxRecDepth 100000 in
theorem w_X6_bits_4 {p : Program} {l : Launch} {e : Env} {s : State} {m : MethodId} {args : Array Value} {below : List Frame} {meth : Method} {c : Code} {D : va_G} {A : Nat → Prop} {ha : Nat → Nat} {cy : Nat → ClassId} (Post : Int32 → lf_St → Prop) (F : lf_C p s m args meth c RX6 cX6_bits 3 (some .int) D (tyM_ cy) A) : ∀ (n : Nat) (x0 : Int32) (x1 : Int32) (x2 : Int32) (σ : lf_St) (H : Heap) (locs : List Loc) (ls : Array Slot), lf_H D (wM_ ha cy) A s σ H locs → lv_has ls 3 [(0, .int x0), (1, .int x1), (2, .int x2)] → L_X6_bits_4 Post n x0 x1 x2 σ → W p l e rm_X6_bits s m args below meth c H locs 0 0 (lf_Qi below args s D (tyM_ cy) A (wM_ ha cy) Post) (F0 m 4 ls []) := by
  have hx := F.1.1
  have hb := F.1.2.1
  intro n
  induction n with
  | zero =>
    intro x0 x1 x2 σ H locs ls hh hl hw
    exact False.elim hw
  | succ n ih =>
    intro x0 x1 x2 σ H locs ls hh hl hw
    unfold L_X6_bits_4 at hw
    refine lv_iload_n hx hb dX6_bits_4 rfl (lv_at hl 2 rfl) ?_
    refine lv_bipush (v := 10) hx hb dX6_bits_5 (by decide) ?_
    refine lv_icmp_ge (tgt := 24) hx hb dX6_bits_7 (by decide) (fun c1 => ?_) (fun c1 => ?_)
    · have hw := hw.1 c1
      refine lv_iload_n hx hb dX6_bits_24 rfl (lv_at hl 1 rfl) ?_
      exact lf_reti F hh hw dX6_bits_25
    · have hw := hw.2 c1
      refine lv_iload_n hx hb dX6_bits_10 rfl (lv_at hl 1 rfl) ?_
      refine lv_iload_n hx hb dX6_bits_11 rfl (lv_at hl 0 rfl) ?_
      refine lv_iload_n hx hb dX6_bits_12 rfl (lv_at hl 2 rfl) ?_
      refine lv_ishr hx hb dX6_bits_13 ?_
      refine lv_iconst (v := 1) hx hb dX6_bits_14 (by decide) ?_
      refine lv_iand hx hb dX6_bits_15 ?_
      refine lv_iadd hx hb dX6_bits_16 ?_
      refine lv_topi (fun v2 ev2 => ?_)
      have hw := hw v2 ev2
      refine lv_istore_n (lv' := [(1, .int v2), (0, .int x0), (2, .int x2)]) hx hb dX6_bits_17 rfl hl (by decide) rfl (fun ls hl => ?_)
      obtain ⟨v3, ev3⟩ : ∃ y : Int32, y = x2 + 1 := ⟨_, rfl⟩
      have hw := hw v3 ev3
      refine lv_iinc (v := v3) (lv' := [(2, .int v3), (1, .int v2), (0, .int x0)]) hx hb dX6_bits_18 hl (k := 2) rfl (by rw [ev3]; rfl) (by decide) rfl (fun ls hl => ?_)
      refine lv_goto (tgt := 4) hx hb dX6_bits_21 (by decide) ?_
      exact ih x0 v2 v3 σ _ _ _ hh (lv_sub hl [2, 1, 0] rfl) hw
set_option maxHeartbeats 4000000 in
set_option maxRecDepth 100000 in
theorem c_X6_bits (l : Launch) (D : va_G) (ha : Nat → Nat) (cy : Nat → ClassId) (sz : Nat) (σ : lf_St) (x0 : Int32) (Post : Int32 → lf_St → Prop) (hw : wp_X6_bits x0 σ Post) : lf_Mi l yX6_bits (lf_ws yX6_bits cX6_bits 3 (some .int)) rm_X6_bits D (tyM_ cy) (wM_ ha cy) sz σ [.int x0] Post := by
  refine lf_ofi (by decide +kernel) (Nat.le_of_ble_eq_true rfl) ?_
  intro p e s m args below meth c A ls F hh hl
  have hx := F.1.1
  have hb := F.1.2.1
  have hl : lv_has ls 3 [(0, .int x0)] := hl
  obtain ⟨H, hHe⟩ : ∃ H, H = s.heap := ⟨_, rfl⟩
  rw [← hHe] at hh ⊢
  unfold wp_X6_bits at hw
  refine lv_iconst (v := 0) hx hb dX6_bits_0 (by decide) ?_
  refine lv_istore_n (lv' := [(1, .int 0), (0, .int x0)]) hx hb dX6_bits_1 rfl hl (by decide) rfl (fun ls hl => ?_)
  refine lv_iconst (v := 0) hx hb dX6_bits_2 (by decide) ?_
  refine lv_istore_n (lv' := [(2, .int 0), (1, .int 0), (0, .int x0)]) hx hb dX6_bits_3 rfl hl (by decide) rfl (fun ls hl => ?_)
  obtain ⟨n4, hw⟩ := hw
  exact w_X6_bits_4 Post F  n4 x0 0 0 σ _ _ _ hh (lv_sub hl [2, 1, 0] rfl) hw
theorem cw_X6_144 {R : Room} {s : State} {args : Array Value} (ht : ∀ w ∈ wsL_law, w.before args s = true) (hR : rm_X6_isAhead.frames + 1 ≤ R.frames ∧ 8 + (3 + 11) + rm_X6_isAhead.locals ≤ R.locals) : lf_cS R s args RX6 144 yX6_isAhead cX6_isAhead 3 (some .boolean) rm_X6_isAhead 2 :=
  lf_cS_of 2 ht (lr_23 _ (List.mem_of_getElem? (i := 20) rfl)) (lr_23 _ (List.mem_of_getElem? (i := 18) rfl)) (lr_23 _ (List.mem_of_getElem? (i := 19) rfl)) (lr_1 _ (List.mem_of_getElem? (i := 5) rfl)) rfl rfl (by decide +kernel) hR
theorem cw_X6_147 {R : Room} {s : State} {args : Array Value} (ht : ∀ w ∈ wsL_law, w.before args s = true) (hR : rm_X6_bits.frames + 1 ≤ R.frames ∧ 8 + (3 + 11) + rm_X6_bits.locals ≤ R.locals) : lf_cS R s args RX6 147 yX6_bits cX6_bits 3 (some .int) rm_X6_bits 1 :=
  lf_cS_of 1 ht (lr_23 _ (List.mem_of_getElem? (i := 17) rfl)) (lr_23 _ (List.mem_of_getElem? (i := 15) rfl)) (lr_23 _ (List.mem_of_getElem? (i := 16) rfl)) (lr_1 _ (List.mem_of_getElem? (i := 5) rfl)) rfl rfl (by decide +kernel) hR
def J_X6_after_32 (K_5 : Int32 → Int32 → Int32 → lf_St → Prop) (Post : Int32 → lf_St → Prop) (x1 : Int32) (x2 : Int32) (x3 : Int32) (t0 : Int32) (σ : lf_St) : Prop := wp_X6_bits x3 σ (fun r1 σ1 => ((¬ r1 = (lf_gi σ1 14)) → (∀ v3 : Int32, v3 = x3 + 1 → (K_5 x1 x2 v3 σ1))) ∧ ((r1 = (lf_gi σ1 14)) → (((t0 = 0) → (∀ v5 : Int32, v5 = x3 + 1 → (K_5 x1 x2 v5 σ1))) ∧ ((¬ (t0 = 0)) → (((x2 < 0) → (∀ v7 : Int32, v7 = x3 + 1 → (K_5 x1 x3 v7 σ1))) ∧ ((¬ (x2 < 0)) → (wp_X6_isAhead x3 x2 σ1 (fun r8 σ8 => ((r8 = 0) → (∀ v10 : Int32, v10 = x3 + 1 → (K_5 x1 x2 v10 σ8))) ∧ ((¬ (r8 = 0)) → (∀ v11 : Int32, v11 = x3 + 1 → (K_5 x1 x3 v11 σ8)))))))))))
def J_X6_after_27 (K_5 : Int32 → Int32 → Int32 → lf_St → Prop) (Post : Int32 → lf_St → Prop) (x1 : Int32) (x2 : Int32) (x3 : Int32) (σ : lf_St) : Prop := J_X6_after_32 K_5 Post x1 x2 x3 1 σ
def L_X6_after_5 (Post : Int32 → lf_St → Prop) : Nat → Int32 → Int32 → Int32 → lf_St → Prop
  | 0, _, _, _, _ => False
  | n + 1, x1, x2, x3, σ => (((1 <<< ((lf_gi σ 6) &&& 31)) ≤ x3) → (Post x2 σ)) ∧ ((¬ ((1 <<< ((lf_gi σ 6) &&& 31)) ≤ x3)) → (((x1 < 0) → (J_X6_after_27 (L_X6_after_5 Post n) Post x1 x2 x3 σ)) ∧ ((¬ (x1 < 0)) → (wp_X6_isAhead x1 x3 σ (fun r3 σ3 => ((r3 = 0) → (J_X6_after_32 (L_X6_after_5 Post n) Post x1 x2 x3 0 σ3)) ∧ ((¬ (r3 = 0)) → (J_X6_after_27 (L_X6_after_5 Post n) Post x1 x2 x3 σ3)))))))
def wp_X6_after (x1 : Int32) (σ : lf_St) (Post : Int32 → lf_St → Prop) : Prop := ∃ fu : Nat, L_X6_after_5 Post fu x1 (-6) 0 σ
def rm_X6_after : Room := ({ frames := 1, cells := 0, slots := 0, locals := 22 } : Room)
set_option maxHeartbeats 4000000 in
set_option maxRecDepth 100000 in
theorem w_X6_after_32 {p : Program} {l : Launch} {e : Env} {s : State} {m : MethodId} {args : Array Value} {below : List Frame} {meth : Method} {c : Code} {D : va_G} {A : Nat → Prop} {ha : Nat → Nat} {cy : Nat → ClassId} (K_5 : Int32 → Int32 → Int32 → lf_St → Prop) (Post : Int32 → lf_St → Prop) (F : lf_C p s m args meth c RX6 cX6_after 5 (some .int) D (tyM_ cy) A) (hK_5 : ∀ (x1 : Int32) (x2 : Int32) (x3 : Int32) (σ : lf_St) (H : Heap) (locs : List Loc) (ls : Array Slot), lf_H D (wM_ ha cy) A s σ H locs → lv_has ls 5 [(0, .ref (ha 0)), (1, .int x1), (2, .int x2), (3, .int x3)] → K_5 x1 x2 x3 σ → W p l e rm_X6_after s m args below meth c H locs 0 0 (lf_Qi below args s D (tyM_ cy) A (wM_ ha cy) Post) (F0 m 5 ls [])) (x1 : Int32) (x2 : Int32) (x3 : Int32) (t0 : Int32) (σ : lf_St) (H : Heap) (locs : List Loc) (ls : Array Slot) (hh : lf_H D (wM_ ha cy) A s σ H locs) (hl : lv_has ls 5 [(0, .ref (ha 0)), (1, .int x1), (2, .int x2), (3, .int x3)]) (hw : J_X6_after_32 K_5 Post x1 x2 x3 t0 σ) : W p l e rm_X6_after s m args below meth c H locs 0 0 (lf_Qi below args s D (tyM_ cy) A (wM_ ha cy) Post) (F0 m 32 ls [.int t0]) := by
  have hx := F.1.1
  have hb := F.1.2.1
  unfold J_X6_after_32 at hw
  refine lv_istore (lv' := [(4, .int t0), (0, .ref (ha 0)), (1, .int x1), (2, .int x2), (3, .int x3)]) hx hb dX6_after_32 hl (by decide) rfl (fun ls hl => ?_)
  refine lv_iload_n hx hb dX6_after_34 rfl (lv_at hl 4 rfl) ?_
  refine lf_callSi (rest := []) F hh (cw_X6_147 F.1.2.2.2.2 ⟨Nat.le_of_ble_eq_true rfl, Nat.le_of_ble_eq_true rfl⟩) (c_X6_bits l D ha cy H.size σ x3 _ hw) rfl hl.1 (Nat.le_of_ble_eq_true rfl) dX6_after_35 rfl (fun r1 σ1 H locs hw hh => ?_)
  refine lv_aload_n hx hb dX6_after_38 rfl (lv_at hl 1 rfl) ?_
  refine fg_X6_119 F hh dX6_after_39 ?_
  refine lv_icmp_ne (tgt := 66) hx hb dX6_after_42 (by decide) (fun c2 => ?_) (fun c2 => ?_)
  · have hw := hw.1 c2
    refine lv_iload_n hx hb dX6_after_66 rfl (lv_at hl 3 rfl) ?_
    refine lv_istore_n (lv' := [(2, .int x2), (4, .int t0), (0, .ref (ha 0)), (1, .int x1), (3, .int x3)]) hx hb dX6_after_67 rfl hl (by decide) rfl (fun ls hl => ?_)
    obtain ⟨v3, ev3⟩ : ∃ y : Int32, y = x3 + 1 := ⟨_, rfl⟩
    have hw := hw v3 ev3
    refine lv_iinc (v := v3) (lv' := [(3, .int v3), (2, .int x2), (4, .int t0), (0, .ref (ha 0)), (1, .int x1)]) hx hb dX6_after_68 hl (k := 4) rfl (by rw [ev3]; rfl) (by decide) rfl (fun ls hl => ?_)
    refine lv_goto (tgt := 5) hx hb dX6_after_71 (by decide) ?_
    exact hK_5 x1 x2 v3 σ1 _ _ _ hh (lv_sub hl [3, 4, 1, 0] rfl) hw
  · have hw := hw.2 c2
    refine lv_iload hx hb dX6_after_45 (lv_at hl 0 rfl) ?_
    refine lv_if_eq (tgt := 66) hx hb dX6_after_47 (by decide) (fun c4 => ?_) (fun c4 => ?_)
    · have hw := hw.1 c4
      refine lv_iload_n hx hb dX6_after_66 rfl (lv_at hl 3 rfl) ?_
      refine lv_istore_n (lv' := [(2, .int x2), (4, .int t0), (0, .ref (ha 0)), (1, .int x1), (3, .int x3)]) hx hb dX6_after_67 rfl hl (by decide) rfl (fun ls hl => ?_)
      obtain ⟨v5, ev5⟩ : ∃ y : Int32, y = x3 + 1 := ⟨_, rfl⟩
      have hw := hw v5 ev5
      refine lv_iinc (v := v5) (lv' := [(3, .int v5), (2, .int x2), (4, .int t0), (0, .ref (ha 0)), (1, .int x1)]) hx hb dX6_after_68 hl (k := 4) rfl (by rw [ev5]; rfl) (by decide) rfl (fun ls hl => ?_)
      refine lv_goto (tgt := 5) hx hb dX6_after_71 (by decide) ?_
      exact hK_5 x1 x2 v5 σ1 _ _ _ hh (lv_sub hl [3, 4, 1, 0] rfl) hw
    · have hw := hw.2 c4
      refine lv_iload_n hx hb dX6_after_50 rfl (lv_at hl 3 rfl) ?_
      refine lv_if_lt (tgt := 62) hx hb dX6_after_51 (by decide) (fun c6 => ?_) (fun c6 => ?_)
      · have hw := hw.1 c6
        refine lv_iload_n hx hb dX6_after_62 rfl (lv_at hl 4 rfl) ?_
        refine lv_goto (tgt := 67) hx hb dX6_after_63 (by decide) ?_
        refine lv_istore_n (lv' := [(2, .int x3), (4, .int t0), (0, .ref (ha 0)), (1, .int x1), (3, .int x3)]) hx hb dX6_after_67 rfl hl (by decide) rfl (fun ls hl => ?_)
        obtain ⟨v7, ev7⟩ : ∃ y : Int32, y = x3 + 1 := ⟨_, rfl⟩
        have hw := hw v7 ev7
        refine lv_iinc (v := v7) (lv' := [(3, .int v7), (2, .int x3), (4, .int t0), (0, .ref (ha 0)), (1, .int x1)]) hx hb dX6_after_68 hl (k := 4) rfl (by rw [ev7]; rfl) (by decide) rfl (fun ls hl => ?_)
        refine lv_goto (tgt := 5) hx hb dX6_after_71 (by decide) ?_
        exact hK_5 x1 x3 v7 σ1 _ _ _ hh (lv_sub hl [3, 4, 1, 0] rfl) hw
      · have hw := hw.2 c6
        refine lv_iload_n hx hb dX6_after_54 rfl (lv_at hl 4 rfl) ?_
        refine lv_iload_n hx hb dX6_after_55 rfl (lv_at hl 3 rfl) ?_
        refine lf_callSi (rest := []) F hh (cw_X6_144 F.1.2.2.2.2 ⟨Nat.le_of_ble_eq_true rfl, Nat.le_of_ble_eq_true rfl⟩) (c_X6_isAhead l D ha cy H.size σ1 x3 x2 _ hw) rfl hl.1 (Nat.le_of_ble_eq_true rfl) dX6_after_56 rfl (fun r8 σ8 H locs hw hh => ?_)
        refine lv_if_eq (tgt := 66) hx hb dX6_after_59 (by decide) (fun c9 => ?_) (fun c9 => ?_)
        · have hw := hw.1 c9
          refine lv_iload_n hx hb dX6_after_66 rfl (lv_at hl 3 rfl) ?_
          refine lv_istore_n (lv' := [(2, .int x2), (4, .int t0), (0, .ref (ha 0)), (1, .int x1), (3, .int x3)]) hx hb dX6_after_67 rfl hl (by decide) rfl (fun ls hl => ?_)
          obtain ⟨v10, ev10⟩ : ∃ y : Int32, y = x3 + 1 := ⟨_, rfl⟩
          have hw := hw v10 ev10
          refine lv_iinc (v := v10) (lv' := [(3, .int v10), (2, .int x2), (4, .int t0), (0, .ref (ha 0)), (1, .int x1)]) hx hb dX6_after_68 hl (k := 4) rfl (by rw [ev10]; rfl) (by decide) rfl (fun ls hl => ?_)
          refine lv_goto (tgt := 5) hx hb dX6_after_71 (by decide) ?_
          exact hK_5 x1 x2 v10 σ8 _ _ _ hh (lv_sub hl [3, 4, 1, 0] rfl) hw
        · have hw := hw.2 c9
          refine lv_iload_n hx hb dX6_after_62 rfl (lv_at hl 4 rfl) ?_
          refine lv_goto (tgt := 67) hx hb dX6_after_63 (by decide) ?_
          refine lv_istore_n (lv' := [(2, .int x3), (4, .int t0), (0, .ref (ha 0)), (1, .int x1), (3, .int x3)]) hx hb dX6_after_67 rfl hl (by decide) rfl (fun ls hl => ?_)
          obtain ⟨v11, ev11⟩ : ∃ y : Int32, y = x3 + 1 := ⟨_, rfl⟩
          have hw := hw v11 ev11
          refine lv_iinc (v := v11) (lv' := [(3, .int v11), (2, .int x3), (4, .int t0), (0, .ref (ha 0)), (1, .int x1)]) hx hb dX6_after_68 hl (k := 4) rfl (by rw [ev11]; rfl) (by decide) rfl (fun ls hl => ?_)
          refine lv_goto (tgt := 5) hx hb dX6_after_71 (by decide) ?_
          exact hK_5 x1 x3 v11 σ8 _ _ _ hh (lv_sub hl [3, 4, 1, 0] rfl) hw
set_option maxHeartbeats 4000000 in
set_option maxRecDepth 100000 in
theorem w_X6_after_27 {p : Program} {l : Launch} {e : Env} {s : State} {m : MethodId} {args : Array Value} {below : List Frame} {meth : Method} {c : Code} {D : va_G} {A : Nat → Prop} {ha : Nat → Nat} {cy : Nat → ClassId} (K_5 : Int32 → Int32 → Int32 → lf_St → Prop) (Post : Int32 → lf_St → Prop) (F : lf_C p s m args meth c RX6 cX6_after 5 (some .int) D (tyM_ cy) A) (hK_5 : ∀ (x1 : Int32) (x2 : Int32) (x3 : Int32) (σ : lf_St) (H : Heap) (locs : List Loc) (ls : Array Slot), lf_H D (wM_ ha cy) A s σ H locs → lv_has ls 5 [(0, .ref (ha 0)), (1, .int x1), (2, .int x2), (3, .int x3)] → K_5 x1 x2 x3 σ → W p l e rm_X6_after s m args below meth c H locs 0 0 (lf_Qi below args s D (tyM_ cy) A (wM_ ha cy) Post) (F0 m 5 ls [])) (x1 : Int32) (x2 : Int32) (x3 : Int32) (σ : lf_St) (H : Heap) (locs : List Loc) (ls : Array Slot) (hh : lf_H D (wM_ ha cy) A s σ H locs) (hl : lv_has ls 5 [(0, .ref (ha 0)), (1, .int x1), (2, .int x2), (3, .int x3)]) (hw : J_X6_after_27 K_5 Post x1 x2 x3 σ) : W p l e rm_X6_after s m args below meth c H locs 0 0 (lf_Qi below args s D (tyM_ cy) A (wM_ ha cy) Post) (F0 m 27 ls []) := by
  have hx := F.1.1
  have hb := F.1.2.1
  unfold J_X6_after_27 at hw
  refine lv_iconst (v := 1) hx hb dX6_after_27 (by decide) ?_
  refine lv_goto (tgt := 32) hx hb dX6_after_28 (by decide) ?_
  exact w_X6_after_32 _ Post F hK_5 x1 x2 x3 1 σ _ _ _ hh (lv_sub hl [0, 1, 2, 3] rfl) hw
set_option maxHeartbeats 4000000 in
set_option maxRecDepth 100000 in
theorem w_X6_after_5 {p : Program} {l : Launch} {e : Env} {s : State} {m : MethodId} {args : Array Value} {below : List Frame} {meth : Method} {c : Code} {D : va_G} {A : Nat → Prop} {ha : Nat → Nat} {cy : Nat → ClassId} (Post : Int32 → lf_St → Prop) (F : lf_C p s m args meth c RX6 cX6_after 5 (some .int) D (tyM_ cy) A) : ∀ (n : Nat) (x1 : Int32) (x2 : Int32) (x3 : Int32) (σ : lf_St) (H : Heap) (locs : List Loc) (ls : Array Slot), lf_H D (wM_ ha cy) A s σ H locs → lv_has ls 5 [(0, .ref (ha 0)), (1, .int x1), (2, .int x2), (3, .int x3)] → L_X6_after_5 Post n x1 x2 x3 σ → W p l e rm_X6_after s m args below meth c H locs 0 0 (lf_Qi below args s D (tyM_ cy) A (wM_ ha cy) Post) (F0 m 5 ls []) := by
  have hx := F.1.1
  have hb := F.1.2.1
  intro n
  induction n with
  | zero =>
    intro x1 x2 x3 σ H locs ls hh hl hw
    exact False.elim hw
  | succ n ih =>
    intro x1 x2 x3 σ H locs ls hh hl hw
    unfold L_X6_after_5 at hw
    refine lv_iload_n hx hb dX6_after_5 rfl (lv_at hl 3 rfl) ?_
    refine lv_iconst (v := 1) hx hb dX6_after_6 (by decide) ?_
    refine lv_aload_n hx hb dX6_after_7 rfl (lv_at hl 0 rfl) ?_
    refine fg_X6_65 F hh dX6_after_8 ?_
    refine lv_ishl hx hb dX6_after_11 ?_
    refine lv_icmp_ge (tgt := 74) hx hb dX6_after_12 (by decide) (fun c1 => ?_) (fun c1 => ?_)
    · have hw := hw.1 c1
      refine lv_iload_n hx hb dX6_after_74 rfl (lv_at hl 2 rfl) ?_
      exact lf_reti F hh hw dX6_after_75
    · have hw := hw.2 c1
      refine lv_iload_n hx hb dX6_after_15 rfl (lv_at hl 1 rfl) ?_
      refine lv_if_lt (tgt := 27) hx hb dX6_after_16 (by decide) (fun c2 => ?_) (fun c2 => ?_)
      · have hw := hw.1 c2
        exact w_X6_after_27 _ Post F ih x1 x2 x3 σ _ _ _ hh (lv_sub hl [0, 1, 2, 3] rfl) hw
      · have hw := hw.2 c2
        refine lv_iload_n hx hb dX6_after_19 rfl (lv_at hl 1 rfl) ?_
        refine lv_iload_n hx hb dX6_after_20 rfl (lv_at hl 3 rfl) ?_
        refine lf_callSi (rest := []) F hh (cw_X6_144 F.1.2.2.2.2 ⟨Nat.le_of_ble_eq_true rfl, Nat.le_of_ble_eq_true rfl⟩) (c_X6_isAhead l D ha cy H.size σ x1 x3 _ hw) rfl hl.1 (Nat.le_of_ble_eq_true rfl) dX6_after_21 rfl (fun r3 σ3 H locs hw hh => ?_)
        refine lv_if_eq (tgt := 31) hx hb dX6_after_24 (by decide) (fun c4 => ?_) (fun c4 => ?_)
        · have hw := hw.1 c4
          refine lv_iconst (v := 0) hx hb dX6_after_31 (by decide) ?_
          exact w_X6_after_32 _ Post F ih x1 x2 x3 0 σ3 _ _ _ hh (lv_sub hl [0, 1, 2, 3] rfl) hw
        · have hw := hw.2 c4
          exact w_X6_after_27 _ Post F ih x1 x2 x3 σ3 _ _ _ hh (lv_sub hl [0, 1, 2, 3] rfl) hw
set_option maxHeartbeats 4000000 in
set_option maxRecDepth 100000 in
theorem c_X6_after (l : Launch) (D : va_G) (ha : Nat → Nat) (cy : Nat → ClassId) (sz : Nat) (σ : lf_St) (x1 : Int32) (Post : Int32 → lf_St → Prop) (hw : wp_X6_after x1 σ Post) : lf_Mi l yX6_after (lf_ws yX6_after cX6_after 5 (some .int)) rm_X6_after D (tyM_ cy) (wM_ ha cy) sz σ [.ref (ha 0), .int x1] Post := by
  refine lf_ofi (by decide +kernel) (Nat.le_of_ble_eq_true rfl) ?_
  intro p e s m args below meth c A ls F hh hl
  have hx := F.1.1
  have hb := F.1.2.1
  have hl : lv_has ls 5 [(0, .ref (ha 0)), (1, .int x1)] := hl
  obtain ⟨H, hHe⟩ : ∃ H, H = s.heap := ⟨_, rfl⟩
  rw [← hHe] at hh ⊢
  unfold wp_X6_after at hw
  refine lv_bipush (v := (-6)) hx hb dX6_after_0 (by decide) ?_
  refine lv_istore_n (lv' := [(2, .int (-6)), (0, .ref (ha 0)), (1, .int x1)]) hx hb dX6_after_2 rfl hl (by decide) rfl (fun ls hl => ?_)
  refine lv_iconst (v := 0) hx hb dX6_after_3 (by decide) ?_
  refine lv_istore_n (lv' := [(3, .int 0), (2, .int (-6)), (0, .ref (ha 0)), (1, .int x1)]) hx hb dX6_after_4 rfl hl (by decide) rfl (fun ls hl => ?_)
  obtain ⟨n5, hw⟩ := hw
  exact w_X6_after_5 Post F  n5 x1 (-6) 0 σ _ _ _ hh (lv_sub hl [2, 3, 1, 0] rfl) hw
theorem cw_X6_150 {R : Room} {s : State} {args : Array Value} (ht : ∀ w ∈ wsL_law, w.before args s = true) (hR : rm_X6_layRows.frames + 1 ≤ R.frames ∧ 8 + (2 + 11) + rm_X6_layRows.locals ≤ R.locals) : lf_cV R s args RX6 RX6 150 yX6_layRows cX6_layRows 2 none rm_X6_layRows 0 :=
  lf_cV_of 0 ht (lr_20 _ (List.mem_of_getElem? (i := 14) rfl)) (lr_20 _ (List.mem_of_getElem? (i := 11) rfl)) (lr_20 _ (List.mem_of_getElem? (i := 12) rfl)) (lr_20 _ (List.mem_of_getElem? (i := 13) rfl)) (lr_1 _ (List.mem_of_getElem? (i := 5) rfl)) rfl rfl (by decide +kernel) hR
theorem cw_X6_153 {R : Room} {s : State} {args : Array Value} (ht : ∀ w ∈ wsL_law, w.before args s = true) (hR : rm_X6_isChoice.frames + 1 ≤ R.frames ∧ 8 + (5 + 11) + rm_X6_isChoice.locals ≤ R.locals) : lf_cV R s args RX6 RX6 153 yX6_isChoice cX6_isChoice 5 (some .boolean) rm_X6_isChoice 1 :=
  lf_cV_of 1 ht (lr_20 _ (List.mem_of_getElem? (i := 19) rfl)) (lr_20 _ (List.mem_of_getElem? (i := 16) rfl)) (lr_20 _ (List.mem_of_getElem? (i := 17) rfl)) (lr_20 _ (List.mem_of_getElem? (i := 18) rfl)) (lr_1 _ (List.mem_of_getElem? (i := 5) rfl)) rfl rfl (by decide +kernel) hR
def L_X6_stiff_27 (Post : Int32 → lf_St → Prop) : Nat → Int32 → Int32 → lf_St → Prop
  | 0, _, _, _ => False
  | n + 1, x1, x2, σ => (((1 <<< ((lf_gi σ 6) &&& 31)) ≤ x2) → (Post 0 σ)) ∧ ((¬ ((1 <<< ((lf_gi σ 6) &&& 31)) ≤ x2)) → (((¬ (x2 &&& (x1 ^^^ (-1))) = 0) → (∀ v3 : Int32, v3 = x2 + 1 → (L_X6_stiff_27 Post n x1 v3 σ))) ∧ (((x2 &&& (x1 ^^^ (-1))) = 0) → (wp_X6_isChoice x2 σ (fun r4 σ4 => ((r4 = 0) → (∀ v6 : Int32, v6 = x2 + 1 → (L_X6_stiff_27 Post n x1 v6 σ4))) ∧ ((¬ (r4 = 0)) → (Post 1 σ4)))))))
def wp_X6_stiff (x1 : Int32) (σ : lf_St) (Post : Int32 → lf_St → Prop) : Prop := wp_X6_in (x1.toInt64) 0 ((((1 <<< ((lf_gi σ 6) &&& 31)) - 1) : Int32).toInt64) σ (fun r1 σ1 => ((¬ r1 = 0) → (wp_X6_layRows σ1 (fun σ3 => ∃ fu : Nat, L_X6_stiff_27 Post fu x1 0 σ3))) ∧ ((r1 = 0) → (Post (-2) σ1)))
def rm_X6_stiff : Room := ({ frames := 3, cells := 0, slots := 0, locals := 71 } : Room)
set_option maxHeartbeats 4000000 in
set_option maxRecDepth 100000 in
theorem w_X6_stiff_27 {p : Program} {l : Launch} {e : Env} {s : State} {m : MethodId} {args : Array Value} {below : List Frame} {meth : Method} {c : Code} {D : va_G} {A : Nat → Prop} {ha : Nat → Nat} {cy : Nat → ClassId} (Post : Int32 → lf_St → Prop) (F : lf_C p s m args meth c RX6 cX6_stiff 3 (some .int) D (tyM_ cy) A) : ∀ (n : Nat) (x1 : Int32) (x2 : Int32) (σ : lf_St) (H : Heap) (locs : List Loc) (ls : Array Slot), lf_H D (wM_ ha cy) A s σ H locs → lv_has ls 3 [(0, .ref (ha 0)), (1, .int x1), (2, .int x2)] → L_X6_stiff_27 Post n x1 x2 σ → W p l e rm_X6_stiff s m args below meth c H locs 0 0 (lf_Qi below args s D (tyM_ cy) A (wM_ ha cy) Post) (F0 m 27 ls []) := by
  have hx := F.1.1
  have hb := F.1.2.1
  intro n
  induction n with
  | zero =>
    intro x1 x2 σ H locs ls hh hl hw
    exact False.elim hw
  | succ n ih =>
    intro x1 x2 σ H locs ls hh hl hw
    unfold L_X6_stiff_27 at hw
    refine lv_iload_n hx hb dX6_stiff_27 rfl (lv_at hl 2 rfl) ?_
    refine lv_iconst (v := 1) hx hb dX6_stiff_28 (by decide) ?_
    refine lv_aload_n hx hb dX6_stiff_29 rfl (lv_at hl 0 rfl) ?_
    refine fg_X6_65 F hh dX6_stiff_30 ?_
    refine lv_ishl hx hb dX6_stiff_33 ?_
    refine lv_icmp_ge (tgt := 61) hx hb dX6_stiff_34 (by decide) (fun c1 => ?_) (fun c1 => ?_)
    · have hw := hw.1 c1
      refine lv_iconst (v := 0) hx hb dX6_stiff_61 (by decide) ?_
      exact lf_reti F hh hw dX6_stiff_62
    · have hw := hw.2 c1
      refine lv_iload_n hx hb dX6_stiff_37 rfl (lv_at hl 2 rfl) ?_
      refine lv_iload_n hx hb dX6_stiff_38 rfl (lv_at hl 1 rfl) ?_
      refine lv_iconst (v := (-1)) hx hb dX6_stiff_39 (by decide) ?_
      refine lv_ixor hx hb dX6_stiff_40 ?_
      refine lv_iand hx hb dX6_stiff_41 ?_
      refine lv_if_ne (tgt := 55) hx hb dX6_stiff_42 (by decide) (fun c2 => ?_) (fun c2 => ?_)
      · have hw := hw.1 c2
        obtain ⟨v3, ev3⟩ : ∃ y : Int32, y = x2 + 1 := ⟨_, rfl⟩
        have hw := hw v3 ev3
        refine lv_iinc (v := v3) (lv' := [(2, .int v3), (0, .ref (ha 0)), (1, .int x1)]) hx hb dX6_stiff_55 hl (k := 2) rfl (by rw [ev3]; rfl) (by decide) rfl (fun ls hl => ?_)
        refine lv_goto (tgt := 27) hx hb dX6_stiff_58 (by decide) ?_
        exact ih x1 v3 σ _ _ _ hh (lv_sub hl [1, 2, 0] rfl) hw
      · have hw := hw.2 c2
        refine lv_aload_n hx hb dX6_stiff_45 rfl (lv_at hl 0 rfl) ?_
        refine lv_iload_n hx hb dX6_stiff_46 rfl (lv_at hl 2 rfl) ?_
        refine lf_callVi (rest := []) F hh (cw_X6_153 F.1.2.2.2.2 ⟨Nat.le_of_ble_eq_true rfl, Nat.le_of_ble_eq_true rfl⟩) (c_X6_isChoice l D ha cy H.size σ x2 _ hw) 0 6 rfl rfl rfl rfl hl.1 (Nat.le_of_ble_eq_true rfl) dX6_stiff_47 rfl (fun r4 σ4 H locs hw hh => ?_)
        refine lv_if_eq (tgt := 55) hx hb dX6_stiff_50 (by decide) (fun c5 => ?_) (fun c5 => ?_)
        · have hw := hw.1 c5
          obtain ⟨v6, ev6⟩ : ∃ y : Int32, y = x2 + 1 := ⟨_, rfl⟩
          have hw := hw v6 ev6
          refine lv_iinc (v := v6) (lv' := [(2, .int v6), (0, .ref (ha 0)), (1, .int x1)]) hx hb dX6_stiff_55 hl (k := 2) rfl (by rw [ev6]; rfl) (by decide) rfl (fun ls hl => ?_)
          refine lv_goto (tgt := 27) hx hb dX6_stiff_58 (by decide) ?_
          exact ih x1 v6 σ4 _ _ _ hh (lv_sub hl [1, 2, 0] rfl) hw
        · have hw := hw.2 c5
          refine lv_iconst (v := 1) hx hb dX6_stiff_53 (by decide) ?_
          exact lf_reti F hh hw dX6_stiff_54
set_option maxHeartbeats 4000000 in
set_option maxRecDepth 100000 in
theorem c_X6_stiff (l : Launch) (D : va_G) (ha : Nat → Nat) (cy : Nat → ClassId) (sz : Nat) (σ : lf_St) (x1 : Int32) (Post : Int32 → lf_St → Prop) (hw : wp_X6_stiff x1 σ Post) : lf_Mi l yX6_stiff (lf_ws yX6_stiff cX6_stiff 3 (some .int)) rm_X6_stiff D (tyM_ cy) (wM_ ha cy) sz σ [.ref (ha 0), .int x1] Post := by
  refine lf_ofi (by decide +kernel) (Nat.le_of_ble_eq_true rfl) ?_
  intro p e s m args below meth c A ls F hh hl
  have hx := F.1.1
  have hb := F.1.2.1
  have hl : lv_has ls 3 [(0, .ref (ha 0)), (1, .int x1)] := hl
  obtain ⟨H, hHe⟩ : ∃ H, H = s.heap := ⟨_, rfl⟩
  rw [← hHe] at hh ⊢
  unfold wp_X6_stiff at hw
  refine lv_iload_n hx hb dX6_stiff_0 rfl (lv_at hl 1 rfl) ?_
  refine lv_i2l hx hb dX6_stiff_1 rfl ?_
  refine lv_lconst (v := 0) hx hb dX6_stiff_2 (by decide) ?_
  refine lv_iconst (v := 1) hx hb dX6_stiff_3 (by decide) ?_
  refine lv_aload_n hx hb dX6_stiff_4 rfl (lv_at hl 0 rfl) ?_
  refine fg_X6_65 F hh dX6_stiff_5 ?_
  refine lv_ishl hx hb dX6_stiff_8 ?_
  refine lv_iconst (v := 1) hx hb dX6_stiff_9 (by decide) ?_
  refine lv_isub hx hb dX6_stiff_10 ?_
  refine lv_i2l hx hb dX6_stiff_11 rfl ?_
  refine lf_callSi (rest := []) F hh (cw_X6_61 F.1.2.2.2.2 ⟨Nat.le_of_ble_eq_true rfl, Nat.le_of_ble_eq_true rfl⟩) (c_X6_in l D ha cy H.size σ (x1.toInt64) 0 ((((1 <<< ((lf_gi σ 6) &&& 31)) - 1) : Int32).toInt64) _ hw) rfl hl.1 (Nat.le_of_ble_eq_true rfl) dX6_stiff_12 rfl (fun r1 σ1 H locs hw hh => ?_)
  refine lv_if_ne (tgt := 21) hx hb dX6_stiff_15 (by decide) (fun c2 => ?_) (fun c2 => ?_)
  · have hw := hw.1 c2
    refine lv_aload_n hx hb dX6_stiff_21 rfl (lv_at hl 0 rfl) ?_
    refine lf_callVv (rest := []) F hh (cw_X6_150 F.1.2.2.2.2 ⟨Nat.le_of_ble_eq_true rfl, Nat.le_of_ble_eq_true rfl⟩) (c_X6_layRows l D ha cy H.size σ1  _ hw) 0 6 rfl rfl rfl rfl hl.1 (Nat.le_of_ble_eq_true rfl) dX6_stiff_22 rfl (fun σ3 H locs hw hh => ?_)
    refine lv_iconst (v := 0) hx hb dX6_stiff_25 (by decide) ?_
    refine lv_istore_n (lv' := [(2, .int 0), (0, .ref (ha 0)), (1, .int x1)]) hx hb dX6_stiff_26 rfl hl (by decide) rfl (fun ls hl => ?_)
    obtain ⟨n27, hw⟩ := hw
    exact w_X6_stiff_27 Post F  n27 x1 0 σ3 _ _ _ hh (lv_sub hl [1, 2, 0] rfl) hw
  · have hw := hw.2 c2
    refine lv_bipush (v := (-2)) hx hb dX6_stiff_18 (by decide) ?_
    exact lf_reti F hh hw dX6_stiff_20
def L_X6_choices_8 (Post : Int32 → lf_St → Prop) : Nat → Int32 → Int32 → lf_St → Prop
  | 0, _, _, _ => False
  | n + 1, x1, x2, σ => (((1 <<< ((lf_gi σ 6) &&& 31)) ≤ x2) → (Post x1 σ)) ∧ ((¬ ((1 <<< ((lf_gi σ 6) &&& 31)) ≤ x2)) → (wp_X6_isChoice x2 σ (fun r2 σ2 => ((r2 = 0) → (∀ v4 : Int32, v4 = (x1 + 0) → (∀ v5 : Int32, v5 = x2 + 1 → (L_X6_choices_8 Post n v4 v5 σ2)))) ∧ ((¬ (r2 = 0)) → (∀ v6 : Int32, v6 = (x1 + 1) → (∀ v7 : Int32, v7 = x2 + 1 → (L_X6_choices_8 Post n v6 v7 σ2)))))))
def wp_X6_choices (σ : lf_St) (Post : Int32 → lf_St → Prop) : Prop := wp_X6_layRows σ (fun σ1 => ∃ fu : Nat, L_X6_choices_8 Post fu 0 0 σ1)
def rm_X6_choices : Room := ({ frames := 3, cells := 0, slots := 0, locals := 71 } : Room)
set_option maxHeartbeats 4000000 in
set_option maxRecDepth 100000 in
theorem w_X6_choices_8 {p : Program} {l : Launch} {e : Env} {s : State} {m : MethodId} {args : Array Value} {below : List Frame} {meth : Method} {c : Code} {D : va_G} {A : Nat → Prop} {ha : Nat → Nat} {cy : Nat → ClassId} (Post : Int32 → lf_St → Prop) (F : lf_C p s m args meth c RX6 cX6_choices 3 (some .int) D (tyM_ cy) A) : ∀ (n : Nat) (x1 : Int32) (x2 : Int32) (σ : lf_St) (H : Heap) (locs : List Loc) (ls : Array Slot), lf_H D (wM_ ha cy) A s σ H locs → lv_has ls 3 [(0, .ref (ha 0)), (1, .int x1), (2, .int x2)] → L_X6_choices_8 Post n x1 x2 σ → W p l e rm_X6_choices s m args below meth c H locs 0 0 (lf_Qi below args s D (tyM_ cy) A (wM_ ha cy) Post) (F0 m 8 ls []) := by
  have hx := F.1.1
  have hb := F.1.2.1
  intro n
  induction n with
  | zero =>
    intro x1 x2 σ H locs ls hh hl hw
    exact False.elim hw
  | succ n ih =>
    intro x1 x2 σ H locs ls hh hl hw
    unfold L_X6_choices_8 at hw
    refine lv_iload_n hx hb dX6_choices_8 rfl (lv_at hl 2 rfl) ?_
    refine lv_iconst (v := 1) hx hb dX6_choices_9 (by decide) ?_
    refine lv_aload_n hx hb dX6_choices_10 rfl (lv_at hl 0 rfl) ?_
    refine fg_X6_65 F hh dX6_choices_11 ?_
    refine lv_ishl hx hb dX6_choices_14 ?_
    refine lv_icmp_ge (tgt := 40) hx hb dX6_choices_15 (by decide) (fun c1 => ?_) (fun c1 => ?_)
    · have hw := hw.1 c1
      refine lv_iload_n hx hb dX6_choices_40 rfl (lv_at hl 1 rfl) ?_
      exact lf_reti F hh hw dX6_choices_41
    · have hw := hw.2 c1
      refine lv_iload_n hx hb dX6_choices_18 rfl (lv_at hl 1 rfl) ?_
      refine lv_aload_n hx hb dX6_choices_19 rfl (lv_at hl 0 rfl) ?_
      refine lv_iload_n hx hb dX6_choices_20 rfl (lv_at hl 2 rfl) ?_
      refine lf_callVi (rest := [.int x1]) F hh (cw_X6_153 F.1.2.2.2.2 ⟨Nat.le_of_ble_eq_true rfl, Nat.le_of_ble_eq_true rfl⟩) (c_X6_isChoice l D ha cy H.size σ x2 _ hw) 0 6 rfl rfl rfl rfl hl.1 (Nat.le_of_ble_eq_true rfl) dX6_choices_21 rfl (fun r2 σ2 H locs hw hh => ?_)
      refine lv_if_eq (tgt := 31) hx hb dX6_choices_24 (by decide) (fun c3 => ?_) (fun c3 => ?_)
      · have hw := hw.1 c3
        refine lv_iconst (v := 0) hx hb dX6_choices_31 (by decide) ?_
        refine lv_iadd hx hb dX6_choices_32 ?_
        refine lv_topi (fun v4 ev4 => ?_)
        have hw := hw v4 ev4
        refine lv_istore_n (lv' := [(1, .int v4), (0, .ref (ha 0)), (2, .int x2)]) hx hb dX6_choices_33 rfl hl (by decide) rfl (fun ls hl => ?_)
        obtain ⟨v5, ev5⟩ : ∃ y : Int32, y = x2 + 1 := ⟨_, rfl⟩
        have hw := hw v5 ev5
        refine lv_iinc (v := v5) (lv' := [(2, .int v5), (1, .int v4), (0, .ref (ha 0))]) hx hb dX6_choices_34 hl (k := 2) rfl (by rw [ev5]; rfl) (by decide) rfl (fun ls hl => ?_)
        refine lv_goto (tgt := 8) hx hb dX6_choices_37 (by decide) ?_
        exact ih v4 v5 σ2 _ _ _ hh (lv_sub hl [2, 1, 0] rfl) hw
      · have hw := hw.2 c3
        refine lv_iconst (v := 1) hx hb dX6_choices_27 (by decide) ?_
        refine lv_goto (tgt := 32) hx hb dX6_choices_28 (by decide) ?_
        refine lv_iadd hx hb dX6_choices_32 ?_
        refine lv_topi (fun v6 ev6 => ?_)
        have hw := hw v6 ev6
        refine lv_istore_n (lv' := [(1, .int v6), (0, .ref (ha 0)), (2, .int x2)]) hx hb dX6_choices_33 rfl hl (by decide) rfl (fun ls hl => ?_)
        obtain ⟨v7, ev7⟩ : ∃ y : Int32, y = x2 + 1 := ⟨_, rfl⟩
        have hw := hw v7 ev7
        refine lv_iinc (v := v7) (lv' := [(2, .int v7), (1, .int v6), (0, .ref (ha 0))]) hx hb dX6_choices_34 hl (k := 2) rfl (by rw [ev7]; rfl) (by decide) rfl (fun ls hl => ?_)
        refine lv_goto (tgt := 8) hx hb dX6_choices_37 (by decide) ?_
        exact ih v6 v7 σ2 _ _ _ hh (lv_sub hl [2, 1, 0] rfl) hw
set_option maxHeartbeats 4000000 in
set_option maxRecDepth 100000 in
theorem c_X6_choices (l : Launch) (D : va_G) (ha : Nat → Nat) (cy : Nat → ClassId) (sz : Nat) (σ : lf_St) (Post : Int32 → lf_St → Prop) (hw : wp_X6_choices σ Post) : lf_Mi l yX6_choices (lf_ws yX6_choices cX6_choices 3 (some .int)) rm_X6_choices D (tyM_ cy) (wM_ ha cy) sz σ [.ref (ha 0)] Post := by
  refine lf_ofi (by decide +kernel) (Nat.le_of_ble_eq_true rfl) ?_
  intro p e s m args below meth c A ls F hh hl
  have hx := F.1.1
  have hb := F.1.2.1
  have hl : lv_has ls 3 [(0, .ref (ha 0))] := hl
  obtain ⟨H, hHe⟩ : ∃ H, H = s.heap := ⟨_, rfl⟩
  rw [← hHe] at hh ⊢
  unfold wp_X6_choices at hw
  refine lv_aload_n hx hb dX6_choices_0 rfl (lv_at hl 0 rfl) ?_
  refine lf_callVv (rest := []) F hh (cw_X6_150 F.1.2.2.2.2 ⟨Nat.le_of_ble_eq_true rfl, Nat.le_of_ble_eq_true rfl⟩) (c_X6_layRows l D ha cy H.size σ  _ hw) 0 6 rfl rfl rfl rfl hl.1 (Nat.le_of_ble_eq_true rfl) dX6_choices_1 rfl (fun σ1 H locs hw hh => ?_)
  refine lv_iconst (v := 0) hx hb dX6_choices_4 (by decide) ?_
  refine lv_istore_n (lv' := [(1, .int 0), (0, .ref (ha 0))]) hx hb dX6_choices_5 rfl hl (by decide) rfl (fun ls hl => ?_)
  refine lv_iconst (v := 0) hx hb dX6_choices_6 (by decide) ?_
  refine lv_istore_n (lv' := [(2, .int 0), (1, .int 0), (0, .ref (ha 0))]) hx hb dX6_choices_7 rfl hl (by decide) rfl (fun ls hl => ?_)
  obtain ⟨n8, hw⟩ := hw
  exact w_X6_choices_8 Post F  n8 0 0 σ1 _ _ _ hh (lv_sub hl [2, 1, 0] rfl) hw
def J_X6_sizeFor_71 (K_14 : Int64 → Int32 → Int32 → lf_St → Prop) (Post : Int32 → lf_St → Prop) (x1 : Int64) (x4 : Int32) (σ : lf_St) : Prop := vp_in x4 5 ∧ (∀ v2 : Int32, v2 = (lf_ai σ 10 x4.toNatClampNeg) → (∀ v3 : Int32, v3 = x4 + 1 → (K_14 x1 v2 v3 σ)))
def J_X6_sizeFor_49 (K_14 : Int64 → Int32 → Int32 → lf_St → Prop) (Post : Int32 → lf_St → Prop) (x1 : Int64) (x3 : Int32) (x4 : Int32) (t0 : Int32) (σ : lf_St) : Prop := ((t0 = 0) → (∀ v2 : Int32, v2 = x4 + 1 → (K_14 x1 x3 v2 σ))) ∧ ((¬ (t0 = 0)) → (((x3 < 0) → (J_X6_sizeFor_71 K_14 Post x1 x4 σ)) ∧ ((¬ (x3 < 0)) → (vp_in x4 5 ∧ (((x3 ≤ (lf_ai σ 10 x4.toNatClampNeg)) → (∀ v6 : Int32, v6 = x4 + 1 → (K_14 x1 x3 v6 σ))) ∧ ((¬ (x3 ≤ (lf_ai σ 10 x4.toNatClampNeg))) → (J_X6_sizeFor_71 K_14 Post x1 x4 σ)))))))
def L_X6_sizeFor_14 (Post : Int32 → lf_St → Prop) : Nat → Int64 → Int32 → Int32 → lf_St → Prop
  | 0, _, _, _, _ => False
  | n + 1, x1, x3, x4, σ => (((lf_gi σ 9) ≤ x4) → (Post x3 σ)) ∧ ((¬ ((lf_gi σ 9) ≤ x4)) → (vp_in x4 5 ∧ (wp_X6_abs x1 σ (fun r3 σ3 => ((((((lf_ai σ 10 x4.toNatClampNeg) : Int32).toInt64) * (lf_gl σ 20)) < r3) → (J_X6_sizeFor_49 (L_X6_sizeFor_14 Post n) Post x1 x3 x4 0 σ3)) ∧ ((¬ (((((lf_ai σ 10 x4.toNatClampNeg) : Int32).toInt64) * (lf_gl σ 20)) < r3)) → (J_X6_sizeFor_49 (L_X6_sizeFor_14 Post n) Post x1 x3 x4 1 σ3))))))
def wp_X6_sizeFor (x1 : Int64) (σ : lf_St) (Post : Int32 → lf_St → Prop) : Prop := ((¬ x1 = 0) → (∃ fu : Nat, L_X6_sizeFor_14 Post fu x1 (-6) 0 σ)) ∧ ((x1 = 0) → (Post 0 σ))
def rm_X6_sizeFor : Room := ({ frames := 1, cells := 0, slots := 0, locals := 21 } : Room)
set_option maxHeartbeats 4000000 in
set_option maxRecDepth 100000 in
theorem w_X6_sizeFor_71 {p : Program} {l : Launch} {e : Env} {s : State} {m : MethodId} {args : Array Value} {below : List Frame} {meth : Method} {c : Code} {D : va_G} {A : Nat → Prop} {ha : Nat → Nat} {cy : Nat → ClassId} (K_14 : Int64 → Int32 → Int32 → lf_St → Prop) (Post : Int32 → lf_St → Prop) (F : lf_C p s m args meth c RX6 cX6_sizeFor 6 (some .int) D (tyM_ cy) A) (hK_14 : ∀ (x1 : Int64) (x3 : Int32) (x4 : Int32) (σ : lf_St) (H : Heap) (locs : List Loc) (ls : Array Slot), lf_H D (wM_ ha cy) A s σ H locs → lv_has ls 6 [(0, .ref (ha 0)), (1, .long x1), (3, .int x3), (4, .int x4)] → K_14 x1 x3 x4 σ → W p l e rm_X6_sizeFor s m args below meth c H locs 0 0 (lf_Qi below args s D (tyM_ cy) A (wM_ ha cy) Post) (F0 m 14 ls [])) (x1 : Int64) (x4 : Int32) (σ : lf_St) (H : Heap) (locs : List Loc) (ls : Array Slot) (hh : lf_H D (wM_ ha cy) A s σ H locs) (hl : lv_has ls 6 [(0, .ref (ha 0)), (1, .long x1), (4, .int x4)]) (hw : J_X6_sizeFor_71 K_14 Post x1 x4 σ) : W p l e rm_X6_sizeFor s m args below meth c H locs 0 0 (lf_Qi below args s D (tyM_ cy) A (wM_ ha cy) Post) (F0 m 71 ls []) := by
  have hx := F.1.1
  have hb := F.1.2.1
  unfold J_X6_sizeFor_71 at hw
  refine lv_aload_n hx hb dX6_sizeFor_71 rfl (lv_at hl 0 rfl) ?_
  refine fg_X6_32 F hh dX6_sizeFor_72 ?_
  refine lv_iload hx hb dX6_sizeFor_75 (lv_at hl 2 rfl) ?_
  obtain ⟨q1, hw⟩ := hw
  refine ra_M_10 F hh q1 dX6_sizeFor_77 ?_
  refine lv_goto (tgt := 82) hx hb dX6_sizeFor_78 (by decide) ?_
  refine lv_topi (fun v2 ev2 => ?_)
  have hw := hw v2 ev2
  refine lv_istore_n (lv' := [(3, .int v2), (0, .ref (ha 0)), (1, .long x1), (4, .int x4)]) hx hb dX6_sizeFor_82 rfl hl (by decide) rfl (fun ls hl => ?_)
  obtain ⟨v3, ev3⟩ : ∃ y : Int32, y = x4 + 1 := ⟨_, rfl⟩
  have hw := hw v3 ev3
  refine lv_iinc (v := v3) (lv' := [(4, .int v3), (3, .int v2), (0, .ref (ha 0)), (1, .long x1)]) hx hb dX6_sizeFor_83 hl (k := 3) rfl (by rw [ev3]; rfl) (by decide) rfl (fun ls hl => ?_)
  refine lv_goto (tgt := 14) hx hb dX6_sizeFor_86 (by decide) ?_
  exact hK_14 x1 v2 v3 σ _ _ _ hh (lv_sub hl [2, 3, 1, 0] rfl) hw
set_option maxHeartbeats 4000000 in
set_option maxRecDepth 100000 in
theorem w_X6_sizeFor_49 {p : Program} {l : Launch} {e : Env} {s : State} {m : MethodId} {args : Array Value} {below : List Frame} {meth : Method} {c : Code} {D : va_G} {A : Nat → Prop} {ha : Nat → Nat} {cy : Nat → ClassId} (K_14 : Int64 → Int32 → Int32 → lf_St → Prop) (Post : Int32 → lf_St → Prop) (F : lf_C p s m args meth c RX6 cX6_sizeFor 6 (some .int) D (tyM_ cy) A) (hK_14 : ∀ (x1 : Int64) (x3 : Int32) (x4 : Int32) (σ : lf_St) (H : Heap) (locs : List Loc) (ls : Array Slot), lf_H D (wM_ ha cy) A s σ H locs → lv_has ls 6 [(0, .ref (ha 0)), (1, .long x1), (3, .int x3), (4, .int x4)] → K_14 x1 x3 x4 σ → W p l e rm_X6_sizeFor s m args below meth c H locs 0 0 (lf_Qi below args s D (tyM_ cy) A (wM_ ha cy) Post) (F0 m 14 ls [])) (x1 : Int64) (x3 : Int32) (x4 : Int32) (t0 : Int32) (σ : lf_St) (H : Heap) (locs : List Loc) (ls : Array Slot) (hh : lf_H D (wM_ ha cy) A s σ H locs) (hl : lv_has ls 6 [(0, .ref (ha 0)), (1, .long x1), (3, .int x3), (4, .int x4)]) (hw : J_X6_sizeFor_49 K_14 Post x1 x3 x4 t0 σ) : W p l e rm_X6_sizeFor s m args below meth c H locs 0 0 (lf_Qi below args s D (tyM_ cy) A (wM_ ha cy) Post) (F0 m 49 ls [.int t0]) := by
  have hx := F.1.1
  have hb := F.1.2.1
  unfold J_X6_sizeFor_49 at hw
  refine lv_istore (lv' := [(5, .int t0), (0, .ref (ha 0)), (1, .long x1), (3, .int x3), (4, .int x4)]) hx hb dX6_sizeFor_49 hl (by decide) rfl (fun ls hl => ?_)
  refine lv_iload hx hb dX6_sizeFor_51 (lv_at hl 0 rfl) ?_
  refine lv_if_eq (tgt := 81) hx hb dX6_sizeFor_53 (by decide) (fun c1 => ?_) (fun c1 => ?_)
  · have hw := hw.1 c1
    refine lv_iload_n hx hb dX6_sizeFor_81 rfl (lv_at hl 3 rfl) ?_
    refine lv_istore_n (lv' := [(3, .int x3), (5, .int t0), (0, .ref (ha 0)), (1, .long x1), (4, .int x4)]) hx hb dX6_sizeFor_82 rfl hl (by decide) rfl (fun ls hl => ?_)
    obtain ⟨v2, ev2⟩ : ∃ y : Int32, y = x4 + 1 := ⟨_, rfl⟩
    have hw := hw v2 ev2
    refine lv_iinc (v := v2) (lv' := [(4, .int v2), (3, .int x3), (5, .int t0), (0, .ref (ha 0)), (1, .long x1)]) hx hb dX6_sizeFor_83 hl (k := 4) rfl (by rw [ev2]; rfl) (by decide) rfl (fun ls hl => ?_)
    refine lv_goto (tgt := 14) hx hb dX6_sizeFor_86 (by decide) ?_
    exact hK_14 x1 x3 v2 σ _ _ _ hh (lv_sub hl [3, 4, 1, 0] rfl) hw
  · have hw := hw.2 c1
    refine lv_iload_n hx hb dX6_sizeFor_56 rfl (lv_at hl 3 rfl) ?_
    refine lv_if_lt (tgt := 71) hx hb dX6_sizeFor_57 (by decide) (fun c3 => ?_) (fun c3 => ?_)
    · have hw := hw.1 c3
      exact w_X6_sizeFor_71 _ Post F hK_14 x1 x4 σ _ _ _ hh (lv_sub hl [1, 2, 4] rfl) hw
    · have hw := hw.2 c3
      refine lv_aload_n hx hb dX6_sizeFor_60 rfl (lv_at hl 1 rfl) ?_
      refine fg_X6_32 F hh dX6_sizeFor_61 ?_
      refine lv_iload hx hb dX6_sizeFor_64 (lv_at hl 4 rfl) ?_
      obtain ⟨q4, hw⟩ := hw
      refine ra_M_10 F hh q4 dX6_sizeFor_66 ?_
      refine lv_iload_n hx hb dX6_sizeFor_67 rfl (lv_at hl 3 rfl) ?_
      refine lv_icmp_ge (tgt := 81) hx hb dX6_sizeFor_68 (by decide) (fun c5 => ?_) (fun c5 => ?_)
      · have hw := hw.1 c5
        refine lv_iload_n hx hb dX6_sizeFor_81 rfl (lv_at hl 3 rfl) ?_
        refine lv_istore_n (lv' := [(3, .int x3), (5, .int t0), (0, .ref (ha 0)), (1, .long x1), (4, .int x4)]) hx hb dX6_sizeFor_82 rfl hl (by decide) rfl (fun ls hl => ?_)
        obtain ⟨v6, ev6⟩ : ∃ y : Int32, y = x4 + 1 := ⟨_, rfl⟩
        have hw := hw v6 ev6
        refine lv_iinc (v := v6) (lv' := [(4, .int v6), (3, .int x3), (5, .int t0), (0, .ref (ha 0)), (1, .long x1)]) hx hb dX6_sizeFor_83 hl (k := 4) rfl (by rw [ev6]; rfl) (by decide) rfl (fun ls hl => ?_)
        refine lv_goto (tgt := 14) hx hb dX6_sizeFor_86 (by decide) ?_
        exact hK_14 x1 x3 v6 σ _ _ _ hh (lv_sub hl [3, 4, 1, 0] rfl) hw
      · have hw := hw.2 c5
        exact w_X6_sizeFor_71 _ Post F hK_14 x1 x4 σ _ _ _ hh (lv_sub hl [1, 2, 4] rfl) hw
set_option maxHeartbeats 4000000 in
set_option maxRecDepth 100000 in
theorem w_X6_sizeFor_14 {p : Program} {l : Launch} {e : Env} {s : State} {m : MethodId} {args : Array Value} {below : List Frame} {meth : Method} {c : Code} {D : va_G} {A : Nat → Prop} {ha : Nat → Nat} {cy : Nat → ClassId} (Post : Int32 → lf_St → Prop) (F : lf_C p s m args meth c RX6 cX6_sizeFor 6 (some .int) D (tyM_ cy) A) : ∀ (n : Nat) (x1 : Int64) (x3 : Int32) (x4 : Int32) (σ : lf_St) (H : Heap) (locs : List Loc) (ls : Array Slot), lf_H D (wM_ ha cy) A s σ H locs → lv_has ls 6 [(0, .ref (ha 0)), (1, .long x1), (3, .int x3), (4, .int x4)] → L_X6_sizeFor_14 Post n x1 x3 x4 σ → W p l e rm_X6_sizeFor s m args below meth c H locs 0 0 (lf_Qi below args s D (tyM_ cy) A (wM_ ha cy) Post) (F0 m 14 ls []) := by
  have hx := F.1.1
  have hb := F.1.2.1
  intro n
  induction n with
  | zero =>
    intro x1 x3 x4 σ H locs ls hh hl hw
    exact False.elim hw
  | succ n ih =>
    intro x1 x3 x4 σ H locs ls hh hl hw
    unfold L_X6_sizeFor_14 at hw
    refine lv_iload hx hb dX6_sizeFor_14 (lv_at hl 3 rfl) ?_
    refine lv_aload_n hx hb dX6_sizeFor_16 rfl (lv_at hl 0 rfl) ?_
    refine fg_X6_99 F hh dX6_sizeFor_17 ?_
    refine lv_icmp_ge (tgt := 89) hx hb dX6_sizeFor_20 (by decide) (fun c1 => ?_) (fun c1 => ?_)
    · have hw := hw.1 c1
      refine lv_iload_n hx hb dX6_sizeFor_89 rfl (lv_at hl 2 rfl) ?_
      exact lf_reti F hh hw dX6_sizeFor_90
    · have hw := hw.2 c1
      refine lv_aload_n hx hb dX6_sizeFor_23 rfl (lv_at hl 0 rfl) ?_
      refine fg_X6_32 F hh dX6_sizeFor_24 ?_
      refine lv_iload hx hb dX6_sizeFor_27 (lv_at hl 3 rfl) ?_
      obtain ⟨q2, hw⟩ := hw
      refine ra_M_10 F hh q2 dX6_sizeFor_29 ?_
      refine lv_i2l hx hb dX6_sizeFor_30 rfl ?_
      refine lv_aload_n hx hb dX6_sizeFor_31 rfl (lv_at hl 0 rfl) ?_
      refine fg_X6_136 F hh dX6_sizeFor_32 ?_
      refine lv_lmul hx hb dX6_sizeFor_35 ?_
      refine lv_lload_n hx hb dX6_sizeFor_36 rfl (lv_at hl 1 rfl) ?_
      refine lf_callSl (rest := [.long ((((lf_ai σ 10 x4.toNatClampNeg) : Int32).toInt64) * (lf_gl σ 20))]) F hh (cw_X6_140 F.1.2.2.2.2 ⟨Nat.le_of_ble_eq_true rfl, Nat.le_of_ble_eq_true rfl⟩) (c_X6_abs l D ha cy H.size σ x1 _ hw) rfl hl.1 (Nat.le_of_ble_eq_true rfl) dX6_sizeFor_37 rfl (fun r3 σ3 H locs hw hh => ?_)
      refine lf_lcmp_lt (tgt := 48) hx hb dX6_sizeFor_40 dX6_sizeFor_41 (by decide) (fun c4 => ?_) (fun c4 => ?_)
      · have hw := hw.1 c4
        refine lv_iconst (v := 0) hx hb dX6_sizeFor_48 (by decide) ?_
        exact w_X6_sizeFor_49 _ Post F ih x1 x3 x4 0 σ3 _ _ _ hh (lv_sub hl [0, 1, 2, 3] rfl) hw
      · have hw := hw.2 c4
        refine lv_iconst (v := 1) hx hb dX6_sizeFor_44 (by decide) ?_
        refine lv_goto (tgt := 49) hx hb dX6_sizeFor_45 (by decide) ?_
        exact w_X6_sizeFor_49 _ Post F ih x1 x3 x4 1 σ3 _ _ _ hh (lv_sub hl [0, 1, 2, 3] rfl) hw
set_option maxHeartbeats 4000000 in
set_option maxRecDepth 100000 in
theorem c_X6_sizeFor (l : Launch) (D : va_G) (ha : Nat → Nat) (cy : Nat → ClassId) (sz : Nat) (σ : lf_St) (x1 : Int64) (Post : Int32 → lf_St → Prop) (hw : wp_X6_sizeFor x1 σ Post) : lf_Mi l yX6_sizeFor (lf_ws yX6_sizeFor cX6_sizeFor 6 (some .int)) rm_X6_sizeFor D (tyM_ cy) (wM_ ha cy) sz σ [.ref (ha 0), .long x1] Post := by
  refine lf_ofi (by decide +kernel) (Nat.le_of_ble_eq_true rfl) ?_
  intro p e s m args below meth c A ls F hh hl
  have hx := F.1.1
  have hb := F.1.2.1
  have hl : lv_has ls 6 [(0, .ref (ha 0)), (1, .long x1)] := hl
  obtain ⟨H, hHe⟩ : ∃ H, H = s.heap := ⟨_, rfl⟩
  rw [← hHe] at hh ⊢
  unfold wp_X6_sizeFor at hw
  refine lv_lload_n hx hb dX6_sizeFor_0 rfl (lv_at hl 1 rfl) ?_
  refine lv_lconst (v := 0) hx hb dX6_sizeFor_1 (by decide) ?_
  refine lf_lcmp_ne (tgt := 8) hx hb dX6_sizeFor_2 dX6_sizeFor_3 (by decide) (fun c1 => ?_) (fun c1 => ?_)
  · have hw := hw.1 c1
    refine lv_bipush (v := (-6)) hx hb dX6_sizeFor_8 (by decide) ?_
    refine lv_istore_n (lv' := [(3, .int (-6)), (0, .ref (ha 0)), (1, .long x1)]) hx hb dX6_sizeFor_10 rfl hl (by decide) rfl (fun ls hl => ?_)
    refine lv_iconst (v := 0) hx hb dX6_sizeFor_11 (by decide) ?_
    refine lv_istore (lv' := [(4, .int 0), (3, .int (-6)), (0, .ref (ha 0)), (1, .long x1)]) hx hb dX6_sizeFor_12 hl (by decide) rfl (fun ls hl => ?_)
    obtain ⟨n14, hw⟩ := hw
    exact w_X6_sizeFor_14 Post F  n14 x1 (-6) 0 σ _ _ _ hh (lv_sub hl [2, 3, 1, 0] rfl) hw
  · have hw := hw.2 c1
    refine lv_iconst (v := 0) hx hb dX6_sizeFor_6 (by decide) ?_
    exact lf_reti F hh hw dX6_sizeFor_7
def L_X6_usedBars_4 (Post : Int32 → lf_St → Prop) : Nat → Int32 → Int32 → lf_St → Prop
  | 0, _, _, _ => False
  | n + 1, x1, x2, σ => (((lf_gi σ 14) ≤ x2) → (Post x1 σ)) ∧ ((¬ ((lf_gi σ 14) ≤ x2)) → (vp_in x2 6 ∧ ((((lf_al σ 21 x2.toNatClampNeg) = 0) → (∀ v4 : Int32, v4 = (x1 ||| 0) → (∀ v5 : Int32, v5 = x2 + 1 → (L_X6_usedBars_4 Post n v4 v5 σ)))) ∧ ((¬ ((lf_al σ 21 x2.toNatClampNeg) = 0)) → (vp_in x2 6 ∧ (∀ v7 : Int32, v7 = (x1 ||| (1 <<< ((lf_ai σ 19 x2.toNatClampNeg) &&& 31))) → (∀ v8 : Int32, v8 = x2 + 1 → (L_X6_usedBars_4 Post n v7 v8 σ))))))))
def wp_X6_usedBars (σ : lf_St) (Post : Int32 → lf_St → Prop) : Prop := ∃ fu : Nat, L_X6_usedBars_4 Post fu 0 0 σ
def rm_X6_usedBars : Room := ({ frames := 0, cells := 0, slots := 0, locals := 0 } : Room)
set_option maxHeartbeats 4000000 in
set_option maxRecDepth 100000 in
theorem w_X6_usedBars_4 {p : Program} {l : Launch} {e : Env} {s : State} {m : MethodId} {args : Array Value} {below : List Frame} {meth : Method} {c : Code} {D : va_G} {A : Nat → Prop} {ha : Nat → Nat} {cy : Nat → ClassId} (Post : Int32 → lf_St → Prop) (F : lf_C p s m args meth c RX6 cX6_usedBars 3 (some .int) D (tyM_ cy) A) : ∀ (n : Nat) (x1 : Int32) (x2 : Int32) (σ : lf_St) (H : Heap) (locs : List Loc) (ls : Array Slot), lf_H D (wM_ ha cy) A s σ H locs → lv_has ls 3 [(0, .ref (ha 0)), (1, .int x1), (2, .int x2)] → L_X6_usedBars_4 Post n x1 x2 σ → W p l e rm_X6_usedBars s m args below meth c H locs 0 0 (lf_Qi below args s D (tyM_ cy) A (wM_ ha cy) Post) (F0 m 4 ls []) := by
  have hx := F.1.1
  have hb := F.1.2.1
  intro n
  induction n with
  | zero =>
    intro x1 x2 σ H locs ls hh hl hw
    exact False.elim hw
  | succ n ih =>
    intro x1 x2 σ H locs ls hh hl hw
    unfold L_X6_usedBars_4 at hw
    refine lv_iload_n hx hb dX6_usedBars_4 rfl (lv_at hl 2 rfl) ?_
    refine lv_aload_n hx hb dX6_usedBars_5 rfl (lv_at hl 0 rfl) ?_
    refine fg_X6_119 F hh dX6_usedBars_6 ?_
    refine lv_icmp_ge (tgt := 44) hx hb dX6_usedBars_9 (by decide) (fun c1 => ?_) (fun c1 => ?_)
    · have hw := hw.1 c1
      refine lv_iload_n hx hb dX6_usedBars_44 rfl (lv_at hl 1 rfl) ?_
      exact lf_reti F hh hw dX6_usedBars_45
    · have hw := hw.2 c1
      refine lv_iload_n hx hb dX6_usedBars_12 rfl (lv_at hl 1 rfl) ?_
      refine lv_aload_n hx hb dX6_usedBars_13 rfl (lv_at hl 0 rfl) ?_
      refine fg_X6_51 F hh dX6_usedBars_14 ?_
      refine lv_iload_n hx hb dX6_usedBars_17 rfl (lv_at hl 2 rfl) ?_
      obtain ⟨q2, hw⟩ := hw
      refine ra_M_21 F hh q2 dX6_usedBars_18 ?_
      refine lv_lconst (v := 0) hx hb dX6_usedBars_19 (by decide) ?_
      refine lf_lcmp_eq (tgt := 35) hx hb dX6_usedBars_20 dX6_usedBars_21 (by decide) (fun c3 => ?_) (fun c3 => ?_)
      · have hw := hw.1 c3
        refine lv_iconst (v := 0) hx hb dX6_usedBars_35 (by decide) ?_
        refine lv_ior hx hb dX6_usedBars_36 ?_
        refine lv_topi (fun v4 ev4 => ?_)
        have hw := hw v4 ev4
        refine lv_istore_n (lv' := [(1, .int v4), (0, .ref (ha 0)), (2, .int x2)]) hx hb dX6_usedBars_37 rfl hl (by decide) rfl (fun ls hl => ?_)
        obtain ⟨v5, ev5⟩ : ∃ y : Int32, y = x2 + 1 := ⟨_, rfl⟩
        have hw := hw v5 ev5
        refine lv_iinc (v := v5) (lv' := [(2, .int v5), (1, .int v4), (0, .ref (ha 0))]) hx hb dX6_usedBars_38 hl (k := 2) rfl (by rw [ev5]; rfl) (by decide) rfl (fun ls hl => ?_)
        refine lv_goto (tgt := 4) hx hb dX6_usedBars_41 (by decide) ?_
        exact ih v4 v5 σ _ _ _ hh (lv_sub hl [2, 1, 0] rfl) hw
      · have hw := hw.2 c3
        refine lv_iconst (v := 1) hx hb dX6_usedBars_24 (by decide) ?_
        refine lv_aload_n hx hb dX6_usedBars_25 rfl (lv_at hl 0 rfl) ?_
        refine fg_X6_48 F hh dX6_usedBars_26 ?_
        refine lv_iload_n hx hb dX6_usedBars_29 rfl (lv_at hl 2 rfl) ?_
        obtain ⟨q6, hw⟩ := hw
        refine ra_M_19 F hh q6 dX6_usedBars_30 ?_
        refine lv_ishl hx hb dX6_usedBars_31 ?_
        refine lv_goto (tgt := 36) hx hb dX6_usedBars_32 (by decide) ?_
        refine lv_ior hx hb dX6_usedBars_36 ?_
        refine lv_topi (fun v7 ev7 => ?_)
        have hw := hw v7 ev7
        refine lv_istore_n (lv' := [(1, .int v7), (0, .ref (ha 0)), (2, .int x2)]) hx hb dX6_usedBars_37 rfl hl (by decide) rfl (fun ls hl => ?_)
        obtain ⟨v8, ev8⟩ : ∃ y : Int32, y = x2 + 1 := ⟨_, rfl⟩
        have hw := hw v8 ev8
        refine lv_iinc (v := v8) (lv' := [(2, .int v8), (1, .int v7), (0, .ref (ha 0))]) hx hb dX6_usedBars_38 hl (k := 2) rfl (by rw [ev8]; rfl) (by decide) rfl (fun ls hl => ?_)
        refine lv_goto (tgt := 4) hx hb dX6_usedBars_41 (by decide) ?_
        exact ih v7 v8 σ _ _ _ hh (lv_sub hl [2, 1, 0] rfl) hw
set_option maxHeartbeats 4000000 in
set_option maxRecDepth 100000 in
theorem c_X6_usedBars (l : Launch) (D : va_G) (ha : Nat → Nat) (cy : Nat → ClassId) (sz : Nat) (σ : lf_St) (Post : Int32 → lf_St → Prop) (hw : wp_X6_usedBars σ Post) : lf_Mi l yX6_usedBars (lf_ws yX6_usedBars cX6_usedBars 3 (some .int)) rm_X6_usedBars D (tyM_ cy) (wM_ ha cy) sz σ [.ref (ha 0)] Post := by
  refine lf_ofi (by decide +kernel) (Nat.le_of_ble_eq_true rfl) ?_
  intro p e s m args below meth c A ls F hh hl
  have hx := F.1.1
  have hb := F.1.2.1
  have hl : lv_has ls 3 [(0, .ref (ha 0))] := hl
  obtain ⟨H, hHe⟩ : ∃ H, H = s.heap := ⟨_, rfl⟩
  rw [← hHe] at hh ⊢
  unfold wp_X6_usedBars at hw
  refine lv_iconst (v := 0) hx hb dX6_usedBars_0 (by decide) ?_
  refine lv_istore_n (lv' := [(1, .int 0), (0, .ref (ha 0))]) hx hb dX6_usedBars_1 rfl hl (by decide) rfl (fun ls hl => ?_)
  refine lv_iconst (v := 0) hx hb dX6_usedBars_2 (by decide) ?_
  refine lv_istore_n (lv' := [(2, .int 0), (1, .int 0), (0, .ref (ha 0))]) hx hb dX6_usedBars_3 rfl hl (by decide) rfl (fun ls hl => ?_)
  obtain ⟨n4, hw⟩ := hw
  exact w_X6_usedBars_4 Post F  n4 0 0 σ _ _ _ hh (lv_sub hl [2, 1, 0] rfl) hw
def L_X6_usedJoints_4 (Post : Int32 → lf_St → Prop) : Nat → Int32 → Int32 → lf_St → Prop
  | 0, _, _, _ => False
  | n + 1, x1, x2, σ => (((lf_gi σ 14) ≤ x2) → (Post x1 σ)) ∧ ((¬ ((lf_gi σ 14) ≤ x2)) → (vp_in x2 6 ∧ ((((lf_al σ 21 x2.toNatClampNeg) = 0) → (∀ v4 : Int32, v4 = (x1 ||| 0) → (∀ v5 : Int32, v5 = x2 + 1 → (L_X6_usedJoints_4 Post n v4 v5 σ)))) ∧ ((¬ ((lf_al σ 21 x2.toNatClampNeg) = 0)) → (vp_in x2 6 ∧ (vp_in (lf_ai σ 19 x2.toNatClampNeg) 10 ∧ (vp_in x2 6 ∧ (vp_in (lf_ai σ 19 x2.toNatClampNeg) 10 ∧ (∀ v10 : Int32, v10 = (x1 ||| ((1 <<< ((lf_ai σ 7 ((lf_ai σ 19 x2.toNatClampNeg) : Int32).toNatClampNeg) &&& 31)) ||| (1 <<< ((lf_ai σ 8 ((lf_ai σ 19 x2.toNatClampNeg) : Int32).toNatClampNeg) &&& 31)))) → (∀ v11 : Int32, v11 = x2 + 1 → (L_X6_usedJoints_4 Post n v10 v11 σ)))))))))))
def wp_X6_usedJoints (σ : lf_St) (Post : Int32 → lf_St → Prop) : Prop := ∃ fu : Nat, L_X6_usedJoints_4 Post fu 0 0 σ
def rm_X6_usedJoints : Room := ({ frames := 0, cells := 0, slots := 0, locals := 0 } : Room)
set_option maxHeartbeats 4000000 in
set_option maxRecDepth 100000 in
theorem w_X6_usedJoints_4 {p : Program} {l : Launch} {e : Env} {s : State} {m : MethodId} {args : Array Value} {below : List Frame} {meth : Method} {c : Code} {D : va_G} {A : Nat → Prop} {ha : Nat → Nat} {cy : Nat → ClassId} (Post : Int32 → lf_St → Prop) (F : lf_C p s m args meth c RX6 cX6_usedJoints 3 (some .int) D (tyM_ cy) A) : ∀ (n : Nat) (x1 : Int32) (x2 : Int32) (σ : lf_St) (H : Heap) (locs : List Loc) (ls : Array Slot), lf_H D (wM_ ha cy) A s σ H locs → lv_has ls 3 [(0, .ref (ha 0)), (1, .int x1), (2, .int x2)] → L_X6_usedJoints_4 Post n x1 x2 σ → W p l e rm_X6_usedJoints s m args below meth c H locs 0 0 (lf_Qi below args s D (tyM_ cy) A (wM_ ha cy) Post) (F0 m 4 ls []) := by
  have hx := F.1.1
  have hb := F.1.2.1
  intro n
  induction n with
  | zero =>
    intro x1 x2 σ H locs ls hh hl hw
    exact False.elim hw
  | succ n ih =>
    intro x1 x2 σ H locs ls hh hl hw
    unfold L_X6_usedJoints_4 at hw
    refine lv_iload_n hx hb dX6_usedJoints_4 rfl (lv_at hl 2 rfl) ?_
    refine lv_aload_n hx hb dX6_usedJoints_5 rfl (lv_at hl 0 rfl) ?_
    refine fg_X6_119 F hh dX6_usedJoints_6 ?_
    refine lv_icmp_ge (tgt := 63) hx hb dX6_usedJoints_9 (by decide) (fun c1 => ?_) (fun c1 => ?_)
    · have hw := hw.1 c1
      refine lv_iload_n hx hb dX6_usedJoints_63 rfl (lv_at hl 1 rfl) ?_
      exact lf_reti F hh hw dX6_usedJoints_64
    · have hw := hw.2 c1
      refine lv_iload_n hx hb dX6_usedJoints_12 rfl (lv_at hl 1 rfl) ?_
      refine lv_aload_n hx hb dX6_usedJoints_13 rfl (lv_at hl 0 rfl) ?_
      refine fg_X6_51 F hh dX6_usedJoints_14 ?_
      refine lv_iload_n hx hb dX6_usedJoints_17 rfl (lv_at hl 2 rfl) ?_
      obtain ⟨q2, hw⟩ := hw
      refine ra_M_21 F hh q2 dX6_usedJoints_18 ?_
      refine lv_lconst (v := 0) hx hb dX6_usedJoints_19 (by decide) ?_
      refine lf_lcmp_eq (tgt := 54) hx hb dX6_usedJoints_20 dX6_usedJoints_21 (by decide) (fun c3 => ?_) (fun c3 => ?_)
      · have hw := hw.1 c3
        refine lv_iconst (v := 0) hx hb dX6_usedJoints_54 (by decide) ?_
        refine lv_ior hx hb dX6_usedJoints_55 ?_
        refine lv_topi (fun v4 ev4 => ?_)
        have hw := hw v4 ev4
        refine lv_istore_n (lv' := [(1, .int v4), (0, .ref (ha 0)), (2, .int x2)]) hx hb dX6_usedJoints_56 rfl hl (by decide) rfl (fun ls hl => ?_)
        obtain ⟨v5, ev5⟩ : ∃ y : Int32, y = x2 + 1 := ⟨_, rfl⟩
        have hw := hw v5 ev5
        refine lv_iinc (v := v5) (lv' := [(2, .int v5), (1, .int v4), (0, .ref (ha 0))]) hx hb dX6_usedJoints_57 hl (k := 2) rfl (by rw [ev5]; rfl) (by decide) rfl (fun ls hl => ?_)
        refine lv_goto (tgt := 4) hx hb dX6_usedJoints_60 (by decide) ?_
        exact ih v4 v5 σ _ _ _ hh (lv_sub hl [2, 1, 0] rfl) hw
      · have hw := hw.2 c3
        refine lv_iconst (v := 1) hx hb dX6_usedJoints_24 (by decide) ?_
        refine lv_aload_n hx hb dX6_usedJoints_25 rfl (lv_at hl 0 rfl) ?_
        refine fg_X6_26 F hh dX6_usedJoints_26 ?_
        refine lv_aload_n hx hb dX6_usedJoints_29 rfl (lv_at hl 0 rfl) ?_
        refine fg_X6_48 F hh dX6_usedJoints_30 ?_
        refine lv_iload_n hx hb dX6_usedJoints_33 rfl (lv_at hl 2 rfl) ?_
        obtain ⟨q6, hw⟩ := hw
        refine ra_M_19 F hh q6 dX6_usedJoints_34 ?_
        obtain ⟨q7, hw⟩ := hw
        refine ra_M_7 F hh q7 dX6_usedJoints_35 ?_
        refine lv_ishl hx hb dX6_usedJoints_36 ?_
        refine lv_iconst (v := 1) hx hb dX6_usedJoints_37 (by decide) ?_
        refine lv_aload_n hx hb dX6_usedJoints_38 rfl (lv_at hl 0 rfl) ?_
        refine fg_X6_29 F hh dX6_usedJoints_39 ?_
        refine lv_aload_n hx hb dX6_usedJoints_42 rfl (lv_at hl 0 rfl) ?_
        refine fg_X6_48 F hh dX6_usedJoints_43 ?_
        refine lv_iload_n hx hb dX6_usedJoints_46 rfl (lv_at hl 2 rfl) ?_
        obtain ⟨q8, hw⟩ := hw
        refine ra_M_19 F hh q8 dX6_usedJoints_47 ?_
        obtain ⟨q9, hw⟩ := hw
        refine ra_M_8 F hh q9 dX6_usedJoints_48 ?_
        refine lv_ishl hx hb dX6_usedJoints_49 ?_
        refine lv_ior hx hb dX6_usedJoints_50 ?_
        refine lv_goto (tgt := 55) hx hb dX6_usedJoints_51 (by decide) ?_
        refine lv_ior hx hb dX6_usedJoints_55 ?_
        refine lv_topi (fun v10 ev10 => ?_)
        have hw := hw v10 ev10
        refine lv_istore_n (lv' := [(1, .int v10), (0, .ref (ha 0)), (2, .int x2)]) hx hb dX6_usedJoints_56 rfl hl (by decide) rfl (fun ls hl => ?_)
        obtain ⟨v11, ev11⟩ : ∃ y : Int32, y = x2 + 1 := ⟨_, rfl⟩
        have hw := hw v11 ev11
        refine lv_iinc (v := v11) (lv' := [(2, .int v11), (1, .int v10), (0, .ref (ha 0))]) hx hb dX6_usedJoints_57 hl (k := 2) rfl (by rw [ev11]; rfl) (by decide) rfl (fun ls hl => ?_)
        refine lv_goto (tgt := 4) hx hb dX6_usedJoints_60 (by decide) ?_
        exact ih v10 v11 σ _ _ _ hh (lv_sub hl [2, 1, 0] rfl) hw
set_option maxHeartbeats 4000000 in
set_option maxRecDepth 100000 in
theorem c_X6_usedJoints (l : Launch) (D : va_G) (ha : Nat → Nat) (cy : Nat → ClassId) (sz : Nat) (σ : lf_St) (Post : Int32 → lf_St → Prop) (hw : wp_X6_usedJoints σ Post) : lf_Mi l yX6_usedJoints (lf_ws yX6_usedJoints cX6_usedJoints 3 (some .int)) rm_X6_usedJoints D (tyM_ cy) (wM_ ha cy) sz σ [.ref (ha 0)] Post := by
  refine lf_ofi (by decide +kernel) (Nat.le_of_ble_eq_true rfl) ?_
  intro p e s m args below meth c A ls F hh hl
  have hx := F.1.1
  have hb := F.1.2.1
  have hl : lv_has ls 3 [(0, .ref (ha 0))] := hl
  obtain ⟨H, hHe⟩ : ∃ H, H = s.heap := ⟨_, rfl⟩
  rw [← hHe] at hh ⊢
  unfold wp_X6_usedJoints at hw
  refine lv_iconst (v := 0) hx hb dX6_usedJoints_0 (by decide) ?_
  refine lv_istore_n (lv' := [(1, .int 0), (0, .ref (ha 0))]) hx hb dX6_usedJoints_1 rfl hl (by decide) rfl (fun ls hl => ?_)
  refine lv_iconst (v := 0) hx hb dX6_usedJoints_2 (by decide) ?_
  refine lv_istore_n (lv' := [(2, .int 0), (1, .int 0), (0, .ref (ha 0))]) hx hb dX6_usedJoints_3 rfl hl (by decide) rfl (fun ls hl => ?_)
  obtain ⟨n4, hw⟩ := hw
  exact w_X6_usedJoints_4 Post F  n4 0 0 σ _ _ _ hh (lv_sub hl [2, 1, 0] rfl) hw
end
section
theorem cw_X6_156 {R : Room} {s : State} {args : Array Value} (ht : ∀ w ∈ wsL_law, w.before args s = true) (hR : rm_X6_sizeFor.frames + 1 ≤ R.frames ∧ 8 + (6 + 11) + rm_X6_sizeFor.locals ≤ R.locals) : lf_cV R s args RX6 RX6 156 yX6_sizeFor cX6_sizeFor 6 (some .int) rm_X6_sizeFor 1 :=
  lf_cV_of 1 ht (lr_23 _ (List.mem_of_getElem? (i := 10) rfl)) (lr_23 _ (List.mem_of_getElem? (i := 7) rfl)) (lr_23 _ (List.mem_of_getElem? (i := 8) rfl)) (lr_23 _ (List.mem_of_getElem? (i := 9) rfl)) (lr_1 _ (List.mem_of_getElem? (i := 5) rfl)) rfl rfl (by decide +kernel) hR
theorem cw_X6_162 {R : Room} {s : State} {args : Array Value} (ht : ∀ w ∈ wsL_law, w.before args s = true) (hR : rm_X6_usedJoints.frames + 1 ≤ R.frames ∧ 8 + (3 + 11) + rm_X6_usedJoints.locals ≤ R.locals) : lf_cV R s args RX6 RX6 162 yX6_usedJoints cX6_usedJoints 3 (some .int) rm_X6_usedJoints 0 :=
  lf_cV_of 0 ht (lr_23 _ (List.mem_of_getElem? (i := 14) rfl)) (lr_23 _ (List.mem_of_getElem? (i := 11) rfl)) (lr_23 _ (List.mem_of_getElem? (i := 12) rfl)) (lr_23 _ (List.mem_of_getElem? (i := 13) rfl)) (lr_1 _ (List.mem_of_getElem? (i := 5) rfl)) rfl rfl (by decide +kernel) hR
def L_X6_costOf_86 (K_5 : Int32 → Int64 → Int32 → lf_St → Prop) (Post : Int64 → lf_St → Prop) : Nat → Int32 → Int64 → Int32 → Int32 → lf_St → Prop
  | 0, _, _, _, _, _ => False
  | n + 1, x1, x2, x4, x6, σ => ((x4 ≤ x6) → (∀ v2 : Int32, v2 = x4 + 1 → (K_5 x1 x2 v2 σ))) ∧ ((¬ (x4 ≤ x6)) → (((¬ x1 = 1) → (∀ v4 : Int32, v4 = x4 + 1 → (K_5 x1 x2 v4 σ))) ∧ ((x1 = 1) → (vp_in x4 6 ∧ ((((lf_al σ 21 x4.toNatClampNeg) = 0) → (∀ v7 : Int32, v7 = x6 + 1 → (L_X6_costOf_86 K_5 Post n x1 x2 x4 v7 σ))) ∧ ((¬ ((lf_al σ 21 x4.toNatClampNeg) = 0)) → (vp_in x6 6 ∧ ((((lf_al σ 21 x6.toNatClampNeg) = 0) → (∀ v10 : Int32, v10 = x6 + 1 → (L_X6_costOf_86 K_5 Post n x1 x2 x4 v10 σ))) ∧ ((¬ ((lf_al σ 21 x6.toNatClampNeg) = 0)) → (vp_in x4 6 ∧ (vp_in x6 6 ∧ (wp_X6_areCrossed (lf_ai σ 19 x4.toNatClampNeg) (lf_ai σ 19 x6.toNatClampNeg) σ (fun r13 σ13 => ((r13 = 0) → (∀ v15 : Int32, v15 = x6 + 1 → (L_X6_costOf_86 K_5 Post n x1 x2 x4 v15 σ13))) ∧ ((¬ (r13 = 0)) → (Post (-1) σ13)))))))))))))))
def J_X6_costOf_80 (K_5 : Int32 → Int64 → Int32 → lf_St → Prop) (Post : Int64 → lf_St → Prop) (x1 : Int32) (x4 : Int32) (t0 : Int64) (t1 : Int64) (t2 : Int64) (σ : lf_St) : Prop := ∀ v1 : Int64, v1 = (t2 + (t1 * t0)) → (∃ fu : Nat, L_X6_costOf_86 K_5 Post fu x1 v1 x4 0 σ)
def J_X6_costOf_41 (K_5 : Int32 → Int64 → Int32 → lf_St → Prop) (Post : Int64 → lf_St → Prop) (x1 : Int32) (x2 : Int64) (x4 : Int32) (x5 : Int32) (σ : lf_St) : Prop := vp_in x4 6 ∧ (wp_X6_stuff (lf_ai σ 19 x4.toNatClampNeg) σ (fun r2 σ2 => ((¬ x1 = 2) → (vp_in x4 6 ∧ (wp_X6_abs (lf_al σ2 21 x4.toNatClampNeg) σ2 (fun r5 σ5 => J_X6_costOf_80 K_5 Post x1 x4 r5 (r2.toInt64) x2 σ5)))) ∧ ((x1 = 2) → (J_X6_costOf_80 K_5 Post x1 x4 ((x5.toInt64) * (lf_gl σ2 20)) (r2.toInt64) x2 σ2))))
def L_X6_costOf_5 (Post : Int64 → lf_St → Prop) : Nat → Int32 → Int64 → Int32 → lf_St → Prop
  | 0, _, _, _, _ => False
  | n + 1, x1, x2, x4, σ => (((lf_gi σ 14) ≤ x4) → (((¬ x1 = 3) → (Post (x2 + 0) σ)) ∧ ((x1 = 3) → (wp_X6_usedJoints σ (fun r3 σ3 => wp_X6_bits r3 σ3 (fun r4 σ4 => Post (x2 + (((((lf_gi σ 11) : Int32).toInt64) * (r4.toInt64)) * (lf_gl σ4 20))) σ4)))))) ∧ ((¬ ((lf_gi σ 14) ≤ x4)) → (vp_in x4 6 ∧ (wp_X6_sizeFor (lf_al σ 21 x4.toNatClampNeg) σ (fun r6 σ6 => ((¬ x1 = 2) → (J_X6_costOf_41 (L_X6_costOf_5 Post n) Post x1 x2 x4 r6 σ6)) ∧ ((x1 = 2) → (((0 ≤ r6) → (J_X6_costOf_41 (L_X6_costOf_5 Post n) Post x1 x2 x4 r6 σ6)) ∧ ((¬ (0 ≤ r6)) → (Post (-1) σ6))))))))
def wp_X6_costOf (x1 : Int32) (σ : lf_St) (Post : Int64 → lf_St → Prop) : Prop := ∃ fu : Nat, L_X6_costOf_5 Post fu x1 0 0 σ
def rm_X6_costOf : Room := ({ frames := 3, cells := 0, slots := 0, locals := 77 } : Room)
set_option maxHeartbeats 4000000 in
set_option maxRecDepth 100000 in
theorem w_X6_costOf_86 {p : Program} {l : Launch} {e : Env} {s : State} {m : MethodId} {args : Array Value} {below : List Frame} {meth : Method} {c : Code} {D : va_G} {A : Nat → Prop} {ha : Nat → Nat} {cy : Nat → ClassId} (K_5 : Int32 → Int64 → Int32 → lf_St → Prop) (Post : Int64 → lf_St → Prop) (F : lf_C p s m args meth c RX6 cX6_costOf 7 (some .long) D (tyM_ cy) A) (hK_5 : ∀ (x1 : Int32) (x2 : Int64) (x4 : Int32) (σ : lf_St) (H : Heap) (locs : List Loc) (ls : Array Slot), lf_H D (wM_ ha cy) A s σ H locs → lv_has ls 7 [(0, .ref (ha 0)), (1, .int x1), (2, .long x2), (4, .int x4)] → K_5 x1 x2 x4 σ → W p l e rm_X6_costOf s m args below meth c H locs 0 0 (lf_Ql below args s D (tyM_ cy) A (wM_ ha cy) Post) (F0 m 5 ls [])) : ∀ (n : Nat) (x1 : Int32) (x2 : Int64) (x4 : Int32) (x6 : Int32) (σ : lf_St) (H : Heap) (locs : List Loc) (ls : Array Slot), lf_H D (wM_ ha cy) A s σ H locs → lv_has ls 7 [(0, .ref (ha 0)), (1, .int x1), (2, .long x2), (4, .int x4), (6, .int x6)] → L_X6_costOf_86 K_5 Post n x1 x2 x4 x6 σ → W p l e rm_X6_costOf s m args below meth c H locs 0 0 (lf_Ql below args s D (tyM_ cy) A (wM_ ha cy) Post) (F0 m 86 ls []) := by
  have hx := F.1.1
  have hb := F.1.2.1
  intro n
  induction n with
  | zero =>
    intro x1 x2 x4 x6 σ H locs ls hh hl hw
    exact False.elim hw
  | succ n ih =>
    intro x1 x2 x4 x6 σ H locs ls hh hl hw
    unfold L_X6_costOf_86 at hw
    refine lv_iload hx hb dX6_costOf_86 (lv_at hl 4 rfl) ?_
    refine lv_iload hx hb dX6_costOf_88 (lv_at hl 3 rfl) ?_
    refine lv_icmp_ge (tgt := 153) hx hb dX6_costOf_90 (by decide) (fun c1 => ?_) (fun c1 => ?_)
    · have hw := hw.1 c1
      obtain ⟨v2, ev2⟩ : ∃ y : Int32, y = x4 + 1 := ⟨_, rfl⟩
      have hw := hw v2 ev2
      refine lv_iinc (v := v2) (lv' := [(4, .int v2), (0, .ref (ha 0)), (1, .int x1), (2, .long x2), (6, .int x6)]) hx hb dX6_costOf_153 hl (k := 3) rfl (by rw [ev2]; rfl) (by decide) rfl (fun ls hl => ?_)
      refine lv_goto (tgt := 5) hx hb dX6_costOf_156 (by decide) ?_
      exact hK_5 x1 x2 v2 σ _ _ _ hh (lv_sub hl [1, 2, 3, 0] rfl) hw
    · have hw := hw.2 c1
      refine lv_iload_n hx hb dX6_costOf_93 rfl (lv_at hl 1 rfl) ?_
      refine lv_iconst (v := 1) hx hb dX6_costOf_94 (by decide) ?_
      refine lv_icmp_ne (tgt := 153) hx hb dX6_costOf_95 (by decide) (fun c3 => ?_) (fun c3 => ?_)
      · have hw := hw.1 c3
        obtain ⟨v4, ev4⟩ : ∃ y : Int32, y = x4 + 1 := ⟨_, rfl⟩
        have hw := hw v4 ev4
        refine lv_iinc (v := v4) (lv' := [(4, .int v4), (0, .ref (ha 0)), (1, .int x1), (2, .long x2), (6, .int x6)]) hx hb dX6_costOf_153 hl (k := 3) rfl (by rw [ev4]; rfl) (by decide) rfl (fun ls hl => ?_)
        refine lv_goto (tgt := 5) hx hb dX6_costOf_156 (by decide) ?_
        exact hK_5 x1 x2 v4 σ _ _ _ hh (lv_sub hl [1, 2, 3, 0] rfl) hw
      · have hw := hw.2 c3
        refine lv_aload_n hx hb dX6_costOf_98 rfl (lv_at hl 0 rfl) ?_
        refine fg_X6_51 F hh dX6_costOf_99 ?_
        refine lv_iload hx hb dX6_costOf_102 (lv_at hl 3 rfl) ?_
        obtain ⟨q5, hw⟩ := hw
        refine ra_M_21 F hh q5 dX6_costOf_104 ?_
        refine lv_lconst (v := 0) hx hb dX6_costOf_105 (by decide) ?_
        refine lf_lcmp_eq (tgt := 147) hx hb dX6_costOf_106 dX6_costOf_107 (by decide) (fun c6 => ?_) (fun c6 => ?_)
        · have hw := hw.1 c6
          obtain ⟨v7, ev7⟩ : ∃ y : Int32, y = x6 + 1 := ⟨_, rfl⟩
          have hw := hw v7 ev7
          refine lv_iinc (v := v7) (lv' := [(6, .int v7), (0, .ref (ha 0)), (1, .int x1), (2, .long x2), (4, .int x4)]) hx hb dX6_costOf_147 hl (k := 4) rfl (by rw [ev7]; rfl) (by decide) rfl (fun ls hl => ?_)
          refine lv_goto (tgt := 86) hx hb dX6_costOf_150 (by decide) ?_
          exact ih x1 x2 x4 v7 σ _ _ _ hh (lv_sub hl [1, 2, 3, 4, 0] rfl) hw
        · have hw := hw.2 c6
          refine lv_aload_n hx hb dX6_costOf_110 rfl (lv_at hl 0 rfl) ?_
          refine fg_X6_51 F hh dX6_costOf_111 ?_
          refine lv_iload hx hb dX6_costOf_114 (lv_at hl 4 rfl) ?_
          obtain ⟨q8, hw⟩ := hw
          refine ra_M_21 F hh q8 dX6_costOf_116 ?_
          refine lv_lconst (v := 0) hx hb dX6_costOf_117 (by decide) ?_
          refine lf_lcmp_eq (tgt := 147) hx hb dX6_costOf_118 dX6_costOf_119 (by decide) (fun c9 => ?_) (fun c9 => ?_)
          · have hw := hw.1 c9
            obtain ⟨v10, ev10⟩ : ∃ y : Int32, y = x6 + 1 := ⟨_, rfl⟩
            have hw := hw v10 ev10
            refine lv_iinc (v := v10) (lv' := [(6, .int v10), (0, .ref (ha 0)), (1, .int x1), (2, .long x2), (4, .int x4)]) hx hb dX6_costOf_147 hl (k := 4) rfl (by rw [ev10]; rfl) (by decide) rfl (fun ls hl => ?_)
            refine lv_goto (tgt := 86) hx hb dX6_costOf_150 (by decide) ?_
            exact ih x1 x2 x4 v10 σ _ _ _ hh (lv_sub hl [1, 2, 3, 4, 0] rfl) hw
          · have hw := hw.2 c9
            refine lv_aload_n hx hb dX6_costOf_122 rfl (lv_at hl 0 rfl) ?_
            refine lv_aload_n hx hb dX6_costOf_123 rfl (lv_at hl 0 rfl) ?_
            refine fg_X6_48 F hh dX6_costOf_124 ?_
            refine lv_iload hx hb dX6_costOf_127 (lv_at hl 3 rfl) ?_
            obtain ⟨q11, hw⟩ := hw
            refine ra_M_19 F hh q11 dX6_costOf_129 ?_
            refine lv_aload_n hx hb dX6_costOf_130 rfl (lv_at hl 0 rfl) ?_
            refine fg_X6_48 F hh dX6_costOf_131 ?_
            refine lv_iload hx hb dX6_costOf_134 (lv_at hl 4 rfl) ?_
            obtain ⟨q12, hw⟩ := hw
            refine ra_M_19 F hh q12 dX6_costOf_136 ?_
            refine lf_callVi (rest := []) F hh (cw_X6_115 F.1.2.2.2.2 ⟨Nat.le_of_ble_eq_true rfl, Nat.le_of_ble_eq_true rfl⟩) (c_X6_areCrossed l D ha cy H.size σ (lf_ai σ 19 x4.toNatClampNeg) (lf_ai σ 19 x6.toNatClampNeg) _ hw) 0 6 rfl rfl rfl rfl hl.1 (Nat.le_of_ble_eq_true rfl) dX6_costOf_137 rfl (fun r13 σ13 H locs hw hh => ?_)
            refine lv_if_eq (tgt := 147) hx hb dX6_costOf_140 (by decide) (fun c14 => ?_) (fun c14 => ?_)
            · have hw := hw.1 c14
              obtain ⟨v15, ev15⟩ : ∃ y : Int32, y = x6 + 1 := ⟨_, rfl⟩
              have hw := hw v15 ev15
              refine lv_iinc (v := v15) (lv' := [(6, .int v15), (0, .ref (ha 0)), (1, .int x1), (2, .long x2), (4, .int x4)]) hx hb dX6_costOf_147 hl (k := 4) rfl (by rw [ev15]; rfl) (by decide) rfl (fun ls hl => ?_)
              refine lv_goto (tgt := 86) hx hb dX6_costOf_150 (by decide) ?_
              exact ih x1 x2 x4 v15 σ13 _ _ _ hh (lv_sub hl [1, 2, 3, 4, 0] rfl) hw
            · have hw := hw.2 c14
              refine lv_ldc2 hx hb F.1.2.2.2.1 (F.1.2.2.2.2 _ (lr_23 _ (List.mem_of_getElem? (i := 6) rfl))) dX6_costOf_143 ?_
              exact lf_retl F hh hw dX6_costOf_146
set_option maxHeartbeats 4000000 in
set_option maxRecDepth 100000 in
theorem w_X6_costOf_80 {p : Program} {l : Launch} {e : Env} {s : State} {m : MethodId} {args : Array Value} {below : List Frame} {meth : Method} {c : Code} {D : va_G} {A : Nat → Prop} {ha : Nat → Nat} {cy : Nat → ClassId} (K_5 : Int32 → Int64 → Int32 → lf_St → Prop) (Post : Int64 → lf_St → Prop) (F : lf_C p s m args meth c RX6 cX6_costOf 7 (some .long) D (tyM_ cy) A) (hK_5 : ∀ (x1 : Int32) (x2 : Int64) (x4 : Int32) (σ : lf_St) (H : Heap) (locs : List Loc) (ls : Array Slot), lf_H D (wM_ ha cy) A s σ H locs → lv_has ls 7 [(0, .ref (ha 0)), (1, .int x1), (2, .long x2), (4, .int x4)] → K_5 x1 x2 x4 σ → W p l e rm_X6_costOf s m args below meth c H locs 0 0 (lf_Ql below args s D (tyM_ cy) A (wM_ ha cy) Post) (F0 m 5 ls [])) (x1 : Int32) (x4 : Int32) (t0 : Int64) (t1 : Int64) (t2 : Int64) (σ : lf_St) (H : Heap) (locs : List Loc) (ls : Array Slot) (hh : lf_H D (wM_ ha cy) A s σ H locs) (hl : lv_has ls 7 [(0, .ref (ha 0)), (1, .int x1), (4, .int x4)]) (hw : J_X6_costOf_80 K_5 Post x1 x4 t0 t1 t2 σ) : W p l e rm_X6_costOf s m args below meth c H locs 0 0 (lf_Ql below args s D (tyM_ cy) A (wM_ ha cy) Post) (F0 m 80 ls [.long t0, .long t1, .long t2]) := by
  have hx := F.1.1
  have hb := F.1.2.1
  unfold J_X6_costOf_80 at hw
  refine lv_lmul hx hb dX6_costOf_80 ?_
  refine lv_ladd hx hb dX6_costOf_81 ?_
  refine lv_topl (fun v1 ev1 => ?_)
  have hw := hw v1 ev1
  refine lv_lstore_n (lv' := [(2, .long v1), (0, .ref (ha 0)), (1, .int x1), (4, .int x4)]) hx hb dX6_costOf_82 rfl hl (by decide) rfl (fun ls hl => ?_)
  refine lv_iconst (v := 0) hx hb dX6_costOf_83 (by decide) ?_
  refine lv_istore (lv' := [(6, .int 0), (2, .long v1), (0, .ref (ha 0)), (1, .int x1), (4, .int x4)]) hx hb dX6_costOf_84 hl (by decide) rfl (fun ls hl => ?_)
  obtain ⟨n86, hw⟩ := hw
  exact w_X6_costOf_86 _ Post F hK_5 n86 x1 v1 x4 0 σ _ _ _ hh (lv_sub hl [2, 3, 1, 4, 0] rfl) hw
set_option maxHeartbeats 4000000 in
set_option maxRecDepth 100000 in
theorem w_X6_costOf_41 {p : Program} {l : Launch} {e : Env} {s : State} {m : MethodId} {args : Array Value} {below : List Frame} {meth : Method} {c : Code} {D : va_G} {A : Nat → Prop} {ha : Nat → Nat} {cy : Nat → ClassId} (K_5 : Int32 → Int64 → Int32 → lf_St → Prop) (Post : Int64 → lf_St → Prop) (F : lf_C p s m args meth c RX6 cX6_costOf 7 (some .long) D (tyM_ cy) A) (hK_5 : ∀ (x1 : Int32) (x2 : Int64) (x4 : Int32) (σ : lf_St) (H : Heap) (locs : List Loc) (ls : Array Slot), lf_H D (wM_ ha cy) A s σ H locs → lv_has ls 7 [(0, .ref (ha 0)), (1, .int x1), (2, .long x2), (4, .int x4)] → K_5 x1 x2 x4 σ → W p l e rm_X6_costOf s m args below meth c H locs 0 0 (lf_Ql below args s D (tyM_ cy) A (wM_ ha cy) Post) (F0 m 5 ls [])) (x1 : Int32) (x2 : Int64) (x4 : Int32) (x5 : Int32) (σ : lf_St) (H : Heap) (locs : List Loc) (ls : Array Slot) (hh : lf_H D (wM_ ha cy) A s σ H locs) (hl : lv_has ls 7 [(0, .ref (ha 0)), (1, .int x1), (2, .long x2), (4, .int x4), (5, .int x5)]) (hw : J_X6_costOf_41 K_5 Post x1 x2 x4 x5 σ) : W p l e rm_X6_costOf s m args below meth c H locs 0 0 (lf_Ql below args s D (tyM_ cy) A (wM_ ha cy) Post) (F0 m 41 ls []) := by
  have hx := F.1.1
  have hb := F.1.2.1
  unfold J_X6_costOf_41 at hw
  refine lv_lload_n hx hb dX6_costOf_41 rfl (lv_at hl 2 rfl) ?_
  refine lv_aload_n hx hb dX6_costOf_42 rfl (lv_at hl 0 rfl) ?_
  refine lv_aload_n hx hb dX6_costOf_43 rfl (lv_at hl 0 rfl) ?_
  refine fg_X6_48 F hh dX6_costOf_44 ?_
  refine lv_iload hx hb dX6_costOf_47 (lv_at hl 3 rfl) ?_
  obtain ⟨q1, hw⟩ := hw
  refine ra_M_19 F hh q1 dX6_costOf_49 ?_
  refine lf_callVi (rest := [.long x2]) F hh (cw_X6_93 F.1.2.2.2.2 ⟨Nat.le_of_ble_eq_true rfl, Nat.le_of_ble_eq_true rfl⟩) (c_X6_stuff l D ha cy H.size σ (lf_ai σ 19 x4.toNatClampNeg) _ hw) 0 6 rfl rfl rfl rfl hl.1 (Nat.le_of_ble_eq_true rfl) dX6_costOf_50 rfl (fun r2 σ2 H locs hw hh => ?_)
  refine lv_i2l hx hb dX6_costOf_53 rfl ?_
  refine lv_iload_n hx hb dX6_costOf_54 rfl (lv_at hl 1 rfl) ?_
  refine lv_iconst (v := 2) hx hb dX6_costOf_55 (by decide) ?_
  refine lv_icmp_ne (tgt := 70) hx hb dX6_costOf_56 (by decide) (fun c3 => ?_) (fun c3 => ?_)
  · have hw := hw.1 c3
    refine lv_aload_n hx hb dX6_costOf_70 rfl (lv_at hl 0 rfl) ?_
    refine fg_X6_51 F hh dX6_costOf_71 ?_
    refine lv_iload hx hb dX6_costOf_74 (lv_at hl 3 rfl) ?_
    obtain ⟨q4, hw⟩ := hw
    refine ra_M_21 F hh q4 dX6_costOf_76 ?_
    refine lf_callSl (rest := [.long r2.toInt64, .long x2]) F hh (cw_X6_140 F.1.2.2.2.2 ⟨Nat.le_of_ble_eq_true rfl, Nat.le_of_ble_eq_true rfl⟩) (c_X6_abs l D ha cy H.size σ2 (lf_al σ2 21 x4.toNatClampNeg) _ hw) rfl hl.1 (Nat.le_of_ble_eq_true rfl) dX6_costOf_77 rfl (fun r5 σ5 H locs hw hh => ?_)
    exact w_X6_costOf_80 _ Post F hK_5 x1 x4 r5 (r2.toInt64) x2 σ5 _ _ _ hh (lv_sub hl [0, 1, 3] rfl) hw
  · have hw := hw.2 c3
    refine lv_iload hx hb dX6_costOf_59 (lv_at hl 4 rfl) ?_
    refine lv_i2l hx hb dX6_costOf_61 rfl ?_
    refine lv_aload_n hx hb dX6_costOf_62 rfl (lv_at hl 0 rfl) ?_
    refine fg_X6_136 F hh dX6_costOf_63 ?_
    refine lv_lmul hx hb dX6_costOf_66 ?_
    refine lv_goto (tgt := 80) hx hb dX6_costOf_67 (by decide) ?_
    exact w_X6_costOf_80 _ Post F hK_5 x1 x4 ((x5.toInt64) * (lf_gl σ2 20)) (r2.toInt64) x2 σ2 _ _ _ hh (lv_sub hl [0, 1, 3] rfl) hw
set_option maxHeartbeats 4000000 in
set_option maxRecDepth 100000 in
theorem w_X6_costOf_5 {p : Program} {l : Launch} {e : Env} {s : State} {m : MethodId} {args : Array Value} {below : List Frame} {meth : Method} {c : Code} {D : va_G} {A : Nat → Prop} {ha : Nat → Nat} {cy : Nat → ClassId} (Post : Int64 → lf_St → Prop) (F : lf_C p s m args meth c RX6 cX6_costOf 7 (some .long) D (tyM_ cy) A) : ∀ (n : Nat) (x1 : Int32) (x2 : Int64) (x4 : Int32) (σ : lf_St) (H : Heap) (locs : List Loc) (ls : Array Slot), lf_H D (wM_ ha cy) A s σ H locs → lv_has ls 7 [(0, .ref (ha 0)), (1, .int x1), (2, .long x2), (4, .int x4)] → L_X6_costOf_5 Post n x1 x2 x4 σ → W p l e rm_X6_costOf s m args below meth c H locs 0 0 (lf_Ql below args s D (tyM_ cy) A (wM_ ha cy) Post) (F0 m 5 ls []) := by
  have hx := F.1.1
  have hb := F.1.2.1
  intro n
  induction n with
  | zero =>
    intro x1 x2 x4 σ H locs ls hh hl hw
    exact False.elim hw
  | succ n ih =>
    intro x1 x2 x4 σ H locs ls hh hl hw
    unfold L_X6_costOf_5 at hw
    refine lv_iload hx hb dX6_costOf_5 (lv_at hl 3 rfl) ?_
    refine lv_aload_n hx hb dX6_costOf_7 rfl (lv_at hl 0 rfl) ?_
    refine fg_X6_119 F hh dX6_costOf_8 ?_
    refine lv_icmp_ge (tgt := 159) hx hb dX6_costOf_11 (by decide) (fun c1 => ?_) (fun c1 => ?_)
    · have hw := hw.1 c1
      refine lv_lload_n hx hb dX6_costOf_159 rfl (lv_at hl 2 rfl) ?_
      refine lv_iload_n hx hb dX6_costOf_160 rfl (lv_at hl 1 rfl) ?_
      refine lv_iconst (v := 3) hx hb dX6_costOf_161 (by decide) ?_
      refine lv_icmp_ne (tgt := 187) hx hb dX6_costOf_162 (by decide) (fun c2 => ?_) (fun c2 => ?_)
      · have hw := hw.1 c2
        refine lv_lconst (v := 0) hx hb dX6_costOf_187 (by decide) ?_
        refine lv_ladd hx hb dX6_costOf_188 ?_
        exact lf_retl F hh hw dX6_costOf_189
      · have hw := hw.2 c2
        refine lv_aload_n hx hb dX6_costOf_165 rfl (lv_at hl 0 rfl) ?_
        refine fg_X6_104 F hh dX6_costOf_166 ?_
        refine lv_i2l hx hb dX6_costOf_169 rfl ?_
        refine lv_aload_n hx hb dX6_costOf_170 rfl (lv_at hl 0 rfl) ?_
        refine lf_callVi (rest := [.long ((lf_gi σ 11) : Int32).toInt64, .long x2]) F hh (cw_X6_162 F.1.2.2.2.2 ⟨Nat.le_of_ble_eq_true rfl, Nat.le_of_ble_eq_true rfl⟩) (c_X6_usedJoints l D ha cy H.size σ  _ hw) 0 6 rfl rfl rfl rfl hl.1 (Nat.le_of_ble_eq_true rfl) dX6_costOf_171 rfl (fun r3 σ3 H locs hw hh => ?_)
        refine lf_callSi (rest := [.long ((lf_gi σ 11) : Int32).toInt64, .long x2]) F hh (cw_X6_147 F.1.2.2.2.2 ⟨Nat.le_of_ble_eq_true rfl, Nat.le_of_ble_eq_true rfl⟩) (c_X6_bits l D ha cy H.size σ3 r3 _ hw) rfl hl.1 (Nat.le_of_ble_eq_true rfl) dX6_costOf_174 rfl (fun r4 σ4 H locs hw hh => ?_)
        refine lv_i2l hx hb dX6_costOf_177 rfl ?_
        refine lv_lmul hx hb dX6_costOf_178 ?_
        refine lv_aload_n hx hb dX6_costOf_179 rfl (lv_at hl 0 rfl) ?_
        refine fg_X6_136 F hh dX6_costOf_180 ?_
        refine lv_lmul hx hb dX6_costOf_183 ?_
        refine lv_goto (tgt := 188) hx hb dX6_costOf_184 (by decide) ?_
        refine lv_ladd hx hb dX6_costOf_188 ?_
        exact lf_retl F hh hw dX6_costOf_189
    · have hw := hw.2 c1
      refine lv_aload_n hx hb dX6_costOf_14 rfl (lv_at hl 0 rfl) ?_
      refine lv_aload_n hx hb dX6_costOf_15 rfl (lv_at hl 0 rfl) ?_
      refine fg_X6_51 F hh dX6_costOf_16 ?_
      refine lv_iload hx hb dX6_costOf_19 (lv_at hl 3 rfl) ?_
      obtain ⟨q5, hw⟩ := hw
      refine ra_M_21 F hh q5 dX6_costOf_21 ?_
      refine lf_callVi (rest := []) F hh (cw_X6_156 F.1.2.2.2.2 ⟨Nat.le_of_ble_eq_true rfl, Nat.le_of_ble_eq_true rfl⟩) (c_X6_sizeFor l D ha cy H.size σ (lf_al σ 21 x4.toNatClampNeg) _ hw) 0 6 rfl rfl rfl rfl hl.1 (Nat.le_of_ble_eq_true rfl) dX6_costOf_22 rfl (fun r6 σ6 H locs hw hh => ?_)
      refine lv_istore (lv' := [(5, .int r6), (0, .ref (ha 0)), (1, .int x1), (2, .long x2), (4, .int x4)]) hx hb dX6_costOf_25 hl (by decide) rfl (fun ls hl => ?_)
      refine lv_iload_n hx hb dX6_costOf_27 rfl (lv_at hl 2 rfl) ?_
      refine lv_iconst (v := 2) hx hb dX6_costOf_28 (by decide) ?_
      refine lv_icmp_ne (tgt := 41) hx hb dX6_costOf_29 (by decide) (fun c7 => ?_) (fun c7 => ?_)
      · have hw := hw.1 c7
        exact w_X6_costOf_41 _ Post F ih x1 x2 x4 r6 σ6 _ _ _ hh (lv_sub hl [1, 2, 3, 4, 0] rfl) hw
      · have hw := hw.2 c7
        refine lv_iload hx hb dX6_costOf_32 (lv_at hl 0 rfl) ?_
        refine lv_if_ge (tgt := 41) hx hb dX6_costOf_34 (by decide) (fun c8 => ?_) (fun c8 => ?_)
        · have hw := hw.1 c8
          exact w_X6_costOf_41 _ Post F ih x1 x2 x4 r6 σ6 _ _ _ hh (lv_sub hl [1, 2, 3, 4, 0] rfl) hw
        · have hw := hw.2 c8
          refine lv_ldc2 hx hb F.1.2.2.2.1 (F.1.2.2.2.2 _ (lr_23 _ (List.mem_of_getElem? (i := 6) rfl))) dX6_costOf_37 ?_
          exact lf_retl F hh hw dX6_costOf_40
set_option maxHeartbeats 4000000 in
set_option maxRecDepth 100000 in
theorem c_X6_costOf (l : Launch) (D : va_G) (ha : Nat → Nat) (cy : Nat → ClassId) (sz : Nat) (σ : lf_St) (x1 : Int32) (Post : Int64 → lf_St → Prop) (hw : wp_X6_costOf x1 σ Post) : lf_Ml l yX6_costOf (lf_ws yX6_costOf cX6_costOf 7 (some .long)) rm_X6_costOf D (tyM_ cy) (wM_ ha cy) sz σ [.ref (ha 0), .int x1] Post := by
  refine lf_ofl (by decide +kernel) (Nat.le_of_ble_eq_true rfl) ?_
  intro p e s m args below meth c A ls F hh hl
  have hx := F.1.1
  have hb := F.1.2.1
  have hl : lv_has ls 7 [(0, .ref (ha 0)), (1, .int x1)] := hl
  obtain ⟨H, hHe⟩ : ∃ H, H = s.heap := ⟨_, rfl⟩
  rw [← hHe] at hh ⊢
  unfold wp_X6_costOf at hw
  refine lv_lconst (v := 0) hx hb dX6_costOf_0 (by decide) ?_
  refine lv_lstore_n (lv' := [(2, .long 0), (0, .ref (ha 0)), (1, .int x1)]) hx hb dX6_costOf_1 rfl hl (by decide) rfl (fun ls hl => ?_)
  refine lv_iconst (v := 0) hx hb dX6_costOf_2 (by decide) ?_
  refine lv_istore (lv' := [(4, .int 0), (2, .long 0), (0, .ref (ha 0)), (1, .int x1)]) hx hb dX6_costOf_3 hl (by decide) rfl (fun ls hl => ?_)
  obtain ⟨n5, hw⟩ := hw
  exact w_X6_costOf_5 Post F  n5 x1 0 0 σ _ _ _ hh (lv_sub hl [2, 3, 1, 0] rfl) hw
theorem cw_X6_165 {R : Room} {s : State} {args : Array Value} (ht : ∀ w ∈ wsL_law, w.before args s = true) (hR : rm_X6_costOf.frames + 1 ≤ R.frames ∧ 8 + (7 + 11) + rm_X6_costOf.locals ≤ R.locals) : lf_cV R s args RX6 RX6 165 yX6_costOf cX6_costOf 7 (some .long) rm_X6_costOf 1 :=
  lf_cV_of 1 ht (lr_23 _ (List.mem_of_getElem? (i := 5) rfl)) (lr_23 _ (List.mem_of_getElem? (i := 2) rfl)) (lr_23 _ (List.mem_of_getElem? (i := 3) rfl)) (lr_23 _ (List.mem_of_getElem? (i := 4) rfl)) (lr_1 _ (List.mem_of_getElem? (i := 5) rfl)) rfl rfl (by decide +kernel) hR
def J_X6_find_121 (K_9 : Int32 → Int32 → Int32 → lf_St → Prop) (Post : Int32 → lf_St → Prop) (x1 : Int32) (x3 : Int32) (x4 : Int64) (σ : lf_St) : Prop := ∀ σ1 : lf_St, σ1 = (lf_sl σ 22 x4) → (∀ v2 : Int32, v2 = x3 + 1 → (K_9 x1 x3 v2 (lf_sl σ1 23 (lf_gl σ1 20))))
def J_X6_find_102 (K_9 : Int32 → Int32 → Int32 → lf_St → Prop) (Post : Int32 → lf_St → Prop) (x1 : Int32) (x2 : Int32) (x3 : Int32) (x4 : Int64) (x6 : Int32) (t0 : Int32) (σ : lf_St) : Prop := ((x4 < 0) → (∀ v2 : Int32, v2 = x3 + 1 → (K_9 x1 x2 v2 σ))) ∧ ((¬ (x4 < 0)) → (((¬ x6 = 0) → (J_X6_find_121 K_9 Post x1 x3 x4 σ)) ∧ ((x6 = 0) → (((t0 = 0) → (∀ v5 : Int32, v5 = x3 + 1 → (K_9 x1 x2 v5 σ))) ∧ ((¬ (t0 = 0)) → (J_X6_find_121 K_9 Post x1 x3 x4 σ))))))
def J_X6_find_101 (K_9 : Int32 → Int32 → Int32 → lf_St → Prop) (Post : Int32 → lf_St → Prop) (x1 : Int32) (x2 : Int32) (x3 : Int32) (x4 : Int64) (x6 : Int32) (σ : lf_St) : Prop := J_X6_find_102 K_9 Post x1 x2 x3 x4 x6 0 σ
def J_X6_find_63 (K_9 : Int32 → Int32 → Int32 → lf_St → Prop) (Post : Int32 → lf_St → Prop) (x1 : Int32) (x2 : Int32) (x3 : Int32) (x4 : Int64) (t0 : Int32) (σ : lf_St) : Prop := ((x2 < 0) → (J_X6_find_101 K_9 Post x1 x2 x3 x4 t0 σ)) ∧ ((¬ (x2 < 0)) → (((¬ (x4 * (lf_gl σ 23)) = ((lf_gl σ 22) * (lf_gl σ 20))) → (J_X6_find_101 K_9 Post x1 x2 x3 x4 t0 σ)) ∧ (((x4 * (lf_gl σ 23)) = ((lf_gl σ 22) * (lf_gl σ 20))) → (wp_X6_isAhead x3 x2 σ (fun r3 σ3 => ((r3 = 0) → (J_X6_find_101 K_9 Post x1 x2 x3 x4 t0 σ3)) ∧ ((¬ (r3 = 0)) → (J_X6_find_102 K_9 Post x1 x2 x3 x4 t0 1 σ3)))))))
def J_X6_find_58 (K_9 : Int32 → Int32 → Int32 → lf_St → Prop) (Post : Int32 → lf_St → Prop) (x1 : Int32) (x2 : Int32) (x3 : Int32) (x4 : Int64) (σ : lf_St) : Prop := J_X6_find_63 K_9 Post x1 x2 x3 x4 1 σ
def L_X6_find_9 (Post : Int32 → lf_St → Prop) : Nat → Int32 → Int32 → Int32 → lf_St → Prop
  | 0, _, _, _, _ => False
  | n + 1, x1, x2, x3, σ => (((1 <<< ((lf_gi σ 6) &&& 31)) ≤ x3) → (Post x2 σ)) ∧ ((¬ ((1 <<< ((lf_gi σ 6) &&& 31)) ≤ x3)) → (wp_X6_isChoice x3 σ (fun r2 σ2 => ((r2 = 0) → (∀ v4 : Int32, v4 = x3 + 1 → (L_X6_find_9 Post n x1 x2 v4 σ2))) ∧ ((¬ (r2 = 0)) → (wp_X6_costOf x1 σ2 (fun r5 σ5 => ((x2 < 0) → (J_X6_find_58 (L_X6_find_9 Post n) Post x1 x2 x3 r5 σ5)) ∧ ((¬ (x2 < 0)) → (((((lf_gl σ5 22) * (lf_gl σ5 20)) ≤ (r5 * (lf_gl σ5 23))) → (J_X6_find_63 (L_X6_find_9 Post n) Post x1 x2 x3 r5 0 σ5)) ∧ ((¬ (((lf_gl σ5 22) * (lf_gl σ5 20)) ≤ (r5 * (lf_gl σ5 23)))) → (J_X6_find_58 (L_X6_find_9 Post n) Post x1 x2 x3 r5 σ5))))))))))
def wp_X6_find (x1 : Int32) (σ : lf_St) (Post : Int32 → lf_St → Prop) : Prop := wp_X6_layRows σ (fun σ1 => ∃ fu : Nat, L_X6_find_9 Post fu x1 (-6) 0 σ1)
def rm_X6_find : Room := ({ frames := 4, cells := 0, slots := 0, locals := 103 } : Room)
set_option maxHeartbeats 4000000 in
set_option maxRecDepth 100000 in
theorem w_X6_find_121 {p : Program} {l : Launch} {e : Env} {s : State} {m : MethodId} {args : Array Value} {below : List Frame} {meth : Method} {c : Code} {D : va_G} {A : Nat → Prop} {ha : Nat → Nat} {cy : Nat → ClassId} (K_9 : Int32 → Int32 → Int32 → lf_St → Prop) (Post : Int32 → lf_St → Prop) (F : lf_C p s m args meth c RX6 cX6_find 8 (some .int) D (tyM_ cy) A) (hK_9 : ∀ (x1 : Int32) (x2 : Int32) (x3 : Int32) (σ : lf_St) (H : Heap) (locs : List Loc) (ls : Array Slot), lf_H D (wM_ ha cy) A s σ H locs → lv_has ls 8 [(0, .ref (ha 0)), (1, .int x1), (2, .int x2), (3, .int x3)] → K_9 x1 x2 x3 σ → W p l e rm_X6_find s m args below meth c H locs 0 0 (lf_Qi below args s D (tyM_ cy) A (wM_ ha cy) Post) (F0 m 9 ls [])) (x1 : Int32) (x3 : Int32) (x4 : Int64) (σ : lf_St) (H : Heap) (locs : List Loc) (ls : Array Slot) (hh : lf_H D (wM_ ha cy) A s σ H locs) (hl : lv_has ls 8 [(0, .ref (ha 0)), (1, .int x1), (3, .int x3), (4, .long x4)]) (hw : J_X6_find_121 K_9 Post x1 x3 x4 σ) : W p l e rm_X6_find s m args below meth c H locs 0 0 (lf_Qi below args s D (tyM_ cy) A (wM_ ha cy) Post) (F0 m 121 ls []) := by
  have hx := F.1.1
  have hb := F.1.2.1
  unfold J_X6_find_121 at hw
  refine lv_iload_n hx hb dX6_find_121 rfl (lv_at hl 2 rfl) ?_
  refine lv_istore_n (lv' := [(2, .int x3), (0, .ref (ha 0)), (1, .int x1), (3, .int x3), (4, .long x4)]) hx hb dX6_find_122 rfl hl (by decide) rfl (fun ls hl => ?_)
  refine lv_aload_n hx hb dX6_find_123 rfl (lv_at hl 1 rfl) ?_
  refine lv_lload hx hb dX6_find_124 (lv_at hl 4 rfl) ?_
  refine fp_X6_171 F hh dX6_find_126 (fun H locs hh => ?_)
  refine lv_aload_n hx hb dX6_find_129 rfl (lv_at hl 1 rfl) ?_
  refine lv_aload_n hx hb dX6_find_130 rfl (lv_at hl 1 rfl) ?_
  obtain ⟨σ1, eσ1⟩ : ∃ z : lf_St, z = (lf_sl σ 22 x4) := ⟨_, rfl⟩
  rw [← eσ1] at hh
  have hw := hw σ1 eσ1
  refine fg_X6_136 F hh dX6_find_131 ?_
  refine fp_X6_168 F hh dX6_find_134 (fun H locs hh => ?_)
  obtain ⟨v2, ev2⟩ : ∃ y : Int32, y = x3 + 1 := ⟨_, rfl⟩
  have hw := hw v2 ev2
  refine lv_iinc (v := v2) (lv' := [(3, .int v2), (2, .int x3), (0, .ref (ha 0)), (1, .int x1), (4, .long x4)]) hx hb dX6_find_137 hl (k := 3) rfl (by rw [ev2]; rfl) (by decide) rfl (fun ls hl => ?_)
  refine lv_goto (tgt := 9) hx hb dX6_find_140 (by decide) ?_
  exact hK_9 x1 x3 v2 (lf_sl σ1 23 (lf_gl σ1 20)) _ _ _ hh (lv_sub hl [2, 3, 1, 0] rfl) hw
set_option maxHeartbeats 4000000 in
set_option maxRecDepth 100000 in
theorem w_X6_find_102 {p : Program} {l : Launch} {e : Env} {s : State} {m : MethodId} {args : Array Value} {below : List Frame} {meth : Method} {c : Code} {D : va_G} {A : Nat → Prop} {ha : Nat → Nat} {cy : Nat → ClassId} (K_9 : Int32 → Int32 → Int32 → lf_St → Prop) (Post : Int32 → lf_St → Prop) (F : lf_C p s m args meth c RX6 cX6_find 8 (some .int) D (tyM_ cy) A) (hK_9 : ∀ (x1 : Int32) (x2 : Int32) (x3 : Int32) (σ : lf_St) (H : Heap) (locs : List Loc) (ls : Array Slot), lf_H D (wM_ ha cy) A s σ H locs → lv_has ls 8 [(0, .ref (ha 0)), (1, .int x1), (2, .int x2), (3, .int x3)] → K_9 x1 x2 x3 σ → W p l e rm_X6_find s m args below meth c H locs 0 0 (lf_Qi below args s D (tyM_ cy) A (wM_ ha cy) Post) (F0 m 9 ls [])) (x1 : Int32) (x2 : Int32) (x3 : Int32) (x4 : Int64) (x6 : Int32) (t0 : Int32) (σ : lf_St) (H : Heap) (locs : List Loc) (ls : Array Slot) (hh : lf_H D (wM_ ha cy) A s σ H locs) (hl : lv_has ls 8 [(0, .ref (ha 0)), (1, .int x1), (2, .int x2), (3, .int x3), (4, .long x4), (6, .int x6)]) (hw : J_X6_find_102 K_9 Post x1 x2 x3 x4 x6 t0 σ) : W p l e rm_X6_find s m args below meth c H locs 0 0 (lf_Qi below args s D (tyM_ cy) A (wM_ ha cy) Post) (F0 m 102 ls [.int t0]) := by
  have hx := F.1.1
  have hb := F.1.2.1
  unfold J_X6_find_102 at hw
  refine lv_istore (lv' := [(7, .int t0), (0, .ref (ha 0)), (1, .int x1), (2, .int x2), (3, .int x3), (4, .long x4), (6, .int x6)]) hx hb dX6_find_102 hl (by decide) rfl (fun ls hl => ?_)
  refine lv_lload hx hb dX6_find_104 (lv_at hl 5 rfl) ?_
  refine lv_lconst (v := 0) hx hb dX6_find_106 (by decide) ?_
  refine lf_lcmp_lt (tgt := 137) hx hb dX6_find_107 dX6_find_108 (by decide) (fun c1 => ?_) (fun c1 => ?_)
  · have hw := hw.1 c1
    obtain ⟨v2, ev2⟩ : ∃ y : Int32, y = x3 + 1 := ⟨_, rfl⟩
    have hw := hw v2 ev2
    refine lv_iinc (v := v2) (lv' := [(3, .int v2), (7, .int t0), (0, .ref (ha 0)), (1, .int x1), (2, .int x2), (4, .long x4), (6, .int x6)]) hx hb dX6_find_137 hl (k := 4) rfl (by rw [ev2]; rfl) (by decide) rfl (fun ls hl => ?_)
    refine lv_goto (tgt := 9) hx hb dX6_find_140 (by decide) ?_
    exact hK_9 x1 x2 v2 σ _ _ _ hh (lv_sub hl [2, 3, 4, 0] rfl) hw
  · have hw := hw.2 c1
    refine lv_iload hx hb dX6_find_111 (lv_at hl 6 rfl) ?_
    refine lv_if_ne (tgt := 121) hx hb dX6_find_113 (by decide) (fun c3 => ?_) (fun c3 => ?_)
    · have hw := hw.1 c3
      exact w_X6_find_121 _ Post F hK_9 x1 x3 x4 σ _ _ _ hh (lv_sub hl [1, 2, 4, 5] rfl) hw
    · have hw := hw.2 c3
      refine lv_iload hx hb dX6_find_116 (lv_at hl 0 rfl) ?_
      refine lv_if_eq (tgt := 137) hx hb dX6_find_118 (by decide) (fun c4 => ?_) (fun c4 => ?_)
      · have hw := hw.1 c4
        obtain ⟨v5, ev5⟩ : ∃ y : Int32, y = x3 + 1 := ⟨_, rfl⟩
        have hw := hw v5 ev5
        refine lv_iinc (v := v5) (lv' := [(3, .int v5), (7, .int t0), (0, .ref (ha 0)), (1, .int x1), (2, .int x2), (4, .long x4), (6, .int x6)]) hx hb dX6_find_137 hl (k := 4) rfl (by rw [ev5]; rfl) (by decide) rfl (fun ls hl => ?_)
        refine lv_goto (tgt := 9) hx hb dX6_find_140 (by decide) ?_
        exact hK_9 x1 x2 v5 σ _ _ _ hh (lv_sub hl [2, 3, 4, 0] rfl) hw
      · have hw := hw.2 c4
        exact w_X6_find_121 _ Post F hK_9 x1 x3 x4 σ _ _ _ hh (lv_sub hl [1, 2, 4, 5] rfl) hw
set_option maxHeartbeats 4000000 in
set_option maxRecDepth 100000 in
theorem w_X6_find_101 {p : Program} {l : Launch} {e : Env} {s : State} {m : MethodId} {args : Array Value} {below : List Frame} {meth : Method} {c : Code} {D : va_G} {A : Nat → Prop} {ha : Nat → Nat} {cy : Nat → ClassId} (K_9 : Int32 → Int32 → Int32 → lf_St → Prop) (Post : Int32 → lf_St → Prop) (F : lf_C p s m args meth c RX6 cX6_find 8 (some .int) D (tyM_ cy) A) (hK_9 : ∀ (x1 : Int32) (x2 : Int32) (x3 : Int32) (σ : lf_St) (H : Heap) (locs : List Loc) (ls : Array Slot), lf_H D (wM_ ha cy) A s σ H locs → lv_has ls 8 [(0, .ref (ha 0)), (1, .int x1), (2, .int x2), (3, .int x3)] → K_9 x1 x2 x3 σ → W p l e rm_X6_find s m args below meth c H locs 0 0 (lf_Qi below args s D (tyM_ cy) A (wM_ ha cy) Post) (F0 m 9 ls [])) (x1 : Int32) (x2 : Int32) (x3 : Int32) (x4 : Int64) (x6 : Int32) (σ : lf_St) (H : Heap) (locs : List Loc) (ls : Array Slot) (hh : lf_H D (wM_ ha cy) A s σ H locs) (hl : lv_has ls 8 [(0, .ref (ha 0)), (1, .int x1), (2, .int x2), (3, .int x3), (4, .long x4), (6, .int x6)]) (hw : J_X6_find_101 K_9 Post x1 x2 x3 x4 x6 σ) : W p l e rm_X6_find s m args below meth c H locs 0 0 (lf_Qi below args s D (tyM_ cy) A (wM_ ha cy) Post) (F0 m 101 ls []) := by
  have hx := F.1.1
  have hb := F.1.2.1
  unfold J_X6_find_101 at hw
  refine lv_iconst (v := 0) hx hb dX6_find_101 (by decide) ?_
  exact w_X6_find_102 _ Post F hK_9 x1 x2 x3 x4 x6 0 σ _ _ _ hh (lv_sub hl [0, 1, 2, 3, 4, 5] rfl) hw
set_option maxHeartbeats 4000000 in
set_option maxRecDepth 100000 in
theorem w_X6_find_63 {p : Program} {l : Launch} {e : Env} {s : State} {m : MethodId} {args : Array Value} {below : List Frame} {meth : Method} {c : Code} {D : va_G} {A : Nat → Prop} {ha : Nat → Nat} {cy : Nat → ClassId} (K_9 : Int32 → Int32 → Int32 → lf_St → Prop) (Post : Int32 → lf_St → Prop) (F : lf_C p s m args meth c RX6 cX6_find 8 (some .int) D (tyM_ cy) A) (hK_9 : ∀ (x1 : Int32) (x2 : Int32) (x3 : Int32) (σ : lf_St) (H : Heap) (locs : List Loc) (ls : Array Slot), lf_H D (wM_ ha cy) A s σ H locs → lv_has ls 8 [(0, .ref (ha 0)), (1, .int x1), (2, .int x2), (3, .int x3)] → K_9 x1 x2 x3 σ → W p l e rm_X6_find s m args below meth c H locs 0 0 (lf_Qi below args s D (tyM_ cy) A (wM_ ha cy) Post) (F0 m 9 ls [])) (x1 : Int32) (x2 : Int32) (x3 : Int32) (x4 : Int64) (t0 : Int32) (σ : lf_St) (H : Heap) (locs : List Loc) (ls : Array Slot) (hh : lf_H D (wM_ ha cy) A s σ H locs) (hl : lv_has ls 8 [(0, .ref (ha 0)), (1, .int x1), (2, .int x2), (3, .int x3), (4, .long x4)]) (hw : J_X6_find_63 K_9 Post x1 x2 x3 x4 t0 σ) : W p l e rm_X6_find s m args below meth c H locs 0 0 (lf_Qi below args s D (tyM_ cy) A (wM_ ha cy) Post) (F0 m 63 ls [.int t0]) := by
  have hx := F.1.1
  have hb := F.1.2.1
  unfold J_X6_find_63 at hw
  refine lv_istore (lv' := [(6, .int t0), (0, .ref (ha 0)), (1, .int x1), (2, .int x2), (3, .int x3), (4, .long x4)]) hx hb dX6_find_63 hl (by decide) rfl (fun ls hl => ?_)
  refine lv_iload_n hx hb dX6_find_65 rfl (lv_at hl 3 rfl) ?_
  refine lv_if_lt (tgt := 101) hx hb dX6_find_66 (by decide) (fun c1 => ?_) (fun c1 => ?_)
  · have hw := hw.1 c1
    exact w_X6_find_101 _ Post F hK_9 x1 x2 x3 x4 t0 σ _ _ _ hh (lv_sub hl [1, 2, 3, 4, 5, 0] rfl) hw
  · have hw := hw.2 c1
    refine lv_lload hx hb dX6_find_69 (lv_at hl 5 rfl) ?_
    refine lv_aload_n hx hb dX6_find_71 rfl (lv_at hl 1 rfl) ?_
    refine fg_X6_168 F hh dX6_find_72 ?_
    refine lv_lmul hx hb dX6_find_75 ?_
    refine lv_aload_n hx hb dX6_find_76 rfl (lv_at hl 1 rfl) ?_
    refine fg_X6_171 F hh dX6_find_77 ?_
    refine lv_aload_n hx hb dX6_find_80 rfl (lv_at hl 1 rfl) ?_
    refine fg_X6_136 F hh dX6_find_81 ?_
    refine lv_lmul hx hb dX6_find_84 ?_
    refine lf_lcmp_ne (tgt := 101) hx hb dX6_find_85 dX6_find_86 (by decide) (fun c2 => ?_) (fun c2 => ?_)
    · have hw := hw.1 c2
      exact w_X6_find_101 _ Post F hK_9 x1 x2 x3 x4 t0 σ _ _ _ hh (lv_sub hl [1, 2, 3, 4, 5, 0] rfl) hw
    · have hw := hw.2 c2
      refine lv_iload_n hx hb dX6_find_89 rfl (lv_at hl 4 rfl) ?_
      refine lv_iload_n hx hb dX6_find_90 rfl (lv_at hl 3 rfl) ?_
      refine lf_callSi (rest := []) F hh (cw_X6_144 F.1.2.2.2.2 ⟨Nat.le_of_ble_eq_true rfl, Nat.le_of_ble_eq_true rfl⟩) (c_X6_isAhead l D ha cy H.size σ x3 x2 _ hw) rfl hl.1 (Nat.le_of_ble_eq_true rfl) dX6_find_91 rfl (fun r3 σ3 H locs hw hh => ?_)
      refine lv_if_eq (tgt := 101) hx hb dX6_find_94 (by decide) (fun c4 => ?_) (fun c4 => ?_)
      · have hw := hw.1 c4
        exact w_X6_find_101 _ Post F hK_9 x1 x2 x3 x4 t0 σ3 _ _ _ hh (lv_sub hl [1, 2, 3, 4, 5, 0] rfl) hw
      · have hw := hw.2 c4
        refine lv_iconst (v := 1) hx hb dX6_find_97 (by decide) ?_
        refine lv_goto (tgt := 102) hx hb dX6_find_98 (by decide) ?_
        exact w_X6_find_102 _ Post F hK_9 x1 x2 x3 x4 t0 1 σ3 _ _ _ hh (lv_sub hl [1, 2, 3, 4, 5, 0] rfl) hw
set_option maxHeartbeats 4000000 in
set_option maxRecDepth 100000 in
theorem w_X6_find_58 {p : Program} {l : Launch} {e : Env} {s : State} {m : MethodId} {args : Array Value} {below : List Frame} {meth : Method} {c : Code} {D : va_G} {A : Nat → Prop} {ha : Nat → Nat} {cy : Nat → ClassId} (K_9 : Int32 → Int32 → Int32 → lf_St → Prop) (Post : Int32 → lf_St → Prop) (F : lf_C p s m args meth c RX6 cX6_find 8 (some .int) D (tyM_ cy) A) (hK_9 : ∀ (x1 : Int32) (x2 : Int32) (x3 : Int32) (σ : lf_St) (H : Heap) (locs : List Loc) (ls : Array Slot), lf_H D (wM_ ha cy) A s σ H locs → lv_has ls 8 [(0, .ref (ha 0)), (1, .int x1), (2, .int x2), (3, .int x3)] → K_9 x1 x2 x3 σ → W p l e rm_X6_find s m args below meth c H locs 0 0 (lf_Qi below args s D (tyM_ cy) A (wM_ ha cy) Post) (F0 m 9 ls [])) (x1 : Int32) (x2 : Int32) (x3 : Int32) (x4 : Int64) (σ : lf_St) (H : Heap) (locs : List Loc) (ls : Array Slot) (hh : lf_H D (wM_ ha cy) A s σ H locs) (hl : lv_has ls 8 [(0, .ref (ha 0)), (1, .int x1), (2, .int x2), (3, .int x3), (4, .long x4)]) (hw : J_X6_find_58 K_9 Post x1 x2 x3 x4 σ) : W p l e rm_X6_find s m args below meth c H locs 0 0 (lf_Qi below args s D (tyM_ cy) A (wM_ ha cy) Post) (F0 m 58 ls []) := by
  have hx := F.1.1
  have hb := F.1.2.1
  unfold J_X6_find_58 at hw
  refine lv_iconst (v := 1) hx hb dX6_find_58 (by decide) ?_
  refine lv_goto (tgt := 63) hx hb dX6_find_59 (by decide) ?_
  exact w_X6_find_63 _ Post F hK_9 x1 x2 x3 x4 1 σ _ _ _ hh (lv_sub hl [0, 1, 2, 3, 4] rfl) hw
set_option maxHeartbeats 4000000 in
set_option maxRecDepth 100000 in
theorem w_X6_find_9 {p : Program} {l : Launch} {e : Env} {s : State} {m : MethodId} {args : Array Value} {below : List Frame} {meth : Method} {c : Code} {D : va_G} {A : Nat → Prop} {ha : Nat → Nat} {cy : Nat → ClassId} (Post : Int32 → lf_St → Prop) (F : lf_C p s m args meth c RX6 cX6_find 8 (some .int) D (tyM_ cy) A) : ∀ (n : Nat) (x1 : Int32) (x2 : Int32) (x3 : Int32) (σ : lf_St) (H : Heap) (locs : List Loc) (ls : Array Slot), lf_H D (wM_ ha cy) A s σ H locs → lv_has ls 8 [(0, .ref (ha 0)), (1, .int x1), (2, .int x2), (3, .int x3)] → L_X6_find_9 Post n x1 x2 x3 σ → W p l e rm_X6_find s m args below meth c H locs 0 0 (lf_Qi below args s D (tyM_ cy) A (wM_ ha cy) Post) (F0 m 9 ls []) := by
  have hx := F.1.1
  have hb := F.1.2.1
  intro n
  induction n with
  | zero =>
    intro x1 x2 x3 σ H locs ls hh hl hw
    exact False.elim hw
  | succ n ih =>
    intro x1 x2 x3 σ H locs ls hh hl hw
    unfold L_X6_find_9 at hw
    refine lv_iload_n hx hb dX6_find_9 rfl (lv_at hl 3 rfl) ?_
    refine lv_iconst (v := 1) hx hb dX6_find_10 (by decide) ?_
    refine lv_aload_n hx hb dX6_find_11 rfl (lv_at hl 0 rfl) ?_
    refine fg_X6_65 F hh dX6_find_12 ?_
    refine lv_ishl hx hb dX6_find_15 ?_
    refine lv_icmp_ge (tgt := 143) hx hb dX6_find_16 (by decide) (fun c1 => ?_) (fun c1 => ?_)
    · have hw := hw.1 c1
      refine lv_iload_n hx hb dX6_find_143 rfl (lv_at hl 2 rfl) ?_
      exact lf_reti F hh hw dX6_find_144
    · have hw := hw.2 c1
      refine lv_aload_n hx hb dX6_find_19 rfl (lv_at hl 0 rfl) ?_
      refine lv_iload_n hx hb dX6_find_20 rfl (lv_at hl 3 rfl) ?_
      refine lf_callVi (rest := []) F hh (cw_X6_153 F.1.2.2.2.2 ⟨Nat.le_of_ble_eq_true rfl, Nat.le_of_ble_eq_true rfl⟩) (c_X6_isChoice l D ha cy H.size σ x3 _ hw) 0 6 rfl rfl rfl rfl hl.1 (Nat.le_of_ble_eq_true rfl) dX6_find_21 rfl (fun r2 σ2 H locs hw hh => ?_)
      refine lv_if_eq (tgt := 137) hx hb dX6_find_24 (by decide) (fun c3 => ?_) (fun c3 => ?_)
      · have hw := hw.1 c3
        obtain ⟨v4, ev4⟩ : ∃ y : Int32, y = x3 + 1 := ⟨_, rfl⟩
        have hw := hw v4 ev4
        refine lv_iinc (v := v4) (lv' := [(3, .int v4), (0, .ref (ha 0)), (1, .int x1), (2, .int x2)]) hx hb dX6_find_137 hl (k := 3) rfl (by rw [ev4]; rfl) (by decide) rfl (fun ls hl => ?_)
        refine lv_goto (tgt := 9) hx hb dX6_find_140 (by decide) ?_
        exact ih x1 x2 v4 σ2 _ _ _ hh (lv_sub hl [1, 2, 3, 0] rfl) hw
      · have hw := hw.2 c3
        refine lv_aload_n hx hb dX6_find_27 rfl (lv_at hl 0 rfl) ?_
        refine lv_iload_n hx hb dX6_find_28 rfl (lv_at hl 1 rfl) ?_
        refine lf_callVl (rest := []) F hh (cw_X6_165 F.1.2.2.2.2 ⟨Nat.le_of_ble_eq_true rfl, Nat.le_of_ble_eq_true rfl⟩) (c_X6_costOf l D ha cy H.size σ2 x1 _ hw) 0 6 rfl rfl rfl rfl hl.1 (Nat.le_of_ble_eq_true rfl) dX6_find_29 rfl (fun r5 σ5 H locs hw hh => ?_)
        refine lv_lstore (lv' := [(4, .long r5), (0, .ref (ha 0)), (1, .int x1), (2, .int x2), (3, .int x3)]) hx hb dX6_find_32 hl (by decide) rfl (fun ls hl => ?_)
        refine lv_iload_n hx hb dX6_find_34 rfl (lv_at hl 3 rfl) ?_
        refine lv_if_lt (tgt := 58) hx hb dX6_find_35 (by decide) (fun c6 => ?_) (fun c6 => ?_)
        · have hw := hw.1 c6
          exact w_X6_find_58 _ Post F ih x1 x2 x3 r5 σ5 _ _ _ hh (lv_sub hl [1, 2, 3, 4, 0] rfl) hw
        · have hw := hw.2 c6
          refine lv_lload hx hb dX6_find_38 (lv_at hl 0 rfl) ?_
          refine lv_aload_n hx hb dX6_find_40 rfl (lv_at hl 1 rfl) ?_
          refine fg_X6_168 F hh dX6_find_41 ?_
          refine lv_lmul hx hb dX6_find_44 ?_
          refine lv_aload_n hx hb dX6_find_45 rfl (lv_at hl 1 rfl) ?_
          refine fg_X6_171 F hh dX6_find_46 ?_
          refine lv_aload_n hx hb dX6_find_49 rfl (lv_at hl 1 rfl) ?_
          refine fg_X6_136 F hh dX6_find_50 ?_
          refine lv_lmul hx hb dX6_find_53 ?_
          refine lf_lcmp_ge (tgt := 62) hx hb dX6_find_54 dX6_find_55 (by decide) (fun c7 => ?_) (fun c7 => ?_)
          · have hw := hw.1 c7
            refine lv_iconst (v := 0) hx hb dX6_find_62 (by decide) ?_
            exact w_X6_find_63 _ Post F ih x1 x2 x3 r5 0 σ5 _ _ _ hh (lv_sub hl [1, 2, 3, 4, 0] rfl) hw
          · have hw := hw.2 c7
            exact w_X6_find_58 _ Post F ih x1 x2 x3 r5 σ5 _ _ _ hh (lv_sub hl [1, 2, 3, 4, 0] rfl) hw
set_option maxHeartbeats 4000000 in
set_option maxRecDepth 100000 in
theorem c_X6_find (l : Launch) (D : va_G) (ha : Nat → Nat) (cy : Nat → ClassId) (sz : Nat) (σ : lf_St) (x1 : Int32) (Post : Int32 → lf_St → Prop) (hw : wp_X6_find x1 σ Post) : lf_Mi l yX6_find (lf_ws yX6_find cX6_find 8 (some .int)) rm_X6_find D (tyM_ cy) (wM_ ha cy) sz σ [.ref (ha 0), .int x1] Post := by
  refine lf_ofi (by decide +kernel) (Nat.le_of_ble_eq_true rfl) ?_
  intro p e s m args below meth c A ls F hh hl
  have hx := F.1.1
  have hb := F.1.2.1
  have hl : lv_has ls 8 [(0, .ref (ha 0)), (1, .int x1)] := hl
  obtain ⟨H, hHe⟩ : ∃ H, H = s.heap := ⟨_, rfl⟩
  rw [← hHe] at hh ⊢
  unfold wp_X6_find at hw
  refine lv_aload_n hx hb dX6_find_0 rfl (lv_at hl 0 rfl) ?_
  refine lf_callVv (rest := []) F hh (cw_X6_150 F.1.2.2.2.2 ⟨Nat.le_of_ble_eq_true rfl, Nat.le_of_ble_eq_true rfl⟩) (c_X6_layRows l D ha cy H.size σ  _ hw) 0 6 rfl rfl rfl rfl hl.1 (Nat.le_of_ble_eq_true rfl) dX6_find_1 rfl (fun σ1 H locs hw hh => ?_)
  refine lv_bipush (v := (-6)) hx hb dX6_find_4 (by decide) ?_
  refine lv_istore_n (lv' := [(2, .int (-6)), (0, .ref (ha 0)), (1, .int x1)]) hx hb dX6_find_6 rfl hl (by decide) rfl (fun ls hl => ?_)
  refine lv_iconst (v := 0) hx hb dX6_find_7 (by decide) ?_
  refine lv_istore_n (lv' := [(3, .int 0), (2, .int (-6)), (0, .ref (ha 0)), (1, .int x1)]) hx hb dX6_find_8 rfl hl (by decide) rfl (fun ls hl => ?_)
  obtain ⟨n9, hw⟩ := hw
  exact w_X6_find_9 Post F  n9 x1 (-6) 0 σ1 _ _ _ hh (lv_sub hl [2, 3, 1, 0] rfl) hw
def wp_X6_isKind (x0 : Int32) (σ : lf_St) (Post : Int32 → lf_St → Prop) : Prop := wp_X6_in (x0.toInt64) 0 3 σ (fun r1 σ1 => (fits .boolean (.int r1) = true) ∧ Post r1 σ1)
def rm_X6_isKind : Room := ({ frames := 1, cells := 0, slots := 0, locals := 25 } : Room)
set_option maxHeartbeats 4000000 in
set_option maxRecDepth 100000 in
theorem c_X6_isKind (l : Launch) (D : va_G) (ha : Nat → Nat) (cy : Nat → ClassId) (sz : Nat) (σ : lf_St) (x0 : Int32) (Post : Int32 → lf_St → Prop) (hw : wp_X6_isKind x0 σ Post) : lf_Mi l yX6_isKind (lf_ws yX6_isKind cX6_isKind 1 (some .boolean)) rm_X6_isKind D (tyM_ cy) (wM_ ha cy) sz σ [.int x0] Post := by
  refine lf_ofi (by decide +kernel) (Nat.le_of_ble_eq_true rfl) ?_
  intro p e s m args below meth c A ls F hh hl
  have hx := F.1.1
  have hb := F.1.2.1
  have hl : lv_has ls 1 [(0, .int x0)] := hl
  obtain ⟨H, hHe⟩ : ∃ H, H = s.heap := ⟨_, rfl⟩
  rw [← hHe] at hh ⊢
  unfold wp_X6_isKind at hw
  refine lv_iload_n hx hb dX6_isKind_0 rfl (lv_at hl 0 rfl) ?_
  refine lv_i2l hx hb dX6_isKind_1 rfl ?_
  refine lv_lconst (v := 0) hx hb dX6_isKind_2 (by decide) ?_
  refine lv_ldc2 hx hb F.1.2.2.2.1 (F.1.2.2.2.2 _ (lr_22 _ (List.mem_of_getElem? (i := 19) rfl))) dX6_isKind_3 ?_
  refine lf_callSi (rest := []) F hh (cw_X6_61 F.1.2.2.2.2 ⟨Nat.le_of_ble_eq_true rfl, Nat.le_of_ble_eq_true rfl⟩) (c_X6_in l D ha cy H.size σ (x0.toInt64) 0 3 _ hw) rfl hl.1 (Nat.le_of_ble_eq_true rfl) dX6_isKind_6 rfl (fun r1 σ1 H locs hw hh => ?_)
  obtain ⟨q2, hw⟩ := hw
  exact lf_retz F hh (lf_nz q2) hw dX6_isKind_9
theorem cw_X6_176 {R : Room} {s : State} {args : Array Value} (ht : ∀ w ∈ wsL_law, w.before args s = true) (hR : rm_X6_isKind.frames + 1 ≤ R.frames ∧ 8 + (1 + 11) + rm_X6_isKind.locals ≤ R.locals) : lf_cS R s args RX6 176 yX6_isKind cX6_isKind 1 (some .boolean) rm_X6_isKind 1 :=
  lf_cS_of 1 ht (lr_22 _ (List.mem_of_getElem? (i := 18) rfl)) (lr_22 _ (List.mem_of_getElem? (i := 16) rfl)) (lr_22 _ (List.mem_of_getElem? (i := 17) rfl)) (lr_1 _ (List.mem_of_getElem? (i := 5) rfl)) rfl rfl (by decide +kernel) hR
theorem cw_X6_179 {R : Room} {s : State} {args : Array Value} (ht : ∀ w ∈ wsL_law, w.before args s = true) (hR : rm_X6_find.frames + 1 ≤ R.frames ∧ 8 + (8 + 11) + rm_X6_find.locals ≤ R.locals) : lf_cV R s args RX6 RX6 179 yX6_find cX6_find 8 (some .int) rm_X6_find 1 :=
  lf_cV_of 1 ht (lr_22 _ (List.mem_of_getElem? (i := 23) rfl)) (lr_22 _ (List.mem_of_getElem? (i := 20) rfl)) (lr_22 _ (List.mem_of_getElem? (i := 21) rfl)) (lr_22 _ (List.mem_of_getElem? (i := 22) rfl)) (lr_1 _ (List.mem_of_getElem? (i := 5) rfl)) rfl rfl (by decide +kernel) hR
def wp_X6_frame (x1 : Int32) (σ : lf_St) (Post : Int32 → lf_St → Prop) : Prop := wp_X6_isKind x1 σ (fun r1 σ1 => ((r1 = 0) → (Post (-2) σ1)) ∧ ((¬ (r1 = 0)) → (wp_X6_find x1 σ1 (fun r3 σ3 => Post r3 σ3))))
def rm_X6_frame : Room := ({ frames := 5, cells := 0, slots := 0, locals := 130 } : Room)
set_option maxHeartbeats 4000000 in
set_option maxRecDepth 100000 in
theorem c_X6_frame (l : Launch) (D : va_G) (ha : Nat → Nat) (cy : Nat → ClassId) (sz : Nat) (σ : lf_St) (x1 : Int32) (Post : Int32 → lf_St → Prop) (hw : wp_X6_frame x1 σ Post) : lf_Mi l yX6_frame (lf_ws yX6_frame cX6_frame 2 (some .int)) rm_X6_frame D (tyM_ cy) (wM_ ha cy) sz σ [.ref (ha 0), .int x1] Post := by
  refine lf_ofi (by decide +kernel) (Nat.le_of_ble_eq_true rfl) ?_
  intro p e s m args below meth c A ls F hh hl
  have hx := F.1.1
  have hb := F.1.2.1
  have hl : lv_has ls 2 [(0, .ref (ha 0)), (1, .int x1)] := hl
  obtain ⟨H, hHe⟩ : ∃ H, H = s.heap := ⟨_, rfl⟩
  rw [← hHe] at hh ⊢
  unfold wp_X6_frame at hw
  refine lv_iload_n hx hb dX6_frame_0 rfl (lv_at hl 1 rfl) ?_
  refine lf_callSi (rest := []) F hh (cw_X6_176 F.1.2.2.2.2 ⟨Nat.le_of_ble_eq_true rfl, Nat.le_of_ble_eq_true rfl⟩) (c_X6_isKind l D ha cy H.size σ x1 _ hw) rfl hl.1 (Nat.le_of_ble_eq_true rfl) dX6_frame_1 rfl (fun r1 σ1 H locs hw hh => ?_)
  refine lv_if_eq (tgt := 15) hx hb dX6_frame_4 (by decide) (fun c2 => ?_) (fun c2 => ?_)
  · have hw := hw.1 c2
    refine lv_bipush (v := (-2)) hx hb dX6_frame_15 (by decide) ?_
    exact lf_reti F hh hw dX6_frame_17
  · have hw := hw.2 c2
    refine lv_aload_n hx hb dX6_frame_7 rfl (lv_at hl 0 rfl) ?_
    refine lv_iload_n hx hb dX6_frame_8 rfl (lv_at hl 1 rfl) ?_
    refine lf_callVi (rest := []) F hh (cw_X6_179 F.1.2.2.2.2 ⟨Nat.le_of_ble_eq_true rfl, Nat.le_of_ble_eq_true rfl⟩) (c_X6_find l D ha cy H.size σ1 x1 _ hw) 0 6 rfl rfl rfl rfl hl.1 (Nat.le_of_ble_eq_true rfl) dX6_frame_9 rfl (fun r3 σ3 H locs hw hh => ?_)
    refine lv_goto (tgt := 17) hx hb dX6_frame_12 (by decide) ?_
    exact lf_reti F hh hw dX6_frame_17
def wp_X6_isPart (x0 : Int32) (σ : lf_St) (Post : Int32 → lf_St → Prop) : Prop := wp_X6_in (x0.toInt64) 0 1 σ (fun r1 σ1 => (fits .boolean (.int r1) = true) ∧ Post r1 σ1)
def rm_X6_isPart : Room := ({ frames := 1, cells := 0, slots := 0, locals := 25 } : Room)
set_option maxHeartbeats 4000000 in
set_option maxRecDepth 100000 in
theorem c_X6_isPart (l : Launch) (D : va_G) (ha : Nat → Nat) (cy : Nat → ClassId) (sz : Nat) (σ : lf_St) (x0 : Int32) (Post : Int32 → lf_St → Prop) (hw : wp_X6_isPart x0 σ Post) : lf_Mi l yX6_isPart (lf_ws yX6_isPart cX6_isPart 1 (some .boolean)) rm_X6_isPart D (tyM_ cy) (wM_ ha cy) sz σ [.int x0] Post := by
  refine lf_ofi (by decide +kernel) (Nat.le_of_ble_eq_true rfl) ?_
  intro p e s m args below meth c A ls F hh hl
  have hx := F.1.1
  have hb := F.1.2.1
  have hl : lv_has ls 1 [(0, .int x0)] := hl
  obtain ⟨H, hHe⟩ : ∃ H, H = s.heap := ⟨_, rfl⟩
  rw [← hHe] at hh ⊢
  unfold wp_X6_isPart at hw
  refine lv_iload_n hx hb dX6_isPart_0 rfl (lv_at hl 0 rfl) ?_
  refine lv_i2l hx hb dX6_isPart_1 rfl ?_
  refine lv_lconst (v := 0) hx hb dX6_isPart_2 (by decide) ?_
  refine lv_lconst (v := 1) hx hb dX6_isPart_3 (by decide) ?_
  refine lf_callSi (rest := []) F hh (cw_X6_61 F.1.2.2.2.2 ⟨Nat.le_of_ble_eq_true rfl, Nat.le_of_ble_eq_true rfl⟩) (c_X6_in l D ha cy H.size σ (x0.toInt64) 0 1 _ hw) rfl hl.1 (Nat.le_of_ble_eq_true rfl) dX6_isPart_4 rfl (fun r1 σ1 H locs hw hh => ?_)
  obtain ⟨q2, hw⟩ := hw
  exact lf_retz F hh (lf_nz q2) hw dX6_isPart_7
theorem cw_X6_182 {R : Room} {s : State} {args : Array Value} (ht : ∀ w ∈ wsL_law, w.before args s = true) (hR : rm_X6_isPart.frames + 1 ≤ R.frames ∧ 8 + (1 + 11) + rm_X6_isPart.locals ≤ R.locals) : lf_cS R s args RX6 182 yX6_isPart cX6_isPart 1 (some .boolean) rm_X6_isPart 1 :=
  lf_cS_of 1 ht (lr_24 _ (List.mem_of_getElem? (i := 23) rfl)) (lr_24 _ (List.mem_of_getElem? (i := 21) rfl)) (lr_24 _ (List.mem_of_getElem? (i := 22) rfl)) (lr_1 _ (List.mem_of_getElem? (i := 5) rfl)) rfl rfl (by decide +kernel) hR
theorem cw_X6_189 {R : Room} {s : State} {args : Array Value} (ht : ∀ w ∈ wsL_law, w.before args s = true) (hR : rm_X6_term.frames + 1 ≤ R.frames ∧ 8 + (7 + 11) + rm_X6_term.locals ≤ R.locals) : lf_cS R s args RX6 189 yX6_term cX6_term 7 (some .long) rm_X6_term 3 :=
  lf_cS_of 3 ht (lr_25 _ (List.mem_of_getElem? (i := 2) rfl)) (lr_25 _ (List.mem_of_getElem? (i := 0) rfl)) (lr_25 _ (List.mem_of_getElem? (i := 1) rfl)) (lr_1 _ (List.mem_of_getElem? (i := 5) rfl)) rfl rfl (by decide +kernel) hR
def wp_X6_cost (x1 : Int32) (x2 : Int32) (σ : lf_St) (Post : Int64 → lf_St → Prop) : Prop := wp_X6_isKind x1 σ (fun r1 σ1 => ((r1 = 0) → (Post (-1000000000000002) σ1)) ∧ ((¬ (r1 = 0)) → (wp_X6_isPart x2 σ1 (fun r3 σ3 => ((¬ r3 = 0) → (wp_X6_find x1 σ3 (fun r5 σ5 => ((0 ≤ r5) → (wp_X6_term (lf_gl σ5 22) (lf_gl σ5 23) x2 σ5 (fun r7 σ7 => Post r7 σ7))) ∧ ((¬ (0 ≤ r5)) → (Post (-1000000000000006) σ5))))) ∧ ((r3 = 0) → (Post (-1000000000000002) σ3))))))
def rm_X6_cost : Room := ({ frames := 5, cells := 0, slots := 0, locals := 130 } : Room)
set_option maxHeartbeats 4000000 in
set_option maxRecDepth 100000 in
theorem c_X6_cost (l : Launch) (D : va_G) (ha : Nat → Nat) (cy : Nat → ClassId) (sz : Nat) (σ : lf_St) (x1 : Int32) (x2 : Int32) (Post : Int64 → lf_St → Prop) (hw : wp_X6_cost x1 x2 σ Post) : lf_Ml l yX6_cost (lf_ws yX6_cost cX6_cost 3 (some .long)) rm_X6_cost D (tyM_ cy) (wM_ ha cy) sz σ [.ref (ha 0), .int x1, .int x2] Post := by
  refine lf_ofl (by decide +kernel) (Nat.le_of_ble_eq_true rfl) ?_
  intro p e s m args below meth c A ls F hh hl
  have hx := F.1.1
  have hb := F.1.2.1
  have hl : lv_has ls 3 [(0, .ref (ha 0)), (1, .int x1), (2, .int x2)] := hl
  obtain ⟨H, hHe⟩ : ∃ H, H = s.heap := ⟨_, rfl⟩
  rw [← hHe] at hh ⊢
  unfold wp_X6_cost at hw
  refine lv_iload_n hx hb dX6_cost_0 rfl (lv_at hl 1 rfl) ?_
  refine lf_callSi (rest := []) F hh (cw_X6_176 F.1.2.2.2.2 ⟨Nat.le_of_ble_eq_true rfl, Nat.le_of_ble_eq_true rfl⟩) (c_X6_isKind l D ha cy H.size σ x1 _ hw) rfl hl.1 (Nat.le_of_ble_eq_true rfl) dX6_cost_1 rfl (fun r1 σ1 H locs hw hh => ?_)
  refine lv_if_eq (tgt := 14) hx hb dX6_cost_4 (by decide) (fun c2 => ?_) (fun c2 => ?_)
  · have hw := hw.1 c2
    refine lv_ldc2 hx hb F.1.2.2.2.1 (F.1.2.2.2.2 _ (lr_24 _ (List.mem_of_getElem? (i := 19) rfl))) dX6_cost_14 ?_
    exact lf_retl F hh hw dX6_cost_17
  · have hw := hw.2 c2
    refine lv_iload_n hx hb dX6_cost_7 rfl (lv_at hl 2 rfl) ?_
    refine lf_callSi (rest := []) F hh (cw_X6_182 F.1.2.2.2.2 ⟨Nat.le_of_ble_eq_true rfl, Nat.le_of_ble_eq_true rfl⟩) (c_X6_isPart l D ha cy H.size σ1 x2 _ hw) rfl hl.1 (Nat.le_of_ble_eq_true rfl) dX6_cost_8 rfl (fun r3 σ3 H locs hw hh => ?_)
    refine lv_if_ne (tgt := 18) hx hb dX6_cost_11 (by decide) (fun c4 => ?_) (fun c4 => ?_)
    · have hw := hw.1 c4
      refine lv_aload_n hx hb dX6_cost_18 rfl (lv_at hl 0 rfl) ?_
      refine lv_iload_n hx hb dX6_cost_19 rfl (lv_at hl 1 rfl) ?_
      refine lf_callVi (rest := []) F hh (cw_X6_179 F.1.2.2.2.2 ⟨Nat.le_of_ble_eq_true rfl, Nat.le_of_ble_eq_true rfl⟩) (c_X6_find l D ha cy H.size σ3 x1 _ hw) 0 6 rfl rfl rfl rfl hl.1 (Nat.le_of_ble_eq_true rfl) dX6_cost_20 rfl (fun r5 σ5 H locs hw hh => ?_)
      refine lv_if_ge (tgt := 32) hx hb dX6_cost_23 (by decide) (fun c6 => ?_) (fun c6 => ?_)
      · have hw := hw.1 c6
        refine lv_aload_n hx hb dX6_cost_32 rfl (lv_at hl 0 rfl) ?_
        refine fg_X6_171 F hh dX6_cost_33 ?_
        refine lv_aload_n hx hb dX6_cost_36 rfl (lv_at hl 0 rfl) ?_
        refine fg_X6_168 F hh dX6_cost_37 ?_
        refine lv_iload_n hx hb dX6_cost_40 rfl (lv_at hl 2 rfl) ?_
        refine lf_callSl (rest := []) F hh (cw_X6_189 F.1.2.2.2.2 ⟨Nat.le_of_ble_eq_true rfl, Nat.le_of_ble_eq_true rfl⟩) (c_X6_term l D ha cy H.size σ5 (lf_gl σ5 22) (lf_gl σ5 23) x2 _ hw) rfl hl.1 (Nat.le_of_ble_eq_true rfl) dX6_cost_41 rfl (fun r7 σ7 H locs hw hh => ?_)
        exact lf_retl F hh hw dX6_cost_44
      · have hw := hw.2 c6
        refine lv_ldc2 hx hb F.1.2.2.2.1 (F.1.2.2.2.2 _ (lr_24 _ (List.mem_of_getElem? (i := 20) rfl))) dX6_cost_26 ?_
        refine lv_goto (tgt := 44) hx hb dX6_cost_29 (by decide) ?_
        exact lf_retl F hh hw dX6_cost_44
    · have hw := hw.2 c4
      refine lv_ldc2 hx hb F.1.2.2.2.1 (F.1.2.2.2.2 _ (lr_24 _ (List.mem_of_getElem? (i := 19) rfl))) dX6_cost_14 ?_
      exact lf_retl F hh hw dX6_cost_17
def L_X6_placeOf_5 (Post : Int32 → lf_St → Prop) : Nat → Int32 → Int32 → Int32 → lf_St → Prop
  | 0, _, _, _, _ => False
  | n + 1, x1, x2, x3, σ => (((lf_gi σ 14) ≤ x3) → (Post x2 σ)) ∧ ((¬ ((lf_gi σ 14) ≤ x3)) → (vp_in x3 6 ∧ (((¬ (lf_ai σ 19 x3.toNatClampNeg) = x1) → (∀ v4 : Int32, v4 = x3 + 1 → (L_X6_placeOf_5 Post n x1 x2 v4 σ))) ∧ (((lf_ai σ 19 x3.toNatClampNeg) = x1) → (∀ v5 : Int32, v5 = x3 + 1 → (L_X6_placeOf_5 Post n x1 x3 v5 σ))))))
def wp_X6_placeOf (x1 : Int32) (σ : lf_St) (Post : Int32 → lf_St → Prop) : Prop := ∃ fu : Nat, L_X6_placeOf_5 Post fu x1 (-6) 0 σ
def rm_X6_placeOf : Room := ({ frames := 0, cells := 0, slots := 0, locals := 0 } : Room)
set_option maxHeartbeats 4000000 in
set_option maxRecDepth 100000 in
theorem w_X6_placeOf_5 {p : Program} {l : Launch} {e : Env} {s : State} {m : MethodId} {args : Array Value} {below : List Frame} {meth : Method} {c : Code} {D : va_G} {A : Nat → Prop} {ha : Nat → Nat} {cy : Nat → ClassId} (Post : Int32 → lf_St → Prop) (F : lf_C p s m args meth c RX6 cX6_placeOf 4 (some .int) D (tyM_ cy) A) : ∀ (n : Nat) (x1 : Int32) (x2 : Int32) (x3 : Int32) (σ : lf_St) (H : Heap) (locs : List Loc) (ls : Array Slot), lf_H D (wM_ ha cy) A s σ H locs → lv_has ls 4 [(0, .ref (ha 0)), (1, .int x1), (2, .int x2), (3, .int x3)] → L_X6_placeOf_5 Post n x1 x2 x3 σ → W p l e rm_X6_placeOf s m args below meth c H locs 0 0 (lf_Qi below args s D (tyM_ cy) A (wM_ ha cy) Post) (F0 m 5 ls []) := by
  have hx := F.1.1
  have hb := F.1.2.1
  intro n
  induction n with
  | zero =>
    intro x1 x2 x3 σ H locs ls hh hl hw
    exact False.elim hw
  | succ n ih =>
    intro x1 x2 x3 σ H locs ls hh hl hw
    unfold L_X6_placeOf_5 at hw
    refine lv_iload_n hx hb dX6_placeOf_5 rfl (lv_at hl 3 rfl) ?_
    refine lv_aload_n hx hb dX6_placeOf_6 rfl (lv_at hl 0 rfl) ?_
    refine fg_X6_119 F hh dX6_placeOf_7 ?_
    refine lv_icmp_ge (tgt := 35) hx hb dX6_placeOf_10 (by decide) (fun c1 => ?_) (fun c1 => ?_)
    · have hw := hw.1 c1
      refine lv_iload_n hx hb dX6_placeOf_35 rfl (lv_at hl 2 rfl) ?_
      exact lf_reti F hh hw dX6_placeOf_36
    · have hw := hw.2 c1
      refine lv_aload_n hx hb dX6_placeOf_13 rfl (lv_at hl 0 rfl) ?_
      refine fg_X6_48 F hh dX6_placeOf_14 ?_
      refine lv_iload_n hx hb dX6_placeOf_17 rfl (lv_at hl 3 rfl) ?_
      obtain ⟨q2, hw⟩ := hw
      refine ra_M_19 F hh q2 dX6_placeOf_18 ?_
      refine lv_iload_n hx hb dX6_placeOf_19 rfl (lv_at hl 1 rfl) ?_
      refine lv_icmp_ne (tgt := 27) hx hb dX6_placeOf_20 (by decide) (fun c3 => ?_) (fun c3 => ?_)
      · have hw := hw.1 c3
        refine lv_iload_n hx hb dX6_placeOf_27 rfl (lv_at hl 2 rfl) ?_
        refine lv_istore_n (lv' := [(2, .int x2), (0, .ref (ha 0)), (1, .int x1), (3, .int x3)]) hx hb dX6_placeOf_28 rfl hl (by decide) rfl (fun ls hl => ?_)
        obtain ⟨v4, ev4⟩ : ∃ y : Int32, y = x3 + 1 := ⟨_, rfl⟩
        have hw := hw v4 ev4
        refine lv_iinc (v := v4) (lv' := [(3, .int v4), (2, .int x2), (0, .ref (ha 0)), (1, .int x1)]) hx hb dX6_placeOf_29 hl (k := 3) rfl (by rw [ev4]; rfl) (by decide) rfl (fun ls hl => ?_)
        refine lv_goto (tgt := 5) hx hb dX6_placeOf_32 (by decide) ?_
        exact ih x1 x2 v4 σ _ _ _ hh (lv_sub hl [2, 3, 1, 0] rfl) hw
      · have hw := hw.2 c3
        refine lv_iload_n hx hb dX6_placeOf_23 rfl (lv_at hl 3 rfl) ?_
        refine lv_goto (tgt := 28) hx hb dX6_placeOf_24 (by decide) ?_
        refine lv_istore_n (lv' := [(2, .int x3), (0, .ref (ha 0)), (1, .int x1), (3, .int x3)]) hx hb dX6_placeOf_28 rfl hl (by decide) rfl (fun ls hl => ?_)
        obtain ⟨v5, ev5⟩ : ∃ y : Int32, y = x3 + 1 := ⟨_, rfl⟩
        have hw := hw v5 ev5
        refine lv_iinc (v := v5) (lv' := [(3, .int v5), (2, .int x3), (0, .ref (ha 0)), (1, .int x1)]) hx hb dX6_placeOf_29 hl (k := 3) rfl (by rw [ev5]; rfl) (by decide) rfl (fun ls hl => ?_)
        refine lv_goto (tgt := 5) hx hb dX6_placeOf_32 (by decide) ?_
        exact ih x1 x3 v5 σ _ _ _ hh (lv_sub hl [2, 3, 1, 0] rfl) hw
set_option maxHeartbeats 4000000 in
set_option maxRecDepth 100000 in
theorem c_X6_placeOf (l : Launch) (D : va_G) (ha : Nat → Nat) (cy : Nat → ClassId) (sz : Nat) (σ : lf_St) (x1 : Int32) (Post : Int32 → lf_St → Prop) (hw : wp_X6_placeOf x1 σ Post) : lf_Mi l yX6_placeOf (lf_ws yX6_placeOf cX6_placeOf 4 (some .int)) rm_X6_placeOf D (tyM_ cy) (wM_ ha cy) sz σ [.ref (ha 0), .int x1] Post := by
  refine lf_ofi (by decide +kernel) (Nat.le_of_ble_eq_true rfl) ?_
  intro p e s m args below meth c A ls F hh hl
  have hx := F.1.1
  have hb := F.1.2.1
  have hl : lv_has ls 4 [(0, .ref (ha 0)), (1, .int x1)] := hl
  obtain ⟨H, hHe⟩ : ∃ H, H = s.heap := ⟨_, rfl⟩
  rw [← hHe] at hh ⊢
  unfold wp_X6_placeOf at hw
  refine lv_bipush (v := (-6)) hx hb dX6_placeOf_0 (by decide) ?_
  refine lv_istore_n (lv' := [(2, .int (-6)), (0, .ref (ha 0)), (1, .int x1)]) hx hb dX6_placeOf_2 rfl hl (by decide) rfl (fun ls hl => ?_)
  refine lv_iconst (v := 0) hx hb dX6_placeOf_3 (by decide) ?_
  refine lv_istore_n (lv' := [(3, .int 0), (2, .int (-6)), (0, .ref (ha 0)), (1, .int x1)]) hx hb dX6_placeOf_4 rfl hl (by decide) rfl (fun ls hl => ?_)
  obtain ⟨n5, hw⟩ := hw
  exact w_X6_placeOf_5 Post F  n5 x1 (-6) 0 σ _ _ _ hh (lv_sub hl [2, 3, 1, 0] rfl) hw
theorem cw_X6_195 {R : Room} {s : State} {args : Array Value} (ht : ∀ w ∈ wsL_law, w.before args s = true) (hR : rm_X6_placeOf.frames + 1 ≤ R.frames ∧ 8 + (4 + 11) + rm_X6_placeOf.locals ≤ R.locals) : lf_cV R s args RX6 RX6 195 yX6_placeOf cX6_placeOf 4 (some .int) rm_X6_placeOf 1 :=
  lf_cV_of 1 ht (lr_25 _ (List.mem_of_getElem? (i := 20) rfl)) (lr_25 _ (List.mem_of_getElem? (i := 17) rfl)) (lr_25 _ (List.mem_of_getElem? (i := 18) rfl)) (lr_25 _ (List.mem_of_getElem? (i := 19) rfl)) (lr_1 _ (List.mem_of_getElem? (i := 5) rfl)) rfl rfl (by decide +kernel) hR
def wp_X6_pull (x1 : Int32) (x2 : Int32) (x3 : Int32) (σ : lf_St) (Post : Int64 → lf_St → Prop) : Prop := wp_X6_isBar x2 σ (fun r1 σ1 => ((¬ r1 = 0) → (wp_X6_isKind x1 σ1 (fun r3 σ3 => ((r3 = 0) → (Post (-1000000000000002) σ3)) ∧ ((¬ (r3 = 0)) → (wp_X6_isPart x3 σ3 (fun r5 σ5 => ((¬ r5 = 0) → (wp_X6_find x1 σ5 (fun r7 σ7 => ((r7 < 0) → (Post (-1000000000000006) σ7)) ∧ ((¬ (r7 < 0)) → (wp_X6_isChoice r7 σ7 (fun r9 σ9 => ((¬ r9 = 0) → (wp_X6_placeOf x2 σ9 (fun r11 σ11 => ((0 ≤ r11) → (vp_in r11 6 ∧ (wp_X6_term (lf_al σ11 21 r11.toNatClampNeg) (lf_gl σ11 20) x3 σ11 (fun r14 σ14 => Post r14 σ14)))) ∧ ((¬ (0 ≤ r11)) → (wp_X6_term 0 1 x3 σ11 (fun r15 σ15 => Post r15 σ15)))))) ∧ ((r9 = 0) → (Post (-1000000000000006) σ9)))))))) ∧ ((r5 = 0) → (Post (-1000000000000002) σ5)))))))) ∧ ((r1 = 0) → (Post (-1000000000000001) σ1)))
def rm_X6_pull : Room := ({ frames := 5, cells := 0, slots := 0, locals := 130 } : Room)
set_option maxHeartbeats 4000000 in
set_option maxRecDepth 100000 in
theorem c_X6_pull (l : Launch) (D : va_G) (ha : Nat → Nat) (cy : Nat → ClassId) (sz : Nat) (σ : lf_St) (x1 : Int32) (x2 : Int32) (x3 : Int32) (Post : Int64 → lf_St → Prop) (hw : wp_X6_pull x1 x2 x3 σ Post) : lf_Ml l yX6_pull (lf_ws yX6_pull cX6_pull 6 (some .long)) rm_X6_pull D (tyM_ cy) (wM_ ha cy) sz σ [.ref (ha 0), .int x1, .int x2, .int x3] Post := by
  refine lf_ofl (by decide +kernel) (Nat.le_of_ble_eq_true rfl) ?_
  intro p e s m args below meth c A ls F hh hl
  have hx := F.1.1
  have hb := F.1.2.1
  have hl : lv_has ls 6 [(0, .ref (ha 0)), (1, .int x1), (2, .int x2), (3, .int x3)] := hl
  obtain ⟨H, hHe⟩ : ∃ H, H = s.heap := ⟨_, rfl⟩
  rw [← hHe] at hh ⊢
  unfold wp_X6_pull at hw
  refine lv_aload_n hx hb dX6_pull_0 rfl (lv_at hl 0 rfl) ?_
  refine lv_iload_n hx hb dX6_pull_1 rfl (lv_at hl 2 rfl) ?_
  refine lf_callVi (rest := []) F hh (cw_X6_90 F.1.2.2.2.2 ⟨Nat.le_of_ble_eq_true rfl, Nat.le_of_ble_eq_true rfl⟩) (c_X6_isBar l D ha cy H.size σ x2 _ hw) 0 6 rfl rfl rfl rfl hl.1 (Nat.le_of_ble_eq_true rfl) dX6_pull_2 rfl (fun r1 σ1 H locs hw hh => ?_)
  refine lv_if_ne (tgt := 12) hx hb dX6_pull_5 (by decide) (fun c2 => ?_) (fun c2 => ?_)
  · have hw := hw.1 c2
    refine lv_iload_n hx hb dX6_pull_12 rfl (lv_at hl 1 rfl) ?_
    refine lf_callSi (rest := []) F hh (cw_X6_176 F.1.2.2.2.2 ⟨Nat.le_of_ble_eq_true rfl, Nat.le_of_ble_eq_true rfl⟩) (c_X6_isKind l D ha cy H.size σ1 x1 _ hw) rfl hl.1 (Nat.le_of_ble_eq_true rfl) dX6_pull_13 rfl (fun r3 σ3 H locs hw hh => ?_)
    refine lv_if_eq (tgt := 26) hx hb dX6_pull_16 (by decide) (fun c4 => ?_) (fun c4 => ?_)
    · have hw := hw.1 c4
      refine lv_ldc2 hx hb F.1.2.2.2.1 (F.1.2.2.2.2 _ (lr_24 _ (List.mem_of_getElem? (i := 19) rfl))) dX6_pull_26 ?_
      exact lf_retl F hh hw dX6_pull_29
    · have hw := hw.2 c4
      refine lv_iload_n hx hb dX6_pull_19 rfl (lv_at hl 3 rfl) ?_
      refine lf_callSi (rest := []) F hh (cw_X6_182 F.1.2.2.2.2 ⟨Nat.le_of_ble_eq_true rfl, Nat.le_of_ble_eq_true rfl⟩) (c_X6_isPart l D ha cy H.size σ3 x3 _ hw) rfl hl.1 (Nat.le_of_ble_eq_true rfl) dX6_pull_20 rfl (fun r5 σ5 H locs hw hh => ?_)
      refine lv_if_ne (tgt := 30) hx hb dX6_pull_23 (by decide) (fun c6 => ?_) (fun c6 => ?_)
      · have hw := hw.1 c6
        refine lv_aload_n hx hb dX6_pull_30 rfl (lv_at hl 0 rfl) ?_
        refine lv_iload_n hx hb dX6_pull_31 rfl (lv_at hl 1 rfl) ?_
        refine lf_callVi (rest := []) F hh (cw_X6_179 F.1.2.2.2.2 ⟨Nat.le_of_ble_eq_true rfl, Nat.le_of_ble_eq_true rfl⟩) (c_X6_find l D ha cy H.size σ5 x1 _ hw) 0 6 rfl rfl rfl rfl hl.1 (Nat.le_of_ble_eq_true rfl) dX6_pull_32 rfl (fun r7 σ7 H locs hw hh => ?_)
        refine lv_istore (lv' := [(4, .int r7), (0, .ref (ha 0)), (1, .int x1), (2, .int x2), (3, .int x3)]) hx hb dX6_pull_35 hl (by decide) rfl (fun ls hl => ?_)
        refine lv_iload hx hb dX6_pull_37 (lv_at hl 0 rfl) ?_
        refine lv_if_lt (tgt := 51) hx hb dX6_pull_39 (by decide) (fun c8 => ?_) (fun c8 => ?_)
        · have hw := hw.1 c8
          refine lv_ldc2 hx hb F.1.2.2.2.1 (F.1.2.2.2.2 _ (lr_24 _ (List.mem_of_getElem? (i := 20) rfl))) dX6_pull_51 ?_
          exact lf_retl F hh hw dX6_pull_54
        · have hw := hw.2 c8
          refine lv_aload_n hx hb dX6_pull_42 rfl (lv_at hl 1 rfl) ?_
          refine lv_iload hx hb dX6_pull_43 (lv_at hl 0 rfl) ?_
          refine lf_callVi (rest := []) F hh (cw_X6_153 F.1.2.2.2.2 ⟨Nat.le_of_ble_eq_true rfl, Nat.le_of_ble_eq_true rfl⟩) (c_X6_isChoice l D ha cy H.size σ7 r7 _ hw) 0 6 rfl rfl rfl rfl hl.1 (Nat.le_of_ble_eq_true rfl) dX6_pull_45 rfl (fun r9 σ9 H locs hw hh => ?_)
          refine lv_if_ne (tgt := 55) hx hb dX6_pull_48 (by decide) (fun c10 => ?_) (fun c10 => ?_)
          · have hw := hw.1 c10
            refine lv_aload_n hx hb dX6_pull_55 rfl (lv_at hl 1 rfl) ?_
            refine lv_iload_n hx hb dX6_pull_56 rfl (lv_at hl 3 rfl) ?_
            refine lf_callVi (rest := []) F hh (cw_X6_195 F.1.2.2.2.2 ⟨Nat.le_of_ble_eq_true rfl, Nat.le_of_ble_eq_true rfl⟩) (c_X6_placeOf l D ha cy H.size σ9 x2 _ hw) 0 6 rfl rfl rfl rfl hl.1 (Nat.le_of_ble_eq_true rfl) dX6_pull_57 rfl (fun r11 σ11 H locs hw hh => ?_)
            refine lv_istore (lv' := [(5, .int r11), (4, .int r7), (0, .ref (ha 0)), (1, .int x1), (2, .int x2), (3, .int x3)]) hx hb dX6_pull_60 hl (by decide) rfl (fun ls hl => ?_)
            refine lv_iload hx hb dX6_pull_62 (lv_at hl 0 rfl) ?_
            refine lv_if_ge (tgt := 76) hx hb dX6_pull_64 (by decide) (fun c12 => ?_) (fun c12 => ?_)
            · have hw := hw.1 c12
              refine lv_aload_n hx hb dX6_pull_76 rfl (lv_at hl 2 rfl) ?_
              refine fg_X6_51 F hh dX6_pull_77 ?_
              refine lv_iload hx hb dX6_pull_80 (lv_at hl 0 rfl) ?_
              obtain ⟨q13, hw⟩ := hw
              refine ra_M_21 F hh q13 dX6_pull_82 ?_
              refine lv_aload_n hx hb dX6_pull_83 rfl (lv_at hl 2 rfl) ?_
              refine fg_X6_136 F hh dX6_pull_84 ?_
              refine lv_iload_n hx hb dX6_pull_87 rfl (lv_at hl 5 rfl) ?_
              refine lf_callSl (rest := []) F hh (cw_X6_189 F.1.2.2.2.2 ⟨Nat.le_of_ble_eq_true rfl, Nat.le_of_ble_eq_true rfl⟩) (c_X6_term l D ha cy H.size σ11 (lf_al σ11 21 r11.toNatClampNeg) (lf_gl σ11 20) x3 _ hw) rfl hl.1 (Nat.le_of_ble_eq_true rfl) dX6_pull_88 rfl (fun r14 σ14 H locs hw hh => ?_)
              exact lf_retl F hh hw dX6_pull_91
            · have hw := hw.2 c12
              refine lv_lconst (v := 0) hx hb dX6_pull_67 (by decide) ?_
              refine lv_lconst (v := 1) hx hb dX6_pull_68 (by decide) ?_
              refine lv_iload_n hx hb dX6_pull_69 rfl (lv_at hl 5 rfl) ?_
              refine lf_callSl (rest := []) F hh (cw_X6_189 F.1.2.2.2.2 ⟨Nat.le_of_ble_eq_true rfl, Nat.le_of_ble_eq_true rfl⟩) (c_X6_term l D ha cy H.size σ11 0 1 x3 _ hw) rfl hl.1 (Nat.le_of_ble_eq_true rfl) dX6_pull_70 rfl (fun r15 σ15 H locs hw hh => ?_)
              refine lv_goto (tgt := 91) hx hb dX6_pull_73 (by decide) ?_
              exact lf_retl F hh hw dX6_pull_91
          · have hw := hw.2 c10
            refine lv_ldc2 hx hb F.1.2.2.2.1 (F.1.2.2.2.2 _ (lr_24 _ (List.mem_of_getElem? (i := 20) rfl))) dX6_pull_51 ?_
            exact lf_retl F hh hw dX6_pull_54
      · have hw := hw.2 c6
        refine lv_ldc2 hx hb F.1.2.2.2.1 (F.1.2.2.2.2 _ (lr_24 _ (List.mem_of_getElem? (i := 19) rfl))) dX6_pull_26 ?_
        exact lf_retl F hh hw dX6_pull_29
  · have hw := hw.2 c2
    refine lv_ldc2 hx hb F.1.2.2.2.1 (F.1.2.2.2.2 _ (lr_25 _ (List.mem_of_getElem? (i := 16) rfl))) dX6_pull_8 ?_
    exact lf_retl F hh hw dX6_pull_11
theorem cw_X6_198 {R : Room} {s : State} {args : Array Value} (ht : ∀ w ∈ wsL_law, w.before args s = true) (hR : rm_X6_usedBars.frames + 1 ≤ R.frames ∧ 8 + (3 + 11) + rm_X6_usedBars.locals ≤ R.locals) : lf_cV R s args RX6 RX6 198 yX6_usedBars cX6_usedBars 3 (some .int) rm_X6_usedBars 0 :=
  lf_cV_of 0 ht (lr_26 _ (List.mem_of_getElem? (i := 10) rfl)) (lr_26 _ (List.mem_of_getElem? (i := 7) rfl)) (lr_26 _ (List.mem_of_getElem? (i := 8) rfl)) (lr_26 _ (List.mem_of_getElem? (i := 9) rfl)) (lr_1 _ (List.mem_of_getElem? (i := 5) rfl)) rfl rfl (by decide +kernel) hR
def wp_X6_used (x1 : Int32) (x2 : Int32) (σ : lf_St) (Post : Int32 → lf_St → Prop) : Prop := wp_X6_isKind x1 σ (fun r1 σ1 => ((r1 = 0) → (Post (-2) σ1)) ∧ ((¬ (r1 = 0)) → (wp_X6_isPart x2 σ1 (fun r3 σ3 => ((¬ r3 = 0) → (wp_X6_find x1 σ3 (fun r5 σ5 => ((r5 < 0) → (Post (-6) σ5)) ∧ ((¬ (r5 < 0)) → (wp_X6_isChoice r5 σ5 (fun r7 σ7 => ((¬ r7 = 0) → (((¬ x2 = 0) → (wp_X6_usedJoints σ7 (fun r10 σ10 => Post r10 σ10))) ∧ ((x2 = 0) → (wp_X6_usedBars σ7 (fun r11 σ11 => Post r11 σ11))))) ∧ ((r7 = 0) → (Post (-6) σ7)))))))) ∧ ((r3 = 0) → (Post (-2) σ3))))))
def rm_X6_used : Room := ({ frames := 5, cells := 0, slots := 0, locals := 130 } : Room)
set_option maxHeartbeats 4000000 in
set_option maxRecDepth 100000 in
theorem c_X6_used (l : Launch) (D : va_G) (ha : Nat → Nat) (cy : Nat → ClassId) (sz : Nat) (σ : lf_St) (x1 : Int32) (x2 : Int32) (Post : Int32 → lf_St → Prop) (hw : wp_X6_used x1 x2 σ Post) : lf_Mi l yX6_used (lf_ws yX6_used cX6_used 4 (some .int)) rm_X6_used D (tyM_ cy) (wM_ ha cy) sz σ [.ref (ha 0), .int x1, .int x2] Post := by
  refine lf_ofi (by decide +kernel) (Nat.le_of_ble_eq_true rfl) ?_
  intro p e s m args below meth c A ls F hh hl
  have hx := F.1.1
  have hb := F.1.2.1
  have hl : lv_has ls 4 [(0, .ref (ha 0)), (1, .int x1), (2, .int x2)] := hl
  obtain ⟨H, hHe⟩ : ∃ H, H = s.heap := ⟨_, rfl⟩
  rw [← hHe] at hh ⊢
  unfold wp_X6_used at hw
  refine lv_iload_n hx hb dX6_used_0 rfl (lv_at hl 1 rfl) ?_
  refine lf_callSi (rest := []) F hh (cw_X6_176 F.1.2.2.2.2 ⟨Nat.le_of_ble_eq_true rfl, Nat.le_of_ble_eq_true rfl⟩) (c_X6_isKind l D ha cy H.size σ x1 _ hw) rfl hl.1 (Nat.le_of_ble_eq_true rfl) dX6_used_1 rfl (fun r1 σ1 H locs hw hh => ?_)
  refine lv_if_eq (tgt := 14) hx hb dX6_used_4 (by decide) (fun c2 => ?_) (fun c2 => ?_)
  · have hw := hw.1 c2
    refine lv_bipush (v := (-2)) hx hb dX6_used_14 (by decide) ?_
    exact lf_reti F hh hw dX6_used_16
  · have hw := hw.2 c2
    refine lv_iload_n hx hb dX6_used_7 rfl (lv_at hl 2 rfl) ?_
    refine lf_callSi (rest := []) F hh (cw_X6_182 F.1.2.2.2.2 ⟨Nat.le_of_ble_eq_true rfl, Nat.le_of_ble_eq_true rfl⟩) (c_X6_isPart l D ha cy H.size σ1 x2 _ hw) rfl hl.1 (Nat.le_of_ble_eq_true rfl) dX6_used_8 rfl (fun r3 σ3 H locs hw hh => ?_)
    refine lv_if_ne (tgt := 17) hx hb dX6_used_11 (by decide) (fun c4 => ?_) (fun c4 => ?_)
    · have hw := hw.1 c4
      refine lv_aload_n hx hb dX6_used_17 rfl (lv_at hl 0 rfl) ?_
      refine lv_iload_n hx hb dX6_used_18 rfl (lv_at hl 1 rfl) ?_
      refine lf_callVi (rest := []) F hh (cw_X6_179 F.1.2.2.2.2 ⟨Nat.le_of_ble_eq_true rfl, Nat.le_of_ble_eq_true rfl⟩) (c_X6_find l D ha cy H.size σ3 x1 _ hw) 0 6 rfl rfl rfl rfl hl.1 (Nat.le_of_ble_eq_true rfl) dX6_used_19 rfl (fun r5 σ5 H locs hw hh => ?_)
      refine lv_istore_n (lv' := [(3, .int r5), (0, .ref (ha 0)), (1, .int x1), (2, .int x2)]) hx hb dX6_used_22 rfl hl (by decide) rfl (fun ls hl => ?_)
      refine lv_iload_n hx hb dX6_used_23 rfl (lv_at hl 0 rfl) ?_
      refine lv_if_lt (tgt := 35) hx hb dX6_used_24 (by decide) (fun c6 => ?_) (fun c6 => ?_)
      · have hw := hw.1 c6
        refine lv_bipush (v := (-6)) hx hb dX6_used_35 (by decide) ?_
        refine lv_goto (tgt := 55) hx hb dX6_used_37 (by decide) ?_
        exact lf_reti F hh hw dX6_used_55
      · have hw := hw.2 c6
        refine lv_aload_n hx hb dX6_used_27 rfl (lv_at hl 1 rfl) ?_
        refine lv_iload_n hx hb dX6_used_28 rfl (lv_at hl 0 rfl) ?_
        refine lf_callVi (rest := []) F hh (cw_X6_153 F.1.2.2.2.2 ⟨Nat.le_of_ble_eq_true rfl, Nat.le_of_ble_eq_true rfl⟩) (c_X6_isChoice l D ha cy H.size σ5 r5 _ hw) 0 6 rfl rfl rfl rfl hl.1 (Nat.le_of_ble_eq_true rfl) dX6_used_29 rfl (fun r7 σ7 H locs hw hh => ?_)
        refine lv_if_ne (tgt := 40) hx hb dX6_used_32 (by decide) (fun c8 => ?_) (fun c8 => ?_)
        · have hw := hw.1 c8
          refine lv_iload_n hx hb dX6_used_40 rfl (lv_at hl 3 rfl) ?_
          refine lv_if_ne (tgt := 51) hx hb dX6_used_41 (by decide) (fun c9 => ?_) (fun c9 => ?_)
          · have hw := hw.1 c9
            refine lv_aload_n hx hb dX6_used_51 rfl (lv_at hl 1 rfl) ?_
            refine lf_callVi (rest := []) F hh (cw_X6_162 F.1.2.2.2.2 ⟨Nat.le_of_ble_eq_true rfl, Nat.le_of_ble_eq_true rfl⟩) (c_X6_usedJoints l D ha cy H.size σ7  _ hw) 0 6 rfl rfl rfl rfl hl.1 (Nat.le_of_ble_eq_true rfl) dX6_used_52 rfl (fun r10 σ10 H locs hw hh => ?_)
            exact lf_reti F hh hw dX6_used_55
          · have hw := hw.2 c9
            refine lv_aload_n hx hb dX6_used_44 rfl (lv_at hl 1 rfl) ?_
            refine lf_callVi (rest := []) F hh (cw_X6_198 F.1.2.2.2.2 ⟨Nat.le_of_ble_eq_true rfl, Nat.le_of_ble_eq_true rfl⟩) (c_X6_usedBars l D ha cy H.size σ7  _ hw) 0 6 rfl rfl rfl rfl hl.1 (Nat.le_of_ble_eq_true rfl) dX6_used_45 rfl (fun r11 σ11 H locs hw hh => ?_)
            refine lv_goto (tgt := 55) hx hb dX6_used_48 (by decide) ?_
            exact lf_reti F hh hw dX6_used_55
        · have hw := hw.2 c8
          refine lv_bipush (v := (-6)) hx hb dX6_used_35 (by decide) ?_
          refine lv_goto (tgt := 55) hx hb dX6_used_37 (by decide) ?_
          exact lf_reti F hh hw dX6_used_55
    · have hw := hw.2 c4
      refine lv_bipush (v := (-2)) hx hb dX6_used_14 (by decide) ?_
      exact lf_reti F hh hw dX6_used_16
def wp_X6_sized (x1 : Int32) (σ : lf_St) (Post : Int32 → lf_St → Prop) : Prop := wp_X6_isBar x1 σ (fun r1 σ1 => ((¬ r1 = 0) → (wp_X6_find 2 σ1 (fun r3 σ3 => ((r3 < 0) → (Post (-6) σ3)) ∧ ((¬ (r3 < 0)) → (wp_X6_isChoice r3 σ3 (fun r5 σ5 => ((¬ r5 = 0) → (wp_X6_placeOf x1 σ5 (fun r7 σ7 => ((0 ≤ r7) → (vp_in r7 6 ∧ (wp_X6_sizeFor (lf_al σ7 21 r7.toNatClampNeg) σ7 (fun r10 σ10 => Post r10 σ10)))) ∧ ((¬ (0 ≤ r7)) → (Post 0 σ7))))) ∧ ((r5 = 0) → (Post (-6) σ5)))))))) ∧ ((r1 = 0) → (Post (-1) σ1)))
def rm_X6_sized : Room := ({ frames := 5, cells := 0, slots := 0, locals := 130 } : Room)
set_option maxHeartbeats 4000000 in
set_option maxRecDepth 100000 in
theorem c_X6_sized (l : Launch) (D : va_G) (ha : Nat → Nat) (cy : Nat → ClassId) (sz : Nat) (σ : lf_St) (x1 : Int32) (Post : Int32 → lf_St → Prop) (hw : wp_X6_sized x1 σ Post) : lf_Mi l yX6_sized (lf_ws yX6_sized cX6_sized 4 (some .int)) rm_X6_sized D (tyM_ cy) (wM_ ha cy) sz σ [.ref (ha 0), .int x1] Post := by
  refine lf_ofi (by decide +kernel) (Nat.le_of_ble_eq_true rfl) ?_
  intro p e s m args below meth c A ls F hh hl
  have hx := F.1.1
  have hb := F.1.2.1
  have hl : lv_has ls 4 [(0, .ref (ha 0)), (1, .int x1)] := hl
  obtain ⟨H, hHe⟩ : ∃ H, H = s.heap := ⟨_, rfl⟩
  rw [← hHe] at hh ⊢
  unfold wp_X6_sized at hw
  refine lv_aload_n hx hb dX6_sized_0 rfl (lv_at hl 0 rfl) ?_
  refine lv_iload_n hx hb dX6_sized_1 rfl (lv_at hl 1 rfl) ?_
  refine lf_callVi (rest := []) F hh (cw_X6_90 F.1.2.2.2.2 ⟨Nat.le_of_ble_eq_true rfl, Nat.le_of_ble_eq_true rfl⟩) (c_X6_isBar l D ha cy H.size σ x1 _ hw) 0 6 rfl rfl rfl rfl hl.1 (Nat.le_of_ble_eq_true rfl) dX6_sized_2 rfl (fun r1 σ1 H locs hw hh => ?_)
  refine lv_if_ne (tgt := 10) hx hb dX6_sized_5 (by decide) (fun c2 => ?_) (fun c2 => ?_)
  · have hw := hw.1 c2
    refine lv_aload_n hx hb dX6_sized_10 rfl (lv_at hl 0 rfl) ?_
    refine lv_iconst (v := 2) hx hb dX6_sized_11 (by decide) ?_
    refine lf_callVi (rest := []) F hh (cw_X6_179 F.1.2.2.2.2 ⟨Nat.le_of_ble_eq_true rfl, Nat.le_of_ble_eq_true rfl⟩) (c_X6_find l D ha cy H.size σ1 2 _ hw) 0 6 rfl rfl rfl rfl hl.1 (Nat.le_of_ble_eq_true rfl) dX6_sized_12 rfl (fun r3 σ3 H locs hw hh => ?_)
    refine lv_istore_n (lv' := [(2, .int r3), (0, .ref (ha 0)), (1, .int x1)]) hx hb dX6_sized_15 rfl hl (by decide) rfl (fun ls hl => ?_)
    refine lv_iload_n hx hb dX6_sized_16 rfl (lv_at hl 0 rfl) ?_
    refine lv_if_lt (tgt := 28) hx hb dX6_sized_17 (by decide) (fun c4 => ?_) (fun c4 => ?_)
    · have hw := hw.1 c4
      refine lv_bipush (v := (-6)) hx hb dX6_sized_28 (by decide) ?_
      exact lf_reti F hh hw dX6_sized_30
    · have hw := hw.2 c4
      refine lv_aload_n hx hb dX6_sized_20 rfl (lv_at hl 1 rfl) ?_
      refine lv_iload_n hx hb dX6_sized_21 rfl (lv_at hl 0 rfl) ?_
      refine lf_callVi (rest := []) F hh (cw_X6_153 F.1.2.2.2.2 ⟨Nat.le_of_ble_eq_true rfl, Nat.le_of_ble_eq_true rfl⟩) (c_X6_isChoice l D ha cy H.size σ3 r3 _ hw) 0 6 rfl rfl rfl rfl hl.1 (Nat.le_of_ble_eq_true rfl) dX6_sized_22 rfl (fun r5 σ5 H locs hw hh => ?_)
      refine lv_if_ne (tgt := 31) hx hb dX6_sized_25 (by decide) (fun c6 => ?_) (fun c6 => ?_)
      · have hw := hw.1 c6
        refine lv_aload_n hx hb dX6_sized_31 rfl (lv_at hl 1 rfl) ?_
        refine lv_iload_n hx hb dX6_sized_32 rfl (lv_at hl 2 rfl) ?_
        refine lf_callVi (rest := []) F hh (cw_X6_195 F.1.2.2.2.2 ⟨Nat.le_of_ble_eq_true rfl, Nat.le_of_ble_eq_true rfl⟩) (c_X6_placeOf l D ha cy H.size σ5 x1 _ hw) 0 6 rfl rfl rfl rfl hl.1 (Nat.le_of_ble_eq_true rfl) dX6_sized_33 rfl (fun r7 σ7 H locs hw hh => ?_)
        refine lv_istore_n (lv' := [(3, .int r7), (2, .int r3), (0, .ref (ha 0)), (1, .int x1)]) hx hb dX6_sized_36 rfl hl (by decide) rfl (fun ls hl => ?_)
        refine lv_iload_n hx hb dX6_sized_37 rfl (lv_at hl 0 rfl) ?_
        refine lv_if_ge (tgt := 45) hx hb dX6_sized_38 (by decide) (fun c8 => ?_) (fun c8 => ?_)
        · have hw := hw.1 c8
          refine lv_aload_n hx hb dX6_sized_45 rfl (lv_at hl 2 rfl) ?_
          refine lv_aload_n hx hb dX6_sized_46 rfl (lv_at hl 2 rfl) ?_
          refine fg_X6_51 F hh dX6_sized_47 ?_
          refine lv_iload_n hx hb dX6_sized_50 rfl (lv_at hl 0 rfl) ?_
          obtain ⟨q9, hw⟩ := hw
          refine ra_M_21 F hh q9 dX6_sized_51 ?_
          refine lf_callVi (rest := []) F hh (cw_X6_156 F.1.2.2.2.2 ⟨Nat.le_of_ble_eq_true rfl, Nat.le_of_ble_eq_true rfl⟩) (c_X6_sizeFor l D ha cy H.size σ7 (lf_al σ7 21 r7.toNatClampNeg) _ hw) 0 6 rfl rfl rfl rfl hl.1 (Nat.le_of_ble_eq_true rfl) dX6_sized_52 rfl (fun r10 σ10 H locs hw hh => ?_)
          exact lf_reti F hh hw dX6_sized_55
        · have hw := hw.2 c8
          refine lv_iconst (v := 0) hx hb dX6_sized_41 (by decide) ?_
          refine lv_goto (tgt := 55) hx hb dX6_sized_42 (by decide) ?_
          exact lf_reti F hh hw dX6_sized_55
      · have hw := hw.2 c6
        refine lv_bipush (v := (-6)) hx hb dX6_sized_28 (by decide) ?_
        exact lf_reti F hh hw dX6_sized_30
  · have hw := hw.2 c2
    refine lv_iconst (v := (-1)) hx hb dX6_sized_8 (by decide) ?_
    exact lf_reti F hh hw dX6_sized_9
end
section
def J_X6_numberOf_92 (Post : Int64 → lf_St → Prop) (x2 : Int64) (x4 : Int32) (x5 : Int32) (σ : lf_St) : Prop := vp_in x5 6 ∧ ((((lf_ai σ 13 x5.toNatClampNeg) < 0) → (Post x2 σ)) ∧ ((¬ ((lf_ai σ 13 x5.toNatClampNeg) < 0)) → (vp_in x5 6 ∧ (vp_in x4 6 ∧ (vp_in x5 6 ∧ (vp_in (lf_ai σ 13 x5.toNatClampNeg) 6 ∧ (vp_in x5 6 ∧ (vp_in x4 6 ∧ (vp_in x5 6 ∧ (vp_in ((lf_ai σ 13 x5.toNatClampNeg) + 1) 6 ∧ (∀ v11 : Int64, v11 = (x2 + ((((((lf_ai σ 1 x5.toNatClampNeg) - (lf_ai σ 1 x4.toNatClampNeg)) : Int32).toInt64) * (lf_al σ 24 ((lf_ai σ 13 x5.toNatClampNeg) : Int32).toNatClampNeg)) + (((((lf_ai σ 2 x5.toNatClampNeg) - (lf_ai σ 2 x4.toNatClampNeg)) : Int32).toInt64) * (lf_al σ 24 (((lf_ai σ 13 x5.toNatClampNeg) + 1) : Int32).toNatClampNeg)))) → (Post v11 σ))))))))))))
def wp_X6_numberOf (x1 : Int32) (σ : lf_St) (Post : Int64 → lf_St → Prop) : Prop := vp_in x1 10 ∧ (∀ v2 : Int32, v2 = (lf_ai σ 7 x1.toNatClampNeg) → (vp_in x1 10 ∧ (∀ v4 : Int32, v4 = (lf_ai σ 8 x1.toNatClampNeg) → (vp_in v2 6 ∧ ((((lf_ai σ 13 v2.toNatClampNeg) < 0) → (J_X6_numberOf_92 Post 0 v2 v4 σ)) ∧ ((¬ ((lf_ai σ 13 v2.toNatClampNeg) < 0)) → (vp_in v2 6 ∧ (vp_in v4 6 ∧ (vp_in v2 6 ∧ (vp_in (lf_ai σ 13 v2.toNatClampNeg) 6 ∧ (vp_in v2 6 ∧ (vp_in v4 6 ∧ (vp_in v2 6 ∧ (vp_in ((lf_ai σ 13 v2.toNatClampNeg) + 1) 6 ∧ (∀ v15 : Int64, v15 = (0 + ((((((lf_ai σ 1 v2.toNatClampNeg) - (lf_ai σ 1 v4.toNatClampNeg)) : Int32).toInt64) * (lf_al σ 24 ((lf_ai σ 13 v2.toNatClampNeg) : Int32).toNatClampNeg)) + (((((lf_ai σ 2 v2.toNatClampNeg) - (lf_ai σ 2 v4.toNatClampNeg)) : Int32).toInt64) * (lf_al σ 24 (((lf_ai σ 13 v2.toNatClampNeg) + 1) : Int32).toNatClampNeg)))) → (J_X6_numberOf_92 Post v15 v2 v4 σ))))))))))))))))
def rm_X6_numberOf : Room := ({ frames := 0, cells := 0, slots := 0, locals := 0 } : Room)
set_option maxHeartbeats 4000000 in
set_option maxRecDepth 100000 in
theorem w_X6_numberOf_92 {p : Program} {l : Launch} {e : Env} {s : State} {m : MethodId} {args : Array Value} {below : List Frame} {meth : Method} {c : Code} {D : va_G} {A : Nat → Prop} {ha : Nat → Nat} {cy : Nat → ClassId} (Post : Int64 → lf_St → Prop) (F : lf_C p s m args meth c RX6 cX6_numberOf 6 (some .long) D (tyM_ cy) A) (x2 : Int64) (x4 : Int32) (x5 : Int32) (σ : lf_St) (H : Heap) (locs : List Loc) (ls : Array Slot) (hh : lf_H D (wM_ ha cy) A s σ H locs) (hl : lv_has ls 6 [(0, .ref (ha 0)), (2, .long x2), (4, .int x4), (5, .int x5)]) (hw : J_X6_numberOf_92 Post x2 x4 x5 σ) : W p l e rm_X6_numberOf s m args below meth c H locs 0 0 (lf_Ql below args s D (tyM_ cy) A (wM_ ha cy) Post) (F0 m 92 ls []) := by
  have hx := F.1.1
  have hb := F.1.2.1
  unfold J_X6_numberOf_92 at hw
  refine lv_aload_n hx hb dX6_numberOf_92 rfl (lv_at hl 0 rfl) ?_
  refine fg_X6_35 F hh dX6_numberOf_93 ?_
  refine lv_iload hx hb dX6_numberOf_96 (lv_at hl 3 rfl) ?_
  obtain ⟨q1, hw⟩ := hw
  refine ra_M_13 F hh q1 dX6_numberOf_98 ?_
  refine lv_if_lt (tgt := 166) hx hb dX6_numberOf_99 (by decide) (fun c2 => ?_) (fun c2 => ?_)
  · have hw := hw.1 c2
    refine lv_lload_n hx hb dX6_numberOf_166 rfl (lv_at hl 1 rfl) ?_
    exact lf_retl F hh hw dX6_numberOf_167
  · have hw := hw.2 c2
    refine lv_lload_n hx hb dX6_numberOf_102 rfl (lv_at hl 1 rfl) ?_
    refine lv_aload_n hx hb dX6_numberOf_103 rfl (lv_at hl 0 rfl) ?_
    refine fg_X6_7 F hh dX6_numberOf_104 ?_
    refine lv_iload hx hb dX6_numberOf_107 (lv_at hl 3 rfl) ?_
    obtain ⟨q3, hw⟩ := hw
    refine ra_M_1 F hh q3 dX6_numberOf_109 ?_
    refine lv_aload_n hx hb dX6_numberOf_110 rfl (lv_at hl 0 rfl) ?_
    refine fg_X6_7 F hh dX6_numberOf_111 ?_
    refine lv_iload hx hb dX6_numberOf_114 (lv_at hl 2 rfl) ?_
    obtain ⟨q4, hw⟩ := hw
    refine ra_M_1 F hh q4 dX6_numberOf_116 ?_
    refine lv_isub hx hb dX6_numberOf_117 ?_
    refine lv_i2l hx hb dX6_numberOf_118 rfl ?_
    refine lv_aload_n hx hb dX6_numberOf_119 rfl (lv_at hl 0 rfl) ?_
    refine fg_X6_54 F hh dX6_numberOf_120 ?_
    refine lv_aload_n hx hb dX6_numberOf_123 rfl (lv_at hl 0 rfl) ?_
    refine fg_X6_35 F hh dX6_numberOf_124 ?_
    refine lv_iload hx hb dX6_numberOf_127 (lv_at hl 3 rfl) ?_
    obtain ⟨q5, hw⟩ := hw
    refine ra_M_13 F hh q5 dX6_numberOf_129 ?_
    obtain ⟨q6, hw⟩ := hw
    refine ra_M_24 F hh q6 dX6_numberOf_130 ?_
    refine lv_lmul hx hb dX6_numberOf_131 ?_
    refine lv_aload_n hx hb dX6_numberOf_132 rfl (lv_at hl 0 rfl) ?_
    refine fg_X6_13 F hh dX6_numberOf_133 ?_
    refine lv_iload hx hb dX6_numberOf_136 (lv_at hl 3 rfl) ?_
    obtain ⟨q7, hw⟩ := hw
    refine ra_M_2 F hh q7 dX6_numberOf_138 ?_
    refine lv_aload_n hx hb dX6_numberOf_139 rfl (lv_at hl 0 rfl) ?_
    refine fg_X6_13 F hh dX6_numberOf_140 ?_
    refine lv_iload hx hb dX6_numberOf_143 (lv_at hl 2 rfl) ?_
    obtain ⟨q8, hw⟩ := hw
    refine ra_M_2 F hh q8 dX6_numberOf_145 ?_
    refine lv_isub hx hb dX6_numberOf_146 ?_
    refine lv_i2l hx hb dX6_numberOf_147 rfl ?_
    refine lv_aload_n hx hb dX6_numberOf_148 rfl (lv_at hl 0 rfl) ?_
    refine fg_X6_54 F hh dX6_numberOf_149 ?_
    refine lv_aload_n hx hb dX6_numberOf_152 rfl (lv_at hl 0 rfl) ?_
    refine fg_X6_35 F hh dX6_numberOf_153 ?_
    refine lv_iload hx hb dX6_numberOf_156 (lv_at hl 3 rfl) ?_
    obtain ⟨q9, hw⟩ := hw
    refine ra_M_13 F hh q9 dX6_numberOf_158 ?_
    refine lv_iconst (v := 1) hx hb dX6_numberOf_159 (by decide) ?_
    refine lv_iadd hx hb dX6_numberOf_160 ?_
    obtain ⟨q10, hw⟩ := hw
    refine ra_M_24 F hh q10 dX6_numberOf_161 ?_
    refine lv_lmul hx hb dX6_numberOf_162 ?_
    refine lv_ladd hx hb dX6_numberOf_163 ?_
    refine lv_ladd hx hb dX6_numberOf_164 ?_
    refine lv_topl (fun v11 ev11 => ?_)
    have hw := hw v11 ev11
    refine lv_lstore_n (lv' := [(2, .long v11), (0, .ref (ha 0)), (4, .int x4), (5, .int x5)]) hx hb dX6_numberOf_165 rfl hl (by decide) rfl (fun ls hl => ?_)
    refine lv_lload_n hx hb dX6_numberOf_166 rfl (lv_at hl 0 rfl) ?_
    exact lf_retl F hh hw dX6_numberOf_167
set_option maxHeartbeats 4000000 in
set_option maxRecDepth 100000 in
theorem c_X6_numberOf (l : Launch) (D : va_G) (ha : Nat → Nat) (cy : Nat → ClassId) (sz : Nat) (σ : lf_St) (x1 : Int32) (Post : Int64 → lf_St → Prop) (hw : wp_X6_numberOf x1 σ Post) : lf_Ml l yX6_numberOf (lf_ws yX6_numberOf cX6_numberOf 6 (some .long)) rm_X6_numberOf D (tyM_ cy) (wM_ ha cy) sz σ [.ref (ha 0), .int x1] Post := by
  refine lf_ofl (by decide +kernel) (Nat.le_of_ble_eq_true rfl) ?_
  intro p e s m args below meth c A ls F hh hl
  have hx := F.1.1
  have hb := F.1.2.1
  have hl : lv_has ls 6 [(0, .ref (ha 0)), (1, .int x1)] := hl
  obtain ⟨H, hHe⟩ : ∃ H, H = s.heap := ⟨_, rfl⟩
  rw [← hHe] at hh ⊢
  unfold wp_X6_numberOf at hw
  refine lv_lconst (v := 0) hx hb dX6_numberOf_0 (by decide) ?_
  refine lv_lstore_n (lv' := [(2, .long 0), (0, .ref (ha 0)), (1, .int x1)]) hx hb dX6_numberOf_1 rfl hl (by decide) rfl (fun ls hl => ?_)
  refine lv_aload_n hx hb dX6_numberOf_2 rfl (lv_at hl 1 rfl) ?_
  refine fg_X6_26 F hh dX6_numberOf_3 ?_
  refine lv_iload_n hx hb dX6_numberOf_6 rfl (lv_at hl 2 rfl) ?_
  obtain ⟨q1, hw⟩ := hw
  refine ra_M_7 F hh q1 dX6_numberOf_7 ?_
  refine lv_topi (fun v2 ev2 => ?_)
  have hw := hw v2 ev2
  refine lv_istore (lv' := [(4, .int v2), (2, .long 0), (0, .ref (ha 0)), (1, .int x1)]) hx hb dX6_numberOf_8 hl (by decide) rfl (fun ls hl => ?_)
  refine lv_aload_n hx hb dX6_numberOf_10 rfl (lv_at hl 2 rfl) ?_
  refine fg_X6_29 F hh dX6_numberOf_11 ?_
  refine lv_iload_n hx hb dX6_numberOf_14 rfl (lv_at hl 3 rfl) ?_
  obtain ⟨q3, hw⟩ := hw
  refine ra_M_8 F hh q3 dX6_numberOf_15 ?_
  refine lv_topi (fun v4 ev4 => ?_)
  have hw := hw v4 ev4
  refine lv_istore (lv' := [(5, .int v4), (4, .int v2), (2, .long 0), (0, .ref (ha 0)), (1, .int x1)]) hx hb dX6_numberOf_16 hl (by decide) rfl (fun ls hl => ?_)
  refine lv_aload_n hx hb dX6_numberOf_18 rfl (lv_at hl 3 rfl) ?_
  refine fg_X6_35 F hh dX6_numberOf_19 ?_
  refine lv_iload hx hb dX6_numberOf_22 (lv_at hl 1 rfl) ?_
  obtain ⟨q5, hw⟩ := hw
  refine ra_M_13 F hh q5 dX6_numberOf_24 ?_
  refine lv_if_lt (tgt := 92) hx hb dX6_numberOf_25 (by decide) (fun c6 => ?_) (fun c6 => ?_)
  · have hw := hw.1 c6
    exact w_X6_numberOf_92 Post F  0 v2 v4 σ _ _ _ hh (lv_sub hl [3, 2, 1, 0] rfl) hw
  · have hw := hw.2 c6
    refine lv_lload_n hx hb dX6_numberOf_28 rfl (lv_at hl 2 rfl) ?_
    refine lv_aload_n hx hb dX6_numberOf_29 rfl (lv_at hl 3 rfl) ?_
    refine fg_X6_7 F hh dX6_numberOf_30 ?_
    refine lv_iload hx hb dX6_numberOf_33 (lv_at hl 1 rfl) ?_
    obtain ⟨q7, hw⟩ := hw
    refine ra_M_1 F hh q7 dX6_numberOf_35 ?_
    refine lv_aload_n hx hb dX6_numberOf_36 rfl (lv_at hl 3 rfl) ?_
    refine fg_X6_7 F hh dX6_numberOf_37 ?_
    refine lv_iload hx hb dX6_numberOf_40 (lv_at hl 0 rfl) ?_
    obtain ⟨q8, hw⟩ := hw
    refine ra_M_1 F hh q8 dX6_numberOf_42 ?_
    refine lv_isub hx hb dX6_numberOf_43 ?_
    refine lv_i2l hx hb dX6_numberOf_44 rfl ?_
    refine lv_aload_n hx hb dX6_numberOf_45 rfl (lv_at hl 3 rfl) ?_
    refine fg_X6_54 F hh dX6_numberOf_46 ?_
    refine lv_aload_n hx hb dX6_numberOf_49 rfl (lv_at hl 3 rfl) ?_
    refine fg_X6_35 F hh dX6_numberOf_50 ?_
    refine lv_iload hx hb dX6_numberOf_53 (lv_at hl 1 rfl) ?_
    obtain ⟨q9, hw⟩ := hw
    refine ra_M_13 F hh q9 dX6_numberOf_55 ?_
    obtain ⟨q10, hw⟩ := hw
    refine ra_M_24 F hh q10 dX6_numberOf_56 ?_
    refine lv_lmul hx hb dX6_numberOf_57 ?_
    refine lv_aload_n hx hb dX6_numberOf_58 rfl (lv_at hl 3 rfl) ?_
    refine fg_X6_13 F hh dX6_numberOf_59 ?_
    refine lv_iload hx hb dX6_numberOf_62 (lv_at hl 1 rfl) ?_
    obtain ⟨q11, hw⟩ := hw
    refine ra_M_2 F hh q11 dX6_numberOf_64 ?_
    refine lv_aload_n hx hb dX6_numberOf_65 rfl (lv_at hl 3 rfl) ?_
    refine fg_X6_13 F hh dX6_numberOf_66 ?_
    refine lv_iload hx hb dX6_numberOf_69 (lv_at hl 0 rfl) ?_
    obtain ⟨q12, hw⟩ := hw
    refine ra_M_2 F hh q12 dX6_numberOf_71 ?_
    refine lv_isub hx hb dX6_numberOf_72 ?_
    refine lv_i2l hx hb dX6_numberOf_73 rfl ?_
    refine lv_aload_n hx hb dX6_numberOf_74 rfl (lv_at hl 3 rfl) ?_
    refine fg_X6_54 F hh dX6_numberOf_75 ?_
    refine lv_aload_n hx hb dX6_numberOf_78 rfl (lv_at hl 3 rfl) ?_
    refine fg_X6_35 F hh dX6_numberOf_79 ?_
    refine lv_iload hx hb dX6_numberOf_82 (lv_at hl 1 rfl) ?_
    obtain ⟨q13, hw⟩ := hw
    refine ra_M_13 F hh q13 dX6_numberOf_84 ?_
    refine lv_iconst (v := 1) hx hb dX6_numberOf_85 (by decide) ?_
    refine lv_iadd hx hb dX6_numberOf_86 ?_
    obtain ⟨q14, hw⟩ := hw
    refine ra_M_24 F hh q14 dX6_numberOf_87 ?_
    refine lv_lmul hx hb dX6_numberOf_88 ?_
    refine lv_ladd hx hb dX6_numberOf_89 ?_
    refine lv_ladd hx hb dX6_numberOf_90 ?_
    refine lv_topl (fun v15 ev15 => ?_)
    have hw := hw v15 ev15
    refine lv_lstore_n (lv' := [(2, .long v15), (5, .int v4), (4, .int v2), (0, .ref (ha 0)), (1, .int x1)]) hx hb dX6_numberOf_91 rfl hl (by decide) rfl (fun ls hl => ?_)
    exact w_X6_numberOf_92 Post F  v15 v2 v4 σ _ _ _ hh (lv_sub hl [3, 0, 2, 1] rfl) hw
theorem cw_X6_204 {R : Room} {s : State} {args : Array Value} (ht : ∀ w ∈ wsL_law, w.before args s = true) (hR : rm_X6_numberOf.frames + 1 ≤ R.frames ∧ 8 + (6 + 11) + rm_X6_numberOf.locals ≤ R.locals) : lf_cV R s args RX6 RX6 204 yX6_numberOf cX6_numberOf 6 (some .long) rm_X6_numberOf 1 :=
  lf_cV_of 1 ht (lr_30 _ (List.mem_of_getElem? (i := 8) rfl)) (lr_30 _ (List.mem_of_getElem? (i := 5) rfl)) (lr_30 _ (List.mem_of_getElem? (i := 6) rfl)) (lr_30 _ (List.mem_of_getElem? (i := 7) rfl)) (lr_1 _ (List.mem_of_getElem? (i := 5) rfl)) rfl rfl (by decide +kernel) hR
def L_X6_isGood_409 (Post : Int32 → lf_St → Prop) : Nat → Int32 → Int32 → lf_St → Prop
  | 0, _, _, _ => False
  | n + 1, x3, x7, σ => (((lf_gi σ 6) ≤ x7) → ((fits .boolean (.int x3) = true) ∧ Post x3 σ)) ∧ ((¬ ((lf_gi σ 6) ≤ x7)) → (((x3 = 0) → ((fits .boolean (.int x3) = true) ∧ Post x3 σ)) ∧ ((¬ (x3 = 0)) → (wp_X6_numberOf x7 σ (fun r5 σ5 => wp_X6_abs r5 σ5 (fun r6 σ6 => wp_X6_stuff x7 σ6 (fun r7 σ7 => ((((r7.toInt64) * (lf_gl σ7 25)) < r6) → (∀ v9 : Int32, v9 = x7 + 1 → (L_X6_isGood_409 Post n 0 v9 σ7))) ∧ ((¬ (((r7.toInt64) * (lf_gl σ7 25)) < r6)) → (∀ v10 : Int32, v10 = x7 + 1 → (L_X6_isGood_409 Post n 1 v10 σ7))))))))))
def L_X6_isGood_352 (Post : Int32 → lf_St → Prop) : Nat → Int32 → Int64 → Int32 → lf_St → Prop
  | 0, _, _, _, _ => False
  | n + 1, x3, x5, x7, σ => (((lf_gi σ 14) ≤ x7) → (wp_X6_abs x5 σ (fun r2 σ2 => ∃ fu : Nat, L_X6_isGood_409 Post fu x3 0 (lf_sl σ2 25 r2)))) ∧ ((¬ ((lf_gi σ 14) ≤ x7)) → (wp_X6_determinant x7 σ (fun r3 σ3 => ((0 ≤ x5) → (vp_in x7 6 ∧ (∀ v6 : Int32, v6 = x7 + 1 → (L_X6_isGood_352 Post n x3 x5 v6 (lf_sb σ3 24 x7.toNatClampNeg r3))))) ∧ ((¬ (0 ≤ x5)) → (vp_in x7 6 ∧ (∀ v8 : Int32, v8 = x7 + 1 → (L_X6_isGood_352 Post n x3 x5 v8 (lf_sb σ3 24 x7.toNatClampNeg (-r3)))))))))
def J_X6_isGood_266 (K_159 : Int32 → Int32 → lf_St → Prop) (Post : Int32 → lf_St → Prop) (x3 : Int32) (x5 : Int32) (x6 : Int32) (x7 : Int32) (σ : lf_St) : Prop := vp_in x7 6 ∧ ((((lf_ai σ 13 x7.toNatClampNeg) < 0) → (∀ v3 : Int32, v3 = x5 + 1 → (K_159 x3 v3 σ))) ∧ ((¬ ((lf_ai σ 13 x7.toNatClampNeg) < 0)) → (vp_in x7 6 ∧ (vp_in x7 6 ∧ (vp_in x6 6 ∧ (wp_X6_put x5 (lf_ai σ 13 x7.toNatClampNeg) ((((lf_ai σ 1 x7.toNatClampNeg) - (lf_ai σ 1 x6.toNatClampNeg)) : Int32).toInt64) σ (fun σ7 => vp_in x7 6 ∧ (vp_in x7 6 ∧ (vp_in x6 6 ∧ (wp_X6_put x5 ((lf_ai σ7 13 x7.toNatClampNeg) + 1) ((((lf_ai σ7 2 x7.toNatClampNeg) - (lf_ai σ7 2 x6.toNatClampNeg)) : Int32).toInt64) σ7 (fun σ11 => ∀ v12 : Int32, v12 = x5 + 1 → (K_159 x3 v12 σ11))))))))))))
def L_X6_isGood_159 (Post : Int32 → lf_St → Prop) : Nat → Int32 → Int32 → lf_St → Prop
  | 0, _, _, _ => False
  | n + 1, x3, x5, σ => (((lf_gi σ 14) ≤ x5) → (wp_X6_determinant (-1) σ (fun r2 σ2 => ∃ fu : Nat, L_X6_isGood_352 Post fu x3 r2 0 σ2))) ∧ ((¬ ((lf_gi σ 14) ≤ x5)) → (vp_in x5 6 ∧ (vp_in (lf_ai σ 19 x5.toNatClampNeg) 10 ∧ (∀ v5 : Int32, v5 = (lf_ai σ 7 ((lf_ai σ 19 x5.toNatClampNeg) : Int32).toNatClampNeg) → (vp_in x5 6 ∧ (vp_in (lf_ai σ 19 x5.toNatClampNeg) 10 ∧ (∀ v8 : Int32, v8 = (lf_ai σ 8 ((lf_ai σ 19 x5.toNatClampNeg) : Int32).toNatClampNeg) → (vp_in v5 6 ∧ ((((lf_ai σ 13 v5.toNatClampNeg) < 0) → (J_X6_isGood_266 (L_X6_isGood_159 Post n) Post x3 x5 v5 v8 σ)) ∧ ((¬ ((lf_ai σ 13 v5.toNatClampNeg) < 0)) → (vp_in v5 6 ∧ (vp_in v5 6 ∧ (vp_in v8 6 ∧ (wp_X6_put x5 (lf_ai σ 13 v5.toNatClampNeg) ((((lf_ai σ 1 v5.toNatClampNeg) - (lf_ai σ 1 v8.toNatClampNeg)) : Int32).toInt64) σ (fun σ14 => vp_in v5 6 ∧ (vp_in v5 6 ∧ (vp_in v8 6 ∧ (wp_X6_put x5 ((lf_ai σ14 13 v5.toNatClampNeg) + 1) ((((lf_ai σ14 2 v5.toNatClampNeg) - (lf_ai σ14 2 v8.toNatClampNeg)) : Int32).toInt64) σ14 (fun σ18 => J_X6_isGood_266 (L_X6_isGood_159 Post n) Post x3 x5 v5 v8 σ18)))))))))))))))))))
def L_X6_isGood_135 (Post : Int32 → lf_St → Prop) : Nat → Int32 → Int32 → lf_St → Prop
  | 0, _, _, _ => False
  | n + 1, x3, x5, σ => ((36 ≤ x5) → (∃ fu : Nat, L_X6_isGood_159 Post fu x3 0 σ)) ∧ ((¬ (36 ≤ x5)) → (vp_in x5 36 ∧ (∀ v3 : Int32, v3 = x5 + 1 → (L_X6_isGood_135 Post n x3 v3 (lf_sb σ 15 x5.toNatClampNeg 0)))))
def J_X6_isGood_103 (K_12 : Int32 → Int32 → Int32 → Int32 → lf_St → Prop) (Post : Int32 → lf_St → Prop) (x2 : Int32) (x3 : Int32) (x5 : Int32) (x6 : Int64) (x8 : Int32) (t0 : Int32) (t1 : Int32) (σ : lf_St) : Prop := ∀ v1 : Int32, v1 = (t1 + t0) → (((x8 = 0) → (vp_in x5 6 ∧ (∀ v4 : Int32, v4 = x5 + 1 → (K_12 x2 x3 v1 v4 (lf_sb σ 17 x5.toNatClampNeg x6))))) ∧ ((¬ (x8 = 0)) → (vp_in x5 6 ∧ (∀ v6 : Int32, v6 = x5 + 1 → (K_12 x2 x3 v1 v6 (lf_sb σ 17 x5.toNatClampNeg (-x6)))))))
def J_X6_isGood_82 (K_12 : Int32 → Int32 → Int32 → Int32 → lf_St → Prop) (Post : Int32 → lf_St → Prop) (x2 : Int32) (x3 : Int32) (x4 : Int32) (x5 : Int32) (x6 : Int64) (t0 : Int32) (σ : lf_St) : Prop := vp_in x5 6 ∧ (((¬ (lf_al σ 21 x5.toNatClampNeg) = 0) → (J_X6_isGood_103 K_12 Post x2 x3 x5 x6 t0 0 x4 σ)) ∧ (((lf_al σ 21 x5.toNatClampNeg) = 0) → (J_X6_isGood_103 K_12 Post x2 x3 x5 x6 t0 1 x4 σ)))
def L_X6_isGood_12 (Post : Int32 → lf_St → Prop) : Nat → Int32 → Int32 → Int32 → Int32 → lf_St → Prop
  | 0, _, _, _, _, _ => False
  | n + 1, x2, x3, x4, x5, σ => (((lf_gi σ 14) ≤ x5) → (∃ fu : Nat, L_X6_isGood_135 Post fu x3 0 σ)) ∧ ((¬ ((lf_gi σ 14) ≤ x5)) → (vp_in x5 6 ∧ (wp_X6_stuff (lf_ai σ 19 x5.toNatClampNeg) σ (fun r3 σ3 => ∀ v4 : Int64, v4 = r3.toInt64 → (vp_in x5 6 ∧ (((¬ (lf_al σ3 21 x5.toNatClampNeg) = 0) → (vp_in x5 6 ∧ (((0 ≤ (lf_al σ3 21 x5.toNatClampNeg)) → (J_X6_isGood_82 (L_X6_isGood_12 Post n) Post x2 x3 x4 x5 v4 0 σ3)) ∧ ((¬ (0 ≤ (lf_al σ3 21 x5.toNatClampNeg))) → (J_X6_isGood_82 (L_X6_isGood_12 Post n) Post x2 x3 x4 x5 v4 1 σ3))))) ∧ (((lf_al σ3 21 x5.toNatClampNeg) = 0) → (((¬ ((x2 >>> (x4 &&& 31)) &&& 1) = 1) → (J_X6_isGood_82 (L_X6_isGood_12 Post n) Post x2 x3 x4 x5 v4 0 σ3)) ∧ ((((x2 >>> (x4 &&& 31)) &&& 1) = 1) → (J_X6_isGood_82 (L_X6_isGood_12 Post n) Post x2 x3 x4 x5 v4 1 σ3))))))))))
def wp_X6_isGood (x1 : Int32) (x2 : Int32) (σ : lf_St) (Post : Int32 → lf_St → Prop) : Prop := wp_X6_isChoice x1 σ (fun r1 σ1 => ∃ fu : Nat, L_X6_isGood_12 Post fu x2 r1 0 0 σ1)
def rm_X6_isGood : Room := ({ frames := 3, cells := 0, slots := 0, locals := 71 } : Room)
set_option maxHeartbeats 4000000 in
set_option maxRecDepth 100000 in
theorem w_X6_isGood_409 {p : Program} {l : Launch} {e : Env} {s : State} {m : MethodId} {args : Array Value} {below : List Frame} {meth : Method} {c : Code} {D : va_G} {A : Nat → Prop} {ha : Nat → Nat} {cy : Nat → ClassId} (Post : Int32 → lf_St → Prop) (F : lf_C p s m args meth c RX6 cX6_isGood 10 (some .boolean) D (tyM_ cy) A) : ∀ (n : Nat) (x3 : Int32) (x7 : Int32) (σ : lf_St) (H : Heap) (locs : List Loc) (ls : Array Slot), lf_H D (wM_ ha cy) A s σ H locs → lv_has ls 10 [(0, .ref (ha 0)), (3, .int x3), (7, .int x7)] → L_X6_isGood_409 Post n x3 x7 σ → W p l e rm_X6_isGood s m args below meth c H locs 0 0 (lf_Qi below args s D (tyM_ cy) A (wM_ ha cy) Post) (F0 m 409 ls []) := by
  have hx := F.1.1
  have hb := F.1.2.1
  intro n
  induction n with
  | zero =>
    intro x3 x7 σ H locs ls hh hl hw
    exact False.elim hw
  | succ n ih =>
    intro x3 x7 σ H locs ls hh hl hw
    unfold L_X6_isGood_409 at hw
    refine lv_iload hx hb dX6_isGood_409 (lv_at hl 2 rfl) ?_
    refine lv_aload_n hx hb dX6_isGood_411 rfl (lv_at hl 0 rfl) ?_
    refine fg_X6_65 F hh dX6_isGood_412 ?_
    refine lv_icmp_ge (tgt := 459) hx hb dX6_isGood_415 (by decide) (fun c1 => ?_) (fun c1 => ?_)
    · have hw := hw.1 c1
      refine lv_iload_n hx hb dX6_isGood_459 rfl (lv_at hl 1 rfl) ?_
      obtain ⟨q2, hw⟩ := hw
      exact lf_retz F hh (lf_nz q2) hw dX6_isGood_460
    · have hw := hw.2 c1
      refine lv_iload_n hx hb dX6_isGood_418 rfl (lv_at hl 1 rfl) ?_
      refine lv_if_eq (tgt := 459) hx hb dX6_isGood_419 (by decide) (fun c3 => ?_) (fun c3 => ?_)
      · have hw := hw.1 c3
        refine lv_iload_n hx hb dX6_isGood_459 rfl (lv_at hl 1 rfl) ?_
        obtain ⟨q4, hw⟩ := hw
        exact lf_retz F hh (lf_nz q4) hw dX6_isGood_460
      · have hw := hw.2 c3
        refine lv_aload_n hx hb dX6_isGood_422 rfl (lv_at hl 0 rfl) ?_
        refine lv_iload hx hb dX6_isGood_423 (lv_at hl 2 rfl) ?_
        refine lf_callVl (rest := []) F hh (cw_X6_204 F.1.2.2.2.2 ⟨Nat.le_of_ble_eq_true rfl, Nat.le_of_ble_eq_true rfl⟩) (c_X6_numberOf l D ha cy H.size σ x7 _ hw) 0 6 rfl rfl rfl rfl hl.1 (Nat.le_of_ble_eq_true rfl) dX6_isGood_425 rfl (fun r5 σ5 H locs hw hh => ?_)
        refine lf_callSl (rest := []) F hh (cw_X6_140 F.1.2.2.2.2 ⟨Nat.le_of_ble_eq_true rfl, Nat.le_of_ble_eq_true rfl⟩) (c_X6_abs l D ha cy H.size σ5 r5 _ hw) rfl hl.1 (Nat.le_of_ble_eq_true rfl) dX6_isGood_428 rfl (fun r6 σ6 H locs hw hh => ?_)
        refine lv_aload_n hx hb dX6_isGood_431 rfl (lv_at hl 0 rfl) ?_
        refine lv_iload hx hb dX6_isGood_432 (lv_at hl 2 rfl) ?_
        refine lf_callVi (rest := [.long r6]) F hh (cw_X6_93 F.1.2.2.2.2 ⟨Nat.le_of_ble_eq_true rfl, Nat.le_of_ble_eq_true rfl⟩) (c_X6_stuff l D ha cy H.size σ6 x7 _ hw) 0 6 rfl rfl rfl rfl hl.1 (Nat.le_of_ble_eq_true rfl) dX6_isGood_434 rfl (fun r7 σ7 H locs hw hh => ?_)
        refine lv_i2l hx hb dX6_isGood_437 rfl ?_
        refine lv_aload_n hx hb dX6_isGood_438 rfl (lv_at hl 0 rfl) ?_
        refine fg_X6_201 F hh dX6_isGood_439 ?_
        refine lv_lmul hx hb dX6_isGood_442 ?_
        refine lf_lcmp_gt (tgt := 451) hx hb dX6_isGood_443 dX6_isGood_444 (by decide) (fun c8 => ?_) (fun c8 => ?_)
        · have hw := hw.1 c8
          refine lv_iconst (v := 0) hx hb dX6_isGood_451 (by decide) ?_
          refine lv_istore_n (lv' := [(3, .int 0), (0, .ref (ha 0)), (7, .int x7)]) hx hb dX6_isGood_452 rfl hl (by decide) rfl (fun ls hl => ?_)
          obtain ⟨v9, ev9⟩ : ∃ y : Int32, y = x7 + 1 := ⟨_, rfl⟩
          have hw := hw v9 ev9
          refine lv_iinc (v := v9) (lv' := [(7, .int v9), (3, .int 0), (0, .ref (ha 0))]) hx hb dX6_isGood_453 hl (k := 2) rfl (by rw [ev9]; rfl) (by decide) rfl (fun ls hl => ?_)
          refine lv_goto (tgt := 409) hx hb dX6_isGood_456 (by decide) ?_
          exact ih 0 v9 σ7 _ _ _ hh (lv_sub hl [2, 1, 0] rfl) hw
        · have hw := hw.2 c8
          refine lv_iconst (v := 1) hx hb dX6_isGood_447 (by decide) ?_
          refine lv_goto (tgt := 452) hx hb dX6_isGood_448 (by decide) ?_
          refine lv_istore_n (lv' := [(3, .int 1), (0, .ref (ha 0)), (7, .int x7)]) hx hb dX6_isGood_452 rfl hl (by decide) rfl (fun ls hl => ?_)
          obtain ⟨v10, ev10⟩ : ∃ y : Int32, y = x7 + 1 := ⟨_, rfl⟩
          have hw := hw v10 ev10
          refine lv_iinc (v := v10) (lv' := [(7, .int v10), (3, .int 1), (0, .ref (ha 0))]) hx hb dX6_isGood_453 hl (k := 2) rfl (by rw [ev10]; rfl) (by decide) rfl (fun ls hl => ?_)
          refine lv_goto (tgt := 409) hx hb dX6_isGood_456 (by decide) ?_
          exact ih 1 v10 σ7 _ _ _ hh (lv_sub hl [2, 1, 0] rfl) hw
set_option maxHeartbeats 4000000 in
set_option maxRecDepth 100000 in
theorem w_X6_isGood_352 {p : Program} {l : Launch} {e : Env} {s : State} {m : MethodId} {args : Array Value} {below : List Frame} {meth : Method} {c : Code} {D : va_G} {A : Nat → Prop} {ha : Nat → Nat} {cy : Nat → ClassId} (Post : Int32 → lf_St → Prop) (F : lf_C p s m args meth c RX6 cX6_isGood 10 (some .boolean) D (tyM_ cy) A) : ∀ (n : Nat) (x3 : Int32) (x5 : Int64) (x7 : Int32) (σ : lf_St) (H : Heap) (locs : List Loc) (ls : Array Slot), lf_H D (wM_ ha cy) A s σ H locs → lv_has ls 10 [(0, .ref (ha 0)), (3, .int x3), (5, .long x5), (7, .int x7)] → L_X6_isGood_352 Post n x3 x5 x7 σ → W p l e rm_X6_isGood s m args below meth c H locs 0 0 (lf_Qi below args s D (tyM_ cy) A (wM_ ha cy) Post) (F0 m 352 ls []) := by
  have hx := F.1.1
  have hb := F.1.2.1
  intro n
  induction n with
  | zero =>
    intro x3 x5 x7 σ H locs ls hh hl hw
    exact False.elim hw
  | succ n ih =>
    intro x3 x5 x7 σ H locs ls hh hl hw
    unfold L_X6_isGood_352 at hw
    refine lv_iload hx hb dX6_isGood_352 (lv_at hl 3 rfl) ?_
    refine lv_aload_n hx hb dX6_isGood_354 rfl (lv_at hl 0 rfl) ?_
    refine fg_X6_119 F hh dX6_isGood_355 ?_
    refine lv_icmp_ge (tgt := 397) hx hb dX6_isGood_358 (by decide) (fun c1 => ?_) (fun c1 => ?_)
    · have hw := hw.1 c1
      refine lv_aload_n hx hb dX6_isGood_397 rfl (lv_at hl 0 rfl) ?_
      refine lv_lload hx hb dX6_isGood_398 (lv_at hl 2 rfl) ?_
      refine lf_callSl (rest := [.ref (ha 0)]) F hh (cw_X6_140 F.1.2.2.2.2 ⟨Nat.le_of_ble_eq_true rfl, Nat.le_of_ble_eq_true rfl⟩) (c_X6_abs l D ha cy H.size σ x5 _ hw) rfl hl.1 (Nat.le_of_ble_eq_true rfl) dX6_isGood_400 rfl (fun r2 σ2 H locs hw hh => ?_)
      refine fp_X6_201 F hh dX6_isGood_403 (fun H locs hh => ?_)
      refine lv_iconst (v := 0) hx hb dX6_isGood_406 (by decide) ?_
      refine lv_istore (lv' := [(7, .int 0), (0, .ref (ha 0)), (3, .int x3), (5, .long x5)]) hx hb dX6_isGood_407 hl (by decide) rfl (fun ls hl => ?_)
      obtain ⟨n409, hw⟩ := hw
      exact w_X6_isGood_409 Post F  n409 x3 0 (lf_sl σ2 25 r2) _ _ _ hh (lv_sub hl [1, 2, 0] rfl) hw
    · have hw := hw.2 c1
      refine lv_aload_n hx hb dX6_isGood_361 rfl (lv_at hl 0 rfl) ?_
      refine lv_iload hx hb dX6_isGood_362 (lv_at hl 3 rfl) ?_
      refine lf_callVl (rest := []) F hh (cw_X6_132 F.1.2.2.2.2 ⟨Nat.le_of_ble_eq_true rfl, Nat.le_of_ble_eq_true rfl⟩) (c_X6_determinant l D ha cy H.size σ x7 _ hw) 0 6 rfl rfl rfl rfl hl.1 (Nat.le_of_ble_eq_true rfl) dX6_isGood_364 rfl (fun r3 σ3 H locs hw hh => ?_)
      refine lv_lstore (lv' := [(8, .long r3), (0, .ref (ha 0)), (3, .int x3), (5, .long x5), (7, .int x7)]) hx hb dX6_isGood_367 hl (by decide) rfl (fun ls hl => ?_)
      refine lv_aload_n hx hb dX6_isGood_369 rfl (lv_at hl 1 rfl) ?_
      refine fg_X6_54 F hh dX6_isGood_370 ?_
      refine lv_iload hx hb dX6_isGood_373 (lv_at hl 4 rfl) ?_
      refine lv_lload hx hb dX6_isGood_375 (lv_at hl 3 rfl) ?_
      refine lv_lconst (v := 0) hx hb dX6_isGood_377 (by decide) ?_
      refine lf_lcmp_ge (tgt := 388) hx hb dX6_isGood_378 dX6_isGood_379 (by decide) (fun c4 => ?_) (fun c4 => ?_)
      · have hw := hw.1 c4
        refine lv_lload hx hb dX6_isGood_388 (lv_at hl 0 rfl) ?_
        obtain ⟨q5, hw⟩ := hw
        refine wa_M_24 F hh q5 dX6_isGood_390 (fun H locs hh => ?_)
        obtain ⟨v6, ev6⟩ : ∃ y : Int32, y = x7 + 1 := ⟨_, rfl⟩
        have hw := hw v6 ev6
        refine lv_iinc (v := v6) (lv' := [(7, .int v6), (8, .long r3), (0, .ref (ha 0)), (3, .int x3), (5, .long x5)]) hx hb dX6_isGood_391 hl (k := 4) rfl (by rw [ev6]; rfl) (by decide) rfl (fun ls hl => ?_)
        refine lv_goto (tgt := 352) hx hb dX6_isGood_394 (by decide) ?_
        exact ih x3 x5 v6 (lf_sb σ3 24 x7.toNatClampNeg r3) _ _ _ hh (lv_sub hl [2, 3, 4, 0] rfl) hw
      · have hw := hw.2 c4
        refine lv_lload hx hb dX6_isGood_382 (lv_at hl 0 rfl) ?_
        refine lv_lneg hx hb dX6_isGood_384 ?_
        refine lv_goto (tgt := 390) hx hb dX6_isGood_385 (by decide) ?_
        obtain ⟨q7, hw⟩ := hw
        refine wa_M_24 F hh q7 dX6_isGood_390 (fun H locs hh => ?_)
        obtain ⟨v8, ev8⟩ : ∃ y : Int32, y = x7 + 1 := ⟨_, rfl⟩
        have hw := hw v8 ev8
        refine lv_iinc (v := v8) (lv' := [(7, .int v8), (8, .long r3), (0, .ref (ha 0)), (3, .int x3), (5, .long x5)]) hx hb dX6_isGood_391 hl (k := 4) rfl (by rw [ev8]; rfl) (by decide) rfl (fun ls hl => ?_)
        refine lv_goto (tgt := 352) hx hb dX6_isGood_394 (by decide) ?_
        exact ih x3 x5 v8 (lf_sb σ3 24 x7.toNatClampNeg (-r3)) _ _ _ hh (lv_sub hl [2, 3, 4, 0] rfl) hw
set_option maxHeartbeats 4000000 in
set_option maxRecDepth 100000 in
theorem w_X6_isGood_266 {p : Program} {l : Launch} {e : Env} {s : State} {m : MethodId} {args : Array Value} {below : List Frame} {meth : Method} {c : Code} {D : va_G} {A : Nat → Prop} {ha : Nat → Nat} {cy : Nat → ClassId} (K_159 : Int32 → Int32 → lf_St → Prop) (Post : Int32 → lf_St → Prop) (F : lf_C p s m args meth c RX6 cX6_isGood 10 (some .boolean) D (tyM_ cy) A) (hK_159 : ∀ (x3 : Int32) (x5 : Int32) (σ : lf_St) (H : Heap) (locs : List Loc) (ls : Array Slot), lf_H D (wM_ ha cy) A s σ H locs → lv_has ls 10 [(0, .ref (ha 0)), (3, .int x3), (5, .int x5)] → K_159 x3 x5 σ → W p l e rm_X6_isGood s m args below meth c H locs 0 0 (lf_Qi below args s D (tyM_ cy) A (wM_ ha cy) Post) (F0 m 159 ls [])) (x3 : Int32) (x5 : Int32) (x6 : Int32) (x7 : Int32) (σ : lf_St) (H : Heap) (locs : List Loc) (ls : Array Slot) (hh : lf_H D (wM_ ha cy) A s σ H locs) (hl : lv_has ls 10 [(0, .ref (ha 0)), (3, .int x3), (5, .int x5), (6, .int x6), (7, .int x7)]) (hw : J_X6_isGood_266 K_159 Post x3 x5 x6 x7 σ) : W p l e rm_X6_isGood s m args below meth c H locs 0 0 (lf_Qi below args s D (tyM_ cy) A (wM_ ha cy) Post) (F0 m 266 ls []) := by
  have hx := F.1.1
  have hb := F.1.2.1
  unfold J_X6_isGood_266 at hw
  refine lv_aload_n hx hb dX6_isGood_266 rfl (lv_at hl 0 rfl) ?_
  refine fg_X6_35 F hh dX6_isGood_267 ?_
  refine lv_iload hx hb dX6_isGood_270 (lv_at hl 4 rfl) ?_
  obtain ⟨q1, hw⟩ := hw
  refine ra_M_13 F hh q1 dX6_isGood_272 ?_
  refine lv_if_lt (tgt := 336) hx hb dX6_isGood_273 (by decide) (fun c2 => ?_) (fun c2 => ?_)
  · have hw := hw.1 c2
    obtain ⟨v3, ev3⟩ : ∃ y : Int32, y = x5 + 1 := ⟨_, rfl⟩
    have hw := hw v3 ev3
    refine lv_iinc (v := v3) (lv' := [(5, .int v3), (0, .ref (ha 0)), (3, .int x3), (6, .int x6), (7, .int x7)]) hx hb dX6_isGood_336 hl (k := 2) rfl (by rw [ev3]; rfl) (by decide) rfl (fun ls hl => ?_)
    refine lv_goto (tgt := 159) hx hb dX6_isGood_339 (by decide) ?_
    exact hK_159 x3 v3 σ _ _ _ hh (lv_sub hl [1, 2, 0] rfl) hw
  · have hw := hw.2 c2
    refine lv_aload_n hx hb dX6_isGood_276 rfl (lv_at hl 0 rfl) ?_
    refine lv_iload hx hb dX6_isGood_277 (lv_at hl 2 rfl) ?_
    refine lv_aload_n hx hb dX6_isGood_279 rfl (lv_at hl 0 rfl) ?_
    refine fg_X6_35 F hh dX6_isGood_280 ?_
    refine lv_iload hx hb dX6_isGood_283 (lv_at hl 4 rfl) ?_
    obtain ⟨q4, hw⟩ := hw
    refine ra_M_13 F hh q4 dX6_isGood_285 ?_
    refine lv_aload_n hx hb dX6_isGood_286 rfl (lv_at hl 0 rfl) ?_
    refine fg_X6_7 F hh dX6_isGood_287 ?_
    refine lv_iload hx hb dX6_isGood_290 (lv_at hl 4 rfl) ?_
    obtain ⟨q5, hw⟩ := hw
    refine ra_M_1 F hh q5 dX6_isGood_292 ?_
    refine lv_aload_n hx hb dX6_isGood_293 rfl (lv_at hl 0 rfl) ?_
    refine fg_X6_7 F hh dX6_isGood_294 ?_
    refine lv_iload hx hb dX6_isGood_297 (lv_at hl 3 rfl) ?_
    obtain ⟨q6, hw⟩ := hw
    refine ra_M_1 F hh q6 dX6_isGood_299 ?_
    refine lv_isub hx hb dX6_isGood_300 ?_
    refine lv_i2l hx hb dX6_isGood_301 rfl ?_
    refine lf_callVv (rest := []) F hh (cw_X6_122 F.1.2.2.2.2 ⟨Nat.le_of_ble_eq_true rfl, Nat.le_of_ble_eq_true rfl⟩) (c_X6_put l D ha cy H.size σ x5 (lf_ai σ 13 x7.toNatClampNeg) ((((lf_ai σ 1 x7.toNatClampNeg) - (lf_ai σ 1 x6.toNatClampNeg)) : Int32).toInt64) _ hw) 0 6 rfl rfl rfl rfl hl.1 (Nat.le_of_ble_eq_true rfl) dX6_isGood_302 rfl (fun σ7 H locs hw hh => ?_)
    refine lv_aload_n hx hb dX6_isGood_305 rfl (lv_at hl 0 rfl) ?_
    refine lv_iload hx hb dX6_isGood_306 (lv_at hl 2 rfl) ?_
    refine lv_aload_n hx hb dX6_isGood_308 rfl (lv_at hl 0 rfl) ?_
    refine fg_X6_35 F hh dX6_isGood_309 ?_
    refine lv_iload hx hb dX6_isGood_312 (lv_at hl 4 rfl) ?_
    obtain ⟨q8, hw⟩ := hw
    refine ra_M_13 F hh q8 dX6_isGood_314 ?_
    refine lv_iconst (v := 1) hx hb dX6_isGood_315 (by decide) ?_
    refine lv_iadd hx hb dX6_isGood_316 ?_
    refine lv_aload_n hx hb dX6_isGood_317 rfl (lv_at hl 0 rfl) ?_
    refine fg_X6_13 F hh dX6_isGood_318 ?_
    refine lv_iload hx hb dX6_isGood_321 (lv_at hl 4 rfl) ?_
    obtain ⟨q9, hw⟩ := hw
    refine ra_M_2 F hh q9 dX6_isGood_323 ?_
    refine lv_aload_n hx hb dX6_isGood_324 rfl (lv_at hl 0 rfl) ?_
    refine fg_X6_13 F hh dX6_isGood_325 ?_
    refine lv_iload hx hb dX6_isGood_328 (lv_at hl 3 rfl) ?_
    obtain ⟨q10, hw⟩ := hw
    refine ra_M_2 F hh q10 dX6_isGood_330 ?_
    refine lv_isub hx hb dX6_isGood_331 ?_
    refine lv_i2l hx hb dX6_isGood_332 rfl ?_
    refine lf_callVv (rest := []) F hh (cw_X6_122 F.1.2.2.2.2 ⟨Nat.le_of_ble_eq_true rfl, Nat.le_of_ble_eq_true rfl⟩) (c_X6_put l D ha cy H.size σ7 x5 ((lf_ai σ7 13 x7.toNatClampNeg) + 1) ((((lf_ai σ7 2 x7.toNatClampNeg) - (lf_ai σ7 2 x6.toNatClampNeg)) : Int32).toInt64) _ hw) 0 6 rfl rfl rfl rfl hl.1 (Nat.le_of_ble_eq_true rfl) dX6_isGood_333 rfl (fun σ11 H locs hw hh => ?_)
    obtain ⟨v12, ev12⟩ : ∃ y : Int32, y = x5 + 1 := ⟨_, rfl⟩
    have hw := hw v12 ev12
    refine lv_iinc (v := v12) (lv' := [(5, .int v12), (0, .ref (ha 0)), (3, .int x3), (6, .int x6), (7, .int x7)]) hx hb dX6_isGood_336 hl (k := 2) rfl (by rw [ev12]; rfl) (by decide) rfl (fun ls hl => ?_)
    refine lv_goto (tgt := 159) hx hb dX6_isGood_339 (by decide) ?_
    exact hK_159 x3 v12 σ11 _ _ _ hh (lv_sub hl [1, 2, 0] rfl) hw
set_option maxHeartbeats 4000000 in
set_option maxRecDepth 100000 in
theorem w_X6_isGood_159 {p : Program} {l : Launch} {e : Env} {s : State} {m : MethodId} {args : Array Value} {below : List Frame} {meth : Method} {c : Code} {D : va_G} {A : Nat → Prop} {ha : Nat → Nat} {cy : Nat → ClassId} (Post : Int32 → lf_St → Prop) (F : lf_C p s m args meth c RX6 cX6_isGood 10 (some .boolean) D (tyM_ cy) A) : ∀ (n : Nat) (x3 : Int32) (x5 : Int32) (σ : lf_St) (H : Heap) (locs : List Loc) (ls : Array Slot), lf_H D (wM_ ha cy) A s σ H locs → lv_has ls 10 [(0, .ref (ha 0)), (3, .int x3), (5, .int x5)] → L_X6_isGood_159 Post n x3 x5 σ → W p l e rm_X6_isGood s m args below meth c H locs 0 0 (lf_Qi below args s D (tyM_ cy) A (wM_ ha cy) Post) (F0 m 159 ls []) := by
  have hx := F.1.1
  have hb := F.1.2.1
  intro n
  induction n with
  | zero =>
    intro x3 x5 σ H locs ls hh hl hw
    exact False.elim hw
  | succ n ih =>
    intro x3 x5 σ H locs ls hh hl hw
    unfold L_X6_isGood_159 at hw
    refine lv_iload hx hb dX6_isGood_159 (lv_at hl 2 rfl) ?_
    refine lv_aload_n hx hb dX6_isGood_161 rfl (lv_at hl 0 rfl) ?_
    refine fg_X6_119 F hh dX6_isGood_162 ?_
    refine lv_icmp_ge (tgt := 342) hx hb dX6_isGood_165 (by decide) (fun c1 => ?_) (fun c1 => ?_)
    · have hw := hw.1 c1
      refine lv_aload_n hx hb dX6_isGood_342 rfl (lv_at hl 0 rfl) ?_
      refine lv_iconst (v := (-1)) hx hb dX6_isGood_343 (by decide) ?_
      refine lf_callVl (rest := []) F hh (cw_X6_132 F.1.2.2.2.2 ⟨Nat.le_of_ble_eq_true rfl, Nat.le_of_ble_eq_true rfl⟩) (c_X6_determinant l D ha cy H.size σ (-1) _ hw) 0 6 rfl rfl rfl rfl hl.1 (Nat.le_of_ble_eq_true rfl) dX6_isGood_344 rfl (fun r2 σ2 H locs hw hh => ?_)
      refine lv_lstore (lv' := [(5, .long r2), (0, .ref (ha 0)), (3, .int x3)]) hx hb dX6_isGood_347 hl (by decide) rfl (fun ls hl => ?_)
      refine lv_iconst (v := 0) hx hb dX6_isGood_349 (by decide) ?_
      refine lv_istore (lv' := [(7, .int 0), (5, .long r2), (0, .ref (ha 0)), (3, .int x3)]) hx hb dX6_isGood_350 hl (by decide) rfl (fun ls hl => ?_)
      obtain ⟨n352, hw⟩ := hw
      exact w_X6_isGood_352 Post F  n352 x3 r2 0 σ2 _ _ _ hh (lv_sub hl [2, 3, 1, 0] rfl) hw
    · have hw := hw.2 c1
      refine lv_aload_n hx hb dX6_isGood_168 rfl (lv_at hl 0 rfl) ?_
      refine fg_X6_26 F hh dX6_isGood_169 ?_
      refine lv_aload_n hx hb dX6_isGood_172 rfl (lv_at hl 0 rfl) ?_
      refine fg_X6_48 F hh dX6_isGood_173 ?_
      refine lv_iload hx hb dX6_isGood_176 (lv_at hl 2 rfl) ?_
      obtain ⟨q3, hw⟩ := hw
      refine ra_M_19 F hh q3 dX6_isGood_178 ?_
      obtain ⟨q4, hw⟩ := hw
      refine ra_M_7 F hh q4 dX6_isGood_179 ?_
      refine lv_topi (fun v5 ev5 => ?_)
      have hw := hw v5 ev5
      refine lv_istore (lv' := [(6, .int v5), (0, .ref (ha 0)), (3, .int x3), (5, .int x5)]) hx hb dX6_isGood_180 hl (by decide) rfl (fun ls hl => ?_)
      refine lv_aload_n hx hb dX6_isGood_182 rfl (lv_at hl 1 rfl) ?_
      refine fg_X6_29 F hh dX6_isGood_183 ?_
      refine lv_aload_n hx hb dX6_isGood_186 rfl (lv_at hl 1 rfl) ?_
      refine fg_X6_48 F hh dX6_isGood_187 ?_
      refine lv_iload hx hb dX6_isGood_190 (lv_at hl 3 rfl) ?_
      obtain ⟨q6, hw⟩ := hw
      refine ra_M_19 F hh q6 dX6_isGood_192 ?_
      obtain ⟨q7, hw⟩ := hw
      refine ra_M_8 F hh q7 dX6_isGood_193 ?_
      refine lv_topi (fun v8 ev8 => ?_)
      have hw := hw v8 ev8
      refine lv_istore (lv' := [(7, .int v8), (6, .int v5), (0, .ref (ha 0)), (3, .int x3), (5, .int x5)]) hx hb dX6_isGood_194 hl (by decide) rfl (fun ls hl => ?_)
      refine lv_aload_n hx hb dX6_isGood_196 rfl (lv_at hl 2 rfl) ?_
      refine fg_X6_35 F hh dX6_isGood_197 ?_
      refine lv_iload hx hb dX6_isGood_200 (lv_at hl 1 rfl) ?_
      obtain ⟨q9, hw⟩ := hw
      refine ra_M_13 F hh q9 dX6_isGood_202 ?_
      refine lv_if_lt (tgt := 266) hx hb dX6_isGood_203 (by decide) (fun c10 => ?_) (fun c10 => ?_)
      · have hw := hw.1 c10
        exact w_X6_isGood_266 _ Post F ih x3 x5 v5 v8 σ _ _ _ hh (lv_sub hl [2, 3, 4, 1, 0] rfl) hw
      · have hw := hw.2 c10
        refine lv_aload_n hx hb dX6_isGood_206 rfl (lv_at hl 2 rfl) ?_
        refine lv_iload hx hb dX6_isGood_207 (lv_at hl 4 rfl) ?_
        refine lv_aload_n hx hb dX6_isGood_209 rfl (lv_at hl 2 rfl) ?_
        refine fg_X6_35 F hh dX6_isGood_210 ?_
        refine lv_iload hx hb dX6_isGood_213 (lv_at hl 1 rfl) ?_
        obtain ⟨q11, hw⟩ := hw
        refine ra_M_13 F hh q11 dX6_isGood_215 ?_
        refine lv_aload_n hx hb dX6_isGood_216 rfl (lv_at hl 2 rfl) ?_
        refine fg_X6_7 F hh dX6_isGood_217 ?_
        refine lv_iload hx hb dX6_isGood_220 (lv_at hl 1 rfl) ?_
        obtain ⟨q12, hw⟩ := hw
        refine ra_M_1 F hh q12 dX6_isGood_222 ?_
        refine lv_aload_n hx hb dX6_isGood_223 rfl (lv_at hl 2 rfl) ?_
        refine fg_X6_7 F hh dX6_isGood_224 ?_
        refine lv_iload hx hb dX6_isGood_227 (lv_at hl 0 rfl) ?_
        obtain ⟨q13, hw⟩ := hw
        refine ra_M_1 F hh q13 dX6_isGood_229 ?_
        refine lv_isub hx hb dX6_isGood_230 ?_
        refine lv_i2l hx hb dX6_isGood_231 rfl ?_
        refine lf_callVv (rest := []) F hh (cw_X6_122 F.1.2.2.2.2 ⟨Nat.le_of_ble_eq_true rfl, Nat.le_of_ble_eq_true rfl⟩) (c_X6_put l D ha cy H.size σ x5 (lf_ai σ 13 v5.toNatClampNeg) ((((lf_ai σ 1 v5.toNatClampNeg) - (lf_ai σ 1 v8.toNatClampNeg)) : Int32).toInt64) _ hw) 0 6 rfl rfl rfl rfl hl.1 (Nat.le_of_ble_eq_true rfl) dX6_isGood_232 rfl (fun σ14 H locs hw hh => ?_)
        refine lv_aload_n hx hb dX6_isGood_235 rfl (lv_at hl 2 rfl) ?_
        refine lv_iload hx hb dX6_isGood_236 (lv_at hl 4 rfl) ?_
        refine lv_aload_n hx hb dX6_isGood_238 rfl (lv_at hl 2 rfl) ?_
        refine fg_X6_35 F hh dX6_isGood_239 ?_
        refine lv_iload hx hb dX6_isGood_242 (lv_at hl 1 rfl) ?_
        obtain ⟨q15, hw⟩ := hw
        refine ra_M_13 F hh q15 dX6_isGood_244 ?_
        refine lv_iconst (v := 1) hx hb dX6_isGood_245 (by decide) ?_
        refine lv_iadd hx hb dX6_isGood_246 ?_
        refine lv_aload_n hx hb dX6_isGood_247 rfl (lv_at hl 2 rfl) ?_
        refine fg_X6_13 F hh dX6_isGood_248 ?_
        refine lv_iload hx hb dX6_isGood_251 (lv_at hl 1 rfl) ?_
        obtain ⟨q16, hw⟩ := hw
        refine ra_M_2 F hh q16 dX6_isGood_253 ?_
        refine lv_aload_n hx hb dX6_isGood_254 rfl (lv_at hl 2 rfl) ?_
        refine fg_X6_13 F hh dX6_isGood_255 ?_
        refine lv_iload hx hb dX6_isGood_258 (lv_at hl 0 rfl) ?_
        obtain ⟨q17, hw⟩ := hw
        refine ra_M_2 F hh q17 dX6_isGood_260 ?_
        refine lv_isub hx hb dX6_isGood_261 ?_
        refine lv_i2l hx hb dX6_isGood_262 rfl ?_
        refine lf_callVv (rest := []) F hh (cw_X6_122 F.1.2.2.2.2 ⟨Nat.le_of_ble_eq_true rfl, Nat.le_of_ble_eq_true rfl⟩) (c_X6_put l D ha cy H.size σ14 x5 ((lf_ai σ14 13 v5.toNatClampNeg) + 1) ((((lf_ai σ14 2 v5.toNatClampNeg) - (lf_ai σ14 2 v8.toNatClampNeg)) : Int32).toInt64) _ hw) 0 6 rfl rfl rfl rfl hl.1 (Nat.le_of_ble_eq_true rfl) dX6_isGood_263 rfl (fun σ18 H locs hw hh => ?_)
        exact w_X6_isGood_266 _ Post F ih x3 x5 v5 v8 σ18 _ _ _ hh (lv_sub hl [2, 3, 4, 1, 0] rfl) hw
set_option maxHeartbeats 4000000 in
set_option maxRecDepth 100000 in
theorem w_X6_isGood_135 {p : Program} {l : Launch} {e : Env} {s : State} {m : MethodId} {args : Array Value} {below : List Frame} {meth : Method} {c : Code} {D : va_G} {A : Nat → Prop} {ha : Nat → Nat} {cy : Nat → ClassId} (Post : Int32 → lf_St → Prop) (F : lf_C p s m args meth c RX6 cX6_isGood 10 (some .boolean) D (tyM_ cy) A) : ∀ (n : Nat) (x3 : Int32) (x5 : Int32) (σ : lf_St) (H : Heap) (locs : List Loc) (ls : Array Slot), lf_H D (wM_ ha cy) A s σ H locs → lv_has ls 10 [(0, .ref (ha 0)), (3, .int x3), (5, .int x5)] → L_X6_isGood_135 Post n x3 x5 σ → W p l e rm_X6_isGood s m args below meth c H locs 0 0 (lf_Qi below args s D (tyM_ cy) A (wM_ ha cy) Post) (F0 m 135 ls []) := by
  have hx := F.1.1
  have hb := F.1.2.1
  intro n
  induction n with
  | zero =>
    intro x3 x5 σ H locs ls hh hl hw
    exact False.elim hw
  | succ n ih =>
    intro x3 x5 σ H locs ls hh hl hw
    unfold L_X6_isGood_135 at hw
    refine lv_iload hx hb dX6_isGood_135 (lv_at hl 2 rfl) ?_
    refine lv_bipush (v := 36) hx hb dX6_isGood_137 (by decide) ?_
    refine lv_icmp_ge (tgt := 156) hx hb dX6_isGood_139 (by decide) (fun c1 => ?_) (fun c1 => ?_)
    · have hw := hw.1 c1
      refine lv_iconst (v := 0) hx hb dX6_isGood_156 (by decide) ?_
      refine lv_istore (lv' := [(5, .int 0), (0, .ref (ha 0)), (3, .int x3)]) hx hb dX6_isGood_157 hl (by decide) rfl (fun ls hl => ?_)
      obtain ⟨n159, hw⟩ := hw
      exact w_X6_isGood_159 Post F  n159 x3 0 σ _ _ _ hh (lv_sub hl [1, 2, 0] rfl) hw
    · have hw := hw.2 c1
      refine lv_aload_n hx hb dX6_isGood_142 rfl (lv_at hl 0 rfl) ?_
      refine fg_X6_38 F hh dX6_isGood_143 ?_
      refine lv_iload hx hb dX6_isGood_146 (lv_at hl 2 rfl) ?_
      refine lv_lconst (v := 0) hx hb dX6_isGood_148 (by decide) ?_
      obtain ⟨q2, hw⟩ := hw
      refine wa_M_15 F hh q2 dX6_isGood_149 (fun H locs hh => ?_)
      obtain ⟨v3, ev3⟩ : ∃ y : Int32, y = x5 + 1 := ⟨_, rfl⟩
      have hw := hw v3 ev3
      refine lv_iinc (v := v3) (lv' := [(5, .int v3), (0, .ref (ha 0)), (3, .int x3)]) hx hb dX6_isGood_150 hl (k := 2) rfl (by rw [ev3]; rfl) (by decide) rfl (fun ls hl => ?_)
      refine lv_goto (tgt := 135) hx hb dX6_isGood_153 (by decide) ?_
      exact ih x3 v3 (lf_sb σ 15 x5.toNatClampNeg 0) _ _ _ hh (lv_sub hl [1, 2, 0] rfl) hw
set_option maxHeartbeats 4000000 in
set_option maxRecDepth 100000 in
theorem w_X6_isGood_103 {p : Program} {l : Launch} {e : Env} {s : State} {m : MethodId} {args : Array Value} {below : List Frame} {meth : Method} {c : Code} {D : va_G} {A : Nat → Prop} {ha : Nat → Nat} {cy : Nat → ClassId} (K_12 : Int32 → Int32 → Int32 → Int32 → lf_St → Prop) (Post : Int32 → lf_St → Prop) (F : lf_C p s m args meth c RX6 cX6_isGood 10 (some .boolean) D (tyM_ cy) A) (hK_12 : ∀ (x2 : Int32) (x3 : Int32) (x4 : Int32) (x5 : Int32) (σ : lf_St) (H : Heap) (locs : List Loc) (ls : Array Slot), lf_H D (wM_ ha cy) A s σ H locs → lv_has ls 10 [(0, .ref (ha 0)), (2, .int x2), (3, .int x3), (4, .int x4), (5, .int x5)] → K_12 x2 x3 x4 x5 σ → W p l e rm_X6_isGood s m args below meth c H locs 0 0 (lf_Qi below args s D (tyM_ cy) A (wM_ ha cy) Post) (F0 m 12 ls [])) (x2 : Int32) (x3 : Int32) (x5 : Int32) (x6 : Int64) (x8 : Int32) (t0 : Int32) (t1 : Int32) (σ : lf_St) (H : Heap) (locs : List Loc) (ls : Array Slot) (hh : lf_H D (wM_ ha cy) A s σ H locs) (hl : lv_has ls 10 [(0, .ref (ha 0)), (2, .int x2), (3, .int x3), (5, .int x5), (6, .long x6), (8, .int x8)]) (hw : J_X6_isGood_103 K_12 Post x2 x3 x5 x6 x8 t0 t1 σ) : W p l e rm_X6_isGood s m args below meth c H locs 0 0 (lf_Qi below args s D (tyM_ cy) A (wM_ ha cy) Post) (F0 m 103 ls [.int t0, .int t1]) := by
  have hx := F.1.1
  have hb := F.1.2.1
  unfold J_X6_isGood_103 at hw
  refine lv_iadd hx hb dX6_isGood_103 ?_
  refine lv_topi (fun v1 ev1 => ?_)
  have hw := hw v1 ev1
  refine lv_istore (lv' := [(4, .int v1), (0, .ref (ha 0)), (2, .int x2), (3, .int x3), (5, .int x5), (6, .long x6), (8, .int x8)]) hx hb dX6_isGood_104 hl (by decide) rfl (fun ls hl => ?_)
  refine lv_aload_n hx hb dX6_isGood_106 rfl (lv_at hl 1 rfl) ?_
  refine fg_X6_45 F hh dX6_isGood_107 ?_
  refine lv_iload hx hb dX6_isGood_110 (lv_at hl 4 rfl) ?_
  refine lv_iload hx hb dX6_isGood_112 (lv_at hl 6 rfl) ?_
  refine lv_if_eq (tgt := 123) hx hb dX6_isGood_114 (by decide) (fun c2 => ?_) (fun c2 => ?_)
  · have hw := hw.1 c2
    refine lv_lload hx hb dX6_isGood_123 (lv_at hl 5 rfl) ?_
    obtain ⟨q3, hw⟩ := hw
    refine wa_M_17 F hh q3 dX6_isGood_125 (fun H locs hh => ?_)
    obtain ⟨v4, ev4⟩ : ∃ y : Int32, y = x5 + 1 := ⟨_, rfl⟩
    have hw := hw v4 ev4
    refine lv_iinc (v := v4) (lv' := [(5, .int v4), (4, .int v1), (0, .ref (ha 0)), (2, .int x2), (3, .int x3), (6, .long x6), (8, .int x8)]) hx hb dX6_isGood_126 hl (k := 4) rfl (by rw [ev4]; rfl) (by decide) rfl (fun ls hl => ?_)
    refine lv_goto (tgt := 12) hx hb dX6_isGood_129 (by decide) ?_
    exact hK_12 x2 x3 v1 v4 (lf_sb σ 17 x5.toNatClampNeg x6) _ _ _ hh (lv_sub hl [2, 3, 4, 1, 0] rfl) hw
  · have hw := hw.2 c2
    refine lv_lload hx hb dX6_isGood_117 (lv_at hl 5 rfl) ?_
    refine lv_lneg hx hb dX6_isGood_119 ?_
    refine lv_goto (tgt := 125) hx hb dX6_isGood_120 (by decide) ?_
    obtain ⟨q5, hw⟩ := hw
    refine wa_M_17 F hh q5 dX6_isGood_125 (fun H locs hh => ?_)
    obtain ⟨v6, ev6⟩ : ∃ y : Int32, y = x5 + 1 := ⟨_, rfl⟩
    have hw := hw v6 ev6
    refine lv_iinc (v := v6) (lv' := [(5, .int v6), (4, .int v1), (0, .ref (ha 0)), (2, .int x2), (3, .int x3), (6, .long x6), (8, .int x8)]) hx hb dX6_isGood_126 hl (k := 4) rfl (by rw [ev6]; rfl) (by decide) rfl (fun ls hl => ?_)
    refine lv_goto (tgt := 12) hx hb dX6_isGood_129 (by decide) ?_
    exact hK_12 x2 x3 v1 v6 (lf_sb σ 17 x5.toNatClampNeg (-x6)) _ _ _ hh (lv_sub hl [2, 3, 4, 1, 0] rfl) hw
set_option maxHeartbeats 4000000 in
set_option maxRecDepth 100000 in
theorem w_X6_isGood_82 {p : Program} {l : Launch} {e : Env} {s : State} {m : MethodId} {args : Array Value} {below : List Frame} {meth : Method} {c : Code} {D : va_G} {A : Nat → Prop} {ha : Nat → Nat} {cy : Nat → ClassId} (K_12 : Int32 → Int32 → Int32 → Int32 → lf_St → Prop) (Post : Int32 → lf_St → Prop) (F : lf_C p s m args meth c RX6 cX6_isGood 10 (some .boolean) D (tyM_ cy) A) (hK_12 : ∀ (x2 : Int32) (x3 : Int32) (x4 : Int32) (x5 : Int32) (σ : lf_St) (H : Heap) (locs : List Loc) (ls : Array Slot), lf_H D (wM_ ha cy) A s σ H locs → lv_has ls 10 [(0, .ref (ha 0)), (2, .int x2), (3, .int x3), (4, .int x4), (5, .int x5)] → K_12 x2 x3 x4 x5 σ → W p l e rm_X6_isGood s m args below meth c H locs 0 0 (lf_Qi below args s D (tyM_ cy) A (wM_ ha cy) Post) (F0 m 12 ls [])) (x2 : Int32) (x3 : Int32) (x4 : Int32) (x5 : Int32) (x6 : Int64) (t0 : Int32) (σ : lf_St) (H : Heap) (locs : List Loc) (ls : Array Slot) (hh : lf_H D (wM_ ha cy) A s σ H locs) (hl : lv_has ls 10 [(0, .ref (ha 0)), (2, .int x2), (3, .int x3), (4, .int x4), (5, .int x5), (6, .long x6)]) (hw : J_X6_isGood_82 K_12 Post x2 x3 x4 x5 x6 t0 σ) : W p l e rm_X6_isGood s m args below meth c H locs 0 0 (lf_Qi below args s D (tyM_ cy) A (wM_ ha cy) Post) (F0 m 82 ls [.int t0]) := by
  have hx := F.1.1
  have hb := F.1.2.1
  unfold J_X6_isGood_82 at hw
  refine lv_istore (lv' := [(8, .int t0), (0, .ref (ha 0)), (2, .int x2), (3, .int x3), (4, .int x4), (5, .int x5), (6, .long x6)]) hx hb dX6_isGood_82 hl (by decide) rfl (fun ls hl => ?_)
  refine lv_iload hx hb dX6_isGood_84 (lv_at hl 4 rfl) ?_
  refine lv_aload_n hx hb dX6_isGood_86 rfl (lv_at hl 1 rfl) ?_
  refine fg_X6_51 F hh dX6_isGood_87 ?_
  refine lv_iload hx hb dX6_isGood_90 (lv_at hl 5 rfl) ?_
  obtain ⟨q1, hw⟩ := hw
  refine ra_M_21 F hh q1 dX6_isGood_92 ?_
  refine lv_lconst (v := 0) hx hb dX6_isGood_93 (by decide) ?_
  refine lf_lcmp_ne (tgt := 102) hx hb dX6_isGood_94 dX6_isGood_95 (by decide) (fun c2 => ?_) (fun c2 => ?_)
  · have hw := hw.1 c2
    refine lv_iconst (v := 0) hx hb dX6_isGood_102 (by decide) ?_
    exact w_X6_isGood_103 _ Post F hK_12 x2 x3 x5 x6 t0 0 x4 σ _ _ _ hh (lv_sub hl [1, 2, 3, 5, 6, 0] rfl) hw
  · have hw := hw.2 c2
    refine lv_iconst (v := 1) hx hb dX6_isGood_98 (by decide) ?_
    refine lv_goto (tgt := 103) hx hb dX6_isGood_99 (by decide) ?_
    exact w_X6_isGood_103 _ Post F hK_12 x2 x3 x5 x6 t0 1 x4 σ _ _ _ hh (lv_sub hl [1, 2, 3, 5, 6, 0] rfl) hw
set_option maxHeartbeats 4000000 in
set_option maxRecDepth 100000 in
theorem w_X6_isGood_12 {p : Program} {l : Launch} {e : Env} {s : State} {m : MethodId} {args : Array Value} {below : List Frame} {meth : Method} {c : Code} {D : va_G} {A : Nat → Prop} {ha : Nat → Nat} {cy : Nat → ClassId} (Post : Int32 → lf_St → Prop) (F : lf_C p s m args meth c RX6 cX6_isGood 10 (some .boolean) D (tyM_ cy) A) : ∀ (n : Nat) (x2 : Int32) (x3 : Int32) (x4 : Int32) (x5 : Int32) (σ : lf_St) (H : Heap) (locs : List Loc) (ls : Array Slot), lf_H D (wM_ ha cy) A s σ H locs → lv_has ls 10 [(0, .ref (ha 0)), (2, .int x2), (3, .int x3), (4, .int x4), (5, .int x5)] → L_X6_isGood_12 Post n x2 x3 x4 x5 σ → W p l e rm_X6_isGood s m args below meth c H locs 0 0 (lf_Qi below args s D (tyM_ cy) A (wM_ ha cy) Post) (F0 m 12 ls []) := by
  have hx := F.1.1
  have hb := F.1.2.1
  intro n
  induction n with
  | zero =>
    intro x2 x3 x4 x5 σ H locs ls hh hl hw
    exact False.elim hw
  | succ n ih =>
    intro x2 x3 x4 x5 σ H locs ls hh hl hw
    unfold L_X6_isGood_12 at hw
    refine lv_iload hx hb dX6_isGood_12 (lv_at hl 4 rfl) ?_
    refine lv_aload_n hx hb dX6_isGood_14 rfl (lv_at hl 0 rfl) ?_
    refine fg_X6_119 F hh dX6_isGood_15 ?_
    refine lv_icmp_ge (tgt := 132) hx hb dX6_isGood_18 (by decide) (fun c1 => ?_) (fun c1 => ?_)
    · have hw := hw.1 c1
      refine lv_iconst (v := 0) hx hb dX6_isGood_132 (by decide) ?_
      refine lv_istore (lv' := [(5, .int 0), (0, .ref (ha 0)), (2, .int x2), (3, .int x3), (4, .int x4)]) hx hb dX6_isGood_133 hl (by decide) rfl (fun ls hl => ?_)
      obtain ⟨n135, hw⟩ := hw
      exact w_X6_isGood_135 Post F  n135 x3 0 σ _ _ _ hh (lv_sub hl [1, 3, 0] rfl) hw
    · have hw := hw.2 c1
      refine lv_aload_n hx hb dX6_isGood_21 rfl (lv_at hl 0 rfl) ?_
      refine lv_aload_n hx hb dX6_isGood_22 rfl (lv_at hl 0 rfl) ?_
      refine fg_X6_48 F hh dX6_isGood_23 ?_
      refine lv_iload hx hb dX6_isGood_26 (lv_at hl 4 rfl) ?_
      obtain ⟨q2, hw⟩ := hw
      refine ra_M_19 F hh q2 dX6_isGood_28 ?_
      refine lf_callVi (rest := []) F hh (cw_X6_93 F.1.2.2.2.2 ⟨Nat.le_of_ble_eq_true rfl, Nat.le_of_ble_eq_true rfl⟩) (c_X6_stuff l D ha cy H.size σ (lf_ai σ 19 x5.toNatClampNeg) _ hw) 0 6 rfl rfl rfl rfl hl.1 (Nat.le_of_ble_eq_true rfl) dX6_isGood_29 rfl (fun r3 σ3 H locs hw hh => ?_)
      refine lv_i2l hx hb dX6_isGood_32 rfl ?_
      refine lv_topl (fun v4 ev4 => ?_)
      have hw := hw v4 ev4
      refine lv_lstore (lv' := [(6, .long v4), (0, .ref (ha 0)), (2, .int x2), (3, .int x3), (4, .int x4), (5, .int x5)]) hx hb dX6_isGood_33 hl (by decide) rfl (fun ls hl => ?_)
      refine lv_aload_n hx hb dX6_isGood_35 rfl (lv_at hl 1 rfl) ?_
      refine fg_X6_51 F hh dX6_isGood_36 ?_
      refine lv_iload hx hb dX6_isGood_39 (lv_at hl 5 rfl) ?_
      obtain ⟨q5, hw⟩ := hw
      refine ra_M_21 F hh q5 dX6_isGood_41 ?_
      refine lv_lconst (v := 0) hx hb dX6_isGood_42 (by decide) ?_
      refine lf_lcmp_ne (tgt := 65) hx hb dX6_isGood_43 dX6_isGood_44 (by decide) (fun c6 => ?_) (fun c6 => ?_)
      · have hw := hw.1 c6
        refine lv_aload_n hx hb dX6_isGood_65 rfl (lv_at hl 1 rfl) ?_
        refine fg_X6_51 F hh dX6_isGood_66 ?_
        refine lv_iload hx hb dX6_isGood_69 (lv_at hl 5 rfl) ?_
        obtain ⟨q7, hw⟩ := hw
        refine ra_M_21 F hh q7 dX6_isGood_71 ?_
        refine lv_lconst (v := 0) hx hb dX6_isGood_72 (by decide) ?_
        refine lf_lcmp_ge (tgt := 81) hx hb dX6_isGood_73 dX6_isGood_74 (by decide) (fun c8 => ?_) (fun c8 => ?_)
        · have hw := hw.1 c8
          refine lv_iconst (v := 0) hx hb dX6_isGood_81 (by decide) ?_
          exact w_X6_isGood_82 _ Post F ih x2 x3 x4 x5 v4 0 σ3 _ _ _ hh (lv_sub hl [1, 2, 3, 4, 5, 0] rfl) hw
        · have hw := hw.2 c8
          refine lv_iconst (v := 1) hx hb dX6_isGood_77 (by decide) ?_
          refine lv_goto (tgt := 82) hx hb dX6_isGood_78 (by decide) ?_
          exact w_X6_isGood_82 _ Post F ih x2 x3 x4 x5 v4 1 σ3 _ _ _ hh (lv_sub hl [1, 2, 3, 4, 5, 0] rfl) hw
      · have hw := hw.2 c6
        refine lv_iload_n hx hb dX6_isGood_47 rfl (lv_at hl 2 rfl) ?_
        refine lv_iload hx hb dX6_isGood_48 (lv_at hl 4 rfl) ?_
        refine lv_ishr hx hb dX6_isGood_50 ?_
        refine lv_iconst (v := 1) hx hb dX6_isGood_51 (by decide) ?_
        refine lv_iand hx hb dX6_isGood_52 ?_
        refine lv_iconst (v := 1) hx hb dX6_isGood_53 (by decide) ?_
        refine lv_icmp_ne (tgt := 61) hx hb dX6_isGood_54 (by decide) (fun c9 => ?_) (fun c9 => ?_)
        · have hw := hw.1 c9
          refine lv_iconst (v := 0) hx hb dX6_isGood_61 (by decide) ?_
          refine lv_goto (tgt := 82) hx hb dX6_isGood_62 (by decide) ?_
          exact w_X6_isGood_82 _ Post F ih x2 x3 x4 x5 v4 0 σ3 _ _ _ hh (lv_sub hl [1, 2, 3, 4, 5, 0] rfl) hw
        · have hw := hw.2 c9
          refine lv_iconst (v := 1) hx hb dX6_isGood_57 (by decide) ?_
          refine lv_goto (tgt := 82) hx hb dX6_isGood_58 (by decide) ?_
          exact w_X6_isGood_82 _ Post F ih x2 x3 x4 x5 v4 1 σ3 _ _ _ hh (lv_sub hl [1, 2, 3, 4, 5, 0] rfl) hw
set_option maxHeartbeats 4000000 in
set_option maxRecDepth 100000 in
theorem c_X6_isGood (l : Launch) (D : va_G) (ha : Nat → Nat) (cy : Nat → ClassId) (sz : Nat) (σ : lf_St) (x1 : Int32) (x2 : Int32) (Post : Int32 → lf_St → Prop) (hw : wp_X6_isGood x1 x2 σ Post) : lf_Mi l yX6_isGood (lf_ws yX6_isGood cX6_isGood 10 (some .boolean)) rm_X6_isGood D (tyM_ cy) (wM_ ha cy) sz σ [.ref (ha 0), .int x1, .int x2] Post := by
  refine lf_ofi (by decide +kernel) (Nat.le_of_ble_eq_true rfl) ?_
  intro p e s m args below meth c A ls F hh hl
  have hx := F.1.1
  have hb := F.1.2.1
  have hl : lv_has ls 10 [(0, .ref (ha 0)), (1, .int x1), (2, .int x2)] := hl
  obtain ⟨H, hHe⟩ : ∃ H, H = s.heap := ⟨_, rfl⟩
  rw [← hHe] at hh ⊢
  unfold wp_X6_isGood at hw
  refine lv_aload_n hx hb dX6_isGood_0 rfl (lv_at hl 0 rfl) ?_
  refine lv_iload_n hx hb dX6_isGood_1 rfl (lv_at hl 1 rfl) ?_
  refine lf_callVi (rest := []) F hh (cw_X6_153 F.1.2.2.2.2 ⟨Nat.le_of_ble_eq_true rfl, Nat.le_of_ble_eq_true rfl⟩) (c_X6_isChoice l D ha cy H.size σ x1 _ hw) 0 6 rfl rfl rfl rfl hl.1 (Nat.le_of_ble_eq_true rfl) dX6_isGood_2 rfl (fun r1 σ1 H locs hw hh => ?_)
  refine lv_istore_n (lv' := [(3, .int r1), (0, .ref (ha 0)), (1, .int x1), (2, .int x2)]) hx hb dX6_isGood_5 rfl hl (by decide) rfl (fun ls hl => ?_)
  refine lv_iconst (v := 0) hx hb dX6_isGood_6 (by decide) ?_
  refine lv_istore (lv' := [(4, .int 0), (3, .int r1), (0, .ref (ha 0)), (1, .int x1), (2, .int x2)]) hx hb dX6_isGood_7 hl (by decide) rfl (fun ls hl => ?_)
  refine lv_iconst (v := 0) hx hb dX6_isGood_9 (by decide) ?_
  refine lv_istore (lv' := [(5, .int 0), (4, .int 0), (3, .int r1), (0, .ref (ha 0)), (1, .int x1), (2, .int x2)]) hx hb dX6_isGood_10 hl (by decide) rfl (fun ls hl => ?_)
  obtain ⟨n12, hw⟩ := hw
  exact w_X6_isGood_12 Post F  n12 x2 r1 0 0 σ1 _ _ _ hh (lv_sub hl [3, 5, 2, 1, 0] rfl) hw
def L_X6_unused_4 (Post : Int32 → lf_St → Prop) : Nat → Int32 → Int32 → lf_St → Prop
  | 0, _, _, _ => False
  | n + 1, x1, x2, σ => (((lf_gi σ 14) ≤ x2) → (Post x1 σ)) ∧ ((¬ ((lf_gi σ 14) ≤ x2)) → (vp_in x2 6 ∧ (((¬ (lf_al σ 21 x2.toNatClampNeg) = 0) → (∀ v4 : Int32, v4 = (x1 + 0) → (∀ v5 : Int32, v5 = x2 + 1 → (L_X6_unused_4 Post n v4 v5 σ)))) ∧ (((lf_al σ 21 x2.toNatClampNeg) = 0) → (∀ v6 : Int32, v6 = (x1 + 1) → (∀ v7 : Int32, v7 = x2 + 1 → (L_X6_unused_4 Post n v6 v7 σ)))))))
def wp_X6_unused (σ : lf_St) (Post : Int32 → lf_St → Prop) : Prop := ∃ fu : Nat, L_X6_unused_4 Post fu 0 0 σ
def rm_X6_unused : Room := ({ frames := 0, cells := 0, slots := 0, locals := 0 } : Room)
set_option maxHeartbeats 4000000 in
set_option maxRecDepth 100000 in
theorem w_X6_unused_4 {p : Program} {l : Launch} {e : Env} {s : State} {m : MethodId} {args : Array Value} {below : List Frame} {meth : Method} {c : Code} {D : va_G} {A : Nat → Prop} {ha : Nat → Nat} {cy : Nat → ClassId} (Post : Int32 → lf_St → Prop) (F : lf_C p s m args meth c RX6 cX6_unused 3 (some .int) D (tyM_ cy) A) : ∀ (n : Nat) (x1 : Int32) (x2 : Int32) (σ : lf_St) (H : Heap) (locs : List Loc) (ls : Array Slot), lf_H D (wM_ ha cy) A s σ H locs → lv_has ls 3 [(0, .ref (ha 0)), (1, .int x1), (2, .int x2)] → L_X6_unused_4 Post n x1 x2 σ → W p l e rm_X6_unused s m args below meth c H locs 0 0 (lf_Qi below args s D (tyM_ cy) A (wM_ ha cy) Post) (F0 m 4 ls []) := by
  have hx := F.1.1
  have hb := F.1.2.1
  intro n
  induction n with
  | zero =>
    intro x1 x2 σ H locs ls hh hl hw
    exact False.elim hw
  | succ n ih =>
    intro x1 x2 σ H locs ls hh hl hw
    unfold L_X6_unused_4 at hw
    refine lv_iload_n hx hb dX6_unused_4 rfl (lv_at hl 2 rfl) ?_
    refine lv_aload_n hx hb dX6_unused_5 rfl (lv_at hl 0 rfl) ?_
    refine fg_X6_119 F hh dX6_unused_6 ?_
    refine lv_icmp_ge (tgt := 37) hx hb dX6_unused_9 (by decide) (fun c1 => ?_) (fun c1 => ?_)
    · have hw := hw.1 c1
      refine lv_iload_n hx hb dX6_unused_37 rfl (lv_at hl 1 rfl) ?_
      exact lf_reti F hh hw dX6_unused_38
    · have hw := hw.2 c1
      refine lv_iload_n hx hb dX6_unused_12 rfl (lv_at hl 1 rfl) ?_
      refine lv_aload_n hx hb dX6_unused_13 rfl (lv_at hl 0 rfl) ?_
      refine fg_X6_51 F hh dX6_unused_14 ?_
      refine lv_iload_n hx hb dX6_unused_17 rfl (lv_at hl 2 rfl) ?_
      obtain ⟨q2, hw⟩ := hw
      refine ra_M_21 F hh q2 dX6_unused_18 ?_
      refine lv_lconst (v := 0) hx hb dX6_unused_19 (by decide) ?_
      refine lf_lcmp_ne (tgt := 28) hx hb dX6_unused_20 dX6_unused_21 (by decide) (fun c3 => ?_) (fun c3 => ?_)
      · have hw := hw.1 c3
        refine lv_iconst (v := 0) hx hb dX6_unused_28 (by decide) ?_
        refine lv_iadd hx hb dX6_unused_29 ?_
        refine lv_topi (fun v4 ev4 => ?_)
        have hw := hw v4 ev4
        refine lv_istore_n (lv' := [(1, .int v4), (0, .ref (ha 0)), (2, .int x2)]) hx hb dX6_unused_30 rfl hl (by decide) rfl (fun ls hl => ?_)
        obtain ⟨v5, ev5⟩ : ∃ y : Int32, y = x2 + 1 := ⟨_, rfl⟩
        have hw := hw v5 ev5
        refine lv_iinc (v := v5) (lv' := [(2, .int v5), (1, .int v4), (0, .ref (ha 0))]) hx hb dX6_unused_31 hl (k := 2) rfl (by rw [ev5]; rfl) (by decide) rfl (fun ls hl => ?_)
        refine lv_goto (tgt := 4) hx hb dX6_unused_34 (by decide) ?_
        exact ih v4 v5 σ _ _ _ hh (lv_sub hl [2, 1, 0] rfl) hw
      · have hw := hw.2 c3
        refine lv_iconst (v := 1) hx hb dX6_unused_24 (by decide) ?_
        refine lv_goto (tgt := 29) hx hb dX6_unused_25 (by decide) ?_
        refine lv_iadd hx hb dX6_unused_29 ?_
        refine lv_topi (fun v6 ev6 => ?_)
        have hw := hw v6 ev6
        refine lv_istore_n (lv' := [(1, .int v6), (0, .ref (ha 0)), (2, .int x2)]) hx hb dX6_unused_30 rfl hl (by decide) rfl (fun ls hl => ?_)
        obtain ⟨v7, ev7⟩ : ∃ y : Int32, y = x2 + 1 := ⟨_, rfl⟩
        have hw := hw v7 ev7
        refine lv_iinc (v := v7) (lv' := [(2, .int v7), (1, .int v6), (0, .ref (ha 0))]) hx hb dX6_unused_31 hl (k := 2) rfl (by rw [ev7]; rfl) (by decide) rfl (fun ls hl => ?_)
        refine lv_goto (tgt := 4) hx hb dX6_unused_34 (by decide) ?_
        exact ih v6 v7 σ _ _ _ hh (lv_sub hl [2, 1, 0] rfl) hw
set_option maxHeartbeats 4000000 in
set_option maxRecDepth 100000 in
theorem c_X6_unused (l : Launch) (D : va_G) (ha : Nat → Nat) (cy : Nat → ClassId) (sz : Nat) (σ : lf_St) (Post : Int32 → lf_St → Prop) (hw : wp_X6_unused σ Post) : lf_Mi l yX6_unused (lf_ws yX6_unused cX6_unused 3 (some .int)) rm_X6_unused D (tyM_ cy) (wM_ ha cy) sz σ [.ref (ha 0)] Post := by
  refine lf_ofi (by decide +kernel) (Nat.le_of_ble_eq_true rfl) ?_
  intro p e s m args below meth c A ls F hh hl
  have hx := F.1.1
  have hb := F.1.2.1
  have hl : lv_has ls 3 [(0, .ref (ha 0))] := hl
  obtain ⟨H, hHe⟩ : ∃ H, H = s.heap := ⟨_, rfl⟩
  rw [← hHe] at hh ⊢
  unfold wp_X6_unused at hw
  refine lv_iconst (v := 0) hx hb dX6_unused_0 (by decide) ?_
  refine lv_istore_n (lv' := [(1, .int 0), (0, .ref (ha 0))]) hx hb dX6_unused_1 rfl hl (by decide) rfl (fun ls hl => ?_)
  refine lv_iconst (v := 0) hx hb dX6_unused_2 (by decide) ?_
  refine lv_istore_n (lv' := [(2, .int 0), (1, .int 0), (0, .ref (ha 0))]) hx hb dX6_unused_3 rfl hl (by decide) rfl (fun ls hl => ?_)
  obtain ⟨n4, hw⟩ := hw
  exact w_X6_unused_4 Post F  n4 0 0 σ _ _ _ hh (lv_sub hl [2, 1, 0] rfl) hw
theorem cw_X6_207 {R : Room} {s : State} {args : Array Value} (ht : ∀ w ∈ wsL_law, w.before args s = true) (hR : rm_X6_after.frames + 1 ≤ R.frames ∧ 8 + (5 + 11) + rm_X6_after.locals ≤ R.locals) : lf_cV R s args RX6 RX6 207 yX6_after cX6_after 5 (some .int) rm_X6_after 1 :=
  lf_cV_of 1 ht (lr_29 _ (List.mem_of_getElem? (i := 19) rfl)) (lr_29 _ (List.mem_of_getElem? (i := 16) rfl)) (lr_29 _ (List.mem_of_getElem? (i := 17) rfl)) (lr_29 _ (List.mem_of_getElem? (i := 18) rfl)) (lr_1 _ (List.mem_of_getElem? (i := 5) rfl)) rfl rfl (by decide +kernel) hR
theorem cw_X6_210 {R : Room} {s : State} {args : Array Value} (ht : ∀ w ∈ wsL_law, w.before args s = true) (hR : rm_X6_unused.frames + 1 ≤ R.frames ∧ 8 + (3 + 11) + rm_X6_unused.locals ≤ R.locals) : lf_cV R s args RX6 RX6 210 yX6_unused cX6_unused 3 (some .int) rm_X6_unused 0 :=
  lf_cV_of 0 ht (lr_29 _ (List.mem_of_getElem? (i := 23) rfl)) (lr_29 _ (List.mem_of_getElem? (i := 20) rfl)) (lr_29 _ (List.mem_of_getElem? (i := 21) rfl)) (lr_29 _ (List.mem_of_getElem? (i := 22) rfl)) (lr_1 _ (List.mem_of_getElem? (i := 5) rfl)) rfl rfl (by decide +kernel) hR
theorem cw_X6_213 {R : Room} {s : State} {args : Array Value} (ht : ∀ w ∈ wsL_law, w.before args s = true) (hR : rm_X6_isGood.frames + 1 ≤ R.frames ∧ 8 + (10 + 11) + rm_X6_isGood.locals ≤ R.locals) : lf_cV R s args RX6 RX6 213 yX6_isGood cX6_isGood 10 (some .boolean) rm_X6_isGood 2 :=
  lf_cV_of 2 ht (lr_30 _ (List.mem_of_getElem? (i := 3) rfl)) (lr_30 _ (List.mem_of_getElem? (i := 0) rfl)) (lr_30 _ (List.mem_of_getElem? (i := 1) rfl)) (lr_30 _ (List.mem_of_getElem? (i := 2) rfl)) (lr_1 _ (List.mem_of_getElem? (i := 5) rfl)) rfl rfl (by decide +kernel) hR
def L_X6_prove_66 (K_22 : Int32 → lf_St → Prop) (Post : Int32 → lf_St → Prop) : Nat → Int32 → Int32 → Int32 → lf_St → Prop
  | 0, _, _, _, _ => False
  | n + 1, x1, x2, x3, σ => ((x2 ≤ x3) → (wp_X6_after x1 σ (fun r2 σ2 => K_22 r2 σ2))) ∧ ((¬ (x2 ≤ x3)) → (wp_X6_isGood x1 x3 σ (fun r3 σ3 => ((r3 = 0) → (∀ v5 : Int32, v5 = x3 + 1 → (L_X6_prove_66 K_22 Post n x1 x2 v5 σ3))) ∧ ((¬ (r3 = 0)) → (Post x1 (lf_si σ3 12 1))))))
def L_X6_prove_22 (Post : Int32 → lf_St → Prop) : Nat → Int32 → lf_St → Prop
  | 0, _, _ => False
  | n + 1, x1, σ => ((x1 < 0) → (Post (-6) σ)) ∧ ((¬ (x1 < 0)) → (wp_X6_isChoice x1 σ (fun r2 σ2 => ((r2 = 0) → (wp_X6_after x1 σ2 (fun r4 σ4 => L_X6_prove_22 Post n r4 σ4))) ∧ ((¬ (r2 = 0)) → (wp_X6_costOf 0 σ2 (fun r5 σ5 => ((¬ (r5 * (lf_gl σ5 23)) = ((lf_gl σ5 22) * (lf_gl σ5 20))) → (wp_X6_after x1 σ5 (fun r7 σ7 => L_X6_prove_22 Post n r7 σ7))) ∧ (((r5 * (lf_gl σ5 23)) = ((lf_gl σ5 22) * (lf_gl σ5 20))) → (wp_X6_unused σ5 (fun r8 σ8 => ∀ v9 : Int32, v9 = (1 <<< (r8 &&& 31)) → (∃ fu : Nat, L_X6_prove_66 (L_X6_prove_22 Post n) Post fu x1 v9 0 σ8))))))))))
def wp_X6_prove (σ : lf_St) (Post : Int32 → lf_St → Prop) : Prop := ∀ σ1 : lf_St, σ1 = (lf_si σ 12 0) → wp_X6_find 0 σ1 (fun r2 σ2 => ((0 ≤ r2) → (wp_X6_after (-1) σ2 (fun r4 σ4 => ∃ fu : Nat, L_X6_prove_22 Post fu r4 σ4))) ∧ ((¬ (0 ≤ r2)) → (Post (-6) σ2)))
def rm_X6_prove : Room := ({ frames := 5, cells := 0, slots := 0, locals := 130 } : Room)
set_option maxHeartbeats 4000000 in
set_option maxRecDepth 100000 in
theorem w_X6_prove_66 {p : Program} {l : Launch} {e : Env} {s : State} {m : MethodId} {args : Array Value} {below : List Frame} {meth : Method} {c : Code} {D : va_G} {A : Nat → Prop} {ha : Nat → Nat} {cy : Nat → ClassId} (K_22 : Int32 → lf_St → Prop) (Post : Int32 → lf_St → Prop) (F : lf_C p s m args meth c RX6 cX6_prove 4 (some .int) D (tyM_ cy) A) (hK_22 : ∀ (x1 : Int32) (σ : lf_St) (H : Heap) (locs : List Loc) (ls : Array Slot), lf_H D (wM_ ha cy) A s σ H locs → lv_has ls 4 [(0, .ref (ha 0)), (1, .int x1)] → K_22 x1 σ → W p l e rm_X6_prove s m args below meth c H locs 0 0 (lf_Qi below args s D (tyM_ cy) A (wM_ ha cy) Post) (F0 m 22 ls [])) : ∀ (n : Nat) (x1 : Int32) (x2 : Int32) (x3 : Int32) (σ : lf_St) (H : Heap) (locs : List Loc) (ls : Array Slot), lf_H D (wM_ ha cy) A s σ H locs → lv_has ls 4 [(0, .ref (ha 0)), (1, .int x1), (2, .int x2), (3, .int x3)] → L_X6_prove_66 K_22 Post n x1 x2 x3 σ → W p l e rm_X6_prove s m args below meth c H locs 0 0 (lf_Qi below args s D (tyM_ cy) A (wM_ ha cy) Post) (F0 m 66 ls []) := by
  have hx := F.1.1
  have hb := F.1.2.1
  intro n
  induction n with
  | zero =>
    intro x1 x2 x3 σ H locs ls hh hl hw
    exact False.elim hw
  | succ n ih =>
    intro x1 x2 x3 σ H locs ls hh hl hw
    unfold L_X6_prove_66 at hw
    refine lv_iload_n hx hb dX6_prove_66 rfl (lv_at hl 3 rfl) ?_
    refine lv_iload_n hx hb dX6_prove_67 rfl (lv_at hl 2 rfl) ?_
    refine lv_icmp_ge (tgt := 93) hx hb dX6_prove_68 (by decide) (fun c1 => ?_) (fun c1 => ?_)
    · have hw := hw.1 c1
      refine lv_aload_n hx hb dX6_prove_93 rfl (lv_at hl 0 rfl) ?_
      refine lv_iload_n hx hb dX6_prove_94 rfl (lv_at hl 1 rfl) ?_
      refine lf_callVi (rest := []) F hh (cw_X6_207 F.1.2.2.2.2 ⟨Nat.le_of_ble_eq_true rfl, Nat.le_of_ble_eq_true rfl⟩) (c_X6_after l D ha cy H.size σ x1 _ hw) 0 6 rfl rfl rfl rfl hl.1 (Nat.le_of_ble_eq_true rfl) dX6_prove_95 rfl (fun r2 σ2 H locs hw hh => ?_)
      refine lv_istore_n (lv' := [(1, .int r2), (0, .ref (ha 0)), (2, .int x2), (3, .int x3)]) hx hb dX6_prove_98 rfl hl (by decide) rfl (fun ls hl => ?_)
      refine lv_goto (tgt := 22) hx hb dX6_prove_99 (by decide) ?_
      exact hK_22 r2 σ2 _ _ _ hh (lv_sub hl [1, 0] rfl) hw
    · have hw := hw.2 c1
      refine lv_aload_n hx hb dX6_prove_71 rfl (lv_at hl 0 rfl) ?_
      refine lv_iload_n hx hb dX6_prove_72 rfl (lv_at hl 1 rfl) ?_
      refine lv_iload_n hx hb dX6_prove_73 rfl (lv_at hl 3 rfl) ?_
      refine lf_callVi (rest := []) F hh (cw_X6_213 F.1.2.2.2.2 ⟨Nat.le_of_ble_eq_true rfl, Nat.le_of_ble_eq_true rfl⟩) (c_X6_isGood l D ha cy H.size σ x1 x3 _ hw) 0 6 rfl rfl rfl rfl hl.1 (Nat.le_of_ble_eq_true rfl) dX6_prove_74 rfl (fun r3 σ3 H locs hw hh => ?_)
      refine lv_if_eq (tgt := 87) hx hb dX6_prove_77 (by decide) (fun c4 => ?_) (fun c4 => ?_)
      · have hw := hw.1 c4
        obtain ⟨v5, ev5⟩ : ∃ y : Int32, y = x3 + 1 := ⟨_, rfl⟩
        have hw := hw v5 ev5
        refine lv_iinc (v := v5) (lv' := [(3, .int v5), (0, .ref (ha 0)), (1, .int x1), (2, .int x2)]) hx hb dX6_prove_87 hl (k := 3) rfl (by rw [ev5]; rfl) (by decide) rfl (fun ls hl => ?_)
        refine lv_goto (tgt := 66) hx hb dX6_prove_90 (by decide) ?_
        exact ih x1 x2 v5 σ3 _ _ _ hh (lv_sub hl [1, 2, 3, 0] rfl) hw
      · have hw := hw.2 c4
        refine lv_aload_n hx hb dX6_prove_80 rfl (lv_at hl 0 rfl) ?_
        refine lv_iconst (v := 1) hx hb dX6_prove_81 (by decide) ?_
        refine fp_X6_78 F hh rfl dX6_prove_82 (fun H locs hh => ?_)
        refine lv_iload_n hx hb dX6_prove_85 rfl (lv_at hl 1 rfl) ?_
        exact lf_reti F hh hw dX6_prove_86
set_option maxHeartbeats 4000000 in
set_option maxRecDepth 100000 in
theorem w_X6_prove_22 {p : Program} {l : Launch} {e : Env} {s : State} {m : MethodId} {args : Array Value} {below : List Frame} {meth : Method} {c : Code} {D : va_G} {A : Nat → Prop} {ha : Nat → Nat} {cy : Nat → ClassId} (Post : Int32 → lf_St → Prop) (F : lf_C p s m args meth c RX6 cX6_prove 4 (some .int) D (tyM_ cy) A) : ∀ (n : Nat) (x1 : Int32) (σ : lf_St) (H : Heap) (locs : List Loc) (ls : Array Slot), lf_H D (wM_ ha cy) A s σ H locs → lv_has ls 4 [(0, .ref (ha 0)), (1, .int x1)] → L_X6_prove_22 Post n x1 σ → W p l e rm_X6_prove s m args below meth c H locs 0 0 (lf_Qi below args s D (tyM_ cy) A (wM_ ha cy) Post) (F0 m 22 ls []) := by
  have hx := F.1.1
  have hb := F.1.2.1
  intro n
  induction n with
  | zero =>
    intro x1 σ H locs ls hh hl hw
    exact False.elim hw
  | succ n ih =>
    intro x1 σ H locs ls hh hl hw
    unfold L_X6_prove_22 at hw
    refine lv_iload_n hx hb dX6_prove_22 rfl (lv_at hl 1 rfl) ?_
    refine lv_if_lt (tgt := 102) hx hb dX6_prove_23 (by decide) (fun c1 => ?_) (fun c1 => ?_)
    · have hw := hw.1 c1
      refine lv_bipush (v := (-6)) hx hb dX6_prove_102 (by decide) ?_
      exact lf_reti F hh hw dX6_prove_104
    · have hw := hw.2 c1
      refine lv_aload_n hx hb dX6_prove_26 rfl (lv_at hl 0 rfl) ?_
      refine lv_iload_n hx hb dX6_prove_27 rfl (lv_at hl 1 rfl) ?_
      refine lf_callVi (rest := []) F hh (cw_X6_153 F.1.2.2.2.2 ⟨Nat.le_of_ble_eq_true rfl, Nat.le_of_ble_eq_true rfl⟩) (c_X6_isChoice l D ha cy H.size σ x1 _ hw) 0 6 rfl rfl rfl rfl hl.1 (Nat.le_of_ble_eq_true rfl) dX6_prove_28 rfl (fun r2 σ2 H locs hw hh => ?_)
      refine lv_if_eq (tgt := 93) hx hb dX6_prove_31 (by decide) (fun c3 => ?_) (fun c3 => ?_)
      · have hw := hw.1 c3
        refine lv_aload_n hx hb dX6_prove_93 rfl (lv_at hl 0 rfl) ?_
        refine lv_iload_n hx hb dX6_prove_94 rfl (lv_at hl 1 rfl) ?_
        refine lf_callVi (rest := []) F hh (cw_X6_207 F.1.2.2.2.2 ⟨Nat.le_of_ble_eq_true rfl, Nat.le_of_ble_eq_true rfl⟩) (c_X6_after l D ha cy H.size σ2 x1 _ hw) 0 6 rfl rfl rfl rfl hl.1 (Nat.le_of_ble_eq_true rfl) dX6_prove_95 rfl (fun r4 σ4 H locs hw hh => ?_)
        refine lv_istore_n (lv' := [(1, .int r4), (0, .ref (ha 0))]) hx hb dX6_prove_98 rfl hl (by decide) rfl (fun ls hl => ?_)
        refine lv_goto (tgt := 22) hx hb dX6_prove_99 (by decide) ?_
        exact ih r4 σ4 _ _ _ hh (lv_sub hl [1, 0] rfl) hw
      · have hw := hw.2 c3
        refine lv_aload_n hx hb dX6_prove_34 rfl (lv_at hl 0 rfl) ?_
        refine lv_iconst (v := 0) hx hb dX6_prove_35 (by decide) ?_
        refine lf_callVl (rest := []) F hh (cw_X6_165 F.1.2.2.2.2 ⟨Nat.le_of_ble_eq_true rfl, Nat.le_of_ble_eq_true rfl⟩) (c_X6_costOf l D ha cy H.size σ2 0 _ hw) 0 6 rfl rfl rfl rfl hl.1 (Nat.le_of_ble_eq_true rfl) dX6_prove_36 rfl (fun r5 σ5 H locs hw hh => ?_)
        refine lv_aload_n hx hb dX6_prove_39 rfl (lv_at hl 0 rfl) ?_
        refine fg_X6_168 F hh dX6_prove_40 ?_
        refine lv_lmul hx hb dX6_prove_43 ?_
        refine lv_aload_n hx hb dX6_prove_44 rfl (lv_at hl 0 rfl) ?_
        refine fg_X6_171 F hh dX6_prove_45 ?_
        refine lv_aload_n hx hb dX6_prove_48 rfl (lv_at hl 0 rfl) ?_
        refine fg_X6_136 F hh dX6_prove_49 ?_
        refine lv_lmul hx hb dX6_prove_52 ?_
        refine lf_lcmp_ne (tgt := 93) hx hb dX6_prove_53 dX6_prove_54 (by decide) (fun c6 => ?_) (fun c6 => ?_)
        · have hw := hw.1 c6
          refine lv_aload_n hx hb dX6_prove_93 rfl (lv_at hl 0 rfl) ?_
          refine lv_iload_n hx hb dX6_prove_94 rfl (lv_at hl 1 rfl) ?_
          refine lf_callVi (rest := []) F hh (cw_X6_207 F.1.2.2.2.2 ⟨Nat.le_of_ble_eq_true rfl, Nat.le_of_ble_eq_true rfl⟩) (c_X6_after l D ha cy H.size σ5 x1 _ hw) 0 6 rfl rfl rfl rfl hl.1 (Nat.le_of_ble_eq_true rfl) dX6_prove_95 rfl (fun r7 σ7 H locs hw hh => ?_)
          refine lv_istore_n (lv' := [(1, .int r7), (0, .ref (ha 0))]) hx hb dX6_prove_98 rfl hl (by decide) rfl (fun ls hl => ?_)
          refine lv_goto (tgt := 22) hx hb dX6_prove_99 (by decide) ?_
          exact ih r7 σ7 _ _ _ hh (lv_sub hl [1, 0] rfl) hw
        · have hw := hw.2 c6
          refine lv_iconst (v := 1) hx hb dX6_prove_57 (by decide) ?_
          refine lv_aload_n hx hb dX6_prove_58 rfl (lv_at hl 0 rfl) ?_
          refine lf_callVi (rest := [.int 1]) F hh (cw_X6_210 F.1.2.2.2.2 ⟨Nat.le_of_ble_eq_true rfl, Nat.le_of_ble_eq_true rfl⟩) (c_X6_unused l D ha cy H.size σ5  _ hw) 0 6 rfl rfl rfl rfl hl.1 (Nat.le_of_ble_eq_true rfl) dX6_prove_59 rfl (fun r8 σ8 H locs hw hh => ?_)
          refine lv_ishl hx hb dX6_prove_62 ?_
          refine lv_topi (fun v9 ev9 => ?_)
          have hw := hw v9 ev9
          refine lv_istore_n (lv' := [(2, .int v9), (0, .ref (ha 0)), (1, .int x1)]) hx hb dX6_prove_63 rfl hl (by decide) rfl (fun ls hl => ?_)
          refine lv_iconst (v := 0) hx hb dX6_prove_64 (by decide) ?_
          refine lv_istore_n (lv' := [(3, .int 0), (2, .int v9), (0, .ref (ha 0)), (1, .int x1)]) hx hb dX6_prove_65 rfl hl (by decide) rfl (fun ls hl => ?_)
          obtain ⟨n66, hw⟩ := hw
          exact w_X6_prove_66 _ Post F ih n66 x1 v9 0 σ8 _ _ _ hh (lv_sub hl [2, 3, 1, 0] rfl) hw
set_option maxHeartbeats 4000000 in
set_option maxRecDepth 100000 in
theorem c_X6_prove (l : Launch) (D : va_G) (ha : Nat → Nat) (cy : Nat → ClassId) (sz : Nat) (σ : lf_St) (Post : Int32 → lf_St → Prop) (hw : wp_X6_prove σ Post) : lf_Mi l yX6_prove (lf_ws yX6_prove cX6_prove 4 (some .int)) rm_X6_prove D (tyM_ cy) (wM_ ha cy) sz σ [.ref (ha 0)] Post := by
  refine lf_ofi (by decide +kernel) (Nat.le_of_ble_eq_true rfl) ?_
  intro p e s m args below meth c A ls F hh hl
  have hx := F.1.1
  have hb := F.1.2.1
  have hl : lv_has ls 4 [(0, .ref (ha 0))] := hl
  obtain ⟨H, hHe⟩ : ∃ H, H = s.heap := ⟨_, rfl⟩
  rw [← hHe] at hh ⊢
  unfold wp_X6_prove at hw
  refine lv_aload_n hx hb dX6_prove_0 rfl (lv_at hl 0 rfl) ?_
  refine lv_iconst (v := 0) hx hb dX6_prove_1 (by decide) ?_
  refine fp_X6_78 F hh rfl dX6_prove_2 (fun H locs hh => ?_)
  refine lv_aload_n hx hb dX6_prove_5 rfl (lv_at hl 0 rfl) ?_
  refine lv_iconst (v := 0) hx hb dX6_prove_6 (by decide) ?_
  obtain ⟨σ1, eσ1⟩ : ∃ z : lf_St, z = (lf_si σ 12 0) := ⟨_, rfl⟩
  rw [← eσ1] at hh
  have hw := hw σ1 eσ1
  refine lf_callVi (rest := []) F hh (cw_X6_179 F.1.2.2.2.2 ⟨Nat.le_of_ble_eq_true rfl, Nat.le_of_ble_eq_true rfl⟩) (c_X6_find l D ha cy H.size σ1 0 _ hw) 0 6 rfl rfl rfl rfl hl.1 (Nat.le_of_ble_eq_true rfl) dX6_prove_7 rfl (fun r2 σ2 H locs hw hh => ?_)
  refine lv_if_ge (tgt := 16) hx hb dX6_prove_10 (by decide) (fun c3 => ?_) (fun c3 => ?_)
  · have hw := hw.1 c3
    refine lv_aload_n hx hb dX6_prove_16 rfl (lv_at hl 0 rfl) ?_
    refine lv_iconst (v := (-1)) hx hb dX6_prove_17 (by decide) ?_
    refine lf_callVi (rest := []) F hh (cw_X6_207 F.1.2.2.2.2 ⟨Nat.le_of_ble_eq_true rfl, Nat.le_of_ble_eq_true rfl⟩) (c_X6_after l D ha cy H.size σ2 (-1) _ hw) 0 6 rfl rfl rfl rfl hl.1 (Nat.le_of_ble_eq_true rfl) dX6_prove_18 rfl (fun r4 σ4 H locs hw hh => ?_)
    refine lv_istore_n (lv' := [(1, .int r4), (0, .ref (ha 0))]) hx hb dX6_prove_21 rfl hl (by decide) rfl (fun ls hl => ?_)
    obtain ⟨n22, hw⟩ := hw
    exact w_X6_prove_22 Post F  n22 r4 σ4 _ _ _ hh (lv_sub hl [1, 0] rfl) hw
  · have hw := hw.2 c3
    refine lv_bipush (v := (-6)) hx hb dX6_prove_13 (by decide) ?_
    exact lf_reti F hh hw dX6_prove_15
end
section
def wp_X6_field (x1 : Int32) (x2 : Int32) (x3 : Int32) (σ : lf_St) (Post : Int64 → lf_St → Prop) : Prop := ((¬ (lf_gi σ 12) = 0) → (wp_X6_isJoint x1 σ (fun r2 σ2 => ((¬ r2 = 0) → (wp_X6_isPart x2 σ2 (fun r4 σ4 => ((r4 = 0) → (Post (-1000000000000002) σ4)) ∧ ((¬ (r4 = 0)) → (wp_X6_isPart x3 σ4 (fun r6 σ6 => ((¬ r6 = 0) → (vp_in x1 6 ∧ ((((lf_ai σ6 3 x1.toNatClampNeg) = 0) → (vp_in x1 6 ∧ (vp_in ((lf_ai σ6 13 x1.toNatClampNeg) + x2) 6 ∧ (wp_X6_term (lf_al σ6 24 (((lf_ai σ6 13 x1.toNatClampNeg) + x2) : Int32).toNatClampNeg) (lf_gl σ6 25) x3 σ6 (fun r12 σ12 => Post r12 σ12))))) ∧ ((¬ ((lf_ai σ6 3 x1.toNatClampNeg) = 0)) → (wp_X6_term 0 1 x3 σ6 (fun r13 σ13 => Post r13 σ13)))))) ∧ ((r6 = 0) → (Post (-1000000000000002) σ6)))))))) ∧ ((r2 = 0) → (Post (-1000000000000001) σ2))))) ∧ (((lf_gi σ 12) = 0) → (Post (-1000000000000003) σ))
def rm_X6_field : Room := ({ frames := 2, cells := 0, slots := 0, locals := 55 } : Room)
set_option maxHeartbeats 4000000 in
set_option maxRecDepth 100000 in
theorem c_X6_field (l : Launch) (D : va_G) (ha : Nat → Nat) (cy : Nat → ClassId) (sz : Nat) (σ : lf_St) (x1 : Int32) (x2 : Int32) (x3 : Int32) (Post : Int64 → lf_St → Prop) (hw : wp_X6_field x1 x2 x3 σ Post) : lf_Ml l yX6_field (lf_ws yX6_field cX6_field 4 (some .long)) rm_X6_field D (tyM_ cy) (wM_ ha cy) sz σ [.ref (ha 0), .int x1, .int x2, .int x3] Post := by
  refine lf_ofl (by decide +kernel) (Nat.le_of_ble_eq_true rfl) ?_
  intro p e s m args below meth c A ls F hh hl
  have hx := F.1.1
  have hb := F.1.2.1
  have hl : lv_has ls 4 [(0, .ref (ha 0)), (1, .int x1), (2, .int x2), (3, .int x3)] := hl
  obtain ⟨H, hHe⟩ : ∃ H, H = s.heap := ⟨_, rfl⟩
  rw [← hHe] at hh ⊢
  unfold wp_X6_field at hw
  refine lv_aload_n hx hb dX6_field_0 rfl (lv_at hl 0 rfl) ?_
  refine fg_X6_78 F hh dX6_field_1 ?_
  refine lv_if_ne (tgt := 11) hx hb dX6_field_4 (by decide) (fun c1 => ?_) (fun c1 => ?_)
  · have hw := hw.1 c1
    refine lv_aload_n hx hb dX6_field_11 rfl (lv_at hl 0 rfl) ?_
    refine lv_iload_n hx hb dX6_field_12 rfl (lv_at hl 1 rfl) ?_
    refine lf_callVi (rest := []) F hh (cw_X6_82 F.1.2.2.2.2 ⟨Nat.le_of_ble_eq_true rfl, Nat.le_of_ble_eq_true rfl⟩) (c_X6_isJoint l D ha cy H.size σ x1 _ hw) 0 6 rfl rfl rfl rfl hl.1 (Nat.le_of_ble_eq_true rfl) dX6_field_13 rfl (fun r2 σ2 H locs hw hh => ?_)
    refine lv_if_ne (tgt := 23) hx hb dX6_field_16 (by decide) (fun c3 => ?_) (fun c3 => ?_)
    · have hw := hw.1 c3
      refine lv_iload_n hx hb dX6_field_23 rfl (lv_at hl 2 rfl) ?_
      refine lf_callSi (rest := []) F hh (cw_X6_182 F.1.2.2.2.2 ⟨Nat.le_of_ble_eq_true rfl, Nat.le_of_ble_eq_true rfl⟩) (c_X6_isPart l D ha cy H.size σ2 x2 _ hw) rfl hl.1 (Nat.le_of_ble_eq_true rfl) dX6_field_24 rfl (fun r4 σ4 H locs hw hh => ?_)
      refine lv_if_eq (tgt := 37) hx hb dX6_field_27 (by decide) (fun c5 => ?_) (fun c5 => ?_)
      · have hw := hw.1 c5
        refine lv_ldc2 hx hb F.1.2.2.2.1 (F.1.2.2.2.2 _ (lr_24 _ (List.mem_of_getElem? (i := 19) rfl))) dX6_field_37 ?_
        exact lf_retl F hh hw dX6_field_40
      · have hw := hw.2 c5
        refine lv_iload_n hx hb dX6_field_30 rfl (lv_at hl 3 rfl) ?_
        refine lf_callSi (rest := []) F hh (cw_X6_182 F.1.2.2.2.2 ⟨Nat.le_of_ble_eq_true rfl, Nat.le_of_ble_eq_true rfl⟩) (c_X6_isPart l D ha cy H.size σ4 x3 _ hw) rfl hl.1 (Nat.le_of_ble_eq_true rfl) dX6_field_31 rfl (fun r6 σ6 H locs hw hh => ?_)
        refine lv_if_ne (tgt := 41) hx hb dX6_field_34 (by decide) (fun c7 => ?_) (fun c7 => ?_)
        · have hw := hw.1 c7
          refine lv_aload_n hx hb dX6_field_41 rfl (lv_at hl 0 rfl) ?_
          refine fg_X6_16 F hh dX6_field_42 ?_
          refine lv_iload_n hx hb dX6_field_45 rfl (lv_at hl 1 rfl) ?_
          obtain ⟨q8, hw⟩ := hw
          refine ra_M_3 F hh q8 dX6_field_46 ?_
          refine lv_if_eq (tgt := 59) hx hb dX6_field_47 (by decide) (fun c9 => ?_) (fun c9 => ?_)
          · have hw := hw.1 c9
            refine lv_aload_n hx hb dX6_field_59 rfl (lv_at hl 0 rfl) ?_
            refine fg_X6_54 F hh dX6_field_60 ?_
            refine lv_aload_n hx hb dX6_field_63 rfl (lv_at hl 0 rfl) ?_
            refine fg_X6_35 F hh dX6_field_64 ?_
            refine lv_iload_n hx hb dX6_field_67 rfl (lv_at hl 1 rfl) ?_
            obtain ⟨q10, hw⟩ := hw
            refine ra_M_13 F hh q10 dX6_field_68 ?_
            refine lv_iload_n hx hb dX6_field_69 rfl (lv_at hl 2 rfl) ?_
            refine lv_iadd hx hb dX6_field_70 ?_
            obtain ⟨q11, hw⟩ := hw
            refine ra_M_24 F hh q11 dX6_field_71 ?_
            refine lv_aload_n hx hb dX6_field_72 rfl (lv_at hl 0 rfl) ?_
            refine fg_X6_201 F hh dX6_field_73 ?_
            refine lv_iload_n hx hb dX6_field_76 rfl (lv_at hl 3 rfl) ?_
            refine lf_callSl (rest := []) F hh (cw_X6_189 F.1.2.2.2.2 ⟨Nat.le_of_ble_eq_true rfl, Nat.le_of_ble_eq_true rfl⟩) (c_X6_term l D ha cy H.size σ6 (lf_al σ6 24 (((lf_ai σ6 13 x1.toNatClampNeg) + x2) : Int32).toNatClampNeg) (lf_gl σ6 25) x3 _ hw) rfl hl.1 (Nat.le_of_ble_eq_true rfl) dX6_field_77 rfl (fun r12 σ12 H locs hw hh => ?_)
            exact lf_retl F hh hw dX6_field_80
          · have hw := hw.2 c9
            refine lv_lconst (v := 0) hx hb dX6_field_50 (by decide) ?_
            refine lv_lconst (v := 1) hx hb dX6_field_51 (by decide) ?_
            refine lv_iload_n hx hb dX6_field_52 rfl (lv_at hl 3 rfl) ?_
            refine lf_callSl (rest := []) F hh (cw_X6_189 F.1.2.2.2.2 ⟨Nat.le_of_ble_eq_true rfl, Nat.le_of_ble_eq_true rfl⟩) (c_X6_term l D ha cy H.size σ6 0 1 x3 _ hw) rfl hl.1 (Nat.le_of_ble_eq_true rfl) dX6_field_53 rfl (fun r13 σ13 H locs hw hh => ?_)
            refine lv_goto (tgt := 80) hx hb dX6_field_56 (by decide) ?_
            exact lf_retl F hh hw dX6_field_80
        · have hw := hw.2 c7
          refine lv_ldc2 hx hb F.1.2.2.2.1 (F.1.2.2.2.2 _ (lr_24 _ (List.mem_of_getElem? (i := 19) rfl))) dX6_field_37 ?_
          exact lf_retl F hh hw dX6_field_40
    · have hw := hw.2 c3
      refine lv_ldc2 hx hb F.1.2.2.2.1 (F.1.2.2.2.2 _ (lr_25 _ (List.mem_of_getElem? (i := 16) rfl))) dX6_field_19 ?_
      exact lf_retl F hh hw dX6_field_22
  · have hw := hw.2 c1
    refine lv_ldc2 hx hb F.1.2.2.2.1 (F.1.2.2.2.2 _ (lr_30 _ (List.mem_of_getElem? (i := 20) rfl))) dX6_field_7 ?_
    exact lf_retl F hh hw dX6_field_10
def wp_X6_slack (x1 : Int32) (x2 : Int32) (σ : lf_St) (Post : Int64 → lf_St → Prop) : Prop := ((¬ (lf_gi σ 12) = 0) → (wp_X6_isBar x1 σ (fun r2 σ2 => ((¬ r2 = 0) → (wp_X6_isPart x2 σ2 (fun r4 σ4 => ((¬ r4 = 0) → (wp_X6_stuff x1 σ4 (fun r6 σ6 => wp_X6_numberOf x1 σ6 (fun r7 σ7 => wp_X6_abs r7 σ7 (fun r8 σ8 => wp_X6_term (((r6.toInt64) * (lf_gl σ6 25)) - r8) (lf_gl σ8 25) x2 σ8 (fun r9 σ9 => Post r9 σ9)))))) ∧ ((r4 = 0) → (Post (-1000000000000002) σ4))))) ∧ ((r2 = 0) → (Post (-1000000000000001) σ2))))) ∧ (((lf_gi σ 12) = 0) → (Post (-1000000000000003) σ))
def rm_X6_slack : Room := ({ frames := 2, cells := 0, slots := 0, locals := 55 } : Room)
set_option maxHeartbeats 4000000 in
set_option maxRecDepth 100000 in
theorem c_X6_slack (l : Launch) (D : va_G) (ha : Nat → Nat) (cy : Nat → ClassId) (sz : Nat) (σ : lf_St) (x1 : Int32) (x2 : Int32) (Post : Int64 → lf_St → Prop) (hw : wp_X6_slack x1 x2 σ Post) : lf_Ml l yX6_slack (lf_ws yX6_slack cX6_slack 3 (some .long)) rm_X6_slack D (tyM_ cy) (wM_ ha cy) sz σ [.ref (ha 0), .int x1, .int x2] Post := by
  refine lf_ofl (by decide +kernel) (Nat.le_of_ble_eq_true rfl) ?_
  intro p e s m args below meth c A ls F hh hl
  have hx := F.1.1
  have hb := F.1.2.1
  have hl : lv_has ls 3 [(0, .ref (ha 0)), (1, .int x1), (2, .int x2)] := hl
  obtain ⟨H, hHe⟩ : ∃ H, H = s.heap := ⟨_, rfl⟩
  rw [← hHe] at hh ⊢
  unfold wp_X6_slack at hw
  refine lv_aload_n hx hb dX6_slack_0 rfl (lv_at hl 0 rfl) ?_
  refine fg_X6_78 F hh dX6_slack_1 ?_
  refine lv_if_ne (tgt := 11) hx hb dX6_slack_4 (by decide) (fun c1 => ?_) (fun c1 => ?_)
  · have hw := hw.1 c1
    refine lv_aload_n hx hb dX6_slack_11 rfl (lv_at hl 0 rfl) ?_
    refine lv_iload_n hx hb dX6_slack_12 rfl (lv_at hl 1 rfl) ?_
    refine lf_callVi (rest := []) F hh (cw_X6_90 F.1.2.2.2.2 ⟨Nat.le_of_ble_eq_true rfl, Nat.le_of_ble_eq_true rfl⟩) (c_X6_isBar l D ha cy H.size σ x1 _ hw) 0 6 rfl rfl rfl rfl hl.1 (Nat.le_of_ble_eq_true rfl) dX6_slack_13 rfl (fun r2 σ2 H locs hw hh => ?_)
    refine lv_if_ne (tgt := 23) hx hb dX6_slack_16 (by decide) (fun c3 => ?_) (fun c3 => ?_)
    · have hw := hw.1 c3
      refine lv_iload_n hx hb dX6_slack_23 rfl (lv_at hl 2 rfl) ?_
      refine lf_callSi (rest := []) F hh (cw_X6_182 F.1.2.2.2.2 ⟨Nat.le_of_ble_eq_true rfl, Nat.le_of_ble_eq_true rfl⟩) (c_X6_isPart l D ha cy H.size σ2 x2 _ hw) rfl hl.1 (Nat.le_of_ble_eq_true rfl) dX6_slack_24 rfl (fun r4 σ4 H locs hw hh => ?_)
      refine lv_if_ne (tgt := 34) hx hb dX6_slack_27 (by decide) (fun c5 => ?_) (fun c5 => ?_)
      · have hw := hw.1 c5
        refine lv_aload_n hx hb dX6_slack_34 rfl (lv_at hl 0 rfl) ?_
        refine lv_iload_n hx hb dX6_slack_35 rfl (lv_at hl 1 rfl) ?_
        refine lf_callVi (rest := []) F hh (cw_X6_93 F.1.2.2.2.2 ⟨Nat.le_of_ble_eq_true rfl, Nat.le_of_ble_eq_true rfl⟩) (c_X6_stuff l D ha cy H.size σ4 x1 _ hw) 0 6 rfl rfl rfl rfl hl.1 (Nat.le_of_ble_eq_true rfl) dX6_slack_36 rfl (fun r6 σ6 H locs hw hh => ?_)
        refine lv_i2l hx hb dX6_slack_39 rfl ?_
        refine lv_aload_n hx hb dX6_slack_40 rfl (lv_at hl 0 rfl) ?_
        refine fg_X6_201 F hh dX6_slack_41 ?_
        refine lv_lmul hx hb dX6_slack_44 ?_
        refine lv_aload_n hx hb dX6_slack_45 rfl (lv_at hl 0 rfl) ?_
        refine lv_iload_n hx hb dX6_slack_46 rfl (lv_at hl 1 rfl) ?_
        refine lf_callVl (rest := [.long ((r6.toInt64) * (lf_gl σ6 25))]) F hh (cw_X6_204 F.1.2.2.2.2 ⟨Nat.le_of_ble_eq_true rfl, Nat.le_of_ble_eq_true rfl⟩) (c_X6_numberOf l D ha cy H.size σ6 x1 _ hw) 0 6 rfl rfl rfl rfl hl.1 (Nat.le_of_ble_eq_true rfl) dX6_slack_47 rfl (fun r7 σ7 H locs hw hh => ?_)
        refine lf_callSl (rest := [.long ((r6.toInt64) * (lf_gl σ6 25))]) F hh (cw_X6_140 F.1.2.2.2.2 ⟨Nat.le_of_ble_eq_true rfl, Nat.le_of_ble_eq_true rfl⟩) (c_X6_abs l D ha cy H.size σ7 r7 _ hw) rfl hl.1 (Nat.le_of_ble_eq_true rfl) dX6_slack_50 rfl (fun r8 σ8 H locs hw hh => ?_)
        refine lv_lsub hx hb dX6_slack_53 ?_
        refine lv_aload_n hx hb dX6_slack_54 rfl (lv_at hl 0 rfl) ?_
        refine fg_X6_201 F hh dX6_slack_55 ?_
        refine lv_iload_n hx hb dX6_slack_58 rfl (lv_at hl 2 rfl) ?_
        refine lf_callSl (rest := []) F hh (cw_X6_189 F.1.2.2.2.2 ⟨Nat.le_of_ble_eq_true rfl, Nat.le_of_ble_eq_true rfl⟩) (c_X6_term l D ha cy H.size σ8 (((r6.toInt64) * (lf_gl σ6 25)) - r8) (lf_gl σ8 25) x2 _ hw) rfl hl.1 (Nat.le_of_ble_eq_true rfl) dX6_slack_59 rfl (fun r9 σ9 H locs hw hh => ?_)
        exact lf_retl F hh hw dX6_slack_62
      · have hw := hw.2 c5
        refine lv_ldc2 hx hb F.1.2.2.2.1 (F.1.2.2.2.2 _ (lr_24 _ (List.mem_of_getElem? (i := 19) rfl))) dX6_slack_30 ?_
        exact lf_retl F hh hw dX6_slack_33
    · have hw := hw.2 c3
      refine lv_ldc2 hx hb F.1.2.2.2.1 (F.1.2.2.2.2 _ (lr_25 _ (List.mem_of_getElem? (i := 16) rfl))) dX6_slack_19 ?_
      exact lf_retl F hh hw dX6_slack_22
  · have hw := hw.2 c1
    refine lv_ldc2 hx hb F.1.2.2.2.1 (F.1.2.2.2.2 _ (lr_30 _ (List.mem_of_getElem? (i := 20) rfl))) dX6_slack_7 ?_
    exact lf_retl F hh hw dX6_slack_10
def wp_X6_told (x1 : Int32) (σ : lf_St) (Post : Int32 → lf_St → Prop) : Prop := ((x1 = 0) → (Post (lf_gi σ 0) σ)) ∧ (¬ (x1 = 0) → (((x1 = 1) → (wp_X6_frees σ (fun r3 σ3 => Post r3 σ3))) ∧ (¬ (x1 = 1) → (((x1 = 2) → (Post (lf_gi σ 6) σ)) ∧ (¬ (x1 = 2) → (((x1 = 3) → (Post (lf_gi σ 9) σ)) ∧ (¬ (x1 = 3) → (((x1 = 4) → (Post (lf_gi σ 11) σ)) ∧ (¬ (x1 = 4) → (Post (-2) σ))))))))))
def rm_X6_told : Room := ({ frames := 1, cells := 0, slots := 0, locals := 22 } : Room)
set_option maxHeartbeats 4000000 in
set_option maxRecDepth 100000 in
theorem c_X6_told (l : Launch) (D : va_G) (ha : Nat → Nat) (cy : Nat → ClassId) (sz : Nat) (σ : lf_St) (x1 : Int32) (Post : Int32 → lf_St → Prop) (hw : wp_X6_told x1 σ Post) : lf_Mi l yX6_told (lf_ws yX6_told cX6_told 2 (some .int)) rm_X6_told D (tyM_ cy) (wM_ ha cy) sz σ [.ref (ha 0), .int x1] Post := by
  refine lf_ofi (by decide +kernel) (Nat.le_of_ble_eq_true rfl) ?_
  intro p e s m args below meth c A ls F hh hl
  have hx := F.1.1
  have hb := F.1.2.1
  have hl : lv_has ls 2 [(0, .ref (ha 0)), (1, .int x1)] := hl
  obtain ⟨H, hHe⟩ : ∃ H, H = s.heap := ⟨_, rfl⟩
  rw [← hHe] at hh ⊢
  unfold wp_X6_told at hw
  refine lv_iload_n hx hb dX6_told_0 rfl (lv_at hl 1 rfl) ?_
  by_cases c1 : x1 = 0
  · have hw := hw.1 c1
    refine lv_tableIn (tgt := 36) hx hb dX6_told_1 (by rw [c1]; decide) (by rw [c1]; decide) (by rw [c1]; rfl) (by decide) ?_
    refine lv_aload_n hx hb dX6_told_36 rfl (lv_at hl 0 rfl) ?_
    refine fg_X6_57 F hh dX6_told_37 ?_
    exact lf_reti F hh hw dX6_told_40
  · have hw := hw.2 c1
    by_cases c2 : x1 = 1
    · have hw := hw.1 c2
      refine lv_tableIn (tgt := 41) hx hb dX6_told_1 (by rw [c2]; decide) (by rw [c2]; decide) (by rw [c2]; rfl) (by decide) ?_
      refine lv_aload_n hx hb dX6_told_41 rfl (lv_at hl 0 rfl) ?_
      refine lf_callVi (rest := []) F hh (cw_X6_74 F.1.2.2.2.2 ⟨Nat.le_of_ble_eq_true rfl, Nat.le_of_ble_eq_true rfl⟩) (c_X6_frees l D ha cy H.size σ  _ hw) 0 6 rfl rfl rfl rfl hl.1 (Nat.le_of_ble_eq_true rfl) dX6_told_42 rfl (fun r3 σ3 H locs hw hh => ?_)
      exact lf_reti F hh hw dX6_told_45
    · have hw := hw.2 c2
      by_cases c4 : x1 = 2
      · have hw := hw.1 c4
        refine lv_tableIn (tgt := 46) hx hb dX6_told_1 (by rw [c4]; decide) (by rw [c4]; decide) (by rw [c4]; rfl) (by decide) ?_
        refine lv_aload_n hx hb dX6_told_46 rfl (lv_at hl 0 rfl) ?_
        refine fg_X6_65 F hh dX6_told_47 ?_
        exact lf_reti F hh hw dX6_told_50
      · have hw := hw.2 c4
        by_cases c5 : x1 = 3
        · have hw := hw.1 c5
          refine lv_tableIn (tgt := 51) hx hb dX6_told_1 (by rw [c5]; decide) (by rw [c5]; decide) (by rw [c5]; rfl) (by decide) ?_
          refine lv_aload_n hx hb dX6_told_51 rfl (lv_at hl 0 rfl) ?_
          refine fg_X6_99 F hh dX6_told_52 ?_
          exact lf_reti F hh hw dX6_told_55
        · have hw := hw.2 c5
          by_cases c6 : x1 = 4
          · have hw := hw.1 c6
            refine lv_tableIn (tgt := 56) hx hb dX6_told_1 (by rw [c6]; decide) (by rw [c6]; decide) (by rw [c6]; rfl) (by decide) ?_
            refine lv_aload_n hx hb dX6_told_56 rfl (lv_at hl 0 rfl) ?_
            refine fg_X6_104 F hh dX6_told_57 ?_
            exact lf_reti F hh hw dX6_told_60
          · have hw := hw.2 c6
            refine lv_tableOut (tgt := 61) hx hb dX6_told_1 (lf_sw_0_4 c1 c2 c4 c5 c6) (by decide) ?_
            refine lv_bipush (v := (-2)) hx hb dX6_told_61 (by decide) ?_
            exact lf_reti F hh hw dX6_told_63
end
