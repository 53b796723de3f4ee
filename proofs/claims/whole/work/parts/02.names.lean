/-! ===== BEGIN printed: names, fields, word lists, decode rows ===== -/
def RX0 : String := "ChuteLoft$Flight"
def TX0 : u_T := fun k => match k with
  | 0 => ("ChuteLoft$Flight", "jumps", "[LChuteLoft$Jump;", true)
  | _ => ("ChuteLoft$Flight", "size", "I", false)
def tyX0 : Nat → FieldType := fun k => match k with
  | 0 => .array (.object "ChuteLoft$Jump")
  | _ => .int
abbrev wsX00 : List Cond := u_ws RX0 TX0 2
theorem nmX0 : ∀ a, a < 2 → ∀ b, b < 2 → a ≠ b → (TX0 a).2.1 ≠ (TX0 b).2.1 := by decide +kernel
theorem tyX0_ok : ∀ k, k < 2 → parseFieldDescriptor (TX0 k).2.2.1 = some (tyX0 k) := by decide +kernel
abbrev cX0_init : ByteArray := prog_2_method_1_code
def yX0_init : MethodName := ⟨RX0, "<init>", "()V"⟩
abbrev cX0_jumpAt : ByteArray := prog_2_method_2_code
def yX0_jumpAt : MethodName := ⟨RX0, "jumpAt", "(I)LChuteLoft$Jump;"⟩
abbrev cX0_leave : ByteArray := prog_2_method_3_code
def yX0_leave : MethodName := ⟨RX0, "leave", "(IILChuteLoft$Winds;)V"⟩
abbrev cX0_run : ByteArray := prog_2_method_4_code
def yX0_run : MethodName := ⟨RX0, "run", "(LChuteLoft$Winds;)I"⟩
abbrev cX0_goOn : ByteArray := prog_2_method_5_code
def yX0_goOn : MethodName := ⟨RX0, "goOn", "(ILChuteLoft$Winds;)Z"⟩
abbrev cX0_countNewPairs : ByteArray := prog_2_method_6_code
def yX0_countNewPairs : MethodName := ⟨RX0, "countNewPairs", "()I"⟩
def RX1 : String := "ChuteLoft$Jump"
def TX1 : u_T := fun k => match k with
  | 0 => ("ChuteLoft$Jump", "opensIn", "I", false)
  | 1 => ("ChuteLoft$Jump", "ticksOfFall", "I", false)
  | 2 => ("ChuteLoft$Jump", "ticksOfGlide", "I", false)
  | 3 => ("ChuteLoft$Jump", "forward", "D", false)
  | 4 => ("ChuteLoft$Jump", "isTrouble", "Z", false)
  | 5 => ("ChuteLoft$Jump", "leavesAt", "I", false)
  | 6 => ("ChuteLoft$Jump", "layer", "I", false)
  | 7 => ("ChuteLoft$Jump", "ticksHere", "I", false)
  | 8 => ("ChuteLoft$Jump", "x", "D", false)
  | 9 => ("ChuteLoft$Jump", "y", "D", false)
  | _ => ("ChuteLoft$Jump", "metBits", "I", false)
def tyX1 : Nat → FieldType := fun k => match k with
  | 0 => .int
  | 1 => .int
  | 2 => .int
  | 3 => .double
  | 4 => .boolean
  | 5 => .int
  | 6 => .int
  | 7 => .int
  | 8 => .double
  | 9 => .double
  | _ => .int
abbrev wsX10 : List Cond := u_ws RX1 TX1 11
theorem nmX1 : ∀ a, a < 11 → ∀ b, b < 11 → a ≠ b → (TX1 a).2.1 ≠ (TX1 b).2.1 := by decide +kernel
theorem tyX1_ok : ∀ k, k < 11 → parseFieldDescriptor (TX1 k).2.2.1 = some (tyX1 k) := by decide +kernel
abbrev cX1_init : ByteArray := prog_3_method_1_code
def yX1_init : MethodName := ⟨RX1, "<init>", "()V"⟩
abbrev cX1_plan : ByteArray := prog_3_method_2_code
def yX1_plan : MethodName := ⟨RX1, "plan", "(IIIF)V"⟩
abbrev cX1_planReserve : ByteArray := prog_3_method_3_code
def yX1_planReserve : MethodName := ⟨RX1, "planReserve", "()V"⟩
abbrev cX1_leave : ByteArray := prog_3_method_4_code
def yX1_leave : MethodName := ⟨RX1, "leave", "(DI)V"⟩
abbrev cX1_isDown : ByteArray := prog_3_method_5_code
def yX1_isDown : MethodName := ⟨RX1, "isDown", "()Z"⟩
abbrev cX1_isGliding : ByteArray := prog_3_method_6_code
def yX1_isGliding : MethodName := ⟨RX1, "isGliding", "()Z"⟩
abbrev cX1_comeDown : ByteArray := prog_3_method_7_code
def yX1_comeDown : MethodName := ⟨RX1, "comeDown", "(LChuteLoft$Winds;)I"⟩
abbrev cX1_goOn : ByteArray := prog_3_method_8_code
def yX1_goOn : MethodName := ⟨RX1, "goOn", "(LChuteLoft$Winds;)V"⟩
abbrev cX1_steer : ByteArray := prog_3_method_9_code
def yX1_steer : MethodName := ⟨RX1, "steer", "()V"⟩
abbrev cX1_nearer : ByteArray := prog_3_method_10_code
def yX1_nearer : MethodName := ⟨RX1, "nearer", "(DD)D"⟩
abbrev cX1_sizeOf : ByteArray := prog_3_method_11_code
def yX1_sizeOf : MethodName := ⟨RX1, "sizeOf", "(D)D"⟩
abbrev cX1_far : ByteArray := prog_3_method_12_code
def yX1_far : MethodName := ⟨RX1, "far", "()D"⟩
abbrev cX1_points : ByteArray := prog_3_method_13_code
def yX1_points : MethodName := ⟨RX1, "points", "()I"⟩
abbrev cX1_isNear : ByteArray := prog_3_method_14_code
def yX1_isNear : MethodName := ⟨RX1, "isNear", "(LChuteLoft$Jump;)Z"⟩
def RX2 : String := "ChuteLoft$Jumper"
def TX2 : u_T := fun k => match k with
  | 0 => ("ChuteLoft$Jumper", "weight", "I", false)
  | 1 => ("ChuteLoft$Jumper", "licence", "I", false)
  | 2 => ("ChuteLoft$Jumper", "rig", "I", false)
  | 3 => ("ChuteLoft$Jumper", "lastDay", "I", false)
  | 4 => ("ChuteLoft$Jumper", "jumps", "I", false)
  | 5 => ("ChuteLoft$Jumper", "points", "I", false)
  | 6 => ("ChuteLoft$Jumper", "packedToday", "I", false)
  | 7 => ("ChuteLoft$Jumper", "troubles", "I", false)
  | 8 => ("ChuteLoft$Jumper", "landedX", "D", false)
  | 9 => ("ChuteLoft$Jumper", "landedY", "D", false)
  | 10 => ("ChuteLoft$Jumper", "style", "I", false)
  | _ => ("ChuteLoft$Jumper", "open", "I", false)
def tyX2 : Nat → FieldType := fun k => match k with
  | 0 => .int
  | 1 => .int
  | 2 => .int
  | 3 => .int
  | 4 => .int
  | 5 => .int
  | 6 => .int
  | 7 => .int
  | 8 => .double
  | 9 => .double
  | 10 => .int
  | _ => .int
abbrev wsX20 : List Cond := u_ws RX2 TX2 12
theorem nmX2 : ∀ a, a < 12 → ∀ b, b < 12 → a ≠ b → (TX2 a).2.1 ≠ (TX2 b).2.1 := by decide +kernel
theorem tyX2_ok : ∀ k, k < 12 → parseFieldDescriptor (TX2 k).2.2.1 = some (tyX2 k) := by decide +kernel
abbrev cX2_init : ByteArray := prog_4_method_1_code
def yX2_init : MethodName := ⟨RX2, "<init>", "()V"⟩
def RX3 : String := "ChuteLoft$Rig"
def TX3 : u_T := fun k => match k with
  | 0 => ("ChuteLoft$Rig", "area", "I", false)
  | 1 => ("ChuteLoft$Rig", "due", "I", false)
  | 2 => ("ChuteLoft$Rig", "neat", "I", false)
  | 3 => ("ChuteLoft$Rig", "packed", "Z", false)
  | _ => ("ChuteLoft$Rig", "wear", "F", false)
def tyX3 : Nat → FieldType := fun k => match k with
  | 0 => .int
  | 1 => .int
  | 2 => .int
  | 3 => .boolean
  | _ => .float
abbrev wsX30 : List Cond := u_ws RX3 TX3 5
theorem nmX3 : ∀ a, a < 5 → ∀ b, b < 5 → a ≠ b → (TX3 a).2.1 ≠ (TX3 b).2.1 := by decide +kernel
theorem tyX3_ok : ∀ k, k < 5 → parseFieldDescriptor (TX3 k).2.2.1 = some (tyX3 k) := by decide +kernel
abbrev cX3_init : ByteArray := prog_5_method_1_code
def yX3_init : MethodName := ⟨RX3, "<init>", "()V"⟩
def RX4 : String := "ChuteLoft$Winds"
def TX4 : u_T := fun k => match k with
  | 0 => ("ChuteLoft$Winds", "x", "[I", true)
  | _ => ("ChuteLoft$Winds", "y", "[I", true)
def tyX4 : Nat → FieldType := fun k => match k with
  | 0 => .array .int
  | _ => .array .int
abbrev wsX40 : List Cond := u_ws RX4 TX4 2
theorem nmX4 : ∀ a, a < 2 → ∀ b, b < 2 → a ≠ b → (TX4 a).2.1 ≠ (TX4 b).2.1 := by decide +kernel
theorem tyX4_ok : ∀ k, k < 2 → parseFieldDescriptor (TX4 k).2.2.1 = some (tyX4 k) := by decide +kernel
abbrev cX4_init : ByteArray := prog_6_method_1_code
def yX4_init : MethodName := ⟨RX4, "<init>", "()V"⟩
abbrev cX4_tell : ByteArray := prog_6_method_2_code
def yX4_tell : MethodName := ⟨RX4, "tell", "(III)V"⟩
abbrev cX4_xOf : ByteArray := prog_6_method_3_code
def yX4_xOf : MethodName := ⟨RX4, "xOf", "(I)I"⟩
abbrev cX4_yOf : ByteArray := prog_6_method_4_code
def yX4_yOf : MethodName := ⟨RX4, "yOf", "(I)I"⟩
abbrev cX4_ground : ByteArray := prog_6_method_5_code
def yX4_ground : MethodName := ⟨RX4, "ground", "()I"⟩
def RX5 : String := "ChuteLoft"
def TX5 : u_T := fun k => match k with
  | 0 => ("ChuteLoft", "jumpers", "[LChuteLoft$Jumper;", true)
  | 1 => ("ChuteLoft", "jumperCount", "I", false)
  | 2 => ("ChuteLoft", "rigs", "[LChuteLoft$Rig;", true)
  | 3 => ("ChuteLoft", "rigCount", "I", false)
  | 4 => ("ChuteLoft", "winds", "LChuteLoft$Winds;", true)
  | 5 => ("ChuteLoft", "line", "[I", true)
  | 6 => ("ChuteLoft", "aboard", "I", false)
  | 7 => ("ChuteLoft", "held", "Z", false)
  | 8 => ("ChuteLoft", "flight", "LChuteLoft$Flight;", true)
  | 9 => ("ChuteLoft", "alone", "LChuteLoft$Jump;", true)
  | 10 => ("ChuteLoft", "day", "I", false)
  | 11 => ("ChuteLoft", "draw", "I", false)
  | 12 => ("ChuteLoft", "flights", "I", false)
  | 13 => ("ChuteLoft", "jumps", "I", false)
  | 14 => ("ChuteLoft", "troubles", "I", false)
  | 15 => ("ChuteLoft", "off", "I", false)
  | 16 => ("ChuteLoft", "met", "I", false)
  | _ => ("ChuteLoft", "refused", "I", false)
def tyX5 : Nat → FieldType := fun k => match k with
  | 0 => .array (.object "ChuteLoft$Jumper")
  | 1 => .int
  | 2 => .array (.object "ChuteLoft$Rig")
  | 3 => .int
  | 4 => .object "ChuteLoft$Winds"
  | 5 => .array .int
  | 6 => .int
  | 7 => .boolean
  | 8 => .object "ChuteLoft$Flight"
  | 9 => .object "ChuteLoft$Jump"
  | 10 => .int
  | 11 => .int
  | 12 => .int
  | 13 => .int
  | 14 => .int
  | 15 => .int
  | 16 => .int
  | _ => .int
abbrev wsX50 : List Cond := u_ws RX5 TX5 18
theorem nmX5 : ∀ a, a < 18 → ∀ b, b < 18 → a ≠ b → (TX5 a).2.1 ≠ (TX5 b).2.1 := by decide +kernel
theorem tyX5_ok : ∀ k, k < 18 → parseFieldDescriptor (TX5 k).2.2.1 = some (tyX5 k) := by decide +kernel
abbrev cX5_init : ByteArray := prog_1_method_1_code
def yX5_init : MethodName := ⟨RX5, "<init>", "()V"⟩
abbrev cX5_jumper : ByteArray := prog_1_method_2_code
def yX5_jumper : MethodName := ⟨RX5, "jumper", "(II)I"⟩
abbrev cX5_rig : ByteArray := prog_1_method_3_code
def yX5_rig : MethodName := ⟨RX5, "rig", "(II)I"⟩
abbrev cX5_lend : ByteArray := prog_1_method_4_code
def yX5_lend : MethodName := ⟨RX5, "lend", "(II)I"⟩
abbrev cX5_pack : ByteArray := prog_1_method_5_code
def yX5_pack : MethodName := ⟨RX5, "pack", "(II)I"⟩
abbrev cX5_renew : ByteArray := prog_1_method_6_code
def yX5_renew : MethodName := ⟨RX5, "renew", "(I)I"⟩
abbrev cX5_pass : ByteArray := prog_1_method_7_code
def yX5_pass : MethodName := ⟨RX5, "pass", "(I)I"⟩
abbrev cX5_wind : ByteArray := prog_1_method_8_code
def yX5_wind : MethodName := ⟨RX5, "wind", "(III)I"⟩
abbrev cX5_board : ByteArray := prog_1_method_9_code
def yX5_board : MethodName := ⟨RX5, "board", "(III)I"⟩
abbrev cX5_empty : ByteArray := prog_1_method_10_code
def yX5_empty : MethodName := ⟨RX5, "empty", "()I"⟩
abbrev cX5_fly : ByteArray := prog_1_method_11_code
def yX5_fly : MethodName := ⟨RX5, "fly", "(II)I"⟩
abbrev cX5_hold : ByteArray := prog_1_method_12_code
def yX5_hold : MethodName := ⟨RX5, "hold", "(Z)Z"⟩
abbrev cX5_gong : ByteArray := prog_1_method_13_code
def yX5_gong : MethodName := ⟨RX5, "gong", "()I"⟩
abbrev cX5_ofJumper : ByteArray := prog_1_method_14_code
def yX5_ofJumper : MethodName := ⟨RX5, "ofJumper", "(II)I"⟩
abbrev cX5_loading : ByteArray := prog_1_method_15_code
def yX5_loading : MethodName := ⟨RX5, "loading", "(I)D"⟩
abbrev cX5_landed : ByteArray := prog_1_method_16_code
def yX5_landed : MethodName := ⟨RX5, "landed", "(IZ)D"⟩
abbrev cX5_refuses : ByteArray := prog_1_method_17_code
def yX5_refuses : MethodName := ⟨RX5, "refuses", "(I)I"⟩
abbrev cX5_ofRig : ByteArray := prog_1_method_18_code
def yX5_ofRig : MethodName := ⟨RX5, "ofRig", "(II)I"⟩
abbrev cX5_wear : ByteArray := prog_1_method_19_code
def yX5_wear : MethodName := ⟨RX5, "wear", "(I)D"⟩
abbrev cX5_ofWind : ByteArray := prog_1_method_20_code
def yX5_ofWind : MethodName := ⟨RX5, "ofWind", "(IZ)I"⟩
abbrev cX5_many : ByteArray := prog_1_method_21_code
def yX5_many : MethodName := ⟨RX5, "many", "(I)I"⟩
abbrev cX5_order : ByteArray := prog_1_method_22_code
def yX5_order : MethodName := ⟨RX5, "order", "(I)I"⟩
abbrev cX5_wouldLand : ByteArray := prog_1_method_23_code
def yX5_wouldLand : MethodName := ⟨RX5, "wouldLand", "(IIIIZ)D"⟩
abbrev cX5_takes : ByteArray := prog_1_method_24_code
def yX5_takes : MethodName := ⟨RX5, "takes", "(III)I"⟩
abbrev cX5_spot : ByteArray := prog_1_method_25_code
def yX5_spot : MethodName := ⟨RX5, "spot", "(I)I"⟩
abbrev cX5_wouldMeet : ByteArray := prog_1_method_26_code
def yX5_wouldMeet : MethodName := ⟨RX5, "wouldMeet", "(II)I"⟩
abbrev cX5_best : ByteArray := prog_1_method_27_code
def yX5_best : MethodName := ⟨RX5, "best", "(I)I"⟩
abbrev cX5_digest : ByteArray := prog_1_method_28_code
def yX5_digest : MethodName := ⟨RX5, "digest", "()J"⟩
abbrev cX5_digestOfJumper : ByteArray := prog_1_method_29_code
def yX5_digestOfJumper : MethodName := ⟨RX5, "digestOfJumper", "(JI)J"⟩
abbrev cX5_digestOfRig : ByteArray := prog_1_method_30_code
def yX5_digestOfRig : MethodName := ⟨RX5, "digestOfRig", "(JI)J"⟩
abbrev cX5_checkArgument : ByteArray := prog_1_method_31_code
def yX5_checkArgument : MethodName := ⟨RX5, "checkArgument", "(III)V"⟩
abbrev cX5_checkLayer : ByteArray := prog_1_method_32_code
def yX5_checkLayer : MethodName := ⟨RX5, "checkLayer", "(I)V"⟩
abbrev cX5_jumperAt : ByteArray := prog_1_method_33_code
def yX5_jumperAt : MethodName := ⟨RX5, "jumperAt", "(I)LChuteLoft$Jumper;"⟩
abbrev cX5_rigAt : ByteArray := prog_1_method_34_code
def yX5_rigAt : MethodName := ⟨RX5, "rigAt", "(I)LChuteLoft$Rig;"⟩
abbrev cX5_holderOf : ByteArray := prog_1_method_35_code
def yX5_holderOf : MethodName := ⟨RX5, "holderOf", "(I)I"⟩
abbrev cX5_placeOf : ByteArray := prog_1_method_36_code
def yX5_placeOf : MethodName := ⟨RX5, "placeOf", "(I)I"⟩
abbrev cX5_loadingOf : ByteArray := prog_1_method_37_code
def yX5_loadingOf : MethodName := ⟨RX5, "loadingOf", "(LChuteLoft$Jumper;)F"⟩
abbrev cX5_loadingWith : ByteArray := prog_1_method_38_code
def yX5_loadingWith : MethodName := ⟨RX5, "loadingWith", "(LChuteLoft$Jumper;LChuteLoft$Rig;)F"⟩
abbrev cX5_limitOf : ByteArray := prog_1_method_39_code
def yX5_limitOf : MethodName := ⟨RX5, "limitOf", "([II)I"⟩
abbrev cX5_isLet : ByteArray := prog_1_method_40_code
def yX5_isLet : MethodName := ⟨RX5, "isLet", "(LChuteLoft$Jumper;F)Z"⟩
abbrev cX5_whyNot : ByteArray := prog_1_method_41_code
def yX5_whyNot : MethodName := ⟨RX5, "whyNot", "(I)I"⟩
abbrev cX5_lineUp : ByteArray := prog_1_method_42_code
def yX5_lineUp : MethodName := ⟨RX5, "lineUp", "(I)V"⟩
abbrev cX5_setPlace : ByteArray := prog_1_method_43_code
def yX5_setPlace : MethodName := ⟨RX5, "setPlace", "(II)V"⟩
abbrev cX5_goesAhead : ByteArray := prog_1_method_44_code
def yX5_goesAhead : MethodName := ⟨RX5, "goesAhead", "(II)Z"⟩
abbrev cX5_planAlone : ByteArray := prog_1_method_45_code
def yX5_planAlone : MethodName := ⟨RX5, "planAlone", "(LChuteLoft$Jumper;II)V"⟩
abbrev cX5_planFlight : ByteArray := prog_1_method_46_code
def yX5_planFlight : MethodName := ⟨RX5, "planFlight", "()V"⟩
abbrev cX5_drawTroubles : ByteArray := prog_1_method_47_code
def yX5_drawTroubles : MethodName := ⟨RX5, "drawTroubles", "()V"⟩
abbrev cX5_pointsFrom : ByteArray := prog_1_method_48_code
def yX5_pointsFrom : MethodName := ⟨RX5, "pointsFrom", "(II)I"⟩
abbrev cX5_settle : ByteArray := prog_1_method_49_code
def yX5_settle : MethodName := ⟨RX5, "settle", "(LChuteLoft$Jumper;LChuteLoft$Jump;)I"⟩
def RX6 : String := "ChuteLoftModel$Jump"
def TX6 : u_T := fun k => match k with
  | 0 => ("ChuteLoftModel$Jump", "its", "LChuteLoftModel$Jumper;", true)
  | 1 => ("ChuteLoftModel$Jump", "from", "I", true)
  | 2 => ("ChuteLoftModel$Jump", "style", "I", true)
  | 3 => ("ChuteLoftModel$Jump", "loading", "F", true)
  | 4 => ("ChuteLoftModel$Jump", "x", "D", false)
  | 5 => ("ChuteLoftModel$Jump", "y", "D", false)
  | 6 => ("ChuteLoftModel$Jump", "layer", "I", false)
  | 7 => ("ChuteLoftModel$Jump", "ticks", "I", false)
  | 8 => ("ChuteLoftModel$Jump", "open", "I", false)
  | 9 => ("ChuteLoftModel$Jump", "isOpen", "Z", false)
  | 10 => ("ChuteLoftModel$Jump", "isReserve", "Z", false)
  | 11 => ("ChuteLoftModel$Jump", "isTrouble", "Z", false)
  | _ => ("ChuteLoftModel$Jump", "this$0", "LChuteLoftModel;", true)
def tyX6 : Nat → FieldType := fun k => match k with
  | 0 => .object "ChuteLoftModel$Jumper"
  | 1 => .int
  | 2 => .int
  | 3 => .float
  | 4 => .double
  | 5 => .double
  | 6 => .int
  | 7 => .int
  | 8 => .int
  | 9 => .boolean
  | 10 => .boolean
  | 11 => .boolean
  | _ => .object "ChuteLoftModel"
abbrev wsX60 : List Cond := u_ws RX6 TX6 13
theorem nmX6 : ∀ a, a < 13 → ∀ b, b < 13 → a ≠ b → (TX6 a).2.1 ≠ (TX6 b).2.1 := by decide +kernel
theorem tyX6_ok : ∀ k, k < 13 → parseFieldDescriptor (TX6 k).2.2.1 = some (tyX6 k) := by decide +kernel
abbrev cX6_init : ByteArray := prog_9_method_1_code
def yX6_init : MethodName := ⟨RX6, "<init>", "(LChuteLoftModel;LChuteLoftModel$Jumper;IIID)V"⟩
abbrev cX6_isDown : ByteArray := prog_9_method_2_code
def yX6_isDown : MethodName := ⟨RX6, "isDown", "()Z"⟩
abbrev cX6_stay : ByteArray := prog_9_method_3_code
def yX6_stay : MethodName := ⟨RX6, "stay", "()I"⟩
abbrev cX6_forward : ByteArray := prog_9_method_4_code
def yX6_forward : MethodName := ⟨RX6, "forward", "()D"⟩
abbrev cX6_tick : ByteArray := prog_9_method_5_code
def yX6_tick : MethodName := ⟨RX6, "tick", "()V"⟩
abbrev cX6_steer : ByteArray := prog_9_method_6_code
def yX6_steer : MethodName := ⟨RX6, "steer", "()V"⟩
abbrev cX6_nearer : ByteArray := prog_9_method_7_code
def yX6_nearer : MethodName := ⟨RX6, "nearer", "(DD)D"⟩
abbrev cX6_far : ByteArray := prog_9_method_8_code
def yX6_far : MethodName := ⟨RX6, "far", "()D"⟩
abbrev cX6_points : ByteArray := prog_9_method_9_code
def yX6_points : MethodName := ⟨RX6, "points", "()I"⟩
abbrev cX6_meets : ByteArray := prog_9_method_10_code
def yX6_meets : MethodName := ⟨RX6, "meets", "(LChuteLoftModel$Jump;)Z"⟩
def RX7 : String := "ChuteLoftModel$Jumper"
def TX7 : u_T := fun k => match k with
  | 0 => ("ChuteLoftModel$Jumper", "weight", "I", true)
  | 1 => ("ChuteLoftModel$Jumper", "licence", "I", true)
  | 2 => ("ChuteLoftModel$Jumper", "rig", "I", false)
  | 3 => ("ChuteLoftModel$Jumper", "last", "I", false)
  | 4 => ("ChuteLoftModel$Jumper", "jumps", "I", false)
  | 5 => ("ChuteLoftModel$Jumper", "points", "I", false)
  | 6 => ("ChuteLoftModel$Jumper", "packed", "I", false)
  | 7 => ("ChuteLoftModel$Jumper", "troubles", "I", false)
  | 8 => ("ChuteLoftModel$Jumper", "x", "D", false)
  | 9 => ("ChuteLoftModel$Jumper", "y", "D", false)
  | 10 => ("ChuteLoftModel$Jumper", "style", "I", false)
  | _ => ("ChuteLoftModel$Jumper", "open", "I", false)
def tyX7 : Nat → FieldType := fun k => match k with
  | 0 => .int
  | 1 => .int
  | 2 => .int
  | 3 => .int
  | 4 => .int
  | 5 => .int
  | 6 => .int
  | 7 => .int
  | 8 => .double
  | 9 => .double
  | 10 => .int
  | _ => .int
abbrev wsX70 : List Cond := u_ws RX7 TX7 12
theorem nmX7 : ∀ a, a < 12 → ∀ b, b < 12 → a ≠ b → (TX7 a).2.1 ≠ (TX7 b).2.1 := by decide +kernel
theorem tyX7_ok : ∀ k, k < 12 → parseFieldDescriptor (TX7 k).2.2.1 = some (tyX7 k) := by decide +kernel
abbrev cX7_init : ByteArray := prog_10_method_1_code
def yX7_init : MethodName := ⟨RX7, "<init>", "(III)V"⟩
def RX8 : String := "ChuteLoftModel$Rig"
def TX8 : u_T := fun k => match k with
  | 0 => ("ChuteLoftModel$Rig", "area", "I", true)
  | 1 => ("ChuteLoftModel$Rig", "due", "I", false)
  | 2 => ("ChuteLoftModel$Rig", "neat", "I", false)
  | 3 => ("ChuteLoftModel$Rig", "isPacked", "Z", false)
  | _ => ("ChuteLoftModel$Rig", "wear", "F", false)
def tyX8 : Nat → FieldType := fun k => match k with
  | 0 => .int
  | 1 => .int
  | 2 => .int
  | 3 => .boolean
  | _ => .float
abbrev wsX80 : List Cond := u_ws RX8 TX8 5
theorem nmX8 : ∀ a, a < 5 → ∀ b, b < 5 → a ≠ b → (TX8 a).2.1 ≠ (TX8 b).2.1 := by decide +kernel
theorem tyX8_ok : ∀ k, k < 5 → parseFieldDescriptor (TX8 k).2.2.1 = some (tyX8 k) := by decide +kernel
abbrev cX8_init : ByteArray := prog_11_method_1_code
def yX8_init : MethodName := ⟨RX8, "<init>", "(II)V"⟩
def RX9 : String := "ChuteLoftModel"
def TX9 : u_T := fun k => match k with
  | 0 => ("ChuteLoftModel", "thrown", "I", false)
  | 1 => ("ChuteLoftModel", "jumpers", "Ljava/util/List;", true)
  | 2 => ("ChuteLoftModel", "rigs", "Ljava/util/List;", true)
  | 3 => ("ChuteLoftModel", "wx", "[I", true)
  | 4 => ("ChuteLoftModel", "wy", "[I", true)
  | 5 => ("ChuteLoftModel", "day", "I", false)
  | 6 => ("ChuteLoftModel", "draw", "I", false)
  | 7 => ("ChuteLoftModel", "flights", "I", false)
  | 8 => ("ChuteLoftModel", "jumps", "I", false)
  | 9 => ("ChuteLoftModel", "troubles", "I", false)
  | 10 => ("ChuteLoftModel", "offs", "I", false)
  | 11 => ("ChuteLoftModel", "met", "I", false)
  | 12 => ("ChuteLoftModel", "isHeld", "Z", false)
  | _ => ("ChuteLoftModel", "refused", "I", false)
def tyX9 : Nat → FieldType := fun k => match k with
  | 0 => .int
  | 1 => .object "java/util/List"
  | 2 => .object "java/util/List"
  | 3 => .array .int
  | 4 => .array .int
  | 5 => .int
  | 6 => .int
  | 7 => .int
  | 8 => .int
  | 9 => .int
  | 10 => .int
  | 11 => .int
  | 12 => .boolean
  | _ => .int
abbrev wsX90 : List Cond := u_ws RX9 TX9 14
theorem nmX9 : ∀ a, a < 14 → ∀ b, b < 14 → a ≠ b → (TX9 a).2.1 ≠ (TX9 b).2.1 := by decide +kernel
theorem tyX9_ok : ∀ k, k < 14 → parseFieldDescriptor (TX9 k).2.2.1 = some (tyX9 k) := by decide +kernel
abbrev cX9_init : ByteArray := prog_8_method_1_code
def yX9_init : MethodName := ⟨RX9, "<init>", "()V"⟩
abbrev cX9_thrown : ByteArray := prog_8_method_2_code
def yX9_thrown : MethodName := ⟨RX9, "thrown", "()I"⟩
abbrev cX9_no : ByteArray := prog_8_method_3_code
def yX9_no : MethodName := ⟨RX9, "no", "(I)I"⟩
abbrev cX9_in : ByteArray := prog_8_method_4_code
def yX9_in : MethodName := ⟨RX9, "in", "(III)Z"⟩
abbrev cX9_isJumper : ByteArray := prog_8_method_5_code
def yX9_isJumper : MethodName := ⟨RX9, "isJumper", "(I)Z"⟩
abbrev cX9_isRig : ByteArray := prog_8_method_6_code
def yX9_isRig : MethodName := ⟨RX9, "isRig", "(I)Z"⟩
abbrev cX9_loading : ByteArray := prog_8_method_7_code
def yX9_loading : MethodName := ⟨RX9, "loading", "(LChuteLoftModel$Jumper;LChuteLoftModel$Rig;)F"⟩
abbrev cX9_loading_ : ByteArray := prog_8_method_8_code
def yX9_loading_ : MethodName := ⟨RX9, "loading", "(LChuteLoftModel$Jumper;)F"⟩
abbrev cX9_holder : ByteArray := prog_8_method_9_code
def yX9_holder : MethodName := ⟨RX9, "holder", "(I)I"⟩
abbrev cX9_aboard : ByteArray := prog_8_method_10_code
def yX9_aboard : MethodName := ⟨RX9, "aboard", "()I"⟩
abbrev cX9_ground : ByteArray := prog_8_method_11_code
def yX9_ground : MethodName := ⟨RX9, "ground", "()I"⟩
abbrev cX9_isAhead : ByteArray := prog_8_method_12_code
def yX9_isAhead : MethodName := ⟨RX9, "isAhead", "(II)Z"⟩
abbrev cX9_placeOf : ByteArray := prog_8_method_13_code
def yX9_placeOf : MethodName := ⟨RX9, "placeOf", "(I)I"⟩
abbrev cX9_at : ByteArray := prog_8_method_14_code
def yX9_at : MethodName := ⟨RX9, "at", "(I)I"⟩
abbrev cX9_flight : ByteArray := prog_8_method_15_code
def yX9_flight : MethodName := ⟨RX9, "flight", "(II)Ljava/util/List;"⟩
abbrev cX9_go : ByteArray := prog_8_method_16_code
def yX9_go : MethodName := ⟨RX9, "go", "(Ljava/util/List;)I"⟩
abbrev cX9_points : ByteArray := prog_8_method_17_code
def yX9_points : MethodName := ⟨RX9, "points", "(Ljava/util/List;)I"⟩
abbrev cX9_jumper : ByteArray := prog_8_method_18_code
def yX9_jumper : MethodName := ⟨RX9, "jumper", "(II)I"⟩
abbrev cX9_rig : ByteArray := prog_8_method_19_code
def yX9_rig : MethodName := ⟨RX9, "rig", "(II)I"⟩
abbrev cX9_lend : ByteArray := prog_8_method_20_code
def yX9_lend : MethodName := ⟨RX9, "lend", "(II)I"⟩
abbrev cX9_pack : ByteArray := prog_8_method_21_code
def yX9_pack : MethodName := ⟨RX9, "pack", "(II)I"⟩
abbrev cX9_renew : ByteArray := prog_8_method_22_code
def yX9_renew : MethodName := ⟨RX9, "renew", "(I)I"⟩
abbrev cX9_pass : ByteArray := prog_8_method_23_code
def yX9_pass : MethodName := ⟨RX9, "pass", "(I)I"⟩
abbrev cX9_wind : ByteArray := prog_8_method_24_code
def yX9_wind : MethodName := ⟨RX9, "wind", "(III)I"⟩
abbrev cX9_most : ByteArray := prog_8_method_25_code
def yX9_most : MethodName := ⟨RX9, "most", "(LChuteLoftModel$Jumper;)F"⟩
abbrev cX9_why : ByteArray := prog_8_method_26_code
def yX9_why : MethodName := ⟨RX9, "why", "(LChuteLoftModel$Jumper;)I"⟩
abbrev cX9_board : ByteArray := prog_8_method_27_code
def yX9_board : MethodName := ⟨RX9, "board", "(III)I"⟩
abbrev cX9_empty : ByteArray := prog_8_method_28_code
def yX9_empty : MethodName := ⟨RX9, "empty", "()I"⟩
abbrev cX9_fly : ByteArray := prog_8_method_29_code
def yX9_fly : MethodName := ⟨RX9, "fly", "(II)I"⟩
abbrev cX9_land : ByteArray := prog_8_method_30_code
def yX9_land : MethodName := ⟨RX9, "land", "(LChuteLoftModel$Jump;)V"⟩
abbrev cX9_hold : ByteArray := prog_8_method_31_code
def yX9_hold : MethodName := ⟨RX9, "hold", "(Z)Z"⟩
abbrev cX9_gong : ByteArray := prog_8_method_32_code
def yX9_gong : MethodName := ⟨RX9, "gong", "()I"⟩
abbrev cX9_jumperNow : ByteArray := prog_8_method_33_code
def yX9_jumperNow : MethodName := ⟨RX9, "jumperNow", "(II)I"⟩
abbrev cX9_ofJumper : ByteArray := prog_8_method_34_code
def yX9_ofJumper : MethodName := ⟨RX9, "ofJumper", "(II)I"⟩
abbrev cX9_loading__ : ByteArray := prog_8_method_35_code
def yX9_loading__ : MethodName := ⟨RX9, "loading", "(I)D"⟩
abbrev cX9_landed : ByteArray := prog_8_method_36_code
def yX9_landed : MethodName := ⟨RX9, "landed", "(IZ)D"⟩
abbrev cX9_refuses : ByteArray := prog_8_method_37_code
def yX9_refuses : MethodName := ⟨RX9, "refuses", "(I)I"⟩
abbrev cX9_rigNow : ByteArray := prog_8_method_38_code
def yX9_rigNow : MethodName := ⟨RX9, "rigNow", "(II)I"⟩
abbrev cX9_ofRig : ByteArray := prog_8_method_39_code
def yX9_ofRig : MethodName := ⟨RX9, "ofRig", "(II)I"⟩
abbrev cX9_wear : ByteArray := prog_8_method_40_code
def yX9_wear : MethodName := ⟨RX9, "wear", "(I)D"⟩
abbrev cX9_ofWind : ByteArray := prog_8_method_41_code
def yX9_ofWind : MethodName := ⟨RX9, "ofWind", "(IZ)I"⟩
abbrev cX9_manyNow : ByteArray := prog_8_method_42_code
def yX9_manyNow : MethodName := ⟨RX9, "manyNow", "(I)I"⟩
abbrev cX9_many : ByteArray := prog_8_method_43_code
def yX9_many : MethodName := ⟨RX9, "many", "(I)I"⟩
abbrev cX9_order : ByteArray := prog_8_method_44_code
def yX9_order : MethodName := ⟨RX9, "order", "(I)I"⟩
abbrev cX9_refusal : ByteArray := prog_8_method_45_code
def yX9_refusal : MethodName := ⟨RX9, "refusal", "(IIII)I"⟩
abbrev cX9_wouldLand : ByteArray := prog_8_method_46_code
def yX9_wouldLand : MethodName := ⟨RX9, "wouldLand", "(IIIIZ)D"⟩
abbrev cX9_takes : ByteArray := prog_8_method_47_code
def yX9_takes : MethodName := ⟨RX9, "takes", "(III)I"⟩
abbrev cX9_spotNow : ByteArray := prog_8_method_48_code
def yX9_spotNow : MethodName := ⟨RX9, "spotNow", "(I)I"⟩
abbrev cX9_spot : ByteArray := prog_8_method_49_code
def yX9_spot : MethodName := ⟨RX9, "spot", "(I)I"⟩
abbrev cX9_wouldMeet : ByteArray := prog_8_method_50_code
def yX9_wouldMeet : MethodName := ⟨RX9, "wouldMeet", "(II)I"⟩
abbrev cX9_bestNow : ByteArray := prog_8_method_51_code
def yX9_bestNow : MethodName := ⟨RX9, "bestNow", "(I)I"⟩
abbrev cX9_best : ByteArray := prog_8_method_52_code
def yX9_best : MethodName := ⟨RX9, "best", "(I)I"⟩
abbrev cX9_digest : ByteArray := prog_8_method_53_code
def yX9_digest : MethodName := ⟨RX9, "digest", "()J"⟩
def RJx145de : String := "java/io/Serializable"
def TJx145de : u_T := fun k => match k with
  | _ => ("", "", "", false)
def tyJx145de : Nat → FieldType := fun k => match k with
  | _ => .int
abbrev wsJx145de0 : List Cond := u_ws RJx145de TJx145de 0
theorem nmJx145de : ∀ a, a < 0 → ∀ b, b < 0 → a ≠ b → (TJx145de a).2.1 ≠ (TJx145de b).2.1 := by decide +kernel
theorem tyJx145de_ok : ∀ k, k < 0 → parseFieldDescriptor (TJx145de k).2.2.1 = some (tyJx145de k) := by decide +kernel
def RJx8e188 : String := "java/lang/Cloneable"
def TJx8e188 : u_T := fun k => match k with
  | _ => ("", "", "", false)
def tyJx8e188 : Nat → FieldType := fun k => match k with
  | _ => .int
abbrev wsJx8e1880 : List Cond := u_ws RJx8e188 TJx8e188 0
theorem nmJx8e188 : ∀ a, a < 0 → ∀ b, b < 0 → a ≠ b → (TJx8e188 a).2.1 ≠ (TJx8e188 b).2.1 := by decide +kernel
theorem tyJx8e188_ok : ∀ k, k < 0 → parseFieldDescriptor (TJx8e188 k).2.2.1 = some (tyJx8e188 k) := by decide +kernel
def RJxb160c : String := "java/lang/Comparable"
def TJxb160c : u_T := fun k => match k with
  | _ => ("", "", "", false)
def tyJxb160c : Nat → FieldType := fun k => match k with
  | _ => .int
abbrev wsJxb160c0 : List Cond := u_ws RJxb160c TJxb160c 0
theorem nmJxb160c : ∀ a, a < 0 → ∀ b, b < 0 → a ≠ b → (TJxb160c a).2.1 ≠ (TJxb160c b).2.1 := by decide +kernel
theorem tyJxb160c_ok : ∀ k, k < 0 → parseFieldDescriptor (TJxb160c k).2.2.1 = some (tyJxb160c k) := by decide +kernel
def RJxe99ae : String := "java/lang/Double"
def TJxe99ae : u_T := fun k => match k with
  | _ => ("", "", "", false)
def tyJxe99ae : Nat → FieldType := fun k => match k with
  | _ => .int
abbrev wsJxe99ae0 : List Cond := u_ws RJxe99ae TJxe99ae 0
theorem nmJxe99ae : ∀ a, a < 0 → ∀ b, b < 0 → a ≠ b → (TJxe99ae a).2.1 ≠ (TJxe99ae b).2.1 := by decide +kernel
theorem tyJxe99ae_ok : ∀ k, k < 0 → parseFieldDescriptor (TJxe99ae k).2.2.1 = some (tyJxe99ae k) := by decide +kernel
def RJxab1ab : String := "java/lang/Iterable"
def TJxab1ab : u_T := fun k => match k with
  | _ => ("", "", "", false)
def tyJxab1ab : Nat → FieldType := fun k => match k with
  | _ => .int
abbrev wsJxab1ab0 : List Cond := u_ws RJxab1ab TJxab1ab 0
theorem nmJxab1ab : ∀ a, a < 0 → ∀ b, b < 0 → a ≠ b → (TJxab1ab a).2.1 ≠ (TJxab1ab b).2.1 := by decide +kernel
theorem tyJxab1ab_ok : ∀ k, k < 0 → parseFieldDescriptor (TJxab1ab k).2.2.1 = some (tyJxab1ab k) := by decide +kernel
def RJ9 : String := "java/lang/Math"
def TJ9 : u_T := fun k => match k with
  | _ => ("", "", "", false)
def tyJ9 : Nat → FieldType := fun k => match k with
  | _ => .int
abbrev wsJ90 : List Cond := u_ws RJ9 TJ9 0
theorem nmJ9 : ∀ a, a < 0 → ∀ b, b < 0 → a ≠ b → (TJ9 a).2.1 ≠ (TJ9 b).2.1 := by decide +kernel
theorem tyJ9_ok : ∀ k, k < 0 → parseFieldDescriptor (TJ9 k).2.2.1 = some (tyJ9 k) := by decide +kernel
abbrev cJ9_abs_0f7a4 : ByteArray := prog_21_method_59_code
def yJ9_abs_0f7a4 : MethodName := ⟨RJ9, "abs", "(I)I"⟩
abbrev cJ9_abs_294c1 : ByteArray := prog_21_method_64_code
def yJ9_abs_294c1 : MethodName := ⟨RJ9, "abs", "(D)D"⟩
abbrev cJ9_max_7cf53 : ByteArray := prog_21_method_65_code
def yJ9_max_7cf53 : MethodName := ⟨RJ9, "max", "(II)I"⟩
abbrev cJ9_max_eb370 : ByteArray := prog_21_method_68_code
def yJ9_max_eb370 : MethodName := ⟨RJ9, "max", "(DD)D"⟩
abbrev cJ9_min_7cf53 : ByteArray := prog_21_method_69_code
def yJ9_min_7cf53 : MethodName := ⟨RJ9, "min", "(II)I"⟩
abbrev cJ9_min_eb370 : ByteArray := prog_21_method_72_code
def yJ9_min_eb370 : MethodName := ⟨RJ9, "min", "(DD)D"⟩
def RJxd2413 : String := "java/lang/Number"
def TJxd2413 : u_T := fun k => match k with
  | _ => ("", "", "", false)
def tyJxd2413 : Nat → FieldType := fun k => match k with
  | _ => .int
abbrev wsJxd24130 : List Cond := u_ws RJxd2413 TJxd2413 0
theorem nmJxd2413 : ∀ a, a < 0 → ∀ b, b < 0 → a ≠ b → (TJxd2413 a).2.1 ≠ (TJxd2413 b).2.1 := by decide +kernel
theorem tyJxd2413_ok : ∀ k, k < 0 → parseFieldDescriptor (TJxd2413 k).2.2.1 = some (tyJxd2413 k) := by decide +kernel
def RJ0 : String := "java/lang/String"
def TJ0 : u_T := fun k => match k with
  | _ => ("", "", "", false)
def tyJ0 : Nat → FieldType := fun k => match k with
  | _ => .int
abbrev wsJ00 : List Cond := u_ws RJ0 TJ0 0
theorem nmJ0 : ∀ a, a < 0 → ∀ b, b < 0 → a ≠ b → (TJ0 a).2.1 ≠ (TJ0 b).2.1 := by decide +kernel
theorem tyJ0_ok : ∀ k, k < 0 → parseFieldDescriptor (TJ0 k).2.2.1 = some (tyJ0 k) := by decide +kernel
def RJ10 : String := "java/lang/System"
def TJ10 : u_T := fun k => match k with
  | _ => ("", "", "", false)
def tyJ10 : Nat → FieldType := fun k => match k with
  | _ => .int
abbrev wsJ100 : List Cond := u_ws RJ10 TJ10 0
theorem nmJ10 : ∀ a, a < 0 → ∀ b, b < 0 → a ≠ b → (TJ10 a).2.1 ≠ (TJ10 b).2.1 := by decide +kernel
theorem tyJ10_ok : ∀ k, k < 0 → parseFieldDescriptor (TJ10 k).2.2.1 = some (tyJ10 k) := by decide +kernel
def RJxfd54e : String := "java/lang/constant/Constable"
def TJxfd54e : u_T := fun k => match k with
  | _ => ("", "", "", false)
def tyJxfd54e : Nat → FieldType := fun k => match k with
  | _ => .int
abbrev wsJxfd54e0 : List Cond := u_ws RJxfd54e TJxfd54e 0
theorem nmJxfd54e : ∀ a, a < 0 → ∀ b, b < 0 → a ≠ b → (TJxfd54e a).2.1 ≠ (TJxfd54e b).2.1 := by decide +kernel
theorem tyJxfd54e_ok : ∀ k, k < 0 → parseFieldDescriptor (TJxfd54e k).2.2.1 = some (tyJxfd54e k) := by decide +kernel
def RJx3cf43 : String := "java/lang/constant/ConstantDesc"
def TJx3cf43 : u_T := fun k => match k with
  | _ => ("", "", "", false)
def tyJx3cf43 : Nat → FieldType := fun k => match k with
  | _ => .int
abbrev wsJx3cf430 : List Cond := u_ws RJx3cf43 TJx3cf43 0
theorem nmJx3cf43 : ∀ a, a < 0 → ∀ b, b < 0 → a ≠ b → (TJx3cf43 a).2.1 ≠ (TJx3cf43 b).2.1 := by decide +kernel
theorem tyJx3cf43_ok : ∀ k, k < 0 → parseFieldDescriptor (TJx3cf43 k).2.2.1 = some (tyJx3cf43 k) := by decide +kernel
def RJxa1e45 : String := "java/util/AbstractCollection"
def TJxa1e45 : u_T := fun k => match k with
  | _ => ("", "", "", false)
def tyJxa1e45 : Nat → FieldType := fun k => match k with
  | _ => .int
abbrev wsJxa1e450 : List Cond := u_ws RJxa1e45 TJxa1e45 0
theorem nmJxa1e45 : ∀ a, a < 0 → ∀ b, b < 0 → a ≠ b → (TJxa1e45 a).2.1 ≠ (TJxa1e45 b).2.1 := by decide +kernel
theorem tyJxa1e45_ok : ∀ k, k < 0 → parseFieldDescriptor (TJxa1e45 k).2.2.1 = some (tyJxa1e45 k) := by decide +kernel
abbrev cJxa1e45_init_da8c8 : ByteArray := prog_29_method_1_code
def yJxa1e45_init_da8c8 : MethodName := ⟨RJxa1e45, "<init>", "()V"⟩
def RJxc12de : String := "java/util/AbstractList"
def TJxc12de : u_T := fun k => match k with
  | _ => ("", "", "", false)
def tyJxc12de : Nat → FieldType := fun k => match k with
  | _ => .int
abbrev wsJxc12de0 : List Cond := u_ws RJxc12de TJxc12de 0
theorem nmJxc12de : ∀ a, a < 0 → ∀ b, b < 0 → a ≠ b → (TJxc12de a).2.1 ≠ (TJxc12de b).2.1 := by decide +kernel
theorem tyJxc12de_ok : ∀ k, k < 0 → parseFieldDescriptor (TJxc12de k).2.2.1 = some (tyJxc12de k) := by decide +kernel
abbrev cJxc12de_init_da8c8 : ByteArray := prog_30_method_1_code
def yJxc12de_init_da8c8 : MethodName := ⟨RJxc12de, "<init>", "()V"⟩
def RJx4a65c : String := "java/util/ArrayList"
def TJx4a65c : u_T := fun k => match k with
  | 0 => ("java/util/AbstractList", "modCount", "I", false)
  | 1 => ("java/util/ArrayList", "elementData", "[Ljava/lang/Object;", false)
  | _ => ("java/util/ArrayList", "size", "I", false)
def tyJx4a65c : Nat → FieldType := fun k => match k with
  | 0 => .int
  | 1 => .array (.object "java/lang/Object")
  | _ => .int
abbrev wsJx4a65c0 : List Cond := u_ws RJx4a65c TJx4a65c 3
theorem nmJx4a65c : ∀ a, a < 3 → ∀ b, b < 3 → a ≠ b → (TJx4a65c a).2.1 ≠ (TJx4a65c b).2.1 := by decide +kernel
theorem tyJx4a65c_ok : ∀ k, k < 3 → parseFieldDescriptor (TJx4a65c k).2.2.1 = some (tyJx4a65c k) := by decide +kernel
abbrev cJx4a65c_init_da8c8 : ByteArray := prog_31_method_2_code
def yJx4a65c_init_da8c8 : MethodName := ⟨RJx4a65c, "<init>", "()V"⟩
abbrev cJx4a65c_grow_92f84 : ByteArray := prog_31_method_6_code
def yJx4a65c_grow_92f84 : MethodName := ⟨RJx4a65c, "grow", "(I)[Ljava/lang/Object;"⟩
abbrev cJx4a65c_grow_d5877 : ByteArray := prog_31_method_7_code
def yJx4a65c_grow_d5877 : MethodName := ⟨RJx4a65c, "grow", "()[Ljava/lang/Object;"⟩
abbrev cJx4a65c_size_8abf5 : ByteArray := prog_31_method_8_code
def yJx4a65c_size_8abf5 : MethodName := ⟨RJx4a65c, "size", "()I"⟩
abbrev cJx4a65c_elementData_915e3 : ByteArray := prog_31_method_18_code
def yJx4a65c_elementData_915e3 : MethodName := ⟨RJx4a65c, "elementData", "(I)Ljava/lang/Object;"⟩
abbrev cJx4a65c_get_915e3 : ByteArray := prog_31_method_20_code
def yJx4a65c_get_915e3 : MethodName := ⟨RJx4a65c, "get", "(I)Ljava/lang/Object;"⟩
abbrev cJx4a65c_add_72be8 : ByteArray := prog_31_method_24_code
def yJx4a65c_add_72be8 : MethodName := ⟨RJx4a65c, "add", "(Ljava/lang/Object;[Ljava/lang/Object;I)V"⟩
abbrev cJx4a65c_add_9ea2d : ByteArray := prog_31_method_25_code
def yJx4a65c_add_9ea2d : MethodName := ⟨RJx4a65c, "add", "(Ljava/lang/Object;)Z"⟩
def RJ7 : String := "java/util/Arrays"
def TJ7 : u_T := fun k => match k with
  | _ => ("", "", "", false)
def tyJ7 : Nat → FieldType := fun k => match k with
  | _ => .int
abbrev wsJ70 : List Cond := u_ws RJ7 TJ7 0
theorem nmJ7 : ∀ a, a < 0 → ∀ b, b < 0 → a ≠ b → (TJ7 a).2.1 ≠ (TJ7 b).2.1 := by decide +kernel
theorem tyJ7_ok : ∀ k, k < 0 → parseFieldDescriptor (TJ7 k).2.2.1 = some (tyJ7 k) := by decide +kernel
abbrev cJ7_copyOf_1904c : ByteArray := prog_32_method_119_code
def yJ7_copyOf_1904c : MethodName := ⟨RJ7, "copyOf", "([Ljava/lang/Object;I)[Ljava/lang/Object;"⟩
abbrev cJ7_copyOf_6403c : ByteArray := prog_32_method_120_code
def yJ7_copyOf_6403c : MethodName := ⟨RJ7, "copyOf", "([Ljava/lang/Object;ILjava/lang/Class;)[Ljava/lang/Object;"⟩
def RJx5ef63 : String := "java/util/Collection"
def TJx5ef63 : u_T := fun k => match k with
  | _ => ("", "", "", false)
def tyJx5ef63 : Nat → FieldType := fun k => match k with
  | _ => .int
abbrev wsJx5ef630 : List Cond := u_ws RJx5ef63 TJx5ef63 0
theorem nmJx5ef63 : ∀ a, a < 0 → ∀ b, b < 0 → a ≠ b → (TJx5ef63 a).2.1 ≠ (TJx5ef63 b).2.1 := by decide +kernel
theorem tyJx5ef63_ok : ∀ k, k < 0 → parseFieldDescriptor (TJx5ef63 k).2.2.1 = some (tyJx5ef63 k) := by decide +kernel
def RJxbd725 : String := "java/util/List"
def TJxbd725 : u_T := fun k => match k with
  | _ => ("", "", "", false)
def tyJxbd725 : Nat → FieldType := fun k => match k with
  | _ => .int
abbrev wsJxbd7250 : List Cond := u_ws RJxbd725 TJxbd725 0
theorem nmJxbd725 : ∀ a, a < 0 → ∀ b, b < 0 → a ≠ b → (TJxbd725 a).2.1 ≠ (TJxbd725 b).2.1 := by decide +kernel
theorem tyJxbd725_ok : ∀ k, k < 0 → parseFieldDescriptor (TJxbd725 k).2.2.1 = some (tyJxbd725 k) := by decide +kernel
def RJ15 : String := "java/util/Objects"
def TJ15 : u_T := fun k => match k with
  | _ => ("", "", "", false)
def tyJ15 : Nat → FieldType := fun k => match k with
  | _ => .int
abbrev wsJ150 : List Cond := u_ws RJ15 TJ15 0
theorem nmJ15 : ∀ a, a < 0 → ∀ b, b < 0 → a ≠ b → (TJ15 a).2.1 ≠ (TJ15 b).2.1 := by decide +kernel
theorem tyJ15_ok : ∀ k, k < 0 → parseFieldDescriptor (TJ15 k).2.2.1 = some (tyJ15 k) := by decide +kernel
abbrev cJ15_checkIndex_7cf53 : ByteArray := prog_35_method_17_code
def yJ15_checkIndex_7cf53 : MethodName := ⟨RJ15, "checkIndex", "(II)I"⟩
def RJxf0a74 : String := "java/util/RandomAccess"
def TJxf0a74 : u_T := fun k => match k with
  | _ => ("", "", "", false)
def tyJxf0a74 : Nat → FieldType := fun k => match k with
  | _ => .int
abbrev wsJxf0a740 : List Cond := u_ws RJxf0a74 TJxf0a74 0
theorem nmJxf0a74 : ∀ a, a < 0 → ∀ b, b < 0 → a ≠ b → (TJxf0a74 a).2.1 ≠ (TJxf0a74 b).2.1 := by decide +kernel
theorem tyJxf0a74_ok : ∀ k, k < 0 → parseFieldDescriptor (TJxf0a74 k).2.2.1 = some (tyJxf0a74 k) := by decide +kernel
def RJxa66e6 : String := "java/util/SequencedCollection"
def TJxa66e6 : u_T := fun k => match k with
  | _ => ("", "", "", false)
def tyJxa66e6 : Nat → FieldType := fun k => match k with
  | _ => .int
abbrev wsJxa66e60 : List Cond := u_ws RJxa66e6 TJxa66e6 0
theorem nmJxa66e6 : ∀ a, a < 0 → ∀ b, b < 0 → a ≠ b → (TJxa66e6 a).2.1 ≠ (TJxa66e6 b).2.1 := by decide +kernel
theorem tyJxa66e6_ok : ∀ k, k < 0 → parseFieldDescriptor (TJxa66e6 k).2.2.1 = some (tyJxa66e6 k) := by decide +kernel
def RJ8 : String := "jdk/internal/util/ArraysSupport"
def TJ8 : u_T := fun k => match k with
  | _ => ("", "", "", false)
def tyJ8 : Nat → FieldType := fun k => match k with
  | _ => .int
abbrev wsJ80 : List Cond := u_ws RJ8 TJ8 0
theorem nmJ8 : ∀ a, a < 0 → ∀ b, b < 0 → a ≠ b → (TJ8 a).2.1 ≠ (TJ8 b).2.1 := by decide +kernel
theorem tyJ8_ok : ∀ k, k < 0 → parseFieldDescriptor (TJ8 k).2.2.1 = some (tyJ8 k) := by decide +kernel
abbrev cJ8_newLength_cabcc : ByteArray := prog_38_method_27_code
def yJ8_newLength_cabcc : MethodName := ⟨RJ8, "newLength", "(III)I"⟩
abbrev cJ8_hugeLength_7cf53 : ByteArray := prog_38_method_28_code
def yJ8_hugeLength_7cf53 : MethodName := ⟨RJ8, "hugeLength", "(II)I"⟩
def RJ3 : String := "jdk/internal/util/Preconditions"
def TJ3 : u_T := fun k => match k with
  | _ => ("", "", "", false)
def tyJ3 : Nat → FieldType := fun k => match k with
  | _ => .int
abbrev wsJ30 : List Cond := u_ws RJ3 TJ3 0
theorem nmJ3 : ∀ a, a < 0 → ∀ b, b < 0 → a ≠ b → (TJ3 a).2.1 ≠ (TJ3 b).2.1 := by decide +kernel
theorem tyJ3_ok : ∀ k, k < 0 → parseFieldDescriptor (TJ3 k).2.2.1 = some (tyJ3 k) := by decide +kernel
abbrev cJ3_checkIndex_8e157 : ByteArray := prog_39_method_11_code
def yJ3_checkIndex_8e157 : MethodName := ⟨RJ3, "checkIndex", "(IILjava/util/function/BiFunction;)I"⟩
def RL : String := "ChuteLoftLaw"
abbrev cL_jumper : ByteArray := method_3_code
def yL_jumper : MethodName := ⟨RL, "jumper", "(LChuteLoft;II[J)I"⟩
abbrev cL_rig : ByteArray := method_4_code
def yL_rig : MethodName := ⟨RL, "rig", "(LChuteLoft;II[J)I"⟩
abbrev cL_lend : ByteArray := method_5_code
def yL_lend : MethodName := ⟨RL, "lend", "(LChuteLoft;II[J)I"⟩
abbrev cL_pack : ByteArray := method_6_code
def yL_pack : MethodName := ⟨RL, "pack", "(LChuteLoft;II[J)I"⟩
abbrev cL_renew : ByteArray := method_7_code
def yL_renew : MethodName := ⟨RL, "renew", "(LChuteLoft;I[J)I"⟩
abbrev cL_pass : ByteArray := method_8_code
def yL_pass : MethodName := ⟨RL, "pass", "(LChuteLoft;I[J)I"⟩
abbrev cL_wind : ByteArray := method_9_code
def yL_wind : MethodName := ⟨RL, "wind", "(LChuteLoft;III[J)I"⟩
abbrev cL_board : ByteArray := method_10_code
def yL_board : MethodName := ⟨RL, "board", "(LChuteLoft;III[J)I"⟩
abbrev cL_fly : ByteArray := method_11_code
def yL_fly : MethodName := ⟨RL, "fly", "(LChuteLoft;II[J)I"⟩
abbrev cL_ofJumper : ByteArray := method_12_code
def yL_ofJumper : MethodName := ⟨RL, "ofJumper", "(LChuteLoft;II[J)I"⟩
abbrev cL_loading : ByteArray := method_13_code
def yL_loading : MethodName := ⟨RL, "loading", "(LChuteLoft;I[D)I"⟩
abbrev cL_landed : ByteArray := method_14_code
def yL_landed : MethodName := ⟨RL, "landed", "(LChuteLoft;IZ[D)I"⟩
abbrev cL_refuses : ByteArray := method_15_code
def yL_refuses : MethodName := ⟨RL, "refuses", "(LChuteLoft;I[J)I"⟩
abbrev cL_ofRig : ByteArray := method_16_code
def yL_ofRig : MethodName := ⟨RL, "ofRig", "(LChuteLoft;II[J)I"⟩
abbrev cL_wear : ByteArray := method_17_code
def yL_wear : MethodName := ⟨RL, "wear", "(LChuteLoft;I[D)I"⟩
abbrev cL_ofWind : ByteArray := method_18_code
def yL_ofWind : MethodName := ⟨RL, "ofWind", "(LChuteLoft;IZ[J)I"⟩
abbrev cL_many : ByteArray := method_19_code
def yL_many : MethodName := ⟨RL, "many", "(LChuteLoft;I[J)I"⟩
abbrev cL_order : ByteArray := method_20_code
def yL_order : MethodName := ⟨RL, "order", "(LChuteLoft;I[J)I"⟩
abbrev cL_wouldLand : ByteArray := method_21_code
def yL_wouldLand : MethodName := ⟨RL, "wouldLand", "(LChuteLoft;IIIIZ[D)I"⟩
abbrev cL_takes : ByteArray := method_22_code
def yL_takes : MethodName := ⟨RL, "takes", "(LChuteLoft;III[J)I"⟩
abbrev cL_spot : ByteArray := method_23_code
def yL_spot : MethodName := ⟨RL, "spot", "(LChuteLoft;I[J)I"⟩
abbrev cL_wouldMeet : ByteArray := method_24_code
def yL_wouldMeet : MethodName := ⟨RL, "wouldMeet", "(LChuteLoft;II[J)I"⟩
abbrev cL_best : ByteArray := method_25_code
def yL_best : MethodName := ⟨RL, "best", "(LChuteLoft;I[J)I"⟩
abbrev cL_law : ByteArray := code
def yL_law : MethodName := ⟨RL, "law", "([I)Z"⟩
abbrev vwCl : List vw_C := [(RJx4a65c, TJx4a65c, 3), (RX0, TX0, 2), (RX1, TX1, 11), (RX2, TX2, 12), (RX3, TX3, 5), (RX4, TX4, 2), (RX5, TX5, 18), (RX6, TX6, 13), (RX7, TX7, 12), (RX8, TX8, 5), (RX9, TX9, 14)]
