def RX0 : String := "ReplayBooth$1"
def TX0 : u_T := fun k => match k with
  | _ => ("", "", "", false)
def tyX0 : Nat → FieldType := fun k => match k with
  | _ => .int
abbrev wsX00 : List Cond := u_ws RX0 TX0 0
theorem nmX0 : ∀ a, a < 0 → ∀ b, b < 0 → a ≠ b → (TX0 a).2.1 ≠ (TX0 b).2.1 := by decide +kernel
theorem tyX0_ok : ∀ k, k < 0 → parseFieldDescriptor (TX0 k).2.2.1 = some (tyX0 k) := by decide +kernel
def RX1 : String := "ReplayBooth$Board"
def TX1 : u_T := fun k => match k with
  | 0 => ("ReplayBooth$Board", "need", "I", false)
  | 1 => ("ReplayBooth$Board", "members", "I", false)
  | _ => ("ReplayBooth$Board", "cameras", "[I", true)
def tyX1 : Nat → FieldType := fun k => match k with
  | 0 => .int
  | 1 => .int
  | _ => .array .int
abbrev wsX10 : List Cond := u_ws RX1 TX1 3
theorem nmX1 : ∀ a, a < 3 → ∀ b, b < 3 → a ≠ b → (TX1 a).2.1 ≠ (TX1 b).2.1 := by decide +kernel
theorem tyX1_ok : ∀ k, k < 3 → parseFieldDescriptor (TX1 k).2.2.1 = some (tyX1 k) := by decide +kernel
abbrev cX1_init : ByteArray := prog_3_method_1_code
def yX1_init : MethodName := ⟨RX1, "<init>", "()V"⟩
def RX2 : String := "ReplayBooth$Bounds"
def TX2 : u_T := fun k => match k with
  | 0 => ("ReplayBooth$Bounds", "most", "[I", true)
  | _ => ("ReplayBooth$Bounds", "torn", "Z", false)
def tyX2 : Nat → FieldType := fun k => match k with
  | 0 => .array .int
  | _ => .boolean
abbrev wsX20 : List Cond := u_ws RX2 TX2 2
theorem nmX2 : ∀ a, a < 2 → ∀ b, b < 2 → a ≠ b → (TX2 a).2.1 ≠ (TX2 b).2.1 := by decide +kernel
theorem tyX2_ok : ∀ k, k < 2 → parseFieldDescriptor (TX2 k).2.2.1 = some (tyX2 k) := by decide +kernel
abbrev cX2_init : ByteArray := prog_4_method_1_code
def yX2_init : MethodName := ⟨RX2, "<init>", "()V"⟩
abbrev cX2_clear : ByteArray := prog_4_method_2_code
def yX2_clear : MethodName := ⟨RX2, "clear", "()V"⟩
abbrev cX2_copyFrom : ByteArray := prog_4_method_3_code
def yX2_copyFrom : MethodName := ⟨RX2, "copyFrom", "(LReplayBooth$Bounds;)V"⟩
abbrev cX2_tell : ByteArray := prog_4_method_4_code
def yX2_tell : MethodName := ⟨RX2, "tell", "(III)V"⟩
abbrev cX2_tellLate : ByteArray := prog_4_method_5_code
def yX2_tellLate : MethodName := ⟨RX2, "tellLate", "(III)V"⟩
abbrev cX2_tellFlash : ByteArray := prog_4_method_6_code
def yX2_tellFlash : MethodName := ⟨RX2, "tellFlash", "(IIII)V"⟩
abbrev cX2_markLess : ByteArray := prog_4_method_7_code
def yX2_markLess : MethodName := ⟨RX2, "markLess", "(II)I"⟩
abbrev cX2_lateLeast : ByteArray := prog_4_method_8_code
def yX2_lateLeast : MethodName := ⟨RX2, "lateLeast", "(I)I"⟩
abbrev cX2_lateMost : ByteArray := prog_4_method_9_code
def yX2_lateMost : MethodName := ⟨RX2, "lateMost", "(I)I"⟩
def RX3 : String := "ReplayBooth$Day"
def TX3 : u_T := fun k => match k with
  | 0 => ("ReplayBooth$Day", "happened", "I", false)
  | 1 => ("ReplayBooth$Day", "yes", "I", false)
  | 2 => ("ReplayBooth$Day", "reviewed", "I", false)
  | 3 => ("ReplayBooth$Day", "boarded", "I", false)
  | 4 => ("ReplayBooth$Day", "goneBy", "[I", true)
  | 5 => ("ReplayBooth$Day", "left", "[I", true)
  | 6 => ("ReplayBooth$Day", "won", "[I", true)
  | 7 => ("ReplayBooth$Day", "seconds", "[I", true)
  | 8 => ("ReplayBooth$Day", "log", "[I", true)
  | _ => ("ReplayBooth$Day", "logRows", "I", false)
def tyX3 : Nat → FieldType := fun k => match k with
  | 0 => .int
  | 1 => .int
  | 2 => .int
  | 3 => .int
  | 4 => .array .int
  | 5 => .array .int
  | 6 => .array .int
  | 7 => .array .int
  | 8 => .array .int
  | _ => .int
abbrev wsX30 : List Cond := u_ws RX3 TX3 10
theorem nmX3 : ∀ a, a < 10 → ∀ b, b < 10 → a ≠ b → (TX3 a).2.1 ≠ (TX3 b).2.1 := by decide +kernel
theorem tyX3_ok : ∀ k, k < 10 → parseFieldDescriptor (TX3 k).2.2.1 = some (tyX3 k) := by decide +kernel
abbrev cX3_init : ByteArray := prog_5_method_1_code
def yX3_init : MethodName := ⟨RX3, "<init>", "()V"⟩
abbrev cX3_begin : ByteArray := prog_5_method_2_code
def yX3_begin : MethodName := ⟨RX3, "begin", "(LReplayBooth$Told;)V"⟩
abbrev cX3_call : ByteArray := prog_5_method_5_code
def yX3_call : MethodName := ⟨RX3, "call", "(I)I"⟩
abbrev cX3_isReviewed : ByteArray := prog_5_method_7_code
def yX3_isReviewed : MethodName := ⟨RX3, "isReviewed", "(I)Z"⟩
abbrev cX3_isBoarded : ByteArray := prog_5_method_8_code
def yX3_isBoarded : MethodName := ⟨RX3, "isBoarded", "(I)Z"⟩
def RX4 : String := "ReplayBooth$Judge"
def TX4 : u_T := fun k => match k with
  | 0 => ("ReplayBooth$Judge", "sure", "LReplayBooth$Bounds;", true)
  | 1 => ("ReplayBooth$Judge", "trial", "LReplayBooth$Bounds;", true)
  | 2 => ("ReplayBooth$Judge", "reviewSeconds", "I", false)
  | _ => ("ReplayBooth$Judge", "reviewFrames", "I", false)
def tyX4 : Nat → FieldType := fun k => match k with
  | 0 => .object "ReplayBooth$Bounds"
  | 1 => .object "ReplayBooth$Bounds"
  | 2 => .int
  | _ => .int
abbrev wsX40 : List Cond := u_ws RX4 TX4 4
theorem nmX4 : ∀ a, a < 4 → ∀ b, b < 4 → a ≠ b → (TX4 a).2.1 ≠ (TX4 b).2.1 := by decide +kernel
theorem tyX4_ok : ∀ k, k < 4 → parseFieldDescriptor (TX4 k).2.2.1 = some (tyX4 k) := by decide +kernel
abbrev cX4_init : ByteArray := prog_6_method_1_code
def yX4_init : MethodName := ⟨RX4, "<init>", "()V"⟩
abbrev cX4_sureOf : ByteArray := prog_6_method_2_code
def yX4_sureOf : MethodName := ⟨RX4, "sureOf", "(LReplayBooth$Told;LReplayBooth$Play;I)LReplayBooth$Bounds;"⟩
abbrev cX4_tellFrame : ByteArray := prog_6_method_3_code
def yX4_tellFrame : MethodName := ⟨RX4, "tellFrame", "(LReplayBooth$Play;I)V"⟩
abbrev cX4_byFrames : ByteArray := prog_6_method_4_code
def yX4_byFrames : MethodName := ⟨RX4, "byFrames", "(LReplayBooth$Told;LReplayBooth$Play;I)I"⟩
abbrev cX4_mustHold : ByteArray := prog_6_method_5_code
def yX4_mustHold : MethodName := ⟨RX4, "mustHold", "(LReplayBooth$Kind;)Z"⟩
abbrev cX4_canHold : ByteArray := prog_6_method_6_code
def yX4_canHold : MethodName := ⟨RX4, "canHold", "(LReplayBooth$Kind;)Z"⟩
abbrev cX4_isSure : ByteArray := prog_6_method_7_code
def yX4_isSure : MethodName := ⟨RX4, "isSure", "(I)Z"⟩
abbrev cX4_trueCall : ByteArray := prog_6_method_8_code
def yX4_trueCall : MethodName := ⟨RX4, "trueCall", "(LReplayBooth$Told;LReplayBooth$Play;I)I"⟩
abbrev cX4_fewestFrames : ByteArray := prog_6_method_9_code
def yX4_fewestFrames : MethodName := ⟨RX4, "fewestFrames", "(LReplayBooth$Told;LReplayBooth$Play;)I"⟩
abbrev cX4_searchFewest : ByteArray := prog_6_method_10_code
def yX4_searchFewest : MethodName := ⟨RX4, "searchFewest", "(LReplayBooth$Told;LReplayBooth$Play;)I"⟩
abbrev cX4_keyFrames : ByteArray := prog_6_method_11_code
def yX4_keyFrames : MethodName := ⟨RX4, "keyFrames", "(LReplayBooth$Told;LReplayBooth$Play;)I"⟩
abbrev cX4_fewestCameras : ByteArray := prog_6_method_12_code
def yX4_fewestCameras : MethodName := ⟨RX4, "fewestCameras", "(LReplayBooth$Told;LReplayBooth$Play;)I"⟩
abbrev cX4_fewestLeftOut : ByteArray := prog_6_method_13_code
def yX4_fewestLeftOut : MethodName := ⟨RX4, "fewestLeftOut", "(LReplayBooth$Told;LReplayBooth$Play;)I"⟩
abbrev cX4_searchLeftOut : ByteArray := prog_6_method_14_code
def yX4_searchLeftOut : MethodName := ⟨RX4, "searchLeftOut", "(LReplayBooth$Told;LReplayBooth$Play;)I"⟩
def RX5 : String := "ReplayBooth$Kind"
def TX5 : u_T := fun k => match k with
  | 0 => ("ReplayBooth$Kind", "seconds", "I", false)
  | 1 => ("ReplayBooth$Kind", "forced", "Z", false)
  | 2 => ("ReplayBooth$Kind", "again", "Z", false)
  | 3 => ("ReplayBooth$Kind", "pairs", "I", false)
  | 4 => ("ReplayBooth$Kind", "first", "[I", true)
  | _ => ("ReplayBooth$Kind", "second", "[I", true)
def tyX5 : Nat → FieldType := fun k => match k with
  | 0 => .int
  | 1 => .boolean
  | 2 => .boolean
  | 3 => .int
  | 4 => .array .int
  | _ => .array .int
abbrev wsX50 : List Cond := u_ws RX5 TX5 6
theorem nmX5 : ∀ a, a < 6 → ∀ b, b < 6 → a ≠ b → (TX5 a).2.1 ≠ (TX5 b).2.1 := by decide +kernel
theorem tyX5_ok : ∀ k, k < 6 → parseFieldDescriptor (TX5 k).2.2.1 = some (tyX5 k) := by decide +kernel
abbrev cX5_init : ByteArray := prog_7_method_1_code
def yX5_init : MethodName := ⟨RX5, "<init>", "()V"⟩
def RX6 : String := "ReplayBooth$Play"
def TX6 : u_T := fun k => match k with
  | 0 => ("ReplayBooth$Play", "minute", "I", false)
  | 1 => ("ReplayBooth$Play", "kind", "I", false)
  | 2 => ("ReplayBooth$Play", "side", "I", false)
  | 3 => ("ReplayBooth$Play", "points", "I", false)
  | 4 => ("ReplayBooth$Play", "call", "I", false)
  | 5 => ("ReplayBooth$Play", "frames", "I", false)
  | 6 => ("ReplayBooth$Play", "camera", "[I", true)
  | 7 => ("ReplayBooth$Play", "tick", "[I", true)
  | 8 => ("ReplayBooth$Play", "there", "[I", true)
  | 9 => ("ReplayBooth$Play", "notYet", "[I", true)
  | 10 => ("ReplayBooth$Play", "fewestFound", "I", false)
  | _ => ("ReplayBooth$Play", "leftOutFound", "I", false)
def tyX6 : Nat → FieldType := fun k => match k with
  | 0 => .int
  | 1 => .int
  | 2 => .int
  | 3 => .int
  | 4 => .int
  | 5 => .int
  | 6 => .array .int
  | 7 => .array .int
  | 8 => .array .int
  | 9 => .array .int
  | 10 => .int
  | _ => .int
abbrev wsX60 : List Cond := u_ws RX6 TX6 12
theorem nmX6 : ∀ a, a < 12 → ∀ b, b < 12 → a ≠ b → (TX6 a).2.1 ≠ (TX6 b).2.1 := by decide +kernel
theorem tyX6_ok : ∀ k, k < 12 → parseFieldDescriptor (TX6 k).2.2.1 = some (tyX6 k) := by decide +kernel
abbrev cX6_init : ByteArray := prog_8_method_1_code
def yX6_init : MethodName := ⟨RX6, "<init>", "()V"⟩
abbrev cX6_clear : ByteArray := prog_8_method_2_code
def yX6_clear : MethodName := ⟨RX6, "clear", "()V"⟩
abbrev cX6_allFrames : ByteArray := prog_8_method_3_code
def yX6_allFrames : MethodName := ⟨RX6, "allFrames", "()I"⟩
abbrev cX6_framesOf : ByteArray := prog_8_method_4_code
def yX6_framesOf : MethodName := ⟨RX6, "framesOf", "(I)I"⟩
def RX7 : String := "ReplayBooth$Reader"
def TX7 : u_T := fun k => match k with
  | 0 => ("ReplayBooth$Reader", "tape", "[B", true)
  | 1 => ("ReplayBooth$Reader", "told", "LReplayBooth$Told;", false)
  | 2 => ("ReplayBooth$Reader", "end", "I", false)
  | 3 => ("ReplayBooth$Reader", "at", "I", false)
  | 4 => ("ReplayBooth$Reader", "token", "LReplayBooth$Token;", false)
  | 5 => ("ReplayBooth$Reader", "start", "I", false)
  | 6 => ("ReplayBooth$Reader", "value", "I", false)
  | 7 => ("ReplayBooth$Reader", "number", "I", false)
  | 8 => ("ReplayBooth$Reader", "fault", "I", false)
  | 9 => ("ReplayBooth$Reader", "names", "I", false)
  | 10 => ("ReplayBooth$Reader", "nameCode", "[I", true)
  | 11 => ("ReplayBooth$Reader", "nameSort", "[LReplayBooth$Token;", true)
  | 12 => ("ReplayBooth$Reader", "nameNumber", "[I", true)
  | _ => ("ReplayBooth$Reader", "settingsTold", "I", false)
def tyX7 : Nat → FieldType := fun k => match k with
  | 0 => .array .byte
  | 1 => .object "ReplayBooth$Told"
  | 2 => .int
  | 3 => .int
  | 4 => .object "ReplayBooth$Token"
  | 5 => .int
  | 6 => .int
  | 7 => .int
  | 8 => .int
  | 9 => .int
  | 10 => .array .int
  | 11 => .array (.object "ReplayBooth$Token")
  | 12 => .array .int
  | _ => .int
abbrev wsX70 : List Cond := u_ws RX7 TX7 14
theorem nmX7 : ∀ a, a < 14 → ∀ b, b < 14 → a ≠ b → (TX7 a).2.1 ≠ (TX7 b).2.1 := by decide +kernel
theorem tyX7_ok : ∀ k, k < 14 → parseFieldDescriptor (TX7 k).2.2.1 = some (tyX7 k) := by decide +kernel
abbrev cX7_init : ByteArray := prog_9_method_1_code
def yX7_init : MethodName := ⟨RX7, "<init>", "([BLReplayBooth$Told;)V"⟩
abbrev cX7_begin : ByteArray := prog_9_method_2_code
def yX7_begin : MethodName := ⟨RX7, "begin", "(LReplayBooth$Told;I)V"⟩
abbrev cX7_advance : ByteArray := prog_9_method_3_code
def yX7_advance : MethodName := ⟨RX7, "advance", "()V"⟩
abbrev cX7_isLetter : ByteArray := prog_9_method_4_code
def yX7_isLetter : MethodName := ⟨RX7, "isLetter", "(I)Z"⟩
abbrev cX7_isDigit : ByteArray := prog_9_method_5_code
def yX7_isDigit : MethodName := ⟨RX7, "isDigit", "(I)Z"⟩
abbrev cX7_scanNumber : ByteArray := prog_9_method_6_code
def yX7_scanNumber : MethodName := ⟨RX7, "scanNumber", "()V"⟩
abbrev cX7_scanWord : ByteArray := prog_9_method_7_code
def yX7_scanWord : MethodName := ⟨RX7, "scanWord", "()V"⟩
abbrev cX7_fail : ByteArray := prog_9_method_8_code
def yX7_fail : MethodName := ⟨RX7, "fail", "(I)Z"⟩
abbrev cX7_take : ByteArray := prog_9_method_9_code
def yX7_take : MethodName := ⟨RX7, "take", "(LReplayBooth$Token;)Z"⟩
abbrev cX7_skip : ByteArray := prog_9_method_10_code
def yX7_skip : MethodName := ⟨RX7, "skip", "(LReplayBooth$Token;)Z"⟩
abbrev cX7_takeNumber : ByteArray := prog_9_method_11_code
def yX7_takeNumber : MethodName := ⟨RX7, "takeNumber", "(II)Z"⟩
abbrev cX7_takeMark : ByteArray := prog_9_method_12_code
def yX7_takeMark : MethodName := ⟨RX7, "takeMark", "(I)Z"⟩
abbrev cX7_giveName : ByteArray := prog_9_method_13_code
def yX7_giveName : MethodName := ⟨RX7, "giveName", "(LReplayBooth$Token;I)Z"⟩
abbrev cX7_findName : ByteArray := prog_9_method_14_code
def yX7_findName : MethodName := ⟨RX7, "findName", "(LReplayBooth$Token;I)I"⟩
abbrev cX7_takeName : ByteArray := prog_9_method_15_code
def yX7_takeName : MethodName := ⟨RX7, "takeName", "(LReplayBooth$Token;I)I"⟩
abbrev cX7_tellLine : ByteArray := prog_9_method_16_code
def yX7_tellLine : MethodName := ⟨RX7, "tellLine", "()Z"⟩
abbrev cX7_startLine : ByteArray := prog_9_method_17_code
def yX7_startLine : MethodName := ⟨RX7, "startLine", "(LReplayBooth$Token;)Z"⟩
abbrev cX7_roomFor : ByteArray := prog_9_method_18_code
def yX7_roomFor : MethodName := ⟨RX7, "roomFor", "(LReplayBooth$Token;)I"⟩
abbrev cX7_roomForSetting : ByteArray := prog_9_method_19_code
def yX7_roomForSetting : MethodName := ⟨RX7, "roomForSetting", "(I)I"⟩
abbrev cX7_tellSetting : ByteArray := prog_9_method_20_code
def yX7_tellSetting : MethodName := ⟨RX7, "tellSetting", "(II)Z"⟩
abbrev cX7_tellCamera : ByteArray := prog_9_method_21_code
def yX7_tellCamera : MethodName := ⟨RX7, "tellCamera", "()Z"⟩
abbrev cX7_tellFlash : ByteArray := prog_9_method_22_code
def yX7_tellFlash : MethodName := ⟨RX7, "tellFlash", "()Z"⟩
abbrev cX7_tellSide : ByteArray := prog_9_method_23_code
def yX7_tellSide : MethodName := ⟨RX7, "tellSide", "()Z"⟩
abbrev cX7_tellKind : ByteArray := prog_9_method_24_code
def yX7_tellKind : MethodName := ⟨RX7, "tellKind", "()Z"⟩
abbrev cX7_tellPair : ByteArray := prog_9_method_25_code
def yX7_tellPair : MethodName := ⟨RX7, "tellPair", "(LReplayBooth$Kind;)Z"⟩
abbrev cX7_tellBoard : ByteArray := prog_9_method_26_code
def yX7_tellBoard : MethodName := ⟨RX7, "tellBoard", "()Z"⟩
abbrev cX7_tellMember : ByteArray := prog_9_method_27_code
def yX7_tellMember : MethodName := ⟨RX7, "tellMember", "(LReplayBooth$Board;)Z"⟩
abbrev cX7_tellPlay : ByteArray := prog_9_method_28_code
def yX7_tellPlay : MethodName := ⟨RX7, "tellPlay", "()Z"⟩
abbrev cX7_tellFrame : ByteArray := prog_9_method_29_code
def yX7_tellFrame : MethodName := ⟨RX7, "tellFrame", "(LReplayBooth$Play;)Z"⟩
def RX8 : String := "ReplayBooth$Token"
def TX8 : u_T := fun k => match k with
  | _ => ("", "", "", false)
def tyX8 : Nat → FieldType := fun k => match k with
  | _ => .int
abbrev wsX80 : List Cond := u_ws RX8 TX8 0
theorem nmX8 : ∀ a, a < 0 → ∀ b, b < 0 → a ≠ b → (TX8 a).2.1 ≠ (TX8 b).2.1 := by decide +kernel
theorem tyX8_ok : ∀ k, k < 0 → parseFieldDescriptor (TX8 k).2.2.1 = some (tyX8 k) := by decide +kernel
abbrev cX8_withLetter : ByteArray := prog_10_method_4_code
def yX8_withLetter : MethodName := ⟨RX8, "withLetter", "(II)I"⟩
abbrev cX8_ofWord : ByteArray := prog_10_method_5_code
def yX8_ofWord : MethodName := ⟨RX8, "ofWord", "(I)LReplayBooth$Token;"⟩
abbrev cX8_ofSign : ByteArray := prog_10_method_6_code
def yX8_ofSign : MethodName := ⟨RX8, "ofSign", "(I)LReplayBooth$Token;"⟩
def RX9 : String := "ReplayBooth$Told"
def TX9 : u_T := fun k => match k with
  | 0 => ("ReplayBooth$Told", "cameras", "I", false)
  | 1 => ("ReplayBooth$Told", "lateLeast", "[I", true)
  | 2 => ("ReplayBooth$Told", "lateMost", "[I", true)
  | 3 => ("ReplayBooth$Told", "flashes", "I", false)
  | 4 => ("ReplayBooth$Told", "clocks", "LReplayBooth$Bounds;", true)
  | 5 => ("ReplayBooth$Told", "sides", "I", false)
  | 6 => ("ReplayBooth$Told", "challenges", "[I", true)
  | 7 => ("ReplayBooth$Told", "kinds", "I", false)
  | 8 => ("ReplayBooth$Told", "kind", "[LReplayBooth$Kind;", true)
  | 9 => ("ReplayBooth$Told", "boards", "I", false)
  | 10 => ("ReplayBooth$Told", "board", "[LReplayBooth$Board;", true)
  | 11 => ("ReplayBooth$Told", "plays", "I", false)
  | 12 => ("ReplayBooth$Told", "play", "[LReplayBooth$Play;", true)
  | _ => ("ReplayBooth$Told", "setting", "[I", true)
def tyX9 : Nat → FieldType := fun k => match k with
  | 0 => .int
  | 1 => .array .int
  | 2 => .array .int
  | 3 => .int
  | 4 => .object "ReplayBooth$Bounds"
  | 5 => .int
  | 6 => .array .int
  | 7 => .int
  | 8 => .array (.object "ReplayBooth$Kind")
  | 9 => .int
  | 10 => .array (.object "ReplayBooth$Board")
  | 11 => .int
  | 12 => .array (.object "ReplayBooth$Play")
  | _ => .array .int
abbrev wsX90 : List Cond := u_ws RX9 TX9 14
theorem nmX9 : ∀ a, a < 14 → ∀ b, b < 14 → a ≠ b → (TX9 a).2.1 ≠ (TX9 b).2.1 := by decide +kernel
theorem tyX9_ok : ∀ k, k < 14 → parseFieldDescriptor (TX9 k).2.2.1 = some (tyX9 k) := by decide +kernel
abbrev cX9_init : ByteArray := prog_11_method_1_code
def yX9_init : MethodName := ⟨RX9, "<init>", "()V"⟩
abbrev cX9_clear : ByteArray := prog_11_method_2_code
def yX9_clear : MethodName := ⟨RX9, "clear", "()V"⟩
abbrev cX9_allCameras : ByteArray := prog_11_method_3_code
def yX9_allCameras : MethodName := ⟨RX9, "allCameras", "()I"⟩
def RX10 : String := "ReplayBooth"
def TX10 : u_T := fun k => match k with
  | 0 => ("ReplayBooth", "tape", "[B", true)
  | 1 => ("ReplayBooth", "taped", "I", false)
  | 2 => ("ReplayBooth", "told", "LReplayBooth$Told;", false)
  | 3 => ("ReplayBooth", "spare", "LReplayBooth$Told;", false)
  | 4 => ("ReplayBooth", "reader", "LReplayBooth$Reader;", true)
  | 5 => ("ReplayBooth", "judge", "LReplayBooth$Judge;", true)
  | 6 => ("ReplayBooth", "day", "LReplayBooth$Day;", true)
  | 7 => ("ReplayBooth", "ahead", "[LReplayBooth$Day;", true)
  | 8 => ("ReplayBooth", "aheadNext", "I", false)
  | 9 => ("ReplayBooth", "acts", "I", false)
  | 10 => ("ReplayBooth", "kept", "[LReplayBooth$Day;", true)
  | 11 => ("ReplayBooth", "isKept", "[Z", true)
  | 12 => ("ReplayBooth", "row", "[I", true)
  | _ => ("ReplayBooth", "rows", "I", false)
def tyX10 : Nat → FieldType := fun k => match k with
  | 0 => .array .byte
  | 1 => .int
  | 2 => .object "ReplayBooth$Told"
  | 3 => .object "ReplayBooth$Told"
  | 4 => .object "ReplayBooth$Reader"
  | 5 => .object "ReplayBooth$Judge"
  | 6 => .object "ReplayBooth$Day"
  | 7 => .array (.object "ReplayBooth$Day")
  | 8 => .int
  | 9 => .int
  | 10 => .array (.object "ReplayBooth$Day")
  | 11 => .array .boolean
  | 12 => .array .int
  | _ => .int
abbrev wsX100 : List Cond := u_ws RX10 TX10 14
theorem nmX10 : ∀ a, a < 14 → ∀ b, b < 14 → a ≠ b → (TX10 a).2.1 ≠ (TX10 b).2.1 := by decide +kernel
theorem tyX10_ok : ∀ k, k < 14 → parseFieldDescriptor (TX10 k).2.2.1 = some (tyX10 k) := by decide +kernel
abbrev cX10_init : ByteArray := prog_1_method_1_code
def yX10_init : MethodName := ⟨RX10, "<init>", "()V"⟩
abbrev cX10_feed : ByteArray := prog_1_method_2_code
def yX10_feed : MethodName := ⟨RX10, "feed", "(IIIII)I"⟩
abbrev cX10_tapeNumber : ByteArray := prog_1_method_3_code
def yX10_tapeNumber : MethodName := ⟨RX10, "tapeNumber", "(I)V"⟩
abbrev cX10_text : ByteArray := prog_1_method_4_code
def yX10_text : MethodName := ⟨RX10, "text", "(I)I"⟩
abbrev cX10_camera : ByteArray := prog_1_method_5_code
def yX10_camera : MethodName := ⟨RX10, "camera", "(II)I"⟩
abbrev cX10_play : ByteArray := prog_1_method_9_code
def yX10_play : MethodName := ⟨RX10, "play", "(II)I"⟩
abbrev cX10_frame : ByteArray := prog_1_method_10_code
def yX10_frame : MethodName := ⟨RX10, "frame", "(III)I"⟩
abbrev cX10_isPlay : ByteArray := prog_1_method_12_code
def yX10_isPlay : MethodName := ⟨RX10, "isPlay", "(I)Z"⟩
abbrev cX10_verdict : ByteArray := prog_1_method_14_code
def yX10_verdict : MethodName := ⟨RX10, "verdict", "(II)I"⟩
abbrev cX10_by : ByteArray := prog_1_method_15_code
def yX10_by : MethodName := ⟨RX10, "by", "(II)I"⟩
abbrev cX10_gap : ByteArray := prog_1_method_16_code
def yX10_gap : MethodName := ⟨RX10, "gap", "(IIIZ)I"⟩
abbrev cX10_fewest : ByteArray := prog_1_method_17_code
def yX10_fewest : MethodName := ⟨RX10, "fewest", "(I)I"⟩
abbrev cX10_key : ByteArray := prog_1_method_18_code
def yX10_key : MethodName := ⟨RX10, "key", "(I)I"⟩
abbrev cX10_enough : ByteArray := prog_1_method_19_code
def yX10_enough : MethodName := ⟨RX10, "enough", "(I)I"⟩
abbrev cX10_mend : ByteArray := prog_1_method_20_code
def yX10_mend : MethodName := ⟨RX10, "mend", "(I)I"⟩
abbrev cX10_wrong : ByteArray := prog_1_method_36_code
def yX10_wrong : MethodName := ⟨RX10, "wrong", "()I"⟩
abbrev cX10_count : ByteArray := prog_1_method_51_code
def yX10_count : MethodName := ⟨RX10, "count", "(I)I"⟩
def RX11 : String := "ReplayBoothModel"
def TX11 : u_T := fun k => match k with
  | _ => ("", "", "", false)
def tyX11 : Nat → FieldType := fun k => match k with
  | _ => .int
abbrev wsX110 : List Cond := u_ws RX11 TX11 0
theorem nmX11 : ∀ a, a < 0 → ∀ b, b < 0 → a ≠ b → (TX11 a).2.1 ≠ (TX11 b).2.1 := by decide +kernel
theorem tyX11_ok : ∀ k, k < 0 → parseFieldDescriptor (TX11 k).2.2.1 = some (tyX11 k) := by decide +kernel
def RJx145de : String := "java/io/Serializable"
def TJx145de : u_T := fun k => match k with
  | _ => ("", "", "", false)
def tyJx145de : Nat → FieldType := fun k => match k with
  | _ => .int
abbrev wsJx145de0 : List Cond := u_ws RJx145de TJx145de 0
theorem nmJx145de : ∀ a, a < 0 → ∀ b, b < 0 → a ≠ b → (TJx145de a).2.1 ≠ (TJx145de b).2.1 := by decide +kernel
theorem tyJx145de_ok : ∀ k, k < 0 → parseFieldDescriptor (TJx145de k).2.2.1 = some (tyJx145de k) := by decide +kernel
def RJ5 : String := "java/lang/AbstractStringBuilder"
def TJ5 : u_T := fun k => match k with
  | _ => ("", "", "", false)
def tyJ5 : Nat → FieldType := fun k => match k with
  | _ => .int
abbrev wsJ50 : List Cond := u_ws RJ5 TJ5 0
theorem nmJ5 : ∀ a, a < 0 → ∀ b, b < 0 → a ≠ b → (TJ5 a).2.1 ≠ (TJ5 b).2.1 := by decide +kernel
theorem tyJ5_ok : ∀ k, k < 0 → parseFieldDescriptor (TJ5 k).2.2.1 = some (tyJ5 k) := by decide +kernel
abbrev cJ5_init_d00df : ByteArray := prog_15_method_2_code
def yJ5_init_d00df : MethodName := ⟨RJ5, "<init>", "(I)V"⟩
abbrev cJ5_length_8abf5 : ByteArray := prog_15_method_6_code
def yJ5_length_8abf5 : MethodName := ⟨RJ5, "length", "()I"⟩
abbrev cJ5_ensureCapacityInternal_d00df : ByteArray := prog_15_method_9_code
def yJ5_ensureCapacityInternal_d00df : MethodName := ⟨RJ5, "ensureCapacityInternal", "(I)V"⟩
abbrev cJ5_newCapacity_0f7a4 : ByteArray := prog_15_method_10_code
def yJ5_newCapacity_0f7a4 : MethodName := ⟨RJ5, "newCapacity", "(I)I"⟩
abbrev cJ5_inflate_da8c8 : ByteArray := prog_15_method_11_code
def yJ5_inflate_da8c8 : MethodName := ⟨RJ5, "inflate", "()V"⟩
abbrev cJ5_append_cf1ce : ByteArray := prog_15_method_22_code
def yJ5_append_cf1ce : MethodName := ⟨RJ5, "append", "(Ljava/lang/String;)Ljava/lang/AbstractStringBuilder;"⟩
abbrev cJ5_appendNull_278bc : ByteArray := prog_15_method_26_code
def yJ5_appendNull_278bc : MethodName := ⟨RJ5, "appendNull", "()Ljava/lang/AbstractStringBuilder;"⟩
abbrev cJ5_append_3fe6f : ByteArray := prog_15_method_31_code
def yJ5_append_3fe6f : MethodName := ⟨RJ5, "append", "(C)Ljava/lang/AbstractStringBuilder;"⟩
abbrev cJ5_append_c97b9 : ByteArray := prog_15_method_32_code
def yJ5_append_c97b9 : MethodName := ⟨RJ5, "append", "(I)Ljava/lang/AbstractStringBuilder;"⟩
abbrev cJ5_getValue_6d5f1 : ByteArray := prog_15_method_64_code
def yJ5_getValue_6d5f1 : MethodName := ⟨RJ5, "getValue", "()[B"⟩
abbrev cJ5_isLatin1_aae02 : ByteArray := prog_15_method_68_code
def yJ5_isLatin1_aae02 : MethodName := ⟨RJ5, "isLatin1", "()Z"⟩
abbrev cJ5_inflateIfNeededFor_a7421 : ByteArray := prog_15_method_71_code
def yJ5_inflateIfNeededFor_a7421 : MethodName := ⟨RJ5, "inflateIfNeededFor", "(Ljava/lang/String;)V"⟩
abbrev cJ5_putStringAt_47b60 : ByteArray := prog_15_method_73_code
def yJ5_putStringAt_47b60 : MethodName := ⟨RJ5, "putStringAt", "(ILjava/lang/String;)V"⟩
def RJx2cfe8 : String := "java/lang/Appendable"
def TJx2cfe8 : u_T := fun k => match k with
  | _ => ("", "", "", false)
def tyJx2cfe8 : Nat → FieldType := fun k => match k with
  | _ => .int
abbrev wsJx2cfe80 : List Cond := u_ws RJx2cfe8 TJx2cfe8 0
theorem nmJx2cfe8 : ∀ a, a < 0 → ∀ b, b < 0 → a ≠ b → (TJx2cfe8 a).2.1 ≠ (TJx2cfe8 b).2.1 := by decide +kernel
theorem tyJx2cfe8_ok : ∀ k, k < 0 → parseFieldDescriptor (TJx2cfe8 k).2.2.1 = some (tyJx2cfe8 k) := by decide +kernel
def RJx9f9b0 : String := "java/lang/CharSequence"
def TJx9f9b0 : u_T := fun k => match k with
  | _ => ("", "", "", false)
def tyJx9f9b0 : Nat → FieldType := fun k => match k with
  | _ => .int
abbrev wsJx9f9b00 : List Cond := u_ws RJx9f9b0 TJx9f9b0 0
theorem nmJx9f9b0 : ∀ a, a < 0 → ∀ b, b < 0 → a ≠ b → (TJx9f9b0 a).2.1 ≠ (TJx9f9b0 b).2.1 := by decide +kernel
theorem tyJx9f9b0_ok : ∀ k, k < 0 → parseFieldDescriptor (TJx9f9b0 k).2.2.1 = some (tyJx9f9b0 k) := by decide +kernel
def RJx8e188 : String := "java/lang/Cloneable"
def TJx8e188 : u_T := fun k => match k with
  | _ => ("", "", "", false)
def tyJx8e188 : Nat → FieldType := fun k => match k with
  | _ => .int
abbrev wsJx8e1880 : List Cond := u_ws RJx8e188 TJx8e188 0
theorem nmJx8e188 : ∀ a, a < 0 → ∀ b, b < 0 → a ≠ b → (TJx8e188 a).2.1 ≠ (TJx8e188 b).2.1 := by decide +kernel
theorem tyJx8e188_ok : ∀ k, k < 0 → parseFieldDescriptor (TJx8e188 k).2.2.1 = some (tyJx8e188 k) := by decide +kernel
def RJxb160c : String := "java/lang/Comparable"
def TJxb160c : u_T := fun k => match k with
  | _ => ("", "", "", false)
def tyJxb160c : Nat → FieldType := fun k => match k with
  | _ => .int
abbrev wsJxb160c0 : List Cond := u_ws RJxb160c TJxb160c 0
theorem nmJxb160c : ∀ a, a < 0 → ∀ b, b < 0 → a ≠ b → (TJxb160c a).2.1 ≠ (TJxb160c b).2.1 := by decide +kernel
theorem tyJxb160c_ok : ∀ k, k < 0 → parseFieldDescriptor (TJxb160c k).2.2.1 = some (tyJxb160c k) := by decide +kernel
def RJx29ce0 : String := "java/lang/Enum"
def TJx29ce0 : u_T := fun k => match k with
  | _ => ("", "", "", false)
def tyJx29ce0 : Nat → FieldType := fun k => match k with
  | _ => .int
abbrev wsJx29ce00 : List Cond := u_ws RJx29ce0 TJx29ce0 0
theorem nmJx29ce0 : ∀ a, a < 0 → ∀ b, b < 0 → a ≠ b → (TJx29ce0 a).2.1 ≠ (TJx29ce0 b).2.1 := by decide +kernel
theorem tyJx29ce0_ok : ∀ k, k < 0 → parseFieldDescriptor (TJx29ce0 k).2.2.1 = some (tyJx29ce0 k) := by decide +kernel
abbrev cJx29ce0_ordinal_8abf5 : ByteArray := prog_20_method_2_code
def yJx29ce0_ordinal_8abf5 : MethodName := ⟨RJx29ce0, "ordinal", "()I"⟩
def RJ6 : String := "java/lang/Integer"
def TJ6 : u_T := fun k => match k with
  | _ => ("", "", "", false)
def tyJ6 : Nat → FieldType := fun k => match k with
  | _ => .int
abbrev wsJ60 : List Cond := u_ws RJ6 TJ6 0
theorem nmJ6 : ∀ a, a < 0 → ∀ b, b < 0 → a ≠ b → (TJ6 a).2.1 ≠ (TJ6 b).2.1 := by decide +kernel
theorem tyJ6_ok : ∀ k, k < 0 → parseFieldDescriptor (TJ6 k).2.2.1 = some (tyJ6 k) := by decide +kernel
abbrev cJ6_getChars_ba4f3 : ByteArray := prog_22_method_12_code
def yJ6_getChars_ba4f3 : MethodName := ⟨RJ6, "getChars", "(II[B)I"⟩
abbrev cJ6_stringSize_0f7a4 : ByteArray := prog_22_method_13_code
def yJ6_stringSize_0f7a4 : MethodName := ⟨RJ6, "stringSize", "(I)I"⟩
abbrev cJ6_bitCount_0f7a4 : ByteArray := prog_22_method_49_code
def yJ6_bitCount_0f7a4 : MethodName := ⟨RJ6, "bitCount", "(I)I"⟩
def RJ9 : String := "java/lang/Math"
def TJ9 : u_T := fun k => match k with
  | _ => ("", "", "", false)
def tyJ9 : Nat → FieldType := fun k => match k with
  | _ => .int
abbrev wsJ90 : List Cond := u_ws RJ9 TJ9 0
theorem nmJ9 : ∀ a, a < 0 → ∀ b, b < 0 → a ≠ b → (TJ9 a).2.1 ≠ (TJ9 b).2.1 := by decide +kernel
theorem tyJ9_ok : ∀ k, k < 0 → parseFieldDescriptor (TJ9 k).2.2.1 = some (tyJ9 k) := by decide +kernel
abbrev cJ9_max_7cf53 : ByteArray := prog_23_method_65_code
def yJ9_max_7cf53 : MethodName := ⟨RJ9, "max", "(II)I"⟩
abbrev cJ9_min_7cf53 : ByteArray := prog_23_method_69_code
def yJ9_min_7cf53 : MethodName := ⟨RJ9, "min", "(II)I"⟩
def RJxd2413 : String := "java/lang/Number"
def TJxd2413 : u_T := fun k => match k with
  | _ => ("", "", "", false)
def tyJxd2413 : Nat → FieldType := fun k => match k with
  | _ => .int
abbrev wsJxd24130 : List Cond := u_ws RJxd2413 TJxd2413 0
theorem nmJxd2413 : ∀ a, a < 0 → ∀ b, b < 0 → a ≠ b → (TJxd2413 a).2.1 ≠ (TJxd2413 b).2.1 := by decide +kernel
theorem tyJxd2413_ok : ∀ k, k < 0 → parseFieldDescriptor (TJxd2413 k).2.2.1 = some (tyJxd2413 k) := by decide +kernel
def RJ0 : String := "java/lang/String"
def TJ0 : u_T := fun k => match k with
  | 0 => ("java/lang/String", "value", "[B", true)
  | 1 => ("java/lang/String", "coder", "B", true)
  | 2 => ("java/lang/String", "hash", "I", false)
  | _ => ("java/lang/String", "hashIsZero", "Z", false)
def tyJ0 : Nat → FieldType := fun k => match k with
  | 0 => .array .byte
  | 1 => .byte
  | 2 => .int
  | _ => .boolean
abbrev wsJ00 : List Cond := u_ws RJ0 TJ0 4
theorem nmJ0 : ∀ a, a < 4 → ∀ b, b < 4 → a ≠ b → (TJ0 a).2.1 ≠ (TJ0 b).2.1 := by decide +kernel
theorem tyJ0_ok : ∀ k, k < 4 → parseFieldDescriptor (TJ0 k).2.2.1 = some (tyJ0 k) := by decide +kernel
abbrev cJ0_init_81219 : ByteArray := prog_26_method_53_code
def yJ0_init_81219 : MethodName := ⟨RJ0, "<init>", "(Ljava/lang/StringBuilder;)V"⟩
abbrev cJ0_length_8abf5 : ByteArray := prog_26_method_54_code
def yJ0_length_8abf5 : MethodName := ⟨RJ0, "length", "()I"⟩
abbrev cJ0_charAt_5068e : ByteArray := prog_26_method_56_code
def yJ0_charAt_5068e : MethodName := ⟨RJ0, "charAt", "(I)C"⟩
abbrev cJ0_getBytes_840e7 : ByteArray := prog_26_method_147_code
def yJ0_getBytes_840e7 : MethodName := ⟨RJ0, "getBytes", "([BIB)V"⟩
abbrev cJ0_init_db425 : ByteArray := prog_26_method_150_code
def yJ0_init_db425 : MethodName := ⟨RJ0, "<init>", "(Ljava/lang/AbstractStringBuilder;Ljava/lang/Void;)V"⟩
abbrev cJ0_coder_7d493 : ByteArray := prog_26_method_152_code
def yJ0_coder_7d493 : MethodName := ⟨RJ0, "coder", "()B"⟩
abbrev cJ0_isLatin1_aae02 : ByteArray := prog_26_method_154_code
def yJ0_isLatin1_aae02 : MethodName := ⟨RJ0, "isLatin1", "()Z"⟩
abbrev cJ0_checkIndex_df160 : ByteArray := prog_26_method_155_code
def yJ0_checkIndex_df160 : MethodName := ⟨RJ0, "checkIndex", "(II)V"⟩
abbrev cJ0_checkBoundsOffCount_cabcc : ByteArray := prog_26_method_157_code
def yJ0_checkBoundsOffCount_cabcc : MethodName := ⟨RJ0, "checkBoundsOffCount", "(III)I"⟩
abbrev cJ0_checkBoundsBeginEnd_23922 : ByteArray := prog_26_method_158_code
def yJ0_checkBoundsBeginEnd_23922 : MethodName := ⟨RJ0, "checkBoundsBeginEnd", "(III)V"⟩
def RJ4 : String := "java/lang/StringBuilder"
def TJ4 : u_T := fun k => match k with
  | 0 => ("java/lang/AbstractStringBuilder", "value", "[B", false)
  | 1 => ("java/lang/AbstractStringBuilder", "coder", "B", false)
  | 2 => ("java/lang/AbstractStringBuilder", "maybeLatin1", "Z", false)
  | _ => ("java/lang/AbstractStringBuilder", "count", "I", false)
def tyJ4 : Nat → FieldType := fun k => match k with
  | 0 => .array .byte
  | 1 => .byte
  | 2 => .boolean
  | _ => .int
abbrev wsJ40 : List Cond := u_ws RJ4 TJ4 4
theorem nmJ4 : ∀ a, a < 4 → ∀ b, b < 4 → a ≠ b → (TJ4 a).2.1 ≠ (TJ4 b).2.1 := by decide +kernel
theorem tyJ4_ok : ∀ k, k < 4 → parseFieldDescriptor (TJ4 k).2.2.1 = some (tyJ4 k) := by decide +kernel
abbrev cJ4_init_da8c8 : ByteArray := prog_27_method_1_code
def yJ4_init_da8c8 : MethodName := ⟨RJ4, "<init>", "()V"⟩
abbrev cJ4_append_15ec4 : ByteArray := prog_27_method_7_code
def yJ4_append_15ec4 : MethodName := ⟨RJ4, "append", "(Ljava/lang/String;)Ljava/lang/StringBuilder;"⟩
abbrev cJ4_append_cf468 : ByteArray := prog_27_method_14_code
def yJ4_append_cf468 : MethodName := ⟨RJ4, "append", "(C)Ljava/lang/StringBuilder;"⟩
abbrev cJ4_append_bf812 : ByteArray := prog_27_method_15_code
def yJ4_append_bf812 : MethodName := ⟨RJ4, "append", "(I)Ljava/lang/StringBuilder;"⟩
abbrev cJ4_toString_0e30d : ByteArray := prog_27_method_42_code
def yJ4_toString_0e30d : MethodName := ⟨RJ4, "toString", "()Ljava/lang/String;"⟩
abbrev cJ4_length_8abf5 : ByteArray := prog_27_method_93_code
def yJ4_length_8abf5 : MethodName := ⟨RJ4, "length", "()I"⟩
def RJ1 : String := "java/lang/StringLatin1"
def TJ1 : u_T := fun k => match k with
  | _ => ("", "", "", false)
def tyJ1 : Nat → FieldType := fun k => match k with
  | _ => .int
abbrev wsJ10 : List Cond := u_ws RJ1 TJ1 0
theorem nmJ1 : ∀ a, a < 0 → ∀ b, b < 0 → a ≠ b → (TJ1 a).2.1 ≠ (TJ1 b).2.1 := by decide +kernel
theorem tyJ1_ok : ∀ k, k < 0 → parseFieldDescriptor (TJ1 k).2.2.1 = some (tyJ1 k) := by decide +kernel
abbrev cJ1_charAt_3b067 : ByteArray := prog_28_method_2_code
def yJ1_charAt_3b067 : MethodName := ⟨RJ1, "charAt", "([BI)C"⟩
abbrev cJ1_canEncode_fc78d : ByteArray := prog_28_method_3_code
def yJ1_canEncode_fc78d : MethodName := ⟨RJ1, "canEncode", "(C)Z"⟩
abbrev cJ1_inflate_0e8fd : ByteArray := prog_28_method_50_code
def yJ1_inflate_0e8fd : MethodName := ⟨RJ1, "inflate", "([BI[BII)V"⟩
def RJ2 : String := "java/lang/StringUTF16"
def TJ2 : u_T := fun k => match k with
  | _ => ("", "", "", false)
def tyJ2 : Nat → FieldType := fun k => match k with
  | _ => .int
abbrev wsJ20 : List Cond := u_ws RJ2 TJ2 0
theorem nmJ2 : ∀ a, a < 0 → ∀ b, b < 0 → a ≠ b → (TJ2 a).2.1 ≠ (TJ2 b).2.1 := by decide +kernel
theorem tyJ2_ok : ∀ k, k < 0 → parseFieldDescriptor (TJ2 k).2.2.1 = some (tyJ2 k) := by decide +kernel
abbrev cJ2_newBytesFor_77867 : ByteArray := prog_29_method_2_code
def yJ2_newBytesFor_77867 : MethodName := ⟨RJ2, "newBytesFor", "(I)[B"⟩
abbrev cJ2_newBytesLength_0f7a4 : ByteArray := prog_29_method_3_code
def yJ2_newBytesLength_0f7a4 : MethodName := ⟨RJ2, "newBytesLength", "(I)I"⟩
abbrev cJ2_putChar_b72d1 : ByteArray := prog_29_method_4_code
def yJ2_putChar_b72d1 : MethodName := ⟨RJ2, "putChar", "([BII)V"⟩
abbrev cJ2_getChar_3b067 : ByteArray := prog_29_method_5_code
def yJ2_getChar_3b067 : MethodName := ⟨RJ2, "getChar", "([BI)C"⟩
abbrev cJ2_length_9d52b : ByteArray := prog_29_method_6_code
def yJ2_length_9d52b : MethodName := ⟨RJ2, "length", "([B)I"⟩
abbrev cJ2_coderFromArrayLen_85cad : ByteArray := prog_29_method_15_code
def yJ2_coderFromArrayLen_85cad : MethodName := ⟨RJ2, "coderFromArrayLen", "([BI)B"⟩
abbrev cJ2_compress_39247 : ByteArray := prog_29_method_17_code
def yJ2_compress_39247 : MethodName := ⟨RJ2, "compress", "([BII)[B"⟩
abbrev cJ2_compress_5af95 : ByteArray := prog_29_method_22_code
def yJ2_compress_5af95 : MethodName := ⟨RJ2, "compress", "([BI[BII)I"⟩
abbrev cJ2_putCharSB_b72d1 : ByteArray := prog_29_method_71_code
def yJ2_putCharSB_b72d1 : MethodName := ⟨RJ2, "putCharSB", "([BII)V"⟩
abbrev cJ2_getChars_46870 : ByteArray := prog_29_method_77_code
def yJ2_getChars_46870 : MethodName := ⟨RJ2, "getChars", "(III[B)I"⟩
abbrev cJ2_putCharsAt_cd4e5 : ByteArray := prog_29_method_81_code
def yJ2_putCharsAt_cd4e5 : MethodName := ⟨RJ2, "putCharsAt", "([BICCCC)I"⟩
abbrev cJ2_charAt_3b067 : ByteArray := prog_29_method_83_code
def yJ2_charAt_3b067 : MethodName := ⟨RJ2, "charAt", "([BI)C"⟩
abbrev cJ2_inflate_0e8fd : ByteArray := prog_29_method_86_code
def yJ2_inflate_0e8fd : MethodName := ⟨RJ2, "inflate", "([BI[BII)V"⟩
abbrev cJ2_getChars_ba4f3 : ByteArray := prog_29_method_89_code
def yJ2_getChars_ba4f3 : MethodName := ⟨RJ2, "getChars", "(II[B)I"⟩
abbrev cJ2_checkIndex_2214a : ByteArray := prog_29_method_91_code
def yJ2_checkIndex_2214a : MethodName := ⟨RJ2, "checkIndex", "(I[B)V"⟩
abbrev cJ2_checkBoundsBeginEnd_d044e : ByteArray := prog_29_method_93_code
def yJ2_checkBoundsBeginEnd_d044e : MethodName := ⟨RJ2, "checkBoundsBeginEnd", "(II[B)V"⟩
abbrev cJ2_checkBoundsOffCount_d044e : ByteArray := prog_29_method_94_code
def yJ2_checkBoundsOffCount_d044e : MethodName := ⟨RJ2, "checkBoundsOffCount", "(II[B)V"⟩
def RJ10 : String := "java/lang/System"
def TJ10 : u_T := fun k => match k with
  | _ => ("", "", "", false)
def tyJ10 : Nat → FieldType := fun k => match k with
  | _ => .int
abbrev wsJ100 : List Cond := u_ws RJ10 TJ10 0
theorem nmJ10 : ∀ a, a < 0 → ∀ b, b < 0 → a ≠ b → (TJ10 a).2.1 ≠ (TJ10 b).2.1 := by decide +kernel
theorem tyJ10_ok : ∀ k, k < 0 → parseFieldDescriptor (TJ10 k).2.2.1 = some (tyJ10 k) := by decide +kernel
def RJxfd54e : String := "java/lang/constant/Constable"
def TJxfd54e : u_T := fun k => match k with
  | _ => ("", "", "", false)
def tyJxfd54e : Nat → FieldType := fun k => match k with
  | _ => .int
abbrev wsJxfd54e0 : List Cond := u_ws RJxfd54e TJxfd54e 0
theorem nmJxfd54e : ∀ a, a < 0 → ∀ b, b < 0 → a ≠ b → (TJxfd54e a).2.1 ≠ (TJxfd54e b).2.1 := by decide +kernel
theorem tyJxfd54e_ok : ∀ k, k < 0 → parseFieldDescriptor (TJxfd54e k).2.2.1 = some (tyJxfd54e k) := by decide +kernel
def RJx3cf43 : String := "java/lang/constant/ConstantDesc"
def TJx3cf43 : u_T := fun k => match k with
  | _ => ("", "", "", false)
def tyJx3cf43 : Nat → FieldType := fun k => match k with
  | _ => .int
abbrev wsJx3cf430 : List Cond := u_ws RJx3cf43 TJx3cf43 0
theorem nmJx3cf43 : ∀ a, a < 0 → ∀ b, b < 0 → a ≠ b → (TJx3cf43 a).2.1 ≠ (TJx3cf43 b).2.1 := by decide +kernel
theorem tyJx3cf43_ok : ∀ k, k < 0 → parseFieldDescriptor (TJx3cf43 k).2.2.1 = some (tyJx3cf43 k) := by decide +kernel
def RJ7 : String := "java/util/Arrays"
def TJ7 : u_T := fun k => match k with
  | _ => ("", "", "", false)
def tyJ7 : Nat → FieldType := fun k => match k with
  | _ => .int
abbrev wsJ70 : List Cond := u_ws RJ7 TJ7 0
theorem nmJ7 : ∀ a, a < 0 → ∀ b, b < 0 → a ≠ b → (TJ7 a).2.1 ≠ (TJ7 b).2.1 := by decide +kernel
theorem tyJ7_ok : ∀ k, k < 0 → parseFieldDescriptor (TJ7 k).2.2.1 = some (tyJ7 k) := by decide +kernel
abbrev cJ7_fill_53178 : ByteArray := prog_34_method_103_code
def yJ7_fill_53178 : MethodName := ⟨RJ7, "fill", "([II)V"⟩
abbrev cJ7_copyOf_9075b : ByteArray := prog_34_method_121_code
def yJ7_copyOf_9075b : MethodName := ⟨RJ7, "copyOf", "([BI)[B"⟩
abbrev cJ7_checkLength_df160 : ByteArray := prog_34_method_131_code
def yJ7_checkLength_df160 : MethodName := ⟨RJ7, "checkLength", "(II)V"⟩
abbrev cJ7_copyOfRange_39247 : ByteArray := prog_34_method_132_code
def yJ7_copyOfRange_39247 : MethodName := ⟨RJ7, "copyOfRange", "([BII)[B"⟩
abbrev cJ7_copyOfRangeByte_39247 : ByteArray := prog_34_method_133_code
def yJ7_copyOfRangeByte_39247 : MethodName := ⟨RJ7, "copyOfRangeByte", "([BII)[B"⟩
def RJ8 : String := "jdk/internal/util/ArraysSupport"
def TJ8 : u_T := fun k => match k with
  | _ => ("", "", "", false)
def tyJ8 : Nat → FieldType := fun k => match k with
  | _ => .int
abbrev wsJ80 : List Cond := u_ws RJ8 TJ8 0
theorem nmJ8 : ∀ a, a < 0 → ∀ b, b < 0 → a ≠ b → (TJ8 a).2.1 ≠ (TJ8 b).2.1 := by decide +kernel
theorem tyJ8_ok : ∀ k, k < 0 → parseFieldDescriptor (TJ8 k).2.2.1 = some (tyJ8 k) := by decide +kernel
abbrev cJ8_newLength_cabcc : ByteArray := prog_36_method_27_code
def yJ8_newLength_cabcc : MethodName := ⟨RJ8, "newLength", "(III)I"⟩
abbrev cJ8_hugeLength_7cf53 : ByteArray := prog_36_method_28_code
def yJ8_hugeLength_7cf53 : MethodName := ⟨RJ8, "hugeLength", "(II)I"⟩
def RJ3 : String := "jdk/internal/util/Preconditions"
def TJ3 : u_T := fun k => match k with
  | _ => ("", "", "", false)
def tyJ3 : Nat → FieldType := fun k => match k with
  | _ => .int
abbrev wsJ30 : List Cond := u_ws RJ3 TJ3 0
theorem nmJ3 : ∀ a, a < 0 → ∀ b, b < 0 → a ≠ b → (TJ3 a).2.1 ≠ (TJ3 b).2.1 := by decide +kernel
theorem tyJ3_ok : ∀ k, k < 0 → parseFieldDescriptor (TJ3 k).2.2.1 = some (tyJ3 k) := by decide +kernel
abbrev cJ3_checkIndex_8e157 : ByteArray := prog_37_method_11_code
def yJ3_checkIndex_8e157 : MethodName := ⟨RJ3, "checkIndex", "(IILjava/util/function/BiFunction;)I"⟩
abbrev cJ3_checkFromToIndex_8c36e : ByteArray := prog_37_method_12_code
def yJ3_checkFromToIndex_8c36e : MethodName := ⟨RJ3, "checkFromToIndex", "(IIILjava/util/function/BiFunction;)I"⟩
abbrev cJ3_checkFromIndexSize_8c36e : ByteArray := prog_37_method_13_code
def yJ3_checkFromIndexSize_8c36e : MethodName := ⟨RJ3, "checkFromIndexSize", "(IIILjava/util/function/BiFunction;)I"⟩
def RL : String := "ReplayBoothLaw"
abbrev cL_cell : ByteArray := method_2_code
def yL_cell : MethodName := ⟨RL, "cell", "([II)I"⟩
abbrev cL_some : ByteArray := method_3_code
def yL_some : MethodName := ⟨RL, "some", "([III)I"⟩
abbrev cL_feeds : ByteArray := method_4_code
def yL_feeds : MethodName := ⟨RL, "feeds", "(LReplayBooth;Ljava/lang/String;)I"⟩
abbrev cL_begins : ByteArray := method_5_code
def yL_begins : MethodName := ⟨RL, "begins", "(LReplayBooth;[I)Z"⟩
abbrev cL_law : ByteArray := code
def yL_law : MethodName := ⟨RL, "law", "([I)Z"⟩
abbrev cL_framesOf : ByteArray := method_7_code
def yL_framesOf : MethodName := ⟨RL, "framesOf", "(LReplayBooth;II)I"⟩
abbrev cL_canBe : ByteArray := method_8_code
def yL_canBe : MethodName := ⟨RL, "canBe", "(LReplayBooth;[I[I)Z"⟩
abbrev cL_goesOn : ByteArray := method_9_code
def yL_goesOn : MethodName := ⟨RL, "goesOn", "(LReplayBooth;[I)Z"⟩
abbrev cL_verdict : ByteArray := method_10_code
def yL_verdict : MethodName := ⟨RL, "verdict", "(LReplayBooth;[III)I"⟩
abbrev cL_first : ByteArray := method_11_code
def yL_first : MethodName := ⟨RL, "first", "([III)I"⟩
abbrev cL_second : ByteArray := method_12_code
def yL_second : MethodName := ⟨RL, "second", "([III)I"⟩
abbrev cL_pairs : ByteArray := method_13_code
def yL_pairs : MethodName := ⟨RL, "pairs", "([II)I"⟩
abbrev cL_doAll : ByteArray := method_14_code
def yL_doAll : MethodName := ⟨RL, "doAll", "([II[I[I)Z"⟩
abbrev cL_canAll : ByteArray := method_15_code
def yL_canAll : MethodName := ⟨RL, "canAll", "([II[I[I)Z"⟩
abbrev cL_areClocks : ByteArray := method_16_code
def yL_areClocks : MethodName := ⟨RL, "areClocks", "(LReplayBooth;[I)Z"⟩
theorem dJx29ce0_ordinal_8abf5_0 : decode cJx29ce0_ordinal_8abf5 0 = .ok (.aload_n 0, 1) := by decide +kernel
theorem dJx29ce0_ordinal_8abf5_1 : decode cJx29ce0_ordinal_8abf5 1 = .ok (.getfield 7, 3) := by decide +kernel
theorem dJx29ce0_ordinal_8abf5_4 : decode cJx29ce0_ordinal_8abf5 4 = .ok (.ireturn, 1) := by decide +kernel
abbrev vwCl : List vw_C := [(RJ0, TJ0, 4), (RJ4, TJ4, 4), (RX1, TX1, 3), (RX2, TX2, 2), (RX3, TX3, 10), (RX4, TX4, 4), (RX5, TX5, 6), (RX6, TX6, 12), (RX7, TX7, 14), (RX9, TX9, 14), (RX10, TX10, 14)]
