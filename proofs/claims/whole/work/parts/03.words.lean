def RX0 : String := "SpokenBars$Code"
def TX0 : u_T := fun k => match k with
  | _ => ("", "", "", false)
def tyX0 : Nat → FieldType := fun k => match k with
  | _ => .int
abbrev wsX00 : List Cond := u_ws RX0 TX0 0
theorem nmX0 : ∀ a, a < 0 → ∀ b, b < 0 → a ≠ b → (TX0 a).2.1 ≠ (TX0 b).2.1 := by decide +kernel
theorem tyX0_ok : ∀ k, k < 0 → parseFieldDescriptor (TX0 k).2.2.1 = some (tyX0 k) := by decide +kernel
def RX1 : String := "SpokenBars$History"
def TX1 : u_T := fun k => match k with
  | 0 => ("SpokenBars$History", "saved", "[LSpokenBars$Score;", true)
  | 1 => ("SpokenBars$History", "size", "I", false)
  | _ => ("SpokenBars$History", "next", "I", false)
def tyX1 : Nat → FieldType := fun k => match k with
  | 0 => .array (.object "SpokenBars$Score")
  | 1 => .int
  | _ => .int
abbrev wsX10 : List Cond := u_ws RX1 TX1 3
theorem nmX1 : ∀ a, a < 3 → ∀ b, b < 3 → a ≠ b → (TX1 a).2.1 ≠ (TX1 b).2.1 := by decide +kernel
theorem tyX1_ok : ∀ k, k < 3 → parseFieldDescriptor (TX1 k).2.2.1 = some (tyX1 k) := by decide +kernel
def RX2 : String := "SpokenBars$Playing"
def TX2 : u_T := fun k => match k with
  | 0 => ("SpokenBars$Playing", "places", "[I", true)
  | _ => ("SpokenBars$Playing", "size", "I", false)
def tyX2 : Nat → FieldType := fun k => match k with
  | 0 => .array .int
  | _ => .int
abbrev wsX20 : List Cond := u_ws RX2 TX2 2
theorem nmX2 : ∀ a, a < 2 → ∀ b, b < 2 → a ≠ b → (TX2 a).2.1 ≠ (TX2 b).2.1 := by decide +kernel
theorem tyX2_ok : ∀ k, k < 2 → parseFieldDescriptor (TX2 k).2.2.1 = some (tyX2 k) := by decide +kernel
def RX3 : String := "SpokenBars$Reader"
def TX3 : u_T := fun k => match k with
  | 0 => ("SpokenBars$Reader", "text", "LSpokenBars$Text;", true)
  | 1 => ("SpokenBars$Reader", "draft", "LSpokenBars$Score;", true)
  | 2 => ("SpokenBars$Reader", "from", "I", false)
  | 3 => ("SpokenBars$Reader", "to", "I", false)
  | _ => ("SpokenBars$Reader", "failedAt", "I", false)
def tyX3 : Nat → FieldType := fun k => match k with
  | 0 => .object "SpokenBars$Text"
  | 1 => .object "SpokenBars$Score"
  | 2 => .int
  | 3 => .int
  | _ => .int
abbrev wsX30 : List Cond := u_ws RX3 TX3 5
theorem nmX3 : ∀ a, a < 5 → ∀ b, b < 5 → a ≠ b → (TX3 a).2.1 ≠ (TX3 b).2.1 := by decide +kernel
theorem tyX3_ok : ∀ k, k < 5 → parseFieldDescriptor (TX3 k).2.2.1 = some (tyX3 k) := by decide +kernel
def RX4 : String := "SpokenBars$Score"
def TX4 : u_T := fun k => match k with
  | 0 => ("SpokenBars$Score", "cells", "[I", true)
  | _ => ("SpokenBars$Score", "size", "I", false)
def tyX4 : Nat → FieldType := fun k => match k with
  | 0 => .array .int
  | _ => .int
abbrev wsX40 : List Cond := u_ws RX4 TX4 2
theorem nmX4 : ∀ a, a < 2 → ∀ b, b < 2 → a ≠ b → (TX4 a).2.1 ≠ (TX4 b).2.1 := by decide +kernel
theorem tyX4_ok : ∀ k, k < 2 → parseFieldDescriptor (TX4 k).2.2.1 = some (tyX4 k) := by decide +kernel
def RX5 : String := "SpokenBars$Sentence"
def TX5 : u_T := fun k => match k with
  | 0 => ("SpokenBars$Sentence", "bytes", "[B", true)
  | 1 => ("SpokenBars$Sentence", "length", "I", false)
  | _ => ("SpokenBars$Sentence", "wordCount", "I", false)
def tyX5 : Nat → FieldType := fun k => match k with
  | 0 => .array .byte
  | 1 => .int
  | _ => .int
abbrev wsX50 : List Cond := u_ws RX5 TX5 3
theorem nmX5 : ∀ a, a < 3 → ∀ b, b < 3 → a ≠ b → (TX5 a).2.1 ≠ (TX5 b).2.1 := by decide +kernel
theorem tyX5_ok : ∀ k, k < 3 → parseFieldDescriptor (TX5 k).2.2.1 = some (tyX5 k) := by decide +kernel
def RX6 : String := "SpokenBars$Sounds"
def TX6 : u_T := fun k => match k with
  | 0 => ("SpokenBars$Sounds", "score", "LSpokenBars$Score;", true)
  | 1 => ("SpokenBars$Sounds", "shifts", "[I", true)
  | _ => ("SpokenBars$Sounds", "heldTicks", "[I", true)
def tyX6 : Nat → FieldType := fun k => match k with
  | 0 => .object "SpokenBars$Score"
  | 1 => .array .int
  | _ => .array .int
abbrev wsX60 : List Cond := u_ws RX6 TX6 3
theorem nmX6 : ∀ a, a < 3 → ∀ b, b < 3 → a ≠ b → (TX6 a).2.1 ≠ (TX6 b).2.1 := by decide +kernel
theorem tyX6_ok : ∀ k, k < 3 → parseFieldDescriptor (TX6 k).2.2.1 = some (tyX6 k) := by decide +kernel
def RX7 : String := "SpokenBars$Text"
def TX7 : u_T := fun k => match k with
  | 0 => ("SpokenBars$Text", "bytes", "[B", true)
  | _ => ("SpokenBars$Text", "length", "I", false)
def tyX7 : Nat → FieldType := fun k => match k with
  | 0 => .array .byte
  | _ => .int
abbrev wsX70 : List Cond := u_ws RX7 TX7 2
theorem nmX7 : ∀ a, a < 2 → ∀ b, b < 2 → a ≠ b → (TX7 a).2.1 ≠ (TX7 b).2.1 := by decide +kernel
theorem tyX7_ok : ∀ k, k < 2 → parseFieldDescriptor (TX7 k).2.2.1 = some (tyX7 k) := by decide +kernel
def RX8 : String := "SpokenBars$Words"
def TX8 : u_T := fun k => match k with
  | _ => ("", "", "", false)
def tyX8 : Nat → FieldType := fun k => match k with
  | _ => .int
abbrev wsX80 : List Cond := u_ws RX8 TX8 0
theorem nmX8 : ∀ a, a < 0 → ∀ b, b < 0 → a ≠ b → (TX8 a).2.1 ≠ (TX8 b).2.1 := by decide +kernel
theorem tyX8_ok : ∀ k, k < 0 → parseFieldDescriptor (TX8 k).2.2.1 = some (tyX8 k) := by decide +kernel
def RX9 : String := "SpokenBars"
def TX9 : u_T := fun k => match k with
  | 0 => ("SpokenBars", "score", "LSpokenBars$Score;", true)
  | 1 => ("SpokenBars", "history", "LSpokenBars$History;", true)
  | 2 => ("SpokenBars", "text", "LSpokenBars$Text;", true)
  | 3 => ("SpokenBars", "sentence", "LSpokenBars$Sentence;", true)
  | 4 => ("SpokenBars", "reader", "LSpokenBars$Reader;", true)
  | 5 => ("SpokenBars", "sounds", "LSpokenBars$Sounds;", true)
  | _ => ("SpokenBars", "playing", "LSpokenBars$Playing;", true)
def tyX9 : Nat → FieldType := fun k => match k with
  | 0 => .object "SpokenBars$Score"
  | 1 => .object "SpokenBars$History"
  | 2 => .object "SpokenBars$Text"
  | 3 => .object "SpokenBars$Sentence"
  | 4 => .object "SpokenBars$Reader"
  | 5 => .object "SpokenBars$Sounds"
  | _ => .object "SpokenBars$Playing"
abbrev wsX90 : List Cond := u_ws RX9 TX9 7
theorem nmX9 : ∀ a, a < 7 → ∀ b, b < 7 → a ≠ b → (TX9 a).2.1 ≠ (TX9 b).2.1 := by decide +kernel
theorem tyX9_ok : ∀ k, k < 7 → parseFieldDescriptor (TX9 k).2.2.1 = some (tyX9 k) := by decide +kernel
def RX10 : String := "SpokenBarsModel"
def TX10 : u_T := fun k => match k with
  | 0 => ("SpokenBarsModel", "st", "[I", true)
  | 1 => ("SpokenBarsModel", "past", "[I", true)
  | 2 => ("SpokenBarsModel", "pasts", "I", false)
  | 3 => ("SpokenBarsModel", "text", "[I", true)
  | 4 => ("SpokenBarsModel", "length", "I", false)
  | 5 => ("SpokenBarsModel", "code", "I", false)
  | 6 => ("SpokenBarsModel", "nextM", "I", false)
  | 7 => ("SpokenBarsModel", "nextE", "I", false)
  | 8 => ("SpokenBarsModel", "played", "[I", true)
  | 9 => ("SpokenBarsModel", "places", "I", false)
  | 10 => ("SpokenBarsModel", "spelt", "[I", true)
  | 11 => ("SpokenBarsModel", "line", "[I", true)
  | 12 => ("SpokenBarsModel", "lineMany", "I", false)
  | 13 => ("SpokenBarsModel", "from", "I", false)
  | 14 => ("SpokenBarsModel", "to", "I", false)
  | 15 => ("SpokenBarsModel", "number", "I", false)
  | 16 => ("SpokenBarsModel", "read", "[I", true)
  | 17 => ("SpokenBarsModel", "hasKey", "Z", false)
  | 18 => ("SpokenBarsModel", "hasTime", "Z", false)
  | _ => ("SpokenBarsModel", "h", "J", false)
def tyX10 : Nat → FieldType := fun k => match k with
  | 0 => .array .int
  | 1 => .array .int
  | 2 => .int
  | 3 => .array .int
  | 4 => .int
  | 5 => .int
  | 6 => .int
  | 7 => .int
  | 8 => .array .int
  | 9 => .int
  | 10 => .array .int
  | 11 => .array .int
  | 12 => .int
  | 13 => .int
  | 14 => .int
  | 15 => .int
  | 16 => .array .int
  | 17 => .boolean
  | 18 => .boolean
  | _ => .long
abbrev wsX100 : List Cond := u_ws RX10 TX10 20
theorem nmX10 : ∀ a, a < 20 → ∀ b, b < 20 → a ≠ b → (TX10 a).2.1 ≠ (TX10 b).2.1 := by decide +kernel
theorem tyX10_ok : ∀ k, k < 20 → parseFieldDescriptor (TX10 k).2.2.1 = some (tyX10 k) := by decide +kernel
def RJ0 : String := "java/lang/String"
def TJ0 : u_T := fun k => match k with
  | 0 => ("java/lang/String", "value", "[B", true)
  | 1 => ("java/lang/String", "coder", "B", true)
  | 2 => ("java/lang/String", "hash", "I", false)
  | _ => ("java/lang/String", "hashIsZero", "Z", false)
def tyJ0 : Nat → FieldType := fun k => match k with
  | 0 => .array .byte
  | 1 => .byte
  | 2 => .int
  | _ => .boolean
abbrev wsJ00 : List Cond := u_ws RJ0 TJ0 4
theorem nmJ0 : ∀ a, a < 4 → ∀ b, b < 4 → a ≠ b → (TJ0 a).2.1 ≠ (TJ0 b).2.1 := by decide +kernel
theorem tyJ0_ok : ∀ k, k < 4 → parseFieldDescriptor (TJ0 k).2.2.1 = some (tyJ0 k) := by decide +kernel
def RJ1 : String := "java/lang/StringLatin1"
def RJ7 : String := "java/util/Arrays"
def RJ9 : String := "java/lang/Math"
def RJ10 : String := "java/lang/System"
def RL : String := "SpokenBarsLaw"
abbrev cX0_ofNote : ByteArray := prog_2_method_2_code
def yX0_ofNote : MethodName := ⟨RX0, "ofNote", "(IIIZ)I"⟩
abbrev cX0_ofRest : ByteArray := prog_2_method_3_code
def yX0_ofRest : MethodName := ⟨RX0, "ofRest", "(I)I"⟩
abbrev cX0_isNote : ByteArray := prog_2_method_4_code
def yX0_isNote : MethodName := ⟨RX0, "isNote", "(I)Z"⟩
abbrev cX0_isTied : ByteArray := prog_2_method_5_code
def yX0_isTied : MethodName := ⟨RX0, "isTied", "(I)Z"⟩
abbrev cX0_pitchOf : ByteArray := prog_2_method_6_code
def yX0_pitchOf : MethodName := ⟨RX0, "pitchOf", "(I)I"⟩
abbrev cX0_octaveOf : ByteArray := prog_2_method_7_code
def yX0_octaveOf : MethodName := ⟨RX0, "octaveOf", "(I)I"⟩
abbrev cX0_stepOf : ByteArray := prog_2_method_8_code
def yX0_stepOf : MethodName := ⟨RX0, "stepOf", "(I)I"⟩
abbrev cX0_signOf : ByteArray := prog_2_method_9_code
def yX0_signOf : MethodName := ⟨RX0, "signOf", "(I)I"⟩
abbrev cX0_durationOf : ByteArray := prog_2_method_10_code
def yX0_durationOf : MethodName := ⟨RX0, "durationOf", "(I)I"⟩
abbrev cX0_isDotted : ByteArray := prog_2_method_11_code
def yX0_isDotted : MethodName := ⟨RX0, "isDotted", "(I)Z"⟩
abbrev cX0_lengthOf : ByteArray := prog_2_method_12_code
def yX0_lengthOf : MethodName := ⟨RX0, "lengthOf", "(I)I"⟩
abbrev cX0_ticksOf : ByteArray := prog_2_method_13_code
def yX0_ticksOf : MethodName := ⟨RX0, "ticksOf", "(I)I"⟩
abbrev cX0_samePitch : ByteArray := prog_2_method_14_code
def yX0_samePitch : MethodName := ⟨RX0, "samePitch", "(II)Z"⟩
abbrev cX1_init : ByteArray := prog_3_method_1_code
def yX1_init : MethodName := ⟨RX1, "<init>", "()V"⟩
abbrev cX1_size : ByteArray := prog_3_method_2_code
def yX1_size : MethodName := ⟨RX1, "size", "()I"⟩
abbrev cX1_push : ByteArray := prog_3_method_3_code
def yX1_push : MethodName := ⟨RX1, "push", "(LSpokenBars$Score;)V"⟩
abbrev cX1_popInto : ByteArray := prog_3_method_4_code
def yX1_popInto : MethodName := ⟨RX1, "popInto", "(LSpokenBars$Score;)V"⟩
abbrev cX2_init : ByteArray := prog_4_method_1_code
def yX2_init : MethodName := ⟨RX2, "<init>", "()V"⟩
abbrev cX2_size : ByteArray := prog_4_method_2_code
def yX2_size : MethodName := ⟨RX2, "size", "()I"⟩
abbrev cX2_at : ByteArray := prog_4_method_3_code
def yX2_at : MethodName := ⟨RX2, "at", "(I)I"⟩
abbrev cX2_unroll : ByteArray := prog_4_method_4_code
def yX2_unroll : MethodName := ⟨RX2, "unroll", "(LSpokenBars$Score;)V"⟩
abbrev cX2_beginsAnew : ByteArray := prog_4_method_5_code
def yX2_beginsAnew : MethodName := ⟨RX2, "beginsAnew", "(LSpokenBars$Score;I)Z"⟩
abbrev cX2_ticks : ByteArray := prog_4_method_6_code
def yX2_ticks : MethodName := ⟨RX2, "ticks", "(LSpokenBars$Score;)I"⟩
abbrev cX2_timesOf : ByteArray := prog_4_method_7_code
def yX2_timesOf : MethodName := ⟨RX2, "timesOf", "(I)I"⟩
abbrev cX2_secondsUpTo : ByteArray := prog_4_method_8_code
def yX2_secondsUpTo : MethodName := ⟨RX2, "secondsUpTo", "(LSpokenBars$Score;I)F"⟩
abbrev cX2_placesBegunBy : ByteArray := prog_4_method_9_code
def yX2_placesBegunBy : MethodName := ⟨RX2, "placesBegunBy", "(LSpokenBars$Score;F)I"⟩
abbrev cX2_secondsOf : ByteArray := prog_4_method_10_code
def yX2_secondsOf : MethodName := ⟨RX2, "secondsOf", "(LSpokenBars$Score;I)F"⟩
abbrev cX3_init : ByteArray := prog_5_method_1_code
def yX3_init : MethodName := ⟨RX3, "<init>", "(LSpokenBars$Text;)V"⟩
abbrev cX3_draft : ByteArray := prog_5_method_2_code
def yX3_draft : MethodName := ⟨RX3, "draft", "()LSpokenBars$Score;"⟩
abbrev cX3_findFault : ByteArray := prog_5_method_3_code
def yX3_findFault : MethodName := ⟨RX3, "findFault", "()I"⟩
abbrev cX3_readHead : ByteArray := prog_5_method_4_code
def yX3_readHead : MethodName := ⟨RX3, "readHead", "()V"⟩
abbrev cX3_readKey : ByteArray := prog_5_method_5_code
def yX3_readKey : MethodName := ⟨RX3, "readKey", "()I"⟩
abbrev cX3_readLower : ByteArray := prog_5_method_6_code
def yX3_readLower : MethodName := ⟨RX3, "readLower", "()I"⟩
abbrev cX3_readEvents : ByteArray := prog_5_method_7_code
def yX3_readEvents : MethodName := ⟨RX3, "readEvents", "(I)V"⟩
abbrev cX3_beginsEvent : ByteArray := prog_5_method_8_code
def yX3_beginsEvent : MethodName := ⟨RX3, "beginsEvent", "()Z"⟩
abbrev cX3_readEvent : ByteArray := prog_5_method_9_code
def yX3_readEvent : MethodName := ⟨RX3, "readEvent", "(I)V"⟩
abbrev cX3_readSign : ByteArray := prog_5_method_10_code
def yX3_readSign : MethodName := ⟨RX3, "readSign", "()I"⟩
abbrev cX3_readDuration : ByteArray := prog_5_method_11_code
def yX3_readDuration : MethodName := ⟨RX3, "readDuration", "()I"⟩
abbrev cX3_fail : ByteArray := prog_5_method_12_code
def yX3_fail : MethodName := ⟨RX3, "fail", "()V"⟩
abbrev cX3_takeWord : ByteArray := prog_5_method_13_code
def yX3_takeWord : MethodName := ⟨RX3, "takeWord", "(Ljava/lang/String;)Z"⟩
abbrev cX3_needWord : ByteArray := prog_5_method_14_code
def yX3_needWord : MethodName := ⟨RX3, "needWord", "(Ljava/lang/String;)V"⟩
abbrev cX3_takeNumber : ByteArray := prog_5_method_15_code
def yX3_takeNumber : MethodName := ⟨RX3, "takeNumber", "(II)I"⟩
abbrev cX3_advance : ByteArray := prog_5_method_16_code
def yX3_advance : MethodName := ⟨RX3, "advance", "()V"⟩
abbrev cX3_isWord : ByteArray := prog_5_method_17_code
def yX3_isWord : MethodName := ⟨RX3, "isWord", "(Ljava/lang/String;)Z"⟩
abbrev cX3_step : ByteArray := prog_5_method_18_code
def yX3_step : MethodName := ⟨RX3, "step", "()I"⟩
abbrev cX3_number : ByteArray := prog_5_method_19_code
def yX3_number : MethodName := ⟨RX3, "number", "()I"⟩
abbrev cX4_init : ByteArray := prog_6_method_1_code
def yX4_init : MethodName := ⟨RX4, "<init>", "()V"⟩
abbrev cX4_canHold : ByteArray := prog_6_method_2_code
def yX4_canHold : MethodName := ⟨RX4, "canHold", "(II)Z"⟩
abbrev cX4_size : ByteArray := prog_6_method_3_code
def yX4_size : MethodName := ⟨RX4, "size", "()I"⟩
abbrev cX4_isFull : ByteArray := prog_6_method_4_code
def yX4_isFull : MethodName := ⟨RX4, "isFull", "()Z"⟩
abbrev cX4_hasMeasure : ByteArray := prog_6_method_5_code
def yX4_hasMeasure : MethodName := ⟨RX4, "hasMeasure", "(I)Z"⟩
abbrev cX4_hasVoice : ByteArray := prog_6_method_6_code
def yX4_hasVoice : MethodName := ⟨RX4, "hasVoice", "(II)Z"⟩
abbrev cX4_hasEvent : ByteArray := prog_6_method_7_code
def yX4_hasEvent : MethodName := ⟨RX4, "hasEvent", "(III)Z"⟩
abbrev cX4_value : ByteArray := prog_6_method_8_code
def yX4_value : MethodName := ⟨RX4, "value", "(II)I"⟩
abbrev cX4_putValue : ByteArray := prog_6_method_9_code
def yX4_putValue : MethodName := ⟨RX4, "putValue", "(III)V"⟩
abbrev cX4_count : ByteArray := prog_6_method_10_code
def yX4_count : MethodName := ⟨RX4, "count", "(II)I"⟩
abbrev cX4_code : ByteArray := prog_6_method_11_code
def yX4_code : MethodName := ⟨RX4, "code", "(III)I"⟩
abbrev cX4_voiceCell : ByteArray := prog_6_method_12_code
def yX4_voiceCell : MethodName := ⟨RX4, "voiceCell", "(II)I"⟩
abbrev cX4_appendMeasure : ByteArray := prog_6_method_13_code
def yX4_appendMeasure : MethodName := ⟨RX4, "appendMeasure", "()V"⟩
abbrev cX4_dropMeasure : ByteArray := prog_6_method_14_code
def yX4_dropMeasure : MethodName := ⟨RX4, "dropMeasure", "(I)V"⟩
abbrev cX4_appendEvent : ByteArray := prog_6_method_15_code
def yX4_appendEvent : MethodName := ⟨RX4, "appendEvent", "(III)V"⟩
abbrev cX4_dropEvent : ByteArray := prog_6_method_16_code
def yX4_dropEvent : MethodName := ⟨RX4, "dropEvent", "(III)V"⟩
abbrev cX4_copyFrom : ByteArray := prog_6_method_17_code
def yX4_copyFrom : MethodName := ⟨RX4, "copyFrom", "(LSpokenBars$Score;)V"⟩
abbrev cX4_ticks : ByteArray := prog_6_method_18_code
def yX4_ticks : MethodName := ⟨RX4, "ticks", "(I)I"⟩
abbrev cX4_voiceTicks : ByteArray := prog_6_method_19_code
def yX4_voiceTicks : MethodName := ⟨RX4, "voiceTicks", "(II)I"⟩
abbrev cX4_begin : ByteArray := prog_6_method_20_code
def yX4_begin : MethodName := ⟨RX4, "begin", "(III)I"⟩
abbrev cX4_unevenVoices : ByteArray := prog_6_method_21_code
def yX4_unevenVoices : MethodName := ⟨RX4, "unevenVoices", "()I"⟩
abbrev cX4_codeBefore : ByteArray := prog_6_method_22_code
def yX4_codeBefore : MethodName := ⟨RX4, "codeBefore", "(III)I"⟩
abbrev cX4_codeAfter : ByteArray := prog_6_method_23_code
def yX4_codeAfter : MethodName := ⟨RX4, "codeAfter", "(III)I"⟩
abbrev cX4_isHeldTie : ByteArray := prog_6_method_24_code
def yX4_isHeldTie : MethodName := ⟨RX4, "isHeldTie", "(III)Z"⟩
abbrev cX4_becomeDraft : ByteArray := prog_6_method_25_code
def yX4_becomeDraft : MethodName := ⟨RX4, "becomeDraft", "()V"⟩
abbrev cX4_takeDraft : ByteArray := prog_6_method_26_code
def yX4_takeDraft : MethodName := ⟨RX4, "takeDraft", "(ILSpokenBars$Score;)V"⟩
abbrev cX4_agreesWith : ByteArray := prog_6_method_27_code
def yX4_agreesWith : MethodName := ⟨RX4, "agreesWith", "(ILSpokenBars$Score;)Z"⟩
abbrev cX4_hasVoiceOf : ByteArray := prog_6_method_28_code
def yX4_hasVoiceOf : MethodName := ⟨RX4, "hasVoiceOf", "(ILSpokenBars$Score;I)Z"⟩
abbrev cX5_init : ByteArray := prog_7_method_1_code
def yX5_init : MethodName := ⟨RX5, "<init>", "()V"⟩
abbrev cX5_length : ByteArray := prog_7_method_2_code
def yX5_length : MethodName := ⟨RX5, "length", "()I"⟩
abbrev cX5_wordCount : ByteArray := prog_7_method_3_code
def yX5_wordCount : MethodName := ⟨RX5, "wordCount", "()I"⟩
abbrev cX5_at : ByteArray := prog_7_method_4_code
def yX5_at : MethodName := ⟨RX5, "at", "(I)I"⟩
abbrev cX5_tellMeasure : ByteArray := prog_7_method_5_code
def yX5_tellMeasure : MethodName := ⟨RX5, "tellMeasure", "(LSpokenBars$Score;I)V"⟩
abbrev cX5_differsFromBefore : ByteArray := prog_7_method_6_code
def yX5_differsFromBefore : MethodName := ⟨RX5, "differsFromBefore", "(LSpokenBars$Score;II)Z"⟩
abbrev cX5_tellKey : ByteArray := prog_7_method_7_code
def yX5_tellKey : MethodName := ⟨RX5, "tellKey", "(I)V"⟩
abbrev cX5_tellVoice : ByteArray := prog_7_method_8_code
def yX5_tellVoice : MethodName := ⟨RX5, "tellVoice", "(LSpokenBars$Score;II)V"⟩
abbrev cX5_tellEvent : ByteArray := prog_7_method_9_code
def yX5_tellEvent : MethodName := ⟨RX5, "tellEvent", "(I)V"⟩
abbrev cX5_tellNumbered : ByteArray := prog_7_method_10_code
def yX5_tellNumbered : MethodName := ⟨RX5, "tellNumbered", "(Ljava/lang/String;I)V"⟩
abbrev cX5_tellWord : ByteArray := prog_7_method_11_code
def yX5_tellWord : MethodName := ⟨RX5, "tellWord", "(Ljava/lang/String;)V"⟩
abbrev cX5_tellNumber : ByteArray := prog_7_method_12_code
def yX5_tellNumber : MethodName := ⟨RX5, "tellNumber", "(I)V"⟩
abbrev cX5_beginWord : ByteArray := prog_7_method_13_code
def yX5_beginWord : MethodName := ⟨RX5, "beginWord", "()V"⟩
abbrev cX5_put : ByteArray := prog_7_method_14_code
def yX5_put : MethodName := ⟨RX5, "put", "(I)V"⟩
abbrev cX6_init : ByteArray := prog_8_method_1_code
def yX6_init : MethodName := ⟨RX6, "<init>", "(LSpokenBars$Score;)V"⟩
abbrev cX6_slot : ByteArray := prog_8_method_2_code
def yX6_slot : MethodName := ⟨RX6, "slot", "(III)I"⟩
abbrev cX6_shift : ByteArray := prog_8_method_3_code
def yX6_shift : MethodName := ⟨RX6, "shift", "(III)I"⟩
abbrev cX6_held : ByteArray := prog_8_method_4_code
def yX6_held : MethodName := ⟨RX6, "held", "(III)I"⟩
abbrev cX6_isBrokenTie : ByteArray := prog_8_method_5_code
def yX6_isBrokenTie : MethodName := ⟨RX6, "isBrokenTie", "(III)Z"⟩
abbrev cX6_sounding : ByteArray := prog_8_method_6_code
def yX6_sounding : MethodName := ⟨RX6, "sounding", "(III)I"⟩
abbrev cX6_findShifts : ByteArray := prog_8_method_7_code
def yX6_findShifts : MethodName := ⟨RX6, "findShifts", "()V"⟩
abbrev cX6_findHeldTicks : ByteArray := prog_8_method_8_code
def yX6_findHeldTicks : MethodName := ⟨RX6, "findHeldTicks", "()V"⟩
abbrev cX6_put : ByteArray := prog_8_method_9_code
def yX6_put : MethodName := ⟨RX6, "put", "([III)V"⟩
abbrev cX6_shiftBefore : ByteArray := prog_8_method_10_code
def yX6_shiftBefore : MethodName := ⟨RX6, "shiftBefore", "(III)I"⟩
abbrev cX6_shiftWith : ByteArray := prog_8_method_11_code
def yX6_shiftWith : MethodName := ⟨RX6, "shiftWith", "(IIIII)I"⟩
abbrev cX6_shiftWithoutSign : ByteArray := prog_8_method_12_code
def yX6_shiftWithoutSign : MethodName := ⟨RX6, "shiftWithoutSign", "(IIIII)I"⟩
abbrev cX6_signShift : ByteArray := prog_8_method_13_code
def yX6_signShift : MethodName := ⟨RX6, "signShift", "(I)I"⟩
abbrev cX6_keyShift : ByteArray := prog_8_method_14_code
def yX6_keyShift : MethodName := ⟨RX6, "keyShift", "(II)I"⟩
abbrev cX6_changedWith : ByteArray := prog_8_method_15_code
def yX6_changedWith : MethodName := ⟨RX6, "changedWith", "(II)I"⟩
abbrev cX6_signsWithoutEffect : ByteArray := prog_8_method_16_code
def yX6_signsWithoutEffect : MethodName := ⟨RX6, "signsWithoutEffect", "(I)I"⟩
abbrev cX6_crossedTicks : ByteArray := prog_8_method_17_code
def yX6_crossedTicks : MethodName := ⟨RX6, "crossedTicks", "(I)I"⟩
abbrev cX6_ticksAbove : ByteArray := prog_8_method_18_code
def yX6_ticksAbove : MethodName := ⟨RX6, "ticksAbove", "(IIII)I"⟩
abbrev cX7_init : ByteArray := prog_9_method_1_code
def yX7_init : MethodName := ⟨RX7, "<init>", "()V"⟩
abbrev cX7_length : ByteArray := prog_9_method_2_code
def yX7_length : MethodName := ⟨RX7, "length", "()I"⟩
abbrev cX7_at : ByteArray := prog_9_method_3_code
def yX7_at : MethodName := ⟨RX7, "at", "(I)I"⟩
abbrev cX7_append : ByteArray := prog_9_method_4_code
def yX7_append : MethodName := ⟨RX7, "append", "(I)V"⟩
abbrev cX7_shorten : ByteArray := prog_9_method_5_code
def yX7_shorten : MethodName := ⟨RX7, "shorten", "(I)V"⟩
abbrev cX8_ofSign : ByteArray := prog_10_method_2_code
def yX8_ofSign : MethodName := ⟨RX8, "ofSign", "(I)Ljava/lang/String;"⟩
abbrev cX8_ofLength : ByteArray := prog_10_method_3_code
def yX8_ofLength : MethodName := ⟨RX8, "ofLength", "(I)Ljava/lang/String;"⟩
abbrev cX8_letterOf : ByteArray := prog_10_method_4_code
def yX8_letterOf : MethodName := ⟨RX8, "letterOf", "(I)C"⟩
abbrev cX9_init : ByteArray := prog_1_method_1_code
def yX9_init : MethodName := ⟨RX9, "<init>", "()V"⟩
abbrev cX9_addMeasure : ByteArray := prog_1_method_2_code
def yX9_addMeasure : MethodName := ⟨RX9, "addMeasure", "()I"⟩
abbrev cX9_removeMeasure : ByteArray := prog_1_method_3_code
def yX9_removeMeasure : MethodName := ⟨RX9, "removeMeasure", "(I)I"⟩
abbrev cX9_set : ByteArray := prog_1_method_4_code
def yX9_set : MethodName := ⟨RX9, "set", "(III)I"⟩
abbrev cX9_addNote : ByteArray := prog_1_method_5_code
def yX9_addNote : MethodName := ⟨RX9, "addNote", "(IIIIIZ)I"⟩
abbrev cX9_addRest : ByteArray := prog_1_method_6_code
def yX9_addRest : MethodName := ⟨RX9, "addRest", "(III)I"⟩
abbrev cX9_removeEvent : ByteArray := prog_1_method_7_code
def yX9_removeEvent : MethodName := ⟨RX9, "removeEvent", "(III)I"⟩
abbrev cX9_measure : ByteArray := prog_1_method_8_code
def yX9_measure : MethodName := ⟨RX9, "measure", "(II)I"⟩
abbrev cX9_event : ByteArray := prog_1_method_9_code
def yX9_event : MethodName := ⟨RX9, "event", "(IIII)I"⟩
abbrev cX9_eventAt : ByteArray := prog_1_method_10_code
def yX9_eventAt : MethodName := ⟨RX9, "eventAt", "(III)I"⟩
abbrev cX9_crossings : ByteArray := prog_1_method_11_code
def yX9_crossings : MethodName := ⟨RX9, "crossings", "(I)I"⟩
abbrev cX9_whole : ByteArray := prog_1_method_12_code
def yX9_whole : MethodName := ⟨RX9, "whole", "(I)I"⟩
abbrev cX9_order : ByteArray := prog_1_method_13_code
def yX9_order : MethodName := ⟨RX9, "order", "(I)I"⟩
abbrev cX9_timesPlayed : ByteArray := prog_1_method_14_code
def yX9_timesPlayed : MethodName := ⟨RX9, "timesPlayed", "(I)I"⟩
abbrev cX9_seconds : ByteArray := prog_1_method_15_code
def yX9_seconds : MethodName := ⟨RX9, "seconds", "(I)F"⟩
abbrev cX9_placeAt : ByteArray := prog_1_method_16_code
def yX9_placeAt : MethodName := ⟨RX9, "placeAt", "(I)I"⟩
abbrev cX9_sentenceLength : ByteArray := prog_1_method_17_code
def yX9_sentenceLength : MethodName := ⟨RX9, "sentenceLength", "(I)I"⟩
abbrev cX9_sentenceByte : ByteArray := prog_1_method_18_code
def yX9_sentenceByte : MethodName := ⟨RX9, "sentenceByte", "(II)I"⟩
abbrev cX9_words : ByteArray := prog_1_method_19_code
def yX9_words : MethodName := ⟨RX9, "words", "(I)I"⟩
abbrev cX9_copySentence : ByteArray := prog_1_method_20_code
def yX9_copySentence : MethodName := ⟨RX9, "copySentence", "(I)I"⟩
abbrev cX9_type : ByteArray := prog_1_method_21_code
def yX9_type : MethodName := ⟨RX9, "type", "(I)I"⟩
abbrev cX9_cut : ByteArray := prog_1_method_22_code
def yX9_cut : MethodName := ⟨RX9, "cut", "(I)I"⟩
abbrev cX9_clearText : ByteArray := prog_1_method_23_code
def yX9_clearText : MethodName := ⟨RX9, "clearText", "()I"⟩
abbrev cX9_fault : ByteArray := prog_1_method_24_code
def yX9_fault : MethodName := ⟨RX9, "fault", "()I"⟩
abbrev cX9_readInto : ByteArray := prog_1_method_25_code
def yX9_readInto : MethodName := ⟨RX9, "readInto", "(I)I"⟩
abbrev cX9_tells : ByteArray := prog_1_method_26_code
def yX9_tells : MethodName := ⟨RX9, "tells", "(I)Z"⟩
abbrev cX9_changedBy : ByteArray := prog_1_method_27_code
def yX9_changedBy : MethodName := ⟨RX9, "changedBy", "(II)I"⟩
abbrev cX9_nearestKey : ByteArray := prog_1_method_28_code
def yX9_nearestKey : MethodName := ⟨RX9, "nearestKey", "(I)I"⟩
abbrev cX9_needlessSigns : ByteArray := prog_1_method_29_code
def yX9_needlessSigns : MethodName := ⟨RX9, "needlessSigns", "(I)I"⟩
abbrev cX9_undo : ByteArray := prog_1_method_30_code
def yX9_undo : MethodName := ⟨RX9, "undo", "()I"⟩
abbrev cX9_digest : ByteArray := prog_1_method_31_code
def yX9_digest : MethodName := ⟨RX9, "digest", "()J"⟩
abbrev cX9_mix : ByteArray := prog_1_method_32_code
def yX9_mix : MethodName := ⟨RX9, "mix", "(JJ)J"⟩
abbrev cX9_mixValues : ByteArray := prog_1_method_33_code
def yX9_mixValues : MethodName := ⟨RX9, "mixValues", "(JI)J"⟩
abbrev cX9_mixVoice : ByteArray := prog_1_method_34_code
def yX9_mixVoice : MethodName := ⟨RX9, "mixVoice", "(JII)J"⟩
abbrev cX9_mixSentence : ByteArray := prog_1_method_35_code
def yX9_mixSentence : MethodName := ⟨RX9, "mixSentence", "(JI)J"⟩
abbrev cX9_noteValue : ByteArray := prog_1_method_36_code
def yX9_noteValue : MethodName := ⟨RX9, "noteValue", "(IIII)I"⟩
abbrev cX9_eventsOfKind : ByteArray := prog_1_method_37_code
def yX9_eventsOfKind : MethodName := ⟨RX9, "eventsOfKind", "(I)I"⟩
abbrev cX9_isOfKind : ByteArray := prog_1_method_38_code
def yX9_isOfKind : MethodName := ⟨RX9, "isOfKind", "(IIII)Z"⟩
abbrev cX9_settle : ByteArray := prog_1_method_39_code
def yX9_settle : MethodName := ⟨RX9, "settle", "()V"⟩
abbrev cX9_requireMeasure : ByteArray := prog_1_method_40_code
def yX9_requireMeasure : MethodName := ⟨RX9, "requireMeasure", "(I)V"⟩
abbrev cX9_requireVoice : ByteArray := prog_1_method_41_code
def yX9_requireVoice : MethodName := ⟨RX9, "requireVoice", "(II)V"⟩
abbrev cX9_requireEvent : ByteArray := prog_1_method_42_code
def yX9_requireEvent : MethodName := ⟨RX9, "requireEvent", "(III)V"⟩
abbrev cX9_requireRoom : ByteArray := prog_1_method_43_code
def yX9_requireRoom : MethodName := ⟨RX9, "requireRoom", "(II)V"⟩
abbrev cX9_requireRange : ByteArray := prog_1_method_44_code
def yX9_requireRange : MethodName := ⟨RX9, "requireRange", "(III)V"⟩
abbrev cX9_requireNotNegative : ByteArray := prog_1_method_45_code
def yX9_requireNotNegative : MethodName := ⟨RX9, "requireNotNegative", "(I)V"⟩
abbrev cX10_init : ByteArray := prog_12_method_1_code
def yX10_init : MethodName := ⟨RX10, "<init>", "()V"⟩
abbrev cX10_thrown : ByteArray := prog_12_method_2_code
def yX10_thrown : MethodName := ⟨RX10, "thrown", "()I"⟩
abbrev cX10_refused : ByteArray := prog_12_method_3_code
def yX10_refused : MethodName := ⟨RX10, "refused", "(I)Z"⟩
abbrev cX10_in : ByteArray := prog_12_method_4_code
def yX10_in : MethodName := ⟨RX10, "in", "(III)Z"⟩
abbrev cX10_saves : ByteArray := prog_12_method_5_code
def yX10_saves : MethodName := ⟨RX10, "saves", "()V"⟩
abbrev cX10_undo : ByteArray := prog_12_method_6_code
def yX10_undo : MethodName := ⟨RX10, "undo", "()I"⟩
abbrev cX10_base : ByteArray := prog_12_method_7_code
def yX10_base : MethodName := ⟨RX10, "base", "(I)I"⟩
abbrev cX10_of : ByteArray := prog_12_method_8_code
def yX10_of : MethodName := ⟨RX10, "of", "(II)I"⟩
abbrev cX10_cell : ByteArray := prog_12_method_9_code
def yX10_cell : MethodName := ⟨RX10, "cell", "(III)I"⟩
abbrev cX10_isMeasure : ByteArray := prog_12_method_10_code
def yX10_isMeasure : MethodName := ⟨RX10, "isMeasure", "(I)Z"⟩
abbrev cX10_isVoice : ByteArray := prog_12_method_11_code
def yX10_isVoice : MethodName := ⟨RX10, "isVoice", "(II)Z"⟩
abbrev cX10_isEvent : ByteArray := prog_12_method_12_code
def yX10_isEvent : MethodName := ⟨RX10, "isEvent", "(III)Z"⟩
abbrev cX10_ticksOf : ByteArray := prog_12_method_13_code
def yX10_ticksOf : MethodName := ⟨RX10, "ticksOf", "(I)I"⟩
abbrev cX10_lasts : ByteArray := prog_12_method_14_code
def yX10_lasts : MethodName := ⟨RX10, "lasts", "(I)I"⟩
abbrev cX10_ticksTo : ByteArray := prog_12_method_15_code
def yX10_ticksTo : MethodName := ⟨RX10, "ticksTo", "(III)I"⟩
abbrev cX10_addMeasure : ByteArray := prog_12_method_16_code
def yX10_addMeasure : MethodName := ⟨RX10, "addMeasure", "()I"⟩
abbrev cX10_removeMeasure : ByteArray := prog_12_method_17_code
def yX10_removeMeasure : MethodName := ⟨RX10, "removeMeasure", "(I)I"⟩
abbrev cX10_isLower : ByteArray := prog_12_method_18_code
def yX10_isLower : MethodName := ⟨RX10, "isLower", "(I)Z"⟩
abbrev cX10_canBe : ByteArray := prog_12_method_19_code
def yX10_canBe : MethodName := ⟨RX10, "canBe", "(II)Z"⟩
abbrev cX10_set : ByteArray := prog_12_method_20_code
def yX10_set : MethodName := ⟨RX10, "set", "(III)I"⟩
abbrev cX10_comes : ByteArray := prog_12_method_21_code
def yX10_comes : MethodName := ⟨RX10, "comes", "(IIIIII)I"⟩
abbrev cX10_full : ByteArray := prog_12_method_22_code
def yX10_full : MethodName := ⟨RX10, "full", "(II)I"⟩
abbrev cX10_addNote : ByteArray := prog_12_method_23_code
def yX10_addNote : MethodName := ⟨RX10, "addNote", "(IIIIIZ)I"⟩
abbrev cX10_addRest : ByteArray := prog_12_method_24_code
def yX10_addRest : MethodName := ⟨RX10, "addRest", "(III)I"⟩
abbrev cX10_removeEvent : ByteArray := prog_12_method_25_code
def yX10_removeEvent : MethodName := ⟨RX10, "removeEvent", "(III)I"⟩
abbrev cX10_bySign : ByteArray := prog_12_method_26_code
def yX10_bySign : MethodName := ⟨RX10, "bySign", "(I)I"⟩
abbrev cX10_byKey : ByteArray := prog_12_method_27_code
def yX10_byKey : MethodName := ⟨RX10, "byKey", "(II)I"⟩
abbrev cX10_byMeasure : ByteArray := prog_12_method_28_code
def yX10_byMeasure : MethodName := ⟨RX10, "byMeasure", "(III)I"⟩
abbrev cX10_shift : ByteArray := prog_12_method_29_code
def yX10_shift : MethodName := ⟨RX10, "shift", "(III)I"⟩
abbrev cX10_sound : ByteArray := prog_12_method_30_code
def yX10_sound : MethodName := ⟨RX10, "sound", "(III)I"⟩
abbrev cX10_isNote : ByteArray := prog_12_method_31_code
def yX10_isNote : MethodName := ⟨RX10, "isNote", "(III)Z"⟩
abbrev cX10_holds : ByteArray := prog_12_method_32_code
def yX10_holds : MethodName := ⟨RX10, "holds", "(III)Z"⟩
abbrev cX10_held : ByteArray := prog_12_method_33_code
def yX10_held : MethodName := ⟨RX10, "held", "(III)I"⟩
abbrev cX10_isBroken : ByteArray := prog_12_method_34_code
def yX10_isBroken : MethodName := ⟨RX10, "isBroken", "(III)Z"⟩
abbrev cX10_measureTold : ByteArray := prog_12_method_35_code
def yX10_measureTold : MethodName := ⟨RX10, "measureTold", "(II)I"⟩
abbrev cX10_measure : ByteArray := prog_12_method_36_code
def yX10_measure : MethodName := ⟨RX10, "measure", "(II)I"⟩
abbrev cX10_eventTold : ByteArray := prog_12_method_37_code
def yX10_eventTold : MethodName := ⟨RX10, "eventTold", "(IIII)I"⟩
abbrev cX10_event : ByteArray := prog_12_method_38_code
def yX10_event : MethodName := ⟨RX10, "event", "(IIII)I"⟩
abbrev cX10_eventAt : ByteArray := prog_12_method_39_code
def yX10_eventAt : MethodName := ⟨RX10, "eventAt", "(III)I"⟩
abbrev cX10_together : ByteArray := prog_12_method_40_code
def yX10_together : MethodName := ⟨RX10, "together", "(III)I"⟩
abbrev cX10_crossed : ByteArray := prog_12_method_41_code
def yX10_crossed : MethodName := ⟨RX10, "crossed", "(I)I"⟩
abbrev cX10_crossings : ByteArray := prog_12_method_42_code
def yX10_crossings : MethodName := ⟨RX10, "crossings", "(I)I"⟩
abbrev cX10_events : ByteArray := prog_12_method_43_code
def yX10_events : MethodName := ⟨RX10, "events", "(I)I"⟩
abbrev cX10_uneven : ByteArray := prog_12_method_44_code
def yX10_uneven : MethodName := ⟨RX10, "uneven", "()I"⟩
abbrev cX10_wholeTold : ByteArray := prog_12_method_45_code
def yX10_wholeTold : MethodName := ⟨RX10, "wholeTold", "(I)I"⟩
abbrev cX10_whole : ByteArray := prog_12_method_46_code
def yX10_whole : MethodName := ⟨RX10, "whole", "(I)I"⟩
abbrev cX10_finds : ByteArray := prog_12_method_47_code
def yX10_finds : MethodName := ⟨RX10, "finds", "()V"⟩
abbrev cX10_playedTicks : ByteArray := prog_12_method_48_code
def yX10_playedTicks : MethodName := ⟨RX10, "playedTicks", "()I"⟩
abbrev cX10_order : ByteArray := prog_12_method_49_code
def yX10_order : MethodName := ⟨RX10, "order", "(I)I"⟩
abbrev cX10_plays : ByteArray := prog_12_method_50_code
def yX10_plays : MethodName := ⟨RX10, "plays", "(I)I"⟩
abbrev cX10_timesPlayed : ByteArray := prog_12_method_51_code
def yX10_timesPlayed : MethodName := ⟨RX10, "timesPlayed", "(I)I"⟩
abbrev cX10_secondsOf : ByteArray := prog_12_method_52_code
def yX10_secondsOf : MethodName := ⟨RX10, "secondsOf", "(I)F"⟩
abbrev cX10_seconds : ByteArray := prog_12_method_53_code
def yX10_seconds : MethodName := ⟨RX10, "seconds", "(I)F"⟩
abbrev cX10_placeAt : ByteArray := prog_12_method_54_code
def yX10_placeAt : MethodName := ⟨RX10, "placeAt", "(I)I"⟩
abbrev cX10_beginOf : ByteArray := prog_12_method_55_code
def yX10_beginOf : MethodName := ⟨RX10, "beginOf", "(I)I"⟩
abbrev cX10_gap : ByteArray := prog_12_method_56_code
def yX10_gap : MethodName := ⟨RX10, "gap", "()V"⟩
abbrev cX10_writes : ByteArray := prog_12_method_57_code
def yX10_writes : MethodName := ⟨RX10, "writes", "(I)V"⟩
abbrev cX10_writesWord : ByteArray := prog_12_method_58_code
def yX10_writesWord : MethodName := ⟨RX10, "writesWord", "(I)V"⟩
abbrev cX10_writesNumber : ByteArray := prog_12_method_59_code
def yX10_writesNumber : MethodName := ⟨RX10, "writesNumber", "(I)V"⟩
abbrev cX10_writesEvent : ByteArray := prog_12_method_60_code
def yX10_writesEvent : MethodName := ⟨RX10, "writesEvent", "(III)V"⟩
abbrev cX10_writesKey : ByteArray := prog_12_method_61_code
def yX10_writesKey : MethodName := ⟨RX10, "writesKey", "(I)V"⟩
abbrev cX10_isOther : ByteArray := prog_12_method_62_code
def yX10_isOther : MethodName := ⟨RX10, "isOther", "(II)Z"⟩
abbrev cX10_tellsAll : ByteArray := prog_12_method_63_code
def yX10_tellsAll : MethodName := ⟨RX10, "tellsAll", "(I)V"⟩
abbrev cX10_sentenceLength : ByteArray := prog_12_method_64_code
def yX10_sentenceLength : MethodName := ⟨RX10, "sentenceLength", "(I)I"⟩
abbrev cX10_sentenceByte : ByteArray := prog_12_method_65_code
def yX10_sentenceByte : MethodName := ⟨RX10, "sentenceByte", "(II)I"⟩
abbrev cX10_words : ByteArray := prog_12_method_66_code
def yX10_words : MethodName := ⟨RX10, "words", "(I)I"⟩
abbrev cX10_copySentence : ByteArray := prog_12_method_67_code
def yX10_copySentence : MethodName := ⟨RX10, "copySentence", "(I)I"⟩
abbrev cX10_type : ByteArray := prog_12_method_68_code
def yX10_type : MethodName := ⟨RX10, "type", "(I)I"⟩
abbrev cX10_cut : ByteArray := prog_12_method_69_code
def yX10_cut : MethodName := ⟨RX10, "cut", "(I)I"⟩
abbrev cX10_clearText : ByteArray := prog_12_method_70_code
def yX10_clearText : MethodName := ⟨RX10, "clearText", "()I"⟩
abbrev cX10_next : ByteArray := prog_12_method_71_code
def yX10_next : MethodName := ⟨RX10, "next", "()V"⟩
abbrev cX10_takesWord : ByteArray := prog_12_method_72_code
def yX10_takesWord : MethodName := ⟨RX10, "takesWord", "(I)Z"⟩
abbrev cX10_numberHere : ByteArray := prog_12_method_73_code
def yX10_numberHere : MethodName := ⟨RX10, "numberHere", "()I"⟩
abbrev cX10_takesNumber : ByteArray := prog_12_method_74_code
def yX10_takesNumber : MethodName := ⟨RX10, "takesNumber", "(II)Z"⟩
abbrev cX10_readsKey : ByteArray := prog_12_method_75_code
def yX10_readsKey : MethodName := ⟨RX10, "readsKey", "()Z"⟩
abbrev cX10_readsTime : ByteArray := prog_12_method_76_code
def yX10_readsTime : MethodName := ⟨RX10, "readsTime", "()Z"⟩
abbrev cX10_isLetter : ByteArray := prog_12_method_77_code
def yX10_isLetter : MethodName := ⟨RX10, "isLetter", "()Z"⟩
abbrev cX10_readsHead : ByteArray := prog_12_method_78_code
def yX10_readsHead : MethodName := ⟨RX10, "readsHead", "(I)Z"⟩
abbrev cX10_readsEvent : ByteArray := prog_12_method_79_code
def yX10_readsEvent : MethodName := ⟨RX10, "readsEvent", "(I)Z"⟩
abbrev cX10_isRest : ByteArray := prog_12_method_80_code
def yX10_isRest : MethodName := ⟨RX10, "isRest", "()Z"⟩
abbrev cX10_readsEvents : ByteArray := prog_12_method_81_code
def yX10_readsEvents : MethodName := ⟨RX10, "readsEvents", "(I)Z"⟩
abbrev cX10_readsVoices : ByteArray := prog_12_method_82_code
def yX10_readsVoices : MethodName := ⟨RX10, "readsVoices", "()Z"⟩
abbrev cX10_readsEnding : ByteArray := prog_12_method_83_code
def yX10_readsEnding : MethodName := ⟨RX10, "readsEnding", "()Z"⟩
abbrev cX10_readsBack : ByteArray := prog_12_method_84_code
def yX10_readsBack : MethodName := ⟨RX10, "readsBack", "()Z"⟩
abbrev cX10_readsAll : ByteArray := prog_12_method_85_code
def yX10_readsAll : MethodName := ⟨RX10, "readsAll", "()Z"⟩
abbrev cX10_faultNow : ByteArray := prog_12_method_86_code
def yX10_faultNow : MethodName := ⟨RX10, "faultNow", "()I"⟩
abbrev cX10_fault : ByteArray := prog_12_method_87_code
def yX10_fault : MethodName := ⟨RX10, "fault", "()I"⟩
abbrev cX10_readInto : ByteArray := prog_12_method_88_code
def yX10_readInto : MethodName := ⟨RX10, "readInto", "(I)I"⟩
abbrev cX10_isRead : ByteArray := prog_12_method_89_code
def yX10_isRead : MethodName := ⟨RX10, "isRead", "(II)Z"⟩
abbrev cX10_tells : ByteArray := prog_12_method_90_code
def yX10_tells : MethodName := ⟨RX10, "tells", "(I)Z"⟩
abbrev cX10_others : ByteArray := prog_12_method_91_code
def yX10_others : MethodName := ⟨RX10, "others", "(II)I"⟩
abbrev cX10_changedBy : ByteArray := prog_12_method_92_code
def yX10_changedBy : MethodName := ⟨RX10, "changedBy", "(II)I"⟩
abbrev cX10_nearestKey : ByteArray := prog_12_method_93_code
def yX10_nearestKey : MethodName := ⟨RX10, "nearestKey", "(I)I"⟩
abbrev cX10_needlessSigns : ByteArray := prog_12_method_94_code
def yX10_needlessSigns : MethodName := ⟨RX10, "needlessSigns", "(I)I"⟩
abbrev cX10_mix : ByteArray := prog_12_method_95_code
def yX10_mix : MethodName := ⟨RX10, "mix", "(I)V"⟩
abbrev cX10_mixMeasure : ByteArray := prog_12_method_96_code
def yX10_mixMeasure : MethodName := ⟨RX10, "mixMeasure", "(I)V"⟩
abbrev cX10_digest : ByteArray := prog_12_method_97_code
def yX10_digest : MethodName := ⟨RX10, "digest", "()J"⟩
abbrev cJ0_length_8abf5 : ByteArray := prog_25_method_54_code
def yJ0_length_8abf5 : MethodName := ⟨RJ0, "length", "()I"⟩
abbrev cJ0_charAt_5068e : ByteArray := prog_25_method_56_code
def yJ0_charAt_5068e : MethodName := ⟨RJ0, "charAt", "(I)C"⟩
abbrev cJ0_indexOf_0f7a4 : ByteArray := prog_25_method_79_code
def yJ0_indexOf_0f7a4 : MethodName := ⟨RJ0, "indexOf", "(I)I"⟩
abbrev cJ0_indexOf_7cf53 : ByteArray := prog_25_method_80_code
def yJ0_indexOf_7cf53 : MethodName := ⟨RJ0, "indexOf", "(II)I"⟩
abbrev cJ0_coder_7d493 : ByteArray := prog_25_method_152_code
def yJ0_coder_7d493 : MethodName := ⟨RJ0, "coder", "()B"⟩
abbrev cJ0_isLatin1_aae02 : ByteArray := prog_25_method_154_code
def yJ0_isLatin1_aae02 : MethodName := ⟨RJ0, "isLatin1", "()Z"⟩
abbrev cJ1_charAt_3b067 : ByteArray := prog_27_method_2_code
def yJ1_charAt_3b067 : MethodName := ⟨RJ1, "charAt", "([BI)C"⟩
abbrev cJ1_canEncode_9a6ad : ByteArray := prog_27_method_4_code
def yJ1_canEncode_9a6ad : MethodName := ⟨RJ1, "canEncode", "(I)Z"⟩
abbrev cJ1_indexOf_4cfef : ByteArray := prog_27_method_22_code
def yJ1_indexOf_4cfef : MethodName := ⟨RJ1, "indexOf", "([BIII)I"⟩
abbrev cJ1_indexOfChar_4cfef : ByteArray := prog_27_method_23_code
def yJ1_indexOfChar_4cfef : MethodName := ⟨RJ1, "indexOfChar", "([BIII)I"⟩
abbrev cJ7_rangeCheck_23922 : ByteArray := prog_31_method_30_code
def yJ7_rangeCheck_23922 : MethodName := ⟨RJ7, "rangeCheck", "(III)V"⟩
abbrev cJ7_fill_fda19 : ByteArray := prog_31_method_104_code
def yJ7_fill_fda19 : MethodName := ⟨RJ7, "fill", "([IIII)V"⟩
abbrev cL_addMeasure : ByteArray := method_3_code
def yL_addMeasure : MethodName := ⟨RL, "addMeasure", "(LSpokenBars;[J)I"⟩
abbrev cL_removeMeasure : ByteArray := method_4_code
def yL_removeMeasure : MethodName := ⟨RL, "removeMeasure", "(LSpokenBars;I[J)I"⟩
abbrev cL_set : ByteArray := method_5_code
def yL_set : MethodName := ⟨RL, "set", "(LSpokenBars;III[J)I"⟩
abbrev cL_addNote : ByteArray := method_6_code
def yL_addNote : MethodName := ⟨RL, "addNote", "(LSpokenBars;IIIIIZ[J)I"⟩
abbrev cL_addRest : ByteArray := method_7_code
def yL_addRest : MethodName := ⟨RL, "addRest", "(LSpokenBars;III[J)I"⟩
abbrev cL_removeEvent : ByteArray := method_8_code
def yL_removeEvent : MethodName := ⟨RL, "removeEvent", "(LSpokenBars;III[J)I"⟩
abbrev cL_measure : ByteArray := method_9_code
def yL_measure : MethodName := ⟨RL, "measure", "(LSpokenBars;II[J)I"⟩
abbrev cL_event : ByteArray := method_10_code
def yL_event : MethodName := ⟨RL, "event", "(LSpokenBars;IIII[J)I"⟩
abbrev cL_eventAt : ByteArray := method_11_code
def yL_eventAt : MethodName := ⟨RL, "eventAt", "(LSpokenBars;III[J)I"⟩
abbrev cL_crossings : ByteArray := method_12_code
def yL_crossings : MethodName := ⟨RL, "crossings", "(LSpokenBars;I[J)I"⟩
abbrev cL_whole : ByteArray := method_13_code
def yL_whole : MethodName := ⟨RL, "whole", "(LSpokenBars;I[J)I"⟩
abbrev cL_order : ByteArray := method_14_code
def yL_order : MethodName := ⟨RL, "order", "(LSpokenBars;I[J)I"⟩
abbrev cL_timesPlayed : ByteArray := method_15_code
def yL_timesPlayed : MethodName := ⟨RL, "timesPlayed", "(LSpokenBars;I[J)I"⟩
abbrev cL_seconds : ByteArray := method_16_code
def yL_seconds : MethodName := ⟨RL, "seconds", "(LSpokenBars;I[D)I"⟩
abbrev cL_placeAt : ByteArray := method_17_code
def yL_placeAt : MethodName := ⟨RL, "placeAt", "(LSpokenBars;I[J)I"⟩
abbrev cL_sentenceLength : ByteArray := method_18_code
def yL_sentenceLength : MethodName := ⟨RL, "sentenceLength", "(LSpokenBars;I[J)I"⟩
abbrev cL_sentenceByte : ByteArray := method_19_code
def yL_sentenceByte : MethodName := ⟨RL, "sentenceByte", "(LSpokenBars;II[J)I"⟩
abbrev cL_words : ByteArray := method_20_code
def yL_words : MethodName := ⟨RL, "words", "(LSpokenBars;I[J)I"⟩
abbrev cL_copySentence : ByteArray := method_21_code
def yL_copySentence : MethodName := ⟨RL, "copySentence", "(LSpokenBars;I[J)I"⟩
abbrev cL_type : ByteArray := method_22_code
def yL_type : MethodName := ⟨RL, "type", "(LSpokenBars;I[J)I"⟩
abbrev cL_cut : ByteArray := method_23_code
def yL_cut : MethodName := ⟨RL, "cut", "(LSpokenBars;I[J)I"⟩
abbrev cL_readInto : ByteArray := method_24_code
def yL_readInto : MethodName := ⟨RL, "readInto", "(LSpokenBars;I[J)I"⟩
abbrev cL_tells : ByteArray := method_25_code
def yL_tells : MethodName := ⟨RL, "tells", "(LSpokenBars;I[J)I"⟩
abbrev cL_changedBy : ByteArray := method_26_code
def yL_changedBy : MethodName := ⟨RL, "changedBy", "(LSpokenBars;II[J)I"⟩
abbrev cL_nearestKey : ByteArray := method_27_code
def yL_nearestKey : MethodName := ⟨RL, "nearestKey", "(LSpokenBars;I[J)I"⟩
abbrev cL_needlessSigns : ByteArray := method_28_code
def yL_needlessSigns : MethodName := ⟨RL, "needlessSigns", "(LSpokenBars;I[J)I"⟩
abbrev cL_undo : ByteArray := method_29_code
def yL_undo : MethodName := ⟨RL, "undo", "(LSpokenBars;[J)I"⟩
abbrev cL_law : ByteArray := code
def yL_law : MethodName := ⟨RL, "law", "([I)Z"⟩
def zc_0 : List Cond := [Cond.code yX0_ofNote cX0_ofNote 4 (some .int), Cond.code yX0_ofRest cX0_ofRest 1 (some .int), Cond.code yX0_isNote cX0_isNote 1 (some .boolean), Cond.code yX0_isTied cX0_isTied 1 (some .boolean), Cond.code yX0_pitchOf cX0_pitchOf 1 (some .int), Cond.methodLink RX0 9 yX0_pitchOf, Cond.static yX0_pitchOf, Cond.initialized RX0, Cond.code yX0_octaveOf cX0_octaveOf 1 (some .int), Cond.code yX0_stepOf cX0_stepOf 1 (some .int), Cond.code yX0_signOf cX0_signOf 1 (some .int), Cond.code yX0_durationOf cX0_durationOf 1 (some .int), Cond.methodLink RX0 13 yX0_durationOf, Cond.static yX0_durationOf, Cond.code yX0_isDotted cX0_isDotted 1 (some .boolean), Cond.code yX0_lengthOf cX0_lengthOf 1 (some .int), Cond.code yX0_ticksOf cX0_ticksOf 3 (some .int), Cond.methodLink RX0 16 yX0_isNote, Cond.static yX0_isNote, Cond.code yX0_samePitch cX0_samePitch 2 (some .boolean), Cond.code yX4_init cX4_init 1 none, Cond.code yX1_init cX1_init 2 none, Cond.fieldLink RX1 16 "SpokenBars$History" "size" "I", Cond.code yX1_size cX1_size 1 (some .int), Cond.code yX4_copyFrom cX4_copyFrom 2 none, Cond.code yX1_push cX1_push 2 none, Cond.code yX1_popInto cX1_popInto 2 none, Cond.code yX2_init cX2_init 1 none, Cond.fieldLink RX2 15 "SpokenBars$Playing" "size" "I", Cond.code yX2_size cX2_size 1 (some .int)]
def zc_1 : List Cond := [Cond.code yX2_at cX2_at 2 (some .int), Cond.fieldLink RX4 13 "SpokenBars$Score" "size" "I", Cond.code yX4_size cX4_size 1 (some .int), Cond.code yX4_hasMeasure cX4_hasMeasure 2 (some .boolean), Cond.code yX4_value cX4_value 3 (some .int), Cond.code yX2_beginsAnew cX2_beginsAnew 2 (some .boolean), Cond.code yX2_unroll cX2_unroll 10 none, Cond.code yX4_ticks cX4_ticks 3 (some .int), Cond.code yX2_ticks cX2_ticks 4 (some .int), Cond.code yX2_timesOf cX2_timesOf 4 (some .int), Cond.methodLink RX4 40 yX4_value, Cond.code yX2_secondsOf cX2_secondsOf 5 (some .float), Cond.methodLink RX2 34 yX4_ticks, Cond.instanceMethod yX4_ticks, Cond.selects RX4 yX4_ticks yX4_ticks, Cond.code yX2_secondsUpTo cX2_secondsUpTo 5 (some .float), Cond.code yX2_placesBegunBy cX2_placesBegunBy 6 (some .int), Cond.code yX3_init cX3_init 2 none, Cond.fieldLink RX3 12 "SpokenBars$Reader" "draft" "LSpokenBars$Score;", Cond.code yX3_draft cX3_draft 1 (some (.object "SpokenBars$Score")), Cond.code yX4_isFull cX4_isFull 1 (some .boolean), Cond.code yJ7_rangeCheck_23922 cJ7_rangeCheck_23922 3 none, Cond.methodLink RJ7 13 yJ7_rangeCheck_23922, Cond.static yJ7_rangeCheck_23922, Cond.initialized RJ7, Cond.code yJ7_fill_fda19 cJ7_fill_fda19 5 none, Cond.code yX4_putValue cX4_putValue 4 none, Cond.methodLink RX4 24 yX4_hasMeasure, Cond.instanceMethod yX4_hasMeasure, Cond.selects RX4 yX4_hasMeasure yX4_hasMeasure]
def zc_2 : List Cond := [Cond.methodLink RX4 43 yX4_putValue, Cond.instanceMethod yX4_putValue, Cond.selects RX4 yX4_putValue yX4_putValue, Cond.code yX4_appendMeasure cX4_appendMeasure 3 none, Cond.instanceMethod yX4_value, Cond.selects RX4 yX4_value yX4_value, Cond.code yX4_becomeDraft cX4_becomeDraft 2 none, Cond.fieldLink RX7 13 "SpokenBars$Text" "length" "I", Cond.code yX7_length cX7_length 1 (some .int), Cond.code yX7_at cX7_at 2 (some .int), Cond.code yX3_advance cX3_advance 1 none, Cond.fieldLink RJ0 38 "java/lang/String" "COMPACT_STRINGS" "Z", Cond.fieldLink RJ0 15 "java/lang/String" "coder" "B", Cond.code yJ0_coder_7d493 cJ0_coder_7d493 1 (some .byte), Cond.code yJ0_length_8abf5 cJ0_length_8abf5 1 (some .int), Cond.code yJ0_isLatin1_aae02 cJ0_isLatin1_aae02 1 (some .boolean), Cond.fieldLink RJ0 1053 "jdk/internal/util/Preconditions" "SIOOBE_FORMATTER" "Ljava/util/function/BiFunction;", Cond.initialized RJ0, Cond.code yJ1_charAt_3b067 cJ1_charAt_3b067 2 (some .char), Cond.code yJ0_charAt_5068e cJ0_charAt_5068e 2 (some .char), Cond.selects RJ0 yJ0_charAt_5068e yJ0_charAt_5068e, Cond.methodLink RJ0 492 yJ0_isLatin1_aae02, Cond.instanceMethod yJ0_isLatin1_aae02, Cond.selects RJ0 yJ0_isLatin1_aae02 yJ0_isLatin1_aae02, Cond.methodLink RJ0 495 yJ1_charAt_3b067, Cond.static yJ1_charAt_3b067, Cond.initialized RJ1, Cond.code yX3_isWord cX3_isWord 3 (some .boolean), Cond.methodLink RX3 32 yX3_advance, Cond.instanceMethod yX3_advance]
def zc_3 : List Cond := [Cond.selects RX3 yX3_advance yX3_advance, Cond.methodLink RX3 147 yX7_length, Cond.instanceMethod yX7_length, Cond.selects RX7 yX7_length yX7_length, Cond.code yX3_takeWord cX3_takeWord 3 (some .boolean), Cond.fieldLink RX3 25 "SpokenBars$Reader" "failedAt" "I", Cond.fieldLink RX3 66 "SpokenBars$Reader" "from" "I", Cond.code yX3_fail cX3_fail 1 none, Cond.methodLink RX3 69 yX3_fail, Cond.instanceMethod yX3_fail, Cond.selects RX3 yX3_fail yX3_fail, Cond.code yX3_needWord cX3_needWord 2 none, Cond.code yX3_number cX3_number 4 (some .int), Cond.code yX3_takeNumber cX3_takeNumber 4 (some .int), Cond.methodLink RX3 46 yX3_takeNumber, Cond.instanceMethod yX3_takeNumber, Cond.selects RX3 yX3_takeNumber yX3_takeNumber, Cond.methodLink RX3 95 yX3_number, Cond.instanceMethod yX3_number, Cond.selects RX3 yX3_number yX3_number, Cond.methodLink RX3 62 yX3_needWord, Cond.instanceMethod yX3_needWord, Cond.selects RX3 yX3_needWord yX3_needWord, Cond.code yX3_readKey cX3_readKey 2 (some .int), Cond.code yX4_canHold cX4_canHold 2 (some .boolean), Cond.code yX3_readLower cX3_readLower 1 (some .int), Cond.methodLink RX3 56 yX4_putValue, Cond.code yX3_readHead cX3_readHead 1 none, Cond.code yJ1_canEncode_9a6ad cJ1_canEncode_9a6ad 1 (some .boolean), Cond.code yJ1_indexOfChar_4cfef cJ1_indexOfChar_4cfef 6 (some .int)]
def zc_4 : List Cond := [Cond.methodLink RJ1 92 Lib.Math.max.name, Cond.static Lib.Math.max.name, Cond.initialized "java/lang/Math", Cond.code Lib.Math.max.name Lib.Math.max.code 2 (some .int), Cond.methodLink RJ1 38 Lib.Math.min.name, Cond.static Lib.Math.min.name, Cond.code Lib.Math.min.name Lib.Math.min.code 2 (some .int), Cond.methodLink RJ1 88 yJ1_canEncode_9a6ad, Cond.static yJ1_canEncode_9a6ad, Cond.methodLink RJ1 95 yJ1_indexOfChar_4cfef, Cond.static yJ1_indexOfChar_4cfef, Cond.code yJ1_indexOf_4cfef cJ1_indexOf_4cfef 4 (some .int), Cond.code yJ0_indexOf_7cf53 cJ0_indexOf_7cf53 3 (some .int), Cond.code yJ0_indexOf_0f7a4 cJ0_indexOf_0f7a4 2 (some .int), Cond.methodLink RJ0 505 yJ0_length_8abf5, Cond.instanceMethod yJ0_length_8abf5, Cond.selects RJ0 yJ0_length_8abf5 yJ0_length_8abf5, Cond.methodLink RJ0 335 yJ0_coder_7d493, Cond.instanceMethod yJ0_coder_7d493, Cond.selects RJ0 yJ0_coder_7d493 yJ0_coder_7d493, Cond.methodLink RJ0 637 yJ1_indexOf_4cfef, Cond.static yJ1_indexOf_4cfef, Cond.code yX3_step cX3_step 1 (some .int), Cond.methodLink RX3 114 yX3_isWord, Cond.instanceMethod yX3_isWord, Cond.selects RX3 yX3_isWord yX3_isWord, Cond.methodLink RX3 155 yJ0_length_8abf5, Cond.methodLink RX3 158 yJ0_charAt_5068e, Cond.instanceMethod yJ0_charAt_5068e, Cond.code yX3_beginsEvent cX3_beginsEvent 1 (some .boolean)]
def zc_5 : List Cond := [Cond.code yX8_ofLength cX8_ofLength 1 (some (.object "java/lang/String")), Cond.methodLink RX3 144 yX8_ofLength, Cond.static yX8_ofLength, Cond.initialized RX8, Cond.code yX3_readDuration cX3_readDuration 3 (some .int), Cond.code yX4_voiceCell cX4_voiceCell 4 (some .int), Cond.code yX4_appendEvent cX4_appendEvent 5 none, Cond.code yX8_ofSign cX8_ofSign 1 (some (.object "java/lang/String")), Cond.code yX3_readSign cX3_readSign 2 (some .int), Cond.methodLink RX3 117 yX3_readDuration, Cond.instanceMethod yX3_readDuration, Cond.selects RX3 yX3_readDuration yX3_readDuration, Cond.methodLink RX3 42 yX3_takeWord, Cond.instanceMethod yX3_takeWord, Cond.selects RX3 yX3_takeWord yX3_takeWord, Cond.methodLink RX3 120 yX0_ofRest, Cond.static yX0_ofRest, Cond.methodLink RX3 126 yX4_appendEvent, Cond.instanceMethod yX4_appendEvent, Cond.selects RX4 yX4_appendEvent yX4_appendEvent, Cond.initialized RX4, Cond.code yX3_readEvent cX3_readEvent 6 none, Cond.methodLink RX3 102 yX3_readEvent, Cond.instanceMethod yX3_readEvent, Cond.selects RX3 yX3_readEvent yX3_readEvent, Cond.initialized RX3, Cond.methodLink RX3 105 yX3_beginsEvent, Cond.instanceMethod yX3_beginsEvent, Cond.selects RX3 yX3_beginsEvent yX3_beginsEvent, Cond.methodLink RX3 109 yX3_step]
def zc_6 : List Cond := [Cond.instanceMethod yX3_step, Cond.selects RX3 yX3_step yX3_step, Cond.fieldLink RX3 29 "SpokenBars$Reader" "to" "I", Cond.fieldLink RX3 18 "SpokenBars$Reader" "text" "LSpokenBars$Text;", Cond.methodLink RX3 152 yX7_at, Cond.instanceMethod yX7_at, Cond.selects RX7 yX7_at yX7_at, Cond.initialized RX7, Cond.methodLink RX3 134 yX0_ofNote, Cond.static yX0_ofNote, Cond.code yX3_readEvents cX3_readEvents 3 none, Cond.methodLink RX3 80 yX3_readKey, Cond.instanceMethod yX3_readKey, Cond.selects RX3 yX3_readKey yX3_readKey, Cond.methodLink RX3 86 yX3_readLower, Cond.instanceMethod yX3_readLower, Cond.selects RX3 yX3_readLower yX3_readLower, Cond.methodLink RX3 98 yX4_canHold, Cond.static yX4_canHold, Cond.methodLink RX3 50 yX3_readEvents, Cond.instanceMethod yX3_readEvents, Cond.selects RX3 yX3_readEvents yX3_readEvents, Cond.methodLink RX3 164 yJ0_indexOf_0f7a4, Cond.instanceMethod yJ0_indexOf_0f7a4, Cond.selects RJ0 yJ0_indexOf_0f7a4 yJ0_indexOf_0f7a4, Cond.methodLink RJ0 633 yJ0_indexOf_7cf53, Cond.instanceMethod yJ0_indexOf_7cf53, Cond.selects RJ0 yJ0_indexOf_7cf53 yJ0_indexOf_7cf53, Cond.methodLink RX4 17 yX4_voiceCell, Cond.instanceMethod yX4_voiceCell]
def zc_7 : List Cond := [Cond.selects RX4 yX4_voiceCell yX4_voiceCell, Cond.methodLink RX3 129 yX3_readSign, Cond.instanceMethod yX3_readSign, Cond.selects RX3 yX3_readSign yX3_readSign, Cond.methodLink RX3 138 yX8_ofSign, Cond.static yX8_ofSign, Cond.code yX3_findFault cX3_findFault 2 (some .int), Cond.code yX4_hasVoice cX4_hasVoice 3 (some .boolean), Cond.code yX4_count cX4_count 4 (some .int), Cond.code yX4_hasEvent cX4_hasEvent 4 (some .boolean), Cond.code yX4_code cX4_code 5 (some .int), Cond.code yX4_dropMeasure cX4_dropMeasure 3 none, Cond.code yX4_dropEvent cX4_dropEvent 6 none, Cond.code yX4_begin cX4_begin 6 (some .int), Cond.code yX4_voiceTicks cX4_voiceTicks 3 (some .int), Cond.static yX0_ticksOf, Cond.methodLink RX4 67 yX4_ticks, Cond.code yX4_unevenVoices cX4_unevenVoices 5 (some .int), Cond.code yX4_codeBefore cX4_codeBefore 4 (some .int), Cond.code yX4_codeAfter cX4_codeAfter 4 (some .int), Cond.static yX0_samePitch, Cond.code yX4_isHeldTie cX4_isHeldTie 5 (some .boolean), Cond.code yX4_takeDraft cX4_takeDraft 6 none, Cond.code yX4_hasVoiceOf cX4_hasVoiceOf 5 (some .boolean), Cond.instanceMethod yX4_code, Cond.selects RX4 yX4_code yX4_code, Cond.code yX4_agreesWith cX4_agreesWith 5 (some .boolean), Cond.code yX5_init cX5_init 1 none, Cond.fieldLink RX5 13 "SpokenBars$Sentence" "length" "I", Cond.code yX5_length cX5_length 1 (some .int)]
def zc_8 : List Cond := [Cond.fieldLink RX5 17 "SpokenBars$Sentence" "wordCount" "I", Cond.code yX5_wordCount cX5_wordCount 1 (some .int), Cond.code yX5_at cX5_at 2 (some .int), Cond.code yX5_put cX5_put 2 none, Cond.code yX5_beginWord cX5_beginWord 1 none, Cond.methodLink RX5 141 yJ0_charAt_5068e, Cond.code yX5_tellWord cX5_tellWord 3 none, Cond.code yX5_tellNumber cX5_tellNumber 2 none, Cond.methodLink RX5 52 yX5_tellNumber, Cond.instanceMethod yX5_tellNumber, Cond.selects RX5 yX5_tellNumber yX5_tellNumber, Cond.code yX5_tellNumbered cX5_tellNumbered 3 none, Cond.code yX5_differsFromBefore cX5_differsFromBefore 3 (some .boolean), Cond.code yX5_tellKey cX5_tellKey 2 none, Cond.code yX8_letterOf cX8_letterOf 1 (some .char), Cond.methodLink RX5 108 yX0_signOf, Cond.static yX0_signOf, Cond.methodLink RX5 111 yX8_ofSign, Cond.methodLink RX5 36 yX5_tellWord, Cond.instanceMethod yX5_tellWord, Cond.selects RX5 yX5_tellWord yX5_tellWord, Cond.methodLink RX5 136 yJ0_length_8abf5, Cond.methodLink RX5 115 yX0_octaveOf, Cond.static yX0_octaveOf, Cond.methodLink RX5 120 yX0_isDotted, Cond.static yX0_isDotted, Cond.methodLink RX5 125 yX0_lengthOf, Cond.static yX0_lengthOf, Cond.methodLink RX5 128 yX8_ofLength, Cond.methodLink RX5 131 yX0_isTied]
def zc_9 : List Cond := [Cond.static yX0_isTied, Cond.code yX5_tellEvent cX5_tellEvent 2 none, Cond.methodLink RX5 82 yX4_code, Cond.methodLink RX5 86 yX5_tellEvent, Cond.instanceMethod yX5_tellEvent, Cond.selects RX5 yX5_tellEvent yX5_tellEvent, Cond.methodLink RX5 89 yX0_isNote, Cond.methodLink RX5 98 yX0_stepOf, Cond.static yX0_stepOf, Cond.methodLink RX5 101 yX8_letterOf, Cond.static yX8_letterOf, Cond.methodLink RX8 27 yJ0_length_8abf5, Cond.methodLink RX8 33 yJ0_charAt_5068e, Cond.code yX5_tellVoice cX5_tellVoice 5 none, Cond.instanceMethod yX5_tellVoice, Cond.selects RX5 yX5_tellVoice yX5_tellVoice, Cond.methodLink RX5 77 yX4_count, Cond.instanceMethod yX4_count, Cond.selects RX4 yX4_count yX4_count, Cond.code yX5_tellMeasure cX5_tellMeasure 4 none, Cond.code yX6_init cX6_init 2 none, Cond.code yX6_slot cX6_slot 4 (some .int), Cond.code yX6_shift cX6_shift 5 (some .int), Cond.code yX6_held cX6_held 5 (some .int), Cond.methodLink RX6 38 yX0_ticksOf, Cond.code yX6_isBrokenTie cX6_isBrokenTie 5 (some .boolean), Cond.code yX6_sounding cX6_sounding 7 (some .int), Cond.code yX6_shiftBefore cX6_shiftBefore 4 (some .int), Cond.code yX6_signShift cX6_signShift 1 (some .int), Cond.code yX6_keyShift cX6_keyShift 3 (some .int)]
def zc_10 : List Cond := [Cond.code yX6_shiftWithoutSign cX6_shiftWithoutSign 10 (some .int), Cond.methodLink RX6 89 yX4_codeBefore, Cond.instanceMethod yX4_codeBefore, Cond.selects RX4 yX4_codeBefore yX4_codeBefore, Cond.methodLink RX4 57 yX4_code, Cond.methodLink RX4 21 yX4_count, Cond.methodLink RX6 29 yX0_isTied, Cond.methodLink RX6 92 yX0_samePitch, Cond.methodLink RX6 42 yX0_stepOf, Cond.code yX6_shiftWith cX6_shiftWith 7 (some .int), Cond.code yX6_put cX6_put 3 none, Cond.selects RX6 yX6_shift yX6_shift, Cond.methodLink RX6 22 yX6_slot, Cond.static yX6_slot, Cond.methodLink RX6 65 yX4_count, Cond.methodLink RX6 68 yX6_shiftWith, Cond.instanceMethod yX6_shiftWith, Cond.selects RX6 yX6_shiftWith yX6_shiftWith, Cond.methodLink RX6 26 yX4_code, Cond.methodLink RX6 80 yX0_signOf, Cond.methodLink RX6 83 yX6_signShift, Cond.static yX6_signShift, Cond.methodLink RX6 86 yX6_shiftWithoutSign, Cond.instanceMethod yX6_shiftWithoutSign, Cond.selects RX6 yX6_shiftWithoutSign yX6_shiftWithoutSign, Cond.code yX6_findShifts cX6_findShifts 6 none, Cond.methodLink RX6 76 yX4_isHeldTie, Cond.instanceMethod yX4_isHeldTie, Cond.selects RX4 yX4_isHeldTie yX4_isHeldTie, Cond.methodLink RX4 70 yX0_isTied]
def zc_11 : List Cond := [Cond.methodLink RX4 73 yX4_codeAfter, Cond.instanceMethod yX4_codeAfter, Cond.selects RX4 yX4_codeAfter yX4_codeAfter, Cond.methodLink RX4 76 yX0_samePitch, Cond.methodLink RX6 72 yX6_put, Cond.static yX6_put, Cond.code yX6_findHeldTicks cX6_findHeldTicks 6 none, Cond.code yX6_changedWith cX6_changedWith 8 (some .int), Cond.methodLink RX6 96 yX6_keyShift, Cond.static yX6_keyShift, Cond.code yX6_signsWithoutEffect cX6_signsWithoutEffect 8 (some .int), Cond.code yX6_ticksAbove cX6_ticksAbove 10 (some .int), Cond.code yX6_crossedTicks cX6_crossedTicks 8 (some .int), Cond.code yX7_init cX7_init 1 none, Cond.code yX7_append cX7_append 2 none, Cond.methodLink RX7 17 Lib.Math.max.name, Cond.code yX7_shorten cX7_shorten 2 none, Cond.methodLink RX9 1 objectInit, Cond.instanceMethod objectInit, Cond.code objectInit ⟨#[0xb1]⟩ 1 none, Cond.classLink RX9 7 RX4, Cond.instantiable RX4 2, Cond.fieldLink RX9 10 "SpokenBars" "score" "LSpokenBars$Score;", Cond.classLink RX9 16 RX1, Cond.instantiable RX1 3, Cond.initialized RX1, Cond.fieldLink RX9 19 "SpokenBars" "history" "LSpokenBars$History;", Cond.classLink RX9 23 RX7, Cond.instantiable RX7 2, Cond.fieldLink RX9 26 "SpokenBars" "text" "LSpokenBars$Text;"]
def zc_12 : List Cond := [Cond.classLink RX9 30 RX5, Cond.instantiable RX5 3, Cond.initialized RX5, Cond.fieldLink RX9 33 "SpokenBars" "sentence" "LSpokenBars$Sentence;", Cond.classLink RX9 37 RX3, Cond.instantiable RX3 5, Cond.fieldLink RX9 42 "SpokenBars" "reader" "LSpokenBars$Reader;", Cond.classLink RX9 46 RX6, Cond.code yX9_init cX9_init 1 none, Cond.methodLink RX6 62 yX6_shiftBefore, Cond.instanceMethod yX6_shiftBefore, Cond.selects RX6 yX6_shiftBefore yX6_shiftBefore, Cond.methodLink RX6 51 yX6_shift, Cond.instanceMethod yX6_shift, Cond.code yX9_settle cX9_settle 1 none, Cond.methodLink RX9 79 yX9_settle, Cond.instanceMethod yX9_settle, Cond.selects RX9 yX9_settle yX9_settle, Cond.initialized RX9, Cond.fieldLink RX9 51 "SpokenBars" "sounds" "LSpokenBars$Sounds;", Cond.fieldLink RX9 58 "SpokenBars" "playing" "LSpokenBars$Playing;", Cond.methodLink RX9 313 yX6_findShifts, Cond.instanceMethod yX6_findShifts, Cond.selects RX6 yX6_findShifts yX6_findShifts, Cond.initialized RX6, Cond.code yX9_addMeasure cX9_addMeasure 1 (some .int), Cond.classLink RX9 325 "java/lang/IndexOutOfBoundsException", Cond.initialized "java/lang/IndexOutOfBoundsException", Cond.methodLink RX9 322 yX4_hasMeasure, Cond.code yX9_requireMeasure cX9_requireMeasure 2 none]
def zc_13 : List Cond := [Cond.code yX9_removeMeasure cX9_removeMeasure 2 (some .int), Cond.classLink RX9 97 "java/lang/IllegalArgumentException", Cond.initialized "java/lang/IllegalArgumentException", Cond.methodLink RX9 86 yX9_requireMeasure, Cond.instanceMethod yX9_requireMeasure, Cond.selects RX9 yX9_requireMeasure yX9_requireMeasure, Cond.methodLink RX9 93 yX4_canHold, Cond.methodLink RX9 73 yX1_push, Cond.instanceMethod yX1_push, Cond.selects RX1 yX1_push yX1_push, Cond.methodLink RX2 22 yX2_beginsAnew, Cond.static yX2_beginsAnew, Cond.methodLink RX2 26 yX4_value, Cond.code yX9_set cX9_set 5 (some .int), Cond.methodLink RX9 330 yX4_hasVoice, Cond.instanceMethod yX4_hasVoice, Cond.selects RX4 yX4_hasVoice yX4_hasVoice, Cond.code yX9_requireVoice cX9_requireVoice 3 none, Cond.code yX9_requireRange cX9_requireRange 3 none, Cond.code yX9_requireRoom cX9_requireRoom 3 none, Cond.methodLink RX9 110 yX9_requireVoice, Cond.instanceMethod yX9_requireVoice, Cond.selects RX9 yX9_requireVoice yX9_requireVoice, Cond.methodLink RX9 116 yX9_requireRange, Cond.static yX9_requireRange, Cond.instanceMethod yX4_copyFrom, Cond.selects RX4 yX4_copyFrom yX4_copyFrom, Cond.methodLink RX4 47 arraycopyName, Cond.native arraycopyName, Cond.static arraycopyName]
def zc_14 : List Cond := [Cond.initialized "java/lang/System", Cond.methodLink RX9 122 yX0_ofNote, Cond.methodLink RX9 126 yX4_appendEvent, Cond.code yX9_addNote cX9_addNote 7 (some .int), Cond.methodLink RX9 132 yX0_ofRest, Cond.code yX9_addRest cX9_addRest 4 (some .int), Cond.code yX9_requireEvent cX9_requireEvent 4 none, Cond.methodLink RX9 129 yX4_count, Cond.code yX9_removeEvent cX9_removeEvent 4 (some .int), Cond.methodLink RX9 142 yX4_ticks, Cond.methodLink RX4 60 yX0_ticksOf, Cond.methodLink RX9 102 yX4_value, Cond.code yX9_measure cX9_measure 3 (some .int), Cond.code yX9_noteValue cX9_noteValue 6 (some .int), Cond.methodLink RX9 148 yX4_code, Cond.methodLink RX9 152 yX0_durationOf, Cond.methodLink RX9 155 yX0_ticksOf, Cond.methodLink RX9 158 yX4_begin, Cond.instanceMethod yX4_begin, Cond.selects RX4 yX4_begin yX4_begin, Cond.methodLink RX9 161 yX0_isNote, Cond.methodLink RX6 35 yX6_held, Cond.code yX9_event cX9_event 6 (some .int), Cond.code yX9_requireNotNegative cX9_requireNotNegative 1 none, Cond.methodLink RX9 169 yX9_requireNotNegative, Cond.static yX9_requireNotNegative, Cond.code yX9_eventAt cX9_eventAt 6 (some .int), Cond.methodLink RX9 172 yX6_crossedTicks, Cond.instanceMethod yX6_crossedTicks, Cond.selects RX6 yX6_crossedTicks yX6_crossedTicks]
def zc_15 : List Cond := [Cond.fieldLink RX6 18 "SpokenBars$Sounds" "score" "LSpokenBars$Score;", Cond.methodLink RX6 114 Lib.Math.min.name, Cond.code yX9_crossings cX9_crossings 2 (some .int), Cond.code yX9_isOfKind cX9_isOfKind 6 (some .boolean), Cond.code yX9_eventsOfKind cX9_eventsOfKind 6 (some .int), Cond.methodLink RX4 64 yX4_voiceTicks, Cond.instanceMethod yX4_voiceTicks, Cond.selects RX4 yX4_voiceTicks yX4_voiceTicks, Cond.methodLink RX4 53 yX4_begin, Cond.methodLink RX9 178 yX2_size, Cond.instanceMethod yX2_size, Cond.selects RX2 yX2_size yX2_size, Cond.initialized RX2, Cond.methodLink RX9 179 yX2_ticks, Cond.instanceMethod yX2_ticks, Cond.selects RX2 yX2_ticks yX2_ticks, Cond.methodLink RX2 30 yX2_at, Cond.instanceMethod yX2_at, Cond.selects RX2 yX2_at yX2_at, Cond.code yX9_whole cX9_whole 2 (some .int), Cond.code yX9_order cX9_order 2 (some .int), Cond.methodLink RX9 191 yX2_timesOf, Cond.instanceMethod yX2_timesOf, Cond.selects RX2 yX2_timesOf yX2_timesOf, Cond.code yX9_timesPlayed cX9_timesPlayed 2 (some .int), Cond.methodLink RX9 194 yX2_secondsUpTo, Cond.instanceMethod yX2_secondsUpTo, Cond.selects RX2 yX2_secondsUpTo yX2_secondsUpTo, Cond.methodLink RX2 37 yX2_secondsOf, Cond.instanceMethod yX2_secondsOf]
def zc_16 : List Cond := [Cond.selects RX2 yX2_secondsOf yX2_secondsOf, Cond.constantFloat RX2 41 (1114636288), Cond.constantFloat RX2 42 (1098907648), Cond.code yX9_seconds cX9_seconds 2 (some .float), Cond.methodLink RX9 198 yX2_placesBegunBy, Cond.instanceMethod yX2_placesBegunBy, Cond.selects RX2 yX2_placesBegunBy yX2_placesBegunBy, Cond.code yX9_placeAt cX9_placeAt 3 (some .int), Cond.methodLink RX9 202 yX5_tellMeasure, Cond.instanceMethod yX5_tellMeasure, Cond.selects RX5 yX5_tellMeasure yX5_tellMeasure, Cond.methodLink RX5 24 yX5_tellNumbered, Cond.instanceMethod yX5_tellNumbered, Cond.methodLink RX5 30 yX4_value, Cond.methodLink RX9 206 yX5_length, Cond.instanceMethod yX5_length, Cond.selects RX5 yX5_length yX5_length, Cond.code yX9_sentenceLength cX9_sentenceLength 2 (some .int), Cond.methodLink RX9 207 yX5_at, Cond.instanceMethod yX5_at, Cond.selects RX5 yX5_at yX5_at, Cond.code yX9_sentenceByte cX9_sentenceByte 3 (some .int), Cond.methodLink RX9 208 yX5_wordCount, Cond.instanceMethod yX5_wordCount, Cond.selects RX5 yX5_wordCount yX5_wordCount, Cond.code yX9_words cX9_words 2 (some .int), Cond.classLink RX9 66 "java/lang/IllegalStateException", Cond.initialized "java/lang/IllegalStateException", Cond.methodLink RX9 182 yX7_length, Cond.methodLink RX9 213 yX7_shorten]
def zc_17 : List Cond := [Cond.instanceMethod yX7_shorten, Cond.selects RX7 yX7_shorten yX7_shorten, Cond.code yX9_copySentence cX9_copySentence 3 (some .int), Cond.code yX9_type cX9_type 2 (some .int), Cond.code yX9_cut cX9_cut 2 (some .int), Cond.code yX9_clearText cX9_clearText 2 (some .int), Cond.methodLink RX4 34 yJ7_fill_fda19, Cond.static yJ7_fill_fda19, Cond.code yX9_fault cX9_fault 1 (some .int), Cond.methodLink RX9 223 yX3_findFault, Cond.instanceMethod yX3_findFault, Cond.selects RX3 yX3_findFault yX3_findFault, Cond.selects RX4 yX4_size yX4_size, Cond.methodLink RX6 58 yX4_value, Cond.selects RX6 yX6_held yX6_held, Cond.methodLink RX9 319 yX2_unroll, Cond.instanceMethod yX2_unroll, Cond.selects RX2 yX2_unroll yX2_unroll, Cond.code yX9_readInto cX9_readInto 3 (some .int), Cond.methodLink RX9 226 yX3_draft, Cond.instanceMethod yX3_draft, Cond.selects RX3 yX3_draft yX3_draft, Cond.methodLink RX9 234 yX4_agreesWith, Cond.instanceMethod yX4_agreesWith, Cond.selects RX4 yX4_agreesWith yX4_agreesWith, Cond.methodLink RX4 83 yX4_hasVoiceOf, Cond.instanceMethod yX4_hasVoiceOf, Cond.selects RX4 yX4_hasVoiceOf yX4_hasVoiceOf, Cond.code yX9_tells cX9_tells 2 (some .boolean), Cond.methodLink RX9 238 yX6_changedWith]
def zc_18 : List Cond := [Cond.instanceMethod yX6_changedWith, Cond.selects RX6 yX6_changedWith yX6_changedWith, Cond.code yX9_changedBy cX9_changedBy 3 (some .int), Cond.code yX9_nearestKey cX9_nearestKey 6 (some .int), Cond.methodLink RX9 244 yX6_signsWithoutEffect, Cond.instanceMethod yX6_signsWithoutEffect, Cond.selects RX6 yX6_signsWithoutEffect yX6_signsWithoutEffect, Cond.code yX9_needlessSigns cX9_needlessSigns 2 (some .int), Cond.code yX9_undo cX9_undo 1 (some .int), Cond.constantLong RX9 279 (31), Cond.code yX9_mix cX9_mix 4 (some .long), Cond.methodLink RX9 281 yX9_measure, Cond.instanceMethod yX9_measure, Cond.selects RX9 yX9_measure yX9_measure, Cond.methodLink RX9 255 yX9_mix, Cond.static yX9_mix, Cond.code yX9_mixValues cX9_mixValues 7 (some .long), Cond.instanceMethod yX4_hasEvent, Cond.selects RX4 yX4_hasEvent yX4_hasEvent, Cond.methodLink RX9 165 yX9_noteValue, Cond.instanceMethod yX9_noteValue, Cond.selects RX9 yX9_noteValue yX9_noteValue, Cond.methodLink RX9 287 yX0_pitchOf, Cond.methodLink RX9 290 yX0_signOf, Cond.methodLink RX9 293 yX0_isTied, Cond.methodLink RX9 296 yX6_shift, Cond.code yX9_mixVoice cX9_mixVoice 9 (some .long), Cond.selects RX5 yX5_tellNumbered yX5_tellNumbered, Cond.methodLink RX5 95 yX5_beginWord, Cond.instanceMethod yX5_beginWord]
def zc_19 : List Cond := [Cond.selects RX5 yX5_beginWord yX5_beginWord, Cond.methodLink RX5 105 yX5_put, Cond.instanceMethod yX5_put, Cond.selects RX5 yX5_put yX5_put, Cond.methodLink RX5 67 Lib.Math.abs.name, Cond.static Lib.Math.abs.name, Cond.code Lib.Math.abs.name Lib.Math.abs.code 1 (some .int), Cond.methodLink RX5 55 yX5_tellVoice, Cond.code yX9_mixSentence cX9_mixSentence 7 (some .long), Cond.constantLong RX9 253 (43179), Cond.methodLink RX9 247 yX1_size, Cond.instanceMethod yX1_size, Cond.selects RX1 yX1_size yX1_size, Cond.methodLink RX9 259 yX9_whole, Cond.instanceMethod yX9_whole, Cond.selects RX9 yX9_whole yX9_whole, Cond.methodLink RX9 185 yX9_eventsOfKind, Cond.instanceMethod yX9_eventsOfKind, Cond.selects RX9 yX9_eventsOfKind yX9_eventsOfKind, Cond.methodLink RX9 309 yX9_isOfKind, Cond.instanceMethod yX9_isOfKind, Cond.selects RX9 yX9_isOfKind yX9_isOfKind, Cond.methodLink RX9 305 yX6_isBrokenTie, Cond.instanceMethod yX6_isBrokenTie, Cond.selects RX6 yX6_isBrokenTie yX6_isBrokenTie, Cond.methodLink RX9 145 yX4_voiceTicks, Cond.methodLink RX9 266 yX9_mixVoice, Cond.instanceMethod yX9_mixVoice, Cond.selects RX9 yX9_mixVoice yX9_mixVoice, Cond.methodLink RX9 284 yX9_event]
def zc_20 : List Cond := [Cond.instanceMethod yX9_event, Cond.selects RX9 yX9_event yX9_event, Cond.methodLink RX9 136 yX9_requireEvent, Cond.instanceMethod yX9_requireEvent, Cond.selects RX9 yX9_requireEvent yX9_requireEvent, Cond.methodLink RX9 335 yX4_hasEvent, Cond.methodLink RX6 48 yX0_octaveOf, Cond.methodLink RX9 302 yX6_held, Cond.methodLink RX9 270 yX9_crossings, Cond.instanceMethod yX9_crossings, Cond.selects RX9 yX9_crossings yX9_crossings, Cond.methodLink RX6 108 yX4_ticks, Cond.methodLink RX6 105 yX0_isNote, Cond.methodLink RX6 111 yX6_sounding, Cond.methodLink RX6 119 yX6_ticksAbove, Cond.instanceMethod yX6_ticksAbove, Cond.selects RX6 yX6_ticksAbove yX6_ticksAbove, Cond.methodLink RX6 123 Lib.Math.max.name, Cond.methodLink RX9 273 yX9_timesPlayed, Cond.instanceMethod yX9_timesPlayed, Cond.selects RX9 yX9_timesPlayed yX9_timesPlayed, Cond.methodLink RX9 276 yX9_mixSentence, Cond.instanceMethod yX9_mixSentence, Cond.selects RX9 yX9_mixSentence yX9_mixSentence, Cond.methodLink RX5 42 yX5_differsFromBefore, Cond.static yX5_differsFromBefore, Cond.methodLink RX5 46 yX5_tellKey, Cond.instanceMethod yX5_tellKey, Cond.selects RX5 yX5_tellKey yX5_tellKey, Cond.methodLink RX9 188 yX2_at]
def zc_21 : List Cond := [Cond.methodLink RX3 22 yX4_becomeDraft, Cond.instanceMethod yX4_becomeDraft, Cond.selects RX4 yX4_becomeDraft yX4_becomeDraft, Cond.methodLink RX4 80 yX4_appendMeasure, Cond.instanceMethod yX4_appendMeasure, Cond.selects RX4 yX4_appendMeasure yX4_appendMeasure, Cond.methodLink RX4 30 yX4_isFull, Cond.instanceMethod yX4_isFull, Cond.selects RX4 yX4_isFull yX4_isFull, Cond.code yX9_digest cX9_digest 4 (some .long), Cond.code yX10_init cX10_init 1 none, Cond.fieldLink RX10 31 "SpokenBarsModel" "code" "I", Cond.code yX10_thrown cX10_thrown 1 (some .int), Cond.code yX10_refused cX10_refused 2 (some .boolean), Cond.code yX10_in cX10_in 3 (some .boolean), Cond.code yX10_saves cX10_saves 2 none, Cond.code yX10_undo cX10_undo 2 (some .int), Cond.code yX10_base cX10_base 1 (some .int), Cond.code yX10_of cX10_of 3 (some .int), Cond.code yX10_cell cX10_cell 3 (some .int), Cond.code yX10_isMeasure cX10_isMeasure 2 (some .boolean), Cond.code yX10_isVoice cX10_isVoice 3 (some .boolean), Cond.code yX10_isEvent cX10_isEvent 4 (some .boolean), Cond.code yX10_ticksOf cX10_ticksOf 2 (some .int), Cond.code yX10_lasts cX10_lasts 2 (some .int), Cond.code yX10_ticksTo cX10_ticksTo 6 (some .int), Cond.code yX10_addMeasure cX10_addMeasure 3 (some .int), Cond.code yX10_removeMeasure cX10_removeMeasure 3 (some .int), Cond.code yX10_isLower cX10_isLower 1 (some .boolean), Cond.methodLink RX10 42 yX10_in]
def zc_22 : List Cond := [Cond.static yX10_in, Cond.initialized RX10, Cond.methodLink RX10 71 yX10_isLower, Cond.static yX10_isLower, Cond.code yX10_canBe cX10_canBe 2 (some .boolean), Cond.code yX10_set cX10_set 5 (some .int), Cond.code yX10_comes cX10_comes 8 (some .int), Cond.code yX10_full cX10_full 3 (some .int), Cond.code yX10_addNote cX10_addNote 8 (some .int), Cond.code yX10_addRest cX10_addRest 4 (some .int), Cond.code yX10_removeEvent cX10_removeEvent 6 (some .int), Cond.code yX10_bySign cX10_bySign 1 (some .int), Cond.code yX10_byKey cX10_byKey 3 (some .int), Cond.code yX10_byMeasure cX10_byMeasure 7 (some .int), Cond.code yX10_shift cX10_shift 10 (some .int), Cond.code yX10_sound cX10_sound 6 (some .int), Cond.code yX10_isNote cX10_isNote 4 (some .boolean), Cond.code yX10_holds cX10_holds 5 (some .boolean), Cond.code yX10_held cX10_held 9 (some .int), Cond.code yX10_isBroken cX10_isBroken 4 (some .boolean), Cond.code yX10_measureTold cX10_measureTold 3 (some .int), Cond.selects RX10 yX10_lasts yX10_lasts, Cond.methodLink RX10 111 yX10_ticksTo, Cond.instanceMethod yX10_ticksTo, Cond.selects RX10 yX10_ticksTo yX10_ticksTo, Cond.methodLink RX10 57 yX10_cell, Cond.static yX10_cell, Cond.methodLink RX10 61 yX10_ticksOf, Cond.static yX10_ticksOf, Cond.code yX10_measure cX10_measure 3 (some .int)]
def zc_23 : List Cond := [Cond.instanceMethod yX10_of, Cond.selects RX10 yX10_of yX10_of, Cond.methodLink RX10 93 yX10_byMeasure, Cond.instanceMethod yX10_byMeasure, Cond.selects RX10 yX10_byMeasure yX10_byMeasure, Cond.methodLink RX10 90 yX10_byKey, Cond.static yX10_byKey, Cond.methodLink RX10 120 yX10_sound, Cond.instanceMethod yX10_sound, Cond.selects RX10 yX10_sound yX10_sound, Cond.methodLink RX10 123 yX10_held, Cond.instanceMethod yX10_held, Cond.selects RX10 yX10_held yX10_held, Cond.fieldLink RX10 99 "SpokenBarsModel" "nextM" "I", Cond.fieldLink RX10 102 "SpokenBarsModel" "nextE" "I", Cond.methodLink RX10 105 yX10_holds, Cond.instanceMethod yX10_holds, Cond.selects RX10 yX10_holds yX10_holds, Cond.methodLink RX10 126 yX10_isBroken, Cond.instanceMethod yX10_isBroken, Cond.selects RX10 yX10_isBroken yX10_isBroken, Cond.code yX10_eventTold cX10_eventTold 6 (some .int), Cond.methodLink RX10 129 yX10_eventTold, Cond.instanceMethod yX10_eventTold, Cond.selects RX10 yX10_eventTold yX10_eventTold, Cond.methodLink RX10 117 yX10_isNote, Cond.instanceMethod yX10_isNote, Cond.selects RX10 yX10_isNote yX10_isNote, Cond.methodLink RX10 96 yX10_shift, Cond.instanceMethod yX10_shift]
def zc_24 : List Cond := [Cond.selects RX10 yX10_shift yX10_shift, Cond.methodLink RX10 87 yX10_bySign, Cond.static yX10_bySign, Cond.code yX10_event cX10_event 5 (some .int), Cond.code yX10_eventAt cX10_eventAt 6 (some .int), Cond.code yX10_together cX10_together 10 (some .int), Cond.methodLink RX10 108 yX10_lasts, Cond.instanceMethod yX10_lasts, Cond.code yX10_crossed cX10_crossed 6 (some .int), Cond.methodLink RX10 133 yX10_together, Cond.instanceMethod yX10_together, Cond.selects RX10 yX10_together yX10_together, Cond.code yX10_crossings cX10_crossings 2 (some .int), Cond.code yX10_events cX10_events 7 (some .int), Cond.code yX10_uneven cX10_uneven 4 (some .int), Cond.code yX10_finds cX10_finds 9 none, Cond.code yX10_playedTicks cX10_playedTicks 3 (some .int), Cond.code yX10_wholeTold cX10_wholeTold 2 (some .int), Cond.instanceMethod yX10_events, Cond.selects RX10 yX10_events yX10_events, Cond.code yX10_whole cX10_whole 2 (some .int), Cond.code yX10_order cX10_order 2 (some .int), Cond.code yX10_plays cX10_plays 4 (some .int), Cond.methodLink RX10 53 yX10_of, Cond.code yX10_timesPlayed cX10_timesPlayed 2 (some .int), Cond.code yX10_secondsOf cX10_secondsOf 2 (some .float), Cond.code yX10_seconds cX10_seconds 4 (some .float), Cond.code yX10_placeAt cX10_placeAt 6 (some .int), Cond.code yX10_beginOf cX10_beginOf 4 (some .int), Cond.code yX10_gap cX10_gap 1 none]
def zc_25 : List Cond := [Cond.code yX10_writes cX10_writes 2 none, Cond.code yX10_writesWord cX10_writesWord 3 none, Cond.code yX10_writesNumber cX10_writesNumber 2 none, Cond.methodLink RX10 186 yX10_writesNumber, Cond.instanceMethod yX10_writesNumber, Cond.selects RX10 yX10_writesNumber yX10_writesNumber, Cond.code yX10_writesEvent cX10_writesEvent 6 none, Cond.code yX10_writesKey cX10_writesKey 2 none, Cond.code yX10_isOther cX10_isOther 3 (some .boolean), Cond.code yX10_tellsAll cX10_tellsAll 4 none, Cond.methodLink RX10 192 yX10_writesKey, Cond.instanceMethod yX10_writesKey, Cond.selects RX10 yX10_writesKey yX10_writesKey, Cond.methodLink RX10 195 yX10_writesEvent, Cond.instanceMethod yX10_writesEvent, Cond.selects RX10 yX10_writesEvent yX10_writesEvent, Cond.code yX10_sentenceLength cX10_sentenceLength 2 (some .int), Cond.code yX10_sentenceByte cX10_sentenceByte 3 (some .int), Cond.code yX10_words cX10_words 4 (some .int), Cond.instanceMethod yX10_isOther, Cond.selects RX10 yX10_isOther yX10_isOther, Cond.code yX10_copySentence cX10_copySentence 3 (some .int), Cond.code yX10_type cX10_type 2 (some .int), Cond.fieldLink RX10 152 "SpokenBarsModel" "length" "I", Cond.methodLink RX10 38 yX10_refused, Cond.instanceMethod yX10_refused, Cond.selects RX10 yX10_refused yX10_refused, Cond.code yX10_cut cX10_cut 2 (some .int), Cond.code yX10_clearText cX10_clearText 2 (some .int), Cond.code yX10_next cX10_next 1 none]
def zc_26 : List Cond := [Cond.code yX10_takesWord cX10_takesWord 5 (some .boolean), Cond.code yX10_numberHere cX10_numberHere 3 (some .int), Cond.code yX10_takesNumber cX10_takesNumber 4 (some .boolean), Cond.methodLink RX10 211 yX10_numberHere, Cond.instanceMethod yX10_numberHere, Cond.selects RX10 yX10_numberHere yX10_numberHere, Cond.code yX10_readsKey cX10_readsKey 1 (some .boolean), Cond.code yX10_readsTime cX10_readsTime 1 (some .boolean), Cond.code yX10_isLetter cX10_isLetter 1 (some .boolean), Cond.selects RX10 yX10_next yX10_next, Cond.methodLink RX10 224 yX10_takesNumber, Cond.instanceMethod yX10_takesNumber, Cond.selects RX10 yX10_takesNumber yX10_takesNumber, Cond.code yX10_readsHead cX10_readsHead 4 (some .boolean), Cond.selects RX10 yX10_beginOf yX10_beginOf, Cond.methodLink RX10 208 yX10_next, Cond.instanceMethod yX10_next, Cond.code yX10_readsEvent cX10_readsEvent 4 (some .boolean), Cond.code yX10_isRest cX10_isRest 3 (some .boolean), Cond.methodLink RX10 240 yX10_readsEvent, Cond.instanceMethod yX10_readsEvent, Cond.selects RX10 yX10_readsEvent yX10_readsEvent, Cond.methodLink RX10 234 yX10_readsHead, Cond.instanceMethod yX10_readsHead, Cond.selects RX10 yX10_readsHead yX10_readsHead, Cond.fieldLink RX10 214 "SpokenBarsModel" "number" "I", Cond.code yX10_readsEvents cX10_readsEvents 3 (some .boolean), Cond.code yX10_readsVoices cX10_readsVoices 3 (some .boolean), Cond.code yX10_readsEnding cX10_readsEnding 2 (some .boolean), Cond.code yX10_readsBack cX10_readsBack 2 (some .boolean)]
def zc_27 : List Cond := [Cond.methodLink RX10 246 yX10_readsEnding, Cond.instanceMethod yX10_readsEnding, Cond.selects RX10 yX10_readsEnding yX10_readsEnding, Cond.methodLink RX10 249 yX10_readsKey, Cond.instanceMethod yX10_readsKey, Cond.selects RX10 yX10_readsKey yX10_readsKey, Cond.methodLink RX10 252 yX10_readsTime, Cond.instanceMethod yX10_readsTime, Cond.selects RX10 yX10_readsTime yX10_readsTime, Cond.methodLink RX10 255 yX10_readsVoices, Cond.instanceMethod yX10_readsVoices, Cond.selects RX10 yX10_readsVoices yX10_readsVoices, Cond.methodLink RX10 243 yX10_readsEvents, Cond.instanceMethod yX10_readsEvents, Cond.selects RX10 yX10_readsEvents yX10_readsEvents, Cond.methodLink RX10 230 yX10_isLetter, Cond.instanceMethod yX10_isLetter, Cond.selects RX10 yX10_isLetter yX10_isLetter, Cond.methodLink RX10 237 yX10_isRest, Cond.instanceMethod yX10_isRest, Cond.selects RX10 yX10_isRest yX10_isRest, Cond.methodLink RX10 258 yX10_readsBack, Cond.instanceMethod yX10_readsBack, Cond.selects RX10 yX10_readsBack yX10_readsBack, Cond.code yX10_readsAll cX10_readsAll 2 (some .boolean), Cond.code yX10_faultNow cX10_faultNow 1 (some .int), Cond.code yX10_fault cX10_fault 1 (some .int), Cond.methodLink RX10 68 yX10_base, Cond.static yX10_base, Cond.code yX10_readInto cX10_readInto 5 (some .int)]
def zc_28 : List Cond := [Cond.code yX10_isRead cX10_isRead 6 (some .boolean), Cond.methodLink RX10 267 yX10_isRead, Cond.instanceMethod yX10_isRead, Cond.selects RX10 yX10_isRead yX10_isRead, Cond.code yX10_tells cX10_tells 4 (some .boolean), Cond.code yX10_others cX10_others 8 (some .int), Cond.code yX10_changedBy cX10_changedBy 3 (some .int), Cond.code yX10_nearestKey cX10_nearestKey 7 (some .int), Cond.code yX10_needlessSigns cX10_needlessSigns 7 (some .int), Cond.constantLong RX10 273 (31), Cond.fieldLink RX10 275 "SpokenBarsModel" "h" "J", Cond.code yX10_mix cX10_mix 2 none, Cond.methodLink RX10 279 yX10_mix, Cond.instanceMethod yX10_mix, Cond.selects RX10 yX10_mix yX10_mix, Cond.code yX10_mixMeasure cX10_mixMeasure 5 none, Cond.methodLink RX10 143 yX10_finds, Cond.instanceMethod yX10_finds, Cond.selects RX10 yX10_finds yX10_finds, Cond.methodLink RX10 149 yX10_playedTicks, Cond.instanceMethod yX10_playedTicks, Cond.selects RX10 yX10_playedTicks yX10_playedTicks, Cond.methodLink RX10 114 yX10_measureTold, Cond.instanceMethod yX10_measureTold, Cond.selects RX10 yX10_measureTold yX10_measureTold, Cond.methodLink RX10 136 yX10_crossed, Cond.instanceMethod yX10_crossed, Cond.selects RX10 yX10_crossed yX10_crossed, Cond.methodLink RX10 161 yX10_plays, Cond.instanceMethod yX10_plays]
def zc_29 : List Cond := [Cond.selects RX10 yX10_plays yX10_plays, Cond.methodLink RX10 199 yX10_tellsAll, Cond.instanceMethod yX10_tellsAll, Cond.selects RX10 yX10_tellsAll yX10_tellsAll, Cond.methodLink RX10 183 yX10_writesWord, Cond.instanceMethod yX10_writesWord, Cond.code yX10_digest cX10_digest 2 (some .long), Cond.arrayClass .byte, Cond.sameMethod "java/lang/AbstractStringBuilder" "java/lang/AbstractStringBuilder" "isLatin1" "()Z", Cond.sameMethod "java/lang/AbstractStringBuilder" "java/lang/AbstractStringBuilder" "inflateIfNeededFor" "(Ljava/lang/String;)V", Cond.sameMethod "java/lang/AbstractStringBuilder" "java/lang/AbstractStringBuilder" "inflate" "()V", Cond.methodLink RJ0 212 arraycopyName, Cond.methodLink RJ7 304 Lib.Math.min.name, Cond.methodLink RJ7 150 arraycopyName, Cond.sameMethod "java/lang/AbstractStringBuilder" "java/lang/AbstractStringBuilder" "putStringAt" "(ILjava/lang/String;)V", Cond.sameMethod "java/lang/AbstractStringBuilder" "java/lang/AbstractStringBuilder" "length" "()I", Cond.sameMethod "java/lang/AbstractStringBuilder" "java/lang/AbstractStringBuilder" "append" "(Ljava/lang/String;)Ljava/lang/AbstractStringBuilder;", Cond.sameMethod "java/lang/AbstractStringBuilder" "java/lang/AbstractStringBuilder" "appendNull" "()Ljava/lang/AbstractStringBuilder;", Cond.sameMethod "java/lang/AbstractStringBuilder" "java/lang/AbstractStringBuilder" "ensureCapacityInternal" "(I)V", Cond.sameMethod "java/lang/AbstractStringBuilder" "java/lang/AbstractStringBuilder" "newCapacity" "(I)I", Cond.sameMethod "java/lang/AbstractStringBuilder" "java/lang/AbstractStringBuilder" "append" "(I)Ljava/lang/AbstractStringBuilder;", Cond.classLink RL 19 "java/lang/IndexOutOfBoundsException", Cond.methodLink RL 15 yX9_removeMeasure, Cond.instanceMethod yX9_removeMeasure, Cond.selects RX9 yX9_removeMeasure yX9_removeMeasure, Cond.methodLink RX9 82 yX4_size, Cond.methodLink RL 21 yX9_set, Cond.instanceMethod yX9_set, Cond.selects RX9 yX9_set yX9_set, Cond.methodLink RL 27 yX9_addNote]
def zc_30 : List Cond := [Cond.instanceMethod yX9_addNote, Cond.selects RX9 yX9_addNote yX9_addNote, Cond.methodLink RX1 27 Lib.Math.min.name, Cond.methodLink RX1 23 yX4_copyFrom, Cond.methodLink RL 31 yX9_addRest, Cond.instanceMethod yX9_addRest, Cond.selects RX9 yX9_addRest yX9_addRest, Cond.methodLink RL 37 yX9_measure, Cond.methodLink RL 45 yX9_eventAt, Cond.instanceMethod yX9_eventAt, Cond.selects RX9 yX9_eventAt yX9_eventAt, Cond.methodLink RL 48 yX9_crossings, Cond.classLink RL 25 "java/lang/IllegalArgumentException", Cond.methodLink RL 51 yX9_whole, Cond.instanceMethod yX4_size, Cond.methodLink RX9 175 yX4_unevenVoices, Cond.instanceMethod yX4_unevenVoices, Cond.selects RX4 yX4_unevenVoices yX4_unevenVoices, Cond.methodLink RL 57 yX9_timesPlayed, Cond.methodLink RL 60 yX9_seconds, Cond.instanceMethod yX9_seconds, Cond.selects RX9 yX9_seconds yX9_seconds, Cond.methodLink RL 64 yX9_placeAt, Cond.instanceMethod yX9_placeAt, Cond.selects RX9 yX9_placeAt yX9_placeAt, Cond.methodLink RL 67 yX9_sentenceLength, Cond.instanceMethod yX9_sentenceLength, Cond.selects RX9 yX9_sentenceLength yX9_sentenceLength, Cond.methodLink RL 70 yX9_sentenceByte, Cond.instanceMethod yX9_sentenceByte]
def zc_31 : List Cond := [Cond.selects RX9 yX9_sentenceByte yX9_sentenceByte, Cond.methodLink RL 73 yX9_words, Cond.instanceMethod yX9_words, Cond.selects RX9 yX9_words yX9_words, Cond.methodLink RL 76 yX9_copySentence, Cond.instanceMethod yX9_copySentence, Cond.selects RX9 yX9_copySentence yX9_copySentence, Cond.methodLink RL 79 yX9_type, Cond.instanceMethod yX9_type, Cond.selects RX9 yX9_type yX9_type, Cond.methodLink RX9 216 yX7_append, Cond.instanceMethod yX7_append, Cond.selects RX7 yX7_append yX7_append, Cond.methodLink RL 82 yX9_cut, Cond.instanceMethod yX9_cut, Cond.selects RX9 yX9_cut yX9_cut, Cond.methodLink RL 85 yX9_readInto, Cond.instanceMethod yX9_readInto, Cond.selects RX9 yX9_readInto yX9_readInto, Cond.methodLink RX9 230 yX4_takeDraft, Cond.instanceMethod yX4_takeDraft, Cond.selects RX4 yX4_takeDraft yX4_takeDraft, Cond.methodLink RL 88 yX9_tells, Cond.instanceMethod yX9_tells, Cond.selects RX9 yX9_tells yX9_tells, Cond.methodLink RL 92 yX9_changedBy, Cond.instanceMethod yX9_changedBy, Cond.selects RX9 yX9_changedBy yX9_changedBy, Cond.methodLink RL 95 yX9_nearestKey, Cond.instanceMethod yX9_nearestKey]
def zc_32 : List Cond := [Cond.selects RX9 yX9_nearestKey yX9_nearestKey, Cond.constant RX9 243 (2147483647), Cond.methodLink RL 98 yX9_needlessSigns, Cond.instanceMethod yX9_needlessSigns, Cond.selects RX9 yX9_needlessSigns yX9_needlessSigns, Cond.classLink RL 8 RX9, Cond.instantiable RX9 7, Cond.classLink RL 105 RX10, Cond.instantiable RX10 20, Cond.arrayClass .long, Cond.arrayClass .double, Cond.methodLink RL 104 yX9_init, Cond.instanceMethod yX9_init, Cond.methodLink RL 7 yX9_addMeasure, Cond.instanceMethod yX9_addMeasure, Cond.selects RX9 yX9_addMeasure yX9_addMeasure, Cond.methodLink RX9 62 yX4_isFull, Cond.fieldLink RX1 20 "SpokenBars$History" "next" "I", Cond.methodLink RX9 76 yX4_appendMeasure, Cond.methodLink RX6 54 yX4_size, Cond.instanceMethod yX6_held, Cond.methodLink RX2 19 yX4_size, Cond.methodLink RL 113 yX10_addMeasure, Cond.instanceMethod yX10_addMeasure, Cond.selects RX10 yX10_addMeasure yX10_addMeasure, Cond.methodLink RX10 65 yX10_saves, Cond.instanceMethod yX10_saves, Cond.selects RX10 yX10_saves yX10_saves, Cond.fieldLink RX10 35 "SpokenBarsModel" "pasts" "I", Cond.methodLink RL 114 yX10_thrown]
def zc_33 : List Cond := [Cond.instanceMethod yX10_thrown, Cond.selects RX10 yX10_thrown yX10_thrown, Cond.methodLink RL 117 yL_removeMeasure, Cond.static yL_removeMeasure, Cond.codeWith yL_removeMeasure cL_removeMeasure 4 (some .int) [(0, 9, 12, 19)], Cond.methodLink RX9 90 yX4_dropMeasure, Cond.instanceMethod yX4_dropMeasure, Cond.selects RX4 yX4_dropMeasure yX4_dropMeasure, Cond.methodLink RL 120 yX10_removeMeasure, Cond.instanceMethod yX10_removeMeasure, Cond.selects RX10 yX10_removeMeasure yX10_removeMeasure, Cond.methodLink RX10 46 yX10_isMeasure, Cond.instanceMethod yX10_isMeasure, Cond.selects RX10 yX10_isMeasure yX10_isMeasure, Cond.methodLink RL 121 yL_set, Cond.static yL_set, Cond.codeWith yL_set cL_set 6 (some .int) [(0, 12, 15, 19), (0, 12, 19, 25)], Cond.methodLink RX9 106 yX4_putValue, Cond.methodLink RL 124 yX10_set, Cond.instanceMethod yX10_set, Cond.selects RX10 yX10_set yX10_set, Cond.methodLink RX10 74 yX10_canBe, Cond.static yX10_canBe, Cond.methodLink RL 125 yL_addNote, Cond.static yL_addNote, Cond.codeWith yL_addNote cL_addNote 9 (some .int) [(0, 18, 21, 19), (0, 18, 25, 25), (0, 18, 29, 13)], Cond.methodLink RX9 119 yX9_requireRoom, Cond.instanceMethod yX9_requireRoom, Cond.selects RX9 yX9_requireRoom yX9_requireRoom, Cond.methodLink RL 128 yX10_addNote]
def zc_34 : List Cond := [Cond.instanceMethod yX10_addNote, Cond.selects RX10 yX10_addNote yX10_addNote, Cond.methodLink RX10 49 yX10_isVoice, Cond.instanceMethod yX10_isVoice, Cond.selects RX10 yX10_isVoice yX10_isVoice, Cond.methodLink RX10 77 yX10_full, Cond.instanceMethod yX10_full, Cond.selects RX10 yX10_full yX10_full, Cond.methodLink RX10 80 yX10_comes, Cond.instanceMethod yX10_comes, Cond.selects RX10 yX10_comes yX10_comes, Cond.methodLink RL 129 yL_addRest, Cond.static yL_addRest, Cond.codeWith yL_addRest cL_addRest 6 (some .int) [(0, 12, 15, 19), (0, 12, 19, 25), (0, 12, 23, 13)], Cond.methodLink RL 131 yX10_addRest, Cond.instanceMethod yX10_addRest, Cond.selects RX10 yX10_addRest yX10_addRest, Cond.methodLink RL 132 yL_removeEvent, Cond.static yL_removeEvent, Cond.codeWith yL_removeEvent cL_removeEvent 6 (some .int) [(0, 12, 15, 19)], Cond.methodLink RL 34 yX9_removeEvent, Cond.instanceMethod yX9_removeEvent, Cond.selects RX9 yX9_removeEvent yX9_removeEvent, Cond.methodLink RX9 139 yX4_dropEvent, Cond.instanceMethod yX4_dropEvent, Cond.selects RX4 yX4_dropEvent yX4_dropEvent, Cond.methodLink RL 134 yX10_removeEvent, Cond.instanceMethod yX10_removeEvent, Cond.selects RX10 yX10_removeEvent yX10_removeEvent, Cond.methodLink RX10 84 yX10_isEvent]
def zc_35 : List Cond := [Cond.instanceMethod yX10_isEvent, Cond.selects RX10 yX10_isEvent yX10_isEvent, Cond.methodLink RL 135 yL_measure, Cond.static yL_measure, Cond.codeWith yL_measure cL_measure 5 (some .int) [(0, 10, 13, 19), (0, 10, 17, 25)], Cond.methodLink RL 138 yX10_measure, Cond.instanceMethod yX10_measure, Cond.selects RX10 yX10_measure yX10_measure, Cond.methodLink RL 139 yL_event, Cond.static yL_event, Cond.methodLink RL 142 yX10_event, Cond.instanceMethod yX10_event, Cond.selects RX10 yX10_event yX10_event, Cond.methodLink RL 143 yL_eventAt, Cond.static yL_eventAt, Cond.codeWith yL_eventAt cL_eventAt 6 (some .int) [(0, 12, 15, 19), (0, 12, 19, 25)], Cond.methodLink RL 145 yX10_eventAt, Cond.instanceMethod yX10_eventAt, Cond.selects RX10 yX10_eventAt yX10_eventAt, Cond.methodLink RL 146 yL_crossings, Cond.static yL_crossings, Cond.codeWith yL_crossings cL_crossings 4 (some .int) [(0, 9, 12, 19)], Cond.methodLink RL 148 yX10_crossings, Cond.instanceMethod yX10_crossings, Cond.selects RX10 yX10_crossings yX10_crossings, Cond.methodLink RL 149 yL_whole, Cond.static yL_whole, Cond.codeWith yL_whole cL_whole 4 (some .int) [(0, 9, 12, 25)], Cond.methodLink RL 151 yX10_whole, Cond.instanceMethod yX10_whole]
def zc_36 : List Cond := [Cond.selects RX10 yX10_whole yX10_whole, Cond.methodLink RX10 158 yX10_wholeTold, Cond.instanceMethod yX10_wholeTold, Cond.selects RX10 yX10_wholeTold yX10_wholeTold, Cond.fieldLink RX10 146 "SpokenBarsModel" "places" "I", Cond.methodLink RX10 139 yX10_uneven, Cond.instanceMethod yX10_uneven, Cond.selects RX10 yX10_uneven yX10_uneven, Cond.methodLink RX10 155 yX10_events, Cond.methodLink RL 152 yL_order, Cond.static yL_order, Cond.codeWith yL_order cL_order 4 (some .int) [(0, 9, 12, 25)], Cond.methodLink RL 54 yX9_order, Cond.instanceMethod yX9_order, Cond.selects RX9 yX9_order yX9_order, Cond.methodLink RL 154 yX10_order, Cond.instanceMethod yX10_order, Cond.selects RX10 yX10_order yX10_order, Cond.methodLink RL 155 yL_timesPlayed, Cond.static yL_timesPlayed, Cond.codeWith yL_timesPlayed cL_timesPlayed 4 (some .int) [(0, 9, 12, 19)], Cond.methodLink RL 157 yX10_timesPlayed, Cond.instanceMethod yX10_timesPlayed, Cond.selects RX10 yX10_timesPlayed yX10_timesPlayed, Cond.methodLink RL 158 yL_seconds, Cond.static yL_seconds, Cond.codeWith yL_seconds cL_seconds 4 (some .int) [(0, 9, 12, 25)], Cond.methodLink RL 161 yX10_seconds, Cond.instanceMethod yX10_seconds, Cond.selects RX10 yX10_seconds yX10_seconds]
def zc_37 : List Cond := [Cond.methodLink RX10 166 yX10_secondsOf, Cond.instanceMethod yX10_secondsOf, Cond.selects RX10 yX10_secondsOf yX10_secondsOf, Cond.constantFloat RX10 164 (1114636288), Cond.constantFloat RX10 165 (1098907648), Cond.methodLink RL 162 yL_placeAt, Cond.static yL_placeAt, Cond.codeWith yL_placeAt cL_placeAt 4 (some .int) [(0, 9, 12, 25)], Cond.methodLink RL 164 yX10_placeAt, Cond.instanceMethod yX10_placeAt, Cond.selects RX10 yX10_placeAt yX10_placeAt, Cond.methodLink RL 165 yL_sentenceLength, Cond.static yL_sentenceLength, Cond.codeWith yL_sentenceLength cL_sentenceLength 4 (some .int) [(0, 9, 12, 19)], Cond.methodLink RL 167 yX10_sentenceLength, Cond.instanceMethod yX10_sentenceLength, Cond.selects RX10 yX10_sentenceLength yX10_sentenceLength, Cond.fieldLink RX10 170 "SpokenBarsModel" "lineMany" "I", Cond.selects RX10 yX10_writesWord yX10_writesWord, Cond.methodLink RX10 173 yX10_gap, Cond.instanceMethod yX10_gap, Cond.selects RX10 yX10_gap yX10_gap, Cond.methodLink RX10 176 yX10_beginOf, Cond.instanceMethod yX10_beginOf, Cond.methodLink RX10 179 yX10_writes, Cond.instanceMethod yX10_writes, Cond.selects RX10 yX10_writes yX10_writes, Cond.methodLink RX10 189 yX10_isOther, Cond.methodLink RL 168 yL_sentenceByte, Cond.static yL_sentenceByte]
def zc_38 : List Cond := [Cond.codeWith yL_sentenceByte cL_sentenceByte 5 (some .int) [(0, 10, 13, 19), (0, 10, 17, 25)], Cond.methodLink RL 170 yX10_sentenceByte, Cond.instanceMethod yX10_sentenceByte, Cond.selects RX10 yX10_sentenceByte yX10_sentenceByte, Cond.methodLink RL 171 yL_words, Cond.static yL_words, Cond.codeWith yL_words cL_words 4 (some .int) [(0, 9, 12, 19)], Cond.methodLink RL 173 yX10_words, Cond.instanceMethod yX10_words, Cond.selects RX10 yX10_words yX10_words, Cond.methodLink RL 174 yL_copySentence, Cond.static yL_copySentence, Cond.codeWith yL_copySentence cL_copySentence 4 (some .int) [(0, 9, 12, 19), (0, 9, 15, 13)], Cond.methodLink RL 176 yX10_copySentence, Cond.instanceMethod yX10_copySentence, Cond.selects RX10 yX10_copySentence yX10_copySentence, Cond.methodLink RL 177 yL_type, Cond.static yL_type, Cond.codeWith yL_type cL_type 4 (some .int) [(0, 9, 12, 25), (0, 9, 15, 13)], Cond.methodLink RL 179 yX10_type, Cond.instanceMethod yX10_type, Cond.selects RX10 yX10_type yX10_type, Cond.methodLink RL 180 yL_cut, Cond.static yL_cut, Cond.codeWith yL_cut cL_cut 4 (some .int) [(0, 9, 12, 25), (0, 9, 15, 13)], Cond.methodLink RL 182 yX10_cut, Cond.instanceMethod yX10_cut, Cond.selects RX10 yX10_cut yX10_cut, Cond.methodLink RL 183 yX9_clearText, Cond.instanceMethod yX9_clearText]
def zc_39 : List Cond := [Cond.selects RX9 yX9_clearText yX9_clearText, Cond.methodLink RL 186 yX10_clearText, Cond.instanceMethod yX10_clearText, Cond.selects RX10 yX10_clearText yX10_clearText, Cond.methodLink RL 187 yX9_fault, Cond.instanceMethod yX9_fault, Cond.selects RX9 yX9_fault yX9_fault, Cond.methodLink RX3 35 yX3_readHead, Cond.instanceMethod yX3_readHead, Cond.selects RX3 yX3_readHead yX3_readHead, Cond.methodLink RL 190 yX10_fault, Cond.instanceMethod yX10_fault, Cond.selects RX10 yX10_fault yX10_fault, Cond.methodLink RX10 264 yX10_faultNow, Cond.instanceMethod yX10_faultNow, Cond.selects RX10 yX10_faultNow yX10_faultNow, Cond.fieldLink RX10 205 "SpokenBarsModel" "from" "I", Cond.methodLink RX10 261 yX10_readsAll, Cond.instanceMethod yX10_readsAll, Cond.selects RX10 yX10_readsAll yX10_readsAll, Cond.fieldLink RX10 217 "SpokenBarsModel" "hasKey" "Z", Cond.fieldLink RX10 227 "SpokenBarsModel" "hasTime" "Z", Cond.fieldLink RX10 202 "SpokenBarsModel" "to" "I", Cond.methodLink RX10 221 yX10_takesWord, Cond.instanceMethod yX10_takesWord, Cond.selects RX10 yX10_takesWord yX10_takesWord, Cond.methodLink RL 191 yL_readInto, Cond.static yL_readInto, Cond.codeWith yL_readInto cL_readInto 4 (some .int) [(0, 9, 12, 19)], Cond.methodLink RL 193 yX10_readInto]
def zc_40 : List Cond := [Cond.instanceMethod yX10_readInto, Cond.selects RX10 yX10_readInto yX10_readInto, Cond.methodLink RL 194 yL_tells, Cond.static yL_tells, Cond.codeWith yL_tells cL_tells 4 (some .int) [(0, 16, 19, 19)], Cond.methodLink RL 196 yX10_tells, Cond.instanceMethod yX10_tells, Cond.selects RX10 yX10_tells yX10_tells, Cond.methodLink RL 197 yL_changedBy, Cond.static yL_changedBy, Cond.codeWith yL_changedBy cL_changedBy 5 (some .int) [(0, 10, 13, 19), (0, 10, 17, 25)], Cond.methodLink RL 199 yX10_changedBy, Cond.instanceMethod yX10_changedBy, Cond.selects RX10 yX10_changedBy yX10_changedBy, Cond.methodLink RX10 270 yX10_others, Cond.instanceMethod yX10_others, Cond.selects RX10 yX10_others yX10_others, Cond.methodLink RL 200 yL_nearestKey, Cond.static yL_nearestKey, Cond.codeWith yL_nearestKey cL_nearestKey 4 (some .int) [(0, 9, 12, 19)], Cond.methodLink RL 202 yX10_nearestKey, Cond.instanceMethod yX10_nearestKey, Cond.selects RX10 yX10_nearestKey yX10_nearestKey, Cond.methodLink RL 203 yL_needlessSigns, Cond.static yL_needlessSigns, Cond.codeWith yL_needlessSigns cL_needlessSigns 4 (some .int) [(0, 9, 12, 19)], Cond.methodLink RL 205 yX10_needlessSigns, Cond.instanceMethod yX10_needlessSigns, Cond.selects RX10 yX10_needlessSigns yX10_needlessSigns, Cond.methodLink RL 206 yL_undo]
def zc_41 : List Cond := [Cond.static yL_undo, Cond.codeWith yL_undo cL_undo 3 (some .int) [(0, 8, 11, 13)], Cond.methodLink RL 101 yX9_undo, Cond.instanceMethod yX9_undo, Cond.selects RX9 yX9_undo yX9_undo, Cond.methodLink RX9 250 yX1_popInto, Cond.instanceMethod yX1_popInto, Cond.selects RX1 yX1_popInto yX1_popInto, Cond.methodLink RL 208 yX10_undo, Cond.instanceMethod yX10_undo, Cond.selects RX10 yX10_undo yX10_undo, Cond.methodLink RL 209 yX9_digest, Cond.instanceMethod yX9_digest, Cond.selects RX9 yX9_digest yX9_digest, Cond.methodLink RX9 262 yX9_mixValues, Cond.instanceMethod yX9_mixValues, Cond.selects RX9 yX9_mixValues yX9_mixValues, Cond.methodLink RL 213 yX10_digest, Cond.instanceMethod yX10_digest, Cond.selects RX10 yX10_digest yX10_digest, Cond.constantLong RX10 282 (43179), Cond.methodLink RX10 284 yX10_mixMeasure, Cond.instanceMethod yX10_mixMeasure, Cond.selects RX10 yX10_mixMeasure yX10_mixMeasure]
def ZW0 : List Cond := (((((zc_0 ++ zc_1) ++ (zc_2 ++ (zc_3 ++ zc_4))) ++ ((zc_5 ++ zc_6) ++ (zc_7 ++ (zc_8 ++ zc_9)))) ++ (((zc_10 ++ zc_11) ++ (zc_12 ++ (zc_13 ++ zc_14))) ++ ((zc_15 ++ (zc_16 ++ zc_17)) ++ (zc_18 ++ (zc_19 ++ zc_20))))) ++ ((((zc_21 ++ zc_22) ++ (zc_23 ++ (zc_24 ++ zc_25))) ++ ((zc_26 ++ zc_27) ++ (zc_28 ++ (zc_29 ++ zc_30)))) ++ (((zc_31 ++ zc_32) ++ (zc_33 ++ (zc_34 ++ zc_35))) ++ ((zc_36 ++ (zc_37 ++ zc_38)) ++ (zc_39 ++ (zc_40 ++ zc_41))))))
abbrev vwCl : List vw_C := [(RX1, TX1, 3), (RX2, TX2, 2), (RX3, TX3, 5), (RX4, TX4, 2), (RX5, TX5, 3), (RX6, TX6, 3), (RX7, TX7, 2), (RX9, TX9, 7), (RX10, TX10, 20)]
def zx_0 : List Cond := (vx_atS RX9 70 "java/lang/IllegalStateException" ["java/lang/RuntimeException", "java/lang/Exception"]).filter goodWord
def zx_1 : List Cond := (vx_atS RX9 329 "java/lang/IndexOutOfBoundsException" ["java/lang/RuntimeException", "java/lang/Exception"]).filter goodWord
def zx_2 : List Cond := (vx_atS RX9 101 "java/lang/IllegalArgumentException" ["java/lang/RuntimeException", "java/lang/Exception"]).filter goodWord
def ZW : List Cond := ZW0 ++ (wsX10 ++ (wsX20 ++ (wsX30 ++ (wsX40 ++ (wsX50 ++ (wsX60 ++ (wsX70 ++ (wsX90 ++ (wsX100 ++ (zx_0 ++ (zx_1 ++ (zx_2))))))))))))
theorem zs_0 : ∀ w ∈ zc_0, w ∈ ZW := fun w h => List.mem_append_left _ (List.mem_append_left _ (List.mem_append_left _ (List.mem_append_left _ (List.mem_append_left _ (List.mem_append_left _ (h))))))
theorem zs_1 : ∀ w ∈ zc_1, w ∈ ZW := fun w h => List.mem_append_left _ (List.mem_append_left _ (List.mem_append_left _ (List.mem_append_left _ (List.mem_append_left _ (List.mem_append_right _ (h))))))
theorem zs_2 : ∀ w ∈ zc_2, w ∈ ZW := fun w h => List.mem_append_left _ (List.mem_append_left _ (List.mem_append_left _ (List.mem_append_left _ (List.mem_append_right _ (List.mem_append_left _ (h))))))
theorem zs_3 : ∀ w ∈ zc_3, w ∈ ZW := fun w h => List.mem_append_left _ (List.mem_append_left _ (List.mem_append_left _ (List.mem_append_left _ (List.mem_append_right _ (List.mem_append_right _ (List.mem_append_left _ (h)))))))
theorem zs_4 : ∀ w ∈ zc_4, w ∈ ZW := fun w h => List.mem_append_left _ (List.mem_append_left _ (List.mem_append_left _ (List.mem_append_left _ (List.mem_append_right _ (List.mem_append_right _ (List.mem_append_right _ (h)))))))
theorem zs_5 : ∀ w ∈ zc_5, w ∈ ZW := fun w h => List.mem_append_left _ (List.mem_append_left _ (List.mem_append_left _ (List.mem_append_right _ (List.mem_append_left _ (List.mem_append_left _ (h))))))
theorem zs_6 : ∀ w ∈ zc_6, w ∈ ZW := fun w h => List.mem_append_left _ (List.mem_append_left _ (List.mem_append_left _ (List.mem_append_right _ (List.mem_append_left _ (List.mem_append_right _ (h))))))
theorem zs_7 : ∀ w ∈ zc_7, w ∈ ZW := fun w h => List.mem_append_left _ (List.mem_append_left _ (List.mem_append_left _ (List.mem_append_right _ (List.mem_append_right _ (List.mem_append_left _ (h))))))
theorem zs_8 : ∀ w ∈ zc_8, w ∈ ZW := fun w h => List.mem_append_left _ (List.mem_append_left _ (List.mem_append_left _ (List.mem_append_right _ (List.mem_append_right _ (List.mem_append_right _ (List.mem_append_left _ (h)))))))
theorem zs_9 : ∀ w ∈ zc_9, w ∈ ZW := fun w h => List.mem_append_left _ (List.mem_append_left _ (List.mem_append_left _ (List.mem_append_right _ (List.mem_append_right _ (List.mem_append_right _ (List.mem_append_right _ (h)))))))
theorem zs_10 : ∀ w ∈ zc_10, w ∈ ZW := fun w h => List.mem_append_left _ (List.mem_append_left _ (List.mem_append_right _ (List.mem_append_left _ (List.mem_append_left _ (List.mem_append_left _ (h))))))
theorem zs_11 : ∀ w ∈ zc_11, w ∈ ZW := fun w h => List.mem_append_left _ (List.mem_append_left _ (List.mem_append_right _ (List.mem_append_left _ (List.mem_append_left _ (List.mem_append_right _ (h))))))
theorem zs_12 : ∀ w ∈ zc_12, w ∈ ZW := fun w h => List.mem_append_left _ (List.mem_append_left _ (List.mem_append_right _ (List.mem_append_left _ (List.mem_append_right _ (List.mem_append_left _ (h))))))
theorem zs_13 : ∀ w ∈ zc_13, w ∈ ZW := fun w h => List.mem_append_left _ (List.mem_append_left _ (List.mem_append_right _ (List.mem_append_left _ (List.mem_append_right _ (List.mem_append_right _ (List.mem_append_left _ (h)))))))
theorem zs_14 : ∀ w ∈ zc_14, w ∈ ZW := fun w h => List.mem_append_left _ (List.mem_append_left _ (List.mem_append_right _ (List.mem_append_left _ (List.mem_append_right _ (List.mem_append_right _ (List.mem_append_right _ (h)))))))
theorem zs_15 : ∀ w ∈ zc_15, w ∈ ZW := fun w h => List.mem_append_left _ (List.mem_append_left _ (List.mem_append_right _ (List.mem_append_right _ (List.mem_append_left _ (List.mem_append_left _ (h))))))
theorem zs_16 : ∀ w ∈ zc_16, w ∈ ZW := fun w h => List.mem_append_left _ (List.mem_append_left _ (List.mem_append_right _ (List.mem_append_right _ (List.mem_append_left _ (List.mem_append_right _ (List.mem_append_left _ (h)))))))
theorem zs_17 : ∀ w ∈ zc_17, w ∈ ZW := fun w h => List.mem_append_left _ (List.mem_append_left _ (List.mem_append_right _ (List.mem_append_right _ (List.mem_append_left _ (List.mem_append_right _ (List.mem_append_right _ (h)))))))
theorem zs_18 : ∀ w ∈ zc_18, w ∈ ZW := fun w h => List.mem_append_left _ (List.mem_append_left _ (List.mem_append_right _ (List.mem_append_right _ (List.mem_append_right _ (List.mem_append_left _ (h))))))
theorem zs_19 : ∀ w ∈ zc_19, w ∈ ZW := fun w h => List.mem_append_left _ (List.mem_append_left _ (List.mem_append_right _ (List.mem_append_right _ (List.mem_append_right _ (List.mem_append_right _ (List.mem_append_left _ (h)))))))
theorem zs_20 : ∀ w ∈ zc_20, w ∈ ZW := fun w h => List.mem_append_left _ (List.mem_append_left _ (List.mem_append_right _ (List.mem_append_right _ (List.mem_append_right _ (List.mem_append_right _ (List.mem_append_right _ (h)))))))
theorem zs_21 : ∀ w ∈ zc_21, w ∈ ZW := fun w h => List.mem_append_left _ (List.mem_append_right _ (List.mem_append_left _ (List.mem_append_left _ (List.mem_append_left _ (List.mem_append_left _ (h))))))
theorem zs_22 : ∀ w ∈ zc_22, w ∈ ZW := fun w h => List.mem_append_left _ (List.mem_append_right _ (List.mem_append_left _ (List.mem_append_left _ (List.mem_append_left _ (List.mem_append_right _ (h))))))
theorem zs_23 : ∀ w ∈ zc_23, w ∈ ZW := fun w h => List.mem_append_left _ (List.mem_append_right _ (List.mem_append_left _ (List.mem_append_left _ (List.mem_append_right _ (List.mem_append_left _ (h))))))
theorem zs_24 : ∀ w ∈ zc_24, w ∈ ZW := fun w h => List.mem_append_left _ (List.mem_append_right _ (List.mem_append_left _ (List.mem_append_left _ (List.mem_append_right _ (List.mem_append_right _ (List.mem_append_left _ (h)))))))
theorem zs_25 : ∀ w ∈ zc_25, w ∈ ZW := fun w h => List.mem_append_left _ (List.mem_append_right _ (List.mem_append_left _ (List.mem_append_left _ (List.mem_append_right _ (List.mem_append_right _ (List.mem_append_right _ (h)))))))
theorem zs_26 : ∀ w ∈ zc_26, w ∈ ZW := fun w h => List.mem_append_left _ (List.mem_append_right _ (List.mem_append_left _ (List.mem_append_right _ (List.mem_append_left _ (List.mem_append_left _ (h))))))
theorem zs_27 : ∀ w ∈ zc_27, w ∈ ZW := fun w h => List.mem_append_left _ (List.mem_append_right _ (List.mem_append_left _ (List.mem_append_right _ (List.mem_append_left _ (List.mem_append_right _ (h))))))
theorem zs_28 : ∀ w ∈ zc_28, w ∈ ZW := fun w h => List.mem_append_left _ (List.mem_append_right _ (List.mem_append_left _ (List.mem_append_right _ (List.mem_append_right _ (List.mem_append_left _ (h))))))
theorem zs_29 : ∀ w ∈ zc_29, w ∈ ZW := fun w h => List.mem_append_left _ (List.mem_append_right _ (List.mem_append_left _ (List.mem_append_right _ (List.mem_append_right _ (List.mem_append_right _ (List.mem_append_left _ (h)))))))
theorem zs_30 : ∀ w ∈ zc_30, w ∈ ZW := fun w h => List.mem_append_left _ (List.mem_append_right _ (List.mem_append_left _ (List.mem_append_right _ (List.mem_append_right _ (List.mem_append_right _ (List.mem_append_right _ (h)))))))
theorem zs_31 : ∀ w ∈ zc_31, w ∈ ZW := fun w h => List.mem_append_left _ (List.mem_append_right _ (List.mem_append_right _ (List.mem_append_left _ (List.mem_append_left _ (List.mem_append_left _ (h))))))
theorem zs_32 : ∀ w ∈ zc_32, w ∈ ZW := fun w h => List.mem_append_left _ (List.mem_append_right _ (List.mem_append_right _ (List.mem_append_left _ (List.mem_append_left _ (List.mem_append_right _ (h))))))
theorem zs_33 : ∀ w ∈ zc_33, w ∈ ZW := fun w h => List.mem_append_left _ (List.mem_append_right _ (List.mem_append_right _ (List.mem_append_left _ (List.mem_append_right _ (List.mem_append_left _ (h))))))
theorem zs_34 : ∀ w ∈ zc_34, w ∈ ZW := fun w h => List.mem_append_left _ (List.mem_append_right _ (List.mem_append_right _ (List.mem_append_left _ (List.mem_append_right _ (List.mem_append_right _ (List.mem_append_left _ (h)))))))
theorem zs_35 : ∀ w ∈ zc_35, w ∈ ZW := fun w h => List.mem_append_left _ (List.mem_append_right _ (List.mem_append_right _ (List.mem_append_left _ (List.mem_append_right _ (List.mem_append_right _ (List.mem_append_right _ (h)))))))
theorem zs_36 : ∀ w ∈ zc_36, w ∈ ZW := fun w h => List.mem_append_left _ (List.mem_append_right _ (List.mem_append_right _ (List.mem_append_right _ (List.mem_append_left _ (List.mem_append_left _ (h))))))
theorem zs_37 : ∀ w ∈ zc_37, w ∈ ZW := fun w h => List.mem_append_left _ (List.mem_append_right _ (List.mem_append_right _ (List.mem_append_right _ (List.mem_append_left _ (List.mem_append_right _ (List.mem_append_left _ (h)))))))
theorem zs_38 : ∀ w ∈ zc_38, w ∈ ZW := fun w h => List.mem_append_left _ (List.mem_append_right _ (List.mem_append_right _ (List.mem_append_right _ (List.mem_append_left _ (List.mem_append_right _ (List.mem_append_right _ (h)))))))
theorem zs_39 : ∀ w ∈ zc_39, w ∈ ZW := fun w h => List.mem_append_left _ (List.mem_append_right _ (List.mem_append_right _ (List.mem_append_right _ (List.mem_append_right _ (List.mem_append_left _ (h))))))
theorem zs_40 : ∀ w ∈ zc_40, w ∈ ZW := fun w h => List.mem_append_left _ (List.mem_append_right _ (List.mem_append_right _ (List.mem_append_right _ (List.mem_append_right _ (List.mem_append_right _ (List.mem_append_left _ (h)))))))
theorem zs_41 : ∀ w ∈ zc_41, w ∈ ZW := fun w h => List.mem_append_left _ (List.mem_append_right _ (List.mem_append_right _ (List.mem_append_right _ (List.mem_append_right _ (List.mem_append_right _ (List.mem_append_right _ (h)))))))
theorem zu_wsX10 : ∀ w ∈ wsX10, w ∈ ZW := fun w h => List.mem_append_right _ (List.mem_append_left _ h)
theorem zu_wsX20 : ∀ w ∈ wsX20, w ∈ ZW := fun w h => List.mem_append_right _ (List.mem_append_right _ (List.mem_append_left _ h))
theorem zu_wsX30 : ∀ w ∈ wsX30, w ∈ ZW := fun w h => List.mem_append_right _ (List.mem_append_right _ (List.mem_append_right _ (List.mem_append_left _ h)))
theorem zu_wsX40 : ∀ w ∈ wsX40, w ∈ ZW := fun w h => List.mem_append_right _ (List.mem_append_right _ (List.mem_append_right _ (List.mem_append_right _ (List.mem_append_left _ h))))
theorem zu_wsX50 : ∀ w ∈ wsX50, w ∈ ZW := fun w h => List.mem_append_right _ (List.mem_append_right _ (List.mem_append_right _ (List.mem_append_right _ (List.mem_append_right _ (List.mem_append_left _ h)))))
theorem zu_wsX60 : ∀ w ∈ wsX60, w ∈ ZW := fun w h => List.mem_append_right _ (List.mem_append_right _ (List.mem_append_right _ (List.mem_append_right _ (List.mem_append_right _ (List.mem_append_right _ (List.mem_append_left _ h))))))
theorem zu_wsX70 : ∀ w ∈ wsX70, w ∈ ZW := fun w h => List.mem_append_right _ (List.mem_append_right _ (List.mem_append_right _ (List.mem_append_right _ (List.mem_append_right _ (List.mem_append_right _ (List.mem_append_right _ (List.mem_append_left _ h)))))))
theorem zu_wsX90 : ∀ w ∈ wsX90, w ∈ ZW := fun w h => List.mem_append_right _ (List.mem_append_right _ (List.mem_append_right _ (List.mem_append_right _ (List.mem_append_right _ (List.mem_append_right _ (List.mem_append_right _ (List.mem_append_right _ (List.mem_append_left _ h))))))))
theorem zu_wsX100 : ∀ w ∈ wsX100, w ∈ ZW := fun w h => List.mem_append_right _ (List.mem_append_right _ (List.mem_append_right _ (List.mem_append_right _ (List.mem_append_right _ (List.mem_append_right _ (List.mem_append_right _ (List.mem_append_right _ (List.mem_append_right _ (List.mem_append_left _ h)))))))))
theorem zu_zx_0 : ∀ w ∈ zx_0, w ∈ ZW := fun w h => List.mem_append_right _ (List.mem_append_right _ (List.mem_append_right _ (List.mem_append_right _ (List.mem_append_right _ (List.mem_append_right _ (List.mem_append_right _ (List.mem_append_right _ (List.mem_append_right _ (List.mem_append_right _ (List.mem_append_left _ h))))))))))
theorem zu_zx_1 : ∀ w ∈ zx_1, w ∈ ZW := fun w h => List.mem_append_right _ (List.mem_append_right _ (List.mem_append_right _ (List.mem_append_right _ (List.mem_append_right _ (List.mem_append_right _ (List.mem_append_right _ (List.mem_append_right _ (List.mem_append_right _ (List.mem_append_right _ (List.mem_append_right _ (List.mem_append_left _ h)))))))))))
theorem zu_zx_2 : ∀ w ∈ zx_2, w ∈ ZW := fun w h => List.mem_append_right _ (List.mem_append_right _ (List.mem_append_right _ (List.mem_append_right _ (List.mem_append_right _ (List.mem_append_right _ (List.mem_append_right _ (List.mem_append_right _ (List.mem_append_right _ (List.mem_append_right _ (List.mem_append_right _ (List.mem_append_right _ (h))))))))))))
theorem zw_0 : Cond.code yX0_ofNote cX0_ofNote 4 (some .int) ∈ ZW := zs_0 _ (List.mem_of_getElem? (i := 0) rfl)
theorem zw_1 : Cond.code yX0_ofRest cX0_ofRest 1 (some .int) ∈ ZW := zs_0 _ (List.mem_of_getElem? (i := 1) rfl)
theorem zw_2 : Cond.code yX0_isNote cX0_isNote 1 (some .boolean) ∈ ZW := zs_0 _ (List.mem_of_getElem? (i := 2) rfl)
theorem zw_3 : Cond.code yX0_isTied cX0_isTied 1 (some .boolean) ∈ ZW := zs_0 _ (List.mem_of_getElem? (i := 3) rfl)
theorem zw_4 : Cond.code yX0_pitchOf cX0_pitchOf 1 (some .int) ∈ ZW := zs_0 _ (List.mem_of_getElem? (i := 4) rfl)
theorem zw_5 : Cond.methodLink RX0 9 yX0_pitchOf ∈ ZW := zs_0 _ (List.mem_of_getElem? (i := 5) rfl)
theorem zw_6 : Cond.static yX0_pitchOf ∈ ZW := zs_0 _ (List.mem_of_getElem? (i := 6) rfl)
theorem zw_7 : Cond.initialized RX0 ∈ ZW := zs_0 _ (List.mem_of_getElem? (i := 7) rfl)
theorem zw_8 : Cond.code yX0_octaveOf cX0_octaveOf 1 (some .int) ∈ ZW := zs_0 _ (List.mem_of_getElem? (i := 8) rfl)
theorem zw_9 : Cond.code yX0_stepOf cX0_stepOf 1 (some .int) ∈ ZW := zs_0 _ (List.mem_of_getElem? (i := 9) rfl)
theorem zw_10 : Cond.code yX0_signOf cX0_signOf 1 (some .int) ∈ ZW := zs_0 _ (List.mem_of_getElem? (i := 10) rfl)
theorem zw_11 : Cond.code yX0_durationOf cX0_durationOf 1 (some .int) ∈ ZW := zs_0 _ (List.mem_of_getElem? (i := 11) rfl)
theorem zw_12 : Cond.methodLink RX0 13 yX0_durationOf ∈ ZW := zs_0 _ (List.mem_of_getElem? (i := 12) rfl)
theorem zw_13 : Cond.static yX0_durationOf ∈ ZW := zs_0 _ (List.mem_of_getElem? (i := 13) rfl)
theorem zw_14 : Cond.code yX0_isDotted cX0_isDotted 1 (some .boolean) ∈ ZW := zs_0 _ (List.mem_of_getElem? (i := 14) rfl)
theorem zw_15 : Cond.code yX0_lengthOf cX0_lengthOf 1 (some .int) ∈ ZW := zs_0 _ (List.mem_of_getElem? (i := 15) rfl)
theorem zw_16 : Cond.code yX0_ticksOf cX0_ticksOf 3 (some .int) ∈ ZW := zs_0 _ (List.mem_of_getElem? (i := 16) rfl)
theorem zw_17 : Cond.methodLink RX0 16 yX0_isNote ∈ ZW := zs_0 _ (List.mem_of_getElem? (i := 17) rfl)
theorem zw_18 : Cond.static yX0_isNote ∈ ZW := zs_0 _ (List.mem_of_getElem? (i := 18) rfl)
theorem zw_19 : Cond.code yX0_samePitch cX0_samePitch 2 (some .boolean) ∈ ZW := zs_0 _ (List.mem_of_getElem? (i := 19) rfl)
theorem zw_20 : Cond.code yX4_init cX4_init 1 none ∈ ZW := zs_0 _ (List.mem_of_getElem? (i := 20) rfl)
theorem zw_21 : Cond.code yX1_init cX1_init 2 none ∈ ZW := zs_0 _ (List.mem_of_getElem? (i := 21) rfl)
theorem zw_22 : Cond.fieldLink RX1 16 "SpokenBars$History" "size" "I" ∈ ZW := zs_0 _ (List.mem_of_getElem? (i := 22) rfl)
theorem zw_23 : Cond.code yX1_size cX1_size 1 (some .int) ∈ ZW := zs_0 _ (List.mem_of_getElem? (i := 23) rfl)
theorem zw_24 : Cond.code yX4_copyFrom cX4_copyFrom 2 none ∈ ZW := zs_0 _ (List.mem_of_getElem? (i := 24) rfl)
theorem zw_25 : Cond.code yX1_push cX1_push 2 none ∈ ZW := zs_0 _ (List.mem_of_getElem? (i := 25) rfl)
theorem zw_26 : Cond.code yX1_popInto cX1_popInto 2 none ∈ ZW := zs_0 _ (List.mem_of_getElem? (i := 26) rfl)
theorem zw_27 : Cond.code yX2_init cX2_init 1 none ∈ ZW := zs_0 _ (List.mem_of_getElem? (i := 27) rfl)
theorem zw_28 : Cond.fieldLink RX2 15 "SpokenBars$Playing" "size" "I" ∈ ZW := zs_0 _ (List.mem_of_getElem? (i := 28) rfl)
theorem zw_29 : Cond.code yX2_size cX2_size 1 (some .int) ∈ ZW := zs_0 _ (List.mem_of_getElem? (i := 29) rfl)
theorem zw_30 : Cond.code yX2_at cX2_at 2 (some .int) ∈ ZW := zs_1 _ (List.mem_of_getElem? (i := 0) rfl)
theorem zw_31 : Cond.fieldLink RX4 13 "SpokenBars$Score" "size" "I" ∈ ZW := zs_1 _ (List.mem_of_getElem? (i := 1) rfl)
theorem zw_32 : Cond.code yX4_size cX4_size 1 (some .int) ∈ ZW := zs_1 _ (List.mem_of_getElem? (i := 2) rfl)
theorem zw_33 : Cond.code yX4_hasMeasure cX4_hasMeasure 2 (some .boolean) ∈ ZW := zs_1 _ (List.mem_of_getElem? (i := 3) rfl)
theorem zw_34 : Cond.code yX4_value cX4_value 3 (some .int) ∈ ZW := zs_1 _ (List.mem_of_getElem? (i := 4) rfl)
theorem zw_35 : Cond.code yX2_beginsAnew cX2_beginsAnew 2 (some .boolean) ∈ ZW := zs_1 _ (List.mem_of_getElem? (i := 5) rfl)
theorem zw_36 : Cond.code yX2_unroll cX2_unroll 10 none ∈ ZW := zs_1 _ (List.mem_of_getElem? (i := 6) rfl)
theorem zw_37 : Cond.code yX4_ticks cX4_ticks 3 (some .int) ∈ ZW := zs_1 _ (List.mem_of_getElem? (i := 7) rfl)
theorem zw_38 : Cond.code yX2_ticks cX2_ticks 4 (some .int) ∈ ZW := zs_1 _ (List.mem_of_getElem? (i := 8) rfl)
theorem zw_39 : Cond.code yX2_timesOf cX2_timesOf 4 (some .int) ∈ ZW := zs_1 _ (List.mem_of_getElem? (i := 9) rfl)
theorem zw_40 : Cond.methodLink RX4 40 yX4_value ∈ ZW := zs_1 _ (List.mem_of_getElem? (i := 10) rfl)
theorem zw_41 : Cond.code yX2_secondsOf cX2_secondsOf 5 (some .float) ∈ ZW := zs_1 _ (List.mem_of_getElem? (i := 11) rfl)
theorem zw_42 : Cond.methodLink RX2 34 yX4_ticks ∈ ZW := zs_1 _ (List.mem_of_getElem? (i := 12) rfl)
theorem zw_43 : Cond.instanceMethod yX4_ticks ∈ ZW := zs_1 _ (List.mem_of_getElem? (i := 13) rfl)
theorem zw_44 : Cond.selects RX4 yX4_ticks yX4_ticks ∈ ZW := zs_1 _ (List.mem_of_getElem? (i := 14) rfl)
theorem zw_45 : Cond.code yX2_secondsUpTo cX2_secondsUpTo 5 (some .float) ∈ ZW := zs_1 _ (List.mem_of_getElem? (i := 15) rfl)
theorem zw_46 : Cond.code yX2_placesBegunBy cX2_placesBegunBy 6 (some .int) ∈ ZW := zs_1 _ (List.mem_of_getElem? (i := 16) rfl)
theorem zw_47 : Cond.code yX3_init cX3_init 2 none ∈ ZW := zs_1 _ (List.mem_of_getElem? (i := 17) rfl)
theorem zw_48 : Cond.fieldLink RX3 12 "SpokenBars$Reader" "draft" "LSpokenBars$Score;" ∈ ZW := zs_1 _ (List.mem_of_getElem? (i := 18) rfl)
theorem zw_49 : Cond.code yX3_draft cX3_draft 1 (some (.object "SpokenBars$Score")) ∈ ZW := zs_1 _ (List.mem_of_getElem? (i := 19) rfl)
theorem zw_50 : Cond.code yX4_isFull cX4_isFull 1 (some .boolean) ∈ ZW := zs_1 _ (List.mem_of_getElem? (i := 20) rfl)
theorem zw_51 : Cond.code yJ7_rangeCheck_23922 cJ7_rangeCheck_23922 3 none ∈ ZW := zs_1 _ (List.mem_of_getElem? (i := 21) rfl)
theorem zw_52 : Cond.methodLink RJ7 13 yJ7_rangeCheck_23922 ∈ ZW := zs_1 _ (List.mem_of_getElem? (i := 22) rfl)
theorem zw_53 : Cond.static yJ7_rangeCheck_23922 ∈ ZW := zs_1 _ (List.mem_of_getElem? (i := 23) rfl)
theorem zw_54 : Cond.initialized RJ7 ∈ ZW := zs_1 _ (List.mem_of_getElem? (i := 24) rfl)
theorem zw_55 : Cond.code yJ7_fill_fda19 cJ7_fill_fda19 5 none ∈ ZW := zs_1 _ (List.mem_of_getElem? (i := 25) rfl)
theorem zw_56 : Cond.code yX4_putValue cX4_putValue 4 none ∈ ZW := zs_1 _ (List.mem_of_getElem? (i := 26) rfl)
theorem zw_57 : Cond.methodLink RX4 24 yX4_hasMeasure ∈ ZW := zs_1 _ (List.mem_of_getElem? (i := 27) rfl)
theorem zw_58 : Cond.instanceMethod yX4_hasMeasure ∈ ZW := zs_1 _ (List.mem_of_getElem? (i := 28) rfl)
theorem zw_59 : Cond.selects RX4 yX4_hasMeasure yX4_hasMeasure ∈ ZW := zs_1 _ (List.mem_of_getElem? (i := 29) rfl)
theorem zw_60 : Cond.methodLink RX4 43 yX4_putValue ∈ ZW := zs_2 _ (List.mem_of_getElem? (i := 0) rfl)
theorem zw_61 : Cond.instanceMethod yX4_putValue ∈ ZW := zs_2 _ (List.mem_of_getElem? (i := 1) rfl)
theorem zw_62 : Cond.selects RX4 yX4_putValue yX4_putValue ∈ ZW := zs_2 _ (List.mem_of_getElem? (i := 2) rfl)
theorem zw_63 : Cond.code yX4_appendMeasure cX4_appendMeasure 3 none ∈ ZW := zs_2 _ (List.mem_of_getElem? (i := 3) rfl)
theorem zw_64 : Cond.instanceMethod yX4_value ∈ ZW := zs_2 _ (List.mem_of_getElem? (i := 4) rfl)
theorem zw_65 : Cond.selects RX4 yX4_value yX4_value ∈ ZW := zs_2 _ (List.mem_of_getElem? (i := 5) rfl)
theorem zw_66 : Cond.code yX4_becomeDraft cX4_becomeDraft 2 none ∈ ZW := zs_2 _ (List.mem_of_getElem? (i := 6) rfl)
theorem zw_67 : Cond.fieldLink RX7 13 "SpokenBars$Text" "length" "I" ∈ ZW := zs_2 _ (List.mem_of_getElem? (i := 7) rfl)
theorem zw_68 : Cond.code yX7_length cX7_length 1 (some .int) ∈ ZW := zs_2 _ (List.mem_of_getElem? (i := 8) rfl)
theorem zw_69 : Cond.code yX7_at cX7_at 2 (some .int) ∈ ZW := zs_2 _ (List.mem_of_getElem? (i := 9) rfl)
theorem zw_70 : Cond.code yX3_advance cX3_advance 1 none ∈ ZW := zs_2 _ (List.mem_of_getElem? (i := 10) rfl)
theorem zw_71 : Cond.fieldLink RJ0 38 "java/lang/String" "COMPACT_STRINGS" "Z" ∈ ZW := zs_2 _ (List.mem_of_getElem? (i := 11) rfl)
theorem zw_72 : Cond.fieldLink RJ0 15 "java/lang/String" "coder" "B" ∈ ZW := zs_2 _ (List.mem_of_getElem? (i := 12) rfl)
theorem zw_73 : Cond.code yJ0_coder_7d493 cJ0_coder_7d493 1 (some .byte) ∈ ZW := zs_2 _ (List.mem_of_getElem? (i := 13) rfl)
theorem zw_74 : Cond.code yJ0_length_8abf5 cJ0_length_8abf5 1 (some .int) ∈ ZW := zs_2 _ (List.mem_of_getElem? (i := 14) rfl)
theorem zw_75 : Cond.code yJ0_isLatin1_aae02 cJ0_isLatin1_aae02 1 (some .boolean) ∈ ZW := zs_2 _ (List.mem_of_getElem? (i := 15) rfl)
theorem zw_76 : Cond.fieldLink RJ0 1053 "jdk/internal/util/Preconditions" "SIOOBE_FORMATTER" "Ljava/util/function/BiFunction;" ∈ ZW := zs_2 _ (List.mem_of_getElem? (i := 16) rfl)
theorem zw_77 : Cond.initialized RJ0 ∈ ZW := zs_2 _ (List.mem_of_getElem? (i := 17) rfl)
theorem zw_78 : Cond.code yJ1_charAt_3b067 cJ1_charAt_3b067 2 (some .char) ∈ ZW := zs_2 _ (List.mem_of_getElem? (i := 18) rfl)
theorem zw_79 : Cond.code yJ0_charAt_5068e cJ0_charAt_5068e 2 (some .char) ∈ ZW := zs_2 _ (List.mem_of_getElem? (i := 19) rfl)
theorem zw_80 : Cond.selects RJ0 yJ0_charAt_5068e yJ0_charAt_5068e ∈ ZW := zs_2 _ (List.mem_of_getElem? (i := 20) rfl)
theorem zw_81 : Cond.methodLink RJ0 492 yJ0_isLatin1_aae02 ∈ ZW := zs_2 _ (List.mem_of_getElem? (i := 21) rfl)
theorem zw_82 : Cond.instanceMethod yJ0_isLatin1_aae02 ∈ ZW := zs_2 _ (List.mem_of_getElem? (i := 22) rfl)
theorem zw_83 : Cond.selects RJ0 yJ0_isLatin1_aae02 yJ0_isLatin1_aae02 ∈ ZW := zs_2 _ (List.mem_of_getElem? (i := 23) rfl)
theorem zw_84 : Cond.methodLink RJ0 495 yJ1_charAt_3b067 ∈ ZW := zs_2 _ (List.mem_of_getElem? (i := 24) rfl)
theorem zw_85 : Cond.static yJ1_charAt_3b067 ∈ ZW := zs_2 _ (List.mem_of_getElem? (i := 25) rfl)
theorem zw_86 : Cond.initialized RJ1 ∈ ZW := zs_2 _ (List.mem_of_getElem? (i := 26) rfl)
theorem zw_87 : Cond.code yX3_isWord cX3_isWord 3 (some .boolean) ∈ ZW := zs_2 _ (List.mem_of_getElem? (i := 27) rfl)
theorem zw_88 : Cond.methodLink RX3 32 yX3_advance ∈ ZW := zs_2 _ (List.mem_of_getElem? (i := 28) rfl)
theorem zw_89 : Cond.instanceMethod yX3_advance ∈ ZW := zs_2 _ (List.mem_of_getElem? (i := 29) rfl)
theorem zw_90 : Cond.selects RX3 yX3_advance yX3_advance ∈ ZW := zs_3 _ (List.mem_of_getElem? (i := 0) rfl)
theorem zw_91 : Cond.methodLink RX3 147 yX7_length ∈ ZW := zs_3 _ (List.mem_of_getElem? (i := 1) rfl)
theorem zw_92 : Cond.instanceMethod yX7_length ∈ ZW := zs_3 _ (List.mem_of_getElem? (i := 2) rfl)
theorem zw_93 : Cond.selects RX7 yX7_length yX7_length ∈ ZW := zs_3 _ (List.mem_of_getElem? (i := 3) rfl)
theorem zw_94 : Cond.code yX3_takeWord cX3_takeWord 3 (some .boolean) ∈ ZW := zs_3 _ (List.mem_of_getElem? (i := 4) rfl)
theorem zw_95 : Cond.fieldLink RX3 25 "SpokenBars$Reader" "failedAt" "I" ∈ ZW := zs_3 _ (List.mem_of_getElem? (i := 5) rfl)
theorem zw_96 : Cond.fieldLink RX3 66 "SpokenBars$Reader" "from" "I" ∈ ZW := zs_3 _ (List.mem_of_getElem? (i := 6) rfl)
theorem zw_97 : Cond.code yX3_fail cX3_fail 1 none ∈ ZW := zs_3 _ (List.mem_of_getElem? (i := 7) rfl)
theorem zw_98 : Cond.methodLink RX3 69 yX3_fail ∈ ZW := zs_3 _ (List.mem_of_getElem? (i := 8) rfl)
theorem zw_99 : Cond.instanceMethod yX3_fail ∈ ZW := zs_3 _ (List.mem_of_getElem? (i := 9) rfl)
theorem zw_100 : Cond.selects RX3 yX3_fail yX3_fail ∈ ZW := zs_3 _ (List.mem_of_getElem? (i := 10) rfl)
theorem zw_101 : Cond.code yX3_needWord cX3_needWord 2 none ∈ ZW := zs_3 _ (List.mem_of_getElem? (i := 11) rfl)
theorem zw_102 : Cond.code yX3_number cX3_number 4 (some .int) ∈ ZW := zs_3 _ (List.mem_of_getElem? (i := 12) rfl)
theorem zw_103 : Cond.code yX3_takeNumber cX3_takeNumber 4 (some .int) ∈ ZW := zs_3 _ (List.mem_of_getElem? (i := 13) rfl)
theorem zw_104 : Cond.methodLink RX3 46 yX3_takeNumber ∈ ZW := zs_3 _ (List.mem_of_getElem? (i := 14) rfl)
theorem zw_105 : Cond.instanceMethod yX3_takeNumber ∈ ZW := zs_3 _ (List.mem_of_getElem? (i := 15) rfl)
theorem zw_106 : Cond.selects RX3 yX3_takeNumber yX3_takeNumber ∈ ZW := zs_3 _ (List.mem_of_getElem? (i := 16) rfl)
theorem zw_107 : Cond.methodLink RX3 95 yX3_number ∈ ZW := zs_3 _ (List.mem_of_getElem? (i := 17) rfl)
theorem zw_108 : Cond.instanceMethod yX3_number ∈ ZW := zs_3 _ (List.mem_of_getElem? (i := 18) rfl)
theorem zw_109 : Cond.selects RX3 yX3_number yX3_number ∈ ZW := zs_3 _ (List.mem_of_getElem? (i := 19) rfl)
theorem zw_110 : Cond.methodLink RX3 62 yX3_needWord ∈ ZW := zs_3 _ (List.mem_of_getElem? (i := 20) rfl)
theorem zw_111 : Cond.instanceMethod yX3_needWord ∈ ZW := zs_3 _ (List.mem_of_getElem? (i := 21) rfl)
theorem zw_112 : Cond.selects RX3 yX3_needWord yX3_needWord ∈ ZW := zs_3 _ (List.mem_of_getElem? (i := 22) rfl)
theorem zw_113 : Cond.code yX3_readKey cX3_readKey 2 (some .int) ∈ ZW := zs_3 _ (List.mem_of_getElem? (i := 23) rfl)
theorem zw_114 : Cond.code yX4_canHold cX4_canHold 2 (some .boolean) ∈ ZW := zs_3 _ (List.mem_of_getElem? (i := 24) rfl)
theorem zw_115 : Cond.code yX3_readLower cX3_readLower 1 (some .int) ∈ ZW := zs_3 _ (List.mem_of_getElem? (i := 25) rfl)
theorem zw_116 : Cond.methodLink RX3 56 yX4_putValue ∈ ZW := zs_3 _ (List.mem_of_getElem? (i := 26) rfl)
theorem zw_117 : Cond.code yX3_readHead cX3_readHead 1 none ∈ ZW := zs_3 _ (List.mem_of_getElem? (i := 27) rfl)
theorem zw_118 : Cond.code yJ1_canEncode_9a6ad cJ1_canEncode_9a6ad 1 (some .boolean) ∈ ZW := zs_3 _ (List.mem_of_getElem? (i := 28) rfl)
theorem zw_119 : Cond.code yJ1_indexOfChar_4cfef cJ1_indexOfChar_4cfef 6 (some .int) ∈ ZW := zs_3 _ (List.mem_of_getElem? (i := 29) rfl)
theorem zw_120 : Cond.methodLink RJ1 92 Lib.Math.max.name ∈ ZW := zs_4 _ (List.mem_of_getElem? (i := 0) rfl)
theorem zw_121 : Cond.static Lib.Math.max.name ∈ ZW := zs_4 _ (List.mem_of_getElem? (i := 1) rfl)
theorem zw_122 : Cond.initialized "java/lang/Math" ∈ ZW := zs_4 _ (List.mem_of_getElem? (i := 2) rfl)
theorem zw_123 : Cond.code Lib.Math.max.name Lib.Math.max.code 2 (some .int) ∈ ZW := zs_4 _ (List.mem_of_getElem? (i := 3) rfl)
theorem zw_124 : Cond.methodLink RJ1 38 Lib.Math.min.name ∈ ZW := zs_4 _ (List.mem_of_getElem? (i := 4) rfl)
theorem zw_125 : Cond.static Lib.Math.min.name ∈ ZW := zs_4 _ (List.mem_of_getElem? (i := 5) rfl)
theorem zw_126 : Cond.code Lib.Math.min.name Lib.Math.min.code 2 (some .int) ∈ ZW := zs_4 _ (List.mem_of_getElem? (i := 6) rfl)
theorem zw_127 : Cond.methodLink RJ1 88 yJ1_canEncode_9a6ad ∈ ZW := zs_4 _ (List.mem_of_getElem? (i := 7) rfl)
theorem zw_128 : Cond.static yJ1_canEncode_9a6ad ∈ ZW := zs_4 _ (List.mem_of_getElem? (i := 8) rfl)
theorem zw_129 : Cond.methodLink RJ1 95 yJ1_indexOfChar_4cfef ∈ ZW := zs_4 _ (List.mem_of_getElem? (i := 9) rfl)
theorem zw_130 : Cond.static yJ1_indexOfChar_4cfef ∈ ZW := zs_4 _ (List.mem_of_getElem? (i := 10) rfl)
theorem zw_131 : Cond.code yJ1_indexOf_4cfef cJ1_indexOf_4cfef 4 (some .int) ∈ ZW := zs_4 _ (List.mem_of_getElem? (i := 11) rfl)
theorem zw_132 : Cond.code yJ0_indexOf_7cf53 cJ0_indexOf_7cf53 3 (some .int) ∈ ZW := zs_4 _ (List.mem_of_getElem? (i := 12) rfl)
theorem zw_133 : Cond.code yJ0_indexOf_0f7a4 cJ0_indexOf_0f7a4 2 (some .int) ∈ ZW := zs_4 _ (List.mem_of_getElem? (i := 13) rfl)
theorem zw_134 : Cond.methodLink RJ0 505 yJ0_length_8abf5 ∈ ZW := zs_4 _ (List.mem_of_getElem? (i := 14) rfl)
theorem zw_135 : Cond.instanceMethod yJ0_length_8abf5 ∈ ZW := zs_4 _ (List.mem_of_getElem? (i := 15) rfl)
theorem zw_136 : Cond.selects RJ0 yJ0_length_8abf5 yJ0_length_8abf5 ∈ ZW := zs_4 _ (List.mem_of_getElem? (i := 16) rfl)
theorem zw_137 : Cond.methodLink RJ0 335 yJ0_coder_7d493 ∈ ZW := zs_4 _ (List.mem_of_getElem? (i := 17) rfl)
theorem zw_138 : Cond.instanceMethod yJ0_coder_7d493 ∈ ZW := zs_4 _ (List.mem_of_getElem? (i := 18) rfl)
theorem zw_139 : Cond.selects RJ0 yJ0_coder_7d493 yJ0_coder_7d493 ∈ ZW := zs_4 _ (List.mem_of_getElem? (i := 19) rfl)
theorem zw_140 : Cond.methodLink RJ0 637 yJ1_indexOf_4cfef ∈ ZW := zs_4 _ (List.mem_of_getElem? (i := 20) rfl)
theorem zw_141 : Cond.static yJ1_indexOf_4cfef ∈ ZW := zs_4 _ (List.mem_of_getElem? (i := 21) rfl)
theorem zw_142 : Cond.code yX3_step cX3_step 1 (some .int) ∈ ZW := zs_4 _ (List.mem_of_getElem? (i := 22) rfl)
theorem zw_143 : Cond.methodLink RX3 114 yX3_isWord ∈ ZW := zs_4 _ (List.mem_of_getElem? (i := 23) rfl)
theorem zw_144 : Cond.instanceMethod yX3_isWord ∈ ZW := zs_4 _ (List.mem_of_getElem? (i := 24) rfl)
theorem zw_145 : Cond.selects RX3 yX3_isWord yX3_isWord ∈ ZW := zs_4 _ (List.mem_of_getElem? (i := 25) rfl)
theorem zw_146 : Cond.methodLink RX3 155 yJ0_length_8abf5 ∈ ZW := zs_4 _ (List.mem_of_getElem? (i := 26) rfl)
theorem zw_147 : Cond.methodLink RX3 158 yJ0_charAt_5068e ∈ ZW := zs_4 _ (List.mem_of_getElem? (i := 27) rfl)
theorem zw_148 : Cond.instanceMethod yJ0_charAt_5068e ∈ ZW := zs_4 _ (List.mem_of_getElem? (i := 28) rfl)
theorem zw_149 : Cond.code yX3_beginsEvent cX3_beginsEvent 1 (some .boolean) ∈ ZW := zs_4 _ (List.mem_of_getElem? (i := 29) rfl)
theorem zw_150 : Cond.code yX8_ofLength cX8_ofLength 1 (some (.object "java/lang/String")) ∈ ZW := zs_5 _ (List.mem_of_getElem? (i := 0) rfl)
theorem zw_151 : Cond.methodLink RX3 144 yX8_ofLength ∈ ZW := zs_5 _ (List.mem_of_getElem? (i := 1) rfl)
theorem zw_152 : Cond.static yX8_ofLength ∈ ZW := zs_5 _ (List.mem_of_getElem? (i := 2) rfl)
theorem zw_153 : Cond.initialized RX8 ∈ ZW := zs_5 _ (List.mem_of_getElem? (i := 3) rfl)
theorem zw_154 : Cond.code yX3_readDuration cX3_readDuration 3 (some .int) ∈ ZW := zs_5 _ (List.mem_of_getElem? (i := 4) rfl)
theorem zw_155 : Cond.code yX4_voiceCell cX4_voiceCell 4 (some .int) ∈ ZW := zs_5 _ (List.mem_of_getElem? (i := 5) rfl)
theorem zw_156 : Cond.code yX4_appendEvent cX4_appendEvent 5 none ∈ ZW := zs_5 _ (List.mem_of_getElem? (i := 6) rfl)
theorem zw_157 : Cond.code yX8_ofSign cX8_ofSign 1 (some (.object "java/lang/String")) ∈ ZW := zs_5 _ (List.mem_of_getElem? (i := 7) rfl)
theorem zw_158 : Cond.code yX3_readSign cX3_readSign 2 (some .int) ∈ ZW := zs_5 _ (List.mem_of_getElem? (i := 8) rfl)
theorem zw_159 : Cond.methodLink RX3 117 yX3_readDuration ∈ ZW := zs_5 _ (List.mem_of_getElem? (i := 9) rfl)
theorem zw_160 : Cond.instanceMethod yX3_readDuration ∈ ZW := zs_5 _ (List.mem_of_getElem? (i := 10) rfl)
theorem zw_161 : Cond.selects RX3 yX3_readDuration yX3_readDuration ∈ ZW := zs_5 _ (List.mem_of_getElem? (i := 11) rfl)
theorem zw_162 : Cond.methodLink RX3 42 yX3_takeWord ∈ ZW := zs_5 _ (List.mem_of_getElem? (i := 12) rfl)
theorem zw_163 : Cond.instanceMethod yX3_takeWord ∈ ZW := zs_5 _ (List.mem_of_getElem? (i := 13) rfl)
theorem zw_164 : Cond.selects RX3 yX3_takeWord yX3_takeWord ∈ ZW := zs_5 _ (List.mem_of_getElem? (i := 14) rfl)
theorem zw_165 : Cond.methodLink RX3 120 yX0_ofRest ∈ ZW := zs_5 _ (List.mem_of_getElem? (i := 15) rfl)
theorem zw_166 : Cond.static yX0_ofRest ∈ ZW := zs_5 _ (List.mem_of_getElem? (i := 16) rfl)
theorem zw_167 : Cond.methodLink RX3 126 yX4_appendEvent ∈ ZW := zs_5 _ (List.mem_of_getElem? (i := 17) rfl)
theorem zw_168 : Cond.instanceMethod yX4_appendEvent ∈ ZW := zs_5 _ (List.mem_of_getElem? (i := 18) rfl)
theorem zw_169 : Cond.selects RX4 yX4_appendEvent yX4_appendEvent ∈ ZW := zs_5 _ (List.mem_of_getElem? (i := 19) rfl)
theorem zw_170 : Cond.initialized RX4 ∈ ZW := zs_5 _ (List.mem_of_getElem? (i := 20) rfl)
theorem zw_171 : Cond.code yX3_readEvent cX3_readEvent 6 none ∈ ZW := zs_5 _ (List.mem_of_getElem? (i := 21) rfl)
theorem zw_172 : Cond.methodLink RX3 102 yX3_readEvent ∈ ZW := zs_5 _ (List.mem_of_getElem? (i := 22) rfl)
theorem zw_173 : Cond.instanceMethod yX3_readEvent ∈ ZW := zs_5 _ (List.mem_of_getElem? (i := 23) rfl)
theorem zw_174 : Cond.selects RX3 yX3_readEvent yX3_readEvent ∈ ZW := zs_5 _ (List.mem_of_getElem? (i := 24) rfl)
theorem zw_175 : Cond.initialized RX3 ∈ ZW := zs_5 _ (List.mem_of_getElem? (i := 25) rfl)
theorem zw_176 : Cond.methodLink RX3 105 yX3_beginsEvent ∈ ZW := zs_5 _ (List.mem_of_getElem? (i := 26) rfl)
theorem zw_177 : Cond.instanceMethod yX3_beginsEvent ∈ ZW := zs_5 _ (List.mem_of_getElem? (i := 27) rfl)
theorem zw_178 : Cond.selects RX3 yX3_beginsEvent yX3_beginsEvent ∈ ZW := zs_5 _ (List.mem_of_getElem? (i := 28) rfl)
theorem zw_179 : Cond.methodLink RX3 109 yX3_step ∈ ZW := zs_5 _ (List.mem_of_getElem? (i := 29) rfl)
theorem zw_180 : Cond.instanceMethod yX3_step ∈ ZW := zs_6 _ (List.mem_of_getElem? (i := 0) rfl)
theorem zw_181 : Cond.selects RX3 yX3_step yX3_step ∈ ZW := zs_6 _ (List.mem_of_getElem? (i := 1) rfl)
theorem zw_182 : Cond.fieldLink RX3 29 "SpokenBars$Reader" "to" "I" ∈ ZW := zs_6 _ (List.mem_of_getElem? (i := 2) rfl)
theorem zw_183 : Cond.fieldLink RX3 18 "SpokenBars$Reader" "text" "LSpokenBars$Text;" ∈ ZW := zs_6 _ (List.mem_of_getElem? (i := 3) rfl)
theorem zw_184 : Cond.methodLink RX3 152 yX7_at ∈ ZW := zs_6 _ (List.mem_of_getElem? (i := 4) rfl)
theorem zw_185 : Cond.instanceMethod yX7_at ∈ ZW := zs_6 _ (List.mem_of_getElem? (i := 5) rfl)
theorem zw_186 : Cond.selects RX7 yX7_at yX7_at ∈ ZW := zs_6 _ (List.mem_of_getElem? (i := 6) rfl)
theorem zw_187 : Cond.initialized RX7 ∈ ZW := zs_6 _ (List.mem_of_getElem? (i := 7) rfl)
theorem zw_188 : Cond.methodLink RX3 134 yX0_ofNote ∈ ZW := zs_6 _ (List.mem_of_getElem? (i := 8) rfl)
theorem zw_189 : Cond.static yX0_ofNote ∈ ZW := zs_6 _ (List.mem_of_getElem? (i := 9) rfl)
theorem zw_190 : Cond.code yX3_readEvents cX3_readEvents 3 none ∈ ZW := zs_6 _ (List.mem_of_getElem? (i := 10) rfl)
theorem zw_191 : Cond.methodLink RX3 80 yX3_readKey ∈ ZW := zs_6 _ (List.mem_of_getElem? (i := 11) rfl)
theorem zw_192 : Cond.instanceMethod yX3_readKey ∈ ZW := zs_6 _ (List.mem_of_getElem? (i := 12) rfl)
theorem zw_193 : Cond.selects RX3 yX3_readKey yX3_readKey ∈ ZW := zs_6 _ (List.mem_of_getElem? (i := 13) rfl)
theorem zw_194 : Cond.methodLink RX3 86 yX3_readLower ∈ ZW := zs_6 _ (List.mem_of_getElem? (i := 14) rfl)
theorem zw_195 : Cond.instanceMethod yX3_readLower ∈ ZW := zs_6 _ (List.mem_of_getElem? (i := 15) rfl)
theorem zw_196 : Cond.selects RX3 yX3_readLower yX3_readLower ∈ ZW := zs_6 _ (List.mem_of_getElem? (i := 16) rfl)
theorem zw_197 : Cond.methodLink RX3 98 yX4_canHold ∈ ZW := zs_6 _ (List.mem_of_getElem? (i := 17) rfl)
theorem zw_198 : Cond.static yX4_canHold ∈ ZW := zs_6 _ (List.mem_of_getElem? (i := 18) rfl)
theorem zw_199 : Cond.methodLink RX3 50 yX3_readEvents ∈ ZW := zs_6 _ (List.mem_of_getElem? (i := 19) rfl)
theorem zw_200 : Cond.instanceMethod yX3_readEvents ∈ ZW := zs_6 _ (List.mem_of_getElem? (i := 20) rfl)
theorem zw_201 : Cond.selects RX3 yX3_readEvents yX3_readEvents ∈ ZW := zs_6 _ (List.mem_of_getElem? (i := 21) rfl)
theorem zw_202 : Cond.methodLink RX3 164 yJ0_indexOf_0f7a4 ∈ ZW := zs_6 _ (List.mem_of_getElem? (i := 22) rfl)
theorem zw_203 : Cond.instanceMethod yJ0_indexOf_0f7a4 ∈ ZW := zs_6 _ (List.mem_of_getElem? (i := 23) rfl)
theorem zw_204 : Cond.selects RJ0 yJ0_indexOf_0f7a4 yJ0_indexOf_0f7a4 ∈ ZW := zs_6 _ (List.mem_of_getElem? (i := 24) rfl)
theorem zw_205 : Cond.methodLink RJ0 633 yJ0_indexOf_7cf53 ∈ ZW := zs_6 _ (List.mem_of_getElem? (i := 25) rfl)
theorem zw_206 : Cond.instanceMethod yJ0_indexOf_7cf53 ∈ ZW := zs_6 _ (List.mem_of_getElem? (i := 26) rfl)
theorem zw_207 : Cond.selects RJ0 yJ0_indexOf_7cf53 yJ0_indexOf_7cf53 ∈ ZW := zs_6 _ (List.mem_of_getElem? (i := 27) rfl)
theorem zw_208 : Cond.methodLink RX4 17 yX4_voiceCell ∈ ZW := zs_6 _ (List.mem_of_getElem? (i := 28) rfl)
theorem zw_209 : Cond.instanceMethod yX4_voiceCell ∈ ZW := zs_6 _ (List.mem_of_getElem? (i := 29) rfl)
theorem zw_210 : Cond.selects RX4 yX4_voiceCell yX4_voiceCell ∈ ZW := zs_7 _ (List.mem_of_getElem? (i := 0) rfl)
theorem zw_211 : Cond.methodLink RX3 129 yX3_readSign ∈ ZW := zs_7 _ (List.mem_of_getElem? (i := 1) rfl)
theorem zw_212 : Cond.instanceMethod yX3_readSign ∈ ZW := zs_7 _ (List.mem_of_getElem? (i := 2) rfl)
theorem zw_213 : Cond.selects RX3 yX3_readSign yX3_readSign ∈ ZW := zs_7 _ (List.mem_of_getElem? (i := 3) rfl)
theorem zw_214 : Cond.methodLink RX3 138 yX8_ofSign ∈ ZW := zs_7 _ (List.mem_of_getElem? (i := 4) rfl)
theorem zw_215 : Cond.static yX8_ofSign ∈ ZW := zs_7 _ (List.mem_of_getElem? (i := 5) rfl)
theorem zw_216 : Cond.code yX3_findFault cX3_findFault 2 (some .int) ∈ ZW := zs_7 _ (List.mem_of_getElem? (i := 6) rfl)
theorem zw_217 : Cond.code yX4_hasVoice cX4_hasVoice 3 (some .boolean) ∈ ZW := zs_7 _ (List.mem_of_getElem? (i := 7) rfl)
theorem zw_218 : Cond.code yX4_count cX4_count 4 (some .int) ∈ ZW := zs_7 _ (List.mem_of_getElem? (i := 8) rfl)
theorem zw_219 : Cond.code yX4_hasEvent cX4_hasEvent 4 (some .boolean) ∈ ZW := zs_7 _ (List.mem_of_getElem? (i := 9) rfl)
theorem zw_220 : Cond.code yX4_code cX4_code 5 (some .int) ∈ ZW := zs_7 _ (List.mem_of_getElem? (i := 10) rfl)
theorem zw_221 : Cond.code yX4_dropMeasure cX4_dropMeasure 3 none ∈ ZW := zs_7 _ (List.mem_of_getElem? (i := 11) rfl)
theorem zw_222 : Cond.code yX4_dropEvent cX4_dropEvent 6 none ∈ ZW := zs_7 _ (List.mem_of_getElem? (i := 12) rfl)
theorem zw_223 : Cond.code yX4_begin cX4_begin 6 (some .int) ∈ ZW := zs_7 _ (List.mem_of_getElem? (i := 13) rfl)
theorem zw_224 : Cond.code yX4_voiceTicks cX4_voiceTicks 3 (some .int) ∈ ZW := zs_7 _ (List.mem_of_getElem? (i := 14) rfl)
theorem zw_225 : Cond.static yX0_ticksOf ∈ ZW := zs_7 _ (List.mem_of_getElem? (i := 15) rfl)
theorem zw_226 : Cond.methodLink RX4 67 yX4_ticks ∈ ZW := zs_7 _ (List.mem_of_getElem? (i := 16) rfl)
theorem zw_227 : Cond.code yX4_unevenVoices cX4_unevenVoices 5 (some .int) ∈ ZW := zs_7 _ (List.mem_of_getElem? (i := 17) rfl)
theorem zw_228 : Cond.code yX4_codeBefore cX4_codeBefore 4 (some .int) ∈ ZW := zs_7 _ (List.mem_of_getElem? (i := 18) rfl)
theorem zw_229 : Cond.code yX4_codeAfter cX4_codeAfter 4 (some .int) ∈ ZW := zs_7 _ (List.mem_of_getElem? (i := 19) rfl)
theorem zw_230 : Cond.static yX0_samePitch ∈ ZW := zs_7 _ (List.mem_of_getElem? (i := 20) rfl)
theorem zw_231 : Cond.code yX4_isHeldTie cX4_isHeldTie 5 (some .boolean) ∈ ZW := zs_7 _ (List.mem_of_getElem? (i := 21) rfl)
theorem zw_232 : Cond.code yX4_takeDraft cX4_takeDraft 6 none ∈ ZW := zs_7 _ (List.mem_of_getElem? (i := 22) rfl)
theorem zw_233 : Cond.code yX4_hasVoiceOf cX4_hasVoiceOf 5 (some .boolean) ∈ ZW := zs_7 _ (List.mem_of_getElem? (i := 23) rfl)
theorem zw_234 : Cond.instanceMethod yX4_code ∈ ZW := zs_7 _ (List.mem_of_getElem? (i := 24) rfl)
theorem zw_235 : Cond.selects RX4 yX4_code yX4_code ∈ ZW := zs_7 _ (List.mem_of_getElem? (i := 25) rfl)
theorem zw_236 : Cond.code yX4_agreesWith cX4_agreesWith 5 (some .boolean) ∈ ZW := zs_7 _ (List.mem_of_getElem? (i := 26) rfl)
theorem zw_237 : Cond.code yX5_init cX5_init 1 none ∈ ZW := zs_7 _ (List.mem_of_getElem? (i := 27) rfl)
theorem zw_238 : Cond.fieldLink RX5 13 "SpokenBars$Sentence" "length" "I" ∈ ZW := zs_7 _ (List.mem_of_getElem? (i := 28) rfl)
theorem zw_239 : Cond.code yX5_length cX5_length 1 (some .int) ∈ ZW := zs_7 _ (List.mem_of_getElem? (i := 29) rfl)
theorem zw_240 : Cond.fieldLink RX5 17 "SpokenBars$Sentence" "wordCount" "I" ∈ ZW := zs_8 _ (List.mem_of_getElem? (i := 0) rfl)
theorem zw_241 : Cond.code yX5_wordCount cX5_wordCount 1 (some .int) ∈ ZW := zs_8 _ (List.mem_of_getElem? (i := 1) rfl)
theorem zw_242 : Cond.code yX5_at cX5_at 2 (some .int) ∈ ZW := zs_8 _ (List.mem_of_getElem? (i := 2) rfl)
theorem zw_243 : Cond.code yX5_put cX5_put 2 none ∈ ZW := zs_8 _ (List.mem_of_getElem? (i := 3) rfl)
theorem zw_244 : Cond.code yX5_beginWord cX5_beginWord 1 none ∈ ZW := zs_8 _ (List.mem_of_getElem? (i := 4) rfl)
theorem zw_245 : Cond.methodLink RX5 141 yJ0_charAt_5068e ∈ ZW := zs_8 _ (List.mem_of_getElem? (i := 5) rfl)
theorem zw_246 : Cond.code yX5_tellWord cX5_tellWord 3 none ∈ ZW := zs_8 _ (List.mem_of_getElem? (i := 6) rfl)
theorem zw_247 : Cond.code yX5_tellNumber cX5_tellNumber 2 none ∈ ZW := zs_8 _ (List.mem_of_getElem? (i := 7) rfl)
theorem zw_248 : Cond.methodLink RX5 52 yX5_tellNumber ∈ ZW := zs_8 _ (List.mem_of_getElem? (i := 8) rfl)
theorem zw_249 : Cond.instanceMethod yX5_tellNumber ∈ ZW := zs_8 _ (List.mem_of_getElem? (i := 9) rfl)
theorem zw_250 : Cond.selects RX5 yX5_tellNumber yX5_tellNumber ∈ ZW := zs_8 _ (List.mem_of_getElem? (i := 10) rfl)
theorem zw_251 : Cond.code yX5_tellNumbered cX5_tellNumbered 3 none ∈ ZW := zs_8 _ (List.mem_of_getElem? (i := 11) rfl)
theorem zw_252 : Cond.code yX5_differsFromBefore cX5_differsFromBefore 3 (some .boolean) ∈ ZW := zs_8 _ (List.mem_of_getElem? (i := 12) rfl)
theorem zw_253 : Cond.code yX5_tellKey cX5_tellKey 2 none ∈ ZW := zs_8 _ (List.mem_of_getElem? (i := 13) rfl)
theorem zw_254 : Cond.code yX8_letterOf cX8_letterOf 1 (some .char) ∈ ZW := zs_8 _ (List.mem_of_getElem? (i := 14) rfl)
theorem zw_255 : Cond.methodLink RX5 108 yX0_signOf ∈ ZW := zs_8 _ (List.mem_of_getElem? (i := 15) rfl)
theorem zw_256 : Cond.static yX0_signOf ∈ ZW := zs_8 _ (List.mem_of_getElem? (i := 16) rfl)
theorem zw_257 : Cond.methodLink RX5 111 yX8_ofSign ∈ ZW := zs_8 _ (List.mem_of_getElem? (i := 17) rfl)
theorem zw_258 : Cond.methodLink RX5 36 yX5_tellWord ∈ ZW := zs_8 _ (List.mem_of_getElem? (i := 18) rfl)
theorem zw_259 : Cond.instanceMethod yX5_tellWord ∈ ZW := zs_8 _ (List.mem_of_getElem? (i := 19) rfl)
theorem zw_260 : Cond.selects RX5 yX5_tellWord yX5_tellWord ∈ ZW := zs_8 _ (List.mem_of_getElem? (i := 20) rfl)
theorem zw_261 : Cond.methodLink RX5 136 yJ0_length_8abf5 ∈ ZW := zs_8 _ (List.mem_of_getElem? (i := 21) rfl)
theorem zw_262 : Cond.methodLink RX5 115 yX0_octaveOf ∈ ZW := zs_8 _ (List.mem_of_getElem? (i := 22) rfl)
theorem zw_263 : Cond.static yX0_octaveOf ∈ ZW := zs_8 _ (List.mem_of_getElem? (i := 23) rfl)
theorem zw_264 : Cond.methodLink RX5 120 yX0_isDotted ∈ ZW := zs_8 _ (List.mem_of_getElem? (i := 24) rfl)
theorem zw_265 : Cond.static yX0_isDotted ∈ ZW := zs_8 _ (List.mem_of_getElem? (i := 25) rfl)
theorem zw_266 : Cond.methodLink RX5 125 yX0_lengthOf ∈ ZW := zs_8 _ (List.mem_of_getElem? (i := 26) rfl)
theorem zw_267 : Cond.static yX0_lengthOf ∈ ZW := zs_8 _ (List.mem_of_getElem? (i := 27) rfl)
theorem zw_268 : Cond.methodLink RX5 128 yX8_ofLength ∈ ZW := zs_8 _ (List.mem_of_getElem? (i := 28) rfl)
theorem zw_269 : Cond.methodLink RX5 131 yX0_isTied ∈ ZW := zs_8 _ (List.mem_of_getElem? (i := 29) rfl)
theorem zw_270 : Cond.static yX0_isTied ∈ ZW := zs_9 _ (List.mem_of_getElem? (i := 0) rfl)
theorem zw_271 : Cond.code yX5_tellEvent cX5_tellEvent 2 none ∈ ZW := zs_9 _ (List.mem_of_getElem? (i := 1) rfl)
theorem zw_272 : Cond.methodLink RX5 82 yX4_code ∈ ZW := zs_9 _ (List.mem_of_getElem? (i := 2) rfl)
theorem zw_273 : Cond.methodLink RX5 86 yX5_tellEvent ∈ ZW := zs_9 _ (List.mem_of_getElem? (i := 3) rfl)
theorem zw_274 : Cond.instanceMethod yX5_tellEvent ∈ ZW := zs_9 _ (List.mem_of_getElem? (i := 4) rfl)
theorem zw_275 : Cond.selects RX5 yX5_tellEvent yX5_tellEvent ∈ ZW := zs_9 _ (List.mem_of_getElem? (i := 5) rfl)
theorem zw_276 : Cond.methodLink RX5 89 yX0_isNote ∈ ZW := zs_9 _ (List.mem_of_getElem? (i := 6) rfl)
theorem zw_277 : Cond.methodLink RX5 98 yX0_stepOf ∈ ZW := zs_9 _ (List.mem_of_getElem? (i := 7) rfl)
theorem zw_278 : Cond.static yX0_stepOf ∈ ZW := zs_9 _ (List.mem_of_getElem? (i := 8) rfl)
theorem zw_279 : Cond.methodLink RX5 101 yX8_letterOf ∈ ZW := zs_9 _ (List.mem_of_getElem? (i := 9) rfl)
theorem zw_280 : Cond.static yX8_letterOf ∈ ZW := zs_9 _ (List.mem_of_getElem? (i := 10) rfl)
theorem zw_281 : Cond.methodLink RX8 27 yJ0_length_8abf5 ∈ ZW := zs_9 _ (List.mem_of_getElem? (i := 11) rfl)
theorem zw_282 : Cond.methodLink RX8 33 yJ0_charAt_5068e ∈ ZW := zs_9 _ (List.mem_of_getElem? (i := 12) rfl)
theorem zw_283 : Cond.code yX5_tellVoice cX5_tellVoice 5 none ∈ ZW := zs_9 _ (List.mem_of_getElem? (i := 13) rfl)
theorem zw_284 : Cond.instanceMethod yX5_tellVoice ∈ ZW := zs_9 _ (List.mem_of_getElem? (i := 14) rfl)
theorem zw_285 : Cond.selects RX5 yX5_tellVoice yX5_tellVoice ∈ ZW := zs_9 _ (List.mem_of_getElem? (i := 15) rfl)
theorem zw_286 : Cond.methodLink RX5 77 yX4_count ∈ ZW := zs_9 _ (List.mem_of_getElem? (i := 16) rfl)
theorem zw_287 : Cond.instanceMethod yX4_count ∈ ZW := zs_9 _ (List.mem_of_getElem? (i := 17) rfl)
theorem zw_288 : Cond.selects RX4 yX4_count yX4_count ∈ ZW := zs_9 _ (List.mem_of_getElem? (i := 18) rfl)
theorem zw_289 : Cond.code yX5_tellMeasure cX5_tellMeasure 4 none ∈ ZW := zs_9 _ (List.mem_of_getElem? (i := 19) rfl)
theorem zw_290 : Cond.code yX6_init cX6_init 2 none ∈ ZW := zs_9 _ (List.mem_of_getElem? (i := 20) rfl)
theorem zw_291 : Cond.code yX6_slot cX6_slot 4 (some .int) ∈ ZW := zs_9 _ (List.mem_of_getElem? (i := 21) rfl)
theorem zw_292 : Cond.code yX6_shift cX6_shift 5 (some .int) ∈ ZW := zs_9 _ (List.mem_of_getElem? (i := 22) rfl)
theorem zw_293 : Cond.code yX6_held cX6_held 5 (some .int) ∈ ZW := zs_9 _ (List.mem_of_getElem? (i := 23) rfl)
theorem zw_294 : Cond.methodLink RX6 38 yX0_ticksOf ∈ ZW := zs_9 _ (List.mem_of_getElem? (i := 24) rfl)
theorem zw_295 : Cond.code yX6_isBrokenTie cX6_isBrokenTie 5 (some .boolean) ∈ ZW := zs_9 _ (List.mem_of_getElem? (i := 25) rfl)
theorem zw_296 : Cond.code yX6_sounding cX6_sounding 7 (some .int) ∈ ZW := zs_9 _ (List.mem_of_getElem? (i := 26) rfl)
theorem zw_297 : Cond.code yX6_shiftBefore cX6_shiftBefore 4 (some .int) ∈ ZW := zs_9 _ (List.mem_of_getElem? (i := 27) rfl)
theorem zw_298 : Cond.code yX6_signShift cX6_signShift 1 (some .int) ∈ ZW := zs_9 _ (List.mem_of_getElem? (i := 28) rfl)
theorem zw_299 : Cond.code yX6_keyShift cX6_keyShift 3 (some .int) ∈ ZW := zs_9 _ (List.mem_of_getElem? (i := 29) rfl)
theorem zw_300 : Cond.code yX6_shiftWithoutSign cX6_shiftWithoutSign 10 (some .int) ∈ ZW := zs_10 _ (List.mem_of_getElem? (i := 0) rfl)
theorem zw_301 : Cond.methodLink RX6 89 yX4_codeBefore ∈ ZW := zs_10 _ (List.mem_of_getElem? (i := 1) rfl)
theorem zw_302 : Cond.instanceMethod yX4_codeBefore ∈ ZW := zs_10 _ (List.mem_of_getElem? (i := 2) rfl)
theorem zw_303 : Cond.selects RX4 yX4_codeBefore yX4_codeBefore ∈ ZW := zs_10 _ (List.mem_of_getElem? (i := 3) rfl)
theorem zw_304 : Cond.methodLink RX4 57 yX4_code ∈ ZW := zs_10 _ (List.mem_of_getElem? (i := 4) rfl)
theorem zw_305 : Cond.methodLink RX4 21 yX4_count ∈ ZW := zs_10 _ (List.mem_of_getElem? (i := 5) rfl)
theorem zw_306 : Cond.methodLink RX6 29 yX0_isTied ∈ ZW := zs_10 _ (List.mem_of_getElem? (i := 6) rfl)
theorem zw_307 : Cond.methodLink RX6 92 yX0_samePitch ∈ ZW := zs_10 _ (List.mem_of_getElem? (i := 7) rfl)
theorem zw_308 : Cond.methodLink RX6 42 yX0_stepOf ∈ ZW := zs_10 _ (List.mem_of_getElem? (i := 8) rfl)
theorem zw_309 : Cond.code yX6_shiftWith cX6_shiftWith 7 (some .int) ∈ ZW := zs_10 _ (List.mem_of_getElem? (i := 9) rfl)
theorem zw_310 : Cond.code yX6_put cX6_put 3 none ∈ ZW := zs_10 _ (List.mem_of_getElem? (i := 10) rfl)
theorem zw_311 : Cond.selects RX6 yX6_shift yX6_shift ∈ ZW := zs_10 _ (List.mem_of_getElem? (i := 11) rfl)
theorem zw_312 : Cond.methodLink RX6 22 yX6_slot ∈ ZW := zs_10 _ (List.mem_of_getElem? (i := 12) rfl)
theorem zw_313 : Cond.static yX6_slot ∈ ZW := zs_10 _ (List.mem_of_getElem? (i := 13) rfl)
theorem zw_314 : Cond.methodLink RX6 65 yX4_count ∈ ZW := zs_10 _ (List.mem_of_getElem? (i := 14) rfl)
theorem zw_315 : Cond.methodLink RX6 68 yX6_shiftWith ∈ ZW := zs_10 _ (List.mem_of_getElem? (i := 15) rfl)
theorem zw_316 : Cond.instanceMethod yX6_shiftWith ∈ ZW := zs_10 _ (List.mem_of_getElem? (i := 16) rfl)
theorem zw_317 : Cond.selects RX6 yX6_shiftWith yX6_shiftWith ∈ ZW := zs_10 _ (List.mem_of_getElem? (i := 17) rfl)
theorem zw_318 : Cond.methodLink RX6 26 yX4_code ∈ ZW := zs_10 _ (List.mem_of_getElem? (i := 18) rfl)
theorem zw_319 : Cond.methodLink RX6 80 yX0_signOf ∈ ZW := zs_10 _ (List.mem_of_getElem? (i := 19) rfl)
theorem zw_320 : Cond.methodLink RX6 83 yX6_signShift ∈ ZW := zs_10 _ (List.mem_of_getElem? (i := 20) rfl)
theorem zw_321 : Cond.static yX6_signShift ∈ ZW := zs_10 _ (List.mem_of_getElem? (i := 21) rfl)
theorem zw_322 : Cond.methodLink RX6 86 yX6_shiftWithoutSign ∈ ZW := zs_10 _ (List.mem_of_getElem? (i := 22) rfl)
theorem zw_323 : Cond.instanceMethod yX6_shiftWithoutSign ∈ ZW := zs_10 _ (List.mem_of_getElem? (i := 23) rfl)
theorem zw_324 : Cond.selects RX6 yX6_shiftWithoutSign yX6_shiftWithoutSign ∈ ZW := zs_10 _ (List.mem_of_getElem? (i := 24) rfl)
theorem zw_325 : Cond.code yX6_findShifts cX6_findShifts 6 none ∈ ZW := zs_10 _ (List.mem_of_getElem? (i := 25) rfl)
theorem zw_326 : Cond.methodLink RX6 76 yX4_isHeldTie ∈ ZW := zs_10 _ (List.mem_of_getElem? (i := 26) rfl)
theorem zw_327 : Cond.instanceMethod yX4_isHeldTie ∈ ZW := zs_10 _ (List.mem_of_getElem? (i := 27) rfl)
theorem zw_328 : Cond.selects RX4 yX4_isHeldTie yX4_isHeldTie ∈ ZW := zs_10 _ (List.mem_of_getElem? (i := 28) rfl)
theorem zw_329 : Cond.methodLink RX4 70 yX0_isTied ∈ ZW := zs_10 _ (List.mem_of_getElem? (i := 29) rfl)
theorem zw_330 : Cond.methodLink RX4 73 yX4_codeAfter ∈ ZW := zs_11 _ (List.mem_of_getElem? (i := 0) rfl)
theorem zw_331 : Cond.instanceMethod yX4_codeAfter ∈ ZW := zs_11 _ (List.mem_of_getElem? (i := 1) rfl)
theorem zw_332 : Cond.selects RX4 yX4_codeAfter yX4_codeAfter ∈ ZW := zs_11 _ (List.mem_of_getElem? (i := 2) rfl)
theorem zw_333 : Cond.methodLink RX4 76 yX0_samePitch ∈ ZW := zs_11 _ (List.mem_of_getElem? (i := 3) rfl)
theorem zw_334 : Cond.methodLink RX6 72 yX6_put ∈ ZW := zs_11 _ (List.mem_of_getElem? (i := 4) rfl)
theorem zw_335 : Cond.static yX6_put ∈ ZW := zs_11 _ (List.mem_of_getElem? (i := 5) rfl)
theorem zw_336 : Cond.code yX6_findHeldTicks cX6_findHeldTicks 6 none ∈ ZW := zs_11 _ (List.mem_of_getElem? (i := 6) rfl)
theorem zw_337 : Cond.code yX6_changedWith cX6_changedWith 8 (some .int) ∈ ZW := zs_11 _ (List.mem_of_getElem? (i := 7) rfl)
theorem zw_338 : Cond.methodLink RX6 96 yX6_keyShift ∈ ZW := zs_11 _ (List.mem_of_getElem? (i := 8) rfl)
theorem zw_339 : Cond.static yX6_keyShift ∈ ZW := zs_11 _ (List.mem_of_getElem? (i := 9) rfl)
theorem zw_340 : Cond.code yX6_signsWithoutEffect cX6_signsWithoutEffect 8 (some .int) ∈ ZW := zs_11 _ (List.mem_of_getElem? (i := 10) rfl)
theorem zw_341 : Cond.code yX6_ticksAbove cX6_ticksAbove 10 (some .int) ∈ ZW := zs_11 _ (List.mem_of_getElem? (i := 11) rfl)
theorem zw_342 : Cond.code yX6_crossedTicks cX6_crossedTicks 8 (some .int) ∈ ZW := zs_11 _ (List.mem_of_getElem? (i := 12) rfl)
theorem zw_343 : Cond.code yX7_init cX7_init 1 none ∈ ZW := zs_11 _ (List.mem_of_getElem? (i := 13) rfl)
theorem zw_344 : Cond.code yX7_append cX7_append 2 none ∈ ZW := zs_11 _ (List.mem_of_getElem? (i := 14) rfl)
theorem zw_345 : Cond.methodLink RX7 17 Lib.Math.max.name ∈ ZW := zs_11 _ (List.mem_of_getElem? (i := 15) rfl)
theorem zw_346 : Cond.code yX7_shorten cX7_shorten 2 none ∈ ZW := zs_11 _ (List.mem_of_getElem? (i := 16) rfl)
theorem zw_347 : Cond.methodLink RX9 1 objectInit ∈ ZW := zs_11 _ (List.mem_of_getElem? (i := 17) rfl)
theorem zw_348 : Cond.instanceMethod objectInit ∈ ZW := zs_11 _ (List.mem_of_getElem? (i := 18) rfl)
theorem zw_349 : Cond.code objectInit ⟨#[0xb1]⟩ 1 none ∈ ZW := zs_11 _ (List.mem_of_getElem? (i := 19) rfl)
theorem zw_350 : Cond.classLink RX9 7 RX4 ∈ ZW := zs_11 _ (List.mem_of_getElem? (i := 20) rfl)
theorem zw_351 : Cond.instantiable RX4 2 ∈ ZW := zs_11 _ (List.mem_of_getElem? (i := 21) rfl)
theorem zw_352 : Cond.fieldLink RX9 10 "SpokenBars" "score" "LSpokenBars$Score;" ∈ ZW := zs_11 _ (List.mem_of_getElem? (i := 22) rfl)
theorem zw_353 : Cond.classLink RX9 16 RX1 ∈ ZW := zs_11 _ (List.mem_of_getElem? (i := 23) rfl)
theorem zw_354 : Cond.instantiable RX1 3 ∈ ZW := zs_11 _ (List.mem_of_getElem? (i := 24) rfl)
theorem zw_355 : Cond.initialized RX1 ∈ ZW := zs_11 _ (List.mem_of_getElem? (i := 25) rfl)
theorem zw_356 : Cond.fieldLink RX9 19 "SpokenBars" "history" "LSpokenBars$History;" ∈ ZW := zs_11 _ (List.mem_of_getElem? (i := 26) rfl)
theorem zw_357 : Cond.classLink RX9 23 RX7 ∈ ZW := zs_11 _ (List.mem_of_getElem? (i := 27) rfl)
theorem zw_358 : Cond.instantiable RX7 2 ∈ ZW := zs_11 _ (List.mem_of_getElem? (i := 28) rfl)
theorem zw_359 : Cond.fieldLink RX9 26 "SpokenBars" "text" "LSpokenBars$Text;" ∈ ZW := zs_11 _ (List.mem_of_getElem? (i := 29) rfl)
theorem zw_360 : Cond.classLink RX9 30 RX5 ∈ ZW := zs_12 _ (List.mem_of_getElem? (i := 0) rfl)
theorem zw_361 : Cond.instantiable RX5 3 ∈ ZW := zs_12 _ (List.mem_of_getElem? (i := 1) rfl)
theorem zw_362 : Cond.initialized RX5 ∈ ZW := zs_12 _ (List.mem_of_getElem? (i := 2) rfl)
theorem zw_363 : Cond.fieldLink RX9 33 "SpokenBars" "sentence" "LSpokenBars$Sentence;" ∈ ZW := zs_12 _ (List.mem_of_getElem? (i := 3) rfl)
theorem zw_364 : Cond.classLink RX9 37 RX3 ∈ ZW := zs_12 _ (List.mem_of_getElem? (i := 4) rfl)
theorem zw_365 : Cond.instantiable RX3 5 ∈ ZW := zs_12 _ (List.mem_of_getElem? (i := 5) rfl)
theorem zw_366 : Cond.fieldLink RX9 42 "SpokenBars" "reader" "LSpokenBars$Reader;" ∈ ZW := zs_12 _ (List.mem_of_getElem? (i := 6) rfl)
theorem zw_367 : Cond.classLink RX9 46 RX6 ∈ ZW := zs_12 _ (List.mem_of_getElem? (i := 7) rfl)
theorem zw_368 : Cond.code yX9_init cX9_init 1 none ∈ ZW := zs_12 _ (List.mem_of_getElem? (i := 8) rfl)
theorem zw_369 : Cond.methodLink RX6 62 yX6_shiftBefore ∈ ZW := zs_12 _ (List.mem_of_getElem? (i := 9) rfl)
theorem zw_370 : Cond.instanceMethod yX6_shiftBefore ∈ ZW := zs_12 _ (List.mem_of_getElem? (i := 10) rfl)
theorem zw_371 : Cond.selects RX6 yX6_shiftBefore yX6_shiftBefore ∈ ZW := zs_12 _ (List.mem_of_getElem? (i := 11) rfl)
theorem zw_372 : Cond.methodLink RX6 51 yX6_shift ∈ ZW := zs_12 _ (List.mem_of_getElem? (i := 12) rfl)
theorem zw_373 : Cond.instanceMethod yX6_shift ∈ ZW := zs_12 _ (List.mem_of_getElem? (i := 13) rfl)
theorem zw_374 : Cond.code yX9_settle cX9_settle 1 none ∈ ZW := zs_12 _ (List.mem_of_getElem? (i := 14) rfl)
theorem zw_375 : Cond.methodLink RX9 79 yX9_settle ∈ ZW := zs_12 _ (List.mem_of_getElem? (i := 15) rfl)
theorem zw_376 : Cond.instanceMethod yX9_settle ∈ ZW := zs_12 _ (List.mem_of_getElem? (i := 16) rfl)
theorem zw_377 : Cond.selects RX9 yX9_settle yX9_settle ∈ ZW := zs_12 _ (List.mem_of_getElem? (i := 17) rfl)
theorem zw_378 : Cond.initialized RX9 ∈ ZW := zs_12 _ (List.mem_of_getElem? (i := 18) rfl)
theorem zw_379 : Cond.fieldLink RX9 51 "SpokenBars" "sounds" "LSpokenBars$Sounds;" ∈ ZW := zs_12 _ (List.mem_of_getElem? (i := 19) rfl)
theorem zw_380 : Cond.fieldLink RX9 58 "SpokenBars" "playing" "LSpokenBars$Playing;" ∈ ZW := zs_12 _ (List.mem_of_getElem? (i := 20) rfl)
theorem zw_381 : Cond.methodLink RX9 313 yX6_findShifts ∈ ZW := zs_12 _ (List.mem_of_getElem? (i := 21) rfl)
theorem zw_382 : Cond.instanceMethod yX6_findShifts ∈ ZW := zs_12 _ (List.mem_of_getElem? (i := 22) rfl)
theorem zw_383 : Cond.selects RX6 yX6_findShifts yX6_findShifts ∈ ZW := zs_12 _ (List.mem_of_getElem? (i := 23) rfl)
theorem zw_384 : Cond.initialized RX6 ∈ ZW := zs_12 _ (List.mem_of_getElem? (i := 24) rfl)
theorem zw_385 : Cond.code yX9_addMeasure cX9_addMeasure 1 (some .int) ∈ ZW := zs_12 _ (List.mem_of_getElem? (i := 25) rfl)
theorem zw_386 : Cond.classLink RX9 325 "java/lang/IndexOutOfBoundsException" ∈ ZW := zs_12 _ (List.mem_of_getElem? (i := 26) rfl)
theorem zw_387 : Cond.initialized "java/lang/IndexOutOfBoundsException" ∈ ZW := zs_12 _ (List.mem_of_getElem? (i := 27) rfl)
theorem zw_388 : Cond.methodLink RX9 322 yX4_hasMeasure ∈ ZW := zs_12 _ (List.mem_of_getElem? (i := 28) rfl)
theorem zw_389 : Cond.code yX9_requireMeasure cX9_requireMeasure 2 none ∈ ZW := zs_12 _ (List.mem_of_getElem? (i := 29) rfl)
theorem zw_390 : Cond.code yX9_removeMeasure cX9_removeMeasure 2 (some .int) ∈ ZW := zs_13 _ (List.mem_of_getElem? (i := 0) rfl)
theorem zw_391 : Cond.classLink RX9 97 "java/lang/IllegalArgumentException" ∈ ZW := zs_13 _ (List.mem_of_getElem? (i := 1) rfl)
theorem zw_392 : Cond.initialized "java/lang/IllegalArgumentException" ∈ ZW := zs_13 _ (List.mem_of_getElem? (i := 2) rfl)
theorem zw_393 : Cond.methodLink RX9 86 yX9_requireMeasure ∈ ZW := zs_13 _ (List.mem_of_getElem? (i := 3) rfl)
theorem zw_394 : Cond.instanceMethod yX9_requireMeasure ∈ ZW := zs_13 _ (List.mem_of_getElem? (i := 4) rfl)
theorem zw_395 : Cond.selects RX9 yX9_requireMeasure yX9_requireMeasure ∈ ZW := zs_13 _ (List.mem_of_getElem? (i := 5) rfl)
theorem zw_396 : Cond.methodLink RX9 93 yX4_canHold ∈ ZW := zs_13 _ (List.mem_of_getElem? (i := 6) rfl)
theorem zw_397 : Cond.methodLink RX9 73 yX1_push ∈ ZW := zs_13 _ (List.mem_of_getElem? (i := 7) rfl)
theorem zw_398 : Cond.instanceMethod yX1_push ∈ ZW := zs_13 _ (List.mem_of_getElem? (i := 8) rfl)
theorem zw_399 : Cond.selects RX1 yX1_push yX1_push ∈ ZW := zs_13 _ (List.mem_of_getElem? (i := 9) rfl)
theorem zw_400 : Cond.methodLink RX2 22 yX2_beginsAnew ∈ ZW := zs_13 _ (List.mem_of_getElem? (i := 10) rfl)
theorem zw_401 : Cond.static yX2_beginsAnew ∈ ZW := zs_13 _ (List.mem_of_getElem? (i := 11) rfl)
theorem zw_402 : Cond.methodLink RX2 26 yX4_value ∈ ZW := zs_13 _ (List.mem_of_getElem? (i := 12) rfl)
theorem zw_403 : Cond.code yX9_set cX9_set 5 (some .int) ∈ ZW := zs_13 _ (List.mem_of_getElem? (i := 13) rfl)
theorem zw_404 : Cond.methodLink RX9 330 yX4_hasVoice ∈ ZW := zs_13 _ (List.mem_of_getElem? (i := 14) rfl)
theorem zw_405 : Cond.instanceMethod yX4_hasVoice ∈ ZW := zs_13 _ (List.mem_of_getElem? (i := 15) rfl)
theorem zw_406 : Cond.selects RX4 yX4_hasVoice yX4_hasVoice ∈ ZW := zs_13 _ (List.mem_of_getElem? (i := 16) rfl)
theorem zw_407 : Cond.code yX9_requireVoice cX9_requireVoice 3 none ∈ ZW := zs_13 _ (List.mem_of_getElem? (i := 17) rfl)
theorem zw_408 : Cond.code yX9_requireRange cX9_requireRange 3 none ∈ ZW := zs_13 _ (List.mem_of_getElem? (i := 18) rfl)
theorem zw_409 : Cond.code yX9_requireRoom cX9_requireRoom 3 none ∈ ZW := zs_13 _ (List.mem_of_getElem? (i := 19) rfl)
theorem zw_410 : Cond.methodLink RX9 110 yX9_requireVoice ∈ ZW := zs_13 _ (List.mem_of_getElem? (i := 20) rfl)
theorem zw_411 : Cond.instanceMethod yX9_requireVoice ∈ ZW := zs_13 _ (List.mem_of_getElem? (i := 21) rfl)
theorem zw_412 : Cond.selects RX9 yX9_requireVoice yX9_requireVoice ∈ ZW := zs_13 _ (List.mem_of_getElem? (i := 22) rfl)
theorem zw_413 : Cond.methodLink RX9 116 yX9_requireRange ∈ ZW := zs_13 _ (List.mem_of_getElem? (i := 23) rfl)
theorem zw_414 : Cond.static yX9_requireRange ∈ ZW := zs_13 _ (List.mem_of_getElem? (i := 24) rfl)
theorem zw_415 : Cond.instanceMethod yX4_copyFrom ∈ ZW := zs_13 _ (List.mem_of_getElem? (i := 25) rfl)
theorem zw_416 : Cond.selects RX4 yX4_copyFrom yX4_copyFrom ∈ ZW := zs_13 _ (List.mem_of_getElem? (i := 26) rfl)
theorem zw_417 : Cond.methodLink RX4 47 arraycopyName ∈ ZW := zs_13 _ (List.mem_of_getElem? (i := 27) rfl)
theorem zw_418 : Cond.native arraycopyName ∈ ZW := zs_13 _ (List.mem_of_getElem? (i := 28) rfl)
theorem zw_419 : Cond.static arraycopyName ∈ ZW := zs_13 _ (List.mem_of_getElem? (i := 29) rfl)
theorem zw_420 : Cond.initialized "java/lang/System" ∈ ZW := zs_14 _ (List.mem_of_getElem? (i := 0) rfl)
theorem zw_421 : Cond.methodLink RX9 122 yX0_ofNote ∈ ZW := zs_14 _ (List.mem_of_getElem? (i := 1) rfl)
theorem zw_422 : Cond.methodLink RX9 126 yX4_appendEvent ∈ ZW := zs_14 _ (List.mem_of_getElem? (i := 2) rfl)
theorem zw_423 : Cond.code yX9_addNote cX9_addNote 7 (some .int) ∈ ZW := zs_14 _ (List.mem_of_getElem? (i := 3) rfl)
theorem zw_424 : Cond.methodLink RX9 132 yX0_ofRest ∈ ZW := zs_14 _ (List.mem_of_getElem? (i := 4) rfl)
theorem zw_425 : Cond.code yX9_addRest cX9_addRest 4 (some .int) ∈ ZW := zs_14 _ (List.mem_of_getElem? (i := 5) rfl)
theorem zw_426 : Cond.code yX9_requireEvent cX9_requireEvent 4 none ∈ ZW := zs_14 _ (List.mem_of_getElem? (i := 6) rfl)
theorem zw_427 : Cond.methodLink RX9 129 yX4_count ∈ ZW := zs_14 _ (List.mem_of_getElem? (i := 7) rfl)
theorem zw_428 : Cond.code yX9_removeEvent cX9_removeEvent 4 (some .int) ∈ ZW := zs_14 _ (List.mem_of_getElem? (i := 8) rfl)
theorem zw_429 : Cond.methodLink RX9 142 yX4_ticks ∈ ZW := zs_14 _ (List.mem_of_getElem? (i := 9) rfl)
theorem zw_430 : Cond.methodLink RX4 60 yX0_ticksOf ∈ ZW := zs_14 _ (List.mem_of_getElem? (i := 10) rfl)
theorem zw_431 : Cond.methodLink RX9 102 yX4_value ∈ ZW := zs_14 _ (List.mem_of_getElem? (i := 11) rfl)
theorem zw_432 : Cond.code yX9_measure cX9_measure 3 (some .int) ∈ ZW := zs_14 _ (List.mem_of_getElem? (i := 12) rfl)
theorem zw_433 : Cond.code yX9_noteValue cX9_noteValue 6 (some .int) ∈ ZW := zs_14 _ (List.mem_of_getElem? (i := 13) rfl)
theorem zw_434 : Cond.methodLink RX9 148 yX4_code ∈ ZW := zs_14 _ (List.mem_of_getElem? (i := 14) rfl)
theorem zw_435 : Cond.methodLink RX9 152 yX0_durationOf ∈ ZW := zs_14 _ (List.mem_of_getElem? (i := 15) rfl)
theorem zw_436 : Cond.methodLink RX9 155 yX0_ticksOf ∈ ZW := zs_14 _ (List.mem_of_getElem? (i := 16) rfl)
theorem zw_437 : Cond.methodLink RX9 158 yX4_begin ∈ ZW := zs_14 _ (List.mem_of_getElem? (i := 17) rfl)
theorem zw_438 : Cond.instanceMethod yX4_begin ∈ ZW := zs_14 _ (List.mem_of_getElem? (i := 18) rfl)
theorem zw_439 : Cond.selects RX4 yX4_begin yX4_begin ∈ ZW := zs_14 _ (List.mem_of_getElem? (i := 19) rfl)
theorem zw_440 : Cond.methodLink RX9 161 yX0_isNote ∈ ZW := zs_14 _ (List.mem_of_getElem? (i := 20) rfl)
theorem zw_441 : Cond.methodLink RX6 35 yX6_held ∈ ZW := zs_14 _ (List.mem_of_getElem? (i := 21) rfl)
theorem zw_442 : Cond.code yX9_event cX9_event 6 (some .int) ∈ ZW := zs_14 _ (List.mem_of_getElem? (i := 22) rfl)
theorem zw_443 : Cond.code yX9_requireNotNegative cX9_requireNotNegative 1 none ∈ ZW := zs_14 _ (List.mem_of_getElem? (i := 23) rfl)
theorem zw_444 : Cond.methodLink RX9 169 yX9_requireNotNegative ∈ ZW := zs_14 _ (List.mem_of_getElem? (i := 24) rfl)
theorem zw_445 : Cond.static yX9_requireNotNegative ∈ ZW := zs_14 _ (List.mem_of_getElem? (i := 25) rfl)
theorem zw_446 : Cond.code yX9_eventAt cX9_eventAt 6 (some .int) ∈ ZW := zs_14 _ (List.mem_of_getElem? (i := 26) rfl)
theorem zw_447 : Cond.methodLink RX9 172 yX6_crossedTicks ∈ ZW := zs_14 _ (List.mem_of_getElem? (i := 27) rfl)
theorem zw_448 : Cond.instanceMethod yX6_crossedTicks ∈ ZW := zs_14 _ (List.mem_of_getElem? (i := 28) rfl)
theorem zw_449 : Cond.selects RX6 yX6_crossedTicks yX6_crossedTicks ∈ ZW := zs_14 _ (List.mem_of_getElem? (i := 29) rfl)
theorem zw_450 : Cond.fieldLink RX6 18 "SpokenBars$Sounds" "score" "LSpokenBars$Score;" ∈ ZW := zs_15 _ (List.mem_of_getElem? (i := 0) rfl)
theorem zw_451 : Cond.methodLink RX6 114 Lib.Math.min.name ∈ ZW := zs_15 _ (List.mem_of_getElem? (i := 1) rfl)
theorem zw_452 : Cond.code yX9_crossings cX9_crossings 2 (some .int) ∈ ZW := zs_15 _ (List.mem_of_getElem? (i := 2) rfl)
theorem zw_453 : Cond.code yX9_isOfKind cX9_isOfKind 6 (some .boolean) ∈ ZW := zs_15 _ (List.mem_of_getElem? (i := 3) rfl)
theorem zw_454 : Cond.code yX9_eventsOfKind cX9_eventsOfKind 6 (some .int) ∈ ZW := zs_15 _ (List.mem_of_getElem? (i := 4) rfl)
theorem zw_455 : Cond.methodLink RX4 64 yX4_voiceTicks ∈ ZW := zs_15 _ (List.mem_of_getElem? (i := 5) rfl)
theorem zw_456 : Cond.instanceMethod yX4_voiceTicks ∈ ZW := zs_15 _ (List.mem_of_getElem? (i := 6) rfl)
theorem zw_457 : Cond.selects RX4 yX4_voiceTicks yX4_voiceTicks ∈ ZW := zs_15 _ (List.mem_of_getElem? (i := 7) rfl)
theorem zw_458 : Cond.methodLink RX4 53 yX4_begin ∈ ZW := zs_15 _ (List.mem_of_getElem? (i := 8) rfl)
theorem zw_459 : Cond.methodLink RX9 178 yX2_size ∈ ZW := zs_15 _ (List.mem_of_getElem? (i := 9) rfl)
theorem zw_460 : Cond.instanceMethod yX2_size ∈ ZW := zs_15 _ (List.mem_of_getElem? (i := 10) rfl)
theorem zw_461 : Cond.selects RX2 yX2_size yX2_size ∈ ZW := zs_15 _ (List.mem_of_getElem? (i := 11) rfl)
theorem zw_462 : Cond.initialized RX2 ∈ ZW := zs_15 _ (List.mem_of_getElem? (i := 12) rfl)
theorem zw_463 : Cond.methodLink RX9 179 yX2_ticks ∈ ZW := zs_15 _ (List.mem_of_getElem? (i := 13) rfl)
theorem zw_464 : Cond.instanceMethod yX2_ticks ∈ ZW := zs_15 _ (List.mem_of_getElem? (i := 14) rfl)
theorem zw_465 : Cond.selects RX2 yX2_ticks yX2_ticks ∈ ZW := zs_15 _ (List.mem_of_getElem? (i := 15) rfl)
theorem zw_466 : Cond.methodLink RX2 30 yX2_at ∈ ZW := zs_15 _ (List.mem_of_getElem? (i := 16) rfl)
theorem zw_467 : Cond.instanceMethod yX2_at ∈ ZW := zs_15 _ (List.mem_of_getElem? (i := 17) rfl)
theorem zw_468 : Cond.selects RX2 yX2_at yX2_at ∈ ZW := zs_15 _ (List.mem_of_getElem? (i := 18) rfl)
theorem zw_469 : Cond.code yX9_whole cX9_whole 2 (some .int) ∈ ZW := zs_15 _ (List.mem_of_getElem? (i := 19) rfl)
theorem zw_470 : Cond.code yX9_order cX9_order 2 (some .int) ∈ ZW := zs_15 _ (List.mem_of_getElem? (i := 20) rfl)
theorem zw_471 : Cond.methodLink RX9 191 yX2_timesOf ∈ ZW := zs_15 _ (List.mem_of_getElem? (i := 21) rfl)
theorem zw_472 : Cond.instanceMethod yX2_timesOf ∈ ZW := zs_15 _ (List.mem_of_getElem? (i := 22) rfl)
theorem zw_473 : Cond.selects RX2 yX2_timesOf yX2_timesOf ∈ ZW := zs_15 _ (List.mem_of_getElem? (i := 23) rfl)
theorem zw_474 : Cond.code yX9_timesPlayed cX9_timesPlayed 2 (some .int) ∈ ZW := zs_15 _ (List.mem_of_getElem? (i := 24) rfl)
theorem zw_475 : Cond.methodLink RX9 194 yX2_secondsUpTo ∈ ZW := zs_15 _ (List.mem_of_getElem? (i := 25) rfl)
theorem zw_476 : Cond.instanceMethod yX2_secondsUpTo ∈ ZW := zs_15 _ (List.mem_of_getElem? (i := 26) rfl)
theorem zw_477 : Cond.selects RX2 yX2_secondsUpTo yX2_secondsUpTo ∈ ZW := zs_15 _ (List.mem_of_getElem? (i := 27) rfl)
theorem zw_478 : Cond.methodLink RX2 37 yX2_secondsOf ∈ ZW := zs_15 _ (List.mem_of_getElem? (i := 28) rfl)
theorem zw_479 : Cond.instanceMethod yX2_secondsOf ∈ ZW := zs_15 _ (List.mem_of_getElem? (i := 29) rfl)
theorem zw_480 : Cond.selects RX2 yX2_secondsOf yX2_secondsOf ∈ ZW := zs_16 _ (List.mem_of_getElem? (i := 0) rfl)
theorem zw_481 : Cond.constantFloat RX2 41 (1114636288) ∈ ZW := zs_16 _ (List.mem_of_getElem? (i := 1) rfl)
theorem zw_482 : Cond.constantFloat RX2 42 (1098907648) ∈ ZW := zs_16 _ (List.mem_of_getElem? (i := 2) rfl)
theorem zw_483 : Cond.code yX9_seconds cX9_seconds 2 (some .float) ∈ ZW := zs_16 _ (List.mem_of_getElem? (i := 3) rfl)
theorem zw_484 : Cond.methodLink RX9 198 yX2_placesBegunBy ∈ ZW := zs_16 _ (List.mem_of_getElem? (i := 4) rfl)
theorem zw_485 : Cond.instanceMethod yX2_placesBegunBy ∈ ZW := zs_16 _ (List.mem_of_getElem? (i := 5) rfl)
theorem zw_486 : Cond.selects RX2 yX2_placesBegunBy yX2_placesBegunBy ∈ ZW := zs_16 _ (List.mem_of_getElem? (i := 6) rfl)
theorem zw_487 : Cond.code yX9_placeAt cX9_placeAt 3 (some .int) ∈ ZW := zs_16 _ (List.mem_of_getElem? (i := 7) rfl)
theorem zw_488 : Cond.methodLink RX9 202 yX5_tellMeasure ∈ ZW := zs_16 _ (List.mem_of_getElem? (i := 8) rfl)
theorem zw_489 : Cond.instanceMethod yX5_tellMeasure ∈ ZW := zs_16 _ (List.mem_of_getElem? (i := 9) rfl)
theorem zw_490 : Cond.selects RX5 yX5_tellMeasure yX5_tellMeasure ∈ ZW := zs_16 _ (List.mem_of_getElem? (i := 10) rfl)
theorem zw_491 : Cond.methodLink RX5 24 yX5_tellNumbered ∈ ZW := zs_16 _ (List.mem_of_getElem? (i := 11) rfl)
theorem zw_492 : Cond.instanceMethod yX5_tellNumbered ∈ ZW := zs_16 _ (List.mem_of_getElem? (i := 12) rfl)
theorem zw_493 : Cond.methodLink RX5 30 yX4_value ∈ ZW := zs_16 _ (List.mem_of_getElem? (i := 13) rfl)
theorem zw_494 : Cond.methodLink RX9 206 yX5_length ∈ ZW := zs_16 _ (List.mem_of_getElem? (i := 14) rfl)
theorem zw_495 : Cond.instanceMethod yX5_length ∈ ZW := zs_16 _ (List.mem_of_getElem? (i := 15) rfl)
theorem zw_496 : Cond.selects RX5 yX5_length yX5_length ∈ ZW := zs_16 _ (List.mem_of_getElem? (i := 16) rfl)
theorem zw_497 : Cond.code yX9_sentenceLength cX9_sentenceLength 2 (some .int) ∈ ZW := zs_16 _ (List.mem_of_getElem? (i := 17) rfl)
theorem zw_498 : Cond.methodLink RX9 207 yX5_at ∈ ZW := zs_16 _ (List.mem_of_getElem? (i := 18) rfl)
theorem zw_499 : Cond.instanceMethod yX5_at ∈ ZW := zs_16 _ (List.mem_of_getElem? (i := 19) rfl)
theorem zw_500 : Cond.selects RX5 yX5_at yX5_at ∈ ZW := zs_16 _ (List.mem_of_getElem? (i := 20) rfl)
theorem zw_501 : Cond.code yX9_sentenceByte cX9_sentenceByte 3 (some .int) ∈ ZW := zs_16 _ (List.mem_of_getElem? (i := 21) rfl)
theorem zw_502 : Cond.methodLink RX9 208 yX5_wordCount ∈ ZW := zs_16 _ (List.mem_of_getElem? (i := 22) rfl)
theorem zw_503 : Cond.instanceMethod yX5_wordCount ∈ ZW := zs_16 _ (List.mem_of_getElem? (i := 23) rfl)
theorem zw_504 : Cond.selects RX5 yX5_wordCount yX5_wordCount ∈ ZW := zs_16 _ (List.mem_of_getElem? (i := 24) rfl)
theorem zw_505 : Cond.code yX9_words cX9_words 2 (some .int) ∈ ZW := zs_16 _ (List.mem_of_getElem? (i := 25) rfl)
theorem zw_506 : Cond.classLink RX9 66 "java/lang/IllegalStateException" ∈ ZW := zs_16 _ (List.mem_of_getElem? (i := 26) rfl)
theorem zw_507 : Cond.initialized "java/lang/IllegalStateException" ∈ ZW := zs_16 _ (List.mem_of_getElem? (i := 27) rfl)
theorem zw_508 : Cond.methodLink RX9 182 yX7_length ∈ ZW := zs_16 _ (List.mem_of_getElem? (i := 28) rfl)
theorem zw_509 : Cond.methodLink RX9 213 yX7_shorten ∈ ZW := zs_16 _ (List.mem_of_getElem? (i := 29) rfl)
theorem zw_510 : Cond.instanceMethod yX7_shorten ∈ ZW := zs_17 _ (List.mem_of_getElem? (i := 0) rfl)
theorem zw_511 : Cond.selects RX7 yX7_shorten yX7_shorten ∈ ZW := zs_17 _ (List.mem_of_getElem? (i := 1) rfl)
theorem zw_512 : Cond.code yX9_copySentence cX9_copySentence 3 (some .int) ∈ ZW := zs_17 _ (List.mem_of_getElem? (i := 2) rfl)
theorem zw_513 : Cond.code yX9_type cX9_type 2 (some .int) ∈ ZW := zs_17 _ (List.mem_of_getElem? (i := 3) rfl)
theorem zw_514 : Cond.code yX9_cut cX9_cut 2 (some .int) ∈ ZW := zs_17 _ (List.mem_of_getElem? (i := 4) rfl)
theorem zw_515 : Cond.code yX9_clearText cX9_clearText 2 (some .int) ∈ ZW := zs_17 _ (List.mem_of_getElem? (i := 5) rfl)
theorem zw_516 : Cond.methodLink RX4 34 yJ7_fill_fda19 ∈ ZW := zs_17 _ (List.mem_of_getElem? (i := 6) rfl)
theorem zw_517 : Cond.static yJ7_fill_fda19 ∈ ZW := zs_17 _ (List.mem_of_getElem? (i := 7) rfl)
theorem zw_518 : Cond.code yX9_fault cX9_fault 1 (some .int) ∈ ZW := zs_17 _ (List.mem_of_getElem? (i := 8) rfl)
theorem zw_519 : Cond.methodLink RX9 223 yX3_findFault ∈ ZW := zs_17 _ (List.mem_of_getElem? (i := 9) rfl)
theorem zw_520 : Cond.instanceMethod yX3_findFault ∈ ZW := zs_17 _ (List.mem_of_getElem? (i := 10) rfl)
theorem zw_521 : Cond.selects RX3 yX3_findFault yX3_findFault ∈ ZW := zs_17 _ (List.mem_of_getElem? (i := 11) rfl)
theorem zw_522 : Cond.selects RX4 yX4_size yX4_size ∈ ZW := zs_17 _ (List.mem_of_getElem? (i := 12) rfl)
theorem zw_523 : Cond.methodLink RX6 58 yX4_value ∈ ZW := zs_17 _ (List.mem_of_getElem? (i := 13) rfl)
theorem zw_524 : Cond.selects RX6 yX6_held yX6_held ∈ ZW := zs_17 _ (List.mem_of_getElem? (i := 14) rfl)
theorem zw_525 : Cond.methodLink RX9 319 yX2_unroll ∈ ZW := zs_17 _ (List.mem_of_getElem? (i := 15) rfl)
theorem zw_526 : Cond.instanceMethod yX2_unroll ∈ ZW := zs_17 _ (List.mem_of_getElem? (i := 16) rfl)
theorem zw_527 : Cond.selects RX2 yX2_unroll yX2_unroll ∈ ZW := zs_17 _ (List.mem_of_getElem? (i := 17) rfl)
theorem zw_528 : Cond.code yX9_readInto cX9_readInto 3 (some .int) ∈ ZW := zs_17 _ (List.mem_of_getElem? (i := 18) rfl)
theorem zw_529 : Cond.methodLink RX9 226 yX3_draft ∈ ZW := zs_17 _ (List.mem_of_getElem? (i := 19) rfl)
theorem zw_530 : Cond.instanceMethod yX3_draft ∈ ZW := zs_17 _ (List.mem_of_getElem? (i := 20) rfl)
theorem zw_531 : Cond.selects RX3 yX3_draft yX3_draft ∈ ZW := zs_17 _ (List.mem_of_getElem? (i := 21) rfl)
theorem zw_532 : Cond.methodLink RX9 234 yX4_agreesWith ∈ ZW := zs_17 _ (List.mem_of_getElem? (i := 22) rfl)
theorem zw_533 : Cond.instanceMethod yX4_agreesWith ∈ ZW := zs_17 _ (List.mem_of_getElem? (i := 23) rfl)
theorem zw_534 : Cond.selects RX4 yX4_agreesWith yX4_agreesWith ∈ ZW := zs_17 _ (List.mem_of_getElem? (i := 24) rfl)
theorem zw_535 : Cond.methodLink RX4 83 yX4_hasVoiceOf ∈ ZW := zs_17 _ (List.mem_of_getElem? (i := 25) rfl)
theorem zw_536 : Cond.instanceMethod yX4_hasVoiceOf ∈ ZW := zs_17 _ (List.mem_of_getElem? (i := 26) rfl)
theorem zw_537 : Cond.selects RX4 yX4_hasVoiceOf yX4_hasVoiceOf ∈ ZW := zs_17 _ (List.mem_of_getElem? (i := 27) rfl)
theorem zw_538 : Cond.code yX9_tells cX9_tells 2 (some .boolean) ∈ ZW := zs_17 _ (List.mem_of_getElem? (i := 28) rfl)
theorem zw_539 : Cond.methodLink RX9 238 yX6_changedWith ∈ ZW := zs_17 _ (List.mem_of_getElem? (i := 29) rfl)
theorem zw_540 : Cond.instanceMethod yX6_changedWith ∈ ZW := zs_18 _ (List.mem_of_getElem? (i := 0) rfl)
theorem zw_541 : Cond.selects RX6 yX6_changedWith yX6_changedWith ∈ ZW := zs_18 _ (List.mem_of_getElem? (i := 1) rfl)
theorem zw_542 : Cond.code yX9_changedBy cX9_changedBy 3 (some .int) ∈ ZW := zs_18 _ (List.mem_of_getElem? (i := 2) rfl)
theorem zw_543 : Cond.code yX9_nearestKey cX9_nearestKey 6 (some .int) ∈ ZW := zs_18 _ (List.mem_of_getElem? (i := 3) rfl)
theorem zw_544 : Cond.methodLink RX9 244 yX6_signsWithoutEffect ∈ ZW := zs_18 _ (List.mem_of_getElem? (i := 4) rfl)
theorem zw_545 : Cond.instanceMethod yX6_signsWithoutEffect ∈ ZW := zs_18 _ (List.mem_of_getElem? (i := 5) rfl)
theorem zw_546 : Cond.selects RX6 yX6_signsWithoutEffect yX6_signsWithoutEffect ∈ ZW := zs_18 _ (List.mem_of_getElem? (i := 6) rfl)
theorem zw_547 : Cond.code yX9_needlessSigns cX9_needlessSigns 2 (some .int) ∈ ZW := zs_18 _ (List.mem_of_getElem? (i := 7) rfl)
theorem zw_548 : Cond.code yX9_undo cX9_undo 1 (some .int) ∈ ZW := zs_18 _ (List.mem_of_getElem? (i := 8) rfl)
theorem zw_549 : Cond.constantLong RX9 279 (31) ∈ ZW := zs_18 _ (List.mem_of_getElem? (i := 9) rfl)
theorem zw_550 : Cond.code yX9_mix cX9_mix 4 (some .long) ∈ ZW := zs_18 _ (List.mem_of_getElem? (i := 10) rfl)
theorem zw_551 : Cond.methodLink RX9 281 yX9_measure ∈ ZW := zs_18 _ (List.mem_of_getElem? (i := 11) rfl)
theorem zw_552 : Cond.instanceMethod yX9_measure ∈ ZW := zs_18 _ (List.mem_of_getElem? (i := 12) rfl)
theorem zw_553 : Cond.selects RX9 yX9_measure yX9_measure ∈ ZW := zs_18 _ (List.mem_of_getElem? (i := 13) rfl)
theorem zw_554 : Cond.methodLink RX9 255 yX9_mix ∈ ZW := zs_18 _ (List.mem_of_getElem? (i := 14) rfl)
theorem zw_555 : Cond.static yX9_mix ∈ ZW := zs_18 _ (List.mem_of_getElem? (i := 15) rfl)
theorem zw_556 : Cond.code yX9_mixValues cX9_mixValues 7 (some .long) ∈ ZW := zs_18 _ (List.mem_of_getElem? (i := 16) rfl)
theorem zw_557 : Cond.instanceMethod yX4_hasEvent ∈ ZW := zs_18 _ (List.mem_of_getElem? (i := 17) rfl)
theorem zw_558 : Cond.selects RX4 yX4_hasEvent yX4_hasEvent ∈ ZW := zs_18 _ (List.mem_of_getElem? (i := 18) rfl)
theorem zw_559 : Cond.methodLink RX9 165 yX9_noteValue ∈ ZW := zs_18 _ (List.mem_of_getElem? (i := 19) rfl)
theorem zw_560 : Cond.instanceMethod yX9_noteValue ∈ ZW := zs_18 _ (List.mem_of_getElem? (i := 20) rfl)
theorem zw_561 : Cond.selects RX9 yX9_noteValue yX9_noteValue ∈ ZW := zs_18 _ (List.mem_of_getElem? (i := 21) rfl)
theorem zw_562 : Cond.methodLink RX9 287 yX0_pitchOf ∈ ZW := zs_18 _ (List.mem_of_getElem? (i := 22) rfl)
theorem zw_563 : Cond.methodLink RX9 290 yX0_signOf ∈ ZW := zs_18 _ (List.mem_of_getElem? (i := 23) rfl)
theorem zw_564 : Cond.methodLink RX9 293 yX0_isTied ∈ ZW := zs_18 _ (List.mem_of_getElem? (i := 24) rfl)
theorem zw_565 : Cond.methodLink RX9 296 yX6_shift ∈ ZW := zs_18 _ (List.mem_of_getElem? (i := 25) rfl)
theorem zw_566 : Cond.code yX9_mixVoice cX9_mixVoice 9 (some .long) ∈ ZW := zs_18 _ (List.mem_of_getElem? (i := 26) rfl)
theorem zw_567 : Cond.selects RX5 yX5_tellNumbered yX5_tellNumbered ∈ ZW := zs_18 _ (List.mem_of_getElem? (i := 27) rfl)
theorem zw_568 : Cond.methodLink RX5 95 yX5_beginWord ∈ ZW := zs_18 _ (List.mem_of_getElem? (i := 28) rfl)
theorem zw_569 : Cond.instanceMethod yX5_beginWord ∈ ZW := zs_18 _ (List.mem_of_getElem? (i := 29) rfl)
theorem zw_570 : Cond.selects RX5 yX5_beginWord yX5_beginWord ∈ ZW := zs_19 _ (List.mem_of_getElem? (i := 0) rfl)
theorem zw_571 : Cond.methodLink RX5 105 yX5_put ∈ ZW := zs_19 _ (List.mem_of_getElem? (i := 1) rfl)
theorem zw_572 : Cond.instanceMethod yX5_put ∈ ZW := zs_19 _ (List.mem_of_getElem? (i := 2) rfl)
theorem zw_573 : Cond.selects RX5 yX5_put yX5_put ∈ ZW := zs_19 _ (List.mem_of_getElem? (i := 3) rfl)
theorem zw_574 : Cond.methodLink RX5 67 Lib.Math.abs.name ∈ ZW := zs_19 _ (List.mem_of_getElem? (i := 4) rfl)
theorem zw_575 : Cond.static Lib.Math.abs.name ∈ ZW := zs_19 _ (List.mem_of_getElem? (i := 5) rfl)
theorem zw_576 : Cond.code Lib.Math.abs.name Lib.Math.abs.code 1 (some .int) ∈ ZW := zs_19 _ (List.mem_of_getElem? (i := 6) rfl)
theorem zw_577 : Cond.methodLink RX5 55 yX5_tellVoice ∈ ZW := zs_19 _ (List.mem_of_getElem? (i := 7) rfl)
theorem zw_578 : Cond.code yX9_mixSentence cX9_mixSentence 7 (some .long) ∈ ZW := zs_19 _ (List.mem_of_getElem? (i := 8) rfl)
theorem zw_579 : Cond.constantLong RX9 253 (43179) ∈ ZW := zs_19 _ (List.mem_of_getElem? (i := 9) rfl)
theorem zw_580 : Cond.methodLink RX9 247 yX1_size ∈ ZW := zs_19 _ (List.mem_of_getElem? (i := 10) rfl)
theorem zw_581 : Cond.instanceMethod yX1_size ∈ ZW := zs_19 _ (List.mem_of_getElem? (i := 11) rfl)
theorem zw_582 : Cond.selects RX1 yX1_size yX1_size ∈ ZW := zs_19 _ (List.mem_of_getElem? (i := 12) rfl)
theorem zw_583 : Cond.methodLink RX9 259 yX9_whole ∈ ZW := zs_19 _ (List.mem_of_getElem? (i := 13) rfl)
theorem zw_584 : Cond.instanceMethod yX9_whole ∈ ZW := zs_19 _ (List.mem_of_getElem? (i := 14) rfl)
theorem zw_585 : Cond.selects RX9 yX9_whole yX9_whole ∈ ZW := zs_19 _ (List.mem_of_getElem? (i := 15) rfl)
theorem zw_586 : Cond.methodLink RX9 185 yX9_eventsOfKind ∈ ZW := zs_19 _ (List.mem_of_getElem? (i := 16) rfl)
theorem zw_587 : Cond.instanceMethod yX9_eventsOfKind ∈ ZW := zs_19 _ (List.mem_of_getElem? (i := 17) rfl)
theorem zw_588 : Cond.selects RX9 yX9_eventsOfKind yX9_eventsOfKind ∈ ZW := zs_19 _ (List.mem_of_getElem? (i := 18) rfl)
theorem zw_589 : Cond.methodLink RX9 309 yX9_isOfKind ∈ ZW := zs_19 _ (List.mem_of_getElem? (i := 19) rfl)
theorem zw_590 : Cond.instanceMethod yX9_isOfKind ∈ ZW := zs_19 _ (List.mem_of_getElem? (i := 20) rfl)
theorem zw_591 : Cond.selects RX9 yX9_isOfKind yX9_isOfKind ∈ ZW := zs_19 _ (List.mem_of_getElem? (i := 21) rfl)
theorem zw_592 : Cond.methodLink RX9 305 yX6_isBrokenTie ∈ ZW := zs_19 _ (List.mem_of_getElem? (i := 22) rfl)
theorem zw_593 : Cond.instanceMethod yX6_isBrokenTie ∈ ZW := zs_19 _ (List.mem_of_getElem? (i := 23) rfl)
theorem zw_594 : Cond.selects RX6 yX6_isBrokenTie yX6_isBrokenTie ∈ ZW := zs_19 _ (List.mem_of_getElem? (i := 24) rfl)
theorem zw_595 : Cond.methodLink RX9 145 yX4_voiceTicks ∈ ZW := zs_19 _ (List.mem_of_getElem? (i := 25) rfl)
theorem zw_596 : Cond.methodLink RX9 266 yX9_mixVoice ∈ ZW := zs_19 _ (List.mem_of_getElem? (i := 26) rfl)
theorem zw_597 : Cond.instanceMethod yX9_mixVoice ∈ ZW := zs_19 _ (List.mem_of_getElem? (i := 27) rfl)
theorem zw_598 : Cond.selects RX9 yX9_mixVoice yX9_mixVoice ∈ ZW := zs_19 _ (List.mem_of_getElem? (i := 28) rfl)
theorem zw_599 : Cond.methodLink RX9 284 yX9_event ∈ ZW := zs_19 _ (List.mem_of_getElem? (i := 29) rfl)
theorem zw_600 : Cond.instanceMethod yX9_event ∈ ZW := zs_20 _ (List.mem_of_getElem? (i := 0) rfl)
theorem zw_601 : Cond.selects RX9 yX9_event yX9_event ∈ ZW := zs_20 _ (List.mem_of_getElem? (i := 1) rfl)
theorem zw_602 : Cond.methodLink RX9 136 yX9_requireEvent ∈ ZW := zs_20 _ (List.mem_of_getElem? (i := 2) rfl)
theorem zw_603 : Cond.instanceMethod yX9_requireEvent ∈ ZW := zs_20 _ (List.mem_of_getElem? (i := 3) rfl)
theorem zw_604 : Cond.selects RX9 yX9_requireEvent yX9_requireEvent ∈ ZW := zs_20 _ (List.mem_of_getElem? (i := 4) rfl)
theorem zw_605 : Cond.methodLink RX9 335 yX4_hasEvent ∈ ZW := zs_20 _ (List.mem_of_getElem? (i := 5) rfl)
theorem zw_606 : Cond.methodLink RX6 48 yX0_octaveOf ∈ ZW := zs_20 _ (List.mem_of_getElem? (i := 6) rfl)
theorem zw_607 : Cond.methodLink RX9 302 yX6_held ∈ ZW := zs_20 _ (List.mem_of_getElem? (i := 7) rfl)
theorem zw_608 : Cond.methodLink RX9 270 yX9_crossings ∈ ZW := zs_20 _ (List.mem_of_getElem? (i := 8) rfl)
theorem zw_609 : Cond.instanceMethod yX9_crossings ∈ ZW := zs_20 _ (List.mem_of_getElem? (i := 9) rfl)
theorem zw_610 : Cond.selects RX9 yX9_crossings yX9_crossings ∈ ZW := zs_20 _ (List.mem_of_getElem? (i := 10) rfl)
theorem zw_611 : Cond.methodLink RX6 108 yX4_ticks ∈ ZW := zs_20 _ (List.mem_of_getElem? (i := 11) rfl)
theorem zw_612 : Cond.methodLink RX6 105 yX0_isNote ∈ ZW := zs_20 _ (List.mem_of_getElem? (i := 12) rfl)
theorem zw_613 : Cond.methodLink RX6 111 yX6_sounding ∈ ZW := zs_20 _ (List.mem_of_getElem? (i := 13) rfl)
theorem zw_614 : Cond.methodLink RX6 119 yX6_ticksAbove ∈ ZW := zs_20 _ (List.mem_of_getElem? (i := 14) rfl)
theorem zw_615 : Cond.instanceMethod yX6_ticksAbove ∈ ZW := zs_20 _ (List.mem_of_getElem? (i := 15) rfl)
theorem zw_616 : Cond.selects RX6 yX6_ticksAbove yX6_ticksAbove ∈ ZW := zs_20 _ (List.mem_of_getElem? (i := 16) rfl)
theorem zw_617 : Cond.methodLink RX6 123 Lib.Math.max.name ∈ ZW := zs_20 _ (List.mem_of_getElem? (i := 17) rfl)
theorem zw_618 : Cond.methodLink RX9 273 yX9_timesPlayed ∈ ZW := zs_20 _ (List.mem_of_getElem? (i := 18) rfl)
theorem zw_619 : Cond.instanceMethod yX9_timesPlayed ∈ ZW := zs_20 _ (List.mem_of_getElem? (i := 19) rfl)
theorem zw_620 : Cond.selects RX9 yX9_timesPlayed yX9_timesPlayed ∈ ZW := zs_20 _ (List.mem_of_getElem? (i := 20) rfl)
theorem zw_621 : Cond.methodLink RX9 276 yX9_mixSentence ∈ ZW := zs_20 _ (List.mem_of_getElem? (i := 21) rfl)
theorem zw_622 : Cond.instanceMethod yX9_mixSentence ∈ ZW := zs_20 _ (List.mem_of_getElem? (i := 22) rfl)
theorem zw_623 : Cond.selects RX9 yX9_mixSentence yX9_mixSentence ∈ ZW := zs_20 _ (List.mem_of_getElem? (i := 23) rfl)
theorem zw_624 : Cond.methodLink RX5 42 yX5_differsFromBefore ∈ ZW := zs_20 _ (List.mem_of_getElem? (i := 24) rfl)
theorem zw_625 : Cond.static yX5_differsFromBefore ∈ ZW := zs_20 _ (List.mem_of_getElem? (i := 25) rfl)
theorem zw_626 : Cond.methodLink RX5 46 yX5_tellKey ∈ ZW := zs_20 _ (List.mem_of_getElem? (i := 26) rfl)
theorem zw_627 : Cond.instanceMethod yX5_tellKey ∈ ZW := zs_20 _ (List.mem_of_getElem? (i := 27) rfl)
theorem zw_628 : Cond.selects RX5 yX5_tellKey yX5_tellKey ∈ ZW := zs_20 _ (List.mem_of_getElem? (i := 28) rfl)
theorem zw_629 : Cond.methodLink RX9 188 yX2_at ∈ ZW := zs_20 _ (List.mem_of_getElem? (i := 29) rfl)
theorem zw_630 : Cond.methodLink RX3 22 yX4_becomeDraft ∈ ZW := zs_21 _ (List.mem_of_getElem? (i := 0) rfl)
theorem zw_631 : Cond.instanceMethod yX4_becomeDraft ∈ ZW := zs_21 _ (List.mem_of_getElem? (i := 1) rfl)
theorem zw_632 : Cond.selects RX4 yX4_becomeDraft yX4_becomeDraft ∈ ZW := zs_21 _ (List.mem_of_getElem? (i := 2) rfl)
theorem zw_633 : Cond.methodLink RX4 80 yX4_appendMeasure ∈ ZW := zs_21 _ (List.mem_of_getElem? (i := 3) rfl)
theorem zw_634 : Cond.instanceMethod yX4_appendMeasure ∈ ZW := zs_21 _ (List.mem_of_getElem? (i := 4) rfl)
theorem zw_635 : Cond.selects RX4 yX4_appendMeasure yX4_appendMeasure ∈ ZW := zs_21 _ (List.mem_of_getElem? (i := 5) rfl)
theorem zw_636 : Cond.methodLink RX4 30 yX4_isFull ∈ ZW := zs_21 _ (List.mem_of_getElem? (i := 6) rfl)
theorem zw_637 : Cond.instanceMethod yX4_isFull ∈ ZW := zs_21 _ (List.mem_of_getElem? (i := 7) rfl)
theorem zw_638 : Cond.selects RX4 yX4_isFull yX4_isFull ∈ ZW := zs_21 _ (List.mem_of_getElem? (i := 8) rfl)
theorem zw_639 : Cond.code yX9_digest cX9_digest 4 (some .long) ∈ ZW := zs_21 _ (List.mem_of_getElem? (i := 9) rfl)
theorem zw_640 : Cond.code yX10_init cX10_init 1 none ∈ ZW := zs_21 _ (List.mem_of_getElem? (i := 10) rfl)
theorem zw_641 : Cond.fieldLink RX10 31 "SpokenBarsModel" "code" "I" ∈ ZW := zs_21 _ (List.mem_of_getElem? (i := 11) rfl)
theorem zw_642 : Cond.code yX10_thrown cX10_thrown 1 (some .int) ∈ ZW := zs_21 _ (List.mem_of_getElem? (i := 12) rfl)
theorem zw_643 : Cond.code yX10_refused cX10_refused 2 (some .boolean) ∈ ZW := zs_21 _ (List.mem_of_getElem? (i := 13) rfl)
theorem zw_644 : Cond.code yX10_in cX10_in 3 (some .boolean) ∈ ZW := zs_21 _ (List.mem_of_getElem? (i := 14) rfl)
theorem zw_645 : Cond.code yX10_saves cX10_saves 2 none ∈ ZW := zs_21 _ (List.mem_of_getElem? (i := 15) rfl)
theorem zw_646 : Cond.code yX10_undo cX10_undo 2 (some .int) ∈ ZW := zs_21 _ (List.mem_of_getElem? (i := 16) rfl)
theorem zw_647 : Cond.code yX10_base cX10_base 1 (some .int) ∈ ZW := zs_21 _ (List.mem_of_getElem? (i := 17) rfl)
theorem zw_648 : Cond.code yX10_of cX10_of 3 (some .int) ∈ ZW := zs_21 _ (List.mem_of_getElem? (i := 18) rfl)
theorem zw_649 : Cond.code yX10_cell cX10_cell 3 (some .int) ∈ ZW := zs_21 _ (List.mem_of_getElem? (i := 19) rfl)
theorem zw_650 : Cond.code yX10_isMeasure cX10_isMeasure 2 (some .boolean) ∈ ZW := zs_21 _ (List.mem_of_getElem? (i := 20) rfl)
theorem zw_651 : Cond.code yX10_isVoice cX10_isVoice 3 (some .boolean) ∈ ZW := zs_21 _ (List.mem_of_getElem? (i := 21) rfl)
theorem zw_652 : Cond.code yX10_isEvent cX10_isEvent 4 (some .boolean) ∈ ZW := zs_21 _ (List.mem_of_getElem? (i := 22) rfl)
theorem zw_653 : Cond.code yX10_ticksOf cX10_ticksOf 2 (some .int) ∈ ZW := zs_21 _ (List.mem_of_getElem? (i := 23) rfl)
theorem zw_654 : Cond.code yX10_lasts cX10_lasts 2 (some .int) ∈ ZW := zs_21 _ (List.mem_of_getElem? (i := 24) rfl)
theorem zw_655 : Cond.code yX10_ticksTo cX10_ticksTo 6 (some .int) ∈ ZW := zs_21 _ (List.mem_of_getElem? (i := 25) rfl)
theorem zw_656 : Cond.code yX10_addMeasure cX10_addMeasure 3 (some .int) ∈ ZW := zs_21 _ (List.mem_of_getElem? (i := 26) rfl)
theorem zw_657 : Cond.code yX10_removeMeasure cX10_removeMeasure 3 (some .int) ∈ ZW := zs_21 _ (List.mem_of_getElem? (i := 27) rfl)
theorem zw_658 : Cond.code yX10_isLower cX10_isLower 1 (some .boolean) ∈ ZW := zs_21 _ (List.mem_of_getElem? (i := 28) rfl)
theorem zw_659 : Cond.methodLink RX10 42 yX10_in ∈ ZW := zs_21 _ (List.mem_of_getElem? (i := 29) rfl)
theorem zw_660 : Cond.static yX10_in ∈ ZW := zs_22 _ (List.mem_of_getElem? (i := 0) rfl)
theorem zw_661 : Cond.initialized RX10 ∈ ZW := zs_22 _ (List.mem_of_getElem? (i := 1) rfl)
theorem zw_662 : Cond.methodLink RX10 71 yX10_isLower ∈ ZW := zs_22 _ (List.mem_of_getElem? (i := 2) rfl)
theorem zw_663 : Cond.static yX10_isLower ∈ ZW := zs_22 _ (List.mem_of_getElem? (i := 3) rfl)
theorem zw_664 : Cond.code yX10_canBe cX10_canBe 2 (some .boolean) ∈ ZW := zs_22 _ (List.mem_of_getElem? (i := 4) rfl)
theorem zw_665 : Cond.code yX10_set cX10_set 5 (some .int) ∈ ZW := zs_22 _ (List.mem_of_getElem? (i := 5) rfl)
theorem zw_666 : Cond.code yX10_comes cX10_comes 8 (some .int) ∈ ZW := zs_22 _ (List.mem_of_getElem? (i := 6) rfl)
theorem zw_667 : Cond.code yX10_full cX10_full 3 (some .int) ∈ ZW := zs_22 _ (List.mem_of_getElem? (i := 7) rfl)
theorem zw_668 : Cond.code yX10_addNote cX10_addNote 8 (some .int) ∈ ZW := zs_22 _ (List.mem_of_getElem? (i := 8) rfl)
theorem zw_669 : Cond.code yX10_addRest cX10_addRest 4 (some .int) ∈ ZW := zs_22 _ (List.mem_of_getElem? (i := 9) rfl)
theorem zw_670 : Cond.code yX10_removeEvent cX10_removeEvent 6 (some .int) ∈ ZW := zs_22 _ (List.mem_of_getElem? (i := 10) rfl)
theorem zw_671 : Cond.code yX10_bySign cX10_bySign 1 (some .int) ∈ ZW := zs_22 _ (List.mem_of_getElem? (i := 11) rfl)
theorem zw_672 : Cond.code yX10_byKey cX10_byKey 3 (some .int) ∈ ZW := zs_22 _ (List.mem_of_getElem? (i := 12) rfl)
theorem zw_673 : Cond.code yX10_byMeasure cX10_byMeasure 7 (some .int) ∈ ZW := zs_22 _ (List.mem_of_getElem? (i := 13) rfl)
theorem zw_674 : Cond.code yX10_shift cX10_shift 10 (some .int) ∈ ZW := zs_22 _ (List.mem_of_getElem? (i := 14) rfl)
theorem zw_675 : Cond.code yX10_sound cX10_sound 6 (some .int) ∈ ZW := zs_22 _ (List.mem_of_getElem? (i := 15) rfl)
theorem zw_676 : Cond.code yX10_isNote cX10_isNote 4 (some .boolean) ∈ ZW := zs_22 _ (List.mem_of_getElem? (i := 16) rfl)
theorem zw_677 : Cond.code yX10_holds cX10_holds 5 (some .boolean) ∈ ZW := zs_22 _ (List.mem_of_getElem? (i := 17) rfl)
theorem zw_678 : Cond.code yX10_held cX10_held 9 (some .int) ∈ ZW := zs_22 _ (List.mem_of_getElem? (i := 18) rfl)
theorem zw_679 : Cond.code yX10_isBroken cX10_isBroken 4 (some .boolean) ∈ ZW := zs_22 _ (List.mem_of_getElem? (i := 19) rfl)
theorem zw_680 : Cond.code yX10_measureTold cX10_measureTold 3 (some .int) ∈ ZW := zs_22 _ (List.mem_of_getElem? (i := 20) rfl)
theorem zw_681 : Cond.selects RX10 yX10_lasts yX10_lasts ∈ ZW := zs_22 _ (List.mem_of_getElem? (i := 21) rfl)
theorem zw_682 : Cond.methodLink RX10 111 yX10_ticksTo ∈ ZW := zs_22 _ (List.mem_of_getElem? (i := 22) rfl)
theorem zw_683 : Cond.instanceMethod yX10_ticksTo ∈ ZW := zs_22 _ (List.mem_of_getElem? (i := 23) rfl)
theorem zw_684 : Cond.selects RX10 yX10_ticksTo yX10_ticksTo ∈ ZW := zs_22 _ (List.mem_of_getElem? (i := 24) rfl)
theorem zw_685 : Cond.methodLink RX10 57 yX10_cell ∈ ZW := zs_22 _ (List.mem_of_getElem? (i := 25) rfl)
theorem zw_686 : Cond.static yX10_cell ∈ ZW := zs_22 _ (List.mem_of_getElem? (i := 26) rfl)
theorem zw_687 : Cond.methodLink RX10 61 yX10_ticksOf ∈ ZW := zs_22 _ (List.mem_of_getElem? (i := 27) rfl)
theorem zw_688 : Cond.static yX10_ticksOf ∈ ZW := zs_22 _ (List.mem_of_getElem? (i := 28) rfl)
theorem zw_689 : Cond.code yX10_measure cX10_measure 3 (some .int) ∈ ZW := zs_22 _ (List.mem_of_getElem? (i := 29) rfl)
theorem zw_690 : Cond.instanceMethod yX10_of ∈ ZW := zs_23 _ (List.mem_of_getElem? (i := 0) rfl)
theorem zw_691 : Cond.selects RX10 yX10_of yX10_of ∈ ZW := zs_23 _ (List.mem_of_getElem? (i := 1) rfl)
theorem zw_692 : Cond.methodLink RX10 93 yX10_byMeasure ∈ ZW := zs_23 _ (List.mem_of_getElem? (i := 2) rfl)
theorem zw_693 : Cond.instanceMethod yX10_byMeasure ∈ ZW := zs_23 _ (List.mem_of_getElem? (i := 3) rfl)
theorem zw_694 : Cond.selects RX10 yX10_byMeasure yX10_byMeasure ∈ ZW := zs_23 _ (List.mem_of_getElem? (i := 4) rfl)
theorem zw_695 : Cond.methodLink RX10 90 yX10_byKey ∈ ZW := zs_23 _ (List.mem_of_getElem? (i := 5) rfl)
theorem zw_696 : Cond.static yX10_byKey ∈ ZW := zs_23 _ (List.mem_of_getElem? (i := 6) rfl)
theorem zw_697 : Cond.methodLink RX10 120 yX10_sound ∈ ZW := zs_23 _ (List.mem_of_getElem? (i := 7) rfl)
theorem zw_698 : Cond.instanceMethod yX10_sound ∈ ZW := zs_23 _ (List.mem_of_getElem? (i := 8) rfl)
theorem zw_699 : Cond.selects RX10 yX10_sound yX10_sound ∈ ZW := zs_23 _ (List.mem_of_getElem? (i := 9) rfl)
theorem zw_700 : Cond.methodLink RX10 123 yX10_held ∈ ZW := zs_23 _ (List.mem_of_getElem? (i := 10) rfl)
theorem zw_701 : Cond.instanceMethod yX10_held ∈ ZW := zs_23 _ (List.mem_of_getElem? (i := 11) rfl)
theorem zw_702 : Cond.selects RX10 yX10_held yX10_held ∈ ZW := zs_23 _ (List.mem_of_getElem? (i := 12) rfl)
theorem zw_703 : Cond.fieldLink RX10 99 "SpokenBarsModel" "nextM" "I" ∈ ZW := zs_23 _ (List.mem_of_getElem? (i := 13) rfl)
theorem zw_704 : Cond.fieldLink RX10 102 "SpokenBarsModel" "nextE" "I" ∈ ZW := zs_23 _ (List.mem_of_getElem? (i := 14) rfl)
theorem zw_705 : Cond.methodLink RX10 105 yX10_holds ∈ ZW := zs_23 _ (List.mem_of_getElem? (i := 15) rfl)
theorem zw_706 : Cond.instanceMethod yX10_holds ∈ ZW := zs_23 _ (List.mem_of_getElem? (i := 16) rfl)
theorem zw_707 : Cond.selects RX10 yX10_holds yX10_holds ∈ ZW := zs_23 _ (List.mem_of_getElem? (i := 17) rfl)
theorem zw_708 : Cond.methodLink RX10 126 yX10_isBroken ∈ ZW := zs_23 _ (List.mem_of_getElem? (i := 18) rfl)
theorem zw_709 : Cond.instanceMethod yX10_isBroken ∈ ZW := zs_23 _ (List.mem_of_getElem? (i := 19) rfl)
theorem zw_710 : Cond.selects RX10 yX10_isBroken yX10_isBroken ∈ ZW := zs_23 _ (List.mem_of_getElem? (i := 20) rfl)
theorem zw_711 : Cond.code yX10_eventTold cX10_eventTold 6 (some .int) ∈ ZW := zs_23 _ (List.mem_of_getElem? (i := 21) rfl)
theorem zw_712 : Cond.methodLink RX10 129 yX10_eventTold ∈ ZW := zs_23 _ (List.mem_of_getElem? (i := 22) rfl)
theorem zw_713 : Cond.instanceMethod yX10_eventTold ∈ ZW := zs_23 _ (List.mem_of_getElem? (i := 23) rfl)
theorem zw_714 : Cond.selects RX10 yX10_eventTold yX10_eventTold ∈ ZW := zs_23 _ (List.mem_of_getElem? (i := 24) rfl)
theorem zw_715 : Cond.methodLink RX10 117 yX10_isNote ∈ ZW := zs_23 _ (List.mem_of_getElem? (i := 25) rfl)
theorem zw_716 : Cond.instanceMethod yX10_isNote ∈ ZW := zs_23 _ (List.mem_of_getElem? (i := 26) rfl)
theorem zw_717 : Cond.selects RX10 yX10_isNote yX10_isNote ∈ ZW := zs_23 _ (List.mem_of_getElem? (i := 27) rfl)
theorem zw_718 : Cond.methodLink RX10 96 yX10_shift ∈ ZW := zs_23 _ (List.mem_of_getElem? (i := 28) rfl)
theorem zw_719 : Cond.instanceMethod yX10_shift ∈ ZW := zs_23 _ (List.mem_of_getElem? (i := 29) rfl)
theorem zw_720 : Cond.selects RX10 yX10_shift yX10_shift ∈ ZW := zs_24 _ (List.mem_of_getElem? (i := 0) rfl)
theorem zw_721 : Cond.methodLink RX10 87 yX10_bySign ∈ ZW := zs_24 _ (List.mem_of_getElem? (i := 1) rfl)
theorem zw_722 : Cond.static yX10_bySign ∈ ZW := zs_24 _ (List.mem_of_getElem? (i := 2) rfl)
theorem zw_723 : Cond.code yX10_event cX10_event 5 (some .int) ∈ ZW := zs_24 _ (List.mem_of_getElem? (i := 3) rfl)
theorem zw_724 : Cond.code yX10_eventAt cX10_eventAt 6 (some .int) ∈ ZW := zs_24 _ (List.mem_of_getElem? (i := 4) rfl)
theorem zw_725 : Cond.code yX10_together cX10_together 10 (some .int) ∈ ZW := zs_24 _ (List.mem_of_getElem? (i := 5) rfl)
theorem zw_726 : Cond.methodLink RX10 108 yX10_lasts ∈ ZW := zs_24 _ (List.mem_of_getElem? (i := 6) rfl)
theorem zw_727 : Cond.instanceMethod yX10_lasts ∈ ZW := zs_24 _ (List.mem_of_getElem? (i := 7) rfl)
theorem zw_728 : Cond.code yX10_crossed cX10_crossed 6 (some .int) ∈ ZW := zs_24 _ (List.mem_of_getElem? (i := 8) rfl)
theorem zw_729 : Cond.methodLink RX10 133 yX10_together ∈ ZW := zs_24 _ (List.mem_of_getElem? (i := 9) rfl)
theorem zw_730 : Cond.instanceMethod yX10_together ∈ ZW := zs_24 _ (List.mem_of_getElem? (i := 10) rfl)
theorem zw_731 : Cond.selects RX10 yX10_together yX10_together ∈ ZW := zs_24 _ (List.mem_of_getElem? (i := 11) rfl)
theorem zw_732 : Cond.code yX10_crossings cX10_crossings 2 (some .int) ∈ ZW := zs_24 _ (List.mem_of_getElem? (i := 12) rfl)
theorem zw_733 : Cond.code yX10_events cX10_events 7 (some .int) ∈ ZW := zs_24 _ (List.mem_of_getElem? (i := 13) rfl)
theorem zw_734 : Cond.code yX10_uneven cX10_uneven 4 (some .int) ∈ ZW := zs_24 _ (List.mem_of_getElem? (i := 14) rfl)
theorem zw_735 : Cond.code yX10_finds cX10_finds 9 none ∈ ZW := zs_24 _ (List.mem_of_getElem? (i := 15) rfl)
theorem zw_736 : Cond.code yX10_playedTicks cX10_playedTicks 3 (some .int) ∈ ZW := zs_24 _ (List.mem_of_getElem? (i := 16) rfl)
theorem zw_737 : Cond.code yX10_wholeTold cX10_wholeTold 2 (some .int) ∈ ZW := zs_24 _ (List.mem_of_getElem? (i := 17) rfl)
theorem zw_738 : Cond.instanceMethod yX10_events ∈ ZW := zs_24 _ (List.mem_of_getElem? (i := 18) rfl)
theorem zw_739 : Cond.selects RX10 yX10_events yX10_events ∈ ZW := zs_24 _ (List.mem_of_getElem? (i := 19) rfl)
theorem zw_740 : Cond.code yX10_whole cX10_whole 2 (some .int) ∈ ZW := zs_24 _ (List.mem_of_getElem? (i := 20) rfl)
theorem zw_741 : Cond.code yX10_order cX10_order 2 (some .int) ∈ ZW := zs_24 _ (List.mem_of_getElem? (i := 21) rfl)
theorem zw_742 : Cond.code yX10_plays cX10_plays 4 (some .int) ∈ ZW := zs_24 _ (List.mem_of_getElem? (i := 22) rfl)
theorem zw_743 : Cond.methodLink RX10 53 yX10_of ∈ ZW := zs_24 _ (List.mem_of_getElem? (i := 23) rfl)
theorem zw_744 : Cond.code yX10_timesPlayed cX10_timesPlayed 2 (some .int) ∈ ZW := zs_24 _ (List.mem_of_getElem? (i := 24) rfl)
theorem zw_745 : Cond.code yX10_secondsOf cX10_secondsOf 2 (some .float) ∈ ZW := zs_24 _ (List.mem_of_getElem? (i := 25) rfl)
theorem zw_746 : Cond.code yX10_seconds cX10_seconds 4 (some .float) ∈ ZW := zs_24 _ (List.mem_of_getElem? (i := 26) rfl)
theorem zw_747 : Cond.code yX10_placeAt cX10_placeAt 6 (some .int) ∈ ZW := zs_24 _ (List.mem_of_getElem? (i := 27) rfl)
theorem zw_748 : Cond.code yX10_beginOf cX10_beginOf 4 (some .int) ∈ ZW := zs_24 _ (List.mem_of_getElem? (i := 28) rfl)
theorem zw_749 : Cond.code yX10_gap cX10_gap 1 none ∈ ZW := zs_24 _ (List.mem_of_getElem? (i := 29) rfl)
theorem zw_750 : Cond.code yX10_writes cX10_writes 2 none ∈ ZW := zs_25 _ (List.mem_of_getElem? (i := 0) rfl)
theorem zw_751 : Cond.code yX10_writesWord cX10_writesWord 3 none ∈ ZW := zs_25 _ (List.mem_of_getElem? (i := 1) rfl)
theorem zw_752 : Cond.code yX10_writesNumber cX10_writesNumber 2 none ∈ ZW := zs_25 _ (List.mem_of_getElem? (i := 2) rfl)
theorem zw_753 : Cond.methodLink RX10 186 yX10_writesNumber ∈ ZW := zs_25 _ (List.mem_of_getElem? (i := 3) rfl)
theorem zw_754 : Cond.instanceMethod yX10_writesNumber ∈ ZW := zs_25 _ (List.mem_of_getElem? (i := 4) rfl)
theorem zw_755 : Cond.selects RX10 yX10_writesNumber yX10_writesNumber ∈ ZW := zs_25 _ (List.mem_of_getElem? (i := 5) rfl)
theorem zw_756 : Cond.code yX10_writesEvent cX10_writesEvent 6 none ∈ ZW := zs_25 _ (List.mem_of_getElem? (i := 6) rfl)
theorem zw_757 : Cond.code yX10_writesKey cX10_writesKey 2 none ∈ ZW := zs_25 _ (List.mem_of_getElem? (i := 7) rfl)
theorem zw_758 : Cond.code yX10_isOther cX10_isOther 3 (some .boolean) ∈ ZW := zs_25 _ (List.mem_of_getElem? (i := 8) rfl)
theorem zw_759 : Cond.code yX10_tellsAll cX10_tellsAll 4 none ∈ ZW := zs_25 _ (List.mem_of_getElem? (i := 9) rfl)
theorem zw_760 : Cond.methodLink RX10 192 yX10_writesKey ∈ ZW := zs_25 _ (List.mem_of_getElem? (i := 10) rfl)
theorem zw_761 : Cond.instanceMethod yX10_writesKey ∈ ZW := zs_25 _ (List.mem_of_getElem? (i := 11) rfl)
theorem zw_762 : Cond.selects RX10 yX10_writesKey yX10_writesKey ∈ ZW := zs_25 _ (List.mem_of_getElem? (i := 12) rfl)
theorem zw_763 : Cond.methodLink RX10 195 yX10_writesEvent ∈ ZW := zs_25 _ (List.mem_of_getElem? (i := 13) rfl)
theorem zw_764 : Cond.instanceMethod yX10_writesEvent ∈ ZW := zs_25 _ (List.mem_of_getElem? (i := 14) rfl)
theorem zw_765 : Cond.selects RX10 yX10_writesEvent yX10_writesEvent ∈ ZW := zs_25 _ (List.mem_of_getElem? (i := 15) rfl)
theorem zw_766 : Cond.code yX10_sentenceLength cX10_sentenceLength 2 (some .int) ∈ ZW := zs_25 _ (List.mem_of_getElem? (i := 16) rfl)
theorem zw_767 : Cond.code yX10_sentenceByte cX10_sentenceByte 3 (some .int) ∈ ZW := zs_25 _ (List.mem_of_getElem? (i := 17) rfl)
theorem zw_768 : Cond.code yX10_words cX10_words 4 (some .int) ∈ ZW := zs_25 _ (List.mem_of_getElem? (i := 18) rfl)
theorem zw_769 : Cond.instanceMethod yX10_isOther ∈ ZW := zs_25 _ (List.mem_of_getElem? (i := 19) rfl)
theorem zw_770 : Cond.selects RX10 yX10_isOther yX10_isOther ∈ ZW := zs_25 _ (List.mem_of_getElem? (i := 20) rfl)
theorem zw_771 : Cond.code yX10_copySentence cX10_copySentence 3 (some .int) ∈ ZW := zs_25 _ (List.mem_of_getElem? (i := 21) rfl)
theorem zw_772 : Cond.code yX10_type cX10_type 2 (some .int) ∈ ZW := zs_25 _ (List.mem_of_getElem? (i := 22) rfl)
theorem zw_773 : Cond.fieldLink RX10 152 "SpokenBarsModel" "length" "I" ∈ ZW := zs_25 _ (List.mem_of_getElem? (i := 23) rfl)
theorem zw_774 : Cond.methodLink RX10 38 yX10_refused ∈ ZW := zs_25 _ (List.mem_of_getElem? (i := 24) rfl)
theorem zw_775 : Cond.instanceMethod yX10_refused ∈ ZW := zs_25 _ (List.mem_of_getElem? (i := 25) rfl)
theorem zw_776 : Cond.selects RX10 yX10_refused yX10_refused ∈ ZW := zs_25 _ (List.mem_of_getElem? (i := 26) rfl)
theorem zw_777 : Cond.code yX10_cut cX10_cut 2 (some .int) ∈ ZW := zs_25 _ (List.mem_of_getElem? (i := 27) rfl)
theorem zw_778 : Cond.code yX10_clearText cX10_clearText 2 (some .int) ∈ ZW := zs_25 _ (List.mem_of_getElem? (i := 28) rfl)
theorem zw_779 : Cond.code yX10_next cX10_next 1 none ∈ ZW := zs_25 _ (List.mem_of_getElem? (i := 29) rfl)
theorem zw_780 : Cond.code yX10_takesWord cX10_takesWord 5 (some .boolean) ∈ ZW := zs_26 _ (List.mem_of_getElem? (i := 0) rfl)
theorem zw_781 : Cond.code yX10_numberHere cX10_numberHere 3 (some .int) ∈ ZW := zs_26 _ (List.mem_of_getElem? (i := 1) rfl)
theorem zw_782 : Cond.code yX10_takesNumber cX10_takesNumber 4 (some .boolean) ∈ ZW := zs_26 _ (List.mem_of_getElem? (i := 2) rfl)
theorem zw_783 : Cond.methodLink RX10 211 yX10_numberHere ∈ ZW := zs_26 _ (List.mem_of_getElem? (i := 3) rfl)
theorem zw_784 : Cond.instanceMethod yX10_numberHere ∈ ZW := zs_26 _ (List.mem_of_getElem? (i := 4) rfl)
theorem zw_785 : Cond.selects RX10 yX10_numberHere yX10_numberHere ∈ ZW := zs_26 _ (List.mem_of_getElem? (i := 5) rfl)
theorem zw_786 : Cond.code yX10_readsKey cX10_readsKey 1 (some .boolean) ∈ ZW := zs_26 _ (List.mem_of_getElem? (i := 6) rfl)
theorem zw_787 : Cond.code yX10_readsTime cX10_readsTime 1 (some .boolean) ∈ ZW := zs_26 _ (List.mem_of_getElem? (i := 7) rfl)
theorem zw_788 : Cond.code yX10_isLetter cX10_isLetter 1 (some .boolean) ∈ ZW := zs_26 _ (List.mem_of_getElem? (i := 8) rfl)
theorem zw_789 : Cond.selects RX10 yX10_next yX10_next ∈ ZW := zs_26 _ (List.mem_of_getElem? (i := 9) rfl)
theorem zw_790 : Cond.methodLink RX10 224 yX10_takesNumber ∈ ZW := zs_26 _ (List.mem_of_getElem? (i := 10) rfl)
theorem zw_791 : Cond.instanceMethod yX10_takesNumber ∈ ZW := zs_26 _ (List.mem_of_getElem? (i := 11) rfl)
theorem zw_792 : Cond.selects RX10 yX10_takesNumber yX10_takesNumber ∈ ZW := zs_26 _ (List.mem_of_getElem? (i := 12) rfl)
theorem zw_793 : Cond.code yX10_readsHead cX10_readsHead 4 (some .boolean) ∈ ZW := zs_26 _ (List.mem_of_getElem? (i := 13) rfl)
theorem zw_794 : Cond.selects RX10 yX10_beginOf yX10_beginOf ∈ ZW := zs_26 _ (List.mem_of_getElem? (i := 14) rfl)
theorem zw_795 : Cond.methodLink RX10 208 yX10_next ∈ ZW := zs_26 _ (List.mem_of_getElem? (i := 15) rfl)
theorem zw_796 : Cond.instanceMethod yX10_next ∈ ZW := zs_26 _ (List.mem_of_getElem? (i := 16) rfl)
theorem zw_797 : Cond.code yX10_readsEvent cX10_readsEvent 4 (some .boolean) ∈ ZW := zs_26 _ (List.mem_of_getElem? (i := 17) rfl)
theorem zw_798 : Cond.code yX10_isRest cX10_isRest 3 (some .boolean) ∈ ZW := zs_26 _ (List.mem_of_getElem? (i := 18) rfl)
theorem zw_799 : Cond.methodLink RX10 240 yX10_readsEvent ∈ ZW := zs_26 _ (List.mem_of_getElem? (i := 19) rfl)
theorem zw_800 : Cond.instanceMethod yX10_readsEvent ∈ ZW := zs_26 _ (List.mem_of_getElem? (i := 20) rfl)
theorem zw_801 : Cond.selects RX10 yX10_readsEvent yX10_readsEvent ∈ ZW := zs_26 _ (List.mem_of_getElem? (i := 21) rfl)
theorem zw_802 : Cond.methodLink RX10 234 yX10_readsHead ∈ ZW := zs_26 _ (List.mem_of_getElem? (i := 22) rfl)
theorem zw_803 : Cond.instanceMethod yX10_readsHead ∈ ZW := zs_26 _ (List.mem_of_getElem? (i := 23) rfl)
theorem zw_804 : Cond.selects RX10 yX10_readsHead yX10_readsHead ∈ ZW := zs_26 _ (List.mem_of_getElem? (i := 24) rfl)
theorem zw_805 : Cond.fieldLink RX10 214 "SpokenBarsModel" "number" "I" ∈ ZW := zs_26 _ (List.mem_of_getElem? (i := 25) rfl)
theorem zw_806 : Cond.code yX10_readsEvents cX10_readsEvents 3 (some .boolean) ∈ ZW := zs_26 _ (List.mem_of_getElem? (i := 26) rfl)
theorem zw_807 : Cond.code yX10_readsVoices cX10_readsVoices 3 (some .boolean) ∈ ZW := zs_26 _ (List.mem_of_getElem? (i := 27) rfl)
theorem zw_808 : Cond.code yX10_readsEnding cX10_readsEnding 2 (some .boolean) ∈ ZW := zs_26 _ (List.mem_of_getElem? (i := 28) rfl)
theorem zw_809 : Cond.code yX10_readsBack cX10_readsBack 2 (some .boolean) ∈ ZW := zs_26 _ (List.mem_of_getElem? (i := 29) rfl)
theorem zw_810 : Cond.methodLink RX10 246 yX10_readsEnding ∈ ZW := zs_27 _ (List.mem_of_getElem? (i := 0) rfl)
theorem zw_811 : Cond.instanceMethod yX10_readsEnding ∈ ZW := zs_27 _ (List.mem_of_getElem? (i := 1) rfl)
theorem zw_812 : Cond.selects RX10 yX10_readsEnding yX10_readsEnding ∈ ZW := zs_27 _ (List.mem_of_getElem? (i := 2) rfl)
theorem zw_813 : Cond.methodLink RX10 249 yX10_readsKey ∈ ZW := zs_27 _ (List.mem_of_getElem? (i := 3) rfl)
theorem zw_814 : Cond.instanceMethod yX10_readsKey ∈ ZW := zs_27 _ (List.mem_of_getElem? (i := 4) rfl)
theorem zw_815 : Cond.selects RX10 yX10_readsKey yX10_readsKey ∈ ZW := zs_27 _ (List.mem_of_getElem? (i := 5) rfl)
theorem zw_816 : Cond.methodLink RX10 252 yX10_readsTime ∈ ZW := zs_27 _ (List.mem_of_getElem? (i := 6) rfl)
theorem zw_817 : Cond.instanceMethod yX10_readsTime ∈ ZW := zs_27 _ (List.mem_of_getElem? (i := 7) rfl)
theorem zw_818 : Cond.selects RX10 yX10_readsTime yX10_readsTime ∈ ZW := zs_27 _ (List.mem_of_getElem? (i := 8) rfl)
theorem zw_819 : Cond.methodLink RX10 255 yX10_readsVoices ∈ ZW := zs_27 _ (List.mem_of_getElem? (i := 9) rfl)
theorem zw_820 : Cond.instanceMethod yX10_readsVoices ∈ ZW := zs_27 _ (List.mem_of_getElem? (i := 10) rfl)
theorem zw_821 : Cond.selects RX10 yX10_readsVoices yX10_readsVoices ∈ ZW := zs_27 _ (List.mem_of_getElem? (i := 11) rfl)
theorem zw_822 : Cond.methodLink RX10 243 yX10_readsEvents ∈ ZW := zs_27 _ (List.mem_of_getElem? (i := 12) rfl)
theorem zw_823 : Cond.instanceMethod yX10_readsEvents ∈ ZW := zs_27 _ (List.mem_of_getElem? (i := 13) rfl)
theorem zw_824 : Cond.selects RX10 yX10_readsEvents yX10_readsEvents ∈ ZW := zs_27 _ (List.mem_of_getElem? (i := 14) rfl)
theorem zw_825 : Cond.methodLink RX10 230 yX10_isLetter ∈ ZW := zs_27 _ (List.mem_of_getElem? (i := 15) rfl)
theorem zw_826 : Cond.instanceMethod yX10_isLetter ∈ ZW := zs_27 _ (List.mem_of_getElem? (i := 16) rfl)
theorem zw_827 : Cond.selects RX10 yX10_isLetter yX10_isLetter ∈ ZW := zs_27 _ (List.mem_of_getElem? (i := 17) rfl)
theorem zw_828 : Cond.methodLink RX10 237 yX10_isRest ∈ ZW := zs_27 _ (List.mem_of_getElem? (i := 18) rfl)
theorem zw_829 : Cond.instanceMethod yX10_isRest ∈ ZW := zs_27 _ (List.mem_of_getElem? (i := 19) rfl)
theorem zw_830 : Cond.selects RX10 yX10_isRest yX10_isRest ∈ ZW := zs_27 _ (List.mem_of_getElem? (i := 20) rfl)
theorem zw_831 : Cond.methodLink RX10 258 yX10_readsBack ∈ ZW := zs_27 _ (List.mem_of_getElem? (i := 21) rfl)
theorem zw_832 : Cond.instanceMethod yX10_readsBack ∈ ZW := zs_27 _ (List.mem_of_getElem? (i := 22) rfl)
theorem zw_833 : Cond.selects RX10 yX10_readsBack yX10_readsBack ∈ ZW := zs_27 _ (List.mem_of_getElem? (i := 23) rfl)
theorem zw_834 : Cond.code yX10_readsAll cX10_readsAll 2 (some .boolean) ∈ ZW := zs_27 _ (List.mem_of_getElem? (i := 24) rfl)
theorem zw_835 : Cond.code yX10_faultNow cX10_faultNow 1 (some .int) ∈ ZW := zs_27 _ (List.mem_of_getElem? (i := 25) rfl)
theorem zw_836 : Cond.code yX10_fault cX10_fault 1 (some .int) ∈ ZW := zs_27 _ (List.mem_of_getElem? (i := 26) rfl)
theorem zw_837 : Cond.methodLink RX10 68 yX10_base ∈ ZW := zs_27 _ (List.mem_of_getElem? (i := 27) rfl)
theorem zw_838 : Cond.static yX10_base ∈ ZW := zs_27 _ (List.mem_of_getElem? (i := 28) rfl)
theorem zw_839 : Cond.code yX10_readInto cX10_readInto 5 (some .int) ∈ ZW := zs_27 _ (List.mem_of_getElem? (i := 29) rfl)
theorem zw_840 : Cond.code yX10_isRead cX10_isRead 6 (some .boolean) ∈ ZW := zs_28 _ (List.mem_of_getElem? (i := 0) rfl)
theorem zw_841 : Cond.methodLink RX10 267 yX10_isRead ∈ ZW := zs_28 _ (List.mem_of_getElem? (i := 1) rfl)
theorem zw_842 : Cond.instanceMethod yX10_isRead ∈ ZW := zs_28 _ (List.mem_of_getElem? (i := 2) rfl)
theorem zw_843 : Cond.selects RX10 yX10_isRead yX10_isRead ∈ ZW := zs_28 _ (List.mem_of_getElem? (i := 3) rfl)
theorem zw_844 : Cond.code yX10_tells cX10_tells 4 (some .boolean) ∈ ZW := zs_28 _ (List.mem_of_getElem? (i := 4) rfl)
theorem zw_845 : Cond.code yX10_others cX10_others 8 (some .int) ∈ ZW := zs_28 _ (List.mem_of_getElem? (i := 5) rfl)
theorem zw_846 : Cond.code yX10_changedBy cX10_changedBy 3 (some .int) ∈ ZW := zs_28 _ (List.mem_of_getElem? (i := 6) rfl)
theorem zw_847 : Cond.code yX10_nearestKey cX10_nearestKey 7 (some .int) ∈ ZW := zs_28 _ (List.mem_of_getElem? (i := 7) rfl)
theorem zw_848 : Cond.code yX10_needlessSigns cX10_needlessSigns 7 (some .int) ∈ ZW := zs_28 _ (List.mem_of_getElem? (i := 8) rfl)
theorem zw_849 : Cond.constantLong RX10 273 (31) ∈ ZW := zs_28 _ (List.mem_of_getElem? (i := 9) rfl)
theorem zw_850 : Cond.fieldLink RX10 275 "SpokenBarsModel" "h" "J" ∈ ZW := zs_28 _ (List.mem_of_getElem? (i := 10) rfl)
theorem zw_851 : Cond.code yX10_mix cX10_mix 2 none ∈ ZW := zs_28 _ (List.mem_of_getElem? (i := 11) rfl)
theorem zw_852 : Cond.methodLink RX10 279 yX10_mix ∈ ZW := zs_28 _ (List.mem_of_getElem? (i := 12) rfl)
theorem zw_853 : Cond.instanceMethod yX10_mix ∈ ZW := zs_28 _ (List.mem_of_getElem? (i := 13) rfl)
theorem zw_854 : Cond.selects RX10 yX10_mix yX10_mix ∈ ZW := zs_28 _ (List.mem_of_getElem? (i := 14) rfl)
theorem zw_855 : Cond.code yX10_mixMeasure cX10_mixMeasure 5 none ∈ ZW := zs_28 _ (List.mem_of_getElem? (i := 15) rfl)
theorem zw_856 : Cond.methodLink RX10 143 yX10_finds ∈ ZW := zs_28 _ (List.mem_of_getElem? (i := 16) rfl)
theorem zw_857 : Cond.instanceMethod yX10_finds ∈ ZW := zs_28 _ (List.mem_of_getElem? (i := 17) rfl)
theorem zw_858 : Cond.selects RX10 yX10_finds yX10_finds ∈ ZW := zs_28 _ (List.mem_of_getElem? (i := 18) rfl)
theorem zw_859 : Cond.methodLink RX10 149 yX10_playedTicks ∈ ZW := zs_28 _ (List.mem_of_getElem? (i := 19) rfl)
theorem zw_860 : Cond.instanceMethod yX10_playedTicks ∈ ZW := zs_28 _ (List.mem_of_getElem? (i := 20) rfl)
theorem zw_861 : Cond.selects RX10 yX10_playedTicks yX10_playedTicks ∈ ZW := zs_28 _ (List.mem_of_getElem? (i := 21) rfl)
theorem zw_862 : Cond.methodLink RX10 114 yX10_measureTold ∈ ZW := zs_28 _ (List.mem_of_getElem? (i := 22) rfl)
theorem zw_863 : Cond.instanceMethod yX10_measureTold ∈ ZW := zs_28 _ (List.mem_of_getElem? (i := 23) rfl)
theorem zw_864 : Cond.selects RX10 yX10_measureTold yX10_measureTold ∈ ZW := zs_28 _ (List.mem_of_getElem? (i := 24) rfl)
theorem zw_865 : Cond.methodLink RX10 136 yX10_crossed ∈ ZW := zs_28 _ (List.mem_of_getElem? (i := 25) rfl)
theorem zw_866 : Cond.instanceMethod yX10_crossed ∈ ZW := zs_28 _ (List.mem_of_getElem? (i := 26) rfl)
theorem zw_867 : Cond.selects RX10 yX10_crossed yX10_crossed ∈ ZW := zs_28 _ (List.mem_of_getElem? (i := 27) rfl)
theorem zw_868 : Cond.methodLink RX10 161 yX10_plays ∈ ZW := zs_28 _ (List.mem_of_getElem? (i := 28) rfl)
theorem zw_869 : Cond.instanceMethod yX10_plays ∈ ZW := zs_28 _ (List.mem_of_getElem? (i := 29) rfl)
theorem zw_870 : Cond.selects RX10 yX10_plays yX10_plays ∈ ZW := zs_29 _ (List.mem_of_getElem? (i := 0) rfl)
theorem zw_871 : Cond.methodLink RX10 199 yX10_tellsAll ∈ ZW := zs_29 _ (List.mem_of_getElem? (i := 1) rfl)
theorem zw_872 : Cond.instanceMethod yX10_tellsAll ∈ ZW := zs_29 _ (List.mem_of_getElem? (i := 2) rfl)
theorem zw_873 : Cond.selects RX10 yX10_tellsAll yX10_tellsAll ∈ ZW := zs_29 _ (List.mem_of_getElem? (i := 3) rfl)
theorem zw_874 : Cond.methodLink RX10 183 yX10_writesWord ∈ ZW := zs_29 _ (List.mem_of_getElem? (i := 4) rfl)
theorem zw_875 : Cond.instanceMethod yX10_writesWord ∈ ZW := zs_29 _ (List.mem_of_getElem? (i := 5) rfl)
theorem zw_876 : Cond.code yX10_digest cX10_digest 2 (some .long) ∈ ZW := zs_29 _ (List.mem_of_getElem? (i := 6) rfl)
theorem zw_877 : Cond.arrayClass .byte ∈ ZW := zs_29 _ (List.mem_of_getElem? (i := 7) rfl)
theorem zw_878 : Cond.sameMethod "java/lang/AbstractStringBuilder" "java/lang/AbstractStringBuilder" "isLatin1" "()Z" ∈ ZW := zs_29 _ (List.mem_of_getElem? (i := 8) rfl)
theorem zw_879 : Cond.sameMethod "java/lang/AbstractStringBuilder" "java/lang/AbstractStringBuilder" "inflateIfNeededFor" "(Ljava/lang/String;)V" ∈ ZW := zs_29 _ (List.mem_of_getElem? (i := 9) rfl)
theorem zw_880 : Cond.sameMethod "java/lang/AbstractStringBuilder" "java/lang/AbstractStringBuilder" "inflate" "()V" ∈ ZW := zs_29 _ (List.mem_of_getElem? (i := 10) rfl)
theorem zw_881 : Cond.methodLink RJ0 212 arraycopyName ∈ ZW := zs_29 _ (List.mem_of_getElem? (i := 11) rfl)
theorem zw_882 : Cond.methodLink RJ7 304 Lib.Math.min.name ∈ ZW := zs_29 _ (List.mem_of_getElem? (i := 12) rfl)
theorem zw_883 : Cond.methodLink RJ7 150 arraycopyName ∈ ZW := zs_29 _ (List.mem_of_getElem? (i := 13) rfl)
theorem zw_884 : Cond.sameMethod "java/lang/AbstractStringBuilder" "java/lang/AbstractStringBuilder" "putStringAt" "(ILjava/lang/String;)V" ∈ ZW := zs_29 _ (List.mem_of_getElem? (i := 14) rfl)
theorem zw_885 : Cond.sameMethod "java/lang/AbstractStringBuilder" "java/lang/AbstractStringBuilder" "length" "()I" ∈ ZW := zs_29 _ (List.mem_of_getElem? (i := 15) rfl)
theorem zw_886 : Cond.sameMethod "java/lang/AbstractStringBuilder" "java/lang/AbstractStringBuilder" "append" "(Ljava/lang/String;)Ljava/lang/AbstractStringBuilder;" ∈ ZW := zs_29 _ (List.mem_of_getElem? (i := 16) rfl)
theorem zw_887 : Cond.sameMethod "java/lang/AbstractStringBuilder" "java/lang/AbstractStringBuilder" "appendNull" "()Ljava/lang/AbstractStringBuilder;" ∈ ZW := zs_29 _ (List.mem_of_getElem? (i := 17) rfl)
theorem zw_888 : Cond.sameMethod "java/lang/AbstractStringBuilder" "java/lang/AbstractStringBuilder" "ensureCapacityInternal" "(I)V" ∈ ZW := zs_29 _ (List.mem_of_getElem? (i := 18) rfl)
theorem zw_889 : Cond.sameMethod "java/lang/AbstractStringBuilder" "java/lang/AbstractStringBuilder" "newCapacity" "(I)I" ∈ ZW := zs_29 _ (List.mem_of_getElem? (i := 19) rfl)
theorem zw_890 : Cond.sameMethod "java/lang/AbstractStringBuilder" "java/lang/AbstractStringBuilder" "append" "(I)Ljava/lang/AbstractStringBuilder;" ∈ ZW := zs_29 _ (List.mem_of_getElem? (i := 20) rfl)
theorem zw_891 : Cond.classLink RL 19 "java/lang/IndexOutOfBoundsException" ∈ ZW := zs_29 _ (List.mem_of_getElem? (i := 21) rfl)
theorem zw_892 : Cond.methodLink RL 15 yX9_removeMeasure ∈ ZW := zs_29 _ (List.mem_of_getElem? (i := 22) rfl)
theorem zw_893 : Cond.instanceMethod yX9_removeMeasure ∈ ZW := zs_29 _ (List.mem_of_getElem? (i := 23) rfl)
theorem zw_894 : Cond.selects RX9 yX9_removeMeasure yX9_removeMeasure ∈ ZW := zs_29 _ (List.mem_of_getElem? (i := 24) rfl)
theorem zw_895 : Cond.methodLink RX9 82 yX4_size ∈ ZW := zs_29 _ (List.mem_of_getElem? (i := 25) rfl)
theorem zw_896 : Cond.methodLink RL 21 yX9_set ∈ ZW := zs_29 _ (List.mem_of_getElem? (i := 26) rfl)
theorem zw_897 : Cond.instanceMethod yX9_set ∈ ZW := zs_29 _ (List.mem_of_getElem? (i := 27) rfl)
theorem zw_898 : Cond.selects RX9 yX9_set yX9_set ∈ ZW := zs_29 _ (List.mem_of_getElem? (i := 28) rfl)
theorem zw_899 : Cond.methodLink RL 27 yX9_addNote ∈ ZW := zs_29 _ (List.mem_of_getElem? (i := 29) rfl)
theorem zw_900 : Cond.instanceMethod yX9_addNote ∈ ZW := zs_30 _ (List.mem_of_getElem? (i := 0) rfl)
theorem zw_901 : Cond.selects RX9 yX9_addNote yX9_addNote ∈ ZW := zs_30 _ (List.mem_of_getElem? (i := 1) rfl)
theorem zw_902 : Cond.methodLink RX1 27 Lib.Math.min.name ∈ ZW := zs_30 _ (List.mem_of_getElem? (i := 2) rfl)
theorem zw_903 : Cond.methodLink RX1 23 yX4_copyFrom ∈ ZW := zs_30 _ (List.mem_of_getElem? (i := 3) rfl)
theorem zw_904 : Cond.methodLink RL 31 yX9_addRest ∈ ZW := zs_30 _ (List.mem_of_getElem? (i := 4) rfl)
theorem zw_905 : Cond.instanceMethod yX9_addRest ∈ ZW := zs_30 _ (List.mem_of_getElem? (i := 5) rfl)
theorem zw_906 : Cond.selects RX9 yX9_addRest yX9_addRest ∈ ZW := zs_30 _ (List.mem_of_getElem? (i := 6) rfl)
theorem zw_907 : Cond.methodLink RL 37 yX9_measure ∈ ZW := zs_30 _ (List.mem_of_getElem? (i := 7) rfl)
theorem zw_908 : Cond.methodLink RL 45 yX9_eventAt ∈ ZW := zs_30 _ (List.mem_of_getElem? (i := 8) rfl)
theorem zw_909 : Cond.instanceMethod yX9_eventAt ∈ ZW := zs_30 _ (List.mem_of_getElem? (i := 9) rfl)
theorem zw_910 : Cond.selects RX9 yX9_eventAt yX9_eventAt ∈ ZW := zs_30 _ (List.mem_of_getElem? (i := 10) rfl)
theorem zw_911 : Cond.methodLink RL 48 yX9_crossings ∈ ZW := zs_30 _ (List.mem_of_getElem? (i := 11) rfl)
theorem zw_912 : Cond.classLink RL 25 "java/lang/IllegalArgumentException" ∈ ZW := zs_30 _ (List.mem_of_getElem? (i := 12) rfl)
theorem zw_913 : Cond.methodLink RL 51 yX9_whole ∈ ZW := zs_30 _ (List.mem_of_getElem? (i := 13) rfl)
theorem zw_914 : Cond.instanceMethod yX4_size ∈ ZW := zs_30 _ (List.mem_of_getElem? (i := 14) rfl)
theorem zw_915 : Cond.methodLink RX9 175 yX4_unevenVoices ∈ ZW := zs_30 _ (List.mem_of_getElem? (i := 15) rfl)
theorem zw_916 : Cond.instanceMethod yX4_unevenVoices ∈ ZW := zs_30 _ (List.mem_of_getElem? (i := 16) rfl)
theorem zw_917 : Cond.selects RX4 yX4_unevenVoices yX4_unevenVoices ∈ ZW := zs_30 _ (List.mem_of_getElem? (i := 17) rfl)
theorem zw_918 : Cond.methodLink RL 57 yX9_timesPlayed ∈ ZW := zs_30 _ (List.mem_of_getElem? (i := 18) rfl)
theorem zw_919 : Cond.methodLink RL 60 yX9_seconds ∈ ZW := zs_30 _ (List.mem_of_getElem? (i := 19) rfl)
theorem zw_920 : Cond.instanceMethod yX9_seconds ∈ ZW := zs_30 _ (List.mem_of_getElem? (i := 20) rfl)
theorem zw_921 : Cond.selects RX9 yX9_seconds yX9_seconds ∈ ZW := zs_30 _ (List.mem_of_getElem? (i := 21) rfl)
theorem zw_922 : Cond.methodLink RL 64 yX9_placeAt ∈ ZW := zs_30 _ (List.mem_of_getElem? (i := 22) rfl)
theorem zw_923 : Cond.instanceMethod yX9_placeAt ∈ ZW := zs_30 _ (List.mem_of_getElem? (i := 23) rfl)
theorem zw_924 : Cond.selects RX9 yX9_placeAt yX9_placeAt ∈ ZW := zs_30 _ (List.mem_of_getElem? (i := 24) rfl)
theorem zw_925 : Cond.methodLink RL 67 yX9_sentenceLength ∈ ZW := zs_30 _ (List.mem_of_getElem? (i := 25) rfl)
theorem zw_926 : Cond.instanceMethod yX9_sentenceLength ∈ ZW := zs_30 _ (List.mem_of_getElem? (i := 26) rfl)
theorem zw_927 : Cond.selects RX9 yX9_sentenceLength yX9_sentenceLength ∈ ZW := zs_30 _ (List.mem_of_getElem? (i := 27) rfl)
theorem zw_928 : Cond.methodLink RL 70 yX9_sentenceByte ∈ ZW := zs_30 _ (List.mem_of_getElem? (i := 28) rfl)
theorem zw_929 : Cond.instanceMethod yX9_sentenceByte ∈ ZW := zs_30 _ (List.mem_of_getElem? (i := 29) rfl)
theorem zw_930 : Cond.selects RX9 yX9_sentenceByte yX9_sentenceByte ∈ ZW := zs_31 _ (List.mem_of_getElem? (i := 0) rfl)
theorem zw_931 : Cond.methodLink RL 73 yX9_words ∈ ZW := zs_31 _ (List.mem_of_getElem? (i := 1) rfl)
theorem zw_932 : Cond.instanceMethod yX9_words ∈ ZW := zs_31 _ (List.mem_of_getElem? (i := 2) rfl)
theorem zw_933 : Cond.selects RX9 yX9_words yX9_words ∈ ZW := zs_31 _ (List.mem_of_getElem? (i := 3) rfl)
theorem zw_934 : Cond.methodLink RL 76 yX9_copySentence ∈ ZW := zs_31 _ (List.mem_of_getElem? (i := 4) rfl)
theorem zw_935 : Cond.instanceMethod yX9_copySentence ∈ ZW := zs_31 _ (List.mem_of_getElem? (i := 5) rfl)
theorem zw_936 : Cond.selects RX9 yX9_copySentence yX9_copySentence ∈ ZW := zs_31 _ (List.mem_of_getElem? (i := 6) rfl)
theorem zw_937 : Cond.methodLink RL 79 yX9_type ∈ ZW := zs_31 _ (List.mem_of_getElem? (i := 7) rfl)
theorem zw_938 : Cond.instanceMethod yX9_type ∈ ZW := zs_31 _ (List.mem_of_getElem? (i := 8) rfl)
theorem zw_939 : Cond.selects RX9 yX9_type yX9_type ∈ ZW := zs_31 _ (List.mem_of_getElem? (i := 9) rfl)
theorem zw_940 : Cond.methodLink RX9 216 yX7_append ∈ ZW := zs_31 _ (List.mem_of_getElem? (i := 10) rfl)
theorem zw_941 : Cond.instanceMethod yX7_append ∈ ZW := zs_31 _ (List.mem_of_getElem? (i := 11) rfl)
theorem zw_942 : Cond.selects RX7 yX7_append yX7_append ∈ ZW := zs_31 _ (List.mem_of_getElem? (i := 12) rfl)
theorem zw_943 : Cond.methodLink RL 82 yX9_cut ∈ ZW := zs_31 _ (List.mem_of_getElem? (i := 13) rfl)
theorem zw_944 : Cond.instanceMethod yX9_cut ∈ ZW := zs_31 _ (List.mem_of_getElem? (i := 14) rfl)
theorem zw_945 : Cond.selects RX9 yX9_cut yX9_cut ∈ ZW := zs_31 _ (List.mem_of_getElem? (i := 15) rfl)
theorem zw_946 : Cond.methodLink RL 85 yX9_readInto ∈ ZW := zs_31 _ (List.mem_of_getElem? (i := 16) rfl)
theorem zw_947 : Cond.instanceMethod yX9_readInto ∈ ZW := zs_31 _ (List.mem_of_getElem? (i := 17) rfl)
theorem zw_948 : Cond.selects RX9 yX9_readInto yX9_readInto ∈ ZW := zs_31 _ (List.mem_of_getElem? (i := 18) rfl)
theorem zw_949 : Cond.methodLink RX9 230 yX4_takeDraft ∈ ZW := zs_31 _ (List.mem_of_getElem? (i := 19) rfl)
theorem zw_950 : Cond.instanceMethod yX4_takeDraft ∈ ZW := zs_31 _ (List.mem_of_getElem? (i := 20) rfl)
theorem zw_951 : Cond.selects RX4 yX4_takeDraft yX4_takeDraft ∈ ZW := zs_31 _ (List.mem_of_getElem? (i := 21) rfl)
theorem zw_952 : Cond.methodLink RL 88 yX9_tells ∈ ZW := zs_31 _ (List.mem_of_getElem? (i := 22) rfl)
theorem zw_953 : Cond.instanceMethod yX9_tells ∈ ZW := zs_31 _ (List.mem_of_getElem? (i := 23) rfl)
theorem zw_954 : Cond.selects RX9 yX9_tells yX9_tells ∈ ZW := zs_31 _ (List.mem_of_getElem? (i := 24) rfl)
theorem zw_955 : Cond.methodLink RL 92 yX9_changedBy ∈ ZW := zs_31 _ (List.mem_of_getElem? (i := 25) rfl)
theorem zw_956 : Cond.instanceMethod yX9_changedBy ∈ ZW := zs_31 _ (List.mem_of_getElem? (i := 26) rfl)
theorem zw_957 : Cond.selects RX9 yX9_changedBy yX9_changedBy ∈ ZW := zs_31 _ (List.mem_of_getElem? (i := 27) rfl)
theorem zw_958 : Cond.methodLink RL 95 yX9_nearestKey ∈ ZW := zs_31 _ (List.mem_of_getElem? (i := 28) rfl)
theorem zw_959 : Cond.instanceMethod yX9_nearestKey ∈ ZW := zs_31 _ (List.mem_of_getElem? (i := 29) rfl)
theorem zw_960 : Cond.selects RX9 yX9_nearestKey yX9_nearestKey ∈ ZW := zs_32 _ (List.mem_of_getElem? (i := 0) rfl)
theorem zw_961 : Cond.constant RX9 243 (2147483647) ∈ ZW := zs_32 _ (List.mem_of_getElem? (i := 1) rfl)
theorem zw_962 : Cond.methodLink RL 98 yX9_needlessSigns ∈ ZW := zs_32 _ (List.mem_of_getElem? (i := 2) rfl)
theorem zw_963 : Cond.instanceMethod yX9_needlessSigns ∈ ZW := zs_32 _ (List.mem_of_getElem? (i := 3) rfl)
theorem zw_964 : Cond.selects RX9 yX9_needlessSigns yX9_needlessSigns ∈ ZW := zs_32 _ (List.mem_of_getElem? (i := 4) rfl)
theorem zw_965 : Cond.classLink RL 8 RX9 ∈ ZW := zs_32 _ (List.mem_of_getElem? (i := 5) rfl)
theorem zw_966 : Cond.instantiable RX9 7 ∈ ZW := zs_32 _ (List.mem_of_getElem? (i := 6) rfl)
theorem zw_967 : Cond.classLink RL 105 RX10 ∈ ZW := zs_32 _ (List.mem_of_getElem? (i := 7) rfl)
theorem zw_968 : Cond.instantiable RX10 20 ∈ ZW := zs_32 _ (List.mem_of_getElem? (i := 8) rfl)
theorem zw_969 : Cond.arrayClass .long ∈ ZW := zs_32 _ (List.mem_of_getElem? (i := 9) rfl)
theorem zw_970 : Cond.arrayClass .double ∈ ZW := zs_32 _ (List.mem_of_getElem? (i := 10) rfl)
theorem zw_971 : Cond.methodLink RL 104 yX9_init ∈ ZW := zs_32 _ (List.mem_of_getElem? (i := 11) rfl)
theorem zw_972 : Cond.instanceMethod yX9_init ∈ ZW := zs_32 _ (List.mem_of_getElem? (i := 12) rfl)
theorem zw_973 : Cond.methodLink RL 7 yX9_addMeasure ∈ ZW := zs_32 _ (List.mem_of_getElem? (i := 13) rfl)
theorem zw_974 : Cond.instanceMethod yX9_addMeasure ∈ ZW := zs_32 _ (List.mem_of_getElem? (i := 14) rfl)
theorem zw_975 : Cond.selects RX9 yX9_addMeasure yX9_addMeasure ∈ ZW := zs_32 _ (List.mem_of_getElem? (i := 15) rfl)
theorem zw_976 : Cond.methodLink RX9 62 yX4_isFull ∈ ZW := zs_32 _ (List.mem_of_getElem? (i := 16) rfl)
theorem zw_977 : Cond.fieldLink RX1 20 "SpokenBars$History" "next" "I" ∈ ZW := zs_32 _ (List.mem_of_getElem? (i := 17) rfl)
theorem zw_978 : Cond.methodLink RX9 76 yX4_appendMeasure ∈ ZW := zs_32 _ (List.mem_of_getElem? (i := 18) rfl)
theorem zw_979 : Cond.methodLink RX6 54 yX4_size ∈ ZW := zs_32 _ (List.mem_of_getElem? (i := 19) rfl)
theorem zw_980 : Cond.instanceMethod yX6_held ∈ ZW := zs_32 _ (List.mem_of_getElem? (i := 20) rfl)
theorem zw_981 : Cond.methodLink RX2 19 yX4_size ∈ ZW := zs_32 _ (List.mem_of_getElem? (i := 21) rfl)
theorem zw_982 : Cond.methodLink RL 113 yX10_addMeasure ∈ ZW := zs_32 _ (List.mem_of_getElem? (i := 22) rfl)
theorem zw_983 : Cond.instanceMethod yX10_addMeasure ∈ ZW := zs_32 _ (List.mem_of_getElem? (i := 23) rfl)
theorem zw_984 : Cond.selects RX10 yX10_addMeasure yX10_addMeasure ∈ ZW := zs_32 _ (List.mem_of_getElem? (i := 24) rfl)
theorem zw_985 : Cond.methodLink RX10 65 yX10_saves ∈ ZW := zs_32 _ (List.mem_of_getElem? (i := 25) rfl)
theorem zw_986 : Cond.instanceMethod yX10_saves ∈ ZW := zs_32 _ (List.mem_of_getElem? (i := 26) rfl)
theorem zw_987 : Cond.selects RX10 yX10_saves yX10_saves ∈ ZW := zs_32 _ (List.mem_of_getElem? (i := 27) rfl)
theorem zw_988 : Cond.fieldLink RX10 35 "SpokenBarsModel" "pasts" "I" ∈ ZW := zs_32 _ (List.mem_of_getElem? (i := 28) rfl)
theorem zw_989 : Cond.methodLink RL 114 yX10_thrown ∈ ZW := zs_32 _ (List.mem_of_getElem? (i := 29) rfl)
theorem zw_990 : Cond.instanceMethod yX10_thrown ∈ ZW := zs_33 _ (List.mem_of_getElem? (i := 0) rfl)
theorem zw_991 : Cond.selects RX10 yX10_thrown yX10_thrown ∈ ZW := zs_33 _ (List.mem_of_getElem? (i := 1) rfl)
theorem zw_992 : Cond.methodLink RL 117 yL_removeMeasure ∈ ZW := zs_33 _ (List.mem_of_getElem? (i := 2) rfl)
theorem zw_993 : Cond.static yL_removeMeasure ∈ ZW := zs_33 _ (List.mem_of_getElem? (i := 3) rfl)
theorem zw_994 : Cond.codeWith yL_removeMeasure cL_removeMeasure 4 (some .int) [(0, 9, 12, 19)] ∈ ZW := zs_33 _ (List.mem_of_getElem? (i := 4) rfl)
theorem zw_995 : Cond.methodLink RX9 90 yX4_dropMeasure ∈ ZW := zs_33 _ (List.mem_of_getElem? (i := 5) rfl)
theorem zw_996 : Cond.instanceMethod yX4_dropMeasure ∈ ZW := zs_33 _ (List.mem_of_getElem? (i := 6) rfl)
theorem zw_997 : Cond.selects RX4 yX4_dropMeasure yX4_dropMeasure ∈ ZW := zs_33 _ (List.mem_of_getElem? (i := 7) rfl)
theorem zw_998 : Cond.methodLink RL 120 yX10_removeMeasure ∈ ZW := zs_33 _ (List.mem_of_getElem? (i := 8) rfl)
theorem zw_999 : Cond.instanceMethod yX10_removeMeasure ∈ ZW := zs_33 _ (List.mem_of_getElem? (i := 9) rfl)
theorem zw_1000 : Cond.selects RX10 yX10_removeMeasure yX10_removeMeasure ∈ ZW := zs_33 _ (List.mem_of_getElem? (i := 10) rfl)
theorem zw_1001 : Cond.methodLink RX10 46 yX10_isMeasure ∈ ZW := zs_33 _ (List.mem_of_getElem? (i := 11) rfl)
theorem zw_1002 : Cond.instanceMethod yX10_isMeasure ∈ ZW := zs_33 _ (List.mem_of_getElem? (i := 12) rfl)
theorem zw_1003 : Cond.selects RX10 yX10_isMeasure yX10_isMeasure ∈ ZW := zs_33 _ (List.mem_of_getElem? (i := 13) rfl)
theorem zw_1004 : Cond.methodLink RL 121 yL_set ∈ ZW := zs_33 _ (List.mem_of_getElem? (i := 14) rfl)
theorem zw_1005 : Cond.static yL_set ∈ ZW := zs_33 _ (List.mem_of_getElem? (i := 15) rfl)
theorem zw_1006 : Cond.codeWith yL_set cL_set 6 (some .int) [(0, 12, 15, 19), (0, 12, 19, 25)] ∈ ZW := zs_33 _ (List.mem_of_getElem? (i := 16) rfl)
theorem zw_1007 : Cond.methodLink RX9 106 yX4_putValue ∈ ZW := zs_33 _ (List.mem_of_getElem? (i := 17) rfl)
theorem zw_1008 : Cond.methodLink RL 124 yX10_set ∈ ZW := zs_33 _ (List.mem_of_getElem? (i := 18) rfl)
theorem zw_1009 : Cond.instanceMethod yX10_set ∈ ZW := zs_33 _ (List.mem_of_getElem? (i := 19) rfl)
theorem zw_1010 : Cond.selects RX10 yX10_set yX10_set ∈ ZW := zs_33 _ (List.mem_of_getElem? (i := 20) rfl)
theorem zw_1011 : Cond.methodLink RX10 74 yX10_canBe ∈ ZW := zs_33 _ (List.mem_of_getElem? (i := 21) rfl)
theorem zw_1012 : Cond.static yX10_canBe ∈ ZW := zs_33 _ (List.mem_of_getElem? (i := 22) rfl)
theorem zw_1013 : Cond.methodLink RL 125 yL_addNote ∈ ZW := zs_33 _ (List.mem_of_getElem? (i := 23) rfl)
theorem zw_1014 : Cond.static yL_addNote ∈ ZW := zs_33 _ (List.mem_of_getElem? (i := 24) rfl)
theorem zw_1015 : Cond.codeWith yL_addNote cL_addNote 9 (some .int) [(0, 18, 21, 19), (0, 18, 25, 25), (0, 18, 29, 13)] ∈ ZW := zs_33 _ (List.mem_of_getElem? (i := 25) rfl)
theorem zw_1016 : Cond.methodLink RX9 119 yX9_requireRoom ∈ ZW := zs_33 _ (List.mem_of_getElem? (i := 26) rfl)
theorem zw_1017 : Cond.instanceMethod yX9_requireRoom ∈ ZW := zs_33 _ (List.mem_of_getElem? (i := 27) rfl)
theorem zw_1018 : Cond.selects RX9 yX9_requireRoom yX9_requireRoom ∈ ZW := zs_33 _ (List.mem_of_getElem? (i := 28) rfl)
theorem zw_1019 : Cond.methodLink RL 128 yX10_addNote ∈ ZW := zs_33 _ (List.mem_of_getElem? (i := 29) rfl)
theorem zw_1020 : Cond.instanceMethod yX10_addNote ∈ ZW := zs_34 _ (List.mem_of_getElem? (i := 0) rfl)
theorem zw_1021 : Cond.selects RX10 yX10_addNote yX10_addNote ∈ ZW := zs_34 _ (List.mem_of_getElem? (i := 1) rfl)
theorem zw_1022 : Cond.methodLink RX10 49 yX10_isVoice ∈ ZW := zs_34 _ (List.mem_of_getElem? (i := 2) rfl)
theorem zw_1023 : Cond.instanceMethod yX10_isVoice ∈ ZW := zs_34 _ (List.mem_of_getElem? (i := 3) rfl)
theorem zw_1024 : Cond.selects RX10 yX10_isVoice yX10_isVoice ∈ ZW := zs_34 _ (List.mem_of_getElem? (i := 4) rfl)
theorem zw_1025 : Cond.methodLink RX10 77 yX10_full ∈ ZW := zs_34 _ (List.mem_of_getElem? (i := 5) rfl)
theorem zw_1026 : Cond.instanceMethod yX10_full ∈ ZW := zs_34 _ (List.mem_of_getElem? (i := 6) rfl)
theorem zw_1027 : Cond.selects RX10 yX10_full yX10_full ∈ ZW := zs_34 _ (List.mem_of_getElem? (i := 7) rfl)
theorem zw_1028 : Cond.methodLink RX10 80 yX10_comes ∈ ZW := zs_34 _ (List.mem_of_getElem? (i := 8) rfl)
theorem zw_1029 : Cond.instanceMethod yX10_comes ∈ ZW := zs_34 _ (List.mem_of_getElem? (i := 9) rfl)
theorem zw_1030 : Cond.selects RX10 yX10_comes yX10_comes ∈ ZW := zs_34 _ (List.mem_of_getElem? (i := 10) rfl)
theorem zw_1031 : Cond.methodLink RL 129 yL_addRest ∈ ZW := zs_34 _ (List.mem_of_getElem? (i := 11) rfl)
theorem zw_1032 : Cond.static yL_addRest ∈ ZW := zs_34 _ (List.mem_of_getElem? (i := 12) rfl)
theorem zw_1033 : Cond.codeWith yL_addRest cL_addRest 6 (some .int) [(0, 12, 15, 19), (0, 12, 19, 25), (0, 12, 23, 13)] ∈ ZW := zs_34 _ (List.mem_of_getElem? (i := 13) rfl)
theorem zw_1034 : Cond.methodLink RL 131 yX10_addRest ∈ ZW := zs_34 _ (List.mem_of_getElem? (i := 14) rfl)
theorem zw_1035 : Cond.instanceMethod yX10_addRest ∈ ZW := zs_34 _ (List.mem_of_getElem? (i := 15) rfl)
theorem zw_1036 : Cond.selects RX10 yX10_addRest yX10_addRest ∈ ZW := zs_34 _ (List.mem_of_getElem? (i := 16) rfl)
theorem zw_1037 : Cond.methodLink RL 132 yL_removeEvent ∈ ZW := zs_34 _ (List.mem_of_getElem? (i := 17) rfl)
theorem zw_1038 : Cond.static yL_removeEvent ∈ ZW := zs_34 _ (List.mem_of_getElem? (i := 18) rfl)
theorem zw_1039 : Cond.codeWith yL_removeEvent cL_removeEvent 6 (some .int) [(0, 12, 15, 19)] ∈ ZW := zs_34 _ (List.mem_of_getElem? (i := 19) rfl)
theorem zw_1040 : Cond.methodLink RL 34 yX9_removeEvent ∈ ZW := zs_34 _ (List.mem_of_getElem? (i := 20) rfl)
theorem zw_1041 : Cond.instanceMethod yX9_removeEvent ∈ ZW := zs_34 _ (List.mem_of_getElem? (i := 21) rfl)
theorem zw_1042 : Cond.selects RX9 yX9_removeEvent yX9_removeEvent ∈ ZW := zs_34 _ (List.mem_of_getElem? (i := 22) rfl)
theorem zw_1043 : Cond.methodLink RX9 139 yX4_dropEvent ∈ ZW := zs_34 _ (List.mem_of_getElem? (i := 23) rfl)
theorem zw_1044 : Cond.instanceMethod yX4_dropEvent ∈ ZW := zs_34 _ (List.mem_of_getElem? (i := 24) rfl)
theorem zw_1045 : Cond.selects RX4 yX4_dropEvent yX4_dropEvent ∈ ZW := zs_34 _ (List.mem_of_getElem? (i := 25) rfl)
theorem zw_1046 : Cond.methodLink RL 134 yX10_removeEvent ∈ ZW := zs_34 _ (List.mem_of_getElem? (i := 26) rfl)
theorem zw_1047 : Cond.instanceMethod yX10_removeEvent ∈ ZW := zs_34 _ (List.mem_of_getElem? (i := 27) rfl)
theorem zw_1048 : Cond.selects RX10 yX10_removeEvent yX10_removeEvent ∈ ZW := zs_34 _ (List.mem_of_getElem? (i := 28) rfl)
theorem zw_1049 : Cond.methodLink RX10 84 yX10_isEvent ∈ ZW := zs_34 _ (List.mem_of_getElem? (i := 29) rfl)
theorem zw_1050 : Cond.instanceMethod yX10_isEvent ∈ ZW := zs_35 _ (List.mem_of_getElem? (i := 0) rfl)
theorem zw_1051 : Cond.selects RX10 yX10_isEvent yX10_isEvent ∈ ZW := zs_35 _ (List.mem_of_getElem? (i := 1) rfl)
theorem zw_1052 : Cond.methodLink RL 135 yL_measure ∈ ZW := zs_35 _ (List.mem_of_getElem? (i := 2) rfl)
theorem zw_1053 : Cond.static yL_measure ∈ ZW := zs_35 _ (List.mem_of_getElem? (i := 3) rfl)
theorem zw_1054 : Cond.codeWith yL_measure cL_measure 5 (some .int) [(0, 10, 13, 19), (0, 10, 17, 25)] ∈ ZW := zs_35 _ (List.mem_of_getElem? (i := 4) rfl)
theorem zw_1055 : Cond.methodLink RL 138 yX10_measure ∈ ZW := zs_35 _ (List.mem_of_getElem? (i := 5) rfl)
theorem zw_1056 : Cond.instanceMethod yX10_measure ∈ ZW := zs_35 _ (List.mem_of_getElem? (i := 6) rfl)
theorem zw_1057 : Cond.selects RX10 yX10_measure yX10_measure ∈ ZW := zs_35 _ (List.mem_of_getElem? (i := 7) rfl)
theorem zw_1058 : Cond.methodLink RL 139 yL_event ∈ ZW := zs_35 _ (List.mem_of_getElem? (i := 8) rfl)
theorem zw_1059 : Cond.static yL_event ∈ ZW := zs_35 _ (List.mem_of_getElem? (i := 9) rfl)
theorem zw_1060 : Cond.methodLink RL 142 yX10_event ∈ ZW := zs_35 _ (List.mem_of_getElem? (i := 10) rfl)
theorem zw_1061 : Cond.instanceMethod yX10_event ∈ ZW := zs_35 _ (List.mem_of_getElem? (i := 11) rfl)
theorem zw_1062 : Cond.selects RX10 yX10_event yX10_event ∈ ZW := zs_35 _ (List.mem_of_getElem? (i := 12) rfl)
theorem zw_1063 : Cond.methodLink RL 143 yL_eventAt ∈ ZW := zs_35 _ (List.mem_of_getElem? (i := 13) rfl)
theorem zw_1064 : Cond.static yL_eventAt ∈ ZW := zs_35 _ (List.mem_of_getElem? (i := 14) rfl)
theorem zw_1065 : Cond.codeWith yL_eventAt cL_eventAt 6 (some .int) [(0, 12, 15, 19), (0, 12, 19, 25)] ∈ ZW := zs_35 _ (List.mem_of_getElem? (i := 15) rfl)
theorem zw_1066 : Cond.methodLink RL 145 yX10_eventAt ∈ ZW := zs_35 _ (List.mem_of_getElem? (i := 16) rfl)
theorem zw_1067 : Cond.instanceMethod yX10_eventAt ∈ ZW := zs_35 _ (List.mem_of_getElem? (i := 17) rfl)
theorem zw_1068 : Cond.selects RX10 yX10_eventAt yX10_eventAt ∈ ZW := zs_35 _ (List.mem_of_getElem? (i := 18) rfl)
theorem zw_1069 : Cond.methodLink RL 146 yL_crossings ∈ ZW := zs_35 _ (List.mem_of_getElem? (i := 19) rfl)
theorem zw_1070 : Cond.static yL_crossings ∈ ZW := zs_35 _ (List.mem_of_getElem? (i := 20) rfl)
theorem zw_1071 : Cond.codeWith yL_crossings cL_crossings 4 (some .int) [(0, 9, 12, 19)] ∈ ZW := zs_35 _ (List.mem_of_getElem? (i := 21) rfl)
theorem zw_1072 : Cond.methodLink RL 148 yX10_crossings ∈ ZW := zs_35 _ (List.mem_of_getElem? (i := 22) rfl)
theorem zw_1073 : Cond.instanceMethod yX10_crossings ∈ ZW := zs_35 _ (List.mem_of_getElem? (i := 23) rfl)
theorem zw_1074 : Cond.selects RX10 yX10_crossings yX10_crossings ∈ ZW := zs_35 _ (List.mem_of_getElem? (i := 24) rfl)
theorem zw_1075 : Cond.methodLink RL 149 yL_whole ∈ ZW := zs_35 _ (List.mem_of_getElem? (i := 25) rfl)
theorem zw_1076 : Cond.static yL_whole ∈ ZW := zs_35 _ (List.mem_of_getElem? (i := 26) rfl)
theorem zw_1077 : Cond.codeWith yL_whole cL_whole 4 (some .int) [(0, 9, 12, 25)] ∈ ZW := zs_35 _ (List.mem_of_getElem? (i := 27) rfl)
theorem zw_1078 : Cond.methodLink RL 151 yX10_whole ∈ ZW := zs_35 _ (List.mem_of_getElem? (i := 28) rfl)
theorem zw_1079 : Cond.instanceMethod yX10_whole ∈ ZW := zs_35 _ (List.mem_of_getElem? (i := 29) rfl)
theorem zw_1080 : Cond.selects RX10 yX10_whole yX10_whole ∈ ZW := zs_36 _ (List.mem_of_getElem? (i := 0) rfl)
theorem zw_1081 : Cond.methodLink RX10 158 yX10_wholeTold ∈ ZW := zs_36 _ (List.mem_of_getElem? (i := 1) rfl)
theorem zw_1082 : Cond.instanceMethod yX10_wholeTold ∈ ZW := zs_36 _ (List.mem_of_getElem? (i := 2) rfl)
theorem zw_1083 : Cond.selects RX10 yX10_wholeTold yX10_wholeTold ∈ ZW := zs_36 _ (List.mem_of_getElem? (i := 3) rfl)
theorem zw_1084 : Cond.fieldLink RX10 146 "SpokenBarsModel" "places" "I" ∈ ZW := zs_36 _ (List.mem_of_getElem? (i := 4) rfl)
theorem zw_1085 : Cond.methodLink RX10 139 yX10_uneven ∈ ZW := zs_36 _ (List.mem_of_getElem? (i := 5) rfl)
theorem zw_1086 : Cond.instanceMethod yX10_uneven ∈ ZW := zs_36 _ (List.mem_of_getElem? (i := 6) rfl)
theorem zw_1087 : Cond.selects RX10 yX10_uneven yX10_uneven ∈ ZW := zs_36 _ (List.mem_of_getElem? (i := 7) rfl)
theorem zw_1088 : Cond.methodLink RX10 155 yX10_events ∈ ZW := zs_36 _ (List.mem_of_getElem? (i := 8) rfl)
theorem zw_1089 : Cond.methodLink RL 152 yL_order ∈ ZW := zs_36 _ (List.mem_of_getElem? (i := 9) rfl)
theorem zw_1090 : Cond.static yL_order ∈ ZW := zs_36 _ (List.mem_of_getElem? (i := 10) rfl)
theorem zw_1091 : Cond.codeWith yL_order cL_order 4 (some .int) [(0, 9, 12, 25)] ∈ ZW := zs_36 _ (List.mem_of_getElem? (i := 11) rfl)
theorem zw_1092 : Cond.methodLink RL 54 yX9_order ∈ ZW := zs_36 _ (List.mem_of_getElem? (i := 12) rfl)
theorem zw_1093 : Cond.instanceMethod yX9_order ∈ ZW := zs_36 _ (List.mem_of_getElem? (i := 13) rfl)
theorem zw_1094 : Cond.selects RX9 yX9_order yX9_order ∈ ZW := zs_36 _ (List.mem_of_getElem? (i := 14) rfl)
theorem zw_1095 : Cond.methodLink RL 154 yX10_order ∈ ZW := zs_36 _ (List.mem_of_getElem? (i := 15) rfl)
theorem zw_1096 : Cond.instanceMethod yX10_order ∈ ZW := zs_36 _ (List.mem_of_getElem? (i := 16) rfl)
theorem zw_1097 : Cond.selects RX10 yX10_order yX10_order ∈ ZW := zs_36 _ (List.mem_of_getElem? (i := 17) rfl)
theorem zw_1098 : Cond.methodLink RL 155 yL_timesPlayed ∈ ZW := zs_36 _ (List.mem_of_getElem? (i := 18) rfl)
theorem zw_1099 : Cond.static yL_timesPlayed ∈ ZW := zs_36 _ (List.mem_of_getElem? (i := 19) rfl)
theorem zw_1100 : Cond.codeWith yL_timesPlayed cL_timesPlayed 4 (some .int) [(0, 9, 12, 19)] ∈ ZW := zs_36 _ (List.mem_of_getElem? (i := 20) rfl)
theorem zw_1101 : Cond.methodLink RL 157 yX10_timesPlayed ∈ ZW := zs_36 _ (List.mem_of_getElem? (i := 21) rfl)
theorem zw_1102 : Cond.instanceMethod yX10_timesPlayed ∈ ZW := zs_36 _ (List.mem_of_getElem? (i := 22) rfl)
theorem zw_1103 : Cond.selects RX10 yX10_timesPlayed yX10_timesPlayed ∈ ZW := zs_36 _ (List.mem_of_getElem? (i := 23) rfl)
theorem zw_1104 : Cond.methodLink RL 158 yL_seconds ∈ ZW := zs_36 _ (List.mem_of_getElem? (i := 24) rfl)
theorem zw_1105 : Cond.static yL_seconds ∈ ZW := zs_36 _ (List.mem_of_getElem? (i := 25) rfl)
theorem zw_1106 : Cond.codeWith yL_seconds cL_seconds 4 (some .int) [(0, 9, 12, 25)] ∈ ZW := zs_36 _ (List.mem_of_getElem? (i := 26) rfl)
theorem zw_1107 : Cond.methodLink RL 161 yX10_seconds ∈ ZW := zs_36 _ (List.mem_of_getElem? (i := 27) rfl)
theorem zw_1108 : Cond.instanceMethod yX10_seconds ∈ ZW := zs_36 _ (List.mem_of_getElem? (i := 28) rfl)
theorem zw_1109 : Cond.selects RX10 yX10_seconds yX10_seconds ∈ ZW := zs_36 _ (List.mem_of_getElem? (i := 29) rfl)
theorem zw_1110 : Cond.methodLink RX10 166 yX10_secondsOf ∈ ZW := zs_37 _ (List.mem_of_getElem? (i := 0) rfl)
theorem zw_1111 : Cond.instanceMethod yX10_secondsOf ∈ ZW := zs_37 _ (List.mem_of_getElem? (i := 1) rfl)
theorem zw_1112 : Cond.selects RX10 yX10_secondsOf yX10_secondsOf ∈ ZW := zs_37 _ (List.mem_of_getElem? (i := 2) rfl)
theorem zw_1113 : Cond.constantFloat RX10 164 (1114636288) ∈ ZW := zs_37 _ (List.mem_of_getElem? (i := 3) rfl)
theorem zw_1114 : Cond.constantFloat RX10 165 (1098907648) ∈ ZW := zs_37 _ (List.mem_of_getElem? (i := 4) rfl)
theorem zw_1115 : Cond.methodLink RL 162 yL_placeAt ∈ ZW := zs_37 _ (List.mem_of_getElem? (i := 5) rfl)
theorem zw_1116 : Cond.static yL_placeAt ∈ ZW := zs_37 _ (List.mem_of_getElem? (i := 6) rfl)
theorem zw_1117 : Cond.codeWith yL_placeAt cL_placeAt 4 (some .int) [(0, 9, 12, 25)] ∈ ZW := zs_37 _ (List.mem_of_getElem? (i := 7) rfl)
theorem zw_1118 : Cond.methodLink RL 164 yX10_placeAt ∈ ZW := zs_37 _ (List.mem_of_getElem? (i := 8) rfl)
theorem zw_1119 : Cond.instanceMethod yX10_placeAt ∈ ZW := zs_37 _ (List.mem_of_getElem? (i := 9) rfl)
theorem zw_1120 : Cond.selects RX10 yX10_placeAt yX10_placeAt ∈ ZW := zs_37 _ (List.mem_of_getElem? (i := 10) rfl)
theorem zw_1121 : Cond.methodLink RL 165 yL_sentenceLength ∈ ZW := zs_37 _ (List.mem_of_getElem? (i := 11) rfl)
theorem zw_1122 : Cond.static yL_sentenceLength ∈ ZW := zs_37 _ (List.mem_of_getElem? (i := 12) rfl)
theorem zw_1123 : Cond.codeWith yL_sentenceLength cL_sentenceLength 4 (some .int) [(0, 9, 12, 19)] ∈ ZW := zs_37 _ (List.mem_of_getElem? (i := 13) rfl)
theorem zw_1124 : Cond.methodLink RL 167 yX10_sentenceLength ∈ ZW := zs_37 _ (List.mem_of_getElem? (i := 14) rfl)
theorem zw_1125 : Cond.instanceMethod yX10_sentenceLength ∈ ZW := zs_37 _ (List.mem_of_getElem? (i := 15) rfl)
theorem zw_1126 : Cond.selects RX10 yX10_sentenceLength yX10_sentenceLength ∈ ZW := zs_37 _ (List.mem_of_getElem? (i := 16) rfl)
theorem zw_1127 : Cond.fieldLink RX10 170 "SpokenBarsModel" "lineMany" "I" ∈ ZW := zs_37 _ (List.mem_of_getElem? (i := 17) rfl)
theorem zw_1128 : Cond.selects RX10 yX10_writesWord yX10_writesWord ∈ ZW := zs_37 _ (List.mem_of_getElem? (i := 18) rfl)
theorem zw_1129 : Cond.methodLink RX10 173 yX10_gap ∈ ZW := zs_37 _ (List.mem_of_getElem? (i := 19) rfl)
theorem zw_1130 : Cond.instanceMethod yX10_gap ∈ ZW := zs_37 _ (List.mem_of_getElem? (i := 20) rfl)
theorem zw_1131 : Cond.selects RX10 yX10_gap yX10_gap ∈ ZW := zs_37 _ (List.mem_of_getElem? (i := 21) rfl)
theorem zw_1132 : Cond.methodLink RX10 176 yX10_beginOf ∈ ZW := zs_37 _ (List.mem_of_getElem? (i := 22) rfl)
theorem zw_1133 : Cond.instanceMethod yX10_beginOf ∈ ZW := zs_37 _ (List.mem_of_getElem? (i := 23) rfl)
theorem zw_1134 : Cond.methodLink RX10 179 yX10_writes ∈ ZW := zs_37 _ (List.mem_of_getElem? (i := 24) rfl)
theorem zw_1135 : Cond.instanceMethod yX10_writes ∈ ZW := zs_37 _ (List.mem_of_getElem? (i := 25) rfl)
theorem zw_1136 : Cond.selects RX10 yX10_writes yX10_writes ∈ ZW := zs_37 _ (List.mem_of_getElem? (i := 26) rfl)
theorem zw_1137 : Cond.methodLink RX10 189 yX10_isOther ∈ ZW := zs_37 _ (List.mem_of_getElem? (i := 27) rfl)
theorem zw_1138 : Cond.methodLink RL 168 yL_sentenceByte ∈ ZW := zs_37 _ (List.mem_of_getElem? (i := 28) rfl)
theorem zw_1139 : Cond.static yL_sentenceByte ∈ ZW := zs_37 _ (List.mem_of_getElem? (i := 29) rfl)
theorem zw_1140 : Cond.codeWith yL_sentenceByte cL_sentenceByte 5 (some .int) [(0, 10, 13, 19), (0, 10, 17, 25)] ∈ ZW := zs_38 _ (List.mem_of_getElem? (i := 0) rfl)
theorem zw_1141 : Cond.methodLink RL 170 yX10_sentenceByte ∈ ZW := zs_38 _ (List.mem_of_getElem? (i := 1) rfl)
theorem zw_1142 : Cond.instanceMethod yX10_sentenceByte ∈ ZW := zs_38 _ (List.mem_of_getElem? (i := 2) rfl)
theorem zw_1143 : Cond.selects RX10 yX10_sentenceByte yX10_sentenceByte ∈ ZW := zs_38 _ (List.mem_of_getElem? (i := 3) rfl)
theorem zw_1144 : Cond.methodLink RL 171 yL_words ∈ ZW := zs_38 _ (List.mem_of_getElem? (i := 4) rfl)
theorem zw_1145 : Cond.static yL_words ∈ ZW := zs_38 _ (List.mem_of_getElem? (i := 5) rfl)
theorem zw_1146 : Cond.codeWith yL_words cL_words 4 (some .int) [(0, 9, 12, 19)] ∈ ZW := zs_38 _ (List.mem_of_getElem? (i := 6) rfl)
theorem zw_1147 : Cond.methodLink RL 173 yX10_words ∈ ZW := zs_38 _ (List.mem_of_getElem? (i := 7) rfl)
theorem zw_1148 : Cond.instanceMethod yX10_words ∈ ZW := zs_38 _ (List.mem_of_getElem? (i := 8) rfl)
theorem zw_1149 : Cond.selects RX10 yX10_words yX10_words ∈ ZW := zs_38 _ (List.mem_of_getElem? (i := 9) rfl)
theorem zw_1150 : Cond.methodLink RL 174 yL_copySentence ∈ ZW := zs_38 _ (List.mem_of_getElem? (i := 10) rfl)
theorem zw_1151 : Cond.static yL_copySentence ∈ ZW := zs_38 _ (List.mem_of_getElem? (i := 11) rfl)
theorem zw_1152 : Cond.codeWith yL_copySentence cL_copySentence 4 (some .int) [(0, 9, 12, 19), (0, 9, 15, 13)] ∈ ZW := zs_38 _ (List.mem_of_getElem? (i := 12) rfl)
theorem zw_1153 : Cond.methodLink RL 176 yX10_copySentence ∈ ZW := zs_38 _ (List.mem_of_getElem? (i := 13) rfl)
theorem zw_1154 : Cond.instanceMethod yX10_copySentence ∈ ZW := zs_38 _ (List.mem_of_getElem? (i := 14) rfl)
theorem zw_1155 : Cond.selects RX10 yX10_copySentence yX10_copySentence ∈ ZW := zs_38 _ (List.mem_of_getElem? (i := 15) rfl)
theorem zw_1156 : Cond.methodLink RL 177 yL_type ∈ ZW := zs_38 _ (List.mem_of_getElem? (i := 16) rfl)
theorem zw_1157 : Cond.static yL_type ∈ ZW := zs_38 _ (List.mem_of_getElem? (i := 17) rfl)
theorem zw_1158 : Cond.codeWith yL_type cL_type 4 (some .int) [(0, 9, 12, 25), (0, 9, 15, 13)] ∈ ZW := zs_38 _ (List.mem_of_getElem? (i := 18) rfl)
theorem zw_1159 : Cond.methodLink RL 179 yX10_type ∈ ZW := zs_38 _ (List.mem_of_getElem? (i := 19) rfl)
theorem zw_1160 : Cond.instanceMethod yX10_type ∈ ZW := zs_38 _ (List.mem_of_getElem? (i := 20) rfl)
theorem zw_1161 : Cond.selects RX10 yX10_type yX10_type ∈ ZW := zs_38 _ (List.mem_of_getElem? (i := 21) rfl)
theorem zw_1162 : Cond.methodLink RL 180 yL_cut ∈ ZW := zs_38 _ (List.mem_of_getElem? (i := 22) rfl)
theorem zw_1163 : Cond.static yL_cut ∈ ZW := zs_38 _ (List.mem_of_getElem? (i := 23) rfl)
theorem zw_1164 : Cond.codeWith yL_cut cL_cut 4 (some .int) [(0, 9, 12, 25), (0, 9, 15, 13)] ∈ ZW := zs_38 _ (List.mem_of_getElem? (i := 24) rfl)
theorem zw_1165 : Cond.methodLink RL 182 yX10_cut ∈ ZW := zs_38 _ (List.mem_of_getElem? (i := 25) rfl)
theorem zw_1166 : Cond.instanceMethod yX10_cut ∈ ZW := zs_38 _ (List.mem_of_getElem? (i := 26) rfl)
theorem zw_1167 : Cond.selects RX10 yX10_cut yX10_cut ∈ ZW := zs_38 _ (List.mem_of_getElem? (i := 27) rfl)
theorem zw_1168 : Cond.methodLink RL 183 yX9_clearText ∈ ZW := zs_38 _ (List.mem_of_getElem? (i := 28) rfl)
theorem zw_1169 : Cond.instanceMethod yX9_clearText ∈ ZW := zs_38 _ (List.mem_of_getElem? (i := 29) rfl)
theorem zw_1170 : Cond.selects RX9 yX9_clearText yX9_clearText ∈ ZW := zs_39 _ (List.mem_of_getElem? (i := 0) rfl)
theorem zw_1171 : Cond.methodLink RL 186 yX10_clearText ∈ ZW := zs_39 _ (List.mem_of_getElem? (i := 1) rfl)
theorem zw_1172 : Cond.instanceMethod yX10_clearText ∈ ZW := zs_39 _ (List.mem_of_getElem? (i := 2) rfl)
theorem zw_1173 : Cond.selects RX10 yX10_clearText yX10_clearText ∈ ZW := zs_39 _ (List.mem_of_getElem? (i := 3) rfl)
theorem zw_1174 : Cond.methodLink RL 187 yX9_fault ∈ ZW := zs_39 _ (List.mem_of_getElem? (i := 4) rfl)
theorem zw_1175 : Cond.instanceMethod yX9_fault ∈ ZW := zs_39 _ (List.mem_of_getElem? (i := 5) rfl)
theorem zw_1176 : Cond.selects RX9 yX9_fault yX9_fault ∈ ZW := zs_39 _ (List.mem_of_getElem? (i := 6) rfl)
theorem zw_1177 : Cond.methodLink RX3 35 yX3_readHead ∈ ZW := zs_39 _ (List.mem_of_getElem? (i := 7) rfl)
theorem zw_1178 : Cond.instanceMethod yX3_readHead ∈ ZW := zs_39 _ (List.mem_of_getElem? (i := 8) rfl)
theorem zw_1179 : Cond.selects RX3 yX3_readHead yX3_readHead ∈ ZW := zs_39 _ (List.mem_of_getElem? (i := 9) rfl)
theorem zw_1180 : Cond.methodLink RL 190 yX10_fault ∈ ZW := zs_39 _ (List.mem_of_getElem? (i := 10) rfl)
theorem zw_1181 : Cond.instanceMethod yX10_fault ∈ ZW := zs_39 _ (List.mem_of_getElem? (i := 11) rfl)
theorem zw_1182 : Cond.selects RX10 yX10_fault yX10_fault ∈ ZW := zs_39 _ (List.mem_of_getElem? (i := 12) rfl)
theorem zw_1183 : Cond.methodLink RX10 264 yX10_faultNow ∈ ZW := zs_39 _ (List.mem_of_getElem? (i := 13) rfl)
theorem zw_1184 : Cond.instanceMethod yX10_faultNow ∈ ZW := zs_39 _ (List.mem_of_getElem? (i := 14) rfl)
theorem zw_1185 : Cond.selects RX10 yX10_faultNow yX10_faultNow ∈ ZW := zs_39 _ (List.mem_of_getElem? (i := 15) rfl)
theorem zw_1186 : Cond.fieldLink RX10 205 "SpokenBarsModel" "from" "I" ∈ ZW := zs_39 _ (List.mem_of_getElem? (i := 16) rfl)
theorem zw_1187 : Cond.methodLink RX10 261 yX10_readsAll ∈ ZW := zs_39 _ (List.mem_of_getElem? (i := 17) rfl)
theorem zw_1188 : Cond.instanceMethod yX10_readsAll ∈ ZW := zs_39 _ (List.mem_of_getElem? (i := 18) rfl)
theorem zw_1189 : Cond.selects RX10 yX10_readsAll yX10_readsAll ∈ ZW := zs_39 _ (List.mem_of_getElem? (i := 19) rfl)
theorem zw_1190 : Cond.fieldLink RX10 217 "SpokenBarsModel" "hasKey" "Z" ∈ ZW := zs_39 _ (List.mem_of_getElem? (i := 20) rfl)
theorem zw_1191 : Cond.fieldLink RX10 227 "SpokenBarsModel" "hasTime" "Z" ∈ ZW := zs_39 _ (List.mem_of_getElem? (i := 21) rfl)
theorem zw_1192 : Cond.fieldLink RX10 202 "SpokenBarsModel" "to" "I" ∈ ZW := zs_39 _ (List.mem_of_getElem? (i := 22) rfl)
theorem zw_1193 : Cond.methodLink RX10 221 yX10_takesWord ∈ ZW := zs_39 _ (List.mem_of_getElem? (i := 23) rfl)
theorem zw_1194 : Cond.instanceMethod yX10_takesWord ∈ ZW := zs_39 _ (List.mem_of_getElem? (i := 24) rfl)
theorem zw_1195 : Cond.selects RX10 yX10_takesWord yX10_takesWord ∈ ZW := zs_39 _ (List.mem_of_getElem? (i := 25) rfl)
theorem zw_1196 : Cond.methodLink RL 191 yL_readInto ∈ ZW := zs_39 _ (List.mem_of_getElem? (i := 26) rfl)
theorem zw_1197 : Cond.static yL_readInto ∈ ZW := zs_39 _ (List.mem_of_getElem? (i := 27) rfl)
theorem zw_1198 : Cond.codeWith yL_readInto cL_readInto 4 (some .int) [(0, 9, 12, 19)] ∈ ZW := zs_39 _ (List.mem_of_getElem? (i := 28) rfl)
theorem zw_1199 : Cond.methodLink RL 193 yX10_readInto ∈ ZW := zs_39 _ (List.mem_of_getElem? (i := 29) rfl)
theorem zw_1200 : Cond.instanceMethod yX10_readInto ∈ ZW := zs_40 _ (List.mem_of_getElem? (i := 0) rfl)
theorem zw_1201 : Cond.selects RX10 yX10_readInto yX10_readInto ∈ ZW := zs_40 _ (List.mem_of_getElem? (i := 1) rfl)
theorem zw_1202 : Cond.methodLink RL 194 yL_tells ∈ ZW := zs_40 _ (List.mem_of_getElem? (i := 2) rfl)
theorem zw_1203 : Cond.static yL_tells ∈ ZW := zs_40 _ (List.mem_of_getElem? (i := 3) rfl)
theorem zw_1204 : Cond.codeWith yL_tells cL_tells 4 (some .int) [(0, 16, 19, 19)] ∈ ZW := zs_40 _ (List.mem_of_getElem? (i := 4) rfl)
theorem zw_1205 : Cond.methodLink RL 196 yX10_tells ∈ ZW := zs_40 _ (List.mem_of_getElem? (i := 5) rfl)
theorem zw_1206 : Cond.instanceMethod yX10_tells ∈ ZW := zs_40 _ (List.mem_of_getElem? (i := 6) rfl)
theorem zw_1207 : Cond.selects RX10 yX10_tells yX10_tells ∈ ZW := zs_40 _ (List.mem_of_getElem? (i := 7) rfl)
theorem zw_1208 : Cond.methodLink RL 197 yL_changedBy ∈ ZW := zs_40 _ (List.mem_of_getElem? (i := 8) rfl)
theorem zw_1209 : Cond.static yL_changedBy ∈ ZW := zs_40 _ (List.mem_of_getElem? (i := 9) rfl)
theorem zw_1210 : Cond.codeWith yL_changedBy cL_changedBy 5 (some .int) [(0, 10, 13, 19), (0, 10, 17, 25)] ∈ ZW := zs_40 _ (List.mem_of_getElem? (i := 10) rfl)
theorem zw_1211 : Cond.methodLink RL 199 yX10_changedBy ∈ ZW := zs_40 _ (List.mem_of_getElem? (i := 11) rfl)
theorem zw_1212 : Cond.instanceMethod yX10_changedBy ∈ ZW := zs_40 _ (List.mem_of_getElem? (i := 12) rfl)
theorem zw_1213 : Cond.selects RX10 yX10_changedBy yX10_changedBy ∈ ZW := zs_40 _ (List.mem_of_getElem? (i := 13) rfl)
theorem zw_1214 : Cond.methodLink RX10 270 yX10_others ∈ ZW := zs_40 _ (List.mem_of_getElem? (i := 14) rfl)
theorem zw_1215 : Cond.instanceMethod yX10_others ∈ ZW := zs_40 _ (List.mem_of_getElem? (i := 15) rfl)
theorem zw_1216 : Cond.selects RX10 yX10_others yX10_others ∈ ZW := zs_40 _ (List.mem_of_getElem? (i := 16) rfl)
theorem zw_1217 : Cond.methodLink RL 200 yL_nearestKey ∈ ZW := zs_40 _ (List.mem_of_getElem? (i := 17) rfl)
theorem zw_1218 : Cond.static yL_nearestKey ∈ ZW := zs_40 _ (List.mem_of_getElem? (i := 18) rfl)
theorem zw_1219 : Cond.codeWith yL_nearestKey cL_nearestKey 4 (some .int) [(0, 9, 12, 19)] ∈ ZW := zs_40 _ (List.mem_of_getElem? (i := 19) rfl)
theorem zw_1220 : Cond.methodLink RL 202 yX10_nearestKey ∈ ZW := zs_40 _ (List.mem_of_getElem? (i := 20) rfl)
theorem zw_1221 : Cond.instanceMethod yX10_nearestKey ∈ ZW := zs_40 _ (List.mem_of_getElem? (i := 21) rfl)
theorem zw_1222 : Cond.selects RX10 yX10_nearestKey yX10_nearestKey ∈ ZW := zs_40 _ (List.mem_of_getElem? (i := 22) rfl)
theorem zw_1223 : Cond.methodLink RL 203 yL_needlessSigns ∈ ZW := zs_40 _ (List.mem_of_getElem? (i := 23) rfl)
theorem zw_1224 : Cond.static yL_needlessSigns ∈ ZW := zs_40 _ (List.mem_of_getElem? (i := 24) rfl)
theorem zw_1225 : Cond.codeWith yL_needlessSigns cL_needlessSigns 4 (some .int) [(0, 9, 12, 19)] ∈ ZW := zs_40 _ (List.mem_of_getElem? (i := 25) rfl)
theorem zw_1226 : Cond.methodLink RL 205 yX10_needlessSigns ∈ ZW := zs_40 _ (List.mem_of_getElem? (i := 26) rfl)
theorem zw_1227 : Cond.instanceMethod yX10_needlessSigns ∈ ZW := zs_40 _ (List.mem_of_getElem? (i := 27) rfl)
theorem zw_1228 : Cond.selects RX10 yX10_needlessSigns yX10_needlessSigns ∈ ZW := zs_40 _ (List.mem_of_getElem? (i := 28) rfl)
theorem zw_1229 : Cond.methodLink RL 206 yL_undo ∈ ZW := zs_40 _ (List.mem_of_getElem? (i := 29) rfl)
theorem zw_1230 : Cond.static yL_undo ∈ ZW := zs_41 _ (List.mem_of_getElem? (i := 0) rfl)
theorem zw_1231 : Cond.codeWith yL_undo cL_undo 3 (some .int) [(0, 8, 11, 13)] ∈ ZW := zs_41 _ (List.mem_of_getElem? (i := 1) rfl)
theorem zw_1232 : Cond.methodLink RL 101 yX9_undo ∈ ZW := zs_41 _ (List.mem_of_getElem? (i := 2) rfl)
theorem zw_1233 : Cond.instanceMethod yX9_undo ∈ ZW := zs_41 _ (List.mem_of_getElem? (i := 3) rfl)
theorem zw_1234 : Cond.selects RX9 yX9_undo yX9_undo ∈ ZW := zs_41 _ (List.mem_of_getElem? (i := 4) rfl)
theorem zw_1235 : Cond.methodLink RX9 250 yX1_popInto ∈ ZW := zs_41 _ (List.mem_of_getElem? (i := 5) rfl)
theorem zw_1236 : Cond.instanceMethod yX1_popInto ∈ ZW := zs_41 _ (List.mem_of_getElem? (i := 6) rfl)
theorem zw_1237 : Cond.selects RX1 yX1_popInto yX1_popInto ∈ ZW := zs_41 _ (List.mem_of_getElem? (i := 7) rfl)
theorem zw_1238 : Cond.methodLink RL 208 yX10_undo ∈ ZW := zs_41 _ (List.mem_of_getElem? (i := 8) rfl)
theorem zw_1239 : Cond.instanceMethod yX10_undo ∈ ZW := zs_41 _ (List.mem_of_getElem? (i := 9) rfl)
theorem zw_1240 : Cond.selects RX10 yX10_undo yX10_undo ∈ ZW := zs_41 _ (List.mem_of_getElem? (i := 10) rfl)
theorem zw_1241 : Cond.methodLink RL 209 yX9_digest ∈ ZW := zs_41 _ (List.mem_of_getElem? (i := 11) rfl)
theorem zw_1242 : Cond.instanceMethod yX9_digest ∈ ZW := zs_41 _ (List.mem_of_getElem? (i := 12) rfl)
theorem zw_1243 : Cond.selects RX9 yX9_digest yX9_digest ∈ ZW := zs_41 _ (List.mem_of_getElem? (i := 13) rfl)
theorem zw_1244 : Cond.methodLink RX9 262 yX9_mixValues ∈ ZW := zs_41 _ (List.mem_of_getElem? (i := 14) rfl)
theorem zw_1245 : Cond.instanceMethod yX9_mixValues ∈ ZW := zs_41 _ (List.mem_of_getElem? (i := 15) rfl)
theorem zw_1246 : Cond.selects RX9 yX9_mixValues yX9_mixValues ∈ ZW := zs_41 _ (List.mem_of_getElem? (i := 16) rfl)
theorem zw_1247 : Cond.methodLink RL 213 yX10_digest ∈ ZW := zs_41 _ (List.mem_of_getElem? (i := 17) rfl)
theorem zw_1248 : Cond.instanceMethod yX10_digest ∈ ZW := zs_41 _ (List.mem_of_getElem? (i := 18) rfl)
theorem zw_1249 : Cond.selects RX10 yX10_digest yX10_digest ∈ ZW := zs_41 _ (List.mem_of_getElem? (i := 19) rfl)
theorem zw_1250 : Cond.constantLong RX10 282 (43179) ∈ ZW := zs_41 _ (List.mem_of_getElem? (i := 20) rfl)
theorem zw_1251 : Cond.methodLink RX10 284 yX10_mixMeasure ∈ ZW := zs_41 _ (List.mem_of_getElem? (i := 21) rfl)
theorem zw_1252 : Cond.instanceMethod yX10_mixMeasure ∈ ZW := zs_41 _ (List.mem_of_getElem? (i := 22) rfl)
theorem zw_1253 : Cond.selects RX10 yX10_mixMeasure yX10_mixMeasure ∈ ZW := zs_41 _ (List.mem_of_getElem? (i := 23) rfl)
