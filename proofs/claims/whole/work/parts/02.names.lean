def RX0 : String := "PraisedFields$Guesses"
def TX0 : u_T := fun k => match k with
  | 0 => ("PraisedFields$Guesses", "ears", "[I", true)
  | 1 => ("PraisedFields$Guesses", "blight", "[I", true)
  | _ => ("PraisedFields$Guesses", "size", "I", false)
def tyX0 : Nat → FieldType := fun k => match k with
  | 0 => .array .int
  | 1 => .array .int
  | _ => .int
theorem nmX0 : ∀ a, a < 3 → ∀ b, b < 3 → a ≠ b → (TX0 a).2.1 ≠ (TX0 b).2.1 := by decide +kernel
theorem tyX0_ok : ∀ k, k < 3 → parseFieldDescriptor (TX0 k).2.2.1 = some (tyX0 k) := by decide +kernel
abbrev cX0_init : ByteArray := prog_2_method_1_code
def yX0_init : MethodName := ⟨RX0, "<init>", "()V"⟩
abbrev cX0_begin : ByteArray := prog_2_method_2_code
def yX0_begin : MethodName := ⟨RX0, "begin", "(II)V"⟩
abbrev cX0_passWeek : ByteArray := prog_2_method_3_code
def yX0_passWeek : MethodName := ⟨RX0, "passWeek", "(II)V"⟩
abbrev cX0_largestGroup : ByteArray := prog_2_method_4_code
def yX0_largestGroup : MethodName := ⟨RX0, "largestGroup", "()I"⟩
def RX1 : String := "PraisedFields$Hail"
def TX1 : u_T := fun k => match k with
  | 0 => ("PraisedFields$Hail", "ears", "[I", true)
  | 1 => ("PraisedFields$Hail", "blight", "[I", true)
  | 2 => ("PraisedFields$Hail", "weight", "[J", true)
  | _ => ("PraisedFields$Hail", "ways", "I", false)
def tyX1 : Nat → FieldType := fun k => match k with
  | 0 => .array .int
  | 1 => .array .int
  | 2 => .array .long
  | _ => .int
theorem nmX1 : ∀ a, a < 4 → ∀ b, b < 4 → a ≠ b → (TX1 a).2.1 ≠ (TX1 b).2.1 := by decide +kernel
theorem tyX1_ok : ∀ k, k < 4 → parseFieldDescriptor (TX1 k).2.2.1 = some (tyX1 k) := by decide +kernel
abbrev cX1_init : ByteArray := prog_3_method_1_code
def yX1_init : MethodName := ⟨RX1, "<init>", "()V"⟩
abbrev cX1_fallOn : ByteArray := prog_3_method_2_code
def yX1_fallOn : MethodName := ⟨RX1, "fallOn", "(LPraisedFields$Land;III)V"⟩
abbrev cX1_part : ByteArray := prog_3_method_3_code
def yX1_part : MethodName := ⟨RX1, "part", "(I)V"⟩
abbrev cX1_passWeek : ByteArray := prog_3_method_4_code
def yX1_passWeek : MethodName := ⟨RX1, "passWeek", "(II)V"⟩
abbrev cX1_weightOf : ByteArray := prog_3_method_5_code
def yX1_weightOf : MethodName := ⟨RX1, "weightOf", "(I)J"⟩
abbrev cX1_weighedEars : ByteArray := prog_3_method_6_code
def yX1_weighedEars : MethodName := ⟨RX1, "weighedEars", "()J"⟩
def RX2 : String := "PraisedFields$Land"
def TX2 : u_T := fun k => match k with
  | 0 => ("PraisedFields$Land", "kindOf", "[I", true)
  | 1 => ("PraisedFields$Land", "ears", "[I", true)
  | 2 => ("PraisedFields$Land", "blight", "[I", true)
  | 3 => ("PraisedFields$Land", "at", "[I", true)
  | 4 => ("PraisedFields$Land", "loud", "[I", true)
  | 5 => ("PraisedFields$Land", "seenWeeks", "[I", true)
  | 6 => ("PraisedFields$Land", "seenField", "[I", true)
  | 7 => ("PraisedFields$Land", "seenEars", "[I", true)
  | 8 => ("PraisedFields$Land", "fieldCount", "I", false)
  | 9 => ("PraisedFields$Land", "bandCount", "I", false)
  | 10 => ("PraisedFields$Land", "seenCount", "I", false)
  | 11 => ("PraisedFields$Land", "glutFrom", "I", false)
  | 12 => ("PraisedFields$Land", "sheaves", "I", false)
  | _ => ("PraisedFields$Land", "week", "I", false)
def tyX2 : Nat → FieldType := fun k => match k with
  | 0 => .array .int
  | 1 => .array .int
  | 2 => .array .int
  | 3 => .array .int
  | 4 => .array .int
  | 5 => .array .int
  | 6 => .array .int
  | 7 => .array .int
  | 8 => .int
  | 9 => .int
  | 10 => .int
  | 11 => .int
  | 12 => .int
  | _ => .int
theorem nmX2 : ∀ a, a < 14 → ∀ b, b < 14 → a ≠ b → (TX2 a).2.1 ≠ (TX2 b).2.1 := by decide +kernel
theorem tyX2_ok : ∀ k, k < 14 → parseFieldDescriptor (TX2 k).2.2.1 = some (tyX2 k) := by decide +kernel
abbrev cX2_init : ByteArray := prog_4_method_1_code
def yX2_init : MethodName := ⟨RX2, "<init>", "()V"⟩
abbrev cX2_clear : ByteArray := prog_4_method_2_code
def yX2_clear : MethodName := ⟨RX2, "clear", "()V"⟩
abbrev cX2_copyFrom : ByteArray := prog_4_method_3_code
def yX2_copyFrom : MethodName := ⟨RX2, "copyFrom", "(LPraisedFields$Land;)V"⟩
abbrev cX2_addField : ByteArray := prog_4_method_4_code
def yX2_addField : MethodName := ⟨RX2, "addField", "(III)Z"⟩
abbrev cX2_addBand : ByteArray := prog_4_method_5_code
def yX2_addBand : MethodName := ⟨RX2, "addBand", "(II)Z"⟩
abbrev cX2_addSeen : ByteArray := prog_4_method_6_code
def yX2_addSeen : MethodName := ⟨RX2, "addSeen", "(III)Z"⟩
abbrev cX2_heardAt : ByteArray := prog_4_method_7_code
def yX2_heardAt : MethodName := ⟨RX2, "heardAt", "(I)I"⟩
abbrev cX2_hearingFields : ByteArray := prog_4_method_8_code
def yX2_hearingFields : MethodName := ⟨RX2, "hearingFields", "()I"⟩
abbrev cX2_earlessFields : ByteArray := prog_4_method_9_code
def yX2_earlessFields : MethodName := ⟨RX2, "earlessFields", "()I"⟩
abbrev cX2_allEars : ByteArray := prog_4_method_10_code
def yX2_allEars : MethodName := ⟨RX2, "allEars", "()I"⟩
abbrev cX2_allBlight : ByteArray := prog_4_method_11_code
def yX2_allBlight : MethodName := ⟨RX2, "allBlight", "()I"⟩
abbrev cX2_allLoud : ByteArray := prog_4_method_12_code
def yX2_allLoud : MethodName := ⟨RX2, "allLoud", "()I"⟩
abbrev cX2_sumOf : ByteArray := prog_4_method_13_code
def yX2_sumOf : MethodName := ⟨RX2, "sumOf", "([II)I"⟩
abbrev cX2_passWeek : ByteArray := prog_4_method_14_code
def yX2_passWeek : MethodName := ⟨RX2, "passWeek", "()I"⟩
abbrev cX2_passWeeks : ByteArray := prog_4_method_15_code
def yX2_passWeeks : MethodName := ⟨RX2, "passWeeks", "(I)I"⟩
abbrev cX2_earsIf : ByteArray := prog_4_method_16_code
def yX2_earsIf : MethodName := ⟨RX2, "earsIf", "(III)I"⟩
abbrev cX2_gainBy : ByteArray := prog_4_method_17_code
def yX2_gainBy : MethodName := ⟨RX2, "gainBy", "(III)I"⟩
abbrev cX2_allEarsBehind : ByteArray := prog_4_method_18_code
def yX2_allEarsBehind : MethodName := ⟨RX2, "allEarsBehind", "(I)I"⟩
abbrev cX2_isAsSeen : ByteArray := prog_4_method_19_code
def yX2_isAsSeen : MethodName := ⟨RX2, "isAsSeen", "(III)Z"⟩
def RX3 : String := "PraisedFields$Orders"
def TX3 : u_T := fun k => match k with
  | 0 => ("PraisedFields$Orders", "earsBy", "[I", true)
  | 1 => ("PraisedFields$Orders", "setAt", "[I", true)
  | 2 => ("PraisedFields$Orders", "row", "[I", true)
  | 3 => ("PraisedFields$Orders", "bestRow", "[I", true)
  | 4 => ("PraisedFields$Orders", "total", "I", false)
  | _ => ("PraisedFields$Orders", "best", "I", false)
def tyX3 : Nat → FieldType := fun k => match k with
  | 0 => .array .int
  | 1 => .array .int
  | 2 => .array .int
  | 3 => .array .int
  | 4 => .int
  | _ => .int
theorem nmX3 : ∀ a, a < 6 → ∀ b, b < 6 → a ≠ b → (TX3 a).2.1 ≠ (TX3 b).2.1 := by decide +kernel
theorem tyX3_ok : ∀ k, k < 6 → parseFieldDescriptor (TX3 k).2.2.1 = some (tyX3 k) := by decide +kernel
abbrev cX3_init : ByteArray := prog_5_method_1_code
def yX3_init : MethodName := ⟨RX3, "<init>", "()V"⟩
abbrev cX3_findBest : ByteArray := prog_5_method_2_code
def yX3_findBest : MethodName := ⟨RX3, "findBest", "(LPraisedFields$Land;)V"⟩
abbrev cX3_weigh : ByteArray := prog_5_method_3_code
def yX3_weigh : MethodName := ⟨RX3, "weigh", "(LPraisedFields$Land;)V"⟩
abbrev cX3_beginRows : ByteArray := prog_5_method_4_code
def yX3_beginRows : MethodName := ⟨RX3, "beginRows", "(LPraisedFields$Land;)V"⟩
abbrev cX3_nextRow : ByteArray := prog_5_method_5_code
def yX3_nextRow : MethodName := ⟨RX3, "nextRow", "(LPraisedFields$Land;)V"⟩
abbrev cX3_place : ByteArray := prog_5_method_6_code
def yX3_place : MethodName := ⟨RX3, "place", "(II)V"⟩
abbrev cX3_toggle : ByteArray := prog_5_method_7_code
def yX3_toggle : MethodName := ⟨RX3, "toggle", "(II)V"⟩
def RX4 : String := "PraisedFields$Sheets"
def TX4 : u_T := fun k => match k with
  | 0 => ("PraisedFields$Sheets", "cells", "[I", true)
  | 1 => ("PraisedFields$Sheets", "laneOf", "[I", true)
  | _ => ("PraisedFields$Sheets", "size", "[I", true)
def tyX4 : Nat → FieldType := fun k => match k with
  | 0 => .array .int
  | 1 => .array .int
  | _ => .array .int
theorem nmX4 : ∀ a, a < 3 → ∀ b, b < 3 → a ≠ b → (TX4 a).2.1 ≠ (TX4 b).2.1 := by decide +kernel
theorem tyX4_ok : ∀ k, k < 3 → parseFieldDescriptor (TX4 k).2.2.1 = some (tyX4 k) := by decide +kernel
abbrev cX4_init : ByteArray := prog_6_method_1_code
def yX4_init : MethodName := ⟨RX4, "<init>", "()V"⟩
abbrev cX4_renew : ByteArray := prog_6_method_2_code
def yX4_renew : MethodName := ⟨RX4, "renew", "(III)V"⟩
abbrev cX4_faultAt : ByteArray := prog_6_method_3_code
def yX4_faultAt : MethodName := ⟨RX4, "faultAt", "(III)I"⟩
abbrev cX4_pairFault : ByteArray := prog_6_method_4_code
def yX4_pairFault : MethodName := ⟨RX4, "pairFault", "(III)I"⟩
abbrev cX4_put : ByteArray := prog_6_method_5_code
def yX4_put : MethodName := ⟨RX4, "put", "(III)V"⟩
abbrev cX4_get : ByteArray := prog_6_method_6_code
def yX4_get : MethodName := ⟨RX4, "get", "(II)I"⟩
abbrev cX4_lowestBits : ByteArray := prog_6_method_7_code
def yX4_lowestBits : MethodName := ⟨RX4, "lowestBits", "(II)I"⟩
def RX5 : String := "PraisedFields$Tape"
def TX5 : u_T := fun k => match k with
  | 0 => ("PraisedFields$Tape", "bytes", "[B", true)
  | 1 => ("PraisedFields$Tape", "length", "I", false)
  | 2 => ("PraisedFields$Tape", "fault", "I", false)
  | 3 => ("PraisedFields$Tape", "faultPlace", "I", false)
  | 4 => ("PraisedFields$Tape", "place", "I", false)
  | 5 => ("PraisedFields$Tape", "token", "I", false)
  | 6 => ("PraisedFields$Tape", "start", "I", false)
  | 7 => ("PraisedFields$Tape", "value", "I", false)
  | _ => ("PraisedFields$Tape", "glutTold", "Z", false)
def tyX5 : Nat → FieldType := fun k => match k with
  | 0 => .array .byte
  | 1 => .int
  | 2 => .int
  | 3 => .int
  | 4 => .int
  | 5 => .int
  | 6 => .int
  | 7 => .int
  | _ => .boolean
theorem nmX5 : ∀ a, a < 9 → ∀ b, b < 9 → a ≠ b → (TX5 a).2.1 ≠ (TX5 b).2.1 := by decide +kernel
theorem tyX5_ok : ∀ k, k < 9 → parseFieldDescriptor (TX5 k).2.2.1 = some (tyX5 k) := by decide +kernel
abbrev cX5_init : ByteArray := prog_7_method_1_code
def yX5_init : MethodName := ⟨RX5, "<init>", "()V"⟩
abbrev cX5_append : ByteArray := prog_7_method_2_code
def yX5_append : MethodName := ⟨RX5, "append", "(I)Z"⟩
abbrev cX5_tellAll : ByteArray := prog_7_method_3_code
def yX5_tellAll : MethodName := ⟨RX5, "tellAll", "(LPraisedFields$Land;)I"⟩
abbrev cX5_refuse : ByteArray := prog_7_method_4_code
def yX5_refuse : MethodName := ⟨RX5, "refuse", "(II)Z"⟩
abbrev cX5_takeLine : ByteArray := prog_7_method_5_code
def yX5_takeLine : MethodName := ⟨RX5, "takeLine", "(LPraisedFields$Land;)Z"⟩
abbrev cX5_takeField : ByteArray := prog_7_method_6_code
def yX5_takeField : MethodName := ⟨RX5, "takeField", "(LPraisedFields$Land;I)Z"⟩
abbrev cX5_takeBand : ByteArray := prog_7_method_7_code
def yX5_takeBand : MethodName := ⟨RX5, "takeBand", "(LPraisedFields$Land;)Z"⟩
abbrev cX5_takeGlut : ByteArray := prog_7_method_8_code
def yX5_takeGlut : MethodName := ⟨RX5, "takeGlut", "(LPraisedFields$Land;)Z"⟩
abbrev cX5_takeNumber : ByteArray := prog_7_method_9_code
def yX5_takeNumber : MethodName := ⟨RX5, "takeNumber", "(II)Z"⟩
abbrev cX5_takeSemicolon : ByteArray := prog_7_method_10_code
def yX5_takeSemicolon : MethodName := ⟨RX5, "takeSemicolon", "()Z"⟩
abbrev cX5_isToken : ByteArray := prog_7_method_11_code
def yX5_isToken : MethodName := ⟨RX5, "isToken", "(I)Z"⟩
abbrev cX5_nextToken : ByteArray := prog_7_method_12_code
def yX5_nextToken : MethodName := ⟨RX5, "nextToken", "()V"⟩
abbrev cX5_stretch : ByteArray := prog_7_method_13_code
def yX5_stretch : MethodName := ⟨RX5, "stretch", "(II)I"⟩
abbrev cX5_readNumber : ByteArray := prog_7_method_14_code
def yX5_readNumber : MethodName := ⟨RX5, "readNumber", "(I)V"⟩
abbrev cX5_lineBegun : ByteArray := prog_7_method_15_code
def yX5_lineBegun : MethodName := ⟨RX5, "lineBegun", "()I"⟩
abbrev cX5_isNamed : ByteArray := prog_7_method_16_code
def yX5_isNamed : MethodName := ⟨RX5, "isNamed", "(Ljava/lang/String;)Z"⟩
def RX6 : String := "PraisedFields"
def TX6 : u_T := fun k => match k with
  | 0 => ("PraisedFields", "land", "LPraisedFields$Land;", true)
  | 1 => ("PraisedFields", "trial", "LPraisedFields$Land;", true)
  | 2 => ("PraisedFields", "images", "[LPraisedFields$Land;", true)
  | 3 => ("PraisedFields", "kept", "[Z", true)
  | 4 => ("PraisedFields", "tape", "LPraisedFields$Tape;", true)
  | 5 => ("PraisedFields", "orders", "LPraisedFields$Orders;", true)
  | 6 => ("PraisedFields", "hail", "LPraisedFields$Hail;", true)
  | 7 => ("PraisedFields", "guesses", "LPraisedFields$Guesses;", true)
  | 8 => ("PraisedFields", "sheets", "LPraisedFields$Sheets;", true)
  | _ => ("PraisedFields", "tornFault", "I", false)
def tyX6 : Nat → FieldType := fun k => match k with
  | 0 => .object "PraisedFields$Land"
  | 1 => .object "PraisedFields$Land"
  | 2 => .array (.object "PraisedFields$Land")
  | 3 => .array .boolean
  | 4 => .object "PraisedFields$Tape"
  | 5 => .object "PraisedFields$Orders"
  | 6 => .object "PraisedFields$Hail"
  | 7 => .object "PraisedFields$Guesses"
  | 8 => .object "PraisedFields$Sheets"
  | _ => .int
theorem nmX6 : ∀ a, a < 10 → ∀ b, b < 10 → a ≠ b → (TX6 a).2.1 ≠ (TX6 b).2.1 := by decide +kernel
theorem tyX6_ok : ∀ k, k < 10 → parseFieldDescriptor (TX6 k).2.2.1 = some (tyX6 k) := by decide +kernel
abbrev cX6_init : ByteArray := prog_1_method_1_code
def yX6_init : MethodName := ⟨RX6, "<init>", "()V"⟩
abbrev cX6_feed : ByteArray := prog_1_method_2_code
def yX6_feed : MethodName := ⟨RX6, "feed", "(I)I"⟩
abbrev cX6_end : ByteArray := prog_1_method_3_code
def yX6_end : MethodName := ⟨RX6, "end", "(I)I"⟩
abbrev cX6_text : ByteArray := prog_1_method_4_code
def yX6_text : MethodName := ⟨RX6, "text", "()I"⟩
abbrev cX6_fault : ByteArray := prog_1_method_5_code
def yX6_fault : MethodName := ⟨RX6, "fault", "()I"⟩
abbrev cX6_rule : ByteArray := prog_1_method_6_code
def yX6_rule : MethodName := ⟨RX6, "rule", "(I)I"⟩
abbrev cX6_field : ByteArray := prog_1_method_7_code
def yX6_field : MethodName := ⟨RX6, "field", "(II)I"⟩
abbrev cX6_band : ByteArray := prog_1_method_8_code
def yX6_band : MethodName := ⟨RX6, "band", "(II)I"⟩
abbrev cX6_alter : ByteArray := prog_1_method_9_code
def yX6_alter : MethodName := ⟨RX6, "alter", "(III)I"⟩
abbrev cX6_replace : ByteArray := prog_1_method_10_code
def yX6_replace : MethodName := ⟨RX6, "replace", "([IIII)I"⟩
abbrev cX6_march : ByteArray := prog_1_method_11_code
def yX6_march : MethodName := ⟨RX6, "march", "(II)I"⟩
abbrev cX6_play : ByteArray := prog_1_method_12_code
def yX6_play : MethodName := ⟨RX6, "play", "(II)I"⟩
abbrev cX6_glut : ByteArray := prog_1_method_13_code
def yX6_glut : MethodName := ⟨RX6, "glut", "(I)I"⟩
abbrev cX6_hire : ByteArray := prog_1_method_14_code
def yX6_hire : MethodName := ⟨RX6, "hire", "(II)I"⟩
abbrev cX6_leave : ByteArray := prog_1_method_15_code
def yX6_leave : MethodName := ⟨RX6, "leave", "(I)I"⟩
abbrev cX6_weeks : ByteArray := prog_1_method_16_code
def yX6_weeks : MethodName := ⟨RX6, "weeks", "(I)I"⟩
abbrev cX6_runs : ByteArray := prog_1_method_17_code
def yX6_runs : MethodName := ⟨RX6, "runs", "(II)I"⟩
abbrev cX6_ahead : ByteArray := prog_1_method_18_code
def yX6_ahead : MethodName := ⟨RX6, "ahead", "(III)I"⟩
abbrev cX6_late : ByteArray := prog_1_method_19_code
def yX6_late : MethodName := ⟨RX6, "late", "(II)I"⟩
abbrev cX6_order : ByteArray := prog_1_method_20_code
def yX6_order : MethodName := ⟨RX6, "order", "(I)I"⟩
abbrev cX6_move : ByteArray := prog_1_method_21_code
def yX6_move : MethodName := ⟨RX6, "move", "(II)I"⟩
abbrev cX6_still : ByteArray := prog_1_method_22_code
def yX6_still : MethodName := ⟨RX6, "still", "(II)I"⟩
abbrev cX6_sheavesWithout : ByteArray := prog_1_method_23_code
def yX6_sheavesWithout : MethodName := ⟨RX6, "sheavesWithout", "(II)I"⟩
abbrev cX6_need : ByteArray := prog_1_method_24_code
def yX6_need : MethodName := ⟨RX6, "need", "(III)I"⟩
abbrev cX6_swap : ByteArray := prog_1_method_25_code
def yX6_swap : MethodName := ⟨RX6, "swap", "(II)I"⟩
abbrev cX6_bear : ByteArray := prog_1_method_26_code
def yX6_bear : MethodName := ⟨RX6, "bear", "(III)I"⟩
abbrev cX6_kind : ByteArray := prog_1_method_27_code
def yX6_kind : MethodName := ⟨RX6, "kind", "(III)I"⟩
abbrev cX6_luck : ByteArray := prog_1_method_28_code
def yX6_luck : MethodName := ⟨RX6, "luck", "(IIIII)J"⟩
abbrev cX6_mean : ByteArray := prog_1_method_29_code
def yX6_mean : MethodName := ⟨RX6, "mean", "(III)J"⟩
abbrev cX6_tenToThe : ByteArray := prog_1_method_30_code
def yX6_tenToThe : MethodName := ⟨RX6, "tenToThe", "(I)J"⟩
abbrev cX6_lowestTerms : ByteArray := prog_1_method_31_code
def yX6_lowestTerms : MethodName := ⟨RX6, "lowestTerms", "(JJI)J"⟩
abbrev cX6_see : ByteArray := prog_1_method_32_code
def yX6_see : MethodName := ⟨RX6, "see", "(III)I"⟩
abbrev cX6_forget : ByteArray := prog_1_method_33_code
def yX6_forget : MethodName := ⟨RX6, "forget", "(I)I"⟩
abbrev cX6_kinds : ByteArray := prog_1_method_34_code
def yX6_kinds : MethodName := ⟨RX6, "kinds", "(I)I"⟩
abbrev cX6_blights : ByteArray := prog_1_method_35_code
def yX6_blights : MethodName := ⟨RX6, "blights", "(I)I"⟩
abbrev cX6_blightsAsSeen : ByteArray := prog_1_method_36_code
def yX6_blightsAsSeen : MethodName := ⟨RX6, "blightsAsSeen", "(I)I"⟩
abbrev cX6_ask : ByteArray := prog_1_method_37_code
def yX6_ask : MethodName := ⟨RX6, "ask", "(II)I"⟩
abbrev cX6_drift : ByteArray := prog_1_method_38_code
def yX6_drift : MethodName := ⟨RX6, "drift", "(III)I"⟩
abbrev cX6_keep : ByteArray := prog_1_method_39_code
def yX6_keep : MethodName := ⟨RX6, "keep", "(I)I"⟩
abbrev cX6_back : ByteArray := prog_1_method_40_code
def yX6_back : MethodName := ⟨RX6, "back", "(I)I"⟩
abbrev cX6_sheet : ByteArray := prog_1_method_41_code
def yX6_sheet : MethodName := ⟨RX6, "sheet", "(III)I"⟩
abbrev cX6_lay : ByteArray := prog_1_method_42_code
def yX6_lay : MethodName := ⟨RX6, "lay", "(III)I"⟩
abbrev cX6_read : ByteArray := prog_1_method_43_code
def yX6_read : MethodName := ⟨RX6, "read", "(IIII)I"⟩
abbrev cX6_torn : ByteArray := prog_1_method_44_code
def yX6_torn : MethodName := ⟨RX6, "torn", "()I"⟩
abbrev cX6_count : ByteArray := prog_1_method_45_code
def yX6_count : MethodName := ⟨RX6, "count", "(I)I"⟩
abbrev cX6_within : ByteArray := prog_1_method_46_code
def yX6_within : MethodName := ⟨RX6, "within", "(III)Z"⟩
abbrev cX6_isField : ByteArray := prog_1_method_47_code
def yX6_isField : MethodName := ⟨RX6, "isField", "(I)Z"⟩
abbrev cX6_isBand : ByteArray := prog_1_method_48_code
def yX6_isBand : MethodName := ⟨RX6, "isBand", "(I)Z"⟩
abbrev cX6_growth : ByteArray := prog_1_method_49_code
def yX6_growth : MethodName := ⟨RX6, "growth", "(II)I"⟩
abbrev cX6_heed : ByteArray := prog_1_method_50_code
def yX6_heed : MethodName := ⟨RX6, "heed", "(I)I"⟩
abbrev cX6_earsNext : ByteArray := prog_1_method_51_code
def yX6_earsNext : MethodName := ⟨RX6, "earsNext", "(IIII)I"⟩
abbrev cX6_blightNext : ByteArray := prog_1_method_52_code
def yX6_blightNext : MethodName := ⟨RX6, "blightNext", "(III)I"⟩
abbrev cX6_earsBehind : ByteArray := prog_1_method_53_code
def yX6_earsBehind : MethodName := ⟨RX6, "earsBehind", "(IIIII)I"⟩
abbrev cX6_blightBehind : ByteArray := prog_1_method_54_code
def yX6_blightBehind : MethodName := ⟨RX6, "blightBehind", "(IIII)I"⟩
def RX7 : String := "PraisedFieldsModel"
def TX7 : u_T := fun k => match k with
  | 0 => ("PraisedFieldsModel", "st", "[I", true)
  | 1 => ("PraisedFieldsModel", "now", "[I", true)
  | 2 => ("PraisedFieldsModel", "isKept", "[Z", true)
  | 3 => ("PraisedFieldsModel", "draft", "[I", true)
  | 4 => ("PraisedFieldsModel", "hasGlut", "Z", false)
  | 5 => ("PraisedFieldsModel", "highest", "I", false)
  | 6 => ("PraisedFieldsModel", "tape", "[I", true)
  | 7 => ("PraisedFieldsModel", "taped", "I", false)
  | 8 => ("PraisedFieldsModel", "pos", "I", false)
  | 9 => ("PraisedFieldsModel", "begun", "I", false)
  | 10 => ("PraisedFieldsModel", "sort", "I", false)
  | 11 => ("PraisedFieldsModel", "value", "I", false)
  | 12 => ("PraisedFieldsModel", "fault", "I", false)
  | 13 => ("PraisedFieldsModel", "wrongAt", "I", false)
  | 14 => ("PraisedFieldsModel", "quiet", "I", false)
  | 15 => ("PraisedFieldsModel", "fines", "I", false)
  | 16 => ("PraisedFieldsModel", "bestCode", "I", false)
  | 17 => ("PraisedFieldsModel", "bestMuch", "I", false)
  | 18 => ("PraisedFieldsModel", "bestRow", "[I", true)
  | 19 => ("PraisedFieldsModel", "fullSum", "J", false)
  | 20 => ("PraisedFieldsModel", "earSum", "J", false)
  | 21 => ("PraisedFieldsModel", "allWays", "J", false)
  | 22 => ("PraisedFieldsModel", "had", "[I", true)
  | 23 => ("PraisedFieldsModel", "byBlight", "[I", true)
  | 24 => ("PraisedFieldsModel", "lanes", "[I", true)
  | 25 => ("PraisedFieldsModel", "sizes", "[I", true)
  | 26 => ("PraisedFieldsModel", "cells", "[I", true)
  | 27 => ("PraisedFieldsModel", "torn", "I", false)
  | _ => ("PraisedFieldsModel", "before", "[I", true)
def tyX7 : Nat → FieldType := fun k => match k with
  | 0 => .array .int
  | 1 => .array .int
  | 2 => .array .boolean
  | 3 => .array .int
  | 4 => .boolean
  | 5 => .int
  | 6 => .array .int
  | 7 => .int
  | 8 => .int
  | 9 => .int
  | 10 => .int
  | 11 => .int
  | 12 => .int
  | 13 => .int
  | 14 => .int
  | 15 => .int
  | 16 => .int
  | 17 => .int
  | 18 => .array .int
  | 19 => .long
  | 20 => .long
  | 21 => .long
  | 22 => .array .int
  | 23 => .array .int
  | 24 => .array .int
  | 25 => .array .int
  | 26 => .array .int
  | 27 => .int
  | _ => .array .int
theorem nmX7 : ∀ a, a < 29 → ∀ b, b < 29 → a ≠ b → (TX7 a).2.1 ≠ (TX7 b).2.1 := by decide +kernel
theorem tyX7_ok : ∀ k, k < 29 → parseFieldDescriptor (TX7 k).2.2.1 = some (tyX7 k) := by decide +kernel
abbrev cX7_init : ByteArray := prog_9_method_1_code
def yX7_init : MethodName := ⟨RX7, "<init>", "()V"⟩
abbrev cX7_in : ByteArray := prog_9_method_3_code
def yX7_in : MethodName := ⟨RX7, "in", "(JJJ)Z"⟩
abbrev cX7_flag : ByteArray := prog_9_method_4_code
def yX7_flag : MethodName := ⟨RX7, "flag", "(Z)I"⟩
abbrev cX7_within : ByteArray := prog_9_method_5_code
def yX7_within : MethodName := ⟨RX7, "within", "(II)I"⟩
abbrev cX7_firstDraft : ByteArray := prog_9_method_6_code
def yX7_firstDraft : MethodName := ⟨RX7, "firstDraft", "()V"⟩
abbrev cX7_keepDraft : ByteArray := prog_9_method_7_code
def yX7_keepDraft : MethodName := ⟨RX7, "keepDraft", "()V"⟩
abbrev cX7_feed : ByteArray := prog_9_method_8_code
def yX7_feed : MethodName := ⟨RX7, "feed", "(I)I"⟩
abbrev cX7_end : ByteArray := prog_9_method_9_code
def yX7_end : MethodName := ⟨RX7, "end", "(I)I"⟩
abbrev cX7_requires : ByteArray := prog_9_method_10_code
def yX7_requires : MethodName := ⟨RX7, "requires", "(ZI)V"⟩
abbrev cX7_byteAt : ByteArray := prog_9_method_11_code
def yX7_byteAt : MethodName := ⟨RX7, "byteAt", "(I)I"⟩
abbrev cX7_is : ByteArray := prog_9_method_12_code
def yX7_is : MethodName := ⟨RX7, "is", "(IIII)Z"⟩
abbrev cX7_endsIn : ByteArray := prog_9_method_13_code
def yX7_endsIn : MethodName := ⟨RX7, "endsIn", "(II)Z"⟩
abbrev cX7_lineNow : ByteArray := prog_9_method_14_code
def yX7_lineNow : MethodName := ⟨RX7, "lineNow", "()I"⟩
abbrev cX7_reads : ByteArray := prog_9_method_15_code
def yX7_reads : MethodName := ⟨RX7, "reads", "()V"⟩
abbrev cX7_readNumber : ByteArray := prog_9_method_16_code
def yX7_readNumber : MethodName := ⟨RX7, "readNumber", "(II)I"⟩
abbrev cX7_readBand : ByteArray := prog_9_method_17_code
def yX7_readBand : MethodName := ⟨RX7, "readBand", "()V"⟩
abbrev cX7_readLineOf : ByteArray := prog_9_method_18_code
def yX7_readLineOf : MethodName := ⟨RX7, "readLineOf", "(I)V"⟩
abbrev cX7_readLine : ByteArray := prog_9_method_19_code
def yX7_readLine : MethodName := ⟨RX7, "readLine", "()V"⟩
abbrev cX7_text : ByteArray := prog_9_method_20_code
def yX7_text : MethodName := ⟨RX7, "text", "()I"⟩
abbrev cX7_fault : ByteArray := prog_9_method_21_code
def yX7_fault : MethodName := ⟨RX7, "fault", "()I"⟩
abbrev cX7_isField : ByteArray := prog_9_method_22_code
def yX7_isField : MethodName := ⟨RX7, "isField", "(I)Z"⟩
abbrev cX7_isBand : ByteArray := prog_9_method_23_code
def yX7_isBand : MethodName := ⟨RX7, "isBand", "(I)Z"⟩
abbrev cX7_isPart : ByteArray := prog_9_method_24_code
def yX7_isPart : MethodName := ⟨RX7, "isPart", "(I)Z"⟩
abbrev cX7_areEars : ByteArray := prog_9_method_25_code
def yX7_areEars : MethodName := ⟨RX7, "areEars", "(I)Z"⟩
abbrev cX7_starts : ByteArray := prog_9_method_26_code
def yX7_starts : MethodName := ⟨RX7, "starts", "()V"⟩
abbrev cX7_settles : ByteArray := prog_9_method_27_code
def yX7_settles : MethodName := ⟨RX7, "settles", "()V"⟩
abbrev cX7_of : ByteArray := prog_9_method_28_code
def yX7_of : MethodName := ⟨RX7, "of", "(II)I"⟩
abbrev cX7_becomesOf : ByteArray := prog_9_method_29_code
def yX7_becomesOf : MethodName := ⟨RX7, "becomesOf", "(III)V"⟩
abbrev cX7_ofBand : ByteArray := prog_9_method_30_code
def yX7_ofBand : MethodName := ⟨RX7, "ofBand", "(II)I"⟩
abbrev cX7_bandBecomes : ByteArray := prog_9_method_31_code
def yX7_bandBecomes : MethodName := ⟨RX7, "bandBecomes", "(III)V"⟩
abbrev cX7_heardAt : ByteArray := prog_9_method_32_code
def yX7_heardAt : MethodName := ⟨RX7, "heardAt", "(I)I"⟩
abbrev cX7_growsBy : ByteArray := prog_9_method_33_code
def yX7_growsBy : MethodName := ⟨RX7, "growsBy", "(I)I"⟩
abbrev cX7_heeds : ByteArray := prog_9_method_34_code
def yX7_heeds : MethodName := ⟨RX7, "heeds", "(I)I"⟩
abbrev cX7_fieldGoes : ByteArray := prog_9_method_35_code
def yX7_fieldGoes : MethodName := ⟨RX7, "fieldGoes", "(I)V"⟩
abbrev cX7_weekGoes : ByteArray := prog_9_method_36_code
def yX7_weekGoes : MethodName := ⟨RX7, "weekGoes", "(Z)V"⟩
abbrev cX7_weeksGo : ByteArray := prog_9_method_37_code
def yX7_weeksGo : MethodName := ⟨RX7, "weeksGo", "(I)V"⟩
abbrev cX7_sumOf : ByteArray := prog_9_method_38_code
def yX7_sumOf : MethodName := ⟨RX7, "sumOf", "(I)I"⟩
abbrev cX7_earsBehind : ByteArray := prog_9_method_39_code
def yX7_earsBehind : MethodName := ⟨RX7, "earsBehind", "(I)I"⟩
abbrev cX7_emptyNow : ByteArray := prog_9_method_40_code
def yX7_emptyNow : MethodName := ⟨RX7, "emptyNow", "()I"⟩
abbrev cX7_rule : ByteArray := prog_9_method_41_code
def yX7_rule : MethodName := ⟨RX7, "rule", "(I)I"⟩
abbrev cX7_field : ByteArray := prog_9_method_42_code
def yX7_field : MethodName := ⟨RX7, "field", "(II)I"⟩
abbrev cX7_band : ByteArray := prog_9_method_43_code
def yX7_band : MethodName := ⟨RX7, "band", "(II)I"⟩
abbrev cX7_becomes : ByteArray := prog_9_method_44_code
def yX7_becomes : MethodName := ⟨RX7, "becomes", "(II)I"⟩
abbrev cX7_alter : ByteArray := prog_9_method_45_code
def yX7_alter : MethodName := ⟨RX7, "alter", "(III)I"⟩
abbrev cX7_march : ByteArray := prog_9_method_46_code
def yX7_march : MethodName := ⟨RX7, "march", "(II)I"⟩
abbrev cX7_play : ByteArray := prog_9_method_47_code
def yX7_play : MethodName := ⟨RX7, "play", "(II)I"⟩
abbrev cX7_glut : ByteArray := prog_9_method_48_code
def yX7_glut : MethodName := ⟨RX7, "glut", "(I)I"⟩
abbrev cX7_hire : ByteArray := prog_9_method_49_code
def yX7_hire : MethodName := ⟨RX7, "hire", "(II)I"⟩
abbrev cX7_leave : ByteArray := prog_9_method_50_code
def yX7_leave : MethodName := ⟨RX7, "leave", "(I)I"⟩
abbrev cX7_weeks : ByteArray := prog_9_method_51_code
def yX7_weeks : MethodName := ⟨RX7, "weeks", "(I)I"⟩
abbrev cX7_isFar : ByteArray := prog_9_method_52_code
def yX7_isFar : MethodName := ⟨RX7, "isFar", "(I)Z"⟩
abbrev cX7_runs : ByteArray := prog_9_method_53_code
def yX7_runs : MethodName := ⟨RX7, "runs", "(II)I"⟩
abbrev cX7_ahead : ByteArray := prog_9_method_54_code
def yX7_ahead : MethodName := ⟨RX7, "ahead", "(III)I"⟩
abbrev cX7_late : ByteArray := prog_9_method_55_code
def yX7_late : MethodName := ⟨RX7, "late", "(II)I"⟩
abbrev cX7_startsJudging : ByteArray := prog_9_method_56_code
def yX7_startsJudging : MethodName := ⟨RX7, "startsJudging", "(I)V"⟩
abbrev cX7_judges : ByteArray := prog_9_method_57_code
def yX7_judges : MethodName := ⟨RX7, "judges", "(II)V"⟩
abbrev cX7_judged : ByteArray := prog_9_method_58_code
def yX7_judged : MethodName := ⟨RX7, "judged", "(I)I"⟩
abbrev cX7_findOrder : ByteArray := prog_9_method_59_code
def yX7_findOrder : MethodName := ⟨RX7, "findOrder", "()V"⟩
abbrev cX7_order : ByteArray := prog_9_method_60_code
def yX7_order : MethodName := ⟨RX7, "order", "(I)I"⟩
abbrev cX7_move : ByteArray := prog_9_method_61_code
def yX7_move : MethodName := ⟨RX7, "move", "(II)I"⟩
abbrev cX7_still : ByteArray := prog_9_method_62_code
def yX7_still : MethodName := ⟨RX7, "still", "(II)I"⟩
abbrev cX7_need : ByteArray := prog_9_method_63_code
def yX7_need : MethodName := ⟨RX7, "need", "(III)I"⟩
abbrev cX7_swap : ByteArray := prog_9_method_64_code
def yX7_swap : MethodName := ⟨RX7, "swap", "(II)I"⟩
abbrev cX7_bear : ByteArray := prog_9_method_65_code
def yX7_bear : MethodName := ⟨RX7, "bear", "(III)I"⟩
abbrev cX7_kind : ByteArray := prog_9_method_66_code
def yX7_kind : MethodName := ⟨RX7, "kind", "(III)I"⟩
abbrev cX7_common : ByteArray := prog_9_method_67_code
def yX7_common : MethodName := ⟨RX7, "common", "(JJ)J"⟩
abbrev cX7_lowest : ByteArray := prog_9_method_68_code
def yX7_lowest : MethodName := ⟨RX7, "lowest", "(JJI)J"⟩
abbrev cX7_findOdds : ByteArray := prog_9_method_69_code
def yX7_findOdds : MethodName := ⟨RX7, "findOdds", "(IIII)V"⟩
abbrev cX7_luck : ByteArray := prog_9_method_70_code
def yX7_luck : MethodName := ⟨RX7, "luck", "(IIIII)J"⟩
abbrev cX7_mean : ByteArray := prog_9_method_71_code
def yX7_mean : MethodName := ⟨RX7, "mean", "(III)J"⟩
abbrev cX7_see : ByteArray := prog_9_method_72_code
def yX7_see : MethodName := ⟨RX7, "see", "(III)I"⟩
abbrev cX7_forget : ByteArray := prog_9_method_73_code
def yX7_forget : MethodName := ⟨RX7, "forget", "(I)I"⟩
abbrev cX7_isSoWith : ByteArray := prog_9_method_74_code
def yX7_isSoWith : MethodName := ⟨RX7, "isSoWith", "(II)Z"⟩
abbrev cX7_which : ByteArray := prog_9_method_75_code
def yX7_which : MethodName := ⟨RX7, "which", "(II)I"⟩
abbrev cX7_kinds : ByteArray := prog_9_method_76_code
def yX7_kinds : MethodName := ⟨RX7, "kinds", "(I)I"⟩
abbrev cX7_blights : ByteArray := prog_9_method_77_code
def yX7_blights : MethodName := ⟨RX7, "blights", "(I)I"⟩
abbrev cX7_ask : ByteArray := prog_9_method_78_code
def yX7_ask : MethodName := ⟨RX7, "ask", "(II)I"⟩
abbrev cX7_drift : ByteArray := prog_9_method_79_code
def yX7_drift : MethodName := ⟨RX7, "drift", "(III)I"⟩
abbrev cX7_copies : ByteArray := prog_9_method_80_code
def yX7_copies : MethodName := ⟨RX7, "copies", "(II)V"⟩
abbrev cX7_keep : ByteArray := prog_9_method_81_code
def yX7_keep : MethodName := ⟨RX7, "keep", "(I)I"⟩
abbrev cX7_back : ByteArray := prog_9_method_82_code
def yX7_back : MethodName := ⟨RX7, "back", "(I)I"⟩
abbrev cX7_isSheet : ByteArray := prog_9_method_83_code
def yX7_isSheet : MethodName := ⟨RX7, "isSheet", "(II)Z"⟩
abbrev cX7_sheet : ByteArray := prog_9_method_84_code
def yX7_sheet : MethodName := ⟨RX7, "sheet", "(III)I"⟩
abbrev cX7_lay : ByteArray := prog_9_method_85_code
def yX7_lay : MethodName := ⟨RX7, "lay", "(III)I"⟩
abbrev cX7_read : ByteArray := prog_9_method_86_code
def yX7_read : MethodName := ⟨RX7, "read", "(IIII)I"⟩
abbrev cX7_torn : ByteArray := prog_9_method_87_code
def yX7_torn : MethodName := ⟨RX7, "torn", "()I"⟩
abbrev cX7_count : ByteArray := prog_9_method_88_code
def yX7_count : MethodName := ⟨RX7, "count", "(I)I"⟩
def RJ9 : String := "java/lang/Math"
def TJ9 : u_T := fun k => match k with
  | _ => ("", "", "", false)
def tyJ9 : Nat → FieldType := fun k => match k with
  | _ => .int
theorem nmJ9 : ∀ a, a < 0 → ∀ b, b < 0 → a ≠ b → (TJ9 a).2.1 ≠ (TJ9 b).2.1 := by decide +kernel
theorem tyJ9_ok : ∀ k, k < 0 → parseFieldDescriptor (TJ9 k).2.2.1 = some (tyJ9 k) := by decide +kernel
abbrev cJ9_max_7cf53 : ByteArray := prog_10_method_65_code
def yJ9_max_7cf53 : MethodName := ⟨RJ9, "max", "(II)I"⟩
abbrev cJ9_min_7cf53 : ByteArray := prog_10_method_69_code
def yJ9_min_7cf53 : MethodName := ⟨RJ9, "min", "(II)I"⟩
def RJ0 : String := "java/lang/String"
def TJ0 : u_T := fun k => match k with
  | _ => ("", "", "", false)
def tyJ0 : Nat → FieldType := fun k => match k with
  | _ => .int
theorem nmJ0 : ∀ a, a < 0 → ∀ b, b < 0 → a ≠ b → (TJ0 a).2.1 ≠ (TJ0 b).2.1 := by decide +kernel
theorem tyJ0_ok : ∀ k, k < 0 → parseFieldDescriptor (TJ0 k).2.2.1 = some (tyJ0 k) := by decide +kernel
abbrev cJ0_length_8abf5 : ByteArray := prog_11_method_54_code
def yJ0_length_8abf5 : MethodName := ⟨RJ0, "length", "()I"⟩
abbrev cJ0_charAt_5068e : ByteArray := prog_11_method_56_code
def yJ0_charAt_5068e : MethodName := ⟨RJ0, "charAt", "(I)C"⟩
abbrev cJ0_coder_7d493 : ByteArray := prog_11_method_152_code
def yJ0_coder_7d493 : MethodName := ⟨RJ0, "coder", "()B"⟩
abbrev cJ0_isLatin1_aae02 : ByteArray := prog_11_method_154_code
def yJ0_isLatin1_aae02 : MethodName := ⟨RJ0, "isLatin1", "()Z"⟩
abbrev cJ0_checkIndex_df160 : ByteArray := prog_11_method_155_code
def yJ0_checkIndex_df160 : MethodName := ⟨RJ0, "checkIndex", "(II)V"⟩
def RJ1 : String := "java/lang/StringLatin1"
def TJ1 : u_T := fun k => match k with
  | _ => ("", "", "", false)
def tyJ1 : Nat → FieldType := fun k => match k with
  | _ => .int
theorem nmJ1 : ∀ a, a < 0 → ∀ b, b < 0 → a ≠ b → (TJ1 a).2.1 ≠ (TJ1 b).2.1 := by decide +kernel
theorem tyJ1_ok : ∀ k, k < 0 → parseFieldDescriptor (TJ1 k).2.2.1 = some (tyJ1 k) := by decide +kernel
abbrev cJ1_charAt_3b067 : ByteArray := prog_12_method_2_code
def yJ1_charAt_3b067 : MethodName := ⟨RJ1, "charAt", "([BI)C"⟩
def RJ2 : String := "java/lang/StringUTF16"
def TJ2 : u_T := fun k => match k with
  | _ => ("", "", "", false)
def tyJ2 : Nat → FieldType := fun k => match k with
  | _ => .int
theorem nmJ2 : ∀ a, a < 0 → ∀ b, b < 0 → a ≠ b → (TJ2 a).2.1 ≠ (TJ2 b).2.1 := by decide +kernel
theorem tyJ2_ok : ∀ k, k < 0 → parseFieldDescriptor (TJ2 k).2.2.1 = some (tyJ2 k) := by decide +kernel
abbrev cJ2_getChar_3b067 : ByteArray := prog_13_method_5_code
def yJ2_getChar_3b067 : MethodName := ⟨RJ2, "getChar", "([BI)C"⟩
abbrev cJ2_length_9d52b : ByteArray := prog_13_method_6_code
def yJ2_length_9d52b : MethodName := ⟨RJ2, "length", "([B)I"⟩
abbrev cJ2_charAt_3b067 : ByteArray := prog_13_method_83_code
def yJ2_charAt_3b067 : MethodName := ⟨RJ2, "charAt", "([BI)C"⟩
abbrev cJ2_checkIndex_2214a : ByteArray := prog_13_method_91_code
def yJ2_checkIndex_2214a : MethodName := ⟨RJ2, "checkIndex", "(I[B)V"⟩
def RJ10 : String := "java/lang/System"
def TJ10 : u_T := fun k => match k with
  | _ => ("", "", "", false)
def tyJ10 : Nat → FieldType := fun k => match k with
  | _ => .int
theorem nmJ10 : ∀ a, a < 0 → ∀ b, b < 0 → a ≠ b → (TJ10 a).2.1 ≠ (TJ10 b).2.1 := by decide +kernel
theorem tyJ10_ok : ∀ k, k < 0 → parseFieldDescriptor (TJ10 k).2.2.1 = some (tyJ10 k) := by decide +kernel
def RJ3 : String := "jdk/internal/util/Preconditions"
def TJ3 : u_T := fun k => match k with
  | _ => ("", "", "", false)
def tyJ3 : Nat → FieldType := fun k => match k with
  | _ => .int
theorem nmJ3 : ∀ a, a < 0 → ∀ b, b < 0 → a ≠ b → (TJ3 a).2.1 ≠ (TJ3 b).2.1 := by decide +kernel
theorem tyJ3_ok : ∀ k, k < 0 → parseFieldDescriptor (TJ3 k).2.2.1 = some (tyJ3 k) := by decide +kernel
abbrev cJ3_checkIndex_8e157 : ByteArray := prog_15_method_11_code
def yJ3_checkIndex_8e157 : MethodName := ⟨RJ3, "checkIndex", "(IILjava/util/function/BiFunction;)I"⟩
def RL : String := "PraisedFieldsLaw"
abbrev cL_law : ByteArray := code
def yL_law : MethodName := ⟨RL, "law", "([I)Z"⟩
abbrev vwCl : List vw_C := [(RX0, TX0, 3), (RX1, TX1, 4), (RX2, TX2, 14), (RX3, TX3, 6), (RX4, TX4, 3), (RX5, TX5, 9), (RX6, TX6, 10), (RX7, TX7, 29)]
/-- a method: its name, its bytes, its locals, its answer's type -/
abbrev ZM : Type := MethodName × ByteArray × Nat × Option FieldType
def zNest : Cond → Bool
  | .methodLinkNest .. => true
  | _ => false
def zok (w : Cond) : Bool := (w.onTables && w.keeps) || zNest w
def zW : List Cond := lw_tbl.filter zok
theorem zmem {w : Cond} (i : Nat) (h : lw_tbl[i]? = some w) (h2 : zok w = true) : w ∈ zW := List.mem_filter.mpr ⟨List.mem_of_getElem? h, h2⟩

abbrev mX0_init : ZM := (yX0_init, cX0_init, 1, none)
abbrev mX0_begin : ZM := (yX0_begin, cX0_begin, 4, none)
abbrev mX0_passWeek : ZM := (yX0_passWeek, cX0_passWeek, 4, none)
abbrev mX0_largestGroup : ZM := (yX0_largestGroup, cX0_largestGroup, 5, some .int)
abbrev mX1_init : ZM := (yX1_init, cX1_init, 1, none)
abbrev mX1_fallOn : ZM := (yX1_fallOn, cX1_fallOn, 7, none)
abbrev mX1_part : ZM := (yX1_part, cX1_part, 3, none)
abbrev mX1_passWeek : ZM := (yX1_passWeek, cX1_passWeek, 4, none)
abbrev mX1_weightOf : ZM := (yX1_weightOf, cX1_weightOf, 5, some .long)
abbrev mX1_weighedEars : ZM := (yX1_weighedEars, cX1_weighedEars, 4, some .long)
abbrev mX2_init : ZM := (yX2_init, cX2_init, 1, none)
abbrev mX2_clear : ZM := (yX2_clear, cX2_clear, 1, none)
abbrev mX2_copyFrom : ZM := (yX2_copyFrom, cX2_copyFrom, 2, none)
abbrev mX2_addField : ZM := (yX2_addField, cX2_addField, 4, some .boolean)
abbrev mX2_addBand : ZM := (yX2_addBand, cX2_addBand, 3, some .boolean)
abbrev mX2_addSeen : ZM := (yX2_addSeen, cX2_addSeen, 4, some .boolean)
abbrev mX2_heardAt : ZM := (yX2_heardAt, cX2_heardAt, 4, some .int)
abbrev mX2_hearingFields : ZM := (yX2_hearingFields, cX2_hearingFields, 3, some .int)
abbrev mX2_earlessFields : ZM := (yX2_earlessFields, cX2_earlessFields, 3, some .int)
abbrev mX2_allEars : ZM := (yX2_allEars, cX2_allEars, 1, some .int)
abbrev mX2_allBlight : ZM := (yX2_allBlight, cX2_allBlight, 1, some .int)
abbrev mX2_allLoud : ZM := (yX2_allLoud, cX2_allLoud, 1, some .int)
abbrev mX2_sumOf : ZM := (yX2_sumOf, cX2_sumOf, 4, some .int)
abbrev mX2_passWeek : ZM := (yX2_passWeek, cX2_passWeek, 4, some .int)
abbrev mX2_passWeeks : ZM := (yX2_passWeeks, cX2_passWeeks, 4, some .int)
abbrev mX2_earsIf : ZM := (yX2_earsIf, cX2_earsIf, 4, some .int)
abbrev mX2_gainBy : ZM := (yX2_gainBy, cX2_gainBy, 5, some .int)
abbrev mX2_allEarsBehind : ZM := (yX2_allEarsBehind, cX2_allEarsBehind, 4, some .int)
abbrev mX2_isAsSeen : ZM := (yX2_isAsSeen, cX2_isAsSeen, 9, some .boolean)
abbrev mX3_init : ZM := (yX3_init, cX3_init, 1, none)
abbrev mX3_findBest : ZM := (yX3_findBest, cX3_findBest, 4, none)
abbrev mX3_weigh : ZM := (yX3_weigh, cX3_weigh, 5, none)
abbrev mX3_beginRows : ZM := (yX3_beginRows, cX3_beginRows, 3, none)
abbrev mX3_nextRow : ZM := (yX3_nextRow, cX3_nextRow, 3, none)
abbrev mX3_place : ZM := (yX3_place, cX3_place, 3, none)
abbrev mX3_toggle : ZM := (yX3_toggle, cX3_toggle, 3, none)
abbrev mX4_init : ZM := (yX4_init, cX4_init, 1, none)
abbrev mX4_renew : ZM := (yX4_renew, cX4_renew, 5, none)
abbrev mX4_faultAt : ZM := (yX4_faultAt, cX4_faultAt, 4, some .int)
abbrev mX4_pairFault : ZM := (yX4_pairFault, cX4_pairFault, 5, some .int)
abbrev mX4_put : ZM := (yX4_put, cX4_put, 4, none)
abbrev mX4_get : ZM := (yX4_get, cX4_get, 3, some .int)
abbrev mX4_lowestBits : ZM := (yX4_lowestBits, cX4_lowestBits, 2, some .int)
abbrev mX5_init : ZM := (yX5_init, cX5_init, 1, none)
abbrev mX5_append : ZM := (yX5_append, cX5_append, 2, some .boolean)
abbrev mX5_tellAll : ZM := (yX5_tellAll, cX5_tellAll, 4, some .int)
abbrev mX5_refuse : ZM := (yX5_refuse, cX5_refuse, 3, some .boolean)
abbrev mX5_takeLine : ZM := (yX5_takeLine, cX5_takeLine, 3, some .boolean)
abbrev mX5_takeField : ZM := (yX5_takeField, cX5_takeField, 4, some .boolean)
abbrev mX5_takeBand : ZM := (yX5_takeBand, cX5_takeBand, 3, some .boolean)
abbrev mX5_takeGlut : ZM := (yX5_takeGlut, cX5_takeGlut, 2, some .boolean)
abbrev mX5_takeNumber : ZM := (yX5_takeNumber, cX5_takeNumber, 3, some .boolean)
abbrev mX5_takeSemicolon : ZM := (yX5_takeSemicolon, cX5_takeSemicolon, 1, some .boolean)
abbrev mX5_isToken : ZM := (yX5_isToken, cX5_isToken, 2, some .boolean)
abbrev mX5_nextToken : ZM := (yX5_nextToken, cX5_nextToken, 3, none)
abbrev mX5_stretch : ZM := (yX5_stretch, cX5_stretch, 4, some .int)
abbrev mX5_readNumber : ZM := (yX5_readNumber, cX5_readNumber, 3, none)
abbrev mX5_lineBegun : ZM := (yX5_lineBegun, cX5_lineBegun, 1, some .int)
abbrev mX5_isNamed : ZM := (yX5_isNamed, cX5_isNamed, 3, some .boolean)
abbrev mX6_init : ZM := (yX6_init, cX6_init, 1, none)
abbrev mX6_feed : ZM := (yX6_feed, cX6_feed, 2, some .int)
abbrev mX6_end : ZM := (yX6_end, cX6_end, 3, some .int)
abbrev mX6_text : ZM := (yX6_text, cX6_text, 3, some .int)
abbrev mX6_fault : ZM := (yX6_fault, cX6_fault, 1, some .int)
abbrev mX6_rule : ZM := (yX6_rule, cX6_rule, 2, some .int)
abbrev mX6_field : ZM := (yX6_field, cX6_field, 4, some .int)
abbrev mX6_band : ZM := (yX6_band, cX6_band, 3, some .int)
abbrev mX6_alter : ZM := (yX6_alter, cX6_alter, 4, some .int)
abbrev mX6_replace : ZM := (yX6_replace, cX6_replace, 5, some .int)
abbrev mX6_march : ZM := (yX6_march, cX6_march, 4, some .int)
abbrev mX6_play : ZM := (yX6_play, cX6_play, 4, some .int)
abbrev mX6_glut : ZM := (yX6_glut, cX6_glut, 3, some .int)
abbrev mX6_hire : ZM := (yX6_hire, cX6_hire, 3, some .int)
abbrev mX6_leave : ZM := (yX6_leave, cX6_leave, 3, some .int)
abbrev mX6_weeks : ZM := (yX6_weeks, cX6_weeks, 2, some .int)
abbrev mX6_runs : ZM := (yX6_runs, cX6_runs, 4, some .int)
abbrev mX6_ahead : ZM := (yX6_ahead, cX6_ahead, 4, some .int)
abbrev mX6_late : ZM := (yX6_late, cX6_late, 8, some .int)
abbrev mX6_order : ZM := (yX6_order, cX6_order, 3, some .int)
abbrev mX6_move : ZM := (yX6_move, cX6_move, 10, some .int)
abbrev mX6_still : ZM := (yX6_still, cX6_still, 7, some .int)
abbrev mX6_sheavesWithout : ZM := (yX6_sheavesWithout, cX6_sheavesWithout, 3, some .int)
abbrev mX6_need : ZM := (yX6_need, cX6_need, 7, some .int)
abbrev mX6_swap : ZM := (yX6_swap, cX6_swap, 9, some .int)
abbrev mX6_bear : ZM := (yX6_bear, cX6_bear, 6, some .int)
abbrev mX6_kind : ZM := (yX6_kind, cX6_kind, 9, some .int)
abbrev mX6_luck : ZM := (yX6_luck, cX6_luck, 6, some .long)
abbrev mX6_mean : ZM := (yX6_mean, cX6_mean, 7, some .long)
abbrev mX6_tenToThe : ZM := (yX6_tenToThe, cX6_tenToThe, 4, some .long)
abbrev mX6_lowestTerms : ZM := (yX6_lowestTerms, cX6_lowestTerms, 12, some .long)
abbrev mX6_see : ZM := (yX6_see, cX6_see, 4, some .int)
abbrev mX6_forget : ZM := (yX6_forget, cX6_forget, 3, some .int)
abbrev mX6_kinds : ZM := (yX6_kinds, cX6_kinds, 4, some .int)
abbrev mX6_blights : ZM := (yX6_blights, cX6_blights, 2, some .int)
abbrev mX6_blightsAsSeen : ZM := (yX6_blightsAsSeen, cX6_blightsAsSeen, 4, some .int)
abbrev mX6_ask : ZM := (yX6_ask, cX6_ask, 8, some .int)
abbrev mX6_drift : ZM := (yX6_drift, cX6_drift, 7, some .int)
abbrev mX6_keep : ZM := (yX6_keep, cX6_keep, 3, some .int)
abbrev mX6_back : ZM := (yX6_back, cX6_back, 2, some .int)
abbrev mX6_sheet : ZM := (yX6_sheet, cX6_sheet, 4, some .int)
abbrev mX6_lay : ZM := (yX6_lay, cX6_lay, 5, some .int)
abbrev mX6_read : ZM := (yX6_read, cX6_read, 8, some .int)
abbrev mX6_torn : ZM := (yX6_torn, cX6_torn, 1, some .int)
abbrev mX6_count : ZM := (yX6_count, cX6_count, 2, some .int)
abbrev mX6_within : ZM := (yX6_within, cX6_within, 3, some .boolean)
abbrev mX6_isField : ZM := (yX6_isField, cX6_isField, 2, some .boolean)
abbrev mX6_isBand : ZM := (yX6_isBand, cX6_isBand, 2, some .boolean)
abbrev mX6_growth : ZM := (yX6_growth, cX6_growth, 2, some .int)
abbrev mX6_heed : ZM := (yX6_heed, cX6_heed, 1, some .int)
abbrev mX6_earsNext : ZM := (yX6_earsNext, cX6_earsNext, 4, some .int)
abbrev mX6_blightNext : ZM := (yX6_blightNext, cX6_blightNext, 3, some .int)
abbrev mX6_earsBehind : ZM := (yX6_earsBehind, cX6_earsBehind, 8, some .int)
abbrev mX6_blightBehind : ZM := (yX6_blightBehind, cX6_blightBehind, 6, some .int)
abbrev mX7_init : ZM := (yX7_init, cX7_init, 2, none)
abbrev mX7_in : ZM := (yX7_in, cX7_in, 6, some .boolean)
abbrev mX7_flag : ZM := (yX7_flag, cX7_flag, 1, some .int)
abbrev mX7_within : ZM := (yX7_within, cX7_within, 2, some .int)
abbrev mX7_firstDraft : ZM := (yX7_firstDraft, cX7_firstDraft, 2, none)
abbrev mX7_keepDraft : ZM := (yX7_keepDraft, cX7_keepDraft, 2, none)
abbrev mX7_feed : ZM := (yX7_feed, cX7_feed, 2, some .int)
abbrev mX7_end : ZM := (yX7_end, cX7_end, 3, some .int)
abbrev mX7_requires : ZM := (yX7_requires, cX7_requires, 3, none)
abbrev mX7_byteAt : ZM := (yX7_byteAt, cX7_byteAt, 2, some .int)
abbrev mX7_is : ZM := (yX7_is, cX7_is, 5, some .boolean)
abbrev mX7_endsIn : ZM := (yX7_endsIn, cX7_endsIn, 3, some .boolean)
abbrev mX7_lineNow : ZM := (yX7_lineNow, cX7_lineNow, 1, some .int)
abbrev mX7_reads : ZM := (yX7_reads, cX7_reads, 2, none)
abbrev mX7_readNumber : ZM := (yX7_readNumber, cX7_readNumber, 4, some .int)
abbrev mX7_readBand : ZM := (yX7_readBand, cX7_readBand, 2, none)
abbrev mX7_readLineOf : ZM := (yX7_readLineOf, cX7_readLineOf, 2, none)
abbrev mX7_readLine : ZM := (yX7_readLine, cX7_readLine, 2, none)
abbrev mX7_text : ZM := (yX7_text, cX7_text, 2, some .int)
abbrev mX7_fault : ZM := (yX7_fault, cX7_fault, 1, some .int)
abbrev mX7_isField : ZM := (yX7_isField, cX7_isField, 2, some .boolean)
abbrev mX7_isBand : ZM := (yX7_isBand, cX7_isBand, 2, some .boolean)
abbrev mX7_isPart : ZM := (yX7_isPart, cX7_isPart, 1, some .boolean)
abbrev mX7_areEars : ZM := (yX7_areEars, cX7_areEars, 1, some .boolean)
abbrev mX7_starts : ZM := (yX7_starts, cX7_starts, 2, none)
abbrev mX7_settles : ZM := (yX7_settles, cX7_settles, 2, none)
abbrev mX7_of : ZM := (yX7_of, cX7_of, 3, some .int)
abbrev mX7_becomesOf : ZM := (yX7_becomesOf, cX7_becomesOf, 4, none)
abbrev mX7_ofBand : ZM := (yX7_ofBand, cX7_ofBand, 3, some .int)
abbrev mX7_bandBecomes : ZM := (yX7_bandBecomes, cX7_bandBecomes, 4, none)
abbrev mX7_heardAt : ZM := (yX7_heardAt, cX7_heardAt, 4, some .int)
abbrev mX7_growsBy : ZM := (yX7_growsBy, cX7_growsBy, 3, some .int)
abbrev mX7_heeds : ZM := (yX7_heeds, cX7_heeds, 3, some .int)
abbrev mX7_fieldGoes : ZM := (yX7_fieldGoes, cX7_fieldGoes, 3, none)
abbrev mX7_weekGoes : ZM := (yX7_weekGoes, cX7_weekGoes, 3, none)
abbrev mX7_weeksGo : ZM := (yX7_weeksGo, cX7_weeksGo, 3, none)
abbrev mX7_sumOf : ZM := (yX7_sumOf, cX7_sumOf, 4, some .int)
abbrev mX7_earsBehind : ZM := (yX7_earsBehind, cX7_earsBehind, 2, some .int)
abbrev mX7_emptyNow : ZM := (yX7_emptyNow, cX7_emptyNow, 3, some .int)
abbrev mX7_rule : ZM := (yX7_rule, cX7_rule, 4, some .int)
abbrev mX7_field : ZM := (yX7_field, cX7_field, 3, some .int)
abbrev mX7_band : ZM := (yX7_band, cX7_band, 3, some .int)
abbrev mX7_becomes : ZM := (yX7_becomes, cX7_becomes, 4, some .int)
abbrev mX7_alter : ZM := (yX7_alter, cX7_alter, 5, some .int)
abbrev mX7_march : ZM := (yX7_march, cX7_march, 3, some .int)
abbrev mX7_play : ZM := (yX7_play, cX7_play, 3, some .int)
abbrev mX7_glut : ZM := (yX7_glut, cX7_glut, 2, some .int)
abbrev mX7_hire : ZM := (yX7_hire, cX7_hire, 3, some .int)
abbrev mX7_leave : ZM := (yX7_leave, cX7_leave, 2, some .int)
abbrev mX7_weeks : ZM := (yX7_weeks, cX7_weeks, 3, some .int)
abbrev mX7_isFar : ZM := (yX7_isFar, cX7_isFar, 1, some .boolean)
abbrev mX7_runs : ZM := (yX7_runs, cX7_runs, 3, some .int)
abbrev mX7_ahead : ZM := (yX7_ahead, cX7_ahead, 4, some .int)
abbrev mX7_late : ZM := (yX7_late, cX7_late, 4, some .int)
abbrev mX7_startsJudging : ZM := (yX7_startsJudging, cX7_startsJudging, 2, none)
abbrev mX7_judges : ZM := (yX7_judges, cX7_judges, 3, none)
abbrev mX7_judged : ZM := (yX7_judged, cX7_judged, 2, some .int)
abbrev mX7_findOrder : ZM := (yX7_findOrder, cX7_findOrder, 6, none)
abbrev mX7_order : ZM := (yX7_order, cX7_order, 2, some .int)
abbrev mX7_move : ZM := (yX7_move, cX7_move, 5, some .int)
abbrev mX7_still : ZM := (yX7_still, cX7_still, 4, some .int)
abbrev mX7_need : ZM := (yX7_need, cX7_need, 5, some .int)
abbrev mX7_swap : ZM := (yX7_swap, cX7_swap, 7, some .int)
abbrev mX7_bear : ZM := (yX7_bear, cX7_bear, 5, some .int)
abbrev mX7_kind : ZM := (yX7_kind, cX7_kind, 5, some .int)
abbrev mX7_common : ZM := (yX7_common, cX7_common, 10, some .long)
abbrev mX7_lowest : ZM := (yX7_lowest, cX7_lowest, 7, some .long)
abbrev mX7_findOdds : ZM := (yX7_findOdds, cX7_findOdds, 10, none)
abbrev mX7_luck : ZM := (yX7_luck, cX7_luck, 6, some .long)
abbrev mX7_mean : ZM := (yX7_mean, cX7_mean, 4, some .long)
abbrev mX7_see : ZM := (yX7_see, cX7_see, 5, some .int)
abbrev mX7_forget : ZM := (yX7_forget, cX7_forget, 2, some .int)
abbrev mX7_isSoWith : ZM := (yX7_isSoWith, cX7_isSoWith, 6, some .boolean)
abbrev mX7_which : ZM := (yX7_which, cX7_which, 5, some .int)
abbrev mX7_kinds : ZM := (yX7_kinds, cX7_kinds, 2, some .int)
abbrev mX7_blights : ZM := (yX7_blights, cX7_blights, 2, some .int)
abbrev mX7_ask : ZM := (yX7_ask, cX7_ask, 11, some .int)
abbrev mX7_drift : ZM := (yX7_drift, cX7_drift, 7, some .int)
abbrev mX7_copies : ZM := (yX7_copies, cX7_copies, 4, none)
abbrev mX7_keep : ZM := (yX7_keep, cX7_keep, 3, some .int)
abbrev mX7_back : ZM := (yX7_back, cX7_back, 2, some .int)
abbrev mX7_isSheet : ZM := (yX7_isSheet, cX7_isSheet, 2, some .boolean)
abbrev mX7_sheet : ZM := (yX7_sheet, cX7_sheet, 5, some .int)
abbrev mX7_lay : ZM := (yX7_lay, cX7_lay, 4, some .int)
abbrev mX7_read : ZM := (yX7_read, cX7_read, 11, some .int)
abbrev mX7_torn : ZM := (yX7_torn, cX7_torn, 1, some .int)
abbrev mX7_count : ZM := (yX7_count, cX7_count, 4, some .int)
abbrev mJ9_max_7cf53 : ZM := (yJ9_max_7cf53, cJ9_max_7cf53, 2, some .int)
abbrev mJ9_min_7cf53 : ZM := (yJ9_min_7cf53, cJ9_min_7cf53, 2, some .int)
abbrev mJ0_length_8abf5 : ZM := (yJ0_length_8abf5, cJ0_length_8abf5, 1, some .int)
abbrev mJ0_charAt_5068e : ZM := (yJ0_charAt_5068e, cJ0_charAt_5068e, 2, some .char)
abbrev mJ0_coder_7d493 : ZM := (yJ0_coder_7d493, cJ0_coder_7d493, 1, some .byte)
abbrev mJ0_isLatin1_aae02 : ZM := (yJ0_isLatin1_aae02, cJ0_isLatin1_aae02, 1, some .boolean)
abbrev mJ0_checkIndex_df160 : ZM := (yJ0_checkIndex_df160, cJ0_checkIndex_df160, 2, none)
abbrev mJ1_charAt_3b067 : ZM := (yJ1_charAt_3b067, cJ1_charAt_3b067, 2, some .char)
abbrev mJ2_getChar_3b067 : ZM := (yJ2_getChar_3b067, cJ2_getChar_3b067, 2, some .char)
abbrev mJ2_length_9d52b : ZM := (yJ2_length_9d52b, cJ2_length_9d52b, 1, some .int)
abbrev mJ2_charAt_3b067 : ZM := (yJ2_charAt_3b067, cJ2_charAt_3b067, 2, some .char)
abbrev mJ2_checkIndex_2214a : ZM := (yJ2_checkIndex_2214a, cJ2_checkIndex_2214a, 2, none)
abbrev mJ3_checkIndex_8e157 : ZM := (yJ3_checkIndex_8e157, cJ3_checkIndex_8e157, 3, some .int)
theorem zg_s_0 : ∀ w ∈ ([.selects yX5_nextToken.cls yX5_nextToken yX5_nextToken, .selects yX5_stretch.cls yX5_stretch yX5_stretch, .selects yX5_readNumber.cls yX5_readNumber yX5_readNumber, .selects yX5_takeLine.cls yX5_takeLine yX5_takeLine, .selects yX5_isToken.cls yX5_isToken yX5_isToken, .selects yX5_refuse.cls yX5_refuse yX5_refuse, .selects yX5_lineBegun.cls yX5_lineBegun yX5_lineBegun, .selects yX5_isNamed.cls yX5_isNamed yX5_isNamed, .selects yX5_takeGlut.cls yX5_takeGlut yX5_takeGlut, .selects yX5_takeNumber.cls yX5_takeNumber yX5_takeNumber, .selects yX5_takeSemicolon.cls yX5_takeSemicolon yX5_takeSemicolon, .selects yX5_takeBand.cls yX5_takeBand yX5_takeBand, .selects yX5_takeField.cls yX5_takeField yX5_takeField, .selects yX6_isField.cls yX6_isField yX6_isField, .selects yX6_isBand.cls yX6_isBand yX6_isBand, .selects yX3_weigh.cls yX3_weigh yX3_weigh, .selects yX3_beginRows.cls yX3_beginRows yX3_beginRows, .selects yX3_nextRow.cls yX3_nextRow yX3_nextRow, .selects yX3_place.cls yX3_place yX3_place, .selects yX3_toggle.cls yX3_toggle yX3_toggle, .selects yX6_sheavesWithout.cls yX6_sheavesWithout yX6_sheavesWithout, .selects yX1_part.cls yX1_part yX1_part, .selects yX1_passWeek.cls yX1_passWeek yX1_passWeek, .selects yX6_blightsAsSeen.cls yX6_blightsAsSeen yX6_blightsAsSeen, .selects yX7_firstDraft.cls yX7_firstDraft yX7_firstDraft, .selects yX7_keepDraft.cls yX7_keepDraft yX7_keepDraft, .selects yX7_reads.cls yX7_reads yX7_reads, .selects yX7_byteAt.cls yX7_byteAt yX7_byteAt, .selects yX7_requires.cls yX7_requires yX7_requires, .selects yX7_readLine.cls yX7_readLine yX7_readLine, .selects yX7_lineNow.cls yX7_lineNow yX7_lineNow, .selects yX7_is.cls yX7_is yX7_is] : List Cond), zok w = true → w ∈ zW := fun w h h3 => by
  have h1 : ([.selects yX5_nextToken.cls yX5_nextToken yX5_nextToken, .selects yX5_stretch.cls yX5_stretch yX5_stretch, .selects yX5_readNumber.cls yX5_readNumber yX5_readNumber, .selects yX5_takeLine.cls yX5_takeLine yX5_takeLine, .selects yX5_isToken.cls yX5_isToken yX5_isToken, .selects yX5_refuse.cls yX5_refuse yX5_refuse, .selects yX5_lineBegun.cls yX5_lineBegun yX5_lineBegun, .selects yX5_isNamed.cls yX5_isNamed yX5_isNamed, .selects yX5_takeGlut.cls yX5_takeGlut yX5_takeGlut, .selects yX5_takeNumber.cls yX5_takeNumber yX5_takeNumber, .selects yX5_takeSemicolon.cls yX5_takeSemicolon yX5_takeSemicolon, .selects yX5_takeBand.cls yX5_takeBand yX5_takeBand, .selects yX5_takeField.cls yX5_takeField yX5_takeField, .selects yX6_isField.cls yX6_isField yX6_isField, .selects yX6_isBand.cls yX6_isBand yX6_isBand, .selects yX3_weigh.cls yX3_weigh yX3_weigh, .selects yX3_beginRows.cls yX3_beginRows yX3_beginRows, .selects yX3_nextRow.cls yX3_nextRow yX3_nextRow, .selects yX3_place.cls yX3_place yX3_place, .selects yX3_toggle.cls yX3_toggle yX3_toggle, .selects yX6_sheavesWithout.cls yX6_sheavesWithout yX6_sheavesWithout, .selects yX1_part.cls yX1_part yX1_part, .selects yX1_passWeek.cls yX1_passWeek yX1_passWeek, .selects yX6_blightsAsSeen.cls yX6_blightsAsSeen yX6_blightsAsSeen, .selects yX7_firstDraft.cls yX7_firstDraft yX7_firstDraft, .selects yX7_keepDraft.cls yX7_keepDraft yX7_keepDraft, .selects yX7_reads.cls yX7_reads yX7_reads, .selects yX7_byteAt.cls yX7_byteAt yX7_byteAt, .selects yX7_requires.cls yX7_requires yX7_requires, .selects yX7_readLine.cls yX7_readLine yX7_readLine, .selects yX7_lineNow.cls yX7_lineNow yX7_lineNow, .selects yX7_is.cls yX7_is yX7_is] : List Cond) = ((k2_sels lw_privs).drop 0).take 32 := rfl
  rw [h1] at h
  have h4 := List.mem_of_mem_drop (List.mem_of_mem_take h)
  exact List.mem_filter.mpr ⟨List.mem_append_left _ h4, h3⟩
theorem zg_s_1 : ∀ w ∈ ([.selects yX7_endsIn.cls yX7_endsIn yX7_endsIn, .selects yX7_readLineOf.cls yX7_readLineOf yX7_readLineOf, .selects yX7_readBand.cls yX7_readBand yX7_readBand, .selects yX7_readNumber.cls yX7_readNumber yX7_readNumber, .selects yX7_starts.cls yX7_starts yX7_starts, .selects yX7_heardAt.cls yX7_heardAt yX7_heardAt, .selects yX7_ofBand.cls yX7_ofBand yX7_ofBand, .selects yX7_sumOf.cls yX7_sumOf yX7_sumOf, .selects yX7_of.cls yX7_of yX7_of, .selects yX7_isField.cls yX7_isField yX7_isField, .selects yX7_growsBy.cls yX7_growsBy yX7_growsBy, .selects yX7_heeds.cls yX7_heeds yX7_heeds, .selects yX7_isBand.cls yX7_isBand yX7_isBand, .selects yX7_becomes.cls yX7_becomes yX7_becomes, .selects yX7_earsBehind.cls yX7_earsBehind yX7_earsBehind, .selects yX7_weeksGo.cls yX7_weeksGo yX7_weeksGo, .selects yX7_weekGoes.cls yX7_weekGoes yX7_weekGoes, .selects yX7_becomesOf.cls yX7_becomesOf yX7_becomesOf, .selects yX7_fieldGoes.cls yX7_fieldGoes yX7_fieldGoes, .selects yX7_settles.cls yX7_settles yX7_settles, .selects yX7_emptyNow.cls yX7_emptyNow yX7_emptyNow, .selects yX7_findOrder.cls yX7_findOrder yX7_findOrder, .selects yX7_startsJudging.cls yX7_startsJudging yX7_startsJudging, .selects yX7_bandBecomes.cls yX7_bandBecomes yX7_bandBecomes, .selects yX7_judges.cls yX7_judges yX7_judges, .selects yX7_judged.cls yX7_judged yX7_judged, .selects yX7_findOdds.cls yX7_findOdds yX7_findOdds, .selects yX7_which.cls yX7_which yX7_which, .selects yX7_isSoWith.cls yX7_isSoWith yX7_isSoWith, .selects yX7_copies.cls yX7_copies yX7_copies] : List Cond), zok w = true → w ∈ zW := fun w h h3 => by
  have h1 : ([.selects yX7_endsIn.cls yX7_endsIn yX7_endsIn, .selects yX7_readLineOf.cls yX7_readLineOf yX7_readLineOf, .selects yX7_readBand.cls yX7_readBand yX7_readBand, .selects yX7_readNumber.cls yX7_readNumber yX7_readNumber, .selects yX7_starts.cls yX7_starts yX7_starts, .selects yX7_heardAt.cls yX7_heardAt yX7_heardAt, .selects yX7_ofBand.cls yX7_ofBand yX7_ofBand, .selects yX7_sumOf.cls yX7_sumOf yX7_sumOf, .selects yX7_of.cls yX7_of yX7_of, .selects yX7_isField.cls yX7_isField yX7_isField, .selects yX7_growsBy.cls yX7_growsBy yX7_growsBy, .selects yX7_heeds.cls yX7_heeds yX7_heeds, .selects yX7_isBand.cls yX7_isBand yX7_isBand, .selects yX7_becomes.cls yX7_becomes yX7_becomes, .selects yX7_earsBehind.cls yX7_earsBehind yX7_earsBehind, .selects yX7_weeksGo.cls yX7_weeksGo yX7_weeksGo, .selects yX7_weekGoes.cls yX7_weekGoes yX7_weekGoes, .selects yX7_becomesOf.cls yX7_becomesOf yX7_becomesOf, .selects yX7_fieldGoes.cls yX7_fieldGoes yX7_fieldGoes, .selects yX7_settles.cls yX7_settles yX7_settles, .selects yX7_emptyNow.cls yX7_emptyNow yX7_emptyNow, .selects yX7_findOrder.cls yX7_findOrder yX7_findOrder, .selects yX7_startsJudging.cls yX7_startsJudging yX7_startsJudging, .selects yX7_bandBecomes.cls yX7_bandBecomes yX7_bandBecomes, .selects yX7_judges.cls yX7_judges yX7_judges, .selects yX7_judged.cls yX7_judged yX7_judged, .selects yX7_findOdds.cls yX7_findOdds yX7_findOdds, .selects yX7_which.cls yX7_which yX7_which, .selects yX7_isSoWith.cls yX7_isSoWith yX7_isSoWith, .selects yX7_copies.cls yX7_copies yX7_copies] : List Cond) = ((k2_sels lw_privs).drop 32).take 32 := rfl
  rw [h1] at h
  have h4 := List.mem_of_mem_drop (List.mem_of_mem_take h)
  exact List.mem_filter.mpr ⟨List.mem_append_left _ h4, h3⟩
theorem zg_1_0 : ∀ w ∈ ([.initialized "PraisedFieldsLaw", .initialized "PraisedFields", .initialized "PraisedFields$Land", .initialized "PraisedFields$Tape", .initialized "PraisedFields$Orders", .initialized "PraisedFields$Hail", .initialized "PraisedFields$Guesses", .initialized "PraisedFields$Sheets", .initialized "PraisedFieldsModel", .initialized "java/lang/Math", .initialized "java/lang/String", .initialized "java/lang/StringLatin1", .initialized "jdk/internal/util/Preconditions", .initialized "java/lang/StringUTF16", .initialized "java/lang/System", .classLink "PraisedFieldsLaw" 7 "PraisedFields", .instantiable "PraisedFields" 10, .methodLink "PraisedFieldsLaw" 9 yX6_init, .instanceMethod yX6_init, .code yX6_init prog_1_method_1_code 1 none, .methodLink "PraisedFields" 1 ⟨"java/lang/Object", "<init>", "()V"⟩, .instanceMethod ⟨"java/lang/Object", "<init>", "()V"⟩, .code ⟨"java/lang/Object", "<init>", "()V"⟩ object_method_1_code 1 none, .classLink "PraisedFields" 7 "PraisedFields$Land", .instantiable "PraisedFields$Land" 14, .methodLinkNest "PraisedFields" 9 yX2_init "PraisedFields", .instanceMethod yX2_init, .code yX2_init prog_4_method_1_code 1 none, .methodLink "PraisedFields$Land" 3 ⟨"java/lang/Object", "<init>", "()V"⟩, .fieldLink "PraisedFields$Land" 9 "PraisedFields$Land" "kindOf" "[I", .fieldLink "PraisedFields$Hail" 38 "PraisedFields$Land" "kindOf" "[I", .fieldLink "PraisedFields" 120 "PraisedFields$Land" "kindOf" "[I"] : List Cond), zok w = true → w ∈ zW := fun w h h3 => by
  have h1 : ([.initialized "PraisedFieldsLaw", .initialized "PraisedFields", .initialized "PraisedFields$Land", .initialized "PraisedFields$Tape", .initialized "PraisedFields$Orders", .initialized "PraisedFields$Hail", .initialized "PraisedFields$Guesses", .initialized "PraisedFields$Sheets", .initialized "PraisedFieldsModel", .initialized "java/lang/Math", .initialized "java/lang/String", .initialized "java/lang/StringLatin1", .initialized "jdk/internal/util/Preconditions", .initialized "java/lang/StringUTF16", .initialized "java/lang/System", .classLink "PraisedFieldsLaw" 7 "PraisedFields", .instantiable "PraisedFields" 10, .methodLink "PraisedFieldsLaw" 9 yX6_init, .instanceMethod yX6_init, .code yX6_init prog_1_method_1_code 1 none, .methodLink "PraisedFields" 1 ⟨"java/lang/Object", "<init>", "()V"⟩, .instanceMethod ⟨"java/lang/Object", "<init>", "()V"⟩, .code ⟨"java/lang/Object", "<init>", "()V"⟩ object_method_1_code 1 none, .classLink "PraisedFields" 7 "PraisedFields$Land", .instantiable "PraisedFields$Land" 14, .methodLinkNest "PraisedFields" 9 yX2_init "PraisedFields", .instanceMethod yX2_init, .code yX2_init prog_4_method_1_code 1 none, .methodLink "PraisedFields$Land" 3 ⟨"java/lang/Object", "<init>", "()V"⟩, .fieldLink "PraisedFields$Land" 9 "PraisedFields$Land" "kindOf" "[I", .fieldLink "PraisedFields$Hail" 38 "PraisedFields$Land" "kindOf" "[I", .fieldLink "PraisedFields" 120 "PraisedFields$Land" "kindOf" "[I"] : List Cond) = ((tables_1_1).drop 0).take 32 := rfl
  rw [h1] at h
  have h4 := List.mem_of_mem_drop (List.mem_of_mem_take h)
  exact List.mem_filter.mpr ⟨List.mem_append_right _ (List.mem_append_left _ h4), h3⟩
theorem zg_1_1 : ∀ w ∈ ([.fieldLink "PraisedFields$Land" 15 "PraisedFields$Land" "ears" "[I", .fieldLink "PraisedFields$Hail" 32 "PraisedFields$Land" "ears" "[I", .fieldLink "PraisedFields" 124 "PraisedFields$Land" "ears" "[I", .fieldLink "PraisedFields$Land" 18 "PraisedFields$Land" "blight" "[I", .fieldLink "PraisedFields$Hail" 33 "PraisedFields$Land" "blight" "[I", .fieldLink "PraisedFields" 127 "PraisedFields$Land" "blight" "[I", .fieldLink "PraisedFields$Land" 21 "PraisedFields$Land" "at" "[I", .fieldLink "PraisedFields$Tape" 56 "PraisedFields$Land" "at" "[I", .fieldLink "PraisedFields" 140 "PraisedFields$Land" "at" "[I", .fieldLink "PraisedFields$Land" 24 "PraisedFields$Land" "loud" "[I", .fieldLink "PraisedFields$Orders" 55 "PraisedFields$Land" "loud" "[I", .fieldLink "PraisedFields" 143 "PraisedFields$Land" "loud" "[I", .fieldLink "PraisedFields$Land" 27 "PraisedFields$Land" "seenWeeks" "[I", .fieldLink "PraisedFields$Land" 30 "PraisedFields$Land" "seenField" "[I", .fieldLink "PraisedFields$Land" 33 "PraisedFields$Land" "seenEars" "[I", .fieldLink "PraisedFields$Land" 36 "PraisedFields$Land" "fieldCount" "I", .fieldLink "PraisedFields$Orders" 43 "PraisedFields$Land" "fieldCount" "I", .fieldLink "PraisedFields$Tape" 60 "PraisedFields$Land" "fieldCount" "I", .fieldLink "PraisedFields" 91 "PraisedFields$Land" "fieldCount" "I", .fieldLink "PraisedFields$Land" 40 "PraisedFields$Land" "bandCount" "I", .fieldLink "PraisedFields$Orders" 38 "PraisedFields$Land" "bandCount" "I", .fieldLink "PraisedFields$Tape" 53 "PraisedFields$Land" "bandCount" "I", .fieldLink "PraisedFields" 94 "PraisedFields$Land" "bandCount" "I", .fieldLink "PraisedFields$Land" 43 "PraisedFields$Land" "seenCount" "I", .fieldLink "PraisedFields" 225 "PraisedFields$Land" "seenCount" "I", .fieldLink "PraisedFields$Land" 46 "PraisedFields$Land" "glutFrom" "I", .fieldLink "PraisedFields" 107 "PraisedFields$Land" "glutFrom" "I", .fieldLink "PraisedFields$Tape" 99 "PraisedFields$Land" "glutFrom" "I", .fieldLink "PraisedFields$Land" 49 "PraisedFields$Land" "sheaves" "I", .fieldLink "PraisedFields" 100 "PraisedFields$Land" "sheaves" "I", .fieldLink "PraisedFields$Land" 52 "PraisedFields$Land" "week" "I", .fieldLink "PraisedFields" 97 "PraisedFields$Land" "week" "I"] : List Cond), zok w = true → w ∈ zW := fun w h h3 => by
  have h1 : ([.fieldLink "PraisedFields$Land" 15 "PraisedFields$Land" "ears" "[I", .fieldLink "PraisedFields$Hail" 32 "PraisedFields$Land" "ears" "[I", .fieldLink "PraisedFields" 124 "PraisedFields$Land" "ears" "[I", .fieldLink "PraisedFields$Land" 18 "PraisedFields$Land" "blight" "[I", .fieldLink "PraisedFields$Hail" 33 "PraisedFields$Land" "blight" "[I", .fieldLink "PraisedFields" 127 "PraisedFields$Land" "blight" "[I", .fieldLink "PraisedFields$Land" 21 "PraisedFields$Land" "at" "[I", .fieldLink "PraisedFields$Tape" 56 "PraisedFields$Land" "at" "[I", .fieldLink "PraisedFields" 140 "PraisedFields$Land" "at" "[I", .fieldLink "PraisedFields$Land" 24 "PraisedFields$Land" "loud" "[I", .fieldLink "PraisedFields$Orders" 55 "PraisedFields$Land" "loud" "[I", .fieldLink "PraisedFields" 143 "PraisedFields$Land" "loud" "[I", .fieldLink "PraisedFields$Land" 27 "PraisedFields$Land" "seenWeeks" "[I", .fieldLink "PraisedFields$Land" 30 "PraisedFields$Land" "seenField" "[I", .fieldLink "PraisedFields$Land" 33 "PraisedFields$Land" "seenEars" "[I", .fieldLink "PraisedFields$Land" 36 "PraisedFields$Land" "fieldCount" "I", .fieldLink "PraisedFields$Orders" 43 "PraisedFields$Land" "fieldCount" "I", .fieldLink "PraisedFields$Tape" 60 "PraisedFields$Land" "fieldCount" "I", .fieldLink "PraisedFields" 91 "PraisedFields$Land" "fieldCount" "I", .fieldLink "PraisedFields$Land" 40 "PraisedFields$Land" "bandCount" "I", .fieldLink "PraisedFields$Orders" 38 "PraisedFields$Land" "bandCount" "I", .fieldLink "PraisedFields$Tape" 53 "PraisedFields$Land" "bandCount" "I", .fieldLink "PraisedFields" 94 "PraisedFields$Land" "bandCount" "I", .fieldLink "PraisedFields$Land" 43 "PraisedFields$Land" "seenCount" "I", .fieldLink "PraisedFields" 225 "PraisedFields$Land" "seenCount" "I", .fieldLink "PraisedFields$Land" 46 "PraisedFields$Land" "glutFrom" "I", .fieldLink "PraisedFields" 107 "PraisedFields$Land" "glutFrom" "I", .fieldLink "PraisedFields$Tape" 99 "PraisedFields$Land" "glutFrom" "I", .fieldLink "PraisedFields$Land" 49 "PraisedFields$Land" "sheaves" "I", .fieldLink "PraisedFields" 100 "PraisedFields$Land" "sheaves" "I", .fieldLink "PraisedFields$Land" 52 "PraisedFields$Land" "week" "I", .fieldLink "PraisedFields" 97 "PraisedFields$Land" "week" "I"] : List Cond) = ((tables_1_1).drop 32).take 32 := rfl
  rw [h1] at h
  have h4 := List.mem_of_mem_drop (List.mem_of_mem_take h)
  exact List.mem_filter.mpr ⟨List.mem_append_right _ (List.mem_append_left _ h4), h3⟩
theorem zg_1_2 : ∀ w ∈ ([.laysFinal "PraisedFields$Land" "PraisedFields$Land" "kindOf" "[I", .soleField "PraisedFields$Land" "kindOf", .laysFinal "PraisedFields$Land" "PraisedFields$Land" "ears" "[I", .soleField "PraisedFields$Land" "ears", .laysFinal "PraisedFields$Land" "PraisedFields$Land" "blight" "[I", .soleField "PraisedFields$Land" "blight", .laysFinal "PraisedFields$Land" "PraisedFields$Land" "at" "[I", .soleField "PraisedFields$Land" "at", .laysFinal "PraisedFields$Land" "PraisedFields$Land" "loud" "[I", .soleField "PraisedFields$Land" "loud", .laysFinal "PraisedFields$Land" "PraisedFields$Land" "seenWeeks" "[I", .soleField "PraisedFields$Land" "seenWeeks", .laysFinal "PraisedFields$Land" "PraisedFields$Land" "seenField" "[I", .soleField "PraisedFields$Land" "seenField", .laysFinal "PraisedFields$Land" "PraisedFields$Land" "seenEars" "[I", .soleField "PraisedFields$Land" "seenEars", .lays "PraisedFields$Land" "PraisedFields$Land" "fieldCount" "I", .soleField "PraisedFields$Land" "fieldCount", .lays "PraisedFields$Land" "PraisedFields$Land" "bandCount" "I", .soleField "PraisedFields$Land" "bandCount", .lays "PraisedFields$Land" "PraisedFields$Land" "seenCount" "I", .soleField "PraisedFields$Land" "seenCount", .lays "PraisedFields$Land" "PraisedFields$Land" "glutFrom" "I", .soleField "PraisedFields$Land" "glutFrom", .lays "PraisedFields$Land" "PraisedFields$Land" "sheaves" "I", .soleField "PraisedFields$Land" "sheaves", .lays "PraisedFields$Land" "PraisedFields$Land" "week" "I", .soleField "PraisedFields$Land" "week", .superclass "PraisedFields$Land" "java/lang/Object", .arrayClass .int, .arrayOver (.object "PraisedFields$Land"), .classLink "PraisedFields" 27 "PraisedFields$Tape"] : List Cond), zok w = true → w ∈ zW := fun w h h3 => by
  have h1 : ([.laysFinal "PraisedFields$Land" "PraisedFields$Land" "kindOf" "[I", .soleField "PraisedFields$Land" "kindOf", .laysFinal "PraisedFields$Land" "PraisedFields$Land" "ears" "[I", .soleField "PraisedFields$Land" "ears", .laysFinal "PraisedFields$Land" "PraisedFields$Land" "blight" "[I", .soleField "PraisedFields$Land" "blight", .laysFinal "PraisedFields$Land" "PraisedFields$Land" "at" "[I", .soleField "PraisedFields$Land" "at", .laysFinal "PraisedFields$Land" "PraisedFields$Land" "loud" "[I", .soleField "PraisedFields$Land" "loud", .laysFinal "PraisedFields$Land" "PraisedFields$Land" "seenWeeks" "[I", .soleField "PraisedFields$Land" "seenWeeks", .laysFinal "PraisedFields$Land" "PraisedFields$Land" "seenField" "[I", .soleField "PraisedFields$Land" "seenField", .laysFinal "PraisedFields$Land" "PraisedFields$Land" "seenEars" "[I", .soleField "PraisedFields$Land" "seenEars", .lays "PraisedFields$Land" "PraisedFields$Land" "fieldCount" "I", .soleField "PraisedFields$Land" "fieldCount", .lays "PraisedFields$Land" "PraisedFields$Land" "bandCount" "I", .soleField "PraisedFields$Land" "bandCount", .lays "PraisedFields$Land" "PraisedFields$Land" "seenCount" "I", .soleField "PraisedFields$Land" "seenCount", .lays "PraisedFields$Land" "PraisedFields$Land" "glutFrom" "I", .soleField "PraisedFields$Land" "glutFrom", .lays "PraisedFields$Land" "PraisedFields$Land" "sheaves" "I", .soleField "PraisedFields$Land" "sheaves", .lays "PraisedFields$Land" "PraisedFields$Land" "week" "I", .soleField "PraisedFields$Land" "week", .superclass "PraisedFields$Land" "java/lang/Object", .arrayClass .int, .arrayOver (.object "PraisedFields$Land"), .classLink "PraisedFields" 27 "PraisedFields$Tape"] : List Cond) = ((tables_1_1).drop 64).take 32 := rfl
  rw [h1] at h
  have h4 := List.mem_of_mem_drop (List.mem_of_mem_take h)
  exact List.mem_filter.mpr ⟨List.mem_append_right _ (List.mem_append_left _ h4), h3⟩
theorem zg_1_3 : ∀ w ∈ ([.instantiable "PraisedFields$Tape" 9, .methodLinkNest "PraisedFields" 29 yX5_init "PraisedFields", .instanceMethod yX5_init, .code yX5_init prog_7_method_1_code 1 none, .methodLink "PraisedFields$Tape" 3 ⟨"java/lang/Object", "<init>", "()V"⟩, .fieldLink "PraisedFields$Tape" 11 "PraisedFields$Tape" "bytes" "[B", .fieldLink "PraisedFields$Tape" 15 "PraisedFields$Tape" "length" "I", .fieldLink "PraisedFields" 74 "PraisedFields$Tape" "length" "I", .fieldLink "PraisedFields$Tape" 19 "PraisedFields$Tape" "fault" "I", .fieldLink "PraisedFields" 88 "PraisedFields$Tape" "fault" "I", .fieldLink "PraisedFields$Tape" 22 "PraisedFields$Tape" "faultPlace" "I", .fieldLink "PraisedFields" 81 "PraisedFields$Tape" "faultPlace" "I", .fieldLink "PraisedFields$Tape" 25 "PraisedFields$Tape" "place" "I", .fieldLink "PraisedFields$Tape" 28 "PraisedFields$Tape" "token" "I", .fieldLink "PraisedFields$Tape" 31 "PraisedFields$Tape" "start" "I", .fieldLink "PraisedFields$Tape" 34 "PraisedFields$Tape" "value" "I", .fieldLink "PraisedFields$Tape" 37 "PraisedFields$Tape" "glutTold" "Z", .laysFinal "PraisedFields$Tape" "PraisedFields$Tape" "bytes" "[B", .soleField "PraisedFields$Tape" "bytes", .lays "PraisedFields$Tape" "PraisedFields$Tape" "length" "I", .soleField "PraisedFields$Tape" "length", .lays "PraisedFields$Tape" "PraisedFields$Tape" "fault" "I", .soleField "PraisedFields$Tape" "fault", .lays "PraisedFields$Tape" "PraisedFields$Tape" "faultPlace" "I", .soleField "PraisedFields$Tape" "faultPlace", .lays "PraisedFields$Tape" "PraisedFields$Tape" "place" "I", .soleField "PraisedFields$Tape" "place", .lays "PraisedFields$Tape" "PraisedFields$Tape" "token" "I", .soleField "PraisedFields$Tape" "token", .lays "PraisedFields$Tape" "PraisedFields$Tape" "start" "I", .soleField "PraisedFields$Tape" "start", .lays "PraisedFields$Tape" "PraisedFields$Tape" "value" "I"] : List Cond), zok w = true → w ∈ zW := fun w h h3 => by
  have h1 : ([.instantiable "PraisedFields$Tape" 9, .methodLinkNest "PraisedFields" 29 yX5_init "PraisedFields", .instanceMethod yX5_init, .code yX5_init prog_7_method_1_code 1 none, .methodLink "PraisedFields$Tape" 3 ⟨"java/lang/Object", "<init>", "()V"⟩, .fieldLink "PraisedFields$Tape" 11 "PraisedFields$Tape" "bytes" "[B", .fieldLink "PraisedFields$Tape" 15 "PraisedFields$Tape" "length" "I", .fieldLink "PraisedFields" 74 "PraisedFields$Tape" "length" "I", .fieldLink "PraisedFields$Tape" 19 "PraisedFields$Tape" "fault" "I", .fieldLink "PraisedFields" 88 "PraisedFields$Tape" "fault" "I", .fieldLink "PraisedFields$Tape" 22 "PraisedFields$Tape" "faultPlace" "I", .fieldLink "PraisedFields" 81 "PraisedFields$Tape" "faultPlace" "I", .fieldLink "PraisedFields$Tape" 25 "PraisedFields$Tape" "place" "I", .fieldLink "PraisedFields$Tape" 28 "PraisedFields$Tape" "token" "I", .fieldLink "PraisedFields$Tape" 31 "PraisedFields$Tape" "start" "I", .fieldLink "PraisedFields$Tape" 34 "PraisedFields$Tape" "value" "I", .fieldLink "PraisedFields$Tape" 37 "PraisedFields$Tape" "glutTold" "Z", .laysFinal "PraisedFields$Tape" "PraisedFields$Tape" "bytes" "[B", .soleField "PraisedFields$Tape" "bytes", .lays "PraisedFields$Tape" "PraisedFields$Tape" "length" "I", .soleField "PraisedFields$Tape" "length", .lays "PraisedFields$Tape" "PraisedFields$Tape" "fault" "I", .soleField "PraisedFields$Tape" "fault", .lays "PraisedFields$Tape" "PraisedFields$Tape" "faultPlace" "I", .soleField "PraisedFields$Tape" "faultPlace", .lays "PraisedFields$Tape" "PraisedFields$Tape" "place" "I", .soleField "PraisedFields$Tape" "place", .lays "PraisedFields$Tape" "PraisedFields$Tape" "token" "I", .soleField "PraisedFields$Tape" "token", .lays "PraisedFields$Tape" "PraisedFields$Tape" "start" "I", .soleField "PraisedFields$Tape" "start", .lays "PraisedFields$Tape" "PraisedFields$Tape" "value" "I"] : List Cond) = ((tables_1_1).drop 96).take 32 := rfl
  rw [h1] at h
  have h4 := List.mem_of_mem_drop (List.mem_of_mem_take h)
  exact List.mem_filter.mpr ⟨List.mem_append_right _ (List.mem_append_left _ h4), h3⟩
theorem zg_1_4 : ∀ w ∈ ([.soleField "PraisedFields$Tape" "value", .lays "PraisedFields$Tape" "PraisedFields$Tape" "glutTold" "Z", .soleField "PraisedFields$Tape" "glutTold", .superclass "PraisedFields$Tape" "java/lang/Object", .arrayClass .boolean, .arrayClass .byte, .classLink "PraisedFields" 34 "PraisedFields$Orders", .instantiable "PraisedFields$Orders" 6, .methodLinkNest "PraisedFields" 36 yX3_init "PraisedFields", .instanceMethod yX3_init, .code yX3_init prog_5_method_1_code 1 none, .methodLink "PraisedFields$Orders" 3 ⟨"java/lang/Object", "<init>", "()V"⟩, .fieldLink "PraisedFields$Orders" 11 "PraisedFields$Orders" "earsBy" "[I", .fieldLink "PraisedFields$Orders" 15 "PraisedFields$Orders" "setAt" "[I", .fieldLink "PraisedFields$Orders" 18 "PraisedFields$Orders" "row" "[I", .fieldLink "PraisedFields$Orders" 21 "PraisedFields$Orders" "bestRow" "[I", .fieldLink "PraisedFields" 183 "PraisedFields$Orders" "bestRow" "[I", .fieldLink "PraisedFields$Orders" 24 "PraisedFields$Orders" "total" "I", .fieldLink "PraisedFields$Orders" 28 "PraisedFields$Orders" "best" "I", .fieldLink "PraisedFields" 180 "PraisedFields$Orders" "best" "I", .laysFinal "PraisedFields$Orders" "PraisedFields$Orders" "earsBy" "[I", .soleField "PraisedFields$Orders" "earsBy", .laysFinal "PraisedFields$Orders" "PraisedFields$Orders" "setAt" "[I", .soleField "PraisedFields$Orders" "setAt", .laysFinal "PraisedFields$Orders" "PraisedFields$Orders" "row" "[I", .soleField "PraisedFields$Orders" "row", .laysFinal "PraisedFields$Orders" "PraisedFields$Orders" "bestRow" "[I", .soleField "PraisedFields$Orders" "bestRow", .lays "PraisedFields$Orders" "PraisedFields$Orders" "total" "I", .soleField "PraisedFields$Orders" "total", .lays "PraisedFields$Orders" "PraisedFields$Orders" "best" "I", .soleField "PraisedFields$Orders" "best"] : List Cond), zok w = true → w ∈ zW := fun w h h3 => by
  have h1 : ([.soleField "PraisedFields$Tape" "value", .lays "PraisedFields$Tape" "PraisedFields$Tape" "glutTold" "Z", .soleField "PraisedFields$Tape" "glutTold", .superclass "PraisedFields$Tape" "java/lang/Object", .arrayClass .boolean, .arrayClass .byte, .classLink "PraisedFields" 34 "PraisedFields$Orders", .instantiable "PraisedFields$Orders" 6, .methodLinkNest "PraisedFields" 36 yX3_init "PraisedFields", .instanceMethod yX3_init, .code yX3_init prog_5_method_1_code 1 none, .methodLink "PraisedFields$Orders" 3 ⟨"java/lang/Object", "<init>", "()V"⟩, .fieldLink "PraisedFields$Orders" 11 "PraisedFields$Orders" "earsBy" "[I", .fieldLink "PraisedFields$Orders" 15 "PraisedFields$Orders" "setAt" "[I", .fieldLink "PraisedFields$Orders" 18 "PraisedFields$Orders" "row" "[I", .fieldLink "PraisedFields$Orders" 21 "PraisedFields$Orders" "bestRow" "[I", .fieldLink "PraisedFields" 183 "PraisedFields$Orders" "bestRow" "[I", .fieldLink "PraisedFields$Orders" 24 "PraisedFields$Orders" "total" "I", .fieldLink "PraisedFields$Orders" 28 "PraisedFields$Orders" "best" "I", .fieldLink "PraisedFields" 180 "PraisedFields$Orders" "best" "I", .laysFinal "PraisedFields$Orders" "PraisedFields$Orders" "earsBy" "[I", .soleField "PraisedFields$Orders" "earsBy", .laysFinal "PraisedFields$Orders" "PraisedFields$Orders" "setAt" "[I", .soleField "PraisedFields$Orders" "setAt", .laysFinal "PraisedFields$Orders" "PraisedFields$Orders" "row" "[I", .soleField "PraisedFields$Orders" "row", .laysFinal "PraisedFields$Orders" "PraisedFields$Orders" "bestRow" "[I", .soleField "PraisedFields$Orders" "bestRow", .lays "PraisedFields$Orders" "PraisedFields$Orders" "total" "I", .soleField "PraisedFields$Orders" "total", .lays "PraisedFields$Orders" "PraisedFields$Orders" "best" "I", .soleField "PraisedFields$Orders" "best"] : List Cond) = ((tables_1_1).drop 128).take 32 := rfl
  rw [h1] at h
  have h4 := List.mem_of_mem_drop (List.mem_of_mem_take h)
  exact List.mem_filter.mpr ⟨List.mem_append_right _ (List.mem_append_left _ h4), h3⟩
theorem zg_1_5 : ∀ w ∈ ([.superclass "PraisedFields$Orders" "java/lang/Object", .classLink "PraisedFields" 41 "PraisedFields$Hail", .instantiable "PraisedFields$Hail" 4, .methodLinkNest "PraisedFields" 43 yX1_init "PraisedFields", .instanceMethod yX1_init, .code yX1_init prog_3_method_1_code 1 none, .methodLink "PraisedFields$Hail" 3 ⟨"java/lang/Object", "<init>", "()V"⟩, .fieldLink "PraisedFields$Hail" 11 "PraisedFields$Hail" "ears" "[I", .fieldLink "PraisedFields$Hail" 15 "PraisedFields$Hail" "blight" "[I", .fieldLink "PraisedFields$Hail" 18 "PraisedFields$Hail" "weight" "[J", .fieldLink "PraisedFields$Hail" 22 "PraisedFields$Hail" "ways" "I", .laysFinal "PraisedFields$Hail" "PraisedFields$Hail" "ears" "[I", .soleField "PraisedFields$Hail" "ears", .laysFinal "PraisedFields$Hail" "PraisedFields$Hail" "blight" "[I", .soleField "PraisedFields$Hail" "blight", .laysFinal "PraisedFields$Hail" "PraisedFields$Hail" "weight" "[J", .soleField "PraisedFields$Hail" "weight", .lays "PraisedFields$Hail" "PraisedFields$Hail" "ways" "I", .soleField "PraisedFields$Hail" "ways", .superclass "PraisedFields$Hail" "java/lang/Object", .arrayClass .long, .classLink "PraisedFields" 48 "PraisedFields$Guesses", .instantiable "PraisedFields$Guesses" 3, .methodLinkNest "PraisedFields" 50 yX0_init "PraisedFields", .instanceMethod yX0_init, .code yX0_init prog_2_method_1_code 1 none, .methodLink "PraisedFields$Guesses" 3 ⟨"java/lang/Object", "<init>", "()V"⟩, .fieldLink "PraisedFields$Guesses" 9 "PraisedFields$Guesses" "ears" "[I", .fieldLink "PraisedFields$Guesses" 15 "PraisedFields$Guesses" "blight" "[I", .fieldLink "PraisedFields$Guesses" 18 "PraisedFields$Guesses" "size" "I", .fieldLink "PraisedFields" 238 "PraisedFields$Guesses" "size" "I", .laysFinal "PraisedFields$Guesses" "PraisedFields$Guesses" "ears" "[I"] : List Cond), zok w = true → w ∈ zW := fun w h h3 => by
  have h1 : ([.superclass "PraisedFields$Orders" "java/lang/Object", .classLink "PraisedFields" 41 "PraisedFields$Hail", .instantiable "PraisedFields$Hail" 4, .methodLinkNest "PraisedFields" 43 yX1_init "PraisedFields", .instanceMethod yX1_init, .code yX1_init prog_3_method_1_code 1 none, .methodLink "PraisedFields$Hail" 3 ⟨"java/lang/Object", "<init>", "()V"⟩, .fieldLink "PraisedFields$Hail" 11 "PraisedFields$Hail" "ears" "[I", .fieldLink "PraisedFields$Hail" 15 "PraisedFields$Hail" "blight" "[I", .fieldLink "PraisedFields$Hail" 18 "PraisedFields$Hail" "weight" "[J", .fieldLink "PraisedFields$Hail" 22 "PraisedFields$Hail" "ways" "I", .laysFinal "PraisedFields$Hail" "PraisedFields$Hail" "ears" "[I", .soleField "PraisedFields$Hail" "ears", .laysFinal "PraisedFields$Hail" "PraisedFields$Hail" "blight" "[I", .soleField "PraisedFields$Hail" "blight", .laysFinal "PraisedFields$Hail" "PraisedFields$Hail" "weight" "[J", .soleField "PraisedFields$Hail" "weight", .lays "PraisedFields$Hail" "PraisedFields$Hail" "ways" "I", .soleField "PraisedFields$Hail" "ways", .superclass "PraisedFields$Hail" "java/lang/Object", .arrayClass .long, .classLink "PraisedFields" 48 "PraisedFields$Guesses", .instantiable "PraisedFields$Guesses" 3, .methodLinkNest "PraisedFields" 50 yX0_init "PraisedFields", .instanceMethod yX0_init, .code yX0_init prog_2_method_1_code 1 none, .methodLink "PraisedFields$Guesses" 3 ⟨"java/lang/Object", "<init>", "()V"⟩, .fieldLink "PraisedFields$Guesses" 9 "PraisedFields$Guesses" "ears" "[I", .fieldLink "PraisedFields$Guesses" 15 "PraisedFields$Guesses" "blight" "[I", .fieldLink "PraisedFields$Guesses" 18 "PraisedFields$Guesses" "size" "I", .fieldLink "PraisedFields" 238 "PraisedFields$Guesses" "size" "I", .laysFinal "PraisedFields$Guesses" "PraisedFields$Guesses" "ears" "[I"] : List Cond) = ((tables_1_1).drop 160).take 32 := rfl
  rw [h1] at h
  have h4 := List.mem_of_mem_drop (List.mem_of_mem_take h)
  exact List.mem_filter.mpr ⟨List.mem_append_right _ (List.mem_append_left _ h4), h3⟩
theorem zg_1_6 : ∀ w ∈ ([.soleField "PraisedFields$Guesses" "ears", .laysFinal "PraisedFields$Guesses" "PraisedFields$Guesses" "blight" "[I", .soleField "PraisedFields$Guesses" "blight", .lays "PraisedFields$Guesses" "PraisedFields$Guesses" "size" "I", .soleField "PraisedFields$Guesses" "size", .superclass "PraisedFields$Guesses" "java/lang/Object", .classLink "PraisedFields" 55 "PraisedFields$Sheets", .instantiable "PraisedFields$Sheets" 3, .methodLinkNest "PraisedFields" 57 yX4_init "PraisedFields", .instanceMethod yX4_init, .code yX4_init prog_6_method_1_code 1 none, .methodLink "PraisedFields$Sheets" 3 ⟨"java/lang/Object", "<init>", "()V"⟩, .fieldLink "PraisedFields$Sheets" 9 "PraisedFields$Sheets" "cells" "[I", .fieldLink "PraisedFields$Sheets" 15 "PraisedFields$Sheets" "laneOf" "[I", .fieldLink "PraisedFields" 254 "PraisedFields$Sheets" "laneOf" "[I", .fieldLink "PraisedFields$Sheets" 18 "PraisedFields$Sheets" "size" "[I", .fieldLink "PraisedFields" 272 "PraisedFields$Sheets" "size" "[I", .laysFinal "PraisedFields$Sheets" "PraisedFields$Sheets" "cells" "[I", .soleField "PraisedFields$Sheets" "cells", .laysFinal "PraisedFields$Sheets" "PraisedFields$Sheets" "laneOf" "[I", .soleField "PraisedFields$Sheets" "laneOf", .laysFinal "PraisedFields$Sheets" "PraisedFields$Sheets" "size" "[I", .soleField "PraisedFields$Sheets" "size", .superclass "PraisedFields$Sheets" "java/lang/Object", .fieldLink "PraisedFields" 10 "PraisedFields" "land" "LPraisedFields$Land;", .fieldLink "PraisedFields" 16 "PraisedFields" "trial" "LPraisedFields$Land;", .fieldLink "PraisedFields" 19 "PraisedFields" "images" "[LPraisedFields$Land;", .fieldLink "PraisedFields" 23 "PraisedFields" "kept" "[Z", .fieldLink "PraisedFields" 30 "PraisedFields" "tape" "LPraisedFields$Tape;", .fieldLink "PraisedFields" 37 "PraisedFields" "orders" "LPraisedFields$Orders;", .fieldLink "PraisedFields" 44 "PraisedFields" "hail" "LPraisedFields$Hail;", .fieldLink "PraisedFields" 51 "PraisedFields" "guesses" "LPraisedFields$Guesses;"] : List Cond), zok w = true → w ∈ zW := fun w h h3 => by
  have h1 : ([.soleField "PraisedFields$Guesses" "ears", .laysFinal "PraisedFields$Guesses" "PraisedFields$Guesses" "blight" "[I", .soleField "PraisedFields$Guesses" "blight", .lays "PraisedFields$Guesses" "PraisedFields$Guesses" "size" "I", .soleField "PraisedFields$Guesses" "size", .superclass "PraisedFields$Guesses" "java/lang/Object", .classLink "PraisedFields" 55 "PraisedFields$Sheets", .instantiable "PraisedFields$Sheets" 3, .methodLinkNest "PraisedFields" 57 yX4_init "PraisedFields", .instanceMethod yX4_init, .code yX4_init prog_6_method_1_code 1 none, .methodLink "PraisedFields$Sheets" 3 ⟨"java/lang/Object", "<init>", "()V"⟩, .fieldLink "PraisedFields$Sheets" 9 "PraisedFields$Sheets" "cells" "[I", .fieldLink "PraisedFields$Sheets" 15 "PraisedFields$Sheets" "laneOf" "[I", .fieldLink "PraisedFields" 254 "PraisedFields$Sheets" "laneOf" "[I", .fieldLink "PraisedFields$Sheets" 18 "PraisedFields$Sheets" "size" "[I", .fieldLink "PraisedFields" 272 "PraisedFields$Sheets" "size" "[I", .laysFinal "PraisedFields$Sheets" "PraisedFields$Sheets" "cells" "[I", .soleField "PraisedFields$Sheets" "cells", .laysFinal "PraisedFields$Sheets" "PraisedFields$Sheets" "laneOf" "[I", .soleField "PraisedFields$Sheets" "laneOf", .laysFinal "PraisedFields$Sheets" "PraisedFields$Sheets" "size" "[I", .soleField "PraisedFields$Sheets" "size", .superclass "PraisedFields$Sheets" "java/lang/Object", .fieldLink "PraisedFields" 10 "PraisedFields" "land" "LPraisedFields$Land;", .fieldLink "PraisedFields" 16 "PraisedFields" "trial" "LPraisedFields$Land;", .fieldLink "PraisedFields" 19 "PraisedFields" "images" "[LPraisedFields$Land;", .fieldLink "PraisedFields" 23 "PraisedFields" "kept" "[Z", .fieldLink "PraisedFields" 30 "PraisedFields" "tape" "LPraisedFields$Tape;", .fieldLink "PraisedFields" 37 "PraisedFields" "orders" "LPraisedFields$Orders;", .fieldLink "PraisedFields" 44 "PraisedFields" "hail" "LPraisedFields$Hail;", .fieldLink "PraisedFields" 51 "PraisedFields" "guesses" "LPraisedFields$Guesses;"] : List Cond) = ((tables_1_1).drop 192).take 32 := rfl
  rw [h1] at h
  have h4 := List.mem_of_mem_drop (List.mem_of_mem_take h)
  exact List.mem_filter.mpr ⟨List.mem_append_right _ (List.mem_append_left _ h4), h3⟩
theorem zg_1_7 : ∀ w ∈ ([.fieldLink "PraisedFields" 58 "PraisedFields" "sheets" "LPraisedFields$Sheets;", .fieldLink "PraisedFields" 62 "PraisedFields" "tornFault" "I", .laysFinal "PraisedFields" "PraisedFields" "land" "LPraisedFields$Land;", .soleField "PraisedFields" "land", .laysFinal "PraisedFields" "PraisedFields" "trial" "LPraisedFields$Land;", .soleField "PraisedFields" "trial", .laysFinal "PraisedFields" "PraisedFields" "images" "[LPraisedFields$Land;", .soleField "PraisedFields" "images", .laysFinal "PraisedFields" "PraisedFields" "kept" "[Z", .soleField "PraisedFields" "kept", .laysFinal "PraisedFields" "PraisedFields" "tape" "LPraisedFields$Tape;", .soleField "PraisedFields" "tape", .laysFinal "PraisedFields" "PraisedFields" "orders" "LPraisedFields$Orders;", .soleField "PraisedFields" "orders", .laysFinal "PraisedFields" "PraisedFields" "hail" "LPraisedFields$Hail;", .soleField "PraisedFields" "hail"] : List Cond), zok w = true → w ∈ zW := fun w h h3 => by
  have h1 : ([.fieldLink "PraisedFields" 58 "PraisedFields" "sheets" "LPraisedFields$Sheets;", .fieldLink "PraisedFields" 62 "PraisedFields" "tornFault" "I", .laysFinal "PraisedFields" "PraisedFields" "land" "LPraisedFields$Land;", .soleField "PraisedFields" "land", .laysFinal "PraisedFields" "PraisedFields" "trial" "LPraisedFields$Land;", .soleField "PraisedFields" "trial", .laysFinal "PraisedFields" "PraisedFields" "images" "[LPraisedFields$Land;", .soleField "PraisedFields" "images", .laysFinal "PraisedFields" "PraisedFields" "kept" "[Z", .soleField "PraisedFields" "kept", .laysFinal "PraisedFields" "PraisedFields" "tape" "LPraisedFields$Tape;", .soleField "PraisedFields" "tape", .laysFinal "PraisedFields" "PraisedFields" "orders" "LPraisedFields$Orders;", .soleField "PraisedFields" "orders", .laysFinal "PraisedFields" "PraisedFields" "hail" "LPraisedFields$Hail;", .soleField "PraisedFields" "hail"] : List Cond) = ((tables_1_1).drop 224).take 32 := rfl
  rw [h1] at h
  have h4 := List.mem_of_mem_drop (List.mem_of_mem_take h)
  exact List.mem_filter.mpr ⟨List.mem_append_right _ (List.mem_append_left _ h4), h3⟩
theorem zg_2_0 : ∀ w ∈ ([.laysFinal "PraisedFields" "PraisedFields" "guesses" "LPraisedFields$Guesses;", .soleField "PraisedFields" "guesses", .laysFinal "PraisedFields" "PraisedFields" "sheets" "LPraisedFields$Sheets;", .soleField "PraisedFields" "sheets", .lays "PraisedFields" "PraisedFields" "tornFault" "I", .soleField "PraisedFields" "tornFault", .superclass "PraisedFields" "java/lang/Object", .methodLink "PraisedFieldsLaw" 13 yX6_feed, .instanceMethod yX6_feed, .selects "PraisedFields" yX6_feed yX6_feed, .code yX6_feed prog_1_method_2_code 2 (some .int), .methodLink "PraisedFields" 66 yX6_within, .static yX6_within, .code yX6_within prog_1_method_46_code 3 (some .boolean), .methodLink "PraisedFields" 70 yX5_append, .instanceMethod yX5_append, .selects "PraisedFields$Tape" yX5_append yX5_append, .code yX5_append prog_7_method_2_code 2 (some .boolean), .methodLink "PraisedFieldsLaw" 18 yX6_end, .instanceMethod yX6_end, .selects "PraisedFields" yX6_end yX6_end, .code yX6_end prog_1_method_3_code 3 (some .int), .methodLink "PraisedFieldsLaw" 22 yX6_text, .instanceMethod yX6_text, .selects "PraisedFields" yX6_text yX6_text, .code yX6_text prog_1_method_4_code 3 (some .int), .methodLink "PraisedFields" 77 yX5_tellAll, .instanceMethod yX5_tellAll, .selects "PraisedFields$Tape" yX5_tellAll yX5_tellAll, .code yX5_tellAll prog_7_method_3_code 4 (some .int), .methodLink "PraisedFields$Tape" 41 yX2_clear, .instanceMethod yX2_clear] : List Cond), zok w = true → w ∈ zW := fun w h h3 => by
  have h1 : ([.laysFinal "PraisedFields" "PraisedFields" "guesses" "LPraisedFields$Guesses;", .soleField "PraisedFields" "guesses", .laysFinal "PraisedFields" "PraisedFields" "sheets" "LPraisedFields$Sheets;", .soleField "PraisedFields" "sheets", .lays "PraisedFields" "PraisedFields" "tornFault" "I", .soleField "PraisedFields" "tornFault", .superclass "PraisedFields" "java/lang/Object", .methodLink "PraisedFieldsLaw" 13 yX6_feed, .instanceMethod yX6_feed, .selects "PraisedFields" yX6_feed yX6_feed, .code yX6_feed prog_1_method_2_code 2 (some .int), .methodLink "PraisedFields" 66 yX6_within, .static yX6_within, .code yX6_within prog_1_method_46_code 3 (some .boolean), .methodLink "PraisedFields" 70 yX5_append, .instanceMethod yX5_append, .selects "PraisedFields$Tape" yX5_append yX5_append, .code yX5_append prog_7_method_2_code 2 (some .boolean), .methodLink "PraisedFieldsLaw" 18 yX6_end, .instanceMethod yX6_end, .selects "PraisedFields" yX6_end yX6_end, .code yX6_end prog_1_method_3_code 3 (some .int), .methodLink "PraisedFieldsLaw" 22 yX6_text, .instanceMethod yX6_text, .selects "PraisedFields" yX6_text yX6_text, .code yX6_text prog_1_method_4_code 3 (some .int), .methodLink "PraisedFields" 77 yX5_tellAll, .instanceMethod yX5_tellAll, .selects "PraisedFields$Tape" yX5_tellAll yX5_tellAll, .code yX5_tellAll prog_7_method_3_code 4 (some .int), .methodLink "PraisedFields$Tape" 41 yX2_clear, .instanceMethod yX2_clear] : List Cond) = ((tables_1_2).drop 0).take 32 := rfl
  rw [h1] at h
  have h4 := List.mem_of_mem_drop (List.mem_of_mem_take h)
  exact List.mem_filter.mpr ⟨List.mem_append_right _ (List.mem_append_right _ (List.mem_append_left _ h4)), h3⟩
theorem zg_2_1 : ∀ w ∈ ([.selects "PraisedFields$Land" yX2_clear yX2_clear, .code yX2_clear prog_4_method_2_code 1 none, .methodLink "PraisedFields$Tape" 46 yX5_nextToken, .privateMethod yX5_nextToken, .instanceMethod yX5_nextToken, .code yX5_nextToken prog_7_method_12_code 3 none, .methodLink "PraisedFields$Tape" 105 yX5_stretch, .privateMethod yX5_stretch, .instanceMethod yX5_stretch, .code yX5_stretch prog_7_method_13_code 4 (some .int), .methodLink "PraisedFields$Tape" 109 yX5_readNumber, .privateMethod yX5_readNumber, .instanceMethod yX5_readNumber, .code yX5_readNumber prog_7_method_14_code 3 none, .methodLink "PraisedFields$Tape" 113 yJ9_max_7cf53, .static yJ9_max_7cf53, .code yJ9_max_7cf53 prog_10_method_65_code 2 (some .int), .methodLink "PraisedFields$Tape" 49 yX5_takeLine, .privateMethod yX5_takeLine, .instanceMethod yX5_takeLine, .code yX5_takeLine prog_7_method_5_code 3 (some .boolean), .methodLink "PraisedFields$Tape" 67 yX5_isToken, .privateMethod yX5_isToken, .instanceMethod yX5_isToken, .code yX5_isToken prog_7_method_11_code 2 (some .boolean), .methodLink "PraisedFields$Tape" 63 yX5_refuse, .privateMethod yX5_refuse, .instanceMethod yX5_refuse, .code yX5_refuse prog_7_method_4_code 3 (some .boolean), .methodLink "PraisedFields$Tape" 71 yX5_lineBegun, .privateMethod yX5_lineBegun, .instanceMethod yX5_lineBegun] : List Cond), zok w = true → w ∈ zW := fun w h h3 => by
  have h1 : ([.selects "PraisedFields$Land" yX2_clear yX2_clear, .code yX2_clear prog_4_method_2_code 1 none, .methodLink "PraisedFields$Tape" 46 yX5_nextToken, .privateMethod yX5_nextToken, .instanceMethod yX5_nextToken, .code yX5_nextToken prog_7_method_12_code 3 none, .methodLink "PraisedFields$Tape" 105 yX5_stretch, .privateMethod yX5_stretch, .instanceMethod yX5_stretch, .code yX5_stretch prog_7_method_13_code 4 (some .int), .methodLink "PraisedFields$Tape" 109 yX5_readNumber, .privateMethod yX5_readNumber, .instanceMethod yX5_readNumber, .code yX5_readNumber prog_7_method_14_code 3 none, .methodLink "PraisedFields$Tape" 113 yJ9_max_7cf53, .static yJ9_max_7cf53, .code yJ9_max_7cf53 prog_10_method_65_code 2 (some .int), .methodLink "PraisedFields$Tape" 49 yX5_takeLine, .privateMethod yX5_takeLine, .instanceMethod yX5_takeLine, .code yX5_takeLine prog_7_method_5_code 3 (some .boolean), .methodLink "PraisedFields$Tape" 67 yX5_isToken, .privateMethod yX5_isToken, .instanceMethod yX5_isToken, .code yX5_isToken prog_7_method_11_code 2 (some .boolean), .methodLink "PraisedFields$Tape" 63 yX5_refuse, .privateMethod yX5_refuse, .instanceMethod yX5_refuse, .code yX5_refuse prog_7_method_4_code 3 (some .boolean), .methodLink "PraisedFields$Tape" 71 yX5_lineBegun, .privateMethod yX5_lineBegun, .instanceMethod yX5_lineBegun] : List Cond) = ((tables_1_2).drop 32).take 32 := rfl
  rw [h1] at h
  have h4 := List.mem_of_mem_drop (List.mem_of_mem_take h)
  exact List.mem_filter.mpr ⟨List.mem_append_right _ (List.mem_append_right _ (List.mem_append_left _ h4)), h3⟩
theorem zg_2_2 : ∀ w ∈ ([.code yX5_lineBegun prog_7_method_15_code 1 (some .int), .stringRef "PraisedFields$Tape" 118 "plain", .methodLink "PraisedFields$Tape" 120 yX5_isNamed, .privateMethod yX5_isNamed, .instanceMethod yX5_isNamed, .code yX5_isNamed prog_7_method_16_code 3 (some .boolean), .methodLink "PraisedFields$Tape" 134 yJ0_length_8abf5, .instanceMethod yJ0_length_8abf5, .selects "java/lang/String" yJ0_length_8abf5 yJ0_length_8abf5, .code yJ0_length_8abf5 prog_11_method_54_code 1 (some .int), .methodLink "java/lang/String" 335 yJ0_coder_7d493, .instanceMethod yJ0_coder_7d493, .selects "java/lang/String" yJ0_coder_7d493 yJ0_coder_7d493, .code yJ0_coder_7d493 prog_11_method_152_code 1 (some .byte), .fieldLink "java/lang/String" 38 "java/lang/String" "COMPACT_STRINGS" "Z", .laysStatic "java/lang/String" "COMPACT_STRINGS" "Z", .methodLink "PraisedFields$Tape" 138 yJ0_charAt_5068e, .instanceMethod yJ0_charAt_5068e, .selects "java/lang/String" yJ0_charAt_5068e yJ0_charAt_5068e, .code yJ0_charAt_5068e prog_11_method_56_code 2 (some .char), .methodLink "java/lang/String" 492 yJ0_isLatin1_aae02, .instanceMethod yJ0_isLatin1_aae02, .selects "java/lang/String" yJ0_isLatin1_aae02 yJ0_isLatin1_aae02, .code yJ0_isLatin1_aae02 prog_11_method_154_code 1 (some .boolean), .methodLink "java/lang/String" 495 yJ1_charAt_3b067, .static yJ1_charAt_3b067, .code yJ1_charAt_3b067 prog_12_method_2_code 2 (some .char), .methodLink "java/lang/StringLatin1" 9 yJ0_checkIndex_df160, .static yJ0_checkIndex_df160, .code yJ0_checkIndex_df160 prog_11_method_155_code 2 none, .fieldLink "java/lang/String" 1053 "jdk/internal/util/Preconditions" "SIOOBE_FORMATTER" "Ljava/util/function/BiFunction;", .laysStatic "jdk/internal/util/Preconditions" "SIOOBE_FORMATTER" "Ljava/util/function/BiFunction;"] : List Cond), zok w = true → w ∈ zW := fun w h h3 => by
  have h1 : ([.code yX5_lineBegun prog_7_method_15_code 1 (some .int), .stringRef "PraisedFields$Tape" 118 "plain", .methodLink "PraisedFields$Tape" 120 yX5_isNamed, .privateMethod yX5_isNamed, .instanceMethod yX5_isNamed, .code yX5_isNamed prog_7_method_16_code 3 (some .boolean), .methodLink "PraisedFields$Tape" 134 yJ0_length_8abf5, .instanceMethod yJ0_length_8abf5, .selects "java/lang/String" yJ0_length_8abf5 yJ0_length_8abf5, .code yJ0_length_8abf5 prog_11_method_54_code 1 (some .int), .methodLink "java/lang/String" 335 yJ0_coder_7d493, .instanceMethod yJ0_coder_7d493, .selects "java/lang/String" yJ0_coder_7d493 yJ0_coder_7d493, .code yJ0_coder_7d493 prog_11_method_152_code 1 (some .byte), .fieldLink "java/lang/String" 38 "java/lang/String" "COMPACT_STRINGS" "Z", .laysStatic "java/lang/String" "COMPACT_STRINGS" "Z", .methodLink "PraisedFields$Tape" 138 yJ0_charAt_5068e, .instanceMethod yJ0_charAt_5068e, .selects "java/lang/String" yJ0_charAt_5068e yJ0_charAt_5068e, .code yJ0_charAt_5068e prog_11_method_56_code 2 (some .char), .methodLink "java/lang/String" 492 yJ0_isLatin1_aae02, .instanceMethod yJ0_isLatin1_aae02, .selects "java/lang/String" yJ0_isLatin1_aae02 yJ0_isLatin1_aae02, .code yJ0_isLatin1_aae02 prog_11_method_154_code 1 (some .boolean), .methodLink "java/lang/String" 495 yJ1_charAt_3b067, .static yJ1_charAt_3b067, .code yJ1_charAt_3b067 prog_12_method_2_code 2 (some .char), .methodLink "java/lang/StringLatin1" 9 yJ0_checkIndex_df160, .static yJ0_checkIndex_df160, .code yJ0_checkIndex_df160 prog_11_method_155_code 2 none, .fieldLink "java/lang/String" 1053 "jdk/internal/util/Preconditions" "SIOOBE_FORMATTER" "Ljava/util/function/BiFunction;", .laysStatic "jdk/internal/util/Preconditions" "SIOOBE_FORMATTER" "Ljava/util/function/BiFunction;"] : List Cond) = ((tables_1_2).drop 64).take 32 := rfl
  rw [h1] at h
  have h4 := List.mem_of_mem_drop (List.mem_of_mem_take h)
  exact List.mem_filter.mpr ⟨List.mem_append_right _ (List.mem_append_right _ (List.mem_append_left _ h4)), h3⟩
theorem zg_2_3 : ∀ w ∈ ([.methodLink "java/lang/String" 1059 yJ3_checkIndex_8e157, .static yJ3_checkIndex_8e157, .code yJ3_checkIndex_8e157 prog_15_method_11_code 3 (some .int), .methodLink "java/lang/String" 498 yJ2_charAt_3b067, .static yJ2_charAt_3b067, .code yJ2_charAt_3b067 prog_13_method_83_code 2 (some .char), .methodLink "java/lang/StringUTF16" 67 yJ2_checkIndex_2214a, .static yJ2_checkIndex_2214a, .code yJ2_checkIndex_2214a prog_13_method_91_code 2 none, .methodLink "java/lang/StringUTF16" 48 yJ2_length_9d52b, .static yJ2_length_9d52b, .code yJ2_length_9d52b prog_13_method_6_code 1 (some .int), .methodLink "java/lang/StringUTF16" 414 yJ0_checkIndex_df160, .methodLink "java/lang/StringUTF16" 71 yJ2_getChar_3b067, .static yJ2_getChar_3b067, .code yJ2_getChar_3b067 prog_13_method_5_code 2 (some .char), .fieldLink "java/lang/StringUTF16" 44 "java/lang/StringUTF16" "$assertionsDisabled" "Z", .laysStatic "java/lang/StringUTF16" "$assertionsDisabled" "Z", .fieldLink "java/lang/StringUTF16" 59 "java/lang/StringUTF16" "HI_BYTE_SHIFT" "I", .laysStatic "java/lang/StringUTF16" "HI_BYTE_SHIFT" "I", .fieldLink "java/lang/StringUTF16" 63 "java/lang/StringUTF16" "LO_BYTE_SHIFT" "I", .laysStatic "java/lang/StringUTF16" "LO_BYTE_SHIFT" "I", .stringRef "PraisedFields$Tape" 124 "vain", .stringRef "PraisedFields$Tape" 126 "shy", .stringRef "PraisedFields$Tape" 128 "deaf", .stringRef "PraisedFields$Tape" 130 "band", .stringRef "PraisedFields$Tape" 132 "glut", .methodLink "PraisedFields$Tape" 75 yX5_takeGlut, .privateMethod yX5_takeGlut, .instanceMethod yX5_takeGlut, .code yX5_takeGlut prog_7_method_8_code 2 (some .boolean), .methodLink "PraisedFields$Tape" 85 yX5_takeNumber] : List Cond), zok w = true → w ∈ zW := fun w h h3 => by
  have h1 : ([.methodLink "java/lang/String" 1059 yJ3_checkIndex_8e157, .static yJ3_checkIndex_8e157, .code yJ3_checkIndex_8e157 prog_15_method_11_code 3 (some .int), .methodLink "java/lang/String" 498 yJ2_charAt_3b067, .static yJ2_charAt_3b067, .code yJ2_charAt_3b067 prog_13_method_83_code 2 (some .char), .methodLink "java/lang/StringUTF16" 67 yJ2_checkIndex_2214a, .static yJ2_checkIndex_2214a, .code yJ2_checkIndex_2214a prog_13_method_91_code 2 none, .methodLink "java/lang/StringUTF16" 48 yJ2_length_9d52b, .static yJ2_length_9d52b, .code yJ2_length_9d52b prog_13_method_6_code 1 (some .int), .methodLink "java/lang/StringUTF16" 414 yJ0_checkIndex_df160, .methodLink "java/lang/StringUTF16" 71 yJ2_getChar_3b067, .static yJ2_getChar_3b067, .code yJ2_getChar_3b067 prog_13_method_5_code 2 (some .char), .fieldLink "java/lang/StringUTF16" 44 "java/lang/StringUTF16" "$assertionsDisabled" "Z", .laysStatic "java/lang/StringUTF16" "$assertionsDisabled" "Z", .fieldLink "java/lang/StringUTF16" 59 "java/lang/StringUTF16" "HI_BYTE_SHIFT" "I", .laysStatic "java/lang/StringUTF16" "HI_BYTE_SHIFT" "I", .fieldLink "java/lang/StringUTF16" 63 "java/lang/StringUTF16" "LO_BYTE_SHIFT" "I", .laysStatic "java/lang/StringUTF16" "LO_BYTE_SHIFT" "I", .stringRef "PraisedFields$Tape" 124 "vain", .stringRef "PraisedFields$Tape" 126 "shy", .stringRef "PraisedFields$Tape" 128 "deaf", .stringRef "PraisedFields$Tape" 130 "band", .stringRef "PraisedFields$Tape" 132 "glut", .methodLink "PraisedFields$Tape" 75 yX5_takeGlut, .privateMethod yX5_takeGlut, .instanceMethod yX5_takeGlut, .code yX5_takeGlut prog_7_method_8_code 2 (some .boolean), .methodLink "PraisedFields$Tape" 85 yX5_takeNumber] : List Cond) = ((tables_1_2).drop 96).take 32 := rfl
  rw [h1] at h
  have h4 := List.mem_of_mem_drop (List.mem_of_mem_take h)
  exact List.mem_filter.mpr ⟨List.mem_append_right _ (List.mem_append_right _ (List.mem_append_left _ h4)), h3⟩
theorem zg_2_4 : ∀ w ∈ ([.privateMethod yX5_takeNumber, .instanceMethod yX5_takeNumber, .code yX5_takeNumber prog_7_method_9_code 3 (some .boolean), .methodLinkNest "PraisedFields$Tape" 102 yX6_within "PraisedFields", .methodLink "PraisedFields$Tape" 88 yX5_takeSemicolon, .privateMethod yX5_takeSemicolon, .instanceMethod yX5_takeSemicolon, .code yX5_takeSemicolon prog_7_method_10_code 1 (some .boolean), .methodLink "PraisedFields$Tape" 78 yX5_takeBand, .privateMethod yX5_takeBand, .instanceMethod yX5_takeBand, .code yX5_takeBand prog_7_method_7_code 3 (some .boolean), .methodLink "PraisedFields$Tape" 96 yX2_addBand, .instanceMethod yX2_addBand, .selects "PraisedFields$Land" yX2_addBand yX2_addBand, .code yX2_addBand prog_4_method_5_code 3 (some .boolean), .methodLink "PraisedFields$Tape" 81 yX5_takeField, .privateMethod yX5_takeField, .instanceMethod yX5_takeField, .code yX5_takeField prog_7_method_6_code 4 (some .boolean), .methodLink "PraisedFields$Tape" 92 yX2_addField, .instanceMethod yX2_addField, .selects "PraisedFields$Land" yX2_addField yX2_addField, .code yX2_addField prog_4_method_4_code 4 (some .boolean), .methodLink "PraisedFields" 84 yX2_copyFrom, .instanceMethod yX2_copyFrom, .selects "PraisedFields$Land" yX2_copyFrom yX2_copyFrom, .code yX2_copyFrom prog_4_method_3_code 2 none, .methodLink "PraisedFields$Land" 55 ⟨"java/lang/System", "arraycopy", "(Ljava/lang/Object;ILjava/lang/Object;II)V"⟩, .static ⟨"java/lang/System", "arraycopy", "(Ljava/lang/Object;ILjava/lang/Object;II)V"⟩, .native ⟨"java/lang/System", "arraycopy", "(Ljava/lang/Object;ILjava/lang/Object;II)V"⟩, .methodLink "PraisedFieldsLaw" 27 yX6_fault] : List Cond), zok w = true → w ∈ zW := fun w h h3 => by
  have h1 : ([.privateMethod yX5_takeNumber, .instanceMethod yX5_takeNumber, .code yX5_takeNumber prog_7_method_9_code 3 (some .boolean), .methodLinkNest "PraisedFields$Tape" 102 yX6_within "PraisedFields", .methodLink "PraisedFields$Tape" 88 yX5_takeSemicolon, .privateMethod yX5_takeSemicolon, .instanceMethod yX5_takeSemicolon, .code yX5_takeSemicolon prog_7_method_10_code 1 (some .boolean), .methodLink "PraisedFields$Tape" 78 yX5_takeBand, .privateMethod yX5_takeBand, .instanceMethod yX5_takeBand, .code yX5_takeBand prog_7_method_7_code 3 (some .boolean), .methodLink "PraisedFields$Tape" 96 yX2_addBand, .instanceMethod yX2_addBand, .selects "PraisedFields$Land" yX2_addBand yX2_addBand, .code yX2_addBand prog_4_method_5_code 3 (some .boolean), .methodLink "PraisedFields$Tape" 81 yX5_takeField, .privateMethod yX5_takeField, .instanceMethod yX5_takeField, .code yX5_takeField prog_7_method_6_code 4 (some .boolean), .methodLink "PraisedFields$Tape" 92 yX2_addField, .instanceMethod yX2_addField, .selects "PraisedFields$Land" yX2_addField yX2_addField, .code yX2_addField prog_4_method_4_code 4 (some .boolean), .methodLink "PraisedFields" 84 yX2_copyFrom, .instanceMethod yX2_copyFrom, .selects "PraisedFields$Land" yX2_copyFrom yX2_copyFrom, .code yX2_copyFrom prog_4_method_3_code 2 none, .methodLink "PraisedFields$Land" 55 ⟨"java/lang/System", "arraycopy", "(Ljava/lang/Object;ILjava/lang/Object;II)V"⟩, .static ⟨"java/lang/System", "arraycopy", "(Ljava/lang/Object;ILjava/lang/Object;II)V"⟩, .native ⟨"java/lang/System", "arraycopy", "(Ljava/lang/Object;ILjava/lang/Object;II)V"⟩, .methodLink "PraisedFieldsLaw" 27 yX6_fault] : List Cond) = ((tables_1_2).drop 128).take 32 := rfl
  rw [h1] at h
  have h4 := List.mem_of_mem_drop (List.mem_of_mem_take h)
  exact List.mem_filter.mpr ⟨List.mem_append_right _ (List.mem_append_right _ (List.mem_append_left _ h4)), h3⟩
theorem zg_2_5 : ∀ w ∈ ([.instanceMethod yX6_fault, .selects "PraisedFields" yX6_fault yX6_fault, .code yX6_fault prog_1_method_5_code 1 (some .int), .methodLink "PraisedFieldsLaw" 31 yX6_rule, .instanceMethod yX6_rule, .selects "PraisedFields" yX6_rule yX6_rule, .code yX6_rule prog_1_method_6_code 2 (some .int), .methodLink "PraisedFields" 103 yX2_allEars, .instanceMethod yX2_allEars, .selects "PraisedFields$Land" yX2_allEars yX2_allEars, .code yX2_allEars prog_4_method_10_code 1 (some .int), .methodLink "PraisedFields$Land" 61 yX2_sumOf, .static yX2_sumOf, .code yX2_sumOf prog_4_method_13_code 4 (some .int), .methodLink "PraisedFields" 110 yX2_hearingFields, .instanceMethod yX2_hearingFields, .selects "PraisedFields$Land" yX2_hearingFields yX2_hearingFields, .code yX2_hearingFields prog_4_method_8_code 3 (some .int), .methodLink "PraisedFieldsLaw" 35 yX6_field, .instanceMethod yX6_field, .selects "PraisedFields" yX6_field yX6_field, .code yX6_field prog_1_method_7_code 4 (some .int), .methodLink "PraisedFields" 113 yX6_isField, .privateMethod yX6_isField, .instanceMethod yX6_isField, .code yX6_isField prog_1_method_47_code 2 (some .boolean), .methodLink "PraisedFields" 116 yX2_heardAt, .instanceMethod yX2_heardAt, .selects "PraisedFields$Land" yX2_heardAt yX2_heardAt, .code yX2_heardAt prog_4_method_7_code 4 (some .int), .methodLink "PraisedFields" 130 yX6_growth, .static yX6_growth] : List Cond), zok w = true → w ∈ zW := fun w h h3 => by
  have h1 : ([.instanceMethod yX6_fault, .selects "PraisedFields" yX6_fault yX6_fault, .code yX6_fault prog_1_method_5_code 1 (some .int), .methodLink "PraisedFieldsLaw" 31 yX6_rule, .instanceMethod yX6_rule, .selects "PraisedFields" yX6_rule yX6_rule, .code yX6_rule prog_1_method_6_code 2 (some .int), .methodLink "PraisedFields" 103 yX2_allEars, .instanceMethod yX2_allEars, .selects "PraisedFields$Land" yX2_allEars yX2_allEars, .code yX2_allEars prog_4_method_10_code 1 (some .int), .methodLink "PraisedFields$Land" 61 yX2_sumOf, .static yX2_sumOf, .code yX2_sumOf prog_4_method_13_code 4 (some .int), .methodLink "PraisedFields" 110 yX2_hearingFields, .instanceMethod yX2_hearingFields, .selects "PraisedFields$Land" yX2_hearingFields yX2_hearingFields, .code yX2_hearingFields prog_4_method_8_code 3 (some .int), .methodLink "PraisedFieldsLaw" 35 yX6_field, .instanceMethod yX6_field, .selects "PraisedFields" yX6_field yX6_field, .code yX6_field prog_1_method_7_code 4 (some .int), .methodLink "PraisedFields" 113 yX6_isField, .privateMethod yX6_isField, .instanceMethod yX6_isField, .code yX6_isField prog_1_method_47_code 2 (some .boolean), .methodLink "PraisedFields" 116 yX2_heardAt, .instanceMethod yX2_heardAt, .selects "PraisedFields$Land" yX2_heardAt yX2_heardAt, .code yX2_heardAt prog_4_method_7_code 4 (some .int), .methodLink "PraisedFields" 130 yX6_growth, .static yX6_growth] : List Cond) = ((tables_1_2).drop 160).take 32 := rfl
  rw [h1] at h
  have h4 := List.mem_of_mem_drop (List.mem_of_mem_take h)
  exact List.mem_filter.mpr ⟨List.mem_append_right _ (List.mem_append_right _ (List.mem_append_left _ h4)), h3⟩
theorem zg_2_6 : ∀ w ∈ ([.code yX6_growth prog_1_method_49_code 2 (some .int), .methodLink "PraisedFields" 134 yX6_heed, .static yX6_heed, .code yX6_heed prog_1_method_50_code 1 (some .int), .methodLink "PraisedFieldsLaw" 40 yX6_band, .instanceMethod yX6_band, .selects "PraisedFields" yX6_band yX6_band, .code yX6_band prog_1_method_8_code 3 (some .int), .methodLink "PraisedFields" 137 yX6_isBand, .privateMethod yX6_isBand, .instanceMethod yX6_isBand, .code yX6_isBand prog_1_method_48_code 2 (some .boolean), .methodLink "PraisedFieldsLaw" 44 yX6_alter, .instanceMethod yX6_alter, .selects "PraisedFields" yX6_alter yX6_alter, .code yX6_alter prog_1_method_9_code 4 (some .int), .methodLink "PraisedFields" 146 yX6_replace, .static yX6_replace, .code yX6_replace prog_1_method_10_code 5 (some .int), .methodLink "PraisedFieldsLaw" 49 yX6_march, .instanceMethod yX6_march, .selects "PraisedFields" yX6_march yX6_march, .code yX6_march prog_1_method_11_code 4 (some .int), .methodLink "PraisedFieldsLaw" 53 yX6_play, .instanceMethod yX6_play, .selects "PraisedFields" yX6_play yX6_play, .code yX6_play prog_1_method_12_code 4 (some .int), .methodLink "PraisedFieldsLaw" 57 yX6_glut, .instanceMethod yX6_glut, .selects "PraisedFields" yX6_glut yX6_glut, .code yX6_glut prog_1_method_13_code 3 (some .int), .methodLink "PraisedFieldsLaw" 61 yX6_hire] : List Cond), zok w = true → w ∈ zW := fun w h h3 => by
  have h1 : ([.code yX6_growth prog_1_method_49_code 2 (some .int), .methodLink "PraisedFields" 134 yX6_heed, .static yX6_heed, .code yX6_heed prog_1_method_50_code 1 (some .int), .methodLink "PraisedFieldsLaw" 40 yX6_band, .instanceMethod yX6_band, .selects "PraisedFields" yX6_band yX6_band, .code yX6_band prog_1_method_8_code 3 (some .int), .methodLink "PraisedFields" 137 yX6_isBand, .privateMethod yX6_isBand, .instanceMethod yX6_isBand, .code yX6_isBand prog_1_method_48_code 2 (some .boolean), .methodLink "PraisedFieldsLaw" 44 yX6_alter, .instanceMethod yX6_alter, .selects "PraisedFields" yX6_alter yX6_alter, .code yX6_alter prog_1_method_9_code 4 (some .int), .methodLink "PraisedFields" 146 yX6_replace, .static yX6_replace, .code yX6_replace prog_1_method_10_code 5 (some .int), .methodLink "PraisedFieldsLaw" 49 yX6_march, .instanceMethod yX6_march, .selects "PraisedFields" yX6_march yX6_march, .code yX6_march prog_1_method_11_code 4 (some .int), .methodLink "PraisedFieldsLaw" 53 yX6_play, .instanceMethod yX6_play, .selects "PraisedFields" yX6_play yX6_play, .code yX6_play prog_1_method_12_code 4 (some .int), .methodLink "PraisedFieldsLaw" 57 yX6_glut, .instanceMethod yX6_glut, .selects "PraisedFields" yX6_glut yX6_glut, .code yX6_glut prog_1_method_13_code 3 (some .int), .methodLink "PraisedFieldsLaw" 61 yX6_hire] : List Cond) = ((tables_1_2).drop 192).take 32 := rfl
  rw [h1] at h
  have h4 := List.mem_of_mem_drop (List.mem_of_mem_take h)
  exact List.mem_filter.mpr ⟨List.mem_append_right _ (List.mem_append_right _ (List.mem_append_left _ h4)), h3⟩
theorem zg_2_7 : ∀ w ∈ ([.instanceMethod yX6_hire, .selects "PraisedFields" yX6_hire yX6_hire, .code yX6_hire prog_1_method_14_code 3 (some .int), .methodLink "PraisedFields" 150 yX2_addBand, .methodLink "PraisedFieldsLaw" 65 yX6_leave, .instanceMethod yX6_leave, .selects "PraisedFields" yX6_leave yX6_leave, .code yX6_leave prog_1_method_15_code 3 (some .int), .methodLink "PraisedFieldsLaw" 69 yX6_weeks, .instanceMethod yX6_weeks, .selects "PraisedFields" yX6_weeks yX6_weeks, .code yX6_weeks prog_1_method_16_code 2 (some .int), .methodLink "PraisedFields" 154 yX2_passWeeks, .instanceMethod yX2_passWeeks, .selects "PraisedFields$Land" yX2_passWeeks yX2_passWeeks, .code yX2_passWeeks prog_4_method_15_code 4 (some .int)] : List Cond), zok w = true → w ∈ zW := fun w h h3 => by
  have h1 : ([.instanceMethod yX6_hire, .selects "PraisedFields" yX6_hire yX6_hire, .code yX6_hire prog_1_method_14_code 3 (some .int), .methodLink "PraisedFields" 150 yX2_addBand, .methodLink "PraisedFieldsLaw" 65 yX6_leave, .instanceMethod yX6_leave, .selects "PraisedFields" yX6_leave yX6_leave, .code yX6_leave prog_1_method_15_code 3 (some .int), .methodLink "PraisedFieldsLaw" 69 yX6_weeks, .instanceMethod yX6_weeks, .selects "PraisedFields" yX6_weeks yX6_weeks, .code yX6_weeks prog_1_method_16_code 2 (some .int), .methodLink "PraisedFields" 154 yX2_passWeeks, .instanceMethod yX2_passWeeks, .selects "PraisedFields$Land" yX2_passWeeks yX2_passWeeks, .code yX2_passWeeks prog_4_method_15_code 4 (some .int)] : List Cond) = ((tables_1_2).drop 224).take 32 := rfl
  rw [h1] at h
  have h4 := List.mem_of_mem_drop (List.mem_of_mem_take h)
  exact List.mem_filter.mpr ⟨List.mem_append_right _ (List.mem_append_right _ (List.mem_append_left _ h4)), h3⟩
theorem zg_3_0 : ∀ w ∈ ([.methodLink "PraisedFields$Land" 86 yX2_passWeek, .instanceMethod yX2_passWeek, .selects "PraisedFields$Land" yX2_passWeek yX2_passWeek, .code yX2_passWeek prog_4_method_14_code 4 (some .int), .methodLink "PraisedFields$Land" 65 yX2_heardAt, .methodLinkNest "PraisedFields$Land" 69 yX6_earsNext "PraisedFields", .static yX6_earsNext, .code yX6_earsNext prog_1_method_51_code 4 (some .int), .methodLink "PraisedFields" 277 yJ9_min_7cf53, .static yJ9_min_7cf53, .code yJ9_min_7cf53 prog_10_method_69_code 2 (some .int), .methodLink "PraisedFields" 282 yJ9_max_7cf53, .methodLinkNest "PraisedFields$Land" 73 yX6_blightNext "PraisedFields", .static yX6_blightNext, .code yX6_blightNext prog_1_method_52_code 3 (some .int), .methodLink "PraisedFields$Land" 77 yJ9_min_7cf53, .methodLink "PraisedFields$Land" 83 yJ9_max_7cf53, .methodLink "PraisedFieldsLaw" 73 yX6_runs, .instanceMethod yX6_runs, .selects "PraisedFields" yX6_runs yX6_runs, .code yX6_runs prog_1_method_17_code 4 (some .int), .methodLink "PraisedFields" 157 yX2_allBlight, .instanceMethod yX2_allBlight, .selects "PraisedFields$Land" yX2_allBlight yX2_allBlight, .code yX2_allBlight prog_4_method_11_code 1 (some .int), .methodLink "PraisedFields" 160 yX2_earlessFields, .instanceMethod yX2_earlessFields, .selects "PraisedFields$Land" yX2_earlessFields yX2_earlessFields, .code yX2_earlessFields prog_4_method_9_code 3 (some .int), .methodLink "PraisedFieldsLaw" 77 yX6_ahead, .instanceMethod yX6_ahead, .selects "PraisedFields" yX6_ahead yX6_ahead] : List Cond), zok w = true → w ∈ zW := fun w h h3 => by
  have h1 : ([.methodLink "PraisedFields$Land" 86 yX2_passWeek, .instanceMethod yX2_passWeek, .selects "PraisedFields$Land" yX2_passWeek yX2_passWeek, .code yX2_passWeek prog_4_method_14_code 4 (some .int), .methodLink "PraisedFields$Land" 65 yX2_heardAt, .methodLinkNest "PraisedFields$Land" 69 yX6_earsNext "PraisedFields", .static yX6_earsNext, .code yX6_earsNext prog_1_method_51_code 4 (some .int), .methodLink "PraisedFields" 277 yJ9_min_7cf53, .static yJ9_min_7cf53, .code yJ9_min_7cf53 prog_10_method_69_code 2 (some .int), .methodLink "PraisedFields" 282 yJ9_max_7cf53, .methodLinkNest "PraisedFields$Land" 73 yX6_blightNext "PraisedFields", .static yX6_blightNext, .code yX6_blightNext prog_1_method_52_code 3 (some .int), .methodLink "PraisedFields$Land" 77 yJ9_min_7cf53, .methodLink "PraisedFields$Land" 83 yJ9_max_7cf53, .methodLink "PraisedFieldsLaw" 73 yX6_runs, .instanceMethod yX6_runs, .selects "PraisedFields" yX6_runs yX6_runs, .code yX6_runs prog_1_method_17_code 4 (some .int), .methodLink "PraisedFields" 157 yX2_allBlight, .instanceMethod yX2_allBlight, .selects "PraisedFields$Land" yX2_allBlight yX2_allBlight, .code yX2_allBlight prog_4_method_11_code 1 (some .int), .methodLink "PraisedFields" 160 yX2_earlessFields, .instanceMethod yX2_earlessFields, .selects "PraisedFields$Land" yX2_earlessFields yX2_earlessFields, .code yX2_earlessFields prog_4_method_9_code 3 (some .int), .methodLink "PraisedFieldsLaw" 77 yX6_ahead, .instanceMethod yX6_ahead, .selects "PraisedFields" yX6_ahead yX6_ahead] : List Cond) = ((tables_1_3).drop 0).take 32 := rfl
  rw [h1] at h
  have h4 := List.mem_of_mem_drop (List.mem_of_mem_take h)
  exact List.mem_filter.mpr ⟨List.mem_append_right _ (List.mem_append_right _ (List.mem_append_right _ (List.mem_append_left _ h4))), h3⟩
theorem zg_3_1 : ∀ w ∈ ([.code yX6_ahead prog_1_method_18_code 4 (some .int), .methodLink "PraisedFields" 163 yX2_earsIf, .instanceMethod yX2_earsIf, .selects "PraisedFields$Land" yX2_earsIf yX2_earsIf, .code yX2_earsIf prog_4_method_16_code 4 (some .int), .methodLinkNest "PraisedFields$Land" 90 yX6_earsBehind "PraisedFields", .static yX6_earsBehind, .code yX6_earsBehind prog_1_method_53_code 8 (some .int), .methodLink "PraisedFields" 171 yX6_earsNext, .methodLink "PraisedFields" 174 yX6_blightNext, .methodLink "PraisedFields" 167 yX6_blightBehind, .static yX6_blightBehind, .code yX6_blightBehind prog_1_method_54_code 6 (some .int), .methodLink "PraisedFieldsLaw" 81 yX6_late, .instanceMethod yX6_late, .selects "PraisedFields" yX6_late yX6_late, .code yX6_late prog_1_method_19_code 8 (some .int), .methodLink "PraisedFieldsLaw" 85 yX6_order, .instanceMethod yX6_order, .selects "PraisedFields" yX6_order yX6_order, .code yX6_order prog_1_method_20_code 3 (some .int), .methodLink "PraisedFields" 177 yX3_findBest, .instanceMethod yX3_findBest, .selects "PraisedFields$Orders" yX3_findBest yX3_findBest, .code yX3_findBest prog_5_method_2_code 4 none, .methodLink "PraisedFields$Orders" 31 yX3_weigh, .privateMethod yX3_weigh, .instanceMethod yX3_weigh, .code yX3_weigh prog_5_method_3_code 5 none, .methodLink "PraisedFields$Orders" 58 yX2_earsIf, .methodLink "PraisedFields$Orders" 35 yX3_beginRows, .privateMethod yX3_beginRows] : List Cond), zok w = true → w ∈ zW := fun w h h3 => by
  have h1 : ([.code yX6_ahead prog_1_method_18_code 4 (some .int), .methodLink "PraisedFields" 163 yX2_earsIf, .instanceMethod yX2_earsIf, .selects "PraisedFields$Land" yX2_earsIf yX2_earsIf, .code yX2_earsIf prog_4_method_16_code 4 (some .int), .methodLinkNest "PraisedFields$Land" 90 yX6_earsBehind "PraisedFields", .static yX6_earsBehind, .code yX6_earsBehind prog_1_method_53_code 8 (some .int), .methodLink "PraisedFields" 171 yX6_earsNext, .methodLink "PraisedFields" 174 yX6_blightNext, .methodLink "PraisedFields" 167 yX6_blightBehind, .static yX6_blightBehind, .code yX6_blightBehind prog_1_method_54_code 6 (some .int), .methodLink "PraisedFieldsLaw" 81 yX6_late, .instanceMethod yX6_late, .selects "PraisedFields" yX6_late yX6_late, .code yX6_late prog_1_method_19_code 8 (some .int), .methodLink "PraisedFieldsLaw" 85 yX6_order, .instanceMethod yX6_order, .selects "PraisedFields" yX6_order yX6_order, .code yX6_order prog_1_method_20_code 3 (some .int), .methodLink "PraisedFields" 177 yX3_findBest, .instanceMethod yX3_findBest, .selects "PraisedFields$Orders" yX3_findBest yX3_findBest, .code yX3_findBest prog_5_method_2_code 4 none, .methodLink "PraisedFields$Orders" 31 yX3_weigh, .privateMethod yX3_weigh, .instanceMethod yX3_weigh, .code yX3_weigh prog_5_method_3_code 5 none, .methodLink "PraisedFields$Orders" 58 yX2_earsIf, .methodLink "PraisedFields$Orders" 35 yX3_beginRows, .privateMethod yX3_beginRows] : List Cond) = ((tables_1_3).drop 32).take 32 := rfl
  rw [h1] at h
  have h4 := List.mem_of_mem_drop (List.mem_of_mem_take h)
  exact List.mem_filter.mpr ⟨List.mem_append_right _ (List.mem_append_right _ (List.mem_append_right _ (List.mem_append_left _ h4))), h3⟩
theorem zg_3_2 : ∀ w ∈ ([.instanceMethod yX3_beginRows, .code yX3_beginRows prog_5_method_4_code 3 none, .methodLink "PraisedFields$Orders" 46 ⟨"java/lang/System", "arraycopy", "(Ljava/lang/Object;ILjava/lang/Object;II)V"⟩, .methodLink "PraisedFields$Orders" 52 yX3_nextRow, .privateMethod yX3_nextRow, .instanceMethod yX3_nextRow, .code yX3_nextRow prog_5_method_5_code 3 none, .methodLink "PraisedFields$Orders" 62 yX3_place, .privateMethod yX3_place, .instanceMethod yX3_place, .code yX3_place prog_5_method_6_code 3 none, .methodLink "PraisedFields$Orders" 66 yX3_toggle, .privateMethod yX3_toggle, .instanceMethod yX3_toggle, .code yX3_toggle prog_5_method_7_code 3 none, .methodLink "PraisedFieldsLaw" 89 yX6_move, .instanceMethod yX6_move, .selects "PraisedFields" yX6_move yX6_move, .code yX6_move prog_1_method_21_code 10 (some .int), .methodLink "PraisedFields" 186 yX2_gainBy, .instanceMethod yX2_gainBy, .selects "PraisedFields$Land" yX2_gainBy yX2_gainBy, .code yX2_gainBy prog_4_method_17_code 5 (some .int), .methodLink "PraisedFields$Land" 94 yX2_earsIf, .methodLink "PraisedFields" 189 yX2_allEarsBehind, .instanceMethod yX2_allEarsBehind, .selects "PraisedFields$Land" yX2_allEarsBehind yX2_allEarsBehind, .code yX2_allEarsBehind prog_4_method_18_code 4 (some .int), .methodLink "PraisedFieldsLaw" 93 yX6_still, .instanceMethod yX6_still, .selects "PraisedFields" yX6_still yX6_still, .code yX6_still prog_1_method_22_code 7 (some .int)] : List Cond), zok w = true → w ∈ zW := fun w h h3 => by
  have h1 : ([.instanceMethod yX3_beginRows, .code yX3_beginRows prog_5_method_4_code 3 none, .methodLink "PraisedFields$Orders" 46 ⟨"java/lang/System", "arraycopy", "(Ljava/lang/Object;ILjava/lang/Object;II)V"⟩, .methodLink "PraisedFields$Orders" 52 yX3_nextRow, .privateMethod yX3_nextRow, .instanceMethod yX3_nextRow, .code yX3_nextRow prog_5_method_5_code 3 none, .methodLink "PraisedFields$Orders" 62 yX3_place, .privateMethod yX3_place, .instanceMethod yX3_place, .code yX3_place prog_5_method_6_code 3 none, .methodLink "PraisedFields$Orders" 66 yX3_toggle, .privateMethod yX3_toggle, .instanceMethod yX3_toggle, .code yX3_toggle prog_5_method_7_code 3 none, .methodLink "PraisedFieldsLaw" 89 yX6_move, .instanceMethod yX6_move, .selects "PraisedFields" yX6_move yX6_move, .code yX6_move prog_1_method_21_code 10 (some .int), .methodLink "PraisedFields" 186 yX2_gainBy, .instanceMethod yX2_gainBy, .selects "PraisedFields$Land" yX2_gainBy yX2_gainBy, .code yX2_gainBy prog_4_method_17_code 5 (some .int), .methodLink "PraisedFields$Land" 94 yX2_earsIf, .methodLink "PraisedFields" 189 yX2_allEarsBehind, .instanceMethod yX2_allEarsBehind, .selects "PraisedFields$Land" yX2_allEarsBehind yX2_allEarsBehind, .code yX2_allEarsBehind prog_4_method_18_code 4 (some .int), .methodLink "PraisedFieldsLaw" 93 yX6_still, .instanceMethod yX6_still, .selects "PraisedFields" yX6_still yX6_still, .code yX6_still prog_1_method_22_code 7 (some .int)] : List Cond) = ((tables_1_3).drop 64).take 32 := rfl
  rw [h1] at h
  have h4 := List.mem_of_mem_drop (List.mem_of_mem_take h)
  exact List.mem_filter.mpr ⟨List.mem_append_right _ (List.mem_append_right _ (List.mem_append_right _ (List.mem_append_left _ h4))), h3⟩
theorem zg_3_3 : ∀ w ∈ ([.methodLink "PraisedFields" 192 yX6_sheavesWithout, .privateMethod yX6_sheavesWithout, .instanceMethod yX6_sheavesWithout, .code yX6_sheavesWithout prog_1_method_23_code 3 (some .int), .methodLink "PraisedFieldsLaw" 97 yX6_need, .instanceMethod yX6_need, .selects "PraisedFields" yX6_need yX6_need, .code yX6_need prog_1_method_24_code 7 (some .int), .methodLink "PraisedFieldsLaw" 101 yX6_swap, .instanceMethod yX6_swap, .selects "PraisedFields" yX6_swap yX6_swap, .code yX6_swap prog_1_method_25_code 9 (some .int), .methodLink "PraisedFieldsLaw" 105 yX6_bear, .instanceMethod yX6_bear, .selects "PraisedFields" yX6_bear yX6_bear, .code yX6_bear prog_1_method_26_code 6 (some .int), .methodLink "PraisedFields" 195 yX6_earsBehind, .methodLink "PraisedFieldsLaw" 109 yX6_kind, .instanceMethod yX6_kind, .selects "PraisedFields" yX6_kind yX6_kind, .code yX6_kind prog_1_method_27_code 9 (some .int), .methodLink "PraisedFieldsLaw" 113 yX6_luck, .instanceMethod yX6_luck, .selects "PraisedFields" yX6_luck yX6_luck, .code yX6_luck prog_1_method_28_code 6 (some .long), .constantLong "PraisedFields" 199 (-1), .methodLink "PraisedFields" 201 yX1_fallOn, .instanceMethod yX1_fallOn, .selects "PraisedFields$Hail" yX1_fallOn yX1_fallOn, .code yX1_fallOn prog_3_method_2_code 7 none, .methodLink "PraisedFields$Hail" 26 yX2_heardAt, .methodLink "PraisedFields$Hail" 34 yX1_part] : List Cond), zok w = true → w ∈ zW := fun w h h3 => by
  have h1 : ([.methodLink "PraisedFields" 192 yX6_sheavesWithout, .privateMethod yX6_sheavesWithout, .instanceMethod yX6_sheavesWithout, .code yX6_sheavesWithout prog_1_method_23_code 3 (some .int), .methodLink "PraisedFieldsLaw" 97 yX6_need, .instanceMethod yX6_need, .selects "PraisedFields" yX6_need yX6_need, .code yX6_need prog_1_method_24_code 7 (some .int), .methodLink "PraisedFieldsLaw" 101 yX6_swap, .instanceMethod yX6_swap, .selects "PraisedFields" yX6_swap yX6_swap, .code yX6_swap prog_1_method_25_code 9 (some .int), .methodLink "PraisedFieldsLaw" 105 yX6_bear, .instanceMethod yX6_bear, .selects "PraisedFields" yX6_bear yX6_bear, .code yX6_bear prog_1_method_26_code 6 (some .int), .methodLink "PraisedFields" 195 yX6_earsBehind, .methodLink "PraisedFieldsLaw" 109 yX6_kind, .instanceMethod yX6_kind, .selects "PraisedFields" yX6_kind yX6_kind, .code yX6_kind prog_1_method_27_code 9 (some .int), .methodLink "PraisedFieldsLaw" 113 yX6_luck, .instanceMethod yX6_luck, .selects "PraisedFields" yX6_luck yX6_luck, .code yX6_luck prog_1_method_28_code 6 (some .long), .constantLong "PraisedFields" 199 (-1), .methodLink "PraisedFields" 201 yX1_fallOn, .instanceMethod yX1_fallOn, .selects "PraisedFields$Hail" yX1_fallOn yX1_fallOn, .code yX1_fallOn prog_3_method_2_code 7 none, .methodLink "PraisedFields$Hail" 26 yX2_heardAt, .methodLink "PraisedFields$Hail" 34 yX1_part] : List Cond) = ((tables_1_3).drop 96).take 32 := rfl
  rw [h1] at h
  have h4 := List.mem_of_mem_drop (List.mem_of_mem_take h)
  exact List.mem_filter.mpr ⟨List.mem_append_right _ (List.mem_append_right _ (List.mem_append_right _ (List.mem_append_left _ h4))), h3⟩
theorem zg_3_4 : ∀ w ∈ ([.privateMethod yX1_part, .instanceMethod yX1_part, .code yX1_part prog_3_method_3_code 3 none, .methodLink "PraisedFields$Hail" 45 yJ9_min_7cf53, .methodLink "PraisedFields$Hail" 41 yX1_passWeek, .privateMethod yX1_passWeek, .instanceMethod yX1_passWeek, .code yX1_passWeek prog_3_method_4_code 4 none, .methodLinkNest "PraisedFields$Hail" 51 yX6_earsNext "PraisedFields", .methodLinkNest "PraisedFields$Hail" 55 yX6_blightNext "PraisedFields", .methodLink "PraisedFields" 205 yX1_weightOf, .instanceMethod yX1_weightOf, .selects "PraisedFields$Hail" yX1_weightOf yX1_weightOf, .code yX1_weightOf prog_3_method_5_code 5 (some .long), .methodLink "PraisedFields" 209 yX6_tenToThe, .static yX6_tenToThe, .code yX6_tenToThe prog_1_method_30_code 4 (some .long), .constantLong "PraisedFields" 220 10, .methodLink "PraisedFields" 212 yX6_lowestTerms, .static yX6_lowestTerms, .code yX6_lowestTerms prog_1_method_31_code 12 (some .long), .methodLink "PraisedFieldsLaw" 118 yX6_mean, .instanceMethod yX6_mean, .selects "PraisedFields" yX6_mean yX6_mean, .code yX6_mean prog_1_method_29_code 7 (some .long), .methodLink "PraisedFields" 216 yX1_weighedEars, .instanceMethod yX1_weighedEars, .selects "PraisedFields$Hail" yX1_weighedEars yX1_weighedEars, .code yX1_weighedEars prog_3_method_6_code 4 (some .long), .methodLink "PraisedFieldsLaw" 123 yX6_see, .instanceMethod yX6_see, .selects "PraisedFields" yX6_see yX6_see] : List Cond), zok w = true → w ∈ zW := fun w h h3 => by
  have h1 : ([.privateMethod yX1_part, .instanceMethod yX1_part, .code yX1_part prog_3_method_3_code 3 none, .methodLink "PraisedFields$Hail" 45 yJ9_min_7cf53, .methodLink "PraisedFields$Hail" 41 yX1_passWeek, .privateMethod yX1_passWeek, .instanceMethod yX1_passWeek, .code yX1_passWeek prog_3_method_4_code 4 none, .methodLinkNest "PraisedFields$Hail" 51 yX6_earsNext "PraisedFields", .methodLinkNest "PraisedFields$Hail" 55 yX6_blightNext "PraisedFields", .methodLink "PraisedFields" 205 yX1_weightOf, .instanceMethod yX1_weightOf, .selects "PraisedFields$Hail" yX1_weightOf yX1_weightOf, .code yX1_weightOf prog_3_method_5_code 5 (some .long), .methodLink "PraisedFields" 209 yX6_tenToThe, .static yX6_tenToThe, .code yX6_tenToThe prog_1_method_30_code 4 (some .long), .constantLong "PraisedFields" 220 10, .methodLink "PraisedFields" 212 yX6_lowestTerms, .static yX6_lowestTerms, .code yX6_lowestTerms prog_1_method_31_code 12 (some .long), .methodLink "PraisedFieldsLaw" 118 yX6_mean, .instanceMethod yX6_mean, .selects "PraisedFields" yX6_mean yX6_mean, .code yX6_mean prog_1_method_29_code 7 (some .long), .methodLink "PraisedFields" 216 yX1_weighedEars, .instanceMethod yX1_weighedEars, .selects "PraisedFields$Hail" yX1_weighedEars yX1_weighedEars, .code yX1_weighedEars prog_3_method_6_code 4 (some .long), .methodLink "PraisedFieldsLaw" 123 yX6_see, .instanceMethod yX6_see, .selects "PraisedFields" yX6_see yX6_see] : List Cond) = ((tables_1_3).drop 128).take 32 := rfl
  rw [h1] at h
  have h4 := List.mem_of_mem_drop (List.mem_of_mem_take h)
  exact List.mem_filter.mpr ⟨List.mem_append_right _ (List.mem_append_right _ (List.mem_append_right _ (List.mem_append_left _ h4))), h3⟩
theorem zg_3_5 : ∀ w ∈ ([.code yX6_see prog_1_method_32_code 4 (some .int), .methodLink "PraisedFields" 222 yX2_addSeen, .instanceMethod yX2_addSeen, .selects "PraisedFields$Land" yX2_addSeen yX2_addSeen, .code yX2_addSeen prog_4_method_6_code 4 (some .boolean), .methodLink "PraisedFieldsLaw" 127 yX6_forget, .instanceMethod yX6_forget, .selects "PraisedFields" yX6_forget yX6_forget, .code yX6_forget prog_1_method_33_code 3 (some .int), .methodLink "PraisedFieldsLaw" 131 yX6_kinds, .instanceMethod yX6_kinds, .selects "PraisedFields" yX6_kinds yX6_kinds, .code yX6_kinds prog_1_method_34_code 4 (some .int), .methodLink "PraisedFields" 228 yX2_isAsSeen, .instanceMethod yX2_isAsSeen, .selects "PraisedFields$Land" yX2_isAsSeen yX2_isAsSeen, .code yX2_isAsSeen prog_4_method_19_code 9 (some .boolean), .methodLink "PraisedFieldsLaw" 135 yX6_blights, .instanceMethod yX6_blights, .selects "PraisedFields" yX6_blights yX6_blights, .code yX6_blights prog_1_method_35_code 2 (some .int), .methodLink "PraisedFields" 231 yX6_blightsAsSeen, .privateMethod yX6_blightsAsSeen, .instanceMethod yX6_blightsAsSeen, .code yX6_blightsAsSeen prog_1_method_36_code 4 (some .int), .methodLink "PraisedFieldsLaw" 139 yX6_ask, .instanceMethod yX6_ask, .selects "PraisedFields" yX6_ask yX6_ask, .code yX6_ask prog_1_method_37_code 8 (some .int), .methodLink "PraisedFields" 234 yX0_begin, .instanceMethod yX0_begin, .selects "PraisedFields$Guesses" yX0_begin yX0_begin] : List Cond), zok w = true → w ∈ zW := fun w h h3 => by
  have h1 : ([.code yX6_see prog_1_method_32_code 4 (some .int), .methodLink "PraisedFields" 222 yX2_addSeen, .instanceMethod yX2_addSeen, .selects "PraisedFields$Land" yX2_addSeen yX2_addSeen, .code yX2_addSeen prog_4_method_6_code 4 (some .boolean), .methodLink "PraisedFieldsLaw" 127 yX6_forget, .instanceMethod yX6_forget, .selects "PraisedFields" yX6_forget yX6_forget, .code yX6_forget prog_1_method_33_code 3 (some .int), .methodLink "PraisedFieldsLaw" 131 yX6_kinds, .instanceMethod yX6_kinds, .selects "PraisedFields" yX6_kinds yX6_kinds, .code yX6_kinds prog_1_method_34_code 4 (some .int), .methodLink "PraisedFields" 228 yX2_isAsSeen, .instanceMethod yX2_isAsSeen, .selects "PraisedFields$Land" yX2_isAsSeen yX2_isAsSeen, .code yX2_isAsSeen prog_4_method_19_code 9 (some .boolean), .methodLink "PraisedFieldsLaw" 135 yX6_blights, .instanceMethod yX6_blights, .selects "PraisedFields" yX6_blights yX6_blights, .code yX6_blights prog_1_method_35_code 2 (some .int), .methodLink "PraisedFields" 231 yX6_blightsAsSeen, .privateMethod yX6_blightsAsSeen, .instanceMethod yX6_blightsAsSeen, .code yX6_blightsAsSeen prog_1_method_36_code 4 (some .int), .methodLink "PraisedFieldsLaw" 139 yX6_ask, .instanceMethod yX6_ask, .selects "PraisedFields" yX6_ask yX6_ask, .code yX6_ask prog_1_method_37_code 8 (some .int), .methodLink "PraisedFields" 234 yX0_begin, .instanceMethod yX0_begin, .selects "PraisedFields$Guesses" yX0_begin yX0_begin] : List Cond) = ((tables_1_3).drop 160).take 32 := rfl
  rw [h1] at h
  have h4 := List.mem_of_mem_drop (List.mem_of_mem_take h)
  exact List.mem_filter.mpr ⟨List.mem_append_right _ (List.mem_append_right _ (List.mem_append_right _ (List.mem_append_left _ h4))), h3⟩
theorem zg_3_6 : ∀ w ∈ ([.code yX0_begin prog_2_method_2_code 4 none, .methodLink "PraisedFields" 241 yX0_largestGroup, .instanceMethod yX0_largestGroup, .selects "PraisedFields$Guesses" yX0_largestGroup yX0_largestGroup, .code yX0_largestGroup prog_2_method_4_code 5 (some .int), .methodLink "PraisedFields$Guesses" 30 yJ9_max_7cf53, .methodLink "PraisedFields" 244 yX0_passWeek, .instanceMethod yX0_passWeek, .selects "PraisedFields$Guesses" yX0_passWeek yX0_passWeek, .code yX0_passWeek prog_2_method_3_code 4 none, .methodLinkNest "PraisedFields$Guesses" 22 yX6_earsNext "PraisedFields", .methodLinkNest "PraisedFields$Guesses" 26 yX6_blightNext "PraisedFields", .methodLink "PraisedFieldsLaw" 143 yX6_drift, .instanceMethod yX6_drift, .selects "PraisedFields" yX6_drift yX6_drift, .code yX6_drift prog_1_method_38_code 7 (some .int), .constant "PraisedFields" 247 1103515245, .methodLink "PraisedFields" 248 yX2_passWeek, .methodLink "PraisedFieldsLaw" 147 yX6_keep, .instanceMethod yX6_keep, .selects "PraisedFields" yX6_keep yX6_keep, .code yX6_keep prog_1_method_39_code 3 (some .int), .methodLink "PraisedFieldsLaw" 151 yX6_back, .instanceMethod yX6_back, .selects "PraisedFields" yX6_back yX6_back, .code yX6_back prog_1_method_40_code 2 (some .int), .methodLink "PraisedFieldsLaw" 155 yX6_sheet, .instanceMethod yX6_sheet, .selects "PraisedFields" yX6_sheet yX6_sheet, .code yX6_sheet prog_1_method_41_code 4 (some .int), .methodLink "PraisedFields" 250 yX4_renew, .instanceMethod yX4_renew] : List Cond), zok w = true → w ∈ zW := fun w h h3 => by
  have h1 : ([.code yX0_begin prog_2_method_2_code 4 none, .methodLink "PraisedFields" 241 yX0_largestGroup, .instanceMethod yX0_largestGroup, .selects "PraisedFields$Guesses" yX0_largestGroup yX0_largestGroup, .code yX0_largestGroup prog_2_method_4_code 5 (some .int), .methodLink "PraisedFields$Guesses" 30 yJ9_max_7cf53, .methodLink "PraisedFields" 244 yX0_passWeek, .instanceMethod yX0_passWeek, .selects "PraisedFields$Guesses" yX0_passWeek yX0_passWeek, .code yX0_passWeek prog_2_method_3_code 4 none, .methodLinkNest "PraisedFields$Guesses" 22 yX6_earsNext "PraisedFields", .methodLinkNest "PraisedFields$Guesses" 26 yX6_blightNext "PraisedFields", .methodLink "PraisedFieldsLaw" 143 yX6_drift, .instanceMethod yX6_drift, .selects "PraisedFields" yX6_drift yX6_drift, .code yX6_drift prog_1_method_38_code 7 (some .int), .constant "PraisedFields" 247 1103515245, .methodLink "PraisedFields" 248 yX2_passWeek, .methodLink "PraisedFieldsLaw" 147 yX6_keep, .instanceMethod yX6_keep, .selects "PraisedFields" yX6_keep yX6_keep, .code yX6_keep prog_1_method_39_code 3 (some .int), .methodLink "PraisedFieldsLaw" 151 yX6_back, .instanceMethod yX6_back, .selects "PraisedFields" yX6_back yX6_back, .code yX6_back prog_1_method_40_code 2 (some .int), .methodLink "PraisedFieldsLaw" 155 yX6_sheet, .instanceMethod yX6_sheet, .selects "PraisedFields" yX6_sheet yX6_sheet, .code yX6_sheet prog_1_method_41_code 4 (some .int), .methodLink "PraisedFields" 250 yX4_renew, .instanceMethod yX4_renew] : List Cond) = ((tables_1_3).drop 192).take 32 := rfl
  rw [h1] at h
  have h4 := List.mem_of_mem_drop (List.mem_of_mem_take h)
  exact List.mem_filter.mpr ⟨List.mem_append_right _ (List.mem_append_right _ (List.mem_append_right _ (List.mem_append_left _ h4))), h3⟩
theorem zg_3_7 : ∀ w ∈ ([.selects "PraisedFields$Sheets" yX4_renew yX4_renew, .code yX4_renew prog_6_method_2_code 5 none, .methodLink "PraisedFieldsLaw" 159 yX6_lay, .instanceMethod yX6_lay, .selects "PraisedFields" yX6_lay yX6_lay, .code yX6_lay prog_1_method_42_code 5 (some .int), .methodLink "PraisedFields" 257 yX4_faultAt, .instanceMethod yX4_faultAt, .selects "PraisedFields$Sheets" yX4_faultAt yX4_faultAt, .code yX4_faultAt prog_6_method_3_code 4 (some .int), .methodLinkNest "PraisedFields$Sheets" 21 yX6_within "PraisedFields", .methodLink "PraisedFields" 260 yX4_put, .instanceMethod yX4_put, .selects "PraisedFields$Sheets" yX4_put yX4_put, .code yX4_put prog_6_method_5_code 4 none, .methodLink "PraisedFields$Sheets" 29 yX4_lowestBits] : List Cond), zok w = true → w ∈ zW := fun w h h3 => by
  have h1 : ([.selects "PraisedFields$Sheets" yX4_renew yX4_renew, .code yX4_renew prog_6_method_2_code 5 none, .methodLink "PraisedFieldsLaw" 159 yX6_lay, .instanceMethod yX6_lay, .selects "PraisedFields" yX6_lay yX6_lay, .code yX6_lay prog_1_method_42_code 5 (some .int), .methodLink "PraisedFields" 257 yX4_faultAt, .instanceMethod yX4_faultAt, .selects "PraisedFields$Sheets" yX4_faultAt yX4_faultAt, .code yX4_faultAt prog_6_method_3_code 4 (some .int), .methodLinkNest "PraisedFields$Sheets" 21 yX6_within "PraisedFields", .methodLink "PraisedFields" 260 yX4_put, .instanceMethod yX4_put, .selects "PraisedFields$Sheets" yX4_put yX4_put, .code yX4_put prog_6_method_5_code 4 none, .methodLink "PraisedFields$Sheets" 29 yX4_lowestBits] : List Cond) = ((tables_1_3).drop 224).take 32 := rfl
  rw [h1] at h
  have h4 := List.mem_of_mem_drop (List.mem_of_mem_take h)
  exact List.mem_filter.mpr ⟨List.mem_append_right _ (List.mem_append_right _ (List.mem_append_right _ (List.mem_append_left _ h4))), h3⟩
theorem zg_4_0 : ∀ w ∈ ([.static yX4_lowestBits, .code yX4_lowestBits prog_6_method_7_code 2 (some .int), .methodLink "PraisedFieldsLaw" 163 yX6_read, .instanceMethod yX6_read, .selects "PraisedFields" yX6_read yX6_read, .code yX6_read prog_1_method_43_code 8 (some .int), .methodLink "PraisedFields" 263 yX4_pairFault, .instanceMethod yX4_pairFault, .selects "PraisedFields$Sheets" yX4_pairFault yX4_pairFault, .code yX4_pairFault prog_6_method_4_code 5 (some .int), .methodLink "PraisedFields$Sheets" 25 yX4_faultAt, .methodLink "PraisedFields" 266 yX4_get, .instanceMethod yX4_get, .selects "PraisedFields$Sheets" yX4_get yX4_get, .code yX4_get prog_6_method_6_code 3 (some .int), .methodLink "PraisedFields" 269 yX6_march, .methodLink "PraisedFieldsLaw" 168 yX6_torn, .instanceMethod yX6_torn, .selects "PraisedFields" yX6_torn yX6_torn, .code yX6_torn prog_1_method_44_code 1 (some .int), .methodLink "PraisedFieldsLaw" 172 yX6_count, .instanceMethod yX6_count, .selects "PraisedFields" yX6_count yX6_count, .code yX6_count prog_1_method_45_code 2 (some .int), .methodLink "PraisedFields" 274 yX2_allLoud, .instanceMethod yX2_allLoud, .selects "PraisedFields$Land" yX2_allLoud yX2_allLoud, .code yX2_allLoud prog_4_method_12_code 1 (some .int), .classLink "PraisedFieldsLaw" 10 "PraisedFieldsModel", .instantiable "PraisedFieldsModel" 29, .methodLink "PraisedFieldsLaw" 12 yX7_init, .instanceMethod yX7_init] : List Cond), zok w = true → w ∈ zW := fun w h h3 => by
  have h1 : ([.static yX4_lowestBits, .code yX4_lowestBits prog_6_method_7_code 2 (some .int), .methodLink "PraisedFieldsLaw" 163 yX6_read, .instanceMethod yX6_read, .selects "PraisedFields" yX6_read yX6_read, .code yX6_read prog_1_method_43_code 8 (some .int), .methodLink "PraisedFields" 263 yX4_pairFault, .instanceMethod yX4_pairFault, .selects "PraisedFields$Sheets" yX4_pairFault yX4_pairFault, .code yX4_pairFault prog_6_method_4_code 5 (some .int), .methodLink "PraisedFields$Sheets" 25 yX4_faultAt, .methodLink "PraisedFields" 266 yX4_get, .instanceMethod yX4_get, .selects "PraisedFields$Sheets" yX4_get yX4_get, .code yX4_get prog_6_method_6_code 3 (some .int), .methodLink "PraisedFields" 269 yX6_march, .methodLink "PraisedFieldsLaw" 168 yX6_torn, .instanceMethod yX6_torn, .selects "PraisedFields" yX6_torn yX6_torn, .code yX6_torn prog_1_method_44_code 1 (some .int), .methodLink "PraisedFieldsLaw" 172 yX6_count, .instanceMethod yX6_count, .selects "PraisedFields" yX6_count yX6_count, .code yX6_count prog_1_method_45_code 2 (some .int), .methodLink "PraisedFields" 274 yX2_allLoud, .instanceMethod yX2_allLoud, .selects "PraisedFields$Land" yX2_allLoud yX2_allLoud, .code yX2_allLoud prog_4_method_12_code 1 (some .int), .classLink "PraisedFieldsLaw" 10 "PraisedFieldsModel", .instantiable "PraisedFieldsModel" 29, .methodLink "PraisedFieldsLaw" 12 yX7_init, .instanceMethod yX7_init] : List Cond) = ((tables_1_4).drop 0).take 32 := rfl
  rw [h1] at h
  have h4 := List.mem_of_mem_drop (List.mem_of_mem_take h)
  exact List.mem_filter.mpr ⟨List.mem_append_right _ (List.mem_append_right _ (List.mem_append_right _ (List.mem_append_right _ (List.mem_append_left _ h4)))), h3⟩
theorem zg_4_1 : ∀ w ∈ ([.code yX7_init prog_9_method_1_code 2 none, .methodLink "PraisedFieldsModel" 1 ⟨"java/lang/Object", "<init>", "()V"⟩, .methodLink "PraisedFieldsModel" 47 yX7_firstDraft, .privateMethod yX7_firstDraft, .instanceMethod yX7_firstDraft, .code yX7_firstDraft prog_9_method_6_code 2 none, .methodLink "PraisedFieldsModel" 50 yX7_keepDraft, .privateMethod yX7_keepDraft, .instanceMethod yX7_keepDraft, .code yX7_keepDraft prog_9_method_7_code 2 none, .fieldLink "PraisedFieldsModel" 7 "PraisedFieldsModel" "st" "[I", .fieldLink "PraisedFieldsModel" 13 "PraisedFieldsModel" "now" "[I", .fieldLink "PraisedFieldsModel" 16 "PraisedFieldsModel" "isKept" "[Z", .fieldLink "PraisedFieldsModel" 20 "PraisedFieldsModel" "draft" "[I", .fieldLink "PraisedFieldsModel" 53 "PraisedFieldsModel" "hasGlut" "Z", .fieldLink "PraisedFieldsModel" 57 "PraisedFieldsModel" "highest" "I", .fieldLink "PraisedFieldsModel" 23 "PraisedFieldsModel" "tape" "[I", .fieldLink "PraisedFieldsModel" 67 "PraisedFieldsModel" "taped" "I", .fieldLink "PraisedFieldsModel" 79 "PraisedFieldsModel" "pos" "I", .fieldLink "PraisedFieldsModel" 73 "PraisedFieldsModel" "begun" "I", .fieldLink "PraisedFieldsModel" 94 "PraisedFieldsModel" "sort" "I", .fieldLink "PraisedFieldsModel" 105 "PraisedFieldsModel" "value" "I", .fieldLink "PraisedFieldsModel" 70 "PraisedFieldsModel" "fault" "I", .fieldLink "PraisedFieldsModel" 76 "PraisedFieldsModel" "wrongAt" "I", .fieldLink "PraisedFieldsModel" 135 "PraisedFieldsModel" "quiet" "I", .fieldLink "PraisedFieldsModel" 138 "PraisedFieldsModel" "fines" "I", .fieldLink "PraisedFieldsModel" 221 "PraisedFieldsModel" "bestCode" "I", .fieldLink "PraisedFieldsModel" 224 "PraisedFieldsModel" "bestMuch" "I", .fieldLink "PraisedFieldsModel" 26 "PraisedFieldsModel" "bestRow" "[I", .fieldLink "PraisedFieldsModel" 251 "PraisedFieldsModel" "fullSum" "J", .fieldLink "PraisedFieldsModel" 255 "PraisedFieldsModel" "earSum" "J", .fieldLink "PraisedFieldsModel" 258 "PraisedFieldsModel" "allWays" "J"] : List Cond), zok w = true → w ∈ zW := fun w h h3 => by
  have h1 : ([.code yX7_init prog_9_method_1_code 2 none, .methodLink "PraisedFieldsModel" 1 ⟨"java/lang/Object", "<init>", "()V"⟩, .methodLink "PraisedFieldsModel" 47 yX7_firstDraft, .privateMethod yX7_firstDraft, .instanceMethod yX7_firstDraft, .code yX7_firstDraft prog_9_method_6_code 2 none, .methodLink "PraisedFieldsModel" 50 yX7_keepDraft, .privateMethod yX7_keepDraft, .instanceMethod yX7_keepDraft, .code yX7_keepDraft prog_9_method_7_code 2 none, .fieldLink "PraisedFieldsModel" 7 "PraisedFieldsModel" "st" "[I", .fieldLink "PraisedFieldsModel" 13 "PraisedFieldsModel" "now" "[I", .fieldLink "PraisedFieldsModel" 16 "PraisedFieldsModel" "isKept" "[Z", .fieldLink "PraisedFieldsModel" 20 "PraisedFieldsModel" "draft" "[I", .fieldLink "PraisedFieldsModel" 53 "PraisedFieldsModel" "hasGlut" "Z", .fieldLink "PraisedFieldsModel" 57 "PraisedFieldsModel" "highest" "I", .fieldLink "PraisedFieldsModel" 23 "PraisedFieldsModel" "tape" "[I", .fieldLink "PraisedFieldsModel" 67 "PraisedFieldsModel" "taped" "I", .fieldLink "PraisedFieldsModel" 79 "PraisedFieldsModel" "pos" "I", .fieldLink "PraisedFieldsModel" 73 "PraisedFieldsModel" "begun" "I", .fieldLink "PraisedFieldsModel" 94 "PraisedFieldsModel" "sort" "I", .fieldLink "PraisedFieldsModel" 105 "PraisedFieldsModel" "value" "I", .fieldLink "PraisedFieldsModel" 70 "PraisedFieldsModel" "fault" "I", .fieldLink "PraisedFieldsModel" 76 "PraisedFieldsModel" "wrongAt" "I", .fieldLink "PraisedFieldsModel" 135 "PraisedFieldsModel" "quiet" "I", .fieldLink "PraisedFieldsModel" 138 "PraisedFieldsModel" "fines" "I", .fieldLink "PraisedFieldsModel" 221 "PraisedFieldsModel" "bestCode" "I", .fieldLink "PraisedFieldsModel" 224 "PraisedFieldsModel" "bestMuch" "I", .fieldLink "PraisedFieldsModel" 26 "PraisedFieldsModel" "bestRow" "[I", .fieldLink "PraisedFieldsModel" 251 "PraisedFieldsModel" "fullSum" "J", .fieldLink "PraisedFieldsModel" 255 "PraisedFieldsModel" "earSum" "J", .fieldLink "PraisedFieldsModel" 258 "PraisedFieldsModel" "allWays" "J"] : List Cond) = ((tables_1_4).drop 32).take 32 := rfl
  rw [h1] at h
  have h4 := List.mem_of_mem_drop (List.mem_of_mem_take h)
  exact List.mem_filter.mpr ⟨List.mem_append_right _ (List.mem_append_right _ (List.mem_append_right _ (List.mem_append_right _ (List.mem_append_left _ h4)))), h3⟩
theorem zg_4_2 : ∀ w ∈ ([.fieldLink "PraisedFieldsModel" 29 "PraisedFieldsModel" "had" "[I", .fieldLink "PraisedFieldsModel" 32 "PraisedFieldsModel" "byBlight" "[I", .fieldLink "PraisedFieldsModel" 35 "PraisedFieldsModel" "lanes" "[I", .fieldLink "PraisedFieldsModel" 38 "PraisedFieldsModel" "sizes" "[I", .fieldLink "PraisedFieldsModel" 41 "PraisedFieldsModel" "cells" "[I", .fieldLink "PraisedFieldsModel" 293 "PraisedFieldsModel" "torn" "I", .fieldLink "PraisedFieldsModel" 44 "PraisedFieldsModel" "before" "[I", .laysFinal "PraisedFieldsModel" "PraisedFieldsModel" "st" "[I", .soleField "PraisedFieldsModel" "st", .laysFinal "PraisedFieldsModel" "PraisedFieldsModel" "now" "[I", .soleField "PraisedFieldsModel" "now", .laysFinal "PraisedFieldsModel" "PraisedFieldsModel" "isKept" "[Z", .soleField "PraisedFieldsModel" "isKept", .laysFinal "PraisedFieldsModel" "PraisedFieldsModel" "draft" "[I", .soleField "PraisedFieldsModel" "draft", .lays "PraisedFieldsModel" "PraisedFieldsModel" "hasGlut" "Z", .soleField "PraisedFieldsModel" "hasGlut", .lays "PraisedFieldsModel" "PraisedFieldsModel" "highest" "I", .soleField "PraisedFieldsModel" "highest", .laysFinal "PraisedFieldsModel" "PraisedFieldsModel" "tape" "[I", .soleField "PraisedFieldsModel" "tape", .lays "PraisedFieldsModel" "PraisedFieldsModel" "taped" "I", .soleField "PraisedFieldsModel" "taped", .lays "PraisedFieldsModel" "PraisedFieldsModel" "pos" "I", .soleField "PraisedFieldsModel" "pos", .lays "PraisedFieldsModel" "PraisedFieldsModel" "begun" "I", .soleField "PraisedFieldsModel" "begun", .lays "PraisedFieldsModel" "PraisedFieldsModel" "sort" "I", .soleField "PraisedFieldsModel" "sort", .lays "PraisedFieldsModel" "PraisedFieldsModel" "value" "I", .soleField "PraisedFieldsModel" "value", .lays "PraisedFieldsModel" "PraisedFieldsModel" "fault" "I"] : List Cond), zok w = true → w ∈ zW := fun w h h3 => by
  have h1 : ([.fieldLink "PraisedFieldsModel" 29 "PraisedFieldsModel" "had" "[I", .fieldLink "PraisedFieldsModel" 32 "PraisedFieldsModel" "byBlight" "[I", .fieldLink "PraisedFieldsModel" 35 "PraisedFieldsModel" "lanes" "[I", .fieldLink "PraisedFieldsModel" 38 "PraisedFieldsModel" "sizes" "[I", .fieldLink "PraisedFieldsModel" 41 "PraisedFieldsModel" "cells" "[I", .fieldLink "PraisedFieldsModel" 293 "PraisedFieldsModel" "torn" "I", .fieldLink "PraisedFieldsModel" 44 "PraisedFieldsModel" "before" "[I", .laysFinal "PraisedFieldsModel" "PraisedFieldsModel" "st" "[I", .soleField "PraisedFieldsModel" "st", .laysFinal "PraisedFieldsModel" "PraisedFieldsModel" "now" "[I", .soleField "PraisedFieldsModel" "now", .laysFinal "PraisedFieldsModel" "PraisedFieldsModel" "isKept" "[Z", .soleField "PraisedFieldsModel" "isKept", .laysFinal "PraisedFieldsModel" "PraisedFieldsModel" "draft" "[I", .soleField "PraisedFieldsModel" "draft", .lays "PraisedFieldsModel" "PraisedFieldsModel" "hasGlut" "Z", .soleField "PraisedFieldsModel" "hasGlut", .lays "PraisedFieldsModel" "PraisedFieldsModel" "highest" "I", .soleField "PraisedFieldsModel" "highest", .laysFinal "PraisedFieldsModel" "PraisedFieldsModel" "tape" "[I", .soleField "PraisedFieldsModel" "tape", .lays "PraisedFieldsModel" "PraisedFieldsModel" "taped" "I", .soleField "PraisedFieldsModel" "taped", .lays "PraisedFieldsModel" "PraisedFieldsModel" "pos" "I", .soleField "PraisedFieldsModel" "pos", .lays "PraisedFieldsModel" "PraisedFieldsModel" "begun" "I", .soleField "PraisedFieldsModel" "begun", .lays "PraisedFieldsModel" "PraisedFieldsModel" "sort" "I", .soleField "PraisedFieldsModel" "sort", .lays "PraisedFieldsModel" "PraisedFieldsModel" "value" "I", .soleField "PraisedFieldsModel" "value", .lays "PraisedFieldsModel" "PraisedFieldsModel" "fault" "I"] : List Cond) = ((tables_1_4).drop 64).take 32 := rfl
  rw [h1] at h
  have h4 := List.mem_of_mem_drop (List.mem_of_mem_take h)
  exact List.mem_filter.mpr ⟨List.mem_append_right _ (List.mem_append_right _ (List.mem_append_right _ (List.mem_append_right _ (List.mem_append_left _ h4)))), h3⟩
theorem zg_4_3 : ∀ w ∈ ([.soleField "PraisedFieldsModel" "fault", .lays "PraisedFieldsModel" "PraisedFieldsModel" "wrongAt" "I", .soleField "PraisedFieldsModel" "wrongAt", .lays "PraisedFieldsModel" "PraisedFieldsModel" "quiet" "I", .soleField "PraisedFieldsModel" "quiet", .lays "PraisedFieldsModel" "PraisedFieldsModel" "fines" "I", .soleField "PraisedFieldsModel" "fines", .lays "PraisedFieldsModel" "PraisedFieldsModel" "bestCode" "I", .soleField "PraisedFieldsModel" "bestCode", .lays "PraisedFieldsModel" "PraisedFieldsModel" "bestMuch" "I", .soleField "PraisedFieldsModel" "bestMuch", .laysFinal "PraisedFieldsModel" "PraisedFieldsModel" "bestRow" "[I", .soleField "PraisedFieldsModel" "bestRow", .lays "PraisedFieldsModel" "PraisedFieldsModel" "fullSum" "J", .soleField "PraisedFieldsModel" "fullSum", .lays "PraisedFieldsModel" "PraisedFieldsModel" "earSum" "J", .soleField "PraisedFieldsModel" "earSum", .lays "PraisedFieldsModel" "PraisedFieldsModel" "allWays" "J", .soleField "PraisedFieldsModel" "allWays", .laysFinal "PraisedFieldsModel" "PraisedFieldsModel" "had" "[I", .soleField "PraisedFieldsModel" "had", .laysFinal "PraisedFieldsModel" "PraisedFieldsModel" "byBlight" "[I", .soleField "PraisedFieldsModel" "byBlight", .laysFinal "PraisedFieldsModel" "PraisedFieldsModel" "lanes" "[I", .soleField "PraisedFieldsModel" "lanes", .laysFinal "PraisedFieldsModel" "PraisedFieldsModel" "sizes" "[I", .soleField "PraisedFieldsModel" "sizes", .laysFinal "PraisedFieldsModel" "PraisedFieldsModel" "cells" "[I", .soleField "PraisedFieldsModel" "cells", .lays "PraisedFieldsModel" "PraisedFieldsModel" "torn" "I", .soleField "PraisedFieldsModel" "torn", .laysFinal "PraisedFieldsModel" "PraisedFieldsModel" "before" "[I"] : List Cond), zok w = true → w ∈ zW := fun w h h3 => by
  have h1 : ([.soleField "PraisedFieldsModel" "fault", .lays "PraisedFieldsModel" "PraisedFieldsModel" "wrongAt" "I", .soleField "PraisedFieldsModel" "wrongAt", .lays "PraisedFieldsModel" "PraisedFieldsModel" "quiet" "I", .soleField "PraisedFieldsModel" "quiet", .lays "PraisedFieldsModel" "PraisedFieldsModel" "fines" "I", .soleField "PraisedFieldsModel" "fines", .lays "PraisedFieldsModel" "PraisedFieldsModel" "bestCode" "I", .soleField "PraisedFieldsModel" "bestCode", .lays "PraisedFieldsModel" "PraisedFieldsModel" "bestMuch" "I", .soleField "PraisedFieldsModel" "bestMuch", .laysFinal "PraisedFieldsModel" "PraisedFieldsModel" "bestRow" "[I", .soleField "PraisedFieldsModel" "bestRow", .lays "PraisedFieldsModel" "PraisedFieldsModel" "fullSum" "J", .soleField "PraisedFieldsModel" "fullSum", .lays "PraisedFieldsModel" "PraisedFieldsModel" "earSum" "J", .soleField "PraisedFieldsModel" "earSum", .lays "PraisedFieldsModel" "PraisedFieldsModel" "allWays" "J", .soleField "PraisedFieldsModel" "allWays", .laysFinal "PraisedFieldsModel" "PraisedFieldsModel" "had" "[I", .soleField "PraisedFieldsModel" "had", .laysFinal "PraisedFieldsModel" "PraisedFieldsModel" "byBlight" "[I", .soleField "PraisedFieldsModel" "byBlight", .laysFinal "PraisedFieldsModel" "PraisedFieldsModel" "lanes" "[I", .soleField "PraisedFieldsModel" "lanes", .laysFinal "PraisedFieldsModel" "PraisedFieldsModel" "sizes" "[I", .soleField "PraisedFieldsModel" "sizes", .laysFinal "PraisedFieldsModel" "PraisedFieldsModel" "cells" "[I", .soleField "PraisedFieldsModel" "cells", .lays "PraisedFieldsModel" "PraisedFieldsModel" "torn" "I", .soleField "PraisedFieldsModel" "torn", .laysFinal "PraisedFieldsModel" "PraisedFieldsModel" "before" "[I"] : List Cond) = ((tables_1_4).drop 96).take 32 := rfl
  rw [h1] at h
  have h4 := List.mem_of_mem_drop (List.mem_of_mem_take h)
  exact List.mem_filter.mpr ⟨List.mem_append_right _ (List.mem_append_right _ (List.mem_append_right _ (List.mem_append_right _ (List.mem_append_left _ h4)))), h3⟩
theorem zg_4_4 : ∀ w ∈ ([.soleField "PraisedFieldsModel" "before", .superclass "PraisedFieldsModel" "java/lang/Object", .methodLink "PraisedFieldsLaw" 17 yX7_feed, .instanceMethod yX7_feed, .selects "PraisedFieldsModel" yX7_feed yX7_feed, .code yX7_feed prog_9_method_8_code 2 (some .int), .constantLong "PraisedFieldsModel" 61 127, .methodLink "PraisedFieldsModel" 63 yX7_in, .static yX7_in, .code yX7_in prog_9_method_3_code 6 (some .boolean), .methodLink "PraisedFieldsLaw" 21 yX7_end, .instanceMethod yX7_end, .selects "PraisedFieldsModel" yX7_end yX7_end, .code yX7_end prog_9_method_9_code 3 (some .int), .methodLink "PraisedFieldsLaw" 26 yX7_text, .instanceMethod yX7_text, .selects "PraisedFieldsModel" yX7_text yX7_text, .code yX7_text prog_9_method_20_code 2 (some .int), .methodLink "PraisedFieldsModel" 112 yX7_reads, .privateMethod yX7_reads, .instanceMethod yX7_reads, .code yX7_reads prog_9_method_15_code 2 none, .methodLink "PraisedFieldsModel" 82 yX7_byteAt, .privateMethod yX7_byteAt, .instanceMethod yX7_byteAt, .code yX7_byteAt prog_9_method_11_code 2 (some .int), .constantLong "PraisedFieldsModel" 97 97, .constantLong "PraisedFieldsModel" 99 122, .constantLong "PraisedFieldsModel" 101 48, .constantLong "PraisedFieldsModel" 103 57, .methodLink "PraisedFieldsModel" 108 yX7_requires, .privateMethod yX7_requires] : List Cond), zok w = true → w ∈ zW := fun w h h3 => by
  have h1 : ([.soleField "PraisedFieldsModel" "before", .superclass "PraisedFieldsModel" "java/lang/Object", .methodLink "PraisedFieldsLaw" 17 yX7_feed, .instanceMethod yX7_feed, .selects "PraisedFieldsModel" yX7_feed yX7_feed, .code yX7_feed prog_9_method_8_code 2 (some .int), .constantLong "PraisedFieldsModel" 61 127, .methodLink "PraisedFieldsModel" 63 yX7_in, .static yX7_in, .code yX7_in prog_9_method_3_code 6 (some .boolean), .methodLink "PraisedFieldsLaw" 21 yX7_end, .instanceMethod yX7_end, .selects "PraisedFieldsModel" yX7_end yX7_end, .code yX7_end prog_9_method_9_code 3 (some .int), .methodLink "PraisedFieldsLaw" 26 yX7_text, .instanceMethod yX7_text, .selects "PraisedFieldsModel" yX7_text yX7_text, .code yX7_text prog_9_method_20_code 2 (some .int), .methodLink "PraisedFieldsModel" 112 yX7_reads, .privateMethod yX7_reads, .instanceMethod yX7_reads, .code yX7_reads prog_9_method_15_code 2 none, .methodLink "PraisedFieldsModel" 82 yX7_byteAt, .privateMethod yX7_byteAt, .instanceMethod yX7_byteAt, .code yX7_byteAt prog_9_method_11_code 2 (some .int), .constantLong "PraisedFieldsModel" 97 97, .constantLong "PraisedFieldsModel" 99 122, .constantLong "PraisedFieldsModel" 101 48, .constantLong "PraisedFieldsModel" 103 57, .methodLink "PraisedFieldsModel" 108 yX7_requires, .privateMethod yX7_requires] : List Cond) = ((tables_1_4).drop 128).take 32 := rfl
  rw [h1] at h
  have h4 := List.mem_of_mem_drop (List.mem_of_mem_take h)
  exact List.mem_filter.mpr ⟨List.mem_append_right _ (List.mem_append_right _ (List.mem_append_right _ (List.mem_append_right _ (List.mem_append_left _ h4)))), h3⟩
theorem zg_4_5 : ∀ w ∈ ([.instanceMethod yX7_requires, .code yX7_requires prog_9_method_10_code 3 none, .methodLink "PraisedFieldsModel" 130 yX7_readLine, .privateMethod yX7_readLine, .instanceMethod yX7_readLine, .code yX7_readLine prog_9_method_19_code 2 none, .methodLink "PraisedFieldsModel" 122 yX7_lineNow, .privateMethod yX7_lineNow, .instanceMethod yX7_lineNow, .code yX7_lineNow prog_9_method_14_code 1 (some .int), .methodLink "PraisedFieldsModel" 86 yX7_is, .privateMethod yX7_is, .instanceMethod yX7_is, .code yX7_is prog_9_method_12_code 5 (some .boolean), .methodLink "PraisedFieldsModel" 90 yX7_endsIn, .privateMethod yX7_endsIn, .instanceMethod yX7_endsIn, .code yX7_endsIn prog_9_method_13_code 3 (some .boolean), .methodLink "PraisedFieldsModel" 126 yX7_readLineOf, .privateMethod yX7_readLineOf, .instanceMethod yX7_readLineOf, .code yX7_readLineOf prog_9_method_18_code 2 none, .methodLink "PraisedFieldsModel" 119 yX7_readBand, .privateMethod yX7_readBand, .instanceMethod yX7_readBand, .code yX7_readBand prog_9_method_17_code 2 none, .methodLink "PraisedFieldsModel" 115 yX7_readNumber, .privateMethod yX7_readNumber, .instanceMethod yX7_readNumber, .code yX7_readNumber prog_9_method_16_code 4 (some .int), .methodLink "PraisedFieldsLaw" 30 yX7_fault, .instanceMethod yX7_fault] : List Cond), zok w = true → w ∈ zW := fun w h h3 => by
  have h1 : ([.instanceMethod yX7_requires, .code yX7_requires prog_9_method_10_code 3 none, .methodLink "PraisedFieldsModel" 130 yX7_readLine, .privateMethod yX7_readLine, .instanceMethod yX7_readLine, .code yX7_readLine prog_9_method_19_code 2 none, .methodLink "PraisedFieldsModel" 122 yX7_lineNow, .privateMethod yX7_lineNow, .instanceMethod yX7_lineNow, .code yX7_lineNow prog_9_method_14_code 1 (some .int), .methodLink "PraisedFieldsModel" 86 yX7_is, .privateMethod yX7_is, .instanceMethod yX7_is, .code yX7_is prog_9_method_12_code 5 (some .boolean), .methodLink "PraisedFieldsModel" 90 yX7_endsIn, .privateMethod yX7_endsIn, .instanceMethod yX7_endsIn, .code yX7_endsIn prog_9_method_13_code 3 (some .boolean), .methodLink "PraisedFieldsModel" 126 yX7_readLineOf, .privateMethod yX7_readLineOf, .instanceMethod yX7_readLineOf, .code yX7_readLineOf prog_9_method_18_code 2 none, .methodLink "PraisedFieldsModel" 119 yX7_readBand, .privateMethod yX7_readBand, .instanceMethod yX7_readBand, .code yX7_readBand prog_9_method_17_code 2 none, .methodLink "PraisedFieldsModel" 115 yX7_readNumber, .privateMethod yX7_readNumber, .instanceMethod yX7_readNumber, .code yX7_readNumber prog_9_method_16_code 4 (some .int), .methodLink "PraisedFieldsLaw" 30 yX7_fault, .instanceMethod yX7_fault] : List Cond) = ((tables_1_4).drop 160).take 32 := rfl
  rw [h1] at h
  have h4 := List.mem_of_mem_drop (List.mem_of_mem_take h)
  exact List.mem_filter.mpr ⟨List.mem_append_right _ (List.mem_append_right _ (List.mem_append_right _ (List.mem_append_right _ (List.mem_append_left _ h4)))), h3⟩
theorem zg_4_6 : ∀ w ∈ ([.selects "PraisedFieldsModel" yX7_fault yX7_fault, .code yX7_fault prog_9_method_21_code 1 (some .int), .methodLink "PraisedFieldsLaw" 34 yX7_rule, .instanceMethod yX7_rule, .selects "PraisedFieldsModel" yX7_rule yX7_rule, .code yX7_rule prog_9_method_41_code 4 (some .int), .methodLink "PraisedFieldsModel" 180 yX7_starts, .privateMethod yX7_starts, .instanceMethod yX7_starts, .code yX7_starts prog_9_method_26_code 2 none, .methodLink "PraisedFieldsModel" 144 yX7_heardAt, .privateMethod yX7_heardAt, .instanceMethod yX7_heardAt, .code yX7_heardAt prog_9_method_32_code 4 (some .int), .methodLink "PraisedFieldsModel" 141 yX7_ofBand, .privateMethod yX7_ofBand, .instanceMethod yX7_ofBand, .code yX7_ofBand prog_9_method_30_code 3 (some .int), .methodLink "PraisedFieldsModel" 176 yX7_flag, .static yX7_flag, .code yX7_flag prog_9_method_4_code 1 (some .int), .methodLink "PraisedFieldsModel" 173 yX7_sumOf, .privateMethod yX7_sumOf, .instanceMethod yX7_sumOf, .code yX7_sumOf prog_9_method_38_code 4 (some .int), .methodLink "PraisedFieldsModel" 147 yX7_of, .privateMethod yX7_of, .instanceMethod yX7_of, .code yX7_of prog_9_method_28_code 3 (some .int), .methodLink "PraisedFieldsLaw" 39 yX7_field, .instanceMethod yX7_field, .selects "PraisedFieldsModel" yX7_field yX7_field] : List Cond), zok w = true → w ∈ zW := fun w h h3 => by
  have h1 : ([.selects "PraisedFieldsModel" yX7_fault yX7_fault, .code yX7_fault prog_9_method_21_code 1 (some .int), .methodLink "PraisedFieldsLaw" 34 yX7_rule, .instanceMethod yX7_rule, .selects "PraisedFieldsModel" yX7_rule yX7_rule, .code yX7_rule prog_9_method_41_code 4 (some .int), .methodLink "PraisedFieldsModel" 180 yX7_starts, .privateMethod yX7_starts, .instanceMethod yX7_starts, .code yX7_starts prog_9_method_26_code 2 none, .methodLink "PraisedFieldsModel" 144 yX7_heardAt, .privateMethod yX7_heardAt, .instanceMethod yX7_heardAt, .code yX7_heardAt prog_9_method_32_code 4 (some .int), .methodLink "PraisedFieldsModel" 141 yX7_ofBand, .privateMethod yX7_ofBand, .instanceMethod yX7_ofBand, .code yX7_ofBand prog_9_method_30_code 3 (some .int), .methodLink "PraisedFieldsModel" 176 yX7_flag, .static yX7_flag, .code yX7_flag prog_9_method_4_code 1 (some .int), .methodLink "PraisedFieldsModel" 173 yX7_sumOf, .privateMethod yX7_sumOf, .instanceMethod yX7_sumOf, .code yX7_sumOf prog_9_method_38_code 4 (some .int), .methodLink "PraisedFieldsModel" 147 yX7_of, .privateMethod yX7_of, .instanceMethod yX7_of, .code yX7_of prog_9_method_28_code 3 (some .int), .methodLink "PraisedFieldsLaw" 39 yX7_field, .instanceMethod yX7_field, .selects "PraisedFieldsModel" yX7_field yX7_field] : List Cond) = ((tables_1_4).drop 192).take 32 := rfl
  rw [h1] at h
  have h4 := List.mem_of_mem_drop (List.mem_of_mem_take h)
  exact List.mem_filter.mpr ⟨List.mem_append_right _ (List.mem_append_right _ (List.mem_append_right _ (List.mem_append_right _ (List.mem_append_left _ h4)))), h3⟩
theorem zg_4_7 : ∀ w ∈ ([.code yX7_field prog_9_method_42_code 3 (some .int), .methodLink "PraisedFieldsModel" 183 yX7_isField, .privateMethod yX7_isField, .instanceMethod yX7_isField, .code yX7_isField prog_9_method_22_code 2 (some .boolean), .methodLink "PraisedFieldsModel" 150 yX7_growsBy, .privateMethod yX7_growsBy, .instanceMethod yX7_growsBy, .code yX7_growsBy prog_9_method_33_code 3 (some .int), .methodLink "PraisedFieldsModel" 160 yX7_heeds, .privateMethod yX7_heeds, .instanceMethod yX7_heeds, .code yX7_heeds prog_9_method_34_code 3 (some .int), .methodLink "PraisedFieldsLaw" 43 yX7_band, .instanceMethod yX7_band, .selects "PraisedFieldsModel" yX7_band yX7_band] : List Cond), zok w = true → w ∈ zW := fun w h h3 => by
  have h1 : ([.code yX7_field prog_9_method_42_code 3 (some .int), .methodLink "PraisedFieldsModel" 183 yX7_isField, .privateMethod yX7_isField, .instanceMethod yX7_isField, .code yX7_isField prog_9_method_22_code 2 (some .boolean), .methodLink "PraisedFieldsModel" 150 yX7_growsBy, .privateMethod yX7_growsBy, .instanceMethod yX7_growsBy, .code yX7_growsBy prog_9_method_33_code 3 (some .int), .methodLink "PraisedFieldsModel" 160 yX7_heeds, .privateMethod yX7_heeds, .instanceMethod yX7_heeds, .code yX7_heeds prog_9_method_34_code 3 (some .int), .methodLink "PraisedFieldsLaw" 43 yX7_band, .instanceMethod yX7_band, .selects "PraisedFieldsModel" yX7_band yX7_band] : List Cond) = ((tables_1_4).drop 224).take 32 := rfl
  rw [h1] at h
  have h4 := List.mem_of_mem_drop (List.mem_of_mem_take h)
  exact List.mem_filter.mpr ⟨List.mem_append_right _ (List.mem_append_right _ (List.mem_append_right _ (List.mem_append_right _ (List.mem_append_left _ h4)))), h3⟩
theorem zg_5_0 : ∀ w ∈ ([.code yX7_band prog_9_method_43_code 3 (some .int), .methodLink "PraisedFieldsModel" 187 yX7_isBand, .privateMethod yX7_isBand, .instanceMethod yX7_isBand, .code yX7_isBand prog_9_method_23_code 2 (some .boolean), .methodLink "PraisedFieldsModel" 190 yX7_isPart, .static yX7_isPart, .code yX7_isPart prog_9_method_24_code 1 (some .boolean), .methodLink "PraisedFieldsLaw" 48 yX7_alter, .instanceMethod yX7_alter, .selects "PraisedFieldsModel" yX7_alter yX7_alter, .code yX7_alter prog_9_method_45_code 5 (some .int), .constantLong "PraisedFieldsModel" 193 3, .methodLink "PraisedFieldsModel" 195 yX7_areEars, .static yX7_areEars, .code yX7_areEars prog_9_method_25_code 1 (some .boolean), .constantLong "PraisedFieldsModel" 133 99, .constantLong "PraisedFieldsModel" 198 9, .methodLink "PraisedFieldsModel" 200 yX7_becomes, .privateMethod yX7_becomes, .instanceMethod yX7_becomes, .code yX7_becomes prog_9_method_44_code 4 (some .int), .methodLink "PraisedFieldsLaw" 52 yX7_march, .instanceMethod yX7_march, .selects "PraisedFieldsModel" yX7_march yX7_march, .code yX7_march prog_9_method_46_code 3 (some .int), .methodLink "PraisedFieldsLaw" 56 yX7_play, .instanceMethod yX7_play, .selects "PraisedFieldsModel" yX7_play yX7_play, .code yX7_play prog_9_method_47_code 3 (some .int), .methodLink "PraisedFieldsLaw" 60 yX7_glut, .instanceMethod yX7_glut] : List Cond), zok w = true → w ∈ zW := fun w h h3 => by
  have h1 : ([.code yX7_band prog_9_method_43_code 3 (some .int), .methodLink "PraisedFieldsModel" 187 yX7_isBand, .privateMethod yX7_isBand, .instanceMethod yX7_isBand, .code yX7_isBand prog_9_method_23_code 2 (some .boolean), .methodLink "PraisedFieldsModel" 190 yX7_isPart, .static yX7_isPart, .code yX7_isPart prog_9_method_24_code 1 (some .boolean), .methodLink "PraisedFieldsLaw" 48 yX7_alter, .instanceMethod yX7_alter, .selects "PraisedFieldsModel" yX7_alter yX7_alter, .code yX7_alter prog_9_method_45_code 5 (some .int), .constantLong "PraisedFieldsModel" 193 3, .methodLink "PraisedFieldsModel" 195 yX7_areEars, .static yX7_areEars, .code yX7_areEars prog_9_method_25_code 1 (some .boolean), .constantLong "PraisedFieldsModel" 133 99, .constantLong "PraisedFieldsModel" 198 9, .methodLink "PraisedFieldsModel" 200 yX7_becomes, .privateMethod yX7_becomes, .instanceMethod yX7_becomes, .code yX7_becomes prog_9_method_44_code 4 (some .int), .methodLink "PraisedFieldsLaw" 52 yX7_march, .instanceMethod yX7_march, .selects "PraisedFieldsModel" yX7_march yX7_march, .code yX7_march prog_9_method_46_code 3 (some .int), .methodLink "PraisedFieldsLaw" 56 yX7_play, .instanceMethod yX7_play, .selects "PraisedFieldsModel" yX7_play yX7_play, .code yX7_play prog_9_method_47_code 3 (some .int), .methodLink "PraisedFieldsLaw" 60 yX7_glut, .instanceMethod yX7_glut] : List Cond) = ((tables_1_5).drop 0).take 32 := rfl
  rw [h1] at h
  have h4 := List.mem_of_mem_drop (List.mem_of_mem_take h)
  exact List.mem_filter.mpr ⟨List.mem_append_right _ (List.mem_append_right _ (List.mem_append_right _ (List.mem_append_right _ (List.mem_append_right _ (h4))))), h3⟩
theorem zg_5_1 : ∀ w ∈ ([.selects "PraisedFieldsModel" yX7_glut yX7_glut, .code yX7_glut prog_9_method_48_code 2 (some .int), .methodLink "PraisedFieldsLaw" 64 yX7_hire, .instanceMethod yX7_hire, .selects "PraisedFieldsModel" yX7_hire yX7_hire, .code yX7_hire prog_9_method_49_code 3 (some .int), .methodLink "PraisedFieldsLaw" 68 yX7_leave, .instanceMethod yX7_leave, .selects "PraisedFieldsModel" yX7_leave yX7_leave, .code yX7_leave prog_9_method_50_code 2 (some .int), .methodLink "PraisedFieldsLaw" 72 yX7_weeks, .instanceMethod yX7_weeks, .selects "PraisedFieldsModel" yX7_weeks yX7_weeks, .code yX7_weeks prog_9_method_51_code 3 (some .int), .constantLong "PraisedFieldsModel" 203 30, .methodLink "PraisedFieldsModel" 205 yX7_earsBehind, .privateMethod yX7_earsBehind, .instanceMethod yX7_earsBehind, .code yX7_earsBehind prog_9_method_39_code 2 (some .int), .methodLink "PraisedFieldsModel" 170 yX7_weeksGo, .privateMethod yX7_weeksGo, .instanceMethod yX7_weeksGo, .code yX7_weeksGo prog_9_method_37_code 3 none, .methodLink "PraisedFieldsModel" 166 yX7_weekGoes, .privateMethod yX7_weekGoes, .instanceMethod yX7_weekGoes, .code yX7_weekGoes prog_9_method_36_code 3 none, .methodLink "PraisedFieldsModel" 153 yX7_within, .static yX7_within, .code yX7_within prog_9_method_5_code 2 (some .int), .methodLink "PraisedFieldsModel" 156 yX7_becomesOf, .privateMethod yX7_becomesOf] : List Cond), zok w = true → w ∈ zW := fun w h h3 => by
  have h1 : ([.selects "PraisedFieldsModel" yX7_glut yX7_glut, .code yX7_glut prog_9_method_48_code 2 (some .int), .methodLink "PraisedFieldsLaw" 64 yX7_hire, .instanceMethod yX7_hire, .selects "PraisedFieldsModel" yX7_hire yX7_hire, .code yX7_hire prog_9_method_49_code 3 (some .int), .methodLink "PraisedFieldsLaw" 68 yX7_leave, .instanceMethod yX7_leave, .selects "PraisedFieldsModel" yX7_leave yX7_leave, .code yX7_leave prog_9_method_50_code 2 (some .int), .methodLink "PraisedFieldsLaw" 72 yX7_weeks, .instanceMethod yX7_weeks, .selects "PraisedFieldsModel" yX7_weeks yX7_weeks, .code yX7_weeks prog_9_method_51_code 3 (some .int), .constantLong "PraisedFieldsModel" 203 30, .methodLink "PraisedFieldsModel" 205 yX7_earsBehind, .privateMethod yX7_earsBehind, .instanceMethod yX7_earsBehind, .code yX7_earsBehind prog_9_method_39_code 2 (some .int), .methodLink "PraisedFieldsModel" 170 yX7_weeksGo, .privateMethod yX7_weeksGo, .instanceMethod yX7_weeksGo, .code yX7_weeksGo prog_9_method_37_code 3 none, .methodLink "PraisedFieldsModel" 166 yX7_weekGoes, .privateMethod yX7_weekGoes, .instanceMethod yX7_weekGoes, .code yX7_weekGoes prog_9_method_36_code 3 none, .methodLink "PraisedFieldsModel" 153 yX7_within, .static yX7_within, .code yX7_within prog_9_method_5_code 2 (some .int), .methodLink "PraisedFieldsModel" 156 yX7_becomesOf, .privateMethod yX7_becomesOf] : List Cond) = ((tables_1_5).drop 32).take 32 := rfl
  rw [h1] at h
  have h4 := List.mem_of_mem_drop (List.mem_of_mem_take h)
  exact List.mem_filter.mpr ⟨List.mem_append_right _ (List.mem_append_right _ (List.mem_append_right _ (List.mem_append_right _ (List.mem_append_right _ (h4))))), h3⟩
theorem zg_5_2 : ∀ w ∈ ([.instanceMethod yX7_becomesOf, .code yX7_becomesOf prog_9_method_29_code 4 none, .methodLink "PraisedFieldsModel" 163 yX7_fieldGoes, .privateMethod yX7_fieldGoes, .instanceMethod yX7_fieldGoes, .code yX7_fieldGoes prog_9_method_35_code 3 none, .methodLink "PraisedFieldsModel" 208 yX7_settles, .privateMethod yX7_settles, .instanceMethod yX7_settles, .code yX7_settles prog_9_method_27_code 2 none, .methodLink "PraisedFieldsLaw" 76 yX7_runs, .instanceMethod yX7_runs, .selects "PraisedFieldsModel" yX7_runs yX7_runs, .code yX7_runs prog_9_method_53_code 3 (some .int), .methodLink "PraisedFieldsModel" 213 yX7_isFar, .static yX7_isFar, .code yX7_isFar prog_9_method_52_code 1 (some .boolean), .constantLong "PraisedFieldsModel" 211 60, .constantLong "PraisedFieldsModel" 216 4, .methodLink "PraisedFieldsModel" 218 yX7_emptyNow, .privateMethod yX7_emptyNow, .instanceMethod yX7_emptyNow, .code yX7_emptyNow prog_9_method_40_code 3 (some .int), .methodLink "PraisedFieldsLaw" 80 yX7_ahead, .instanceMethod yX7_ahead, .selects "PraisedFieldsModel" yX7_ahead yX7_ahead, .code yX7_ahead prog_9_method_54_code 4 (some .int), .methodLink "PraisedFieldsLaw" 84 yX7_late, .instanceMethod yX7_late, .selects "PraisedFieldsModel" yX7_late yX7_late, .code yX7_late prog_9_method_55_code 4 (some .int), .methodLink "PraisedFieldsLaw" 88 yX7_order] : List Cond), zok w = true → w ∈ zW := fun w h h3 => by
  have h1 : ([.instanceMethod yX7_becomesOf, .code yX7_becomesOf prog_9_method_29_code 4 none, .methodLink "PraisedFieldsModel" 163 yX7_fieldGoes, .privateMethod yX7_fieldGoes, .instanceMethod yX7_fieldGoes, .code yX7_fieldGoes prog_9_method_35_code 3 none, .methodLink "PraisedFieldsModel" 208 yX7_settles, .privateMethod yX7_settles, .instanceMethod yX7_settles, .code yX7_settles prog_9_method_27_code 2 none, .methodLink "PraisedFieldsLaw" 76 yX7_runs, .instanceMethod yX7_runs, .selects "PraisedFieldsModel" yX7_runs yX7_runs, .code yX7_runs prog_9_method_53_code 3 (some .int), .methodLink "PraisedFieldsModel" 213 yX7_isFar, .static yX7_isFar, .code yX7_isFar prog_9_method_52_code 1 (some .boolean), .constantLong "PraisedFieldsModel" 211 60, .constantLong "PraisedFieldsModel" 216 4, .methodLink "PraisedFieldsModel" 218 yX7_emptyNow, .privateMethod yX7_emptyNow, .instanceMethod yX7_emptyNow, .code yX7_emptyNow prog_9_method_40_code 3 (some .int), .methodLink "PraisedFieldsLaw" 80 yX7_ahead, .instanceMethod yX7_ahead, .selects "PraisedFieldsModel" yX7_ahead yX7_ahead, .code yX7_ahead prog_9_method_54_code 4 (some .int), .methodLink "PraisedFieldsLaw" 84 yX7_late, .instanceMethod yX7_late, .selects "PraisedFieldsModel" yX7_late yX7_late, .code yX7_late prog_9_method_55_code 4 (some .int), .methodLink "PraisedFieldsLaw" 88 yX7_order] : List Cond) = ((tables_1_5).drop 64).take 32 := rfl
  rw [h1] at h
  have h4 := List.mem_of_mem_drop (List.mem_of_mem_take h)
  exact List.mem_filter.mpr ⟨List.mem_append_right _ (List.mem_append_right _ (List.mem_append_right _ (List.mem_append_right _ (List.mem_append_right _ (h4))))), h3⟩
theorem zg_5_3 : ∀ w ∈ ([.instanceMethod yX7_order, .selects "PraisedFieldsModel" yX7_order yX7_order, .code yX7_order prog_9_method_60_code 2 (some .int), .constantLong "PraisedFieldsModel" 237 10, .constantLong "PraisedFieldsModel" 239 13, .methodLink "PraisedFieldsModel" 241 yX7_findOrder, .privateMethod yX7_findOrder, .instanceMethod yX7_findOrder, .code yX7_findOrder prog_9_method_59_code 6 none, .methodLink "PraisedFieldsModel" 227 yX7_startsJudging, .privateMethod yX7_startsJudging, .instanceMethod yX7_startsJudging, .code yX7_startsJudging prog_9_method_56_code 2 none, .methodLink "PraisedFieldsModel" 230 yX7_bandBecomes, .privateMethod yX7_bandBecomes, .instanceMethod yX7_bandBecomes, .code yX7_bandBecomes prog_9_method_31_code 4 none, .methodLink "PraisedFieldsModel" 233 yX7_judges, .privateMethod yX7_judges, .instanceMethod yX7_judges, .code yX7_judges prog_9_method_57_code 3 none, .methodLink "PraisedFieldsLaw" 92 yX7_move, .instanceMethod yX7_move, .selects "PraisedFieldsModel" yX7_move yX7_move, .code yX7_move prog_9_method_61_code 5 (some .int), .methodLink "PraisedFieldsModel" 244 yX7_judged, .privateMethod yX7_judged, .instanceMethod yX7_judged, .code yX7_judged prog_9_method_58_code 2 (some .int), .methodLink "PraisedFieldsLaw" 96 yX7_still, .instanceMethod yX7_still, .selects "PraisedFieldsModel" yX7_still yX7_still] : List Cond), zok w = true → w ∈ zW := fun w h h3 => by
  have h1 : ([.instanceMethod yX7_order, .selects "PraisedFieldsModel" yX7_order yX7_order, .code yX7_order prog_9_method_60_code 2 (some .int), .constantLong "PraisedFieldsModel" 237 10, .constantLong "PraisedFieldsModel" 239 13, .methodLink "PraisedFieldsModel" 241 yX7_findOrder, .privateMethod yX7_findOrder, .instanceMethod yX7_findOrder, .code yX7_findOrder prog_9_method_59_code 6 none, .methodLink "PraisedFieldsModel" 227 yX7_startsJudging, .privateMethod yX7_startsJudging, .instanceMethod yX7_startsJudging, .code yX7_startsJudging prog_9_method_56_code 2 none, .methodLink "PraisedFieldsModel" 230 yX7_bandBecomes, .privateMethod yX7_bandBecomes, .instanceMethod yX7_bandBecomes, .code yX7_bandBecomes prog_9_method_31_code 4 none, .methodLink "PraisedFieldsModel" 233 yX7_judges, .privateMethod yX7_judges, .instanceMethod yX7_judges, .code yX7_judges prog_9_method_57_code 3 none, .methodLink "PraisedFieldsLaw" 92 yX7_move, .instanceMethod yX7_move, .selects "PraisedFieldsModel" yX7_move yX7_move, .code yX7_move prog_9_method_61_code 5 (some .int), .methodLink "PraisedFieldsModel" 244 yX7_judged, .privateMethod yX7_judged, .instanceMethod yX7_judged, .code yX7_judged prog_9_method_58_code 2 (some .int), .methodLink "PraisedFieldsLaw" 96 yX7_still, .instanceMethod yX7_still, .selects "PraisedFieldsModel" yX7_still yX7_still] : List Cond) = ((tables_1_5).drop 96).take 32 := rfl
  rw [h1] at h
  have h4 := List.mem_of_mem_drop (List.mem_of_mem_take h)
  exact List.mem_filter.mpr ⟨List.mem_append_right _ (List.mem_append_right _ (List.mem_append_right _ (List.mem_append_right _ (List.mem_append_right _ (h4))))), h3⟩
theorem zg_5_4 : ∀ w ∈ ([.code yX7_still prog_9_method_62_code 4 (some .int), .methodLink "PraisedFieldsLaw" 100 yX7_need, .instanceMethod yX7_need, .selects "PraisedFieldsModel" yX7_need yX7_need, .code yX7_need prog_9_method_63_code 5 (some .int), .methodLink "PraisedFieldsLaw" 104 yX7_swap, .instanceMethod yX7_swap, .selects "PraisedFieldsModel" yX7_swap yX7_swap, .code yX7_swap prog_9_method_64_code 7 (some .int), .methodLink "PraisedFieldsLaw" 108 yX7_bear, .instanceMethod yX7_bear, .selects "PraisedFieldsModel" yX7_bear yX7_bear, .code yX7_bear prog_9_method_65_code 5 (some .int), .methodLink "PraisedFieldsLaw" 112 yX7_kind, .instanceMethod yX7_kind, .selects "PraisedFieldsModel" yX7_kind yX7_kind, .code yX7_kind prog_9_method_66_code 5 (some .int), .methodLink "PraisedFieldsLaw" 117 yX7_luck, .instanceMethod yX7_luck, .selects "PraisedFieldsModel" yX7_luck yX7_luck, .code yX7_luck prog_9_method_70_code 6 (some .long), .constantLong "PraisedFieldsModel" 261 8, .constantLong "PraisedFieldsModel" 263 (-1), .methodLink "PraisedFieldsModel" 265 yX7_findOdds, .privateMethod yX7_findOdds, .instanceMethod yX7_findOdds, .code yX7_findOdds prog_9_method_69_code 10 none, .methodLink "PraisedFieldsModel" 269 yX7_lowest, .static yX7_lowest, .code yX7_lowest prog_9_method_68_code 7 (some .long), .methodLink "PraisedFieldsModel" 247 yX7_common, .static yX7_common] : List Cond), zok w = true → w ∈ zW := fun w h h3 => by
  have h1 : ([.code yX7_still prog_9_method_62_code 4 (some .int), .methodLink "PraisedFieldsLaw" 100 yX7_need, .instanceMethod yX7_need, .selects "PraisedFieldsModel" yX7_need yX7_need, .code yX7_need prog_9_method_63_code 5 (some .int), .methodLink "PraisedFieldsLaw" 104 yX7_swap, .instanceMethod yX7_swap, .selects "PraisedFieldsModel" yX7_swap yX7_swap, .code yX7_swap prog_9_method_64_code 7 (some .int), .methodLink "PraisedFieldsLaw" 108 yX7_bear, .instanceMethod yX7_bear, .selects "PraisedFieldsModel" yX7_bear yX7_bear, .code yX7_bear prog_9_method_65_code 5 (some .int), .methodLink "PraisedFieldsLaw" 112 yX7_kind, .instanceMethod yX7_kind, .selects "PraisedFieldsModel" yX7_kind yX7_kind, .code yX7_kind prog_9_method_66_code 5 (some .int), .methodLink "PraisedFieldsLaw" 117 yX7_luck, .instanceMethod yX7_luck, .selects "PraisedFieldsModel" yX7_luck yX7_luck, .code yX7_luck prog_9_method_70_code 6 (some .long), .constantLong "PraisedFieldsModel" 261 8, .constantLong "PraisedFieldsModel" 263 (-1), .methodLink "PraisedFieldsModel" 265 yX7_findOdds, .privateMethod yX7_findOdds, .instanceMethod yX7_findOdds, .code yX7_findOdds prog_9_method_69_code 10 none, .methodLink "PraisedFieldsModel" 269 yX7_lowest, .static yX7_lowest, .code yX7_lowest prog_9_method_68_code 7 (some .long), .methodLink "PraisedFieldsModel" 247 yX7_common, .static yX7_common] : List Cond) = ((tables_1_5).drop 128).take 32 := rfl
  rw [h1] at h
  have h4 := List.mem_of_mem_drop (List.mem_of_mem_take h)
  exact List.mem_filter.mpr ⟨List.mem_append_right _ (List.mem_append_right _ (List.mem_append_right _ (List.mem_append_right _ (List.mem_append_right _ (h4))))), h3⟩
theorem zg_5_5 : ∀ w ∈ ([.code yX7_common prog_9_method_67_code 10 (some .long), .methodLink "PraisedFieldsLaw" 122 yX7_mean, .instanceMethod yX7_mean, .selects "PraisedFieldsModel" yX7_mean yX7_mean, .code yX7_mean prog_9_method_71_code 4 (some .long), .methodLink "PraisedFieldsLaw" 126 yX7_see, .instanceMethod yX7_see, .selects "PraisedFieldsModel" yX7_see yX7_see, .code yX7_see prog_9_method_72_code 5 (some .int), .constantLong "PraisedFieldsModel" 273 20, .methodLink "PraisedFieldsLaw" 130 yX7_forget, .instanceMethod yX7_forget, .selects "PraisedFieldsModel" yX7_forget yX7_forget, .code yX7_forget prog_9_method_73_code 2 (some .int), .methodLink "PraisedFieldsLaw" 134 yX7_kinds, .instanceMethod yX7_kinds, .selects "PraisedFieldsModel" yX7_kinds yX7_kinds, .code yX7_kinds prog_9_method_76_code 2 (some .int), .methodLink "PraisedFieldsModel" 278 yX7_which, .privateMethod yX7_which, .instanceMethod yX7_which, .code yX7_which prog_9_method_75_code 5 (some .int), .methodLink "PraisedFieldsModel" 275 yX7_isSoWith, .privateMethod yX7_isSoWith, .instanceMethod yX7_isSoWith, .code yX7_isSoWith prog_9_method_74_code 6 (some .boolean), .methodLink "PraisedFieldsLaw" 138 yX7_blights, .instanceMethod yX7_blights, .selects "PraisedFieldsModel" yX7_blights yX7_blights, .code yX7_blights prog_9_method_77_code 2 (some .int), .methodLink "PraisedFieldsLaw" 142 yX7_ask, .instanceMethod yX7_ask] : List Cond), zok w = true → w ∈ zW := fun w h h3 => by
  have h1 : ([.code yX7_common prog_9_method_67_code 10 (some .long), .methodLink "PraisedFieldsLaw" 122 yX7_mean, .instanceMethod yX7_mean, .selects "PraisedFieldsModel" yX7_mean yX7_mean, .code yX7_mean prog_9_method_71_code 4 (some .long), .methodLink "PraisedFieldsLaw" 126 yX7_see, .instanceMethod yX7_see, .selects "PraisedFieldsModel" yX7_see yX7_see, .code yX7_see prog_9_method_72_code 5 (some .int), .constantLong "PraisedFieldsModel" 273 20, .methodLink "PraisedFieldsLaw" 130 yX7_forget, .instanceMethod yX7_forget, .selects "PraisedFieldsModel" yX7_forget yX7_forget, .code yX7_forget prog_9_method_73_code 2 (some .int), .methodLink "PraisedFieldsLaw" 134 yX7_kinds, .instanceMethod yX7_kinds, .selects "PraisedFieldsModel" yX7_kinds yX7_kinds, .code yX7_kinds prog_9_method_76_code 2 (some .int), .methodLink "PraisedFieldsModel" 278 yX7_which, .privateMethod yX7_which, .instanceMethod yX7_which, .code yX7_which prog_9_method_75_code 5 (some .int), .methodLink "PraisedFieldsModel" 275 yX7_isSoWith, .privateMethod yX7_isSoWith, .instanceMethod yX7_isSoWith, .code yX7_isSoWith prog_9_method_74_code 6 (some .boolean), .methodLink "PraisedFieldsLaw" 138 yX7_blights, .instanceMethod yX7_blights, .selects "PraisedFieldsModel" yX7_blights yX7_blights, .code yX7_blights prog_9_method_77_code 2 (some .int), .methodLink "PraisedFieldsLaw" 142 yX7_ask, .instanceMethod yX7_ask] : List Cond) = ((tables_1_5).drop 160).take 32 := rfl
  rw [h1] at h
  have h4 := List.mem_of_mem_drop (List.mem_of_mem_take h)
  exact List.mem_filter.mpr ⟨List.mem_append_right _ (List.mem_append_right _ (List.mem_append_right _ (List.mem_append_right _ (List.mem_append_right _ (h4))))), h3⟩
theorem zg_5_6 : ∀ w ∈ ([.selects "PraisedFieldsModel" yX7_ask yX7_ask, .code yX7_ask prog_9_method_78_code 11 (some .int), .methodLink "PraisedFieldsLaw" 146 yX7_drift, .instanceMethod yX7_drift, .selects "PraisedFieldsModel" yX7_drift yX7_drift, .code yX7_drift prog_9_method_79_code 7 (some .int), .constant "PraisedFieldsModel" 281 1103515245, .methodLink "PraisedFieldsLaw" 150 yX7_keep, .instanceMethod yX7_keep, .selects "PraisedFieldsModel" yX7_keep yX7_keep, .code yX7_keep prog_9_method_81_code 3 (some .int), .methodLink "PraisedFieldsModel" 282 yX7_copies, .privateMethod yX7_copies, .instanceMethod yX7_copies, .code yX7_copies prog_9_method_80_code 4 none, .methodLink "PraisedFieldsLaw" 154 yX7_back, .instanceMethod yX7_back, .selects "PraisedFieldsModel" yX7_back yX7_back, .code yX7_back prog_9_method_82_code 2 (some .int), .methodLink "PraisedFieldsLaw" 158 yX7_sheet, .instanceMethod yX7_sheet, .selects "PraisedFieldsModel" yX7_sheet yX7_sheet, .code yX7_sheet prog_9_method_84_code 5 (some .int), .methodLink "PraisedFieldsModel" 287 yX7_isSheet, .static yX7_isSheet, .code yX7_isSheet prog_9_method_83_code 2 (some .boolean), .constantLong "PraisedFieldsModel" 285 2, .methodLink "PraisedFieldsLaw" 162 yX7_lay, .instanceMethod yX7_lay, .selects "PraisedFieldsModel" yX7_lay yX7_lay, .code yX7_lay prog_9_method_85_code 4 (some .int), .methodLink "PraisedFieldsLaw" 167 yX7_read] : List Cond), zok w = true → w ∈ zW := fun w h h3 => by
  have h1 : ([.selects "PraisedFieldsModel" yX7_ask yX7_ask, .code yX7_ask prog_9_method_78_code 11 (some .int), .methodLink "PraisedFieldsLaw" 146 yX7_drift, .instanceMethod yX7_drift, .selects "PraisedFieldsModel" yX7_drift yX7_drift, .code yX7_drift prog_9_method_79_code 7 (some .int), .constant "PraisedFieldsModel" 281 1103515245, .methodLink "PraisedFieldsLaw" 150 yX7_keep, .instanceMethod yX7_keep, .selects "PraisedFieldsModel" yX7_keep yX7_keep, .code yX7_keep prog_9_method_81_code 3 (some .int), .methodLink "PraisedFieldsModel" 282 yX7_copies, .privateMethod yX7_copies, .instanceMethod yX7_copies, .code yX7_copies prog_9_method_80_code 4 none, .methodLink "PraisedFieldsLaw" 154 yX7_back, .instanceMethod yX7_back, .selects "PraisedFieldsModel" yX7_back yX7_back, .code yX7_back prog_9_method_82_code 2 (some .int), .methodLink "PraisedFieldsLaw" 158 yX7_sheet, .instanceMethod yX7_sheet, .selects "PraisedFieldsModel" yX7_sheet yX7_sheet, .code yX7_sheet prog_9_method_84_code 5 (some .int), .methodLink "PraisedFieldsModel" 287 yX7_isSheet, .static yX7_isSheet, .code yX7_isSheet prog_9_method_83_code 2 (some .boolean), .constantLong "PraisedFieldsModel" 285 2, .methodLink "PraisedFieldsLaw" 162 yX7_lay, .instanceMethod yX7_lay, .selects "PraisedFieldsModel" yX7_lay yX7_lay, .code yX7_lay prog_9_method_85_code 4 (some .int), .methodLink "PraisedFieldsLaw" 167 yX7_read] : List Cond) = ((tables_1_5).drop 192).take 32 := rfl
  rw [h1] at h
  have h4 := List.mem_of_mem_drop (List.mem_of_mem_take h)
  exact List.mem_filter.mpr ⟨List.mem_append_right _ (List.mem_append_right _ (List.mem_append_right _ (List.mem_append_right _ (List.mem_append_right _ (h4))))), h3⟩
theorem zg_5_7 : ∀ w ∈ ([.instanceMethod yX7_read, .selects "PraisedFieldsModel" yX7_read yX7_read, .code yX7_read prog_9_method_86_code 11 (some .int), .methodLink "PraisedFieldsModel" 290 yX7_march, .methodLink "PraisedFieldsLaw" 171 yX7_torn, .instanceMethod yX7_torn, .selects "PraisedFieldsModel" yX7_torn yX7_torn, .code yX7_torn prog_9_method_87_code 1 (some .int), .methodLink "PraisedFieldsLaw" 175 yX7_count, .instanceMethod yX7_count, .selects "PraisedFieldsModel" yX7_count yX7_count, .code yX7_count prog_9_method_88_code 4 (some .int), .fieldLink "java/lang/String" 9 "java/lang/String" "value" "[B", .fieldLink "java/lang/String" 15 "java/lang/String" "coder" "B"] : List Cond), zok w = true → w ∈ zW := fun w h h3 => by
  have h1 : ([.instanceMethod yX7_read, .selects "PraisedFieldsModel" yX7_read yX7_read, .code yX7_read prog_9_method_86_code 11 (some .int), .methodLink "PraisedFieldsModel" 290 yX7_march, .methodLink "PraisedFieldsLaw" 171 yX7_torn, .instanceMethod yX7_torn, .selects "PraisedFieldsModel" yX7_torn yX7_torn, .code yX7_torn prog_9_method_87_code 1 (some .int), .methodLink "PraisedFieldsLaw" 175 yX7_count, .instanceMethod yX7_count, .selects "PraisedFieldsModel" yX7_count yX7_count, .code yX7_count prog_9_method_88_code 4 (some .int), .fieldLink "java/lang/String" 9 "java/lang/String" "value" "[B", .fieldLink "java/lang/String" 15 "java/lang/String" "coder" "B"] : List Cond) = ((tables_1_5).drop 224).take 32 := rfl
  rw [h1] at h
  have h4 := List.mem_of_mem_drop (List.mem_of_mem_take h)
  exact List.mem_filter.mpr ⟨List.mem_append_right _ (List.mem_append_right _ (List.mem_append_right _ (List.mem_append_right _ (List.mem_append_right _ (h4))))), h3⟩
theorem zinX0 : ∀ w ∈ u_ws RX0 TX0 3, w ∈ zW := by
  show ∀ w ∈ [u_lay RX0 TX0 0, u_lay RX0 TX0 1, u_lay RX0 TX0 2], w ∈ zW
  refine List.forall_mem_cons.mpr ⟨(zg_1_5 _ (List.mem_of_getElem? (i := 31) rfl) rfl), List.forall_mem_cons.mpr ⟨(zg_1_6 _ (List.mem_of_getElem? (i := 1) rfl) rfl), List.forall_mem_cons.mpr ⟨(zg_1_6 _ (List.mem_of_getElem? (i := 3) rfl) rfl), (fun _ h => absurd h List.not_mem_nil)⟩⟩⟩
theorem zinX1 : ∀ w ∈ u_ws RX1 TX1 4, w ∈ zW := by
  show ∀ w ∈ [u_lay RX1 TX1 0, u_lay RX1 TX1 1, u_lay RX1 TX1 2, u_lay RX1 TX1 3], w ∈ zW
  refine List.forall_mem_cons.mpr ⟨(zg_1_5 _ (List.mem_of_getElem? (i := 11) rfl) rfl), List.forall_mem_cons.mpr ⟨(zg_1_5 _ (List.mem_of_getElem? (i := 13) rfl) rfl), List.forall_mem_cons.mpr ⟨(zg_1_5 _ (List.mem_of_getElem? (i := 15) rfl) rfl), List.forall_mem_cons.mpr ⟨(zg_1_5 _ (List.mem_of_getElem? (i := 17) rfl) rfl), (fun _ h => absurd h List.not_mem_nil)⟩⟩⟩⟩
theorem zinX2 : ∀ w ∈ u_ws RX2 TX2 14, w ∈ zW := by
  show ∀ w ∈ [u_lay RX2 TX2 0, u_lay RX2 TX2 1, u_lay RX2 TX2 2, u_lay RX2 TX2 3, u_lay RX2 TX2 4, u_lay RX2 TX2 5, u_lay RX2 TX2 6, u_lay RX2 TX2 7, u_lay RX2 TX2 8, u_lay RX2 TX2 9, u_lay RX2 TX2 10, u_lay RX2 TX2 11, u_lay RX2 TX2 12, u_lay RX2 TX2 13], w ∈ zW
  refine List.forall_mem_cons.mpr ⟨(zg_1_2 _ (List.mem_of_getElem? (i := 0) rfl) rfl), List.forall_mem_cons.mpr ⟨(zg_1_2 _ (List.mem_of_getElem? (i := 2) rfl) rfl), List.forall_mem_cons.mpr ⟨(zg_1_2 _ (List.mem_of_getElem? (i := 4) rfl) rfl), List.forall_mem_cons.mpr ⟨(zg_1_2 _ (List.mem_of_getElem? (i := 6) rfl) rfl), List.forall_mem_cons.mpr ⟨(zg_1_2 _ (List.mem_of_getElem? (i := 8) rfl) rfl), List.forall_mem_cons.mpr ⟨(zg_1_2 _ (List.mem_of_getElem? (i := 10) rfl) rfl), List.forall_mem_cons.mpr ⟨(zg_1_2 _ (List.mem_of_getElem? (i := 12) rfl) rfl), List.forall_mem_cons.mpr ⟨(zg_1_2 _ (List.mem_of_getElem? (i := 14) rfl) rfl), List.forall_mem_cons.mpr ⟨(zg_1_2 _ (List.mem_of_getElem? (i := 16) rfl) rfl), List.forall_mem_cons.mpr ⟨(zg_1_2 _ (List.mem_of_getElem? (i := 18) rfl) rfl), List.forall_mem_cons.mpr ⟨(zg_1_2 _ (List.mem_of_getElem? (i := 20) rfl) rfl), List.forall_mem_cons.mpr ⟨(zg_1_2 _ (List.mem_of_getElem? (i := 22) rfl) rfl), List.forall_mem_cons.mpr ⟨(zg_1_2 _ (List.mem_of_getElem? (i := 24) rfl) rfl), List.forall_mem_cons.mpr ⟨(zg_1_2 _ (List.mem_of_getElem? (i := 26) rfl) rfl), (fun _ h => absurd h List.not_mem_nil)⟩⟩⟩⟩⟩⟩⟩⟩⟩⟩⟩⟩⟩⟩
theorem zinX3 : ∀ w ∈ u_ws RX3 TX3 6, w ∈ zW := by
  show ∀ w ∈ [u_lay RX3 TX3 0, u_lay RX3 TX3 1, u_lay RX3 TX3 2, u_lay RX3 TX3 3, u_lay RX3 TX3 4, u_lay RX3 TX3 5], w ∈ zW
  refine List.forall_mem_cons.mpr ⟨(zg_1_4 _ (List.mem_of_getElem? (i := 20) rfl) rfl), List.forall_mem_cons.mpr ⟨(zg_1_4 _ (List.mem_of_getElem? (i := 22) rfl) rfl), List.forall_mem_cons.mpr ⟨(zg_1_4 _ (List.mem_of_getElem? (i := 24) rfl) rfl), List.forall_mem_cons.mpr ⟨(zg_1_4 _ (List.mem_of_getElem? (i := 26) rfl) rfl), List.forall_mem_cons.mpr ⟨(zg_1_4 _ (List.mem_of_getElem? (i := 28) rfl) rfl), List.forall_mem_cons.mpr ⟨(zg_1_4 _ (List.mem_of_getElem? (i := 30) rfl) rfl), (fun _ h => absurd h List.not_mem_nil)⟩⟩⟩⟩⟩⟩
theorem zinX4 : ∀ w ∈ u_ws RX4 TX4 3, w ∈ zW := by
  show ∀ w ∈ [u_lay RX4 TX4 0, u_lay RX4 TX4 1, u_lay RX4 TX4 2], w ∈ zW
  refine List.forall_mem_cons.mpr ⟨(zg_1_6 _ (List.mem_of_getElem? (i := 17) rfl) rfl), List.forall_mem_cons.mpr ⟨(zg_1_6 _ (List.mem_of_getElem? (i := 19) rfl) rfl), List.forall_mem_cons.mpr ⟨(zg_1_6 _ (List.mem_of_getElem? (i := 21) rfl) rfl), (fun _ h => absurd h List.not_mem_nil)⟩⟩⟩
theorem zinX5 : ∀ w ∈ u_ws RX5 TX5 9, w ∈ zW := by
  show ∀ w ∈ [u_lay RX5 TX5 0, u_lay RX5 TX5 1, u_lay RX5 TX5 2, u_lay RX5 TX5 3, u_lay RX5 TX5 4, u_lay RX5 TX5 5, u_lay RX5 TX5 6, u_lay RX5 TX5 7, u_lay RX5 TX5 8], w ∈ zW
  refine List.forall_mem_cons.mpr ⟨(zg_1_3 _ (List.mem_of_getElem? (i := 17) rfl) rfl), List.forall_mem_cons.mpr ⟨(zg_1_3 _ (List.mem_of_getElem? (i := 19) rfl) rfl), List.forall_mem_cons.mpr ⟨(zg_1_3 _ (List.mem_of_getElem? (i := 21) rfl) rfl), List.forall_mem_cons.mpr ⟨(zg_1_3 _ (List.mem_of_getElem? (i := 23) rfl) rfl), List.forall_mem_cons.mpr ⟨(zg_1_3 _ (List.mem_of_getElem? (i := 25) rfl) rfl), List.forall_mem_cons.mpr ⟨(zg_1_3 _ (List.mem_of_getElem? (i := 27) rfl) rfl), List.forall_mem_cons.mpr ⟨(zg_1_3 _ (List.mem_of_getElem? (i := 29) rfl) rfl), List.forall_mem_cons.mpr ⟨(zg_1_3 _ (List.mem_of_getElem? (i := 31) rfl) rfl), List.forall_mem_cons.mpr ⟨(zg_1_4 _ (List.mem_of_getElem? (i := 1) rfl) rfl), (fun _ h => absurd h List.not_mem_nil)⟩⟩⟩⟩⟩⟩⟩⟩⟩
theorem zinX6 : ∀ w ∈ u_ws RX6 TX6 10, w ∈ zW := by
  show ∀ w ∈ [u_lay RX6 TX6 0, u_lay RX6 TX6 1, u_lay RX6 TX6 2, u_lay RX6 TX6 3, u_lay RX6 TX6 4, u_lay RX6 TX6 5, u_lay RX6 TX6 6, u_lay RX6 TX6 7, u_lay RX6 TX6 8, u_lay RX6 TX6 9], w ∈ zW
  refine List.forall_mem_cons.mpr ⟨(zg_1_7 _ (List.mem_of_getElem? (i := 2) rfl) rfl), List.forall_mem_cons.mpr ⟨(zg_1_7 _ (List.mem_of_getElem? (i := 4) rfl) rfl), List.forall_mem_cons.mpr ⟨(zg_1_7 _ (List.mem_of_getElem? (i := 6) rfl) rfl), List.forall_mem_cons.mpr ⟨(zg_1_7 _ (List.mem_of_getElem? (i := 8) rfl) rfl), List.forall_mem_cons.mpr ⟨(zg_1_7 _ (List.mem_of_getElem? (i := 10) rfl) rfl), List.forall_mem_cons.mpr ⟨(zg_1_7 _ (List.mem_of_getElem? (i := 12) rfl) rfl), List.forall_mem_cons.mpr ⟨(zg_1_7 _ (List.mem_of_getElem? (i := 14) rfl) rfl), List.forall_mem_cons.mpr ⟨(zg_2_0 _ (List.mem_of_getElem? (i := 0) rfl) rfl), List.forall_mem_cons.mpr ⟨(zg_2_0 _ (List.mem_of_getElem? (i := 2) rfl) rfl), List.forall_mem_cons.mpr ⟨(zg_2_0 _ (List.mem_of_getElem? (i := 4) rfl) rfl), (fun _ h => absurd h List.not_mem_nil)⟩⟩⟩⟩⟩⟩⟩⟩⟩⟩
theorem zinX7 : ∀ w ∈ u_ws RX7 TX7 29, w ∈ zW := by
  show ∀ w ∈ [u_lay RX7 TX7 0, u_lay RX7 TX7 1, u_lay RX7 TX7 2, u_lay RX7 TX7 3, u_lay RX7 TX7 4, u_lay RX7 TX7 5, u_lay RX7 TX7 6, u_lay RX7 TX7 7, u_lay RX7 TX7 8, u_lay RX7 TX7 9, u_lay RX7 TX7 10, u_lay RX7 TX7 11, u_lay RX7 TX7 12, u_lay RX7 TX7 13, u_lay RX7 TX7 14, u_lay RX7 TX7 15, u_lay RX7 TX7 16, u_lay RX7 TX7 17, u_lay RX7 TX7 18, u_lay RX7 TX7 19, u_lay RX7 TX7 20, u_lay RX7 TX7 21, u_lay RX7 TX7 22, u_lay RX7 TX7 23, u_lay RX7 TX7 24, u_lay RX7 TX7 25, u_lay RX7 TX7 26, u_lay RX7 TX7 27, u_lay RX7 TX7 28], w ∈ zW
  refine List.forall_mem_cons.mpr ⟨(zg_4_2 _ (List.mem_of_getElem? (i := 7) rfl) rfl), List.forall_mem_cons.mpr ⟨(zg_4_2 _ (List.mem_of_getElem? (i := 9) rfl) rfl), List.forall_mem_cons.mpr ⟨(zg_4_2 _ (List.mem_of_getElem? (i := 11) rfl) rfl), List.forall_mem_cons.mpr ⟨(zg_4_2 _ (List.mem_of_getElem? (i := 13) rfl) rfl), List.forall_mem_cons.mpr ⟨(zg_4_2 _ (List.mem_of_getElem? (i := 15) rfl) rfl), List.forall_mem_cons.mpr ⟨(zg_4_2 _ (List.mem_of_getElem? (i := 17) rfl) rfl), List.forall_mem_cons.mpr ⟨(zg_4_2 _ (List.mem_of_getElem? (i := 19) rfl) rfl), List.forall_mem_cons.mpr ⟨(zg_4_2 _ (List.mem_of_getElem? (i := 21) rfl) rfl), List.forall_mem_cons.mpr ⟨(zg_4_2 _ (List.mem_of_getElem? (i := 23) rfl) rfl), List.forall_mem_cons.mpr ⟨(zg_4_2 _ (List.mem_of_getElem? (i := 25) rfl) rfl), List.forall_mem_cons.mpr ⟨(zg_4_2 _ (List.mem_of_getElem? (i := 27) rfl) rfl), List.forall_mem_cons.mpr ⟨(zg_4_2 _ (List.mem_of_getElem? (i := 29) rfl) rfl), List.forall_mem_cons.mpr ⟨(zg_4_2 _ (List.mem_of_getElem? (i := 31) rfl) rfl), List.forall_mem_cons.mpr ⟨(zg_4_3 _ (List.mem_of_getElem? (i := 1) rfl) rfl), List.forall_mem_cons.mpr ⟨(zg_4_3 _ (List.mem_of_getElem? (i := 3) rfl) rfl), List.forall_mem_cons.mpr ⟨(zg_4_3 _ (List.mem_of_getElem? (i := 5) rfl) rfl), List.forall_mem_cons.mpr ⟨(zg_4_3 _ (List.mem_of_getElem? (i := 7) rfl) rfl), List.forall_mem_cons.mpr ⟨(zg_4_3 _ (List.mem_of_getElem? (i := 9) rfl) rfl), List.forall_mem_cons.mpr ⟨(zg_4_3 _ (List.mem_of_getElem? (i := 11) rfl) rfl), List.forall_mem_cons.mpr ⟨(zg_4_3 _ (List.mem_of_getElem? (i := 13) rfl) rfl), List.forall_mem_cons.mpr ⟨(zg_4_3 _ (List.mem_of_getElem? (i := 15) rfl) rfl), List.forall_mem_cons.mpr ⟨(zg_4_3 _ (List.mem_of_getElem? (i := 17) rfl) rfl), List.forall_mem_cons.mpr ⟨(zg_4_3 _ (List.mem_of_getElem? (i := 19) rfl) rfl), List.forall_mem_cons.mpr ⟨(zg_4_3 _ (List.mem_of_getElem? (i := 21) rfl) rfl), List.forall_mem_cons.mpr ⟨(zg_4_3 _ (List.mem_of_getElem? (i := 23) rfl) rfl), List.forall_mem_cons.mpr ⟨(zg_4_3 _ (List.mem_of_getElem? (i := 25) rfl) rfl), List.forall_mem_cons.mpr ⟨(zg_4_3 _ (List.mem_of_getElem? (i := 27) rfl) rfl), List.forall_mem_cons.mpr ⟨(zg_4_3 _ (List.mem_of_getElem? (i := 29) rfl) rfl), List.forall_mem_cons.mpr ⟨(zg_4_3 _ (List.mem_of_getElem? (i := 31) rfl) rfl), (fun _ h => absurd h List.not_mem_nil)⟩⟩⟩⟩⟩⟩⟩⟩⟩⟩⟩⟩⟩⟩⟩⟩⟩⟩⟩⟩⟩⟩⟩⟩⟩⟩⟩⟩⟩
def zC (ci : Nat) : vw_C := vwCl.getD ci (RX7, TX7, 29)
def zty (ci j : Nat) : FieldType := match ci with
  | 0 => tyX0 j
  | 1 => tyX1 j
  | 2 => tyX2 j
  | 3 => tyX3 j
  | 4 => tyX4 j
  | 5 => tyX5 j
  | 6 => tyX6 j
  | _ => tyX7 j
def zFL (own : String) (idx ci j : Nat) : Prop := Cond.fieldLink own idx ((zC ci).2.1 j).1 ((zC ci).2.1 j).2.1 ((zC ci).2.1 j).2.2.1 ∈ zW
theorem zhin : ∀ ci, ci < 8 → ∀ w ∈ u_ws (zC ci).1 (zC ci).2.1 (zC ci).2.2, w ∈ zW := fun ci h => match ci, h with
  | 0, _ => zinX0
  | 1, _ => zinX1
  | 2, _ => zinX2
  | 3, _ => zinX3
  | 4, _ => zinX4
  | 5, _ => zinX5
  | 6, _ => zinX6
  | 7, _ => zinX7
  | n + 8, h => absurd h (by omega)
theorem zhty : ∀ ci, ci < 8 → ∀ k, k < (zC ci).2.2 → parseFieldDescriptor ((zC ci).2.1 k).2.2.1 = some (zty ci k) := fun ci h => match ci, h with
  | 0, _ => tyX0_ok
  | 1, _ => tyX1_ok
  | 2, _ => tyX2_ok
  | 3, _ => tyX3_ok
  | 4, _ => tyX4_ok
  | 5, _ => tyX5_ok
  | 6, _ => tyX6_ok
  | 7, _ => tyX7_ok
  | n + 8, h => absurd h (by omega)
theorem zhnm : ∀ ci, ci < 8 → ∀ a, a < (zC ci).2.2 → ∀ b, b < (zC ci).2.2 → a ≠ b → ((zC ci).2.1 a).2.1 ≠ ((zC ci).2.1 b).2.1 := fun ci h => match ci, h with
  | 0, _ => nmX0
  | 1, _ => nmX1
  | 2, _ => nmX2
  | 3, _ => nmX3
  | 4, _ => nmX4
  | 5, _ => nmX5
  | 6, _ => nmX6
  | 7, _ => nmX7
  | n + 8, h => absurd h (by omega)
theorem zhcl : ∀ ci, ci < 8 → vwCl[ci]? = some (zC ci) := fun ci h => match ci, h with
  | 0, _ => rfl
  | 1, _ => rfl
  | 2, _ => rfl
  | 3, _ => rfl
  | 4, _ => rfl
  | 5, _ => rfl
  | 6, _ => rfl
  | 7, _ => rfl
  | n + 8, h => absurd h (by omega)
theorem ini_X6 : Cond.initialized RX6 ∈ zW := (zg_1_0 _ (List.mem_of_getElem? (i := 1) rfl) rfl)
theorem ini_X0 : Cond.initialized RX0 ∈ zW := (zg_1_0 _ (List.mem_of_getElem? (i := 6) rfl) rfl)
theorem ini_X1 : Cond.initialized RX1 ∈ zW := (zg_1_0 _ (List.mem_of_getElem? (i := 5) rfl) rfl)
theorem ini_X2 : Cond.initialized RX2 ∈ zW := (zg_1_0 _ (List.mem_of_getElem? (i := 2) rfl) rfl)
theorem ini_X3 : Cond.initialized RX3 ∈ zW := (zg_1_0 _ (List.mem_of_getElem? (i := 4) rfl) rfl)
theorem ini_X4 : Cond.initialized RX4 ∈ zW := (zg_1_0 _ (List.mem_of_getElem? (i := 7) rfl) rfl)
theorem ini_X5 : Cond.initialized RX5 ∈ zW := (zg_1_0 _ (List.mem_of_getElem? (i := 3) rfl) rfl)
theorem ini_L : Cond.initialized RL ∈ zW := (zg_1_0 _ (List.mem_of_getElem? (i := 0) rfl) rfl)
theorem ini_X7 : Cond.initialized RX7 ∈ zW := (zg_1_0 _ (List.mem_of_getElem? (i := 8) rfl) rfl)
theorem ini_J9 : Cond.initialized RJ9 ∈ zW := (zg_1_0 _ (List.mem_of_getElem? (i := 9) rfl) rfl)
theorem ini_J0 : Cond.initialized RJ0 ∈ zW := (zg_1_0 _ (List.mem_of_getElem? (i := 10) rfl) rfl)
theorem ini_J1 : Cond.initialized RJ1 ∈ zW := (zg_1_0 _ (List.mem_of_getElem? (i := 11) rfl) rfl)
theorem ini_J2 : Cond.initialized RJ2 ∈ zW := (zg_1_0 _ (List.mem_of_getElem? (i := 13) rfl) rfl)
theorem ini_J10 : Cond.initialized RJ10 ∈ zW := (zg_1_0 _ (List.mem_of_getElem? (i := 14) rfl) rfl)
theorem ini_J3 : Cond.initialized RJ3 ∈ zW := (zg_1_0 _ (List.mem_of_getElem? (i := 12) rfl) rfl)
theorem fl_X2_9 : zFL RX2 9 2 0 := (zg_1_0 _ (List.mem_of_getElem? (i := 29) rfl) rfl)
theorem fl_X1_38 : zFL RX1 38 2 0 := (zg_1_0 _ (List.mem_of_getElem? (i := 30) rfl) rfl)
theorem fl_X6_120 : zFL RX6 120 2 0 := (zg_1_0 _ (List.mem_of_getElem? (i := 31) rfl) rfl)
theorem fl_X2_15 : zFL RX2 15 2 1 := (zg_1_1 _ (List.mem_of_getElem? (i := 0) rfl) rfl)
theorem fl_X1_32 : zFL RX1 32 2 1 := (zg_1_1 _ (List.mem_of_getElem? (i := 1) rfl) rfl)
theorem fl_X6_124 : zFL RX6 124 2 1 := (zg_1_1 _ (List.mem_of_getElem? (i := 2) rfl) rfl)
theorem fl_X2_18 : zFL RX2 18 2 2 := (zg_1_1 _ (List.mem_of_getElem? (i := 3) rfl) rfl)
theorem fl_X1_33 : zFL RX1 33 2 2 := (zg_1_1 _ (List.mem_of_getElem? (i := 4) rfl) rfl)
theorem fl_X6_127 : zFL RX6 127 2 2 := (zg_1_1 _ (List.mem_of_getElem? (i := 5) rfl) rfl)
theorem fl_X2_21 : zFL RX2 21 2 3 := (zg_1_1 _ (List.mem_of_getElem? (i := 6) rfl) rfl)
theorem fl_X5_56 : zFL RX5 56 2 3 := (zg_1_1 _ (List.mem_of_getElem? (i := 7) rfl) rfl)
theorem fl_X6_140 : zFL RX6 140 2 3 := (zg_1_1 _ (List.mem_of_getElem? (i := 8) rfl) rfl)
theorem fl_X2_24 : zFL RX2 24 2 4 := (zg_1_1 _ (List.mem_of_getElem? (i := 9) rfl) rfl)
theorem fl_X3_55 : zFL RX3 55 2 4 := (zg_1_1 _ (List.mem_of_getElem? (i := 10) rfl) rfl)
theorem fl_X6_143 : zFL RX6 143 2 4 := (zg_1_1 _ (List.mem_of_getElem? (i := 11) rfl) rfl)
theorem fl_X2_27 : zFL RX2 27 2 5 := (zg_1_1 _ (List.mem_of_getElem? (i := 12) rfl) rfl)
theorem fl_X2_30 : zFL RX2 30 2 6 := (zg_1_1 _ (List.mem_of_getElem? (i := 13) rfl) rfl)
theorem fl_X2_33 : zFL RX2 33 2 7 := (zg_1_1 _ (List.mem_of_getElem? (i := 14) rfl) rfl)
theorem fl_X2_36 : zFL RX2 36 2 8 := (zg_1_1 _ (List.mem_of_getElem? (i := 15) rfl) rfl)
theorem fl_X3_43 : zFL RX3 43 2 8 := (zg_1_1 _ (List.mem_of_getElem? (i := 16) rfl) rfl)
theorem fl_X5_60 : zFL RX5 60 2 8 := (zg_1_1 _ (List.mem_of_getElem? (i := 17) rfl) rfl)
theorem fl_X6_91 : zFL RX6 91 2 8 := (zg_1_1 _ (List.mem_of_getElem? (i := 18) rfl) rfl)
theorem fl_X2_40 : zFL RX2 40 2 9 := (zg_1_1 _ (List.mem_of_getElem? (i := 19) rfl) rfl)
theorem fl_X3_38 : zFL RX3 38 2 9 := (zg_1_1 _ (List.mem_of_getElem? (i := 20) rfl) rfl)
theorem fl_X5_53 : zFL RX5 53 2 9 := (zg_1_1 _ (List.mem_of_getElem? (i := 21) rfl) rfl)
theorem fl_X6_94 : zFL RX6 94 2 9 := (zg_1_1 _ (List.mem_of_getElem? (i := 22) rfl) rfl)
theorem fl_X2_43 : zFL RX2 43 2 10 := (zg_1_1 _ (List.mem_of_getElem? (i := 23) rfl) rfl)
theorem fl_X6_225 : zFL RX6 225 2 10 := (zg_1_1 _ (List.mem_of_getElem? (i := 24) rfl) rfl)
theorem fl_X2_46 : zFL RX2 46 2 11 := (zg_1_1 _ (List.mem_of_getElem? (i := 25) rfl) rfl)
theorem fl_X6_107 : zFL RX6 107 2 11 := (zg_1_1 _ (List.mem_of_getElem? (i := 26) rfl) rfl)
theorem fl_X5_99 : zFL RX5 99 2 11 := (zg_1_1 _ (List.mem_of_getElem? (i := 27) rfl) rfl)
theorem fl_X2_49 : zFL RX2 49 2 12 := (zg_1_1 _ (List.mem_of_getElem? (i := 28) rfl) rfl)
theorem fl_X6_100 : zFL RX6 100 2 12 := (zg_1_1 _ (List.mem_of_getElem? (i := 29) rfl) rfl)
theorem fl_X2_52 : zFL RX2 52 2 13 := (zg_1_1 _ (List.mem_of_getElem? (i := 30) rfl) rfl)
theorem fl_X6_97 : zFL RX6 97 2 13 := (zg_1_1 _ (List.mem_of_getElem? (i := 31) rfl) rfl)
theorem fl_X5_11 : zFL RX5 11 5 0 := (zg_1_3 _ (List.mem_of_getElem? (i := 5) rfl) rfl)
theorem fl_X5_15 : zFL RX5 15 5 1 := (zg_1_3 _ (List.mem_of_getElem? (i := 6) rfl) rfl)
theorem fl_X6_74 : zFL RX6 74 5 1 := (zg_1_3 _ (List.mem_of_getElem? (i := 7) rfl) rfl)
theorem fl_X5_19 : zFL RX5 19 5 2 := (zg_1_3 _ (List.mem_of_getElem? (i := 8) rfl) rfl)
theorem fl_X6_88 : zFL RX6 88 5 2 := (zg_1_3 _ (List.mem_of_getElem? (i := 9) rfl) rfl)
theorem fl_X5_22 : zFL RX5 22 5 3 := (zg_1_3 _ (List.mem_of_getElem? (i := 10) rfl) rfl)
theorem fl_X6_81 : zFL RX6 81 5 3 := (zg_1_3 _ (List.mem_of_getElem? (i := 11) rfl) rfl)
theorem fl_X5_25 : zFL RX5 25 5 4 := (zg_1_3 _ (List.mem_of_getElem? (i := 12) rfl) rfl)
theorem fl_X5_28 : zFL RX5 28 5 5 := (zg_1_3 _ (List.mem_of_getElem? (i := 13) rfl) rfl)
theorem fl_X5_31 : zFL RX5 31 5 6 := (zg_1_3 _ (List.mem_of_getElem? (i := 14) rfl) rfl)
theorem fl_X5_34 : zFL RX5 34 5 7 := (zg_1_3 _ (List.mem_of_getElem? (i := 15) rfl) rfl)
theorem fl_X5_37 : zFL RX5 37 5 8 := (zg_1_3 _ (List.mem_of_getElem? (i := 16) rfl) rfl)
theorem fl_X3_11 : zFL RX3 11 3 0 := (zg_1_4 _ (List.mem_of_getElem? (i := 12) rfl) rfl)
theorem fl_X3_15 : zFL RX3 15 3 1 := (zg_1_4 _ (List.mem_of_getElem? (i := 13) rfl) rfl)
theorem fl_X3_18 : zFL RX3 18 3 2 := (zg_1_4 _ (List.mem_of_getElem? (i := 14) rfl) rfl)
theorem fl_X3_21 : zFL RX3 21 3 3 := (zg_1_4 _ (List.mem_of_getElem? (i := 15) rfl) rfl)
theorem fl_X6_183 : zFL RX6 183 3 3 := (zg_1_4 _ (List.mem_of_getElem? (i := 16) rfl) rfl)
theorem fl_X3_24 : zFL RX3 24 3 4 := (zg_1_4 _ (List.mem_of_getElem? (i := 17) rfl) rfl)
theorem fl_X3_28 : zFL RX3 28 3 5 := (zg_1_4 _ (List.mem_of_getElem? (i := 18) rfl) rfl)
theorem fl_X6_180 : zFL RX6 180 3 5 := (zg_1_4 _ (List.mem_of_getElem? (i := 19) rfl) rfl)
theorem fl_X1_11 : zFL RX1 11 1 0 := (zg_1_5 _ (List.mem_of_getElem? (i := 7) rfl) rfl)
theorem fl_X1_15 : zFL RX1 15 1 1 := (zg_1_5 _ (List.mem_of_getElem? (i := 8) rfl) rfl)
theorem fl_X1_18 : zFL RX1 18 1 2 := (zg_1_5 _ (List.mem_of_getElem? (i := 9) rfl) rfl)
theorem fl_X1_22 : zFL RX1 22 1 3 := (zg_1_5 _ (List.mem_of_getElem? (i := 10) rfl) rfl)
theorem fl_X0_9 : zFL RX0 9 0 0 := (zg_1_5 _ (List.mem_of_getElem? (i := 27) rfl) rfl)
theorem fl_X0_15 : zFL RX0 15 0 1 := (zg_1_5 _ (List.mem_of_getElem? (i := 28) rfl) rfl)
theorem fl_X0_18 : zFL RX0 18 0 2 := (zg_1_5 _ (List.mem_of_getElem? (i := 29) rfl) rfl)
theorem fl_X6_238 : zFL RX6 238 0 2 := (zg_1_5 _ (List.mem_of_getElem? (i := 30) rfl) rfl)
theorem fl_X4_9 : zFL RX4 9 4 0 := (zg_1_6 _ (List.mem_of_getElem? (i := 12) rfl) rfl)
theorem fl_X4_15 : zFL RX4 15 4 1 := (zg_1_6 _ (List.mem_of_getElem? (i := 13) rfl) rfl)
theorem fl_X6_254 : zFL RX6 254 4 1 := (zg_1_6 _ (List.mem_of_getElem? (i := 14) rfl) rfl)
theorem fl_X4_18 : zFL RX4 18 4 2 := (zg_1_6 _ (List.mem_of_getElem? (i := 15) rfl) rfl)
theorem fl_X6_272 : zFL RX6 272 4 2 := (zg_1_6 _ (List.mem_of_getElem? (i := 16) rfl) rfl)
theorem fl_X6_10 : zFL RX6 10 6 0 := (zg_1_6 _ (List.mem_of_getElem? (i := 24) rfl) rfl)
theorem fl_X6_16 : zFL RX6 16 6 1 := (zg_1_6 _ (List.mem_of_getElem? (i := 25) rfl) rfl)
theorem fl_X6_19 : zFL RX6 19 6 2 := (zg_1_6 _ (List.mem_of_getElem? (i := 26) rfl) rfl)
theorem fl_X6_23 : zFL RX6 23 6 3 := (zg_1_6 _ (List.mem_of_getElem? (i := 27) rfl) rfl)
theorem fl_X6_30 : zFL RX6 30 6 4 := (zg_1_6 _ (List.mem_of_getElem? (i := 28) rfl) rfl)
theorem fl_X6_37 : zFL RX6 37 6 5 := (zg_1_6 _ (List.mem_of_getElem? (i := 29) rfl) rfl)
theorem fl_X6_44 : zFL RX6 44 6 6 := (zg_1_6 _ (List.mem_of_getElem? (i := 30) rfl) rfl)
theorem fl_X6_51 : zFL RX6 51 6 7 := (zg_1_6 _ (List.mem_of_getElem? (i := 31) rfl) rfl)
theorem fl_X6_58 : zFL RX6 58 6 8 := (zg_1_7 _ (List.mem_of_getElem? (i := 0) rfl) rfl)
theorem fl_X6_62 : zFL RX6 62 6 9 := (zg_1_7 _ (List.mem_of_getElem? (i := 1) rfl) rfl)
theorem fl_X7_7 : zFL RX7 7 7 0 := (zg_4_1 _ (List.mem_of_getElem? (i := 10) rfl) rfl)
theorem fl_X7_13 : zFL RX7 13 7 1 := (zg_4_1 _ (List.mem_of_getElem? (i := 11) rfl) rfl)
theorem fl_X7_16 : zFL RX7 16 7 2 := (zg_4_1 _ (List.mem_of_getElem? (i := 12) rfl) rfl)
theorem fl_X7_20 : zFL RX7 20 7 3 := (zg_4_1 _ (List.mem_of_getElem? (i := 13) rfl) rfl)
theorem fl_X7_53 : zFL RX7 53 7 4 := (zg_4_1 _ (List.mem_of_getElem? (i := 14) rfl) rfl)
theorem fl_X7_57 : zFL RX7 57 7 5 := (zg_4_1 _ (List.mem_of_getElem? (i := 15) rfl) rfl)
theorem fl_X7_23 : zFL RX7 23 7 6 := (zg_4_1 _ (List.mem_of_getElem? (i := 16) rfl) rfl)
theorem fl_X7_67 : zFL RX7 67 7 7 := (zg_4_1 _ (List.mem_of_getElem? (i := 17) rfl) rfl)
theorem fl_X7_79 : zFL RX7 79 7 8 := (zg_4_1 _ (List.mem_of_getElem? (i := 18) rfl) rfl)
theorem fl_X7_73 : zFL RX7 73 7 9 := (zg_4_1 _ (List.mem_of_getElem? (i := 19) rfl) rfl)
theorem fl_X7_94 : zFL RX7 94 7 10 := (zg_4_1 _ (List.mem_of_getElem? (i := 20) rfl) rfl)
theorem fl_X7_105 : zFL RX7 105 7 11 := (zg_4_1 _ (List.mem_of_getElem? (i := 21) rfl) rfl)
theorem fl_X7_70 : zFL RX7 70 7 12 := (zg_4_1 _ (List.mem_of_getElem? (i := 22) rfl) rfl)
theorem fl_X7_76 : zFL RX7 76 7 13 := (zg_4_1 _ (List.mem_of_getElem? (i := 23) rfl) rfl)
theorem fl_X7_135 : zFL RX7 135 7 14 := (zg_4_1 _ (List.mem_of_getElem? (i := 24) rfl) rfl)
theorem fl_X7_138 : zFL RX7 138 7 15 := (zg_4_1 _ (List.mem_of_getElem? (i := 25) rfl) rfl)
theorem fl_X7_221 : zFL RX7 221 7 16 := (zg_4_1 _ (List.mem_of_getElem? (i := 26) rfl) rfl)
theorem fl_X7_224 : zFL RX7 224 7 17 := (zg_4_1 _ (List.mem_of_getElem? (i := 27) rfl) rfl)
theorem fl_X7_26 : zFL RX7 26 7 18 := (zg_4_1 _ (List.mem_of_getElem? (i := 28) rfl) rfl)
theorem fl_X7_251 : zFL RX7 251 7 19 := (zg_4_1 _ (List.mem_of_getElem? (i := 29) rfl) rfl)
theorem fl_X7_255 : zFL RX7 255 7 20 := (zg_4_1 _ (List.mem_of_getElem? (i := 30) rfl) rfl)
theorem fl_X7_258 : zFL RX7 258 7 21 := (zg_4_1 _ (List.mem_of_getElem? (i := 31) rfl) rfl)
theorem fl_X7_29 : zFL RX7 29 7 22 := (zg_4_2 _ (List.mem_of_getElem? (i := 0) rfl) rfl)
theorem fl_X7_32 : zFL RX7 32 7 23 := (zg_4_2 _ (List.mem_of_getElem? (i := 1) rfl) rfl)
theorem fl_X7_35 : zFL RX7 35 7 24 := (zg_4_2 _ (List.mem_of_getElem? (i := 2) rfl) rfl)
theorem fl_X7_38 : zFL RX7 38 7 25 := (zg_4_2 _ (List.mem_of_getElem? (i := 3) rfl) rfl)
theorem fl_X7_41 : zFL RX7 41 7 26 := (zg_4_2 _ (List.mem_of_getElem? (i := 4) rfl) rfl)
theorem fl_X7_293 : zFL RX7 293 7 27 := (zg_4_2 _ (List.mem_of_getElem? (i := 5) rfl) rfl)
theorem fl_X7_44 : zFL RX7 44 7 28 := (zg_4_2 _ (List.mem_of_getElem? (i := 6) rfl) rfl)
theorem kl_X6_199 : Cond.constantLong RX6 199 (-1) ∈ zW := (zg_3_3 _ (List.mem_of_getElem? (i := 25) rfl) rfl)
theorem kl_X6_220 : Cond.constantLong RX6 220 (10) ∈ zW := (zg_3_4 _ (List.mem_of_getElem? (i := 17) rfl) rfl)
theorem kc_X6_247 : Cond.constant RX6 247 (1103515245) ∈ zW := (zg_3_6 _ (List.mem_of_getElem? (i := 16) rfl) rfl)
theorem kl_X7_61 : Cond.constantLong RX7 61 (127) ∈ zW := (zg_4_4 _ (List.mem_of_getElem? (i := 6) rfl) rfl)
theorem kl_X7_97 : Cond.constantLong RX7 97 (97) ∈ zW := (zg_4_4 _ (List.mem_of_getElem? (i := 26) rfl) rfl)
theorem kl_X7_99 : Cond.constantLong RX7 99 (122) ∈ zW := (zg_4_4 _ (List.mem_of_getElem? (i := 27) rfl) rfl)
theorem kl_X7_101 : Cond.constantLong RX7 101 (48) ∈ zW := (zg_4_4 _ (List.mem_of_getElem? (i := 28) rfl) rfl)
theorem kl_X7_103 : Cond.constantLong RX7 103 (57) ∈ zW := (zg_4_4 _ (List.mem_of_getElem? (i := 29) rfl) rfl)
theorem kl_X7_193 : Cond.constantLong RX7 193 (3) ∈ zW := (zg_5_0 _ (List.mem_of_getElem? (i := 12) rfl) rfl)
theorem kl_X7_133 : Cond.constantLong RX7 133 (99) ∈ zW := (zg_5_0 _ (List.mem_of_getElem? (i := 16) rfl) rfl)
theorem kl_X7_198 : Cond.constantLong RX7 198 (9) ∈ zW := (zg_5_0 _ (List.mem_of_getElem? (i := 17) rfl) rfl)
theorem kl_X7_203 : Cond.constantLong RX7 203 (30) ∈ zW := (zg_5_1 _ (List.mem_of_getElem? (i := 14) rfl) rfl)
theorem kl_X7_211 : Cond.constantLong RX7 211 (60) ∈ zW := (zg_5_2 _ (List.mem_of_getElem? (i := 17) rfl) rfl)
theorem kl_X7_216 : Cond.constantLong RX7 216 (4) ∈ zW := (zg_5_2 _ (List.mem_of_getElem? (i := 18) rfl) rfl)
theorem kl_X7_237 : Cond.constantLong RX7 237 (10) ∈ zW := (zg_5_3 _ (List.mem_of_getElem? (i := 3) rfl) rfl)
theorem kl_X7_239 : Cond.constantLong RX7 239 (13) ∈ zW := (zg_5_3 _ (List.mem_of_getElem? (i := 4) rfl) rfl)
theorem kl_X7_261 : Cond.constantLong RX7 261 (8) ∈ zW := (zg_5_4 _ (List.mem_of_getElem? (i := 21) rfl) rfl)
theorem kl_X7_263 : Cond.constantLong RX7 263 (-1) ∈ zW := (zg_5_4 _ (List.mem_of_getElem? (i := 22) rfl) rfl)
theorem kl_X7_273 : Cond.constantLong RX7 273 (20) ∈ zW := (zg_5_5 _ (List.mem_of_getElem? (i := 9) rfl) rfl)
theorem kc_X7_281 : Cond.constant RX7 281 (1103515245) ∈ zW := (zg_5_6 _ (List.mem_of_getElem? (i := 6) rfl) rfl)
theorem kl_X7_285 : Cond.constantLong RX7 285 (2) ∈ zW := (zg_5_6 _ (List.mem_of_getElem? (i := 26) rfl) rfl)
def zCW (M : ZM) (n : Nat) : Prop := Cond.code M.1 M.2.1 M.2.2.1 M.2.2.2 ∈ zW ∧ Cond.initialized M.1.cls ∈ zW ∧ (M.1.cls ≠ "java/lang/invoke/MethodHandle" ∧ M.1.cls ≠ "java/lang/invoke/VarHandle" ∧ (parseMethodDescriptor M.1.desc).map (fun d => d.parameters.length) = some n) ∧ M.2.2.1 ≤ 17 ∧ plainName M.1.cls = true
def zIW (M : ZM) : Prop := Cond.instanceMethod M.1 ∈ zW ∧ Cond.selects M.1.cls M.1 M.1 ∈ zW
def zSW (M : ZM) : Prop := Cond.static M.1 ∈ zW
def zML (own : String) (idx : Nat) (M : ZM) : Prop := Cond.methodLink own idx M.1 ∈ zW
def zMN (own : String) (idx : Nat) (M : ZM) (host : String) : Prop := Cond.methodLinkNest own idx M.1 host ∈ zW
theorem cw_X0_init : zCW mX0_init 0 := ⟨(zg_1_5 _ (List.mem_of_getElem? (i := 25) rfl) rfl), ini_X0, by decide +kernel, by decide, by decide +kernel⟩
theorem ii_X0_init : Cond.instanceMethod mX0_init.1 ∈ zW := (zg_1_5 _ (List.mem_of_getElem? (i := 24) rfl) rfl)
theorem cw_X0_begin : zCW mX0_begin 2 := ⟨(zg_3_6 _ (List.mem_of_getElem? (i := 0) rfl) rfl), ini_X0, by decide +kernel, by decide, by decide +kernel⟩
theorem iw_X0_begin : zIW mX0_begin := ⟨(zg_3_5 _ (List.mem_of_getElem? (i := 30) rfl) rfl), (zg_3_5 _ (List.mem_of_getElem? (i := 31) rfl) rfl)⟩
theorem cw_X0_passWeek : zCW mX0_passWeek 2 := ⟨(zg_3_6 _ (List.mem_of_getElem? (i := 9) rfl) rfl), ini_X0, by decide +kernel, by decide, by decide +kernel⟩
theorem iw_X0_passWeek : zIW mX0_passWeek := ⟨(zg_3_6 _ (List.mem_of_getElem? (i := 7) rfl) rfl), (zg_3_6 _ (List.mem_of_getElem? (i := 8) rfl) rfl)⟩
theorem cw_X0_largestGroup : zCW mX0_largestGroup 0 := ⟨(zg_3_6 _ (List.mem_of_getElem? (i := 4) rfl) rfl), ini_X0, by decide +kernel, by decide, by decide +kernel⟩
theorem iw_X0_largestGroup : zIW mX0_largestGroup := ⟨(zg_3_6 _ (List.mem_of_getElem? (i := 2) rfl) rfl), (zg_3_6 _ (List.mem_of_getElem? (i := 3) rfl) rfl)⟩
theorem cw_X1_init : zCW mX1_init 0 := ⟨(zg_1_5 _ (List.mem_of_getElem? (i := 5) rfl) rfl), ini_X1, by decide +kernel, by decide, by decide +kernel⟩
theorem ii_X1_init : Cond.instanceMethod mX1_init.1 ∈ zW := (zg_1_5 _ (List.mem_of_getElem? (i := 4) rfl) rfl)
theorem cw_X1_fallOn : zCW mX1_fallOn 4 := ⟨(zg_3_3 _ (List.mem_of_getElem? (i := 29) rfl) rfl), ini_X1, by decide +kernel, by decide, by decide +kernel⟩
theorem iw_X1_fallOn : zIW mX1_fallOn := ⟨(zg_3_3 _ (List.mem_of_getElem? (i := 27) rfl) rfl), (zg_3_3 _ (List.mem_of_getElem? (i := 28) rfl) rfl)⟩
theorem cw_X1_part : zCW mX1_part 1 := ⟨(zg_3_4 _ (List.mem_of_getElem? (i := 2) rfl) rfl), ini_X1, by decide +kernel, by decide, by decide +kernel⟩
theorem iw_X1_part : zIW mX1_part := ⟨(zg_3_4 _ (List.mem_of_getElem? (i := 1) rfl) rfl), (zg_s_0 _ (List.mem_of_getElem? (i := 21) rfl) rfl)⟩
theorem cw_X1_passWeek : zCW mX1_passWeek 2 := ⟨(zg_3_4 _ (List.mem_of_getElem? (i := 7) rfl) rfl), ini_X1, by decide +kernel, by decide, by decide +kernel⟩
theorem iw_X1_passWeek : zIW mX1_passWeek := ⟨(zg_3_4 _ (List.mem_of_getElem? (i := 6) rfl) rfl), (zg_s_0 _ (List.mem_of_getElem? (i := 22) rfl) rfl)⟩
theorem cw_X1_weightOf : zCW mX1_weightOf 1 := ⟨(zg_3_4 _ (List.mem_of_getElem? (i := 13) rfl) rfl), ini_X1, by decide +kernel, by decide, by decide +kernel⟩
theorem iw_X1_weightOf : zIW mX1_weightOf := ⟨(zg_3_4 _ (List.mem_of_getElem? (i := 11) rfl) rfl), (zg_3_4 _ (List.mem_of_getElem? (i := 12) rfl) rfl)⟩
theorem cw_X1_weighedEars : zCW mX1_weighedEars 0 := ⟨(zg_3_4 _ (List.mem_of_getElem? (i := 28) rfl) rfl), ini_X1, by decide +kernel, by decide, by decide +kernel⟩
theorem iw_X1_weighedEars : zIW mX1_weighedEars := ⟨(zg_3_4 _ (List.mem_of_getElem? (i := 26) rfl) rfl), (zg_3_4 _ (List.mem_of_getElem? (i := 27) rfl) rfl)⟩
theorem cw_X2_init : zCW mX2_init 0 := ⟨(zg_1_0 _ (List.mem_of_getElem? (i := 27) rfl) rfl), ini_X2, by decide +kernel, by decide, by decide +kernel⟩
theorem ii_X2_init : Cond.instanceMethod mX2_init.1 ∈ zW := (zg_1_0 _ (List.mem_of_getElem? (i := 26) rfl) rfl)
theorem cw_X2_clear : zCW mX2_clear 0 := ⟨(zg_2_1 _ (List.mem_of_getElem? (i := 1) rfl) rfl), ini_X2, by decide +kernel, by decide, by decide +kernel⟩
theorem iw_X2_clear : zIW mX2_clear := ⟨(zg_2_0 _ (List.mem_of_getElem? (i := 31) rfl) rfl), (zg_2_1 _ (List.mem_of_getElem? (i := 0) rfl) rfl)⟩
theorem cw_X2_copyFrom : zCW mX2_copyFrom 1 := ⟨(zg_2_4 _ (List.mem_of_getElem? (i := 27) rfl) rfl), ini_X2, by decide +kernel, by decide, by decide +kernel⟩
theorem iw_X2_copyFrom : zIW mX2_copyFrom := ⟨(zg_2_4 _ (List.mem_of_getElem? (i := 25) rfl) rfl), (zg_2_4 _ (List.mem_of_getElem? (i := 26) rfl) rfl)⟩
theorem cw_X2_addField : zCW mX2_addField 3 := ⟨(zg_2_4 _ (List.mem_of_getElem? (i := 23) rfl) rfl), ini_X2, by decide +kernel, by decide, by decide +kernel⟩
theorem iw_X2_addField : zIW mX2_addField := ⟨(zg_2_4 _ (List.mem_of_getElem? (i := 21) rfl) rfl), (zg_2_4 _ (List.mem_of_getElem? (i := 22) rfl) rfl)⟩
theorem cw_X2_addBand : zCW mX2_addBand 2 := ⟨(zg_2_4 _ (List.mem_of_getElem? (i := 15) rfl) rfl), ini_X2, by decide +kernel, by decide, by decide +kernel⟩
theorem iw_X2_addBand : zIW mX2_addBand := ⟨(zg_2_4 _ (List.mem_of_getElem? (i := 13) rfl) rfl), (zg_2_4 _ (List.mem_of_getElem? (i := 14) rfl) rfl)⟩
theorem cw_X2_addSeen : zCW mX2_addSeen 3 := ⟨(zg_3_5 _ (List.mem_of_getElem? (i := 4) rfl) rfl), ini_X2, by decide +kernel, by decide, by decide +kernel⟩
theorem iw_X2_addSeen : zIW mX2_addSeen := ⟨(zg_3_5 _ (List.mem_of_getElem? (i := 2) rfl) rfl), (zg_3_5 _ (List.mem_of_getElem? (i := 3) rfl) rfl)⟩
theorem cw_X2_heardAt : zCW mX2_heardAt 1 := ⟨(zg_2_5 _ (List.mem_of_getElem? (i := 29) rfl) rfl), ini_X2, by decide +kernel, by decide, by decide +kernel⟩
theorem iw_X2_heardAt : zIW mX2_heardAt := ⟨(zg_2_5 _ (List.mem_of_getElem? (i := 27) rfl) rfl), (zg_2_5 _ (List.mem_of_getElem? (i := 28) rfl) rfl)⟩
theorem cw_X2_hearingFields : zCW mX2_hearingFields 0 := ⟨(zg_2_5 _ (List.mem_of_getElem? (i := 17) rfl) rfl), ini_X2, by decide +kernel, by decide, by decide +kernel⟩
theorem iw_X2_hearingFields : zIW mX2_hearingFields := ⟨(zg_2_5 _ (List.mem_of_getElem? (i := 15) rfl) rfl), (zg_2_5 _ (List.mem_of_getElem? (i := 16) rfl) rfl)⟩
theorem cw_X2_earlessFields : zCW mX2_earlessFields 0 := ⟨(zg_3_0 _ (List.mem_of_getElem? (i := 28) rfl) rfl), ini_X2, by decide +kernel, by decide, by decide +kernel⟩
theorem iw_X2_earlessFields : zIW mX2_earlessFields := ⟨(zg_3_0 _ (List.mem_of_getElem? (i := 26) rfl) rfl), (zg_3_0 _ (List.mem_of_getElem? (i := 27) rfl) rfl)⟩
theorem cw_X2_allEars : zCW mX2_allEars 0 := ⟨(zg_2_5 _ (List.mem_of_getElem? (i := 10) rfl) rfl), ini_X2, by decide +kernel, by decide, by decide +kernel⟩
theorem iw_X2_allEars : zIW mX2_allEars := ⟨(zg_2_5 _ (List.mem_of_getElem? (i := 8) rfl) rfl), (zg_2_5 _ (List.mem_of_getElem? (i := 9) rfl) rfl)⟩
theorem cw_X2_allBlight : zCW mX2_allBlight 0 := ⟨(zg_3_0 _ (List.mem_of_getElem? (i := 24) rfl) rfl), ini_X2, by decide +kernel, by decide, by decide +kernel⟩
theorem iw_X2_allBlight : zIW mX2_allBlight := ⟨(zg_3_0 _ (List.mem_of_getElem? (i := 22) rfl) rfl), (zg_3_0 _ (List.mem_of_getElem? (i := 23) rfl) rfl)⟩
theorem cw_X2_allLoud : zCW mX2_allLoud 0 := ⟨(zg_4_0 _ (List.mem_of_getElem? (i := 27) rfl) rfl), ini_X2, by decide +kernel, by decide, by decide +kernel⟩
theorem iw_X2_allLoud : zIW mX2_allLoud := ⟨(zg_4_0 _ (List.mem_of_getElem? (i := 25) rfl) rfl), (zg_4_0 _ (List.mem_of_getElem? (i := 26) rfl) rfl)⟩
theorem cw_X2_sumOf : zCW mX2_sumOf 2 := ⟨(zg_2_5 _ (List.mem_of_getElem? (i := 13) rfl) rfl), ini_X2, by decide +kernel, by decide, by decide +kernel⟩
theorem sw_X2_sumOf : zSW mX2_sumOf := (zg_2_5 _ (List.mem_of_getElem? (i := 12) rfl) rfl)
theorem cw_X2_passWeek : zCW mX2_passWeek 0 := ⟨(zg_3_0 _ (List.mem_of_getElem? (i := 3) rfl) rfl), ini_X2, by decide +kernel, by decide, by decide +kernel⟩
theorem iw_X2_passWeek : zIW mX2_passWeek := ⟨(zg_3_0 _ (List.mem_of_getElem? (i := 1) rfl) rfl), (zg_3_0 _ (List.mem_of_getElem? (i := 2) rfl) rfl)⟩
theorem cw_X2_passWeeks : zCW mX2_passWeeks 1 := ⟨(zg_2_7 _ (List.mem_of_getElem? (i := 15) rfl) rfl), ini_X2, by decide +kernel, by decide, by decide +kernel⟩
theorem iw_X2_passWeeks : zIW mX2_passWeeks := ⟨(zg_2_7 _ (List.mem_of_getElem? (i := 13) rfl) rfl), (zg_2_7 _ (List.mem_of_getElem? (i := 14) rfl) rfl)⟩
theorem cw_X2_earsIf : zCW mX2_earsIf 3 := ⟨(zg_3_1 _ (List.mem_of_getElem? (i := 4) rfl) rfl), ini_X2, by decide +kernel, by decide, by decide +kernel⟩
theorem iw_X2_earsIf : zIW mX2_earsIf := ⟨(zg_3_1 _ (List.mem_of_getElem? (i := 2) rfl) rfl), (zg_3_1 _ (List.mem_of_getElem? (i := 3) rfl) rfl)⟩
theorem cw_X2_gainBy : zCW mX2_gainBy 3 := ⟨(zg_3_2 _ (List.mem_of_getElem? (i := 22) rfl) rfl), ini_X2, by decide +kernel, by decide, by decide +kernel⟩
theorem iw_X2_gainBy : zIW mX2_gainBy := ⟨(zg_3_2 _ (List.mem_of_getElem? (i := 20) rfl) rfl), (zg_3_2 _ (List.mem_of_getElem? (i := 21) rfl) rfl)⟩
theorem cw_X2_allEarsBehind : zCW mX2_allEarsBehind 1 := ⟨(zg_3_2 _ (List.mem_of_getElem? (i := 27) rfl) rfl), ini_X2, by decide +kernel, by decide, by decide +kernel⟩
theorem iw_X2_allEarsBehind : zIW mX2_allEarsBehind := ⟨(zg_3_2 _ (List.mem_of_getElem? (i := 25) rfl) rfl), (zg_3_2 _ (List.mem_of_getElem? (i := 26) rfl) rfl)⟩
theorem cw_X2_isAsSeen : zCW mX2_isAsSeen 3 := ⟨(zg_3_5 _ (List.mem_of_getElem? (i := 16) rfl) rfl), ini_X2, by decide +kernel, by decide, by decide +kernel⟩
theorem iw_X2_isAsSeen : zIW mX2_isAsSeen := ⟨(zg_3_5 _ (List.mem_of_getElem? (i := 14) rfl) rfl), (zg_3_5 _ (List.mem_of_getElem? (i := 15) rfl) rfl)⟩
theorem cw_X3_init : zCW mX3_init 0 := ⟨(zg_1_4 _ (List.mem_of_getElem? (i := 10) rfl) rfl), ini_X3, by decide +kernel, by decide, by decide +kernel⟩
theorem ii_X3_init : Cond.instanceMethod mX3_init.1 ∈ zW := (zg_1_4 _ (List.mem_of_getElem? (i := 9) rfl) rfl)
theorem cw_X3_findBest : zCW mX3_findBest 1 := ⟨(zg_3_1 _ (List.mem_of_getElem? (i := 24) rfl) rfl), ini_X3, by decide +kernel, by decide, by decide +kernel⟩
theorem iw_X3_findBest : zIW mX3_findBest := ⟨(zg_3_1 _ (List.mem_of_getElem? (i := 22) rfl) rfl), (zg_3_1 _ (List.mem_of_getElem? (i := 23) rfl) rfl)⟩
theorem cw_X3_weigh : zCW mX3_weigh 1 := ⟨(zg_3_1 _ (List.mem_of_getElem? (i := 28) rfl) rfl), ini_X3, by decide +kernel, by decide, by decide +kernel⟩
theorem iw_X3_weigh : zIW mX3_weigh := ⟨(zg_3_1 _ (List.mem_of_getElem? (i := 27) rfl) rfl), (zg_s_0 _ (List.mem_of_getElem? (i := 15) rfl) rfl)⟩
theorem cw_X3_beginRows : zCW mX3_beginRows 1 := ⟨(zg_3_2 _ (List.mem_of_getElem? (i := 1) rfl) rfl), ini_X3, by decide +kernel, by decide, by decide +kernel⟩
theorem iw_X3_beginRows : zIW mX3_beginRows := ⟨(zg_3_2 _ (List.mem_of_getElem? (i := 0) rfl) rfl), (zg_s_0 _ (List.mem_of_getElem? (i := 16) rfl) rfl)⟩
theorem cw_X3_nextRow : zCW mX3_nextRow 1 := ⟨(zg_3_2 _ (List.mem_of_getElem? (i := 6) rfl) rfl), ini_X3, by decide +kernel, by decide, by decide +kernel⟩
theorem iw_X3_nextRow : zIW mX3_nextRow := ⟨(zg_3_2 _ (List.mem_of_getElem? (i := 5) rfl) rfl), (zg_s_0 _ (List.mem_of_getElem? (i := 17) rfl) rfl)⟩
theorem cw_X3_place : zCW mX3_place 2 := ⟨(zg_3_2 _ (List.mem_of_getElem? (i := 10) rfl) rfl), ini_X3, by decide +kernel, by decide, by decide +kernel⟩
theorem iw_X3_place : zIW mX3_place := ⟨(zg_3_2 _ (List.mem_of_getElem? (i := 9) rfl) rfl), (zg_s_0 _ (List.mem_of_getElem? (i := 18) rfl) rfl)⟩
theorem cw_X3_toggle : zCW mX3_toggle 2 := ⟨(zg_3_2 _ (List.mem_of_getElem? (i := 14) rfl) rfl), ini_X3, by decide +kernel, by decide, by decide +kernel⟩
theorem iw_X3_toggle : zIW mX3_toggle := ⟨(zg_3_2 _ (List.mem_of_getElem? (i := 13) rfl) rfl), (zg_s_0 _ (List.mem_of_getElem? (i := 19) rfl) rfl)⟩
theorem cw_X4_init : zCW mX4_init 0 := ⟨(zg_1_6 _ (List.mem_of_getElem? (i := 10) rfl) rfl), ini_X4, by decide +kernel, by decide, by decide +kernel⟩
theorem ii_X4_init : Cond.instanceMethod mX4_init.1 ∈ zW := (zg_1_6 _ (List.mem_of_getElem? (i := 9) rfl) rfl)
theorem cw_X4_renew : zCW mX4_renew 3 := ⟨(zg_3_7 _ (List.mem_of_getElem? (i := 1) rfl) rfl), ini_X4, by decide +kernel, by decide, by decide +kernel⟩
theorem iw_X4_renew : zIW mX4_renew := ⟨(zg_3_6 _ (List.mem_of_getElem? (i := 31) rfl) rfl), (zg_3_7 _ (List.mem_of_getElem? (i := 0) rfl) rfl)⟩
theorem cw_X4_faultAt : zCW mX4_faultAt 3 := ⟨(zg_3_7 _ (List.mem_of_getElem? (i := 9) rfl) rfl), ini_X4, by decide +kernel, by decide, by decide +kernel⟩
theorem iw_X4_faultAt : zIW mX4_faultAt := ⟨(zg_3_7 _ (List.mem_of_getElem? (i := 7) rfl) rfl), (zg_3_7 _ (List.mem_of_getElem? (i := 8) rfl) rfl)⟩
theorem cw_X4_pairFault : zCW mX4_pairFault 3 := ⟨(zg_4_0 _ (List.mem_of_getElem? (i := 9) rfl) rfl), ini_X4, by decide +kernel, by decide, by decide +kernel⟩
theorem iw_X4_pairFault : zIW mX4_pairFault := ⟨(zg_4_0 _ (List.mem_of_getElem? (i := 7) rfl) rfl), (zg_4_0 _ (List.mem_of_getElem? (i := 8) rfl) rfl)⟩
theorem cw_X4_put : zCW mX4_put 3 := ⟨(zg_3_7 _ (List.mem_of_getElem? (i := 14) rfl) rfl), ini_X4, by decide +kernel, by decide, by decide +kernel⟩
theorem iw_X4_put : zIW mX4_put := ⟨(zg_3_7 _ (List.mem_of_getElem? (i := 12) rfl) rfl), (zg_3_7 _ (List.mem_of_getElem? (i := 13) rfl) rfl)⟩
theorem cw_X4_get : zCW mX4_get 2 := ⟨(zg_4_0 _ (List.mem_of_getElem? (i := 14) rfl) rfl), ini_X4, by decide +kernel, by decide, by decide +kernel⟩
theorem iw_X4_get : zIW mX4_get := ⟨(zg_4_0 _ (List.mem_of_getElem? (i := 12) rfl) rfl), (zg_4_0 _ (List.mem_of_getElem? (i := 13) rfl) rfl)⟩
theorem cw_X4_lowestBits : zCW mX4_lowestBits 2 := ⟨(zg_4_0 _ (List.mem_of_getElem? (i := 1) rfl) rfl), ini_X4, by decide +kernel, by decide, by decide +kernel⟩
theorem sw_X4_lowestBits : zSW mX4_lowestBits := (zg_4_0 _ (List.mem_of_getElem? (i := 0) rfl) rfl)
theorem cw_X5_init : zCW mX5_init 0 := ⟨(zg_1_3 _ (List.mem_of_getElem? (i := 3) rfl) rfl), ini_X5, by decide +kernel, by decide, by decide +kernel⟩
theorem ii_X5_init : Cond.instanceMethod mX5_init.1 ∈ zW := (zg_1_3 _ (List.mem_of_getElem? (i := 2) rfl) rfl)
theorem cw_X5_append : zCW mX5_append 1 := ⟨(zg_2_0 _ (List.mem_of_getElem? (i := 17) rfl) rfl), ini_X5, by decide +kernel, by decide, by decide +kernel⟩
theorem iw_X5_append : zIW mX5_append := ⟨(zg_2_0 _ (List.mem_of_getElem? (i := 15) rfl) rfl), (zg_2_0 _ (List.mem_of_getElem? (i := 16) rfl) rfl)⟩
theorem cw_X5_tellAll : zCW mX5_tellAll 1 := ⟨(zg_2_0 _ (List.mem_of_getElem? (i := 29) rfl) rfl), ini_X5, by decide +kernel, by decide, by decide +kernel⟩
theorem iw_X5_tellAll : zIW mX5_tellAll := ⟨(zg_2_0 _ (List.mem_of_getElem? (i := 27) rfl) rfl), (zg_2_0 _ (List.mem_of_getElem? (i := 28) rfl) rfl)⟩
theorem cw_X5_refuse : zCW mX5_refuse 2 := ⟨(zg_2_1 _ (List.mem_of_getElem? (i := 28) rfl) rfl), ini_X5, by decide +kernel, by decide, by decide +kernel⟩
theorem iw_X5_refuse : zIW mX5_refuse := ⟨(zg_2_1 _ (List.mem_of_getElem? (i := 27) rfl) rfl), (zg_s_0 _ (List.mem_of_getElem? (i := 5) rfl) rfl)⟩
theorem cw_X5_takeLine : zCW mX5_takeLine 1 := ⟨(zg_2_1 _ (List.mem_of_getElem? (i := 20) rfl) rfl), ini_X5, by decide +kernel, by decide, by decide +kernel⟩
theorem iw_X5_takeLine : zIW mX5_takeLine := ⟨(zg_2_1 _ (List.mem_of_getElem? (i := 19) rfl) rfl), (zg_s_0 _ (List.mem_of_getElem? (i := 3) rfl) rfl)⟩
theorem cw_X5_takeField : zCW mX5_takeField 2 := ⟨(zg_2_4 _ (List.mem_of_getElem? (i := 19) rfl) rfl), ini_X5, by decide +kernel, by decide, by decide +kernel⟩
theorem iw_X5_takeField : zIW mX5_takeField := ⟨(zg_2_4 _ (List.mem_of_getElem? (i := 18) rfl) rfl), (zg_s_0 _ (List.mem_of_getElem? (i := 12) rfl) rfl)⟩
theorem cw_X5_takeBand : zCW mX5_takeBand 1 := ⟨(zg_2_4 _ (List.mem_of_getElem? (i := 11) rfl) rfl), ini_X5, by decide +kernel, by decide, by decide +kernel⟩
theorem iw_X5_takeBand : zIW mX5_takeBand := ⟨(zg_2_4 _ (List.mem_of_getElem? (i := 10) rfl) rfl), (zg_s_0 _ (List.mem_of_getElem? (i := 11) rfl) rfl)⟩
theorem cw_X5_takeGlut : zCW mX5_takeGlut 1 := ⟨(zg_2_3 _ (List.mem_of_getElem? (i := 30) rfl) rfl), ini_X5, by decide +kernel, by decide, by decide +kernel⟩
theorem iw_X5_takeGlut : zIW mX5_takeGlut := ⟨(zg_2_3 _ (List.mem_of_getElem? (i := 29) rfl) rfl), (zg_s_0 _ (List.mem_of_getElem? (i := 8) rfl) rfl)⟩
theorem cw_X5_takeNumber : zCW mX5_takeNumber 2 := ⟨(zg_2_4 _ (List.mem_of_getElem? (i := 2) rfl) rfl), ini_X5, by decide +kernel, by decide, by decide +kernel⟩
theorem iw_X5_takeNumber : zIW mX5_takeNumber := ⟨(zg_2_4 _ (List.mem_of_getElem? (i := 1) rfl) rfl), (zg_s_0 _ (List.mem_of_getElem? (i := 9) rfl) rfl)⟩
theorem cw_X5_takeSemicolon : zCW mX5_takeSemicolon 0 := ⟨(zg_2_4 _ (List.mem_of_getElem? (i := 7) rfl) rfl), ini_X5, by decide +kernel, by decide, by decide +kernel⟩
theorem iw_X5_takeSemicolon : zIW mX5_takeSemicolon := ⟨(zg_2_4 _ (List.mem_of_getElem? (i := 6) rfl) rfl), (zg_s_0 _ (List.mem_of_getElem? (i := 10) rfl) rfl)⟩
theorem cw_X5_isToken : zCW mX5_isToken 1 := ⟨(zg_2_1 _ (List.mem_of_getElem? (i := 24) rfl) rfl), ini_X5, by decide +kernel, by decide, by decide +kernel⟩
theorem iw_X5_isToken : zIW mX5_isToken := ⟨(zg_2_1 _ (List.mem_of_getElem? (i := 23) rfl) rfl), (zg_s_0 _ (List.mem_of_getElem? (i := 4) rfl) rfl)⟩
theorem cw_X5_nextToken : zCW mX5_nextToken 0 := ⟨(zg_2_1 _ (List.mem_of_getElem? (i := 5) rfl) rfl), ini_X5, by decide +kernel, by decide, by decide +kernel⟩
theorem iw_X5_nextToken : zIW mX5_nextToken := ⟨(zg_2_1 _ (List.mem_of_getElem? (i := 4) rfl) rfl), (zg_s_0 _ (List.mem_of_getElem? (i := 0) rfl) rfl)⟩
theorem cw_X5_stretch : zCW mX5_stretch 2 := ⟨(zg_2_1 _ (List.mem_of_getElem? (i := 9) rfl) rfl), ini_X5, by decide +kernel, by decide, by decide +kernel⟩
theorem iw_X5_stretch : zIW mX5_stretch := ⟨(zg_2_1 _ (List.mem_of_getElem? (i := 8) rfl) rfl), (zg_s_0 _ (List.mem_of_getElem? (i := 1) rfl) rfl)⟩
theorem cw_X5_readNumber : zCW mX5_readNumber 1 := ⟨(zg_2_1 _ (List.mem_of_getElem? (i := 13) rfl) rfl), ini_X5, by decide +kernel, by decide, by decide +kernel⟩
theorem iw_X5_readNumber : zIW mX5_readNumber := ⟨(zg_2_1 _ (List.mem_of_getElem? (i := 12) rfl) rfl), (zg_s_0 _ (List.mem_of_getElem? (i := 2) rfl) rfl)⟩
theorem cw_X5_lineBegun : zCW mX5_lineBegun 0 := ⟨(zg_2_2 _ (List.mem_of_getElem? (i := 0) rfl) rfl), ini_X5, by decide +kernel, by decide, by decide +kernel⟩
theorem iw_X5_lineBegun : zIW mX5_lineBegun := ⟨(zg_2_1 _ (List.mem_of_getElem? (i := 31) rfl) rfl), (zg_s_0 _ (List.mem_of_getElem? (i := 6) rfl) rfl)⟩
theorem cw_X5_isNamed : zCW mX5_isNamed 1 := ⟨(zg_2_2 _ (List.mem_of_getElem? (i := 5) rfl) rfl), ini_X5, by decide +kernel, by decide, by decide +kernel⟩
theorem iw_X5_isNamed : zIW mX5_isNamed := ⟨(zg_2_2 _ (List.mem_of_getElem? (i := 4) rfl) rfl), (zg_s_0 _ (List.mem_of_getElem? (i := 7) rfl) rfl)⟩
theorem cw_X6_init : zCW mX6_init 0 := ⟨(zg_1_0 _ (List.mem_of_getElem? (i := 19) rfl) rfl), ini_X6, by decide +kernel, by decide, by decide +kernel⟩
theorem ii_X6_init : Cond.instanceMethod mX6_init.1 ∈ zW := (zg_1_0 _ (List.mem_of_getElem? (i := 18) rfl) rfl)
theorem cw_X6_feed : zCW mX6_feed 1 := ⟨(zg_2_0 _ (List.mem_of_getElem? (i := 10) rfl) rfl), ini_X6, by decide +kernel, by decide, by decide +kernel⟩
theorem iw_X6_feed : zIW mX6_feed := ⟨(zg_2_0 _ (List.mem_of_getElem? (i := 8) rfl) rfl), (zg_2_0 _ (List.mem_of_getElem? (i := 9) rfl) rfl)⟩
theorem cw_X6_end : zCW mX6_end 1 := ⟨(zg_2_0 _ (List.mem_of_getElem? (i := 21) rfl) rfl), ini_X6, by decide +kernel, by decide, by decide +kernel⟩
theorem iw_X6_end : zIW mX6_end := ⟨(zg_2_0 _ (List.mem_of_getElem? (i := 19) rfl) rfl), (zg_2_0 _ (List.mem_of_getElem? (i := 20) rfl) rfl)⟩
theorem cw_X6_text : zCW mX6_text 0 := ⟨(zg_2_0 _ (List.mem_of_getElem? (i := 25) rfl) rfl), ini_X6, by decide +kernel, by decide, by decide +kernel⟩
theorem iw_X6_text : zIW mX6_text := ⟨(zg_2_0 _ (List.mem_of_getElem? (i := 23) rfl) rfl), (zg_2_0 _ (List.mem_of_getElem? (i := 24) rfl) rfl)⟩
theorem cw_X6_fault : zCW mX6_fault 0 := ⟨(zg_2_5 _ (List.mem_of_getElem? (i := 2) rfl) rfl), ini_X6, by decide +kernel, by decide, by decide +kernel⟩
theorem iw_X6_fault : zIW mX6_fault := ⟨(zg_2_5 _ (List.mem_of_getElem? (i := 0) rfl) rfl), (zg_2_5 _ (List.mem_of_getElem? (i := 1) rfl) rfl)⟩
theorem cw_X6_rule : zCW mX6_rule 1 := ⟨(zg_2_5 _ (List.mem_of_getElem? (i := 6) rfl) rfl), ini_X6, by decide +kernel, by decide, by decide +kernel⟩
theorem iw_X6_rule : zIW mX6_rule := ⟨(zg_2_5 _ (List.mem_of_getElem? (i := 4) rfl) rfl), (zg_2_5 _ (List.mem_of_getElem? (i := 5) rfl) rfl)⟩
theorem cw_X6_field : zCW mX6_field 2 := ⟨(zg_2_5 _ (List.mem_of_getElem? (i := 21) rfl) rfl), ini_X6, by decide +kernel, by decide, by decide +kernel⟩
theorem iw_X6_field : zIW mX6_field := ⟨(zg_2_5 _ (List.mem_of_getElem? (i := 19) rfl) rfl), (zg_2_5 _ (List.mem_of_getElem? (i := 20) rfl) rfl)⟩
theorem cw_X6_band : zCW mX6_band 2 := ⟨(zg_2_6 _ (List.mem_of_getElem? (i := 7) rfl) rfl), ini_X6, by decide +kernel, by decide, by decide +kernel⟩
theorem iw_X6_band : zIW mX6_band := ⟨(zg_2_6 _ (List.mem_of_getElem? (i := 5) rfl) rfl), (zg_2_6 _ (List.mem_of_getElem? (i := 6) rfl) rfl)⟩
theorem cw_X6_alter : zCW mX6_alter 3 := ⟨(zg_2_6 _ (List.mem_of_getElem? (i := 15) rfl) rfl), ini_X6, by decide +kernel, by decide, by decide +kernel⟩
theorem iw_X6_alter : zIW mX6_alter := ⟨(zg_2_6 _ (List.mem_of_getElem? (i := 13) rfl) rfl), (zg_2_6 _ (List.mem_of_getElem? (i := 14) rfl) rfl)⟩
theorem cw_X6_replace : zCW mX6_replace 4 := ⟨(zg_2_6 _ (List.mem_of_getElem? (i := 18) rfl) rfl), ini_X6, by decide +kernel, by decide, by decide +kernel⟩
theorem sw_X6_replace : zSW mX6_replace := (zg_2_6 _ (List.mem_of_getElem? (i := 17) rfl) rfl)
theorem cw_X6_march : zCW mX6_march 2 := ⟨(zg_2_6 _ (List.mem_of_getElem? (i := 22) rfl) rfl), ini_X6, by decide +kernel, by decide, by decide +kernel⟩
theorem iw_X6_march : zIW mX6_march := ⟨(zg_2_6 _ (List.mem_of_getElem? (i := 20) rfl) rfl), (zg_2_6 _ (List.mem_of_getElem? (i := 21) rfl) rfl)⟩
theorem cw_X6_play : zCW mX6_play 2 := ⟨(zg_2_6 _ (List.mem_of_getElem? (i := 26) rfl) rfl), ini_X6, by decide +kernel, by decide, by decide +kernel⟩
theorem iw_X6_play : zIW mX6_play := ⟨(zg_2_6 _ (List.mem_of_getElem? (i := 24) rfl) rfl), (zg_2_6 _ (List.mem_of_getElem? (i := 25) rfl) rfl)⟩
theorem cw_X6_glut : zCW mX6_glut 1 := ⟨(zg_2_6 _ (List.mem_of_getElem? (i := 30) rfl) rfl), ini_X6, by decide +kernel, by decide, by decide +kernel⟩
theorem iw_X6_glut : zIW mX6_glut := ⟨(zg_2_6 _ (List.mem_of_getElem? (i := 28) rfl) rfl), (zg_2_6 _ (List.mem_of_getElem? (i := 29) rfl) rfl)⟩
theorem cw_X6_hire : zCW mX6_hire 2 := ⟨(zg_2_7 _ (List.mem_of_getElem? (i := 2) rfl) rfl), ini_X6, by decide +kernel, by decide, by decide +kernel⟩
theorem iw_X6_hire : zIW mX6_hire := ⟨(zg_2_7 _ (List.mem_of_getElem? (i := 0) rfl) rfl), (zg_2_7 _ (List.mem_of_getElem? (i := 1) rfl) rfl)⟩
theorem cw_X6_leave : zCW mX6_leave 1 := ⟨(zg_2_7 _ (List.mem_of_getElem? (i := 7) rfl) rfl), ini_X6, by decide +kernel, by decide, by decide +kernel⟩
theorem iw_X6_leave : zIW mX6_leave := ⟨(zg_2_7 _ (List.mem_of_getElem? (i := 5) rfl) rfl), (zg_2_7 _ (List.mem_of_getElem? (i := 6) rfl) rfl)⟩
theorem cw_X6_weeks : zCW mX6_weeks 1 := ⟨(zg_2_7 _ (List.mem_of_getElem? (i := 11) rfl) rfl), ini_X6, by decide +kernel, by decide, by decide +kernel⟩
theorem iw_X6_weeks : zIW mX6_weeks := ⟨(zg_2_7 _ (List.mem_of_getElem? (i := 9) rfl) rfl), (zg_2_7 _ (List.mem_of_getElem? (i := 10) rfl) rfl)⟩
theorem cw_X6_runs : zCW mX6_runs 2 := ⟨(zg_3_0 _ (List.mem_of_getElem? (i := 20) rfl) rfl), ini_X6, by decide +kernel, by decide, by decide +kernel⟩
theorem iw_X6_runs : zIW mX6_runs := ⟨(zg_3_0 _ (List.mem_of_getElem? (i := 18) rfl) rfl), (zg_3_0 _ (List.mem_of_getElem? (i := 19) rfl) rfl)⟩
theorem cw_X6_ahead : zCW mX6_ahead 3 := ⟨(zg_3_1 _ (List.mem_of_getElem? (i := 0) rfl) rfl), ini_X6, by decide +kernel, by decide, by decide +kernel⟩
theorem iw_X6_ahead : zIW mX6_ahead := ⟨(zg_3_0 _ (List.mem_of_getElem? (i := 30) rfl) rfl), (zg_3_0 _ (List.mem_of_getElem? (i := 31) rfl) rfl)⟩
theorem cw_X6_late : zCW mX6_late 2 := ⟨(zg_3_1 _ (List.mem_of_getElem? (i := 16) rfl) rfl), ini_X6, by decide +kernel, by decide, by decide +kernel⟩
theorem iw_X6_late : zIW mX6_late := ⟨(zg_3_1 _ (List.mem_of_getElem? (i := 14) rfl) rfl), (zg_3_1 _ (List.mem_of_getElem? (i := 15) rfl) rfl)⟩
theorem cw_X6_order : zCW mX6_order 1 := ⟨(zg_3_1 _ (List.mem_of_getElem? (i := 20) rfl) rfl), ini_X6, by decide +kernel, by decide, by decide +kernel⟩
theorem iw_X6_order : zIW mX6_order := ⟨(zg_3_1 _ (List.mem_of_getElem? (i := 18) rfl) rfl), (zg_3_1 _ (List.mem_of_getElem? (i := 19) rfl) rfl)⟩
theorem cw_X6_move : zCW mX6_move 2 := ⟨(zg_3_2 _ (List.mem_of_getElem? (i := 18) rfl) rfl), ini_X6, by decide +kernel, by decide, by decide +kernel⟩
theorem iw_X6_move : zIW mX6_move := ⟨(zg_3_2 _ (List.mem_of_getElem? (i := 16) rfl) rfl), (zg_3_2 _ (List.mem_of_getElem? (i := 17) rfl) rfl)⟩
theorem cw_X6_still : zCW mX6_still 2 := ⟨(zg_3_2 _ (List.mem_of_getElem? (i := 31) rfl) rfl), ini_X6, by decide +kernel, by decide, by decide +kernel⟩
theorem iw_X6_still : zIW mX6_still := ⟨(zg_3_2 _ (List.mem_of_getElem? (i := 29) rfl) rfl), (zg_3_2 _ (List.mem_of_getElem? (i := 30) rfl) rfl)⟩
theorem cw_X6_sheavesWithout : zCW mX6_sheavesWithout 2 := ⟨(zg_3_3 _ (List.mem_of_getElem? (i := 3) rfl) rfl), ini_X6, by decide +kernel, by decide, by decide +kernel⟩
theorem iw_X6_sheavesWithout : zIW mX6_sheavesWithout := ⟨(zg_3_3 _ (List.mem_of_getElem? (i := 2) rfl) rfl), (zg_s_0 _ (List.mem_of_getElem? (i := 20) rfl) rfl)⟩
theorem cw_X6_need : zCW mX6_need 3 := ⟨(zg_3_3 _ (List.mem_of_getElem? (i := 7) rfl) rfl), ini_X6, by decide +kernel, by decide, by decide +kernel⟩
theorem iw_X6_need : zIW mX6_need := ⟨(zg_3_3 _ (List.mem_of_getElem? (i := 5) rfl) rfl), (zg_3_3 _ (List.mem_of_getElem? (i := 6) rfl) rfl)⟩
theorem cw_X6_swap : zCW mX6_swap 2 := ⟨(zg_3_3 _ (List.mem_of_getElem? (i := 11) rfl) rfl), ini_X6, by decide +kernel, by decide, by decide +kernel⟩
theorem iw_X6_swap : zIW mX6_swap := ⟨(zg_3_3 _ (List.mem_of_getElem? (i := 9) rfl) rfl), (zg_3_3 _ (List.mem_of_getElem? (i := 10) rfl) rfl)⟩
theorem cw_X6_bear : zCW mX6_bear 3 := ⟨(zg_3_3 _ (List.mem_of_getElem? (i := 15) rfl) rfl), ini_X6, by decide +kernel, by decide, by decide +kernel⟩
theorem iw_X6_bear : zIW mX6_bear := ⟨(zg_3_3 _ (List.mem_of_getElem? (i := 13) rfl) rfl), (zg_3_3 _ (List.mem_of_getElem? (i := 14) rfl) rfl)⟩
theorem cw_X6_kind : zCW mX6_kind 3 := ⟨(zg_3_3 _ (List.mem_of_getElem? (i := 20) rfl) rfl), ini_X6, by decide +kernel, by decide, by decide +kernel⟩
theorem iw_X6_kind : zIW mX6_kind := ⟨(zg_3_3 _ (List.mem_of_getElem? (i := 18) rfl) rfl), (zg_3_3 _ (List.mem_of_getElem? (i := 19) rfl) rfl)⟩
theorem cw_X6_luck : zCW mX6_luck 5 := ⟨(zg_3_3 _ (List.mem_of_getElem? (i := 24) rfl) rfl), ini_X6, by decide +kernel, by decide, by decide +kernel⟩
theorem iw_X6_luck : zIW mX6_luck := ⟨(zg_3_3 _ (List.mem_of_getElem? (i := 22) rfl) rfl), (zg_3_3 _ (List.mem_of_getElem? (i := 23) rfl) rfl)⟩
theorem cw_X6_mean : zCW mX6_mean 3 := ⟨(zg_3_4 _ (List.mem_of_getElem? (i := 24) rfl) rfl), ini_X6, by decide +kernel, by decide, by decide +kernel⟩
theorem iw_X6_mean : zIW mX6_mean := ⟨(zg_3_4 _ (List.mem_of_getElem? (i := 22) rfl) rfl), (zg_3_4 _ (List.mem_of_getElem? (i := 23) rfl) rfl)⟩
theorem cw_X6_tenToThe : zCW mX6_tenToThe 1 := ⟨(zg_3_4 _ (List.mem_of_getElem? (i := 16) rfl) rfl), ini_X6, by decide +kernel, by decide, by decide +kernel⟩
theorem sw_X6_tenToThe : zSW mX6_tenToThe := (zg_3_4 _ (List.mem_of_getElem? (i := 15) rfl) rfl)
theorem cw_X6_lowestTerms : zCW mX6_lowestTerms 3 := ⟨(zg_3_4 _ (List.mem_of_getElem? (i := 20) rfl) rfl), ini_X6, by decide +kernel, by decide, by decide +kernel⟩
theorem sw_X6_lowestTerms : zSW mX6_lowestTerms := (zg_3_4 _ (List.mem_of_getElem? (i := 19) rfl) rfl)
theorem cw_X6_see : zCW mX6_see 3 := ⟨(zg_3_5 _ (List.mem_of_getElem? (i := 0) rfl) rfl), ini_X6, by decide +kernel, by decide, by decide +kernel⟩
theorem iw_X6_see : zIW mX6_see := ⟨(zg_3_4 _ (List.mem_of_getElem? (i := 30) rfl) rfl), (zg_3_4 _ (List.mem_of_getElem? (i := 31) rfl) rfl)⟩
theorem cw_X6_forget : zCW mX6_forget 1 := ⟨(zg_3_5 _ (List.mem_of_getElem? (i := 8) rfl) rfl), ini_X6, by decide +kernel, by decide, by decide +kernel⟩
theorem iw_X6_forget : zIW mX6_forget := ⟨(zg_3_5 _ (List.mem_of_getElem? (i := 6) rfl) rfl), (zg_3_5 _ (List.mem_of_getElem? (i := 7) rfl) rfl)⟩
theorem cw_X6_kinds : zCW mX6_kinds 1 := ⟨(zg_3_5 _ (List.mem_of_getElem? (i := 12) rfl) rfl), ini_X6, by decide +kernel, by decide, by decide +kernel⟩
theorem iw_X6_kinds : zIW mX6_kinds := ⟨(zg_3_5 _ (List.mem_of_getElem? (i := 10) rfl) rfl), (zg_3_5 _ (List.mem_of_getElem? (i := 11) rfl) rfl)⟩
theorem cw_X6_blights : zCW mX6_blights 1 := ⟨(zg_3_5 _ (List.mem_of_getElem? (i := 20) rfl) rfl), ini_X6, by decide +kernel, by decide, by decide +kernel⟩
theorem iw_X6_blights : zIW mX6_blights := ⟨(zg_3_5 _ (List.mem_of_getElem? (i := 18) rfl) rfl), (zg_3_5 _ (List.mem_of_getElem? (i := 19) rfl) rfl)⟩
theorem cw_X6_blightsAsSeen : zCW mX6_blightsAsSeen 1 := ⟨(zg_3_5 _ (List.mem_of_getElem? (i := 24) rfl) rfl), ini_X6, by decide +kernel, by decide, by decide +kernel⟩
theorem iw_X6_blightsAsSeen : zIW mX6_blightsAsSeen := ⟨(zg_3_5 _ (List.mem_of_getElem? (i := 23) rfl) rfl), (zg_s_0 _ (List.mem_of_getElem? (i := 23) rfl) rfl)⟩
theorem cw_X6_ask : zCW mX6_ask 2 := ⟨(zg_3_5 _ (List.mem_of_getElem? (i := 28) rfl) rfl), ini_X6, by decide +kernel, by decide, by decide +kernel⟩
theorem iw_X6_ask : zIW mX6_ask := ⟨(zg_3_5 _ (List.mem_of_getElem? (i := 26) rfl) rfl), (zg_3_5 _ (List.mem_of_getElem? (i := 27) rfl) rfl)⟩
theorem cw_X6_drift : zCW mX6_drift 3 := ⟨(zg_3_6 _ (List.mem_of_getElem? (i := 15) rfl) rfl), ini_X6, by decide +kernel, by decide, by decide +kernel⟩
theorem iw_X6_drift : zIW mX6_drift := ⟨(zg_3_6 _ (List.mem_of_getElem? (i := 13) rfl) rfl), (zg_3_6 _ (List.mem_of_getElem? (i := 14) rfl) rfl)⟩
theorem cw_X6_keep : zCW mX6_keep 1 := ⟨(zg_3_6 _ (List.mem_of_getElem? (i := 21) rfl) rfl), ini_X6, by decide +kernel, by decide, by decide +kernel⟩
theorem iw_X6_keep : zIW mX6_keep := ⟨(zg_3_6 _ (List.mem_of_getElem? (i := 19) rfl) rfl), (zg_3_6 _ (List.mem_of_getElem? (i := 20) rfl) rfl)⟩
theorem cw_X6_back : zCW mX6_back 1 := ⟨(zg_3_6 _ (List.mem_of_getElem? (i := 25) rfl) rfl), ini_X6, by decide +kernel, by decide, by decide +kernel⟩
theorem iw_X6_back : zIW mX6_back := ⟨(zg_3_6 _ (List.mem_of_getElem? (i := 23) rfl) rfl), (zg_3_6 _ (List.mem_of_getElem? (i := 24) rfl) rfl)⟩
theorem cw_X6_sheet : zCW mX6_sheet 3 := ⟨(zg_3_6 _ (List.mem_of_getElem? (i := 29) rfl) rfl), ini_X6, by decide +kernel, by decide, by decide +kernel⟩
theorem iw_X6_sheet : zIW mX6_sheet := ⟨(zg_3_6 _ (List.mem_of_getElem? (i := 27) rfl) rfl), (zg_3_6 _ (List.mem_of_getElem? (i := 28) rfl) rfl)⟩
theorem cw_X6_lay : zCW mX6_lay 3 := ⟨(zg_3_7 _ (List.mem_of_getElem? (i := 5) rfl) rfl), ini_X6, by decide +kernel, by decide, by decide +kernel⟩
theorem iw_X6_lay : zIW mX6_lay := ⟨(zg_3_7 _ (List.mem_of_getElem? (i := 3) rfl) rfl), (zg_3_7 _ (List.mem_of_getElem? (i := 4) rfl) rfl)⟩
theorem cw_X6_read : zCW mX6_read 4 := ⟨(zg_4_0 _ (List.mem_of_getElem? (i := 5) rfl) rfl), ini_X6, by decide +kernel, by decide, by decide +kernel⟩
theorem iw_X6_read : zIW mX6_read := ⟨(zg_4_0 _ (List.mem_of_getElem? (i := 3) rfl) rfl), (zg_4_0 _ (List.mem_of_getElem? (i := 4) rfl) rfl)⟩
theorem cw_X6_torn : zCW mX6_torn 0 := ⟨(zg_4_0 _ (List.mem_of_getElem? (i := 19) rfl) rfl), ini_X6, by decide +kernel, by decide, by decide +kernel⟩
theorem iw_X6_torn : zIW mX6_torn := ⟨(zg_4_0 _ (List.mem_of_getElem? (i := 17) rfl) rfl), (zg_4_0 _ (List.mem_of_getElem? (i := 18) rfl) rfl)⟩
theorem cw_X6_count : zCW mX6_count 1 := ⟨(zg_4_0 _ (List.mem_of_getElem? (i := 23) rfl) rfl), ini_X6, by decide +kernel, by decide, by decide +kernel⟩
theorem iw_X6_count : zIW mX6_count := ⟨(zg_4_0 _ (List.mem_of_getElem? (i := 21) rfl) rfl), (zg_4_0 _ (List.mem_of_getElem? (i := 22) rfl) rfl)⟩
theorem cw_X6_within : zCW mX6_within 3 := ⟨(zg_2_0 _ (List.mem_of_getElem? (i := 13) rfl) rfl), ini_X6, by decide +kernel, by decide, by decide +kernel⟩
theorem sw_X6_within : zSW mX6_within := (zg_2_0 _ (List.mem_of_getElem? (i := 12) rfl) rfl)
theorem cw_X6_isField : zCW mX6_isField 1 := ⟨(zg_2_5 _ (List.mem_of_getElem? (i := 25) rfl) rfl), ini_X6, by decide +kernel, by decide, by decide +kernel⟩
theorem iw_X6_isField : zIW mX6_isField := ⟨(zg_2_5 _ (List.mem_of_getElem? (i := 24) rfl) rfl), (zg_s_0 _ (List.mem_of_getElem? (i := 13) rfl) rfl)⟩
theorem cw_X6_isBand : zCW mX6_isBand 1 := ⟨(zg_2_6 _ (List.mem_of_getElem? (i := 11) rfl) rfl), ini_X6, by decide +kernel, by decide, by decide +kernel⟩
theorem iw_X6_isBand : zIW mX6_isBand := ⟨(zg_2_6 _ (List.mem_of_getElem? (i := 10) rfl) rfl), (zg_s_0 _ (List.mem_of_getElem? (i := 14) rfl) rfl)⟩
theorem cw_X6_growth : zCW mX6_growth 2 := ⟨(zg_2_6 _ (List.mem_of_getElem? (i := 0) rfl) rfl), ini_X6, by decide +kernel, by decide, by decide +kernel⟩
theorem sw_X6_growth : zSW mX6_growth := (zg_2_5 _ (List.mem_of_getElem? (i := 31) rfl) rfl)
theorem cw_X6_heed : zCW mX6_heed 1 := ⟨(zg_2_6 _ (List.mem_of_getElem? (i := 3) rfl) rfl), ini_X6, by decide +kernel, by decide, by decide +kernel⟩
theorem sw_X6_heed : zSW mX6_heed := (zg_2_6 _ (List.mem_of_getElem? (i := 2) rfl) rfl)
theorem cw_X6_earsNext : zCW mX6_earsNext 4 := ⟨(zg_3_0 _ (List.mem_of_getElem? (i := 7) rfl) rfl), ini_X6, by decide +kernel, by decide, by decide +kernel⟩
theorem sw_X6_earsNext : zSW mX6_earsNext := (zg_3_0 _ (List.mem_of_getElem? (i := 6) rfl) rfl)
theorem cw_X6_blightNext : zCW mX6_blightNext 3 := ⟨(zg_3_0 _ (List.mem_of_getElem? (i := 14) rfl) rfl), ini_X6, by decide +kernel, by decide, by decide +kernel⟩
theorem sw_X6_blightNext : zSW mX6_blightNext := (zg_3_0 _ (List.mem_of_getElem? (i := 13) rfl) rfl)
theorem cw_X6_earsBehind : zCW mX6_earsBehind 5 := ⟨(zg_3_1 _ (List.mem_of_getElem? (i := 7) rfl) rfl), ini_X6, by decide +kernel, by decide, by decide +kernel⟩
theorem sw_X6_earsBehind : zSW mX6_earsBehind := (zg_3_1 _ (List.mem_of_getElem? (i := 6) rfl) rfl)
theorem cw_X6_blightBehind : zCW mX6_blightBehind 4 := ⟨(zg_3_1 _ (List.mem_of_getElem? (i := 12) rfl) rfl), ini_X6, by decide +kernel, by decide, by decide +kernel⟩
theorem sw_X6_blightBehind : zSW mX6_blightBehind := (zg_3_1 _ (List.mem_of_getElem? (i := 11) rfl) rfl)
theorem cw_X7_init : zCW mX7_init 0 := ⟨(zg_4_1 _ (List.mem_of_getElem? (i := 0) rfl) rfl), ini_X7, by decide +kernel, by decide, by decide +kernel⟩
theorem ii_X7_init : Cond.instanceMethod mX7_init.1 ∈ zW := (zg_4_0 _ (List.mem_of_getElem? (i := 31) rfl) rfl)
theorem cw_X7_in : zCW mX7_in 3 := ⟨(zg_4_4 _ (List.mem_of_getElem? (i := 9) rfl) rfl), ini_X7, by decide +kernel, by decide, by decide +kernel⟩
theorem sw_X7_in : zSW mX7_in := (zg_4_4 _ (List.mem_of_getElem? (i := 8) rfl) rfl)
theorem cw_X7_flag : zCW mX7_flag 1 := ⟨(zg_4_6 _ (List.mem_of_getElem? (i := 20) rfl) rfl), ini_X7, by decide +kernel, by decide, by decide +kernel⟩
theorem sw_X7_flag : zSW mX7_flag := (zg_4_6 _ (List.mem_of_getElem? (i := 19) rfl) rfl)
theorem cw_X7_within : zCW mX7_within 2 := ⟨(zg_5_1 _ (List.mem_of_getElem? (i := 29) rfl) rfl), ini_X7, by decide +kernel, by decide, by decide +kernel⟩
theorem sw_X7_within : zSW mX7_within := (zg_5_1 _ (List.mem_of_getElem? (i := 28) rfl) rfl)
theorem cw_X7_firstDraft : zCW mX7_firstDraft 0 := ⟨(zg_4_1 _ (List.mem_of_getElem? (i := 5) rfl) rfl), ini_X7, by decide +kernel, by decide, by decide +kernel⟩
theorem iw_X7_firstDraft : zIW mX7_firstDraft := ⟨(zg_4_1 _ (List.mem_of_getElem? (i := 4) rfl) rfl), (zg_s_0 _ (List.mem_of_getElem? (i := 24) rfl) rfl)⟩
theorem cw_X7_keepDraft : zCW mX7_keepDraft 0 := ⟨(zg_4_1 _ (List.mem_of_getElem? (i := 9) rfl) rfl), ini_X7, by decide +kernel, by decide, by decide +kernel⟩
theorem iw_X7_keepDraft : zIW mX7_keepDraft := ⟨(zg_4_1 _ (List.mem_of_getElem? (i := 8) rfl) rfl), (zg_s_0 _ (List.mem_of_getElem? (i := 25) rfl) rfl)⟩
theorem cw_X7_feed : zCW mX7_feed 1 := ⟨(zg_4_4 _ (List.mem_of_getElem? (i := 5) rfl) rfl), ini_X7, by decide +kernel, by decide, by decide +kernel⟩
theorem iw_X7_feed : zIW mX7_feed := ⟨(zg_4_4 _ (List.mem_of_getElem? (i := 3) rfl) rfl), (zg_4_4 _ (List.mem_of_getElem? (i := 4) rfl) rfl)⟩
theorem cw_X7_end : zCW mX7_end 1 := ⟨(zg_4_4 _ (List.mem_of_getElem? (i := 13) rfl) rfl), ini_X7, by decide +kernel, by decide, by decide +kernel⟩
theorem iw_X7_end : zIW mX7_end := ⟨(zg_4_4 _ (List.mem_of_getElem? (i := 11) rfl) rfl), (zg_4_4 _ (List.mem_of_getElem? (i := 12) rfl) rfl)⟩
theorem cw_X7_requires : zCW mX7_requires 2 := ⟨(zg_4_5 _ (List.mem_of_getElem? (i := 1) rfl) rfl), ini_X7, by decide +kernel, by decide, by decide +kernel⟩
theorem iw_X7_requires : zIW mX7_requires := ⟨(zg_4_5 _ (List.mem_of_getElem? (i := 0) rfl) rfl), (zg_s_0 _ (List.mem_of_getElem? (i := 28) rfl) rfl)⟩
theorem cw_X7_byteAt : zCW mX7_byteAt 1 := ⟨(zg_4_4 _ (List.mem_of_getElem? (i := 25) rfl) rfl), ini_X7, by decide +kernel, by decide, by decide +kernel⟩
theorem iw_X7_byteAt : zIW mX7_byteAt := ⟨(zg_4_4 _ (List.mem_of_getElem? (i := 24) rfl) rfl), (zg_s_0 _ (List.mem_of_getElem? (i := 27) rfl) rfl)⟩
theorem cw_X7_is : zCW mX7_is 4 := ⟨(zg_4_5 _ (List.mem_of_getElem? (i := 13) rfl) rfl), ini_X7, by decide +kernel, by decide, by decide +kernel⟩
theorem iw_X7_is : zIW mX7_is := ⟨(zg_4_5 _ (List.mem_of_getElem? (i := 12) rfl) rfl), (zg_s_0 _ (List.mem_of_getElem? (i := 31) rfl) rfl)⟩
theorem cw_X7_endsIn : zCW mX7_endsIn 2 := ⟨(zg_4_5 _ (List.mem_of_getElem? (i := 17) rfl) rfl), ini_X7, by decide +kernel, by decide, by decide +kernel⟩
theorem iw_X7_endsIn : zIW mX7_endsIn := ⟨(zg_4_5 _ (List.mem_of_getElem? (i := 16) rfl) rfl), (zg_s_1 _ (List.mem_of_getElem? (i := 0) rfl) rfl)⟩
theorem cw_X7_lineNow : zCW mX7_lineNow 0 := ⟨(zg_4_5 _ (List.mem_of_getElem? (i := 9) rfl) rfl), ini_X7, by decide +kernel, by decide, by decide +kernel⟩
theorem iw_X7_lineNow : zIW mX7_lineNow := ⟨(zg_4_5 _ (List.mem_of_getElem? (i := 8) rfl) rfl), (zg_s_0 _ (List.mem_of_getElem? (i := 30) rfl) rfl)⟩
theorem cw_X7_reads : zCW mX7_reads 0 := ⟨(zg_4_4 _ (List.mem_of_getElem? (i := 21) rfl) rfl), ini_X7, by decide +kernel, by decide, by decide +kernel⟩
theorem iw_X7_reads : zIW mX7_reads := ⟨(zg_4_4 _ (List.mem_of_getElem? (i := 20) rfl) rfl), (zg_s_0 _ (List.mem_of_getElem? (i := 26) rfl) rfl)⟩
theorem cw_X7_readNumber : zCW mX7_readNumber 2 := ⟨(zg_4_5 _ (List.mem_of_getElem? (i := 29) rfl) rfl), ini_X7, by decide +kernel, by decide, by decide +kernel⟩
theorem iw_X7_readNumber : zIW mX7_readNumber := ⟨(zg_4_5 _ (List.mem_of_getElem? (i := 28) rfl) rfl), (zg_s_1 _ (List.mem_of_getElem? (i := 3) rfl) rfl)⟩
theorem cw_X7_readBand : zCW mX7_readBand 0 := ⟨(zg_4_5 _ (List.mem_of_getElem? (i := 25) rfl) rfl), ini_X7, by decide +kernel, by decide, by decide +kernel⟩
theorem iw_X7_readBand : zIW mX7_readBand := ⟨(zg_4_5 _ (List.mem_of_getElem? (i := 24) rfl) rfl), (zg_s_1 _ (List.mem_of_getElem? (i := 2) rfl) rfl)⟩
theorem cw_X7_readLineOf : zCW mX7_readLineOf 1 := ⟨(zg_4_5 _ (List.mem_of_getElem? (i := 21) rfl) rfl), ini_X7, by decide +kernel, by decide, by decide +kernel⟩
theorem iw_X7_readLineOf : zIW mX7_readLineOf := ⟨(zg_4_5 _ (List.mem_of_getElem? (i := 20) rfl) rfl), (zg_s_1 _ (List.mem_of_getElem? (i := 1) rfl) rfl)⟩
theorem cw_X7_readLine : zCW mX7_readLine 0 := ⟨(zg_4_5 _ (List.mem_of_getElem? (i := 5) rfl) rfl), ini_X7, by decide +kernel, by decide, by decide +kernel⟩
theorem iw_X7_readLine : zIW mX7_readLine := ⟨(zg_4_5 _ (List.mem_of_getElem? (i := 4) rfl) rfl), (zg_s_0 _ (List.mem_of_getElem? (i := 29) rfl) rfl)⟩
theorem cw_X7_text : zCW mX7_text 0 := ⟨(zg_4_4 _ (List.mem_of_getElem? (i := 17) rfl) rfl), ini_X7, by decide +kernel, by decide, by decide +kernel⟩
theorem iw_X7_text : zIW mX7_text := ⟨(zg_4_4 _ (List.mem_of_getElem? (i := 15) rfl) rfl), (zg_4_4 _ (List.mem_of_getElem? (i := 16) rfl) rfl)⟩
theorem cw_X7_fault : zCW mX7_fault 0 := ⟨(zg_4_6 _ (List.mem_of_getElem? (i := 1) rfl) rfl), ini_X7, by decide +kernel, by decide, by decide +kernel⟩
theorem iw_X7_fault : zIW mX7_fault := ⟨(zg_4_5 _ (List.mem_of_getElem? (i := 31) rfl) rfl), (zg_4_6 _ (List.mem_of_getElem? (i := 0) rfl) rfl)⟩
theorem cw_X7_isField : zCW mX7_isField 1 := ⟨(zg_4_7 _ (List.mem_of_getElem? (i := 4) rfl) rfl), ini_X7, by decide +kernel, by decide, by decide +kernel⟩
theorem iw_X7_isField : zIW mX7_isField := ⟨(zg_4_7 _ (List.mem_of_getElem? (i := 3) rfl) rfl), (zg_s_1 _ (List.mem_of_getElem? (i := 9) rfl) rfl)⟩
theorem cw_X7_isBand : zCW mX7_isBand 1 := ⟨(zg_5_0 _ (List.mem_of_getElem? (i := 4) rfl) rfl), ini_X7, by decide +kernel, by decide, by decide +kernel⟩
theorem iw_X7_isBand : zIW mX7_isBand := ⟨(zg_5_0 _ (List.mem_of_getElem? (i := 3) rfl) rfl), (zg_s_1 _ (List.mem_of_getElem? (i := 12) rfl) rfl)⟩
theorem cw_X7_isPart : zCW mX7_isPart 1 := ⟨(zg_5_0 _ (List.mem_of_getElem? (i := 7) rfl) rfl), ini_X7, by decide +kernel, by decide, by decide +kernel⟩
theorem sw_X7_isPart : zSW mX7_isPart := (zg_5_0 _ (List.mem_of_getElem? (i := 6) rfl) rfl)
theorem cw_X7_areEars : zCW mX7_areEars 1 := ⟨(zg_5_0 _ (List.mem_of_getElem? (i := 15) rfl) rfl), ini_X7, by decide +kernel, by decide, by decide +kernel⟩
theorem sw_X7_areEars : zSW mX7_areEars := (zg_5_0 _ (List.mem_of_getElem? (i := 14) rfl) rfl)
theorem cw_X7_starts : zCW mX7_starts 0 := ⟨(zg_4_6 _ (List.mem_of_getElem? (i := 9) rfl) rfl), ini_X7, by decide +kernel, by decide, by decide +kernel⟩
theorem iw_X7_starts : zIW mX7_starts := ⟨(zg_4_6 _ (List.mem_of_getElem? (i := 8) rfl) rfl), (zg_s_1 _ (List.mem_of_getElem? (i := 4) rfl) rfl)⟩
theorem cw_X7_settles : zCW mX7_settles 0 := ⟨(zg_5_2 _ (List.mem_of_getElem? (i := 9) rfl) rfl), ini_X7, by decide +kernel, by decide, by decide +kernel⟩
theorem iw_X7_settles : zIW mX7_settles := ⟨(zg_5_2 _ (List.mem_of_getElem? (i := 8) rfl) rfl), (zg_s_1 _ (List.mem_of_getElem? (i := 19) rfl) rfl)⟩
theorem cw_X7_of : zCW mX7_of 2 := ⟨(zg_4_6 _ (List.mem_of_getElem? (i := 28) rfl) rfl), ini_X7, by decide +kernel, by decide, by decide +kernel⟩
theorem iw_X7_of : zIW mX7_of := ⟨(zg_4_6 _ (List.mem_of_getElem? (i := 27) rfl) rfl), (zg_s_1 _ (List.mem_of_getElem? (i := 8) rfl) rfl)⟩
theorem cw_X7_becomesOf : zCW mX7_becomesOf 3 := ⟨(zg_5_2 _ (List.mem_of_getElem? (i := 1) rfl) rfl), ini_X7, by decide +kernel, by decide, by decide +kernel⟩
theorem iw_X7_becomesOf : zIW mX7_becomesOf := ⟨(zg_5_2 _ (List.mem_of_getElem? (i := 0) rfl) rfl), (zg_s_1 _ (List.mem_of_getElem? (i := 17) rfl) rfl)⟩
theorem cw_X7_ofBand : zCW mX7_ofBand 2 := ⟨(zg_4_6 _ (List.mem_of_getElem? (i := 17) rfl) rfl), ini_X7, by decide +kernel, by decide, by decide +kernel⟩
theorem iw_X7_ofBand : zIW mX7_ofBand := ⟨(zg_4_6 _ (List.mem_of_getElem? (i := 16) rfl) rfl), (zg_s_1 _ (List.mem_of_getElem? (i := 6) rfl) rfl)⟩
theorem cw_X7_bandBecomes : zCW mX7_bandBecomes 3 := ⟨(zg_5_3 _ (List.mem_of_getElem? (i := 16) rfl) rfl), ini_X7, by decide +kernel, by decide, by decide +kernel⟩
theorem iw_X7_bandBecomes : zIW mX7_bandBecomes := ⟨(zg_5_3 _ (List.mem_of_getElem? (i := 15) rfl) rfl), (zg_s_1 _ (List.mem_of_getElem? (i := 23) rfl) rfl)⟩
theorem cw_X7_heardAt : zCW mX7_heardAt 1 := ⟨(zg_4_6 _ (List.mem_of_getElem? (i := 13) rfl) rfl), ini_X7, by decide +kernel, by decide, by decide +kernel⟩
theorem iw_X7_heardAt : zIW mX7_heardAt := ⟨(zg_4_6 _ (List.mem_of_getElem? (i := 12) rfl) rfl), (zg_s_1 _ (List.mem_of_getElem? (i := 5) rfl) rfl)⟩
theorem cw_X7_growsBy : zCW mX7_growsBy 1 := ⟨(zg_4_7 _ (List.mem_of_getElem? (i := 8) rfl) rfl), ini_X7, by decide +kernel, by decide, by decide +kernel⟩
theorem iw_X7_growsBy : zIW mX7_growsBy := ⟨(zg_4_7 _ (List.mem_of_getElem? (i := 7) rfl) rfl), (zg_s_1 _ (List.mem_of_getElem? (i := 10) rfl) rfl)⟩
theorem cw_X7_heeds : zCW mX7_heeds 1 := ⟨(zg_4_7 _ (List.mem_of_getElem? (i := 12) rfl) rfl), ini_X7, by decide +kernel, by decide, by decide +kernel⟩
theorem iw_X7_heeds : zIW mX7_heeds := ⟨(zg_4_7 _ (List.mem_of_getElem? (i := 11) rfl) rfl), (zg_s_1 _ (List.mem_of_getElem? (i := 11) rfl) rfl)⟩
theorem cw_X7_fieldGoes : zCW mX7_fieldGoes 1 := ⟨(zg_5_2 _ (List.mem_of_getElem? (i := 5) rfl) rfl), ini_X7, by decide +kernel, by decide, by decide +kernel⟩
theorem iw_X7_fieldGoes : zIW mX7_fieldGoes := ⟨(zg_5_2 _ (List.mem_of_getElem? (i := 4) rfl) rfl), (zg_s_1 _ (List.mem_of_getElem? (i := 18) rfl) rfl)⟩
theorem cw_X7_weekGoes : zCW mX7_weekGoes 1 := ⟨(zg_5_1 _ (List.mem_of_getElem? (i := 26) rfl) rfl), ini_X7, by decide +kernel, by decide, by decide +kernel⟩
theorem iw_X7_weekGoes : zIW mX7_weekGoes := ⟨(zg_5_1 _ (List.mem_of_getElem? (i := 25) rfl) rfl), (zg_s_1 _ (List.mem_of_getElem? (i := 16) rfl) rfl)⟩
theorem cw_X7_weeksGo : zCW mX7_weeksGo 1 := ⟨(zg_5_1 _ (List.mem_of_getElem? (i := 22) rfl) rfl), ini_X7, by decide +kernel, by decide, by decide +kernel⟩
theorem iw_X7_weeksGo : zIW mX7_weeksGo := ⟨(zg_5_1 _ (List.mem_of_getElem? (i := 21) rfl) rfl), (zg_s_1 _ (List.mem_of_getElem? (i := 15) rfl) rfl)⟩
theorem cw_X7_sumOf : zCW mX7_sumOf 1 := ⟨(zg_4_6 _ (List.mem_of_getElem? (i := 24) rfl) rfl), ini_X7, by decide +kernel, by decide, by decide +kernel⟩
theorem iw_X7_sumOf : zIW mX7_sumOf := ⟨(zg_4_6 _ (List.mem_of_getElem? (i := 23) rfl) rfl), (zg_s_1 _ (List.mem_of_getElem? (i := 7) rfl) rfl)⟩
theorem cw_X7_earsBehind : zCW mX7_earsBehind 1 := ⟨(zg_5_1 _ (List.mem_of_getElem? (i := 18) rfl) rfl), ini_X7, by decide +kernel, by decide, by decide +kernel⟩
theorem iw_X7_earsBehind : zIW mX7_earsBehind := ⟨(zg_5_1 _ (List.mem_of_getElem? (i := 17) rfl) rfl), (zg_s_1 _ (List.mem_of_getElem? (i := 14) rfl) rfl)⟩
theorem cw_X7_emptyNow : zCW mX7_emptyNow 0 := ⟨(zg_5_2 _ (List.mem_of_getElem? (i := 22) rfl) rfl), ini_X7, by decide +kernel, by decide, by decide +kernel⟩
theorem iw_X7_emptyNow : zIW mX7_emptyNow := ⟨(zg_5_2 _ (List.mem_of_getElem? (i := 21) rfl) rfl), (zg_s_1 _ (List.mem_of_getElem? (i := 20) rfl) rfl)⟩
theorem cw_X7_rule : zCW mX7_rule 1 := ⟨(zg_4_6 _ (List.mem_of_getElem? (i := 5) rfl) rfl), ini_X7, by decide +kernel, by decide, by decide +kernel⟩
theorem iw_X7_rule : zIW mX7_rule := ⟨(zg_4_6 _ (List.mem_of_getElem? (i := 3) rfl) rfl), (zg_4_6 _ (List.mem_of_getElem? (i := 4) rfl) rfl)⟩
theorem cw_X7_field : zCW mX7_field 2 := ⟨(zg_4_7 _ (List.mem_of_getElem? (i := 0) rfl) rfl), ini_X7, by decide +kernel, by decide, by decide +kernel⟩
theorem iw_X7_field : zIW mX7_field := ⟨(zg_4_6 _ (List.mem_of_getElem? (i := 30) rfl) rfl), (zg_4_6 _ (List.mem_of_getElem? (i := 31) rfl) rfl)⟩
theorem cw_X7_band : zCW mX7_band 2 := ⟨(zg_5_0 _ (List.mem_of_getElem? (i := 0) rfl) rfl), ini_X7, by decide +kernel, by decide, by decide +kernel⟩
theorem iw_X7_band : zIW mX7_band := ⟨(zg_4_7 _ (List.mem_of_getElem? (i := 14) rfl) rfl), (zg_4_7 _ (List.mem_of_getElem? (i := 15) rfl) rfl)⟩
theorem cw_X7_becomes : zCW mX7_becomes 2 := ⟨(zg_5_0 _ (List.mem_of_getElem? (i := 21) rfl) rfl), ini_X7, by decide +kernel, by decide, by decide +kernel⟩
theorem iw_X7_becomes : zIW mX7_becomes := ⟨(zg_5_0 _ (List.mem_of_getElem? (i := 20) rfl) rfl), (zg_s_1 _ (List.mem_of_getElem? (i := 13) rfl) rfl)⟩
theorem cw_X7_alter : zCW mX7_alter 3 := ⟨(zg_5_0 _ (List.mem_of_getElem? (i := 11) rfl) rfl), ini_X7, by decide +kernel, by decide, by decide +kernel⟩
theorem iw_X7_alter : zIW mX7_alter := ⟨(zg_5_0 _ (List.mem_of_getElem? (i := 9) rfl) rfl), (zg_5_0 _ (List.mem_of_getElem? (i := 10) rfl) rfl)⟩
theorem cw_X7_march : zCW mX7_march 2 := ⟨(zg_5_0 _ (List.mem_of_getElem? (i := 25) rfl) rfl), ini_X7, by decide +kernel, by decide, by decide +kernel⟩
theorem iw_X7_march : zIW mX7_march := ⟨(zg_5_0 _ (List.mem_of_getElem? (i := 23) rfl) rfl), (zg_5_0 _ (List.mem_of_getElem? (i := 24) rfl) rfl)⟩
theorem cw_X7_play : zCW mX7_play 2 := ⟨(zg_5_0 _ (List.mem_of_getElem? (i := 29) rfl) rfl), ini_X7, by decide +kernel, by decide, by decide +kernel⟩
theorem iw_X7_play : zIW mX7_play := ⟨(zg_5_0 _ (List.mem_of_getElem? (i := 27) rfl) rfl), (zg_5_0 _ (List.mem_of_getElem? (i := 28) rfl) rfl)⟩
theorem cw_X7_glut : zCW mX7_glut 1 := ⟨(zg_5_1 _ (List.mem_of_getElem? (i := 1) rfl) rfl), ini_X7, by decide +kernel, by decide, by decide +kernel⟩
theorem iw_X7_glut : zIW mX7_glut := ⟨(zg_5_0 _ (List.mem_of_getElem? (i := 31) rfl) rfl), (zg_5_1 _ (List.mem_of_getElem? (i := 0) rfl) rfl)⟩
theorem cw_X7_hire : zCW mX7_hire 2 := ⟨(zg_5_1 _ (List.mem_of_getElem? (i := 5) rfl) rfl), ini_X7, by decide +kernel, by decide, by decide +kernel⟩
theorem iw_X7_hire : zIW mX7_hire := ⟨(zg_5_1 _ (List.mem_of_getElem? (i := 3) rfl) rfl), (zg_5_1 _ (List.mem_of_getElem? (i := 4) rfl) rfl)⟩
theorem cw_X7_leave : zCW mX7_leave 1 := ⟨(zg_5_1 _ (List.mem_of_getElem? (i := 9) rfl) rfl), ini_X7, by decide +kernel, by decide, by decide +kernel⟩
theorem iw_X7_leave : zIW mX7_leave := ⟨(zg_5_1 _ (List.mem_of_getElem? (i := 7) rfl) rfl), (zg_5_1 _ (List.mem_of_getElem? (i := 8) rfl) rfl)⟩
theorem cw_X7_weeks : zCW mX7_weeks 1 := ⟨(zg_5_1 _ (List.mem_of_getElem? (i := 13) rfl) rfl), ini_X7, by decide +kernel, by decide, by decide +kernel⟩
theorem iw_X7_weeks : zIW mX7_weeks := ⟨(zg_5_1 _ (List.mem_of_getElem? (i := 11) rfl) rfl), (zg_5_1 _ (List.mem_of_getElem? (i := 12) rfl) rfl)⟩
theorem cw_X7_isFar : zCW mX7_isFar 1 := ⟨(zg_5_2 _ (List.mem_of_getElem? (i := 16) rfl) rfl), ini_X7, by decide +kernel, by decide, by decide +kernel⟩
theorem sw_X7_isFar : zSW mX7_isFar := (zg_5_2 _ (List.mem_of_getElem? (i := 15) rfl) rfl)
theorem cw_X7_runs : zCW mX7_runs 2 := ⟨(zg_5_2 _ (List.mem_of_getElem? (i := 13) rfl) rfl), ini_X7, by decide +kernel, by decide, by decide +kernel⟩
theorem iw_X7_runs : zIW mX7_runs := ⟨(zg_5_2 _ (List.mem_of_getElem? (i := 11) rfl) rfl), (zg_5_2 _ (List.mem_of_getElem? (i := 12) rfl) rfl)⟩
theorem cw_X7_ahead : zCW mX7_ahead 3 := ⟨(zg_5_2 _ (List.mem_of_getElem? (i := 26) rfl) rfl), ini_X7, by decide +kernel, by decide, by decide +kernel⟩
theorem iw_X7_ahead : zIW mX7_ahead := ⟨(zg_5_2 _ (List.mem_of_getElem? (i := 24) rfl) rfl), (zg_5_2 _ (List.mem_of_getElem? (i := 25) rfl) rfl)⟩
theorem cw_X7_late : zCW mX7_late 2 := ⟨(zg_5_2 _ (List.mem_of_getElem? (i := 30) rfl) rfl), ini_X7, by decide +kernel, by decide, by decide +kernel⟩
theorem iw_X7_late : zIW mX7_late := ⟨(zg_5_2 _ (List.mem_of_getElem? (i := 28) rfl) rfl), (zg_5_2 _ (List.mem_of_getElem? (i := 29) rfl) rfl)⟩
theorem cw_X7_startsJudging : zCW mX7_startsJudging 1 := ⟨(zg_5_3 _ (List.mem_of_getElem? (i := 12) rfl) rfl), ini_X7, by decide +kernel, by decide, by decide +kernel⟩
theorem iw_X7_startsJudging : zIW mX7_startsJudging := ⟨(zg_5_3 _ (List.mem_of_getElem? (i := 11) rfl) rfl), (zg_s_1 _ (List.mem_of_getElem? (i := 22) rfl) rfl)⟩
theorem cw_X7_judges : zCW mX7_judges 2 := ⟨(zg_5_3 _ (List.mem_of_getElem? (i := 20) rfl) rfl), ini_X7, by decide +kernel, by decide, by decide +kernel⟩
theorem iw_X7_judges : zIW mX7_judges := ⟨(zg_5_3 _ (List.mem_of_getElem? (i := 19) rfl) rfl), (zg_s_1 _ (List.mem_of_getElem? (i := 24) rfl) rfl)⟩
theorem cw_X7_judged : zCW mX7_judged 1 := ⟨(zg_5_3 _ (List.mem_of_getElem? (i := 28) rfl) rfl), ini_X7, by decide +kernel, by decide, by decide +kernel⟩
theorem iw_X7_judged : zIW mX7_judged := ⟨(zg_5_3 _ (List.mem_of_getElem? (i := 27) rfl) rfl), (zg_s_1 _ (List.mem_of_getElem? (i := 25) rfl) rfl)⟩
theorem cw_X7_findOrder : zCW mX7_findOrder 0 := ⟨(zg_5_3 _ (List.mem_of_getElem? (i := 8) rfl) rfl), ini_X7, by decide +kernel, by decide, by decide +kernel⟩
theorem iw_X7_findOrder : zIW mX7_findOrder := ⟨(zg_5_3 _ (List.mem_of_getElem? (i := 7) rfl) rfl), (zg_s_1 _ (List.mem_of_getElem? (i := 21) rfl) rfl)⟩
theorem cw_X7_order : zCW mX7_order 1 := ⟨(zg_5_3 _ (List.mem_of_getElem? (i := 2) rfl) rfl), ini_X7, by decide +kernel, by decide, by decide +kernel⟩
theorem iw_X7_order : zIW mX7_order := ⟨(zg_5_3 _ (List.mem_of_getElem? (i := 0) rfl) rfl), (zg_5_3 _ (List.mem_of_getElem? (i := 1) rfl) rfl)⟩
theorem cw_X7_move : zCW mX7_move 2 := ⟨(zg_5_3 _ (List.mem_of_getElem? (i := 24) rfl) rfl), ini_X7, by decide +kernel, by decide, by decide +kernel⟩
theorem iw_X7_move : zIW mX7_move := ⟨(zg_5_3 _ (List.mem_of_getElem? (i := 22) rfl) rfl), (zg_5_3 _ (List.mem_of_getElem? (i := 23) rfl) rfl)⟩
theorem cw_X7_still : zCW mX7_still 2 := ⟨(zg_5_4 _ (List.mem_of_getElem? (i := 0) rfl) rfl), ini_X7, by decide +kernel, by decide, by decide +kernel⟩
theorem iw_X7_still : zIW mX7_still := ⟨(zg_5_3 _ (List.mem_of_getElem? (i := 30) rfl) rfl), (zg_5_3 _ (List.mem_of_getElem? (i := 31) rfl) rfl)⟩
theorem cw_X7_need : zCW mX7_need 3 := ⟨(zg_5_4 _ (List.mem_of_getElem? (i := 4) rfl) rfl), ini_X7, by decide +kernel, by decide, by decide +kernel⟩
theorem iw_X7_need : zIW mX7_need := ⟨(zg_5_4 _ (List.mem_of_getElem? (i := 2) rfl) rfl), (zg_5_4 _ (List.mem_of_getElem? (i := 3) rfl) rfl)⟩
theorem cw_X7_swap : zCW mX7_swap 2 := ⟨(zg_5_4 _ (List.mem_of_getElem? (i := 8) rfl) rfl), ini_X7, by decide +kernel, by decide, by decide +kernel⟩
theorem iw_X7_swap : zIW mX7_swap := ⟨(zg_5_4 _ (List.mem_of_getElem? (i := 6) rfl) rfl), (zg_5_4 _ (List.mem_of_getElem? (i := 7) rfl) rfl)⟩
theorem cw_X7_bear : zCW mX7_bear 3 := ⟨(zg_5_4 _ (List.mem_of_getElem? (i := 12) rfl) rfl), ini_X7, by decide +kernel, by decide, by decide +kernel⟩
theorem iw_X7_bear : zIW mX7_bear := ⟨(zg_5_4 _ (List.mem_of_getElem? (i := 10) rfl) rfl), (zg_5_4 _ (List.mem_of_getElem? (i := 11) rfl) rfl)⟩
theorem cw_X7_kind : zCW mX7_kind 3 := ⟨(zg_5_4 _ (List.mem_of_getElem? (i := 16) rfl) rfl), ini_X7, by decide +kernel, by decide, by decide +kernel⟩
theorem iw_X7_kind : zIW mX7_kind := ⟨(zg_5_4 _ (List.mem_of_getElem? (i := 14) rfl) rfl), (zg_5_4 _ (List.mem_of_getElem? (i := 15) rfl) rfl)⟩
theorem cw_X7_common : zCW mX7_common 2 := ⟨(zg_5_5 _ (List.mem_of_getElem? (i := 0) rfl) rfl), ini_X7, by decide +kernel, by decide, by decide +kernel⟩
theorem sw_X7_common : zSW mX7_common := (zg_5_4 _ (List.mem_of_getElem? (i := 31) rfl) rfl)
theorem cw_X7_lowest : zCW mX7_lowest 3 := ⟨(zg_5_4 _ (List.mem_of_getElem? (i := 29) rfl) rfl), ini_X7, by decide +kernel, by decide, by decide +kernel⟩
theorem sw_X7_lowest : zSW mX7_lowest := (zg_5_4 _ (List.mem_of_getElem? (i := 28) rfl) rfl)
theorem cw_X7_findOdds : zCW mX7_findOdds 4 := ⟨(zg_5_4 _ (List.mem_of_getElem? (i := 26) rfl) rfl), ini_X7, by decide +kernel, by decide, by decide +kernel⟩
theorem iw_X7_findOdds : zIW mX7_findOdds := ⟨(zg_5_4 _ (List.mem_of_getElem? (i := 25) rfl) rfl), (zg_s_1 _ (List.mem_of_getElem? (i := 26) rfl) rfl)⟩
theorem cw_X7_luck : zCW mX7_luck 5 := ⟨(zg_5_4 _ (List.mem_of_getElem? (i := 20) rfl) rfl), ini_X7, by decide +kernel, by decide, by decide +kernel⟩
theorem iw_X7_luck : zIW mX7_luck := ⟨(zg_5_4 _ (List.mem_of_getElem? (i := 18) rfl) rfl), (zg_5_4 _ (List.mem_of_getElem? (i := 19) rfl) rfl)⟩
theorem cw_X7_mean : zCW mX7_mean 3 := ⟨(zg_5_5 _ (List.mem_of_getElem? (i := 4) rfl) rfl), ini_X7, by decide +kernel, by decide, by decide +kernel⟩
theorem iw_X7_mean : zIW mX7_mean := ⟨(zg_5_5 _ (List.mem_of_getElem? (i := 2) rfl) rfl), (zg_5_5 _ (List.mem_of_getElem? (i := 3) rfl) rfl)⟩
theorem cw_X7_see : zCW mX7_see 3 := ⟨(zg_5_5 _ (List.mem_of_getElem? (i := 8) rfl) rfl), ini_X7, by decide +kernel, by decide, by decide +kernel⟩
theorem iw_X7_see : zIW mX7_see := ⟨(zg_5_5 _ (List.mem_of_getElem? (i := 6) rfl) rfl), (zg_5_5 _ (List.mem_of_getElem? (i := 7) rfl) rfl)⟩
theorem cw_X7_forget : zCW mX7_forget 1 := ⟨(zg_5_5 _ (List.mem_of_getElem? (i := 13) rfl) rfl), ini_X7, by decide +kernel, by decide, by decide +kernel⟩
theorem iw_X7_forget : zIW mX7_forget := ⟨(zg_5_5 _ (List.mem_of_getElem? (i := 11) rfl) rfl), (zg_5_5 _ (List.mem_of_getElem? (i := 12) rfl) rfl)⟩
theorem cw_X7_isSoWith : zCW mX7_isSoWith 2 := ⟨(zg_5_5 _ (List.mem_of_getElem? (i := 25) rfl) rfl), ini_X7, by decide +kernel, by decide, by decide +kernel⟩
theorem iw_X7_isSoWith : zIW mX7_isSoWith := ⟨(zg_5_5 _ (List.mem_of_getElem? (i := 24) rfl) rfl), (zg_s_1 _ (List.mem_of_getElem? (i := 28) rfl) rfl)⟩
theorem cw_X7_which : zCW mX7_which 2 := ⟨(zg_5_5 _ (List.mem_of_getElem? (i := 21) rfl) rfl), ini_X7, by decide +kernel, by decide, by decide +kernel⟩
theorem iw_X7_which : zIW mX7_which := ⟨(zg_5_5 _ (List.mem_of_getElem? (i := 20) rfl) rfl), (zg_s_1 _ (List.mem_of_getElem? (i := 27) rfl) rfl)⟩
theorem cw_X7_kinds : zCW mX7_kinds 1 := ⟨(zg_5_5 _ (List.mem_of_getElem? (i := 17) rfl) rfl), ini_X7, by decide +kernel, by decide, by decide +kernel⟩
theorem iw_X7_kinds : zIW mX7_kinds := ⟨(zg_5_5 _ (List.mem_of_getElem? (i := 15) rfl) rfl), (zg_5_5 _ (List.mem_of_getElem? (i := 16) rfl) rfl)⟩
theorem cw_X7_blights : zCW mX7_blights 1 := ⟨(zg_5_5 _ (List.mem_of_getElem? (i := 29) rfl) rfl), ini_X7, by decide +kernel, by decide, by decide +kernel⟩
theorem iw_X7_blights : zIW mX7_blights := ⟨(zg_5_5 _ (List.mem_of_getElem? (i := 27) rfl) rfl), (zg_5_5 _ (List.mem_of_getElem? (i := 28) rfl) rfl)⟩
theorem cw_X7_ask : zCW mX7_ask 2 := ⟨(zg_5_6 _ (List.mem_of_getElem? (i := 1) rfl) rfl), ini_X7, by decide +kernel, by decide, by decide +kernel⟩
theorem iw_X7_ask : zIW mX7_ask := ⟨(zg_5_5 _ (List.mem_of_getElem? (i := 31) rfl) rfl), (zg_5_6 _ (List.mem_of_getElem? (i := 0) rfl) rfl)⟩
theorem cw_X7_drift : zCW mX7_drift 3 := ⟨(zg_5_6 _ (List.mem_of_getElem? (i := 5) rfl) rfl), ini_X7, by decide +kernel, by decide, by decide +kernel⟩
theorem iw_X7_drift : zIW mX7_drift := ⟨(zg_5_6 _ (List.mem_of_getElem? (i := 3) rfl) rfl), (zg_5_6 _ (List.mem_of_getElem? (i := 4) rfl) rfl)⟩
theorem cw_X7_copies : zCW mX7_copies 2 := ⟨(zg_5_6 _ (List.mem_of_getElem? (i := 14) rfl) rfl), ini_X7, by decide +kernel, by decide, by decide +kernel⟩
theorem iw_X7_copies : zIW mX7_copies := ⟨(zg_5_6 _ (List.mem_of_getElem? (i := 13) rfl) rfl), (zg_s_1 _ (List.mem_of_getElem? (i := 29) rfl) rfl)⟩
theorem cw_X7_keep : zCW mX7_keep 1 := ⟨(zg_5_6 _ (List.mem_of_getElem? (i := 10) rfl) rfl), ini_X7, by decide +kernel, by decide, by decide +kernel⟩
theorem iw_X7_keep : zIW mX7_keep := ⟨(zg_5_6 _ (List.mem_of_getElem? (i := 8) rfl) rfl), (zg_5_6 _ (List.mem_of_getElem? (i := 9) rfl) rfl)⟩
theorem cw_X7_back : zCW mX7_back 1 := ⟨(zg_5_6 _ (List.mem_of_getElem? (i := 18) rfl) rfl), ini_X7, by decide +kernel, by decide, by decide +kernel⟩
theorem iw_X7_back : zIW mX7_back := ⟨(zg_5_6 _ (List.mem_of_getElem? (i := 16) rfl) rfl), (zg_5_6 _ (List.mem_of_getElem? (i := 17) rfl) rfl)⟩
theorem cw_X7_isSheet : zCW mX7_isSheet 2 := ⟨(zg_5_6 _ (List.mem_of_getElem? (i := 25) rfl) rfl), ini_X7, by decide +kernel, by decide, by decide +kernel⟩
theorem sw_X7_isSheet : zSW mX7_isSheet := (zg_5_6 _ (List.mem_of_getElem? (i := 24) rfl) rfl)
theorem cw_X7_sheet : zCW mX7_sheet 3 := ⟨(zg_5_6 _ (List.mem_of_getElem? (i := 22) rfl) rfl), ini_X7, by decide +kernel, by decide, by decide +kernel⟩
theorem iw_X7_sheet : zIW mX7_sheet := ⟨(zg_5_6 _ (List.mem_of_getElem? (i := 20) rfl) rfl), (zg_5_6 _ (List.mem_of_getElem? (i := 21) rfl) rfl)⟩
theorem cw_X7_lay : zCW mX7_lay 3 := ⟨(zg_5_6 _ (List.mem_of_getElem? (i := 30) rfl) rfl), ini_X7, by decide +kernel, by decide, by decide +kernel⟩
theorem iw_X7_lay : zIW mX7_lay := ⟨(zg_5_6 _ (List.mem_of_getElem? (i := 28) rfl) rfl), (zg_5_6 _ (List.mem_of_getElem? (i := 29) rfl) rfl)⟩
theorem cw_X7_read : zCW mX7_read 4 := ⟨(zg_5_7 _ (List.mem_of_getElem? (i := 2) rfl) rfl), ini_X7, by decide +kernel, by decide, by decide +kernel⟩
theorem iw_X7_read : zIW mX7_read := ⟨(zg_5_7 _ (List.mem_of_getElem? (i := 0) rfl) rfl), (zg_5_7 _ (List.mem_of_getElem? (i := 1) rfl) rfl)⟩
theorem cw_X7_torn : zCW mX7_torn 0 := ⟨(zg_5_7 _ (List.mem_of_getElem? (i := 7) rfl) rfl), ini_X7, by decide +kernel, by decide, by decide +kernel⟩
theorem iw_X7_torn : zIW mX7_torn := ⟨(zg_5_7 _ (List.mem_of_getElem? (i := 5) rfl) rfl), (zg_5_7 _ (List.mem_of_getElem? (i := 6) rfl) rfl)⟩
theorem cw_X7_count : zCW mX7_count 1 := ⟨(zg_5_7 _ (List.mem_of_getElem? (i := 11) rfl) rfl), ini_X7, by decide +kernel, by decide, by decide +kernel⟩
theorem iw_X7_count : zIW mX7_count := ⟨(zg_5_7 _ (List.mem_of_getElem? (i := 9) rfl) rfl), (zg_5_7 _ (List.mem_of_getElem? (i := 10) rfl) rfl)⟩
theorem cw_J0_length_8abf5 : zCW mJ0_length_8abf5 0 := ⟨(zg_2_2 _ (List.mem_of_getElem? (i := 9) rfl) rfl), ini_J0, by decide +kernel, by decide, by decide +kernel⟩
theorem iw_J0_length_8abf5 : zIW mJ0_length_8abf5 := ⟨(zg_2_2 _ (List.mem_of_getElem? (i := 7) rfl) rfl), (zg_2_2 _ (List.mem_of_getElem? (i := 8) rfl) rfl)⟩
theorem cw_J0_charAt_5068e : zCW mJ0_charAt_5068e 1 := ⟨(zg_2_2 _ (List.mem_of_getElem? (i := 19) rfl) rfl), ini_J0, by decide +kernel, by decide, by decide +kernel⟩
theorem iw_J0_charAt_5068e : zIW mJ0_charAt_5068e := ⟨(zg_2_2 _ (List.mem_of_getElem? (i := 17) rfl) rfl), (zg_2_2 _ (List.mem_of_getElem? (i := 18) rfl) rfl)⟩
theorem cw_J0_coder_7d493 : zCW mJ0_coder_7d493 0 := ⟨(zg_2_2 _ (List.mem_of_getElem? (i := 13) rfl) rfl), ini_J0, by decide +kernel, by decide, by decide +kernel⟩
theorem iw_J0_coder_7d493 : zIW mJ0_coder_7d493 := ⟨(zg_2_2 _ (List.mem_of_getElem? (i := 11) rfl) rfl), (zg_2_2 _ (List.mem_of_getElem? (i := 12) rfl) rfl)⟩
theorem cw_J0_isLatin1_aae02 : zCW mJ0_isLatin1_aae02 0 := ⟨(zg_2_2 _ (List.mem_of_getElem? (i := 23) rfl) rfl), ini_J0, by decide +kernel, by decide, by decide +kernel⟩
theorem iw_J0_isLatin1_aae02 : zIW mJ0_isLatin1_aae02 := ⟨(zg_2_2 _ (List.mem_of_getElem? (i := 21) rfl) rfl), (zg_2_2 _ (List.mem_of_getElem? (i := 22) rfl) rfl)⟩
theorem cw_J0_checkIndex_df160 : zCW mJ0_checkIndex_df160 2 := ⟨(zg_2_2 _ (List.mem_of_getElem? (i := 29) rfl) rfl), ini_J0, by decide +kernel, by decide, by decide +kernel⟩
theorem sw_J0_checkIndex_df160 : zSW mJ0_checkIndex_df160 := (zg_2_2 _ (List.mem_of_getElem? (i := 28) rfl) rfl)
theorem cw_J1_charAt_3b067 : zCW mJ1_charAt_3b067 2 := ⟨(zg_2_2 _ (List.mem_of_getElem? (i := 26) rfl) rfl), ini_J1, by decide +kernel, by decide, by decide +kernel⟩
theorem sw_J1_charAt_3b067 : zSW mJ1_charAt_3b067 := (zg_2_2 _ (List.mem_of_getElem? (i := 25) rfl) rfl)
theorem cw_J2_getChar_3b067 : zCW mJ2_getChar_3b067 2 := ⟨(zg_2_3 _ (List.mem_of_getElem? (i := 15) rfl) rfl), ini_J2, by decide +kernel, by decide, by decide +kernel⟩
theorem sw_J2_getChar_3b067 : zSW mJ2_getChar_3b067 := (zg_2_3 _ (List.mem_of_getElem? (i := 14) rfl) rfl)
theorem cw_J2_length_9d52b : zCW mJ2_length_9d52b 1 := ⟨(zg_2_3 _ (List.mem_of_getElem? (i := 11) rfl) rfl), ini_J2, by decide +kernel, by decide, by decide +kernel⟩
theorem sw_J2_length_9d52b : zSW mJ2_length_9d52b := (zg_2_3 _ (List.mem_of_getElem? (i := 10) rfl) rfl)
theorem cw_J2_charAt_3b067 : zCW mJ2_charAt_3b067 2 := ⟨(zg_2_3 _ (List.mem_of_getElem? (i := 5) rfl) rfl), ini_J2, by decide +kernel, by decide, by decide +kernel⟩
theorem sw_J2_charAt_3b067 : zSW mJ2_charAt_3b067 := (zg_2_3 _ (List.mem_of_getElem? (i := 4) rfl) rfl)
theorem cw_J2_checkIndex_2214a : zCW mJ2_checkIndex_2214a 2 := ⟨(zg_2_3 _ (List.mem_of_getElem? (i := 8) rfl) rfl), ini_J2, by decide +kernel, by decide, by decide +kernel⟩
theorem sw_J2_checkIndex_2214a : zSW mJ2_checkIndex_2214a := (zg_2_3 _ (List.mem_of_getElem? (i := 7) rfl) rfl)
theorem cw_J3_checkIndex_8e157 : zCW mJ3_checkIndex_8e157 3 := ⟨(zg_2_3 _ (List.mem_of_getElem? (i := 2) rfl) rfl), ini_J3, by decide +kernel, by decide, by decide +kernel⟩
theorem sw_J3_checkIndex_8e157 : zSW mJ3_checkIndex_8e157 := (zg_2_3 _ (List.mem_of_getElem? (i := 1) rfl) rfl)
theorem ml_L_9 : zML RL 9 mX6_init := (zg_1_0 _ (List.mem_of_getElem? (i := 17) rfl) rfl)
theorem ml_X6_9 : zMN RX6 9 mX2_init RX6 := (zg_1_0 _ (List.mem_of_getElem? (i := 25) rfl) rfl)
theorem ml_X6_29 : zMN RX6 29 mX5_init RX6 := (zg_1_3 _ (List.mem_of_getElem? (i := 1) rfl) rfl)
theorem ml_X6_36 : zMN RX6 36 mX3_init RX6 := (zg_1_4 _ (List.mem_of_getElem? (i := 8) rfl) rfl)
theorem ml_X6_43 : zMN RX6 43 mX1_init RX6 := (zg_1_5 _ (List.mem_of_getElem? (i := 3) rfl) rfl)
theorem ml_X6_50 : zMN RX6 50 mX0_init RX6 := (zg_1_5 _ (List.mem_of_getElem? (i := 23) rfl) rfl)
theorem ml_X6_57 : zMN RX6 57 mX4_init RX6 := (zg_1_6 _ (List.mem_of_getElem? (i := 8) rfl) rfl)
theorem ml_L_13 : zML RL 13 mX6_feed := (zg_2_0 _ (List.mem_of_getElem? (i := 7) rfl) rfl)
theorem ml_X6_66 : zML RX6 66 mX6_within := (zg_2_0 _ (List.mem_of_getElem? (i := 11) rfl) rfl)
theorem ml_X6_70 : zML RX6 70 mX5_append := (zg_2_0 _ (List.mem_of_getElem? (i := 14) rfl) rfl)
theorem ml_L_18 : zML RL 18 mX6_end := (zg_2_0 _ (List.mem_of_getElem? (i := 18) rfl) rfl)
theorem ml_L_22 : zML RL 22 mX6_text := (zg_2_0 _ (List.mem_of_getElem? (i := 22) rfl) rfl)
theorem ml_X6_77 : zML RX6 77 mX5_tellAll := (zg_2_0 _ (List.mem_of_getElem? (i := 26) rfl) rfl)
theorem ml_X5_41 : zML RX5 41 mX2_clear := (zg_2_0 _ (List.mem_of_getElem? (i := 30) rfl) rfl)
theorem ml_X5_46 : zML RX5 46 mX5_nextToken := (zg_2_1 _ (List.mem_of_getElem? (i := 2) rfl) rfl)
theorem ml_X5_105 : zML RX5 105 mX5_stretch := (zg_2_1 _ (List.mem_of_getElem? (i := 6) rfl) rfl)
theorem ml_X5_109 : zML RX5 109 mX5_readNumber := (zg_2_1 _ (List.mem_of_getElem? (i := 10) rfl) rfl)
theorem ml_X5_113 : zML RX5 113 mJ9_max_7cf53 := (zg_2_1 _ (List.mem_of_getElem? (i := 14) rfl) rfl)
theorem ml_X5_49 : zML RX5 49 mX5_takeLine := (zg_2_1 _ (List.mem_of_getElem? (i := 17) rfl) rfl)
theorem ml_X5_67 : zML RX5 67 mX5_isToken := (zg_2_1 _ (List.mem_of_getElem? (i := 21) rfl) rfl)
theorem ml_X5_63 : zML RX5 63 mX5_refuse := (zg_2_1 _ (List.mem_of_getElem? (i := 25) rfl) rfl)
theorem ml_X5_71 : zML RX5 71 mX5_lineBegun := (zg_2_1 _ (List.mem_of_getElem? (i := 29) rfl) rfl)
theorem ml_X5_120 : zML RX5 120 mX5_isNamed := (zg_2_2 _ (List.mem_of_getElem? (i := 2) rfl) rfl)
theorem ml_X5_134 : zML RX5 134 mJ0_length_8abf5 := (zg_2_2 _ (List.mem_of_getElem? (i := 6) rfl) rfl)
theorem ml_J0_335 : zML RJ0 335 mJ0_coder_7d493 := (zg_2_2 _ (List.mem_of_getElem? (i := 10) rfl) rfl)
theorem ml_X5_138 : zML RX5 138 mJ0_charAt_5068e := (zg_2_2 _ (List.mem_of_getElem? (i := 16) rfl) rfl)
theorem ml_J0_492 : zML RJ0 492 mJ0_isLatin1_aae02 := (zg_2_2 _ (List.mem_of_getElem? (i := 20) rfl) rfl)
theorem ml_J0_495 : zML RJ0 495 mJ1_charAt_3b067 := (zg_2_2 _ (List.mem_of_getElem? (i := 24) rfl) rfl)
theorem ml_J1_9 : zML RJ1 9 mJ0_checkIndex_df160 := (zg_2_2 _ (List.mem_of_getElem? (i := 27) rfl) rfl)
theorem ml_J0_1059 : zML RJ0 1059 mJ3_checkIndex_8e157 := (zg_2_3 _ (List.mem_of_getElem? (i := 0) rfl) rfl)
theorem ml_J0_498 : zML RJ0 498 mJ2_charAt_3b067 := (zg_2_3 _ (List.mem_of_getElem? (i := 3) rfl) rfl)
theorem ml_J2_67 : zML RJ2 67 mJ2_checkIndex_2214a := (zg_2_3 _ (List.mem_of_getElem? (i := 6) rfl) rfl)
theorem ml_J2_48 : zML RJ2 48 mJ2_length_9d52b := (zg_2_3 _ (List.mem_of_getElem? (i := 9) rfl) rfl)
theorem ml_J2_414 : zML RJ2 414 mJ0_checkIndex_df160 := (zg_2_3 _ (List.mem_of_getElem? (i := 12) rfl) rfl)
theorem ml_J2_71 : zML RJ2 71 mJ2_getChar_3b067 := (zg_2_3 _ (List.mem_of_getElem? (i := 13) rfl) rfl)
theorem ml_X5_75 : zML RX5 75 mX5_takeGlut := (zg_2_3 _ (List.mem_of_getElem? (i := 27) rfl) rfl)
theorem ml_X5_85 : zML RX5 85 mX5_takeNumber := (zg_2_3 _ (List.mem_of_getElem? (i := 31) rfl) rfl)
theorem ml_X5_102 : zMN RX5 102 mX6_within RX6 := (zg_2_4 _ (List.mem_of_getElem? (i := 3) rfl) rfl)
theorem ml_X5_88 : zML RX5 88 mX5_takeSemicolon := (zg_2_4 _ (List.mem_of_getElem? (i := 4) rfl) rfl)
theorem ml_X5_78 : zML RX5 78 mX5_takeBand := (zg_2_4 _ (List.mem_of_getElem? (i := 8) rfl) rfl)
theorem ml_X5_96 : zML RX5 96 mX2_addBand := (zg_2_4 _ (List.mem_of_getElem? (i := 12) rfl) rfl)
theorem ml_X5_81 : zML RX5 81 mX5_takeField := (zg_2_4 _ (List.mem_of_getElem? (i := 16) rfl) rfl)
theorem ml_X5_92 : zML RX5 92 mX2_addField := (zg_2_4 _ (List.mem_of_getElem? (i := 20) rfl) rfl)
theorem ml_X6_84 : zML RX6 84 mX2_copyFrom := (zg_2_4 _ (List.mem_of_getElem? (i := 24) rfl) rfl)
theorem ml_L_27 : zML RL 27 mX6_fault := (zg_2_4 _ (List.mem_of_getElem? (i := 31) rfl) rfl)
theorem ml_L_31 : zML RL 31 mX6_rule := (zg_2_5 _ (List.mem_of_getElem? (i := 3) rfl) rfl)
theorem ml_X6_103 : zML RX6 103 mX2_allEars := (zg_2_5 _ (List.mem_of_getElem? (i := 7) rfl) rfl)
theorem ml_X2_61 : zML RX2 61 mX2_sumOf := (zg_2_5 _ (List.mem_of_getElem? (i := 11) rfl) rfl)
theorem ml_X6_110 : zML RX6 110 mX2_hearingFields := (zg_2_5 _ (List.mem_of_getElem? (i := 14) rfl) rfl)
theorem ml_L_35 : zML RL 35 mX6_field := (zg_2_5 _ (List.mem_of_getElem? (i := 18) rfl) rfl)
theorem ml_X6_113 : zML RX6 113 mX6_isField := (zg_2_5 _ (List.mem_of_getElem? (i := 22) rfl) rfl)
theorem ml_X6_116 : zML RX6 116 mX2_heardAt := (zg_2_5 _ (List.mem_of_getElem? (i := 26) rfl) rfl)
theorem ml_X6_130 : zML RX6 130 mX6_growth := (zg_2_5 _ (List.mem_of_getElem? (i := 30) rfl) rfl)
theorem ml_X6_134 : zML RX6 134 mX6_heed := (zg_2_6 _ (List.mem_of_getElem? (i := 1) rfl) rfl)
theorem ml_L_40 : zML RL 40 mX6_band := (zg_2_6 _ (List.mem_of_getElem? (i := 4) rfl) rfl)
theorem ml_X6_137 : zML RX6 137 mX6_isBand := (zg_2_6 _ (List.mem_of_getElem? (i := 8) rfl) rfl)
theorem ml_L_44 : zML RL 44 mX6_alter := (zg_2_6 _ (List.mem_of_getElem? (i := 12) rfl) rfl)
theorem ml_X6_146 : zML RX6 146 mX6_replace := (zg_2_6 _ (List.mem_of_getElem? (i := 16) rfl) rfl)
theorem ml_L_49 : zML RL 49 mX6_march := (zg_2_6 _ (List.mem_of_getElem? (i := 19) rfl) rfl)
theorem ml_L_53 : zML RL 53 mX6_play := (zg_2_6 _ (List.mem_of_getElem? (i := 23) rfl) rfl)
theorem ml_L_57 : zML RL 57 mX6_glut := (zg_2_6 _ (List.mem_of_getElem? (i := 27) rfl) rfl)
theorem ml_L_61 : zML RL 61 mX6_hire := (zg_2_6 _ (List.mem_of_getElem? (i := 31) rfl) rfl)
theorem ml_X6_150 : zML RX6 150 mX2_addBand := (zg_2_7 _ (List.mem_of_getElem? (i := 3) rfl) rfl)
theorem ml_L_65 : zML RL 65 mX6_leave := (zg_2_7 _ (List.mem_of_getElem? (i := 4) rfl) rfl)
theorem ml_L_69 : zML RL 69 mX6_weeks := (zg_2_7 _ (List.mem_of_getElem? (i := 8) rfl) rfl)
theorem ml_X6_154 : zML RX6 154 mX2_passWeeks := (zg_2_7 _ (List.mem_of_getElem? (i := 12) rfl) rfl)
theorem ml_X2_86 : zML RX2 86 mX2_passWeek := (zg_3_0 _ (List.mem_of_getElem? (i := 0) rfl) rfl)
theorem ml_X2_65 : zML RX2 65 mX2_heardAt := (zg_3_0 _ (List.mem_of_getElem? (i := 4) rfl) rfl)
theorem ml_X2_69 : zMN RX2 69 mX6_earsNext RX6 := (zg_3_0 _ (List.mem_of_getElem? (i := 5) rfl) rfl)
theorem ml_X6_277 : zML RX6 277 mJ9_min_7cf53 := (zg_3_0 _ (List.mem_of_getElem? (i := 8) rfl) rfl)
theorem ml_X6_282 : zML RX6 282 mJ9_max_7cf53 := (zg_3_0 _ (List.mem_of_getElem? (i := 11) rfl) rfl)
theorem ml_X2_73 : zMN RX2 73 mX6_blightNext RX6 := (zg_3_0 _ (List.mem_of_getElem? (i := 12) rfl) rfl)
theorem ml_X2_77 : zML RX2 77 mJ9_min_7cf53 := (zg_3_0 _ (List.mem_of_getElem? (i := 15) rfl) rfl)
theorem ml_X2_83 : zML RX2 83 mJ9_max_7cf53 := (zg_3_0 _ (List.mem_of_getElem? (i := 16) rfl) rfl)
theorem ml_L_73 : zML RL 73 mX6_runs := (zg_3_0 _ (List.mem_of_getElem? (i := 17) rfl) rfl)
theorem ml_X6_157 : zML RX6 157 mX2_allBlight := (zg_3_0 _ (List.mem_of_getElem? (i := 21) rfl) rfl)
theorem ml_X6_160 : zML RX6 160 mX2_earlessFields := (zg_3_0 _ (List.mem_of_getElem? (i := 25) rfl) rfl)
theorem ml_L_77 : zML RL 77 mX6_ahead := (zg_3_0 _ (List.mem_of_getElem? (i := 29) rfl) rfl)
theorem ml_X6_163 : zML RX6 163 mX2_earsIf := (zg_3_1 _ (List.mem_of_getElem? (i := 1) rfl) rfl)
theorem ml_X2_90 : zMN RX2 90 mX6_earsBehind RX6 := (zg_3_1 _ (List.mem_of_getElem? (i := 5) rfl) rfl)
theorem ml_X6_171 : zML RX6 171 mX6_earsNext := (zg_3_1 _ (List.mem_of_getElem? (i := 8) rfl) rfl)
theorem ml_X6_174 : zML RX6 174 mX6_blightNext := (zg_3_1 _ (List.mem_of_getElem? (i := 9) rfl) rfl)
theorem ml_X6_167 : zML RX6 167 mX6_blightBehind := (zg_3_1 _ (List.mem_of_getElem? (i := 10) rfl) rfl)
theorem ml_L_81 : zML RL 81 mX6_late := (zg_3_1 _ (List.mem_of_getElem? (i := 13) rfl) rfl)
theorem ml_L_85 : zML RL 85 mX6_order := (zg_3_1 _ (List.mem_of_getElem? (i := 17) rfl) rfl)
theorem ml_X6_177 : zML RX6 177 mX3_findBest := (zg_3_1 _ (List.mem_of_getElem? (i := 21) rfl) rfl)
theorem ml_X3_31 : zML RX3 31 mX3_weigh := (zg_3_1 _ (List.mem_of_getElem? (i := 25) rfl) rfl)
theorem ml_X3_58 : zML RX3 58 mX2_earsIf := (zg_3_1 _ (List.mem_of_getElem? (i := 29) rfl) rfl)
theorem ml_X3_35 : zML RX3 35 mX3_beginRows := (zg_3_1 _ (List.mem_of_getElem? (i := 30) rfl) rfl)
theorem ml_X3_52 : zML RX3 52 mX3_nextRow := (zg_3_2 _ (List.mem_of_getElem? (i := 3) rfl) rfl)
theorem ml_X3_62 : zML RX3 62 mX3_place := (zg_3_2 _ (List.mem_of_getElem? (i := 7) rfl) rfl)
theorem ml_X3_66 : zML RX3 66 mX3_toggle := (zg_3_2 _ (List.mem_of_getElem? (i := 11) rfl) rfl)
theorem ml_L_89 : zML RL 89 mX6_move := (zg_3_2 _ (List.mem_of_getElem? (i := 15) rfl) rfl)
theorem ml_X6_186 : zML RX6 186 mX2_gainBy := (zg_3_2 _ (List.mem_of_getElem? (i := 19) rfl) rfl)
theorem ml_X2_94 : zML RX2 94 mX2_earsIf := (zg_3_2 _ (List.mem_of_getElem? (i := 23) rfl) rfl)
theorem ml_X6_189 : zML RX6 189 mX2_allEarsBehind := (zg_3_2 _ (List.mem_of_getElem? (i := 24) rfl) rfl)
theorem ml_L_93 : zML RL 93 mX6_still := (zg_3_2 _ (List.mem_of_getElem? (i := 28) rfl) rfl)
theorem ml_X6_192 : zML RX6 192 mX6_sheavesWithout := (zg_3_3 _ (List.mem_of_getElem? (i := 0) rfl) rfl)
theorem ml_L_97 : zML RL 97 mX6_need := (zg_3_3 _ (List.mem_of_getElem? (i := 4) rfl) rfl)
theorem ml_L_101 : zML RL 101 mX6_swap := (zg_3_3 _ (List.mem_of_getElem? (i := 8) rfl) rfl)
theorem ml_L_105 : zML RL 105 mX6_bear := (zg_3_3 _ (List.mem_of_getElem? (i := 12) rfl) rfl)
theorem ml_X6_195 : zML RX6 195 mX6_earsBehind := (zg_3_3 _ (List.mem_of_getElem? (i := 16) rfl) rfl)
theorem ml_L_109 : zML RL 109 mX6_kind := (zg_3_3 _ (List.mem_of_getElem? (i := 17) rfl) rfl)
theorem ml_L_113 : zML RL 113 mX6_luck := (zg_3_3 _ (List.mem_of_getElem? (i := 21) rfl) rfl)
theorem ml_X6_201 : zML RX6 201 mX1_fallOn := (zg_3_3 _ (List.mem_of_getElem? (i := 26) rfl) rfl)
theorem ml_X1_26 : zML RX1 26 mX2_heardAt := (zg_3_3 _ (List.mem_of_getElem? (i := 30) rfl) rfl)
theorem ml_X1_34 : zML RX1 34 mX1_part := (zg_3_3 _ (List.mem_of_getElem? (i := 31) rfl) rfl)
theorem ml_X1_45 : zML RX1 45 mJ9_min_7cf53 := (zg_3_4 _ (List.mem_of_getElem? (i := 3) rfl) rfl)
theorem ml_X1_41 : zML RX1 41 mX1_passWeek := (zg_3_4 _ (List.mem_of_getElem? (i := 4) rfl) rfl)
theorem ml_X1_51 : zMN RX1 51 mX6_earsNext RX6 := (zg_3_4 _ (List.mem_of_getElem? (i := 8) rfl) rfl)
theorem ml_X1_55 : zMN RX1 55 mX6_blightNext RX6 := (zg_3_4 _ (List.mem_of_getElem? (i := 9) rfl) rfl)
theorem ml_X6_205 : zML RX6 205 mX1_weightOf := (zg_3_4 _ (List.mem_of_getElem? (i := 10) rfl) rfl)
theorem ml_X6_209 : zML RX6 209 mX6_tenToThe := (zg_3_4 _ (List.mem_of_getElem? (i := 14) rfl) rfl)
theorem ml_X6_212 : zML RX6 212 mX6_lowestTerms := (zg_3_4 _ (List.mem_of_getElem? (i := 18) rfl) rfl)
theorem ml_L_118 : zML RL 118 mX6_mean := (zg_3_4 _ (List.mem_of_getElem? (i := 21) rfl) rfl)
theorem ml_X6_216 : zML RX6 216 mX1_weighedEars := (zg_3_4 _ (List.mem_of_getElem? (i := 25) rfl) rfl)
theorem ml_L_123 : zML RL 123 mX6_see := (zg_3_4 _ (List.mem_of_getElem? (i := 29) rfl) rfl)
theorem ml_X6_222 : zML RX6 222 mX2_addSeen := (zg_3_5 _ (List.mem_of_getElem? (i := 1) rfl) rfl)
theorem ml_L_127 : zML RL 127 mX6_forget := (zg_3_5 _ (List.mem_of_getElem? (i := 5) rfl) rfl)
theorem ml_L_131 : zML RL 131 mX6_kinds := (zg_3_5 _ (List.mem_of_getElem? (i := 9) rfl) rfl)
theorem ml_X6_228 : zML RX6 228 mX2_isAsSeen := (zg_3_5 _ (List.mem_of_getElem? (i := 13) rfl) rfl)
theorem ml_L_135 : zML RL 135 mX6_blights := (zg_3_5 _ (List.mem_of_getElem? (i := 17) rfl) rfl)
theorem ml_X6_231 : zML RX6 231 mX6_blightsAsSeen := (zg_3_5 _ (List.mem_of_getElem? (i := 21) rfl) rfl)
theorem ml_L_139 : zML RL 139 mX6_ask := (zg_3_5 _ (List.mem_of_getElem? (i := 25) rfl) rfl)
theorem ml_X6_234 : zML RX6 234 mX0_begin := (zg_3_5 _ (List.mem_of_getElem? (i := 29) rfl) rfl)
theorem ml_X6_241 : zML RX6 241 mX0_largestGroup := (zg_3_6 _ (List.mem_of_getElem? (i := 1) rfl) rfl)
theorem ml_X0_30 : zML RX0 30 mJ9_max_7cf53 := (zg_3_6 _ (List.mem_of_getElem? (i := 5) rfl) rfl)
theorem ml_X6_244 : zML RX6 244 mX0_passWeek := (zg_3_6 _ (List.mem_of_getElem? (i := 6) rfl) rfl)
theorem ml_X0_22 : zMN RX0 22 mX6_earsNext RX6 := (zg_3_6 _ (List.mem_of_getElem? (i := 10) rfl) rfl)
theorem ml_X0_26 : zMN RX0 26 mX6_blightNext RX6 := (zg_3_6 _ (List.mem_of_getElem? (i := 11) rfl) rfl)
theorem ml_L_143 : zML RL 143 mX6_drift := (zg_3_6 _ (List.mem_of_getElem? (i := 12) rfl) rfl)
theorem ml_X6_248 : zML RX6 248 mX2_passWeek := (zg_3_6 _ (List.mem_of_getElem? (i := 17) rfl) rfl)
theorem ml_L_147 : zML RL 147 mX6_keep := (zg_3_6 _ (List.mem_of_getElem? (i := 18) rfl) rfl)
theorem ml_L_151 : zML RL 151 mX6_back := (zg_3_6 _ (List.mem_of_getElem? (i := 22) rfl) rfl)
theorem ml_L_155 : zML RL 155 mX6_sheet := (zg_3_6 _ (List.mem_of_getElem? (i := 26) rfl) rfl)
theorem ml_X6_250 : zML RX6 250 mX4_renew := (zg_3_6 _ (List.mem_of_getElem? (i := 30) rfl) rfl)
theorem ml_L_159 : zML RL 159 mX6_lay := (zg_3_7 _ (List.mem_of_getElem? (i := 2) rfl) rfl)
theorem ml_X6_257 : zML RX6 257 mX4_faultAt := (zg_3_7 _ (List.mem_of_getElem? (i := 6) rfl) rfl)
theorem ml_X4_21 : zMN RX4 21 mX6_within RX6 := (zg_3_7 _ (List.mem_of_getElem? (i := 10) rfl) rfl)
theorem ml_X6_260 : zML RX6 260 mX4_put := (zg_3_7 _ (List.mem_of_getElem? (i := 11) rfl) rfl)
theorem ml_X4_29 : zML RX4 29 mX4_lowestBits := (zg_3_7 _ (List.mem_of_getElem? (i := 15) rfl) rfl)
theorem ml_L_163 : zML RL 163 mX6_read := (zg_4_0 _ (List.mem_of_getElem? (i := 2) rfl) rfl)
theorem ml_X6_263 : zML RX6 263 mX4_pairFault := (zg_4_0 _ (List.mem_of_getElem? (i := 6) rfl) rfl)
theorem ml_X4_25 : zML RX4 25 mX4_faultAt := (zg_4_0 _ (List.mem_of_getElem? (i := 10) rfl) rfl)
theorem ml_X6_266 : zML RX6 266 mX4_get := (zg_4_0 _ (List.mem_of_getElem? (i := 11) rfl) rfl)
theorem ml_X6_269 : zML RX6 269 mX6_march := (zg_4_0 _ (List.mem_of_getElem? (i := 15) rfl) rfl)
theorem ml_L_168 : zML RL 168 mX6_torn := (zg_4_0 _ (List.mem_of_getElem? (i := 16) rfl) rfl)
theorem ml_L_172 : zML RL 172 mX6_count := (zg_4_0 _ (List.mem_of_getElem? (i := 20) rfl) rfl)
theorem ml_X6_274 : zML RX6 274 mX2_allLoud := (zg_4_0 _ (List.mem_of_getElem? (i := 24) rfl) rfl)
theorem ml_L_12 : zML RL 12 mX7_init := (zg_4_0 _ (List.mem_of_getElem? (i := 30) rfl) rfl)
theorem ml_X7_47 : zML RX7 47 mX7_firstDraft := (zg_4_1 _ (List.mem_of_getElem? (i := 2) rfl) rfl)
theorem ml_X7_50 : zML RX7 50 mX7_keepDraft := (zg_4_1 _ (List.mem_of_getElem? (i := 6) rfl) rfl)
theorem ml_L_17 : zML RL 17 mX7_feed := (zg_4_4 _ (List.mem_of_getElem? (i := 2) rfl) rfl)
theorem ml_X7_63 : zML RX7 63 mX7_in := (zg_4_4 _ (List.mem_of_getElem? (i := 7) rfl) rfl)
theorem ml_L_21 : zML RL 21 mX7_end := (zg_4_4 _ (List.mem_of_getElem? (i := 10) rfl) rfl)
theorem ml_L_26 : zML RL 26 mX7_text := (zg_4_4 _ (List.mem_of_getElem? (i := 14) rfl) rfl)
theorem ml_X7_112 : zML RX7 112 mX7_reads := (zg_4_4 _ (List.mem_of_getElem? (i := 18) rfl) rfl)
theorem ml_X7_82 : zML RX7 82 mX7_byteAt := (zg_4_4 _ (List.mem_of_getElem? (i := 22) rfl) rfl)
theorem ml_X7_108 : zML RX7 108 mX7_requires := (zg_4_4 _ (List.mem_of_getElem? (i := 30) rfl) rfl)
theorem ml_X7_130 : zML RX7 130 mX7_readLine := (zg_4_5 _ (List.mem_of_getElem? (i := 2) rfl) rfl)
theorem ml_X7_122 : zML RX7 122 mX7_lineNow := (zg_4_5 _ (List.mem_of_getElem? (i := 6) rfl) rfl)
theorem ml_X7_86 : zML RX7 86 mX7_is := (zg_4_5 _ (List.mem_of_getElem? (i := 10) rfl) rfl)
theorem ml_X7_90 : zML RX7 90 mX7_endsIn := (zg_4_5 _ (List.mem_of_getElem? (i := 14) rfl) rfl)
theorem ml_X7_126 : zML RX7 126 mX7_readLineOf := (zg_4_5 _ (List.mem_of_getElem? (i := 18) rfl) rfl)
theorem ml_X7_119 : zML RX7 119 mX7_readBand := (zg_4_5 _ (List.mem_of_getElem? (i := 22) rfl) rfl)
theorem ml_X7_115 : zML RX7 115 mX7_readNumber := (zg_4_5 _ (List.mem_of_getElem? (i := 26) rfl) rfl)
theorem ml_L_30 : zML RL 30 mX7_fault := (zg_4_5 _ (List.mem_of_getElem? (i := 30) rfl) rfl)
theorem ml_L_34 : zML RL 34 mX7_rule := (zg_4_6 _ (List.mem_of_getElem? (i := 2) rfl) rfl)
theorem ml_X7_180 : zML RX7 180 mX7_starts := (zg_4_6 _ (List.mem_of_getElem? (i := 6) rfl) rfl)
theorem ml_X7_144 : zML RX7 144 mX7_heardAt := (zg_4_6 _ (List.mem_of_getElem? (i := 10) rfl) rfl)
theorem ml_X7_141 : zML RX7 141 mX7_ofBand := (zg_4_6 _ (List.mem_of_getElem? (i := 14) rfl) rfl)
theorem ml_X7_176 : zML RX7 176 mX7_flag := (zg_4_6 _ (List.mem_of_getElem? (i := 18) rfl) rfl)
theorem ml_X7_173 : zML RX7 173 mX7_sumOf := (zg_4_6 _ (List.mem_of_getElem? (i := 21) rfl) rfl)
theorem ml_X7_147 : zML RX7 147 mX7_of := (zg_4_6 _ (List.mem_of_getElem? (i := 25) rfl) rfl)
theorem ml_L_39 : zML RL 39 mX7_field := (zg_4_6 _ (List.mem_of_getElem? (i := 29) rfl) rfl)
theorem ml_X7_183 : zML RX7 183 mX7_isField := (zg_4_7 _ (List.mem_of_getElem? (i := 1) rfl) rfl)
theorem ml_X7_150 : zML RX7 150 mX7_growsBy := (zg_4_7 _ (List.mem_of_getElem? (i := 5) rfl) rfl)
theorem ml_X7_160 : zML RX7 160 mX7_heeds := (zg_4_7 _ (List.mem_of_getElem? (i := 9) rfl) rfl)
theorem ml_L_43 : zML RL 43 mX7_band := (zg_4_7 _ (List.mem_of_getElem? (i := 13) rfl) rfl)
theorem ml_X7_187 : zML RX7 187 mX7_isBand := (zg_5_0 _ (List.mem_of_getElem? (i := 1) rfl) rfl)
theorem ml_X7_190 : zML RX7 190 mX7_isPart := (zg_5_0 _ (List.mem_of_getElem? (i := 5) rfl) rfl)
theorem ml_L_48 : zML RL 48 mX7_alter := (zg_5_0 _ (List.mem_of_getElem? (i := 8) rfl) rfl)
theorem ml_X7_195 : zML RX7 195 mX7_areEars := (zg_5_0 _ (List.mem_of_getElem? (i := 13) rfl) rfl)
theorem ml_X7_200 : zML RX7 200 mX7_becomes := (zg_5_0 _ (List.mem_of_getElem? (i := 18) rfl) rfl)
theorem ml_L_52 : zML RL 52 mX7_march := (zg_5_0 _ (List.mem_of_getElem? (i := 22) rfl) rfl)
theorem ml_L_56 : zML RL 56 mX7_play := (zg_5_0 _ (List.mem_of_getElem? (i := 26) rfl) rfl)
theorem ml_L_60 : zML RL 60 mX7_glut := (zg_5_0 _ (List.mem_of_getElem? (i := 30) rfl) rfl)
theorem ml_L_64 : zML RL 64 mX7_hire := (zg_5_1 _ (List.mem_of_getElem? (i := 2) rfl) rfl)
theorem ml_L_68 : zML RL 68 mX7_leave := (zg_5_1 _ (List.mem_of_getElem? (i := 6) rfl) rfl)
theorem ml_L_72 : zML RL 72 mX7_weeks := (zg_5_1 _ (List.mem_of_getElem? (i := 10) rfl) rfl)
theorem ml_X7_205 : zML RX7 205 mX7_earsBehind := (zg_5_1 _ (List.mem_of_getElem? (i := 15) rfl) rfl)
theorem ml_X7_170 : zML RX7 170 mX7_weeksGo := (zg_5_1 _ (List.mem_of_getElem? (i := 19) rfl) rfl)
theorem ml_X7_166 : zML RX7 166 mX7_weekGoes := (zg_5_1 _ (List.mem_of_getElem? (i := 23) rfl) rfl)
theorem ml_X7_153 : zML RX7 153 mX7_within := (zg_5_1 _ (List.mem_of_getElem? (i := 27) rfl) rfl)
theorem ml_X7_156 : zML RX7 156 mX7_becomesOf := (zg_5_1 _ (List.mem_of_getElem? (i := 30) rfl) rfl)
theorem ml_X7_163 : zML RX7 163 mX7_fieldGoes := (zg_5_2 _ (List.mem_of_getElem? (i := 2) rfl) rfl)
theorem ml_X7_208 : zML RX7 208 mX7_settles := (zg_5_2 _ (List.mem_of_getElem? (i := 6) rfl) rfl)
theorem ml_L_76 : zML RL 76 mX7_runs := (zg_5_2 _ (List.mem_of_getElem? (i := 10) rfl) rfl)
theorem ml_X7_213 : zML RX7 213 mX7_isFar := (zg_5_2 _ (List.mem_of_getElem? (i := 14) rfl) rfl)
theorem ml_X7_218 : zML RX7 218 mX7_emptyNow := (zg_5_2 _ (List.mem_of_getElem? (i := 19) rfl) rfl)
theorem ml_L_80 : zML RL 80 mX7_ahead := (zg_5_2 _ (List.mem_of_getElem? (i := 23) rfl) rfl)
theorem ml_L_84 : zML RL 84 mX7_late := (zg_5_2 _ (List.mem_of_getElem? (i := 27) rfl) rfl)
theorem ml_L_88 : zML RL 88 mX7_order := (zg_5_2 _ (List.mem_of_getElem? (i := 31) rfl) rfl)
theorem ml_X7_241 : zML RX7 241 mX7_findOrder := (zg_5_3 _ (List.mem_of_getElem? (i := 5) rfl) rfl)
theorem ml_X7_227 : zML RX7 227 mX7_startsJudging := (zg_5_3 _ (List.mem_of_getElem? (i := 9) rfl) rfl)
theorem ml_X7_230 : zML RX7 230 mX7_bandBecomes := (zg_5_3 _ (List.mem_of_getElem? (i := 13) rfl) rfl)
theorem ml_X7_233 : zML RX7 233 mX7_judges := (zg_5_3 _ (List.mem_of_getElem? (i := 17) rfl) rfl)
theorem ml_L_92 : zML RL 92 mX7_move := (zg_5_3 _ (List.mem_of_getElem? (i := 21) rfl) rfl)
theorem ml_X7_244 : zML RX7 244 mX7_judged := (zg_5_3 _ (List.mem_of_getElem? (i := 25) rfl) rfl)
theorem ml_L_96 : zML RL 96 mX7_still := (zg_5_3 _ (List.mem_of_getElem? (i := 29) rfl) rfl)
theorem ml_L_100 : zML RL 100 mX7_need := (zg_5_4 _ (List.mem_of_getElem? (i := 1) rfl) rfl)
theorem ml_L_104 : zML RL 104 mX7_swap := (zg_5_4 _ (List.mem_of_getElem? (i := 5) rfl) rfl)
theorem ml_L_108 : zML RL 108 mX7_bear := (zg_5_4 _ (List.mem_of_getElem? (i := 9) rfl) rfl)
theorem ml_L_112 : zML RL 112 mX7_kind := (zg_5_4 _ (List.mem_of_getElem? (i := 13) rfl) rfl)
theorem ml_L_117 : zML RL 117 mX7_luck := (zg_5_4 _ (List.mem_of_getElem? (i := 17) rfl) rfl)
theorem ml_X7_265 : zML RX7 265 mX7_findOdds := (zg_5_4 _ (List.mem_of_getElem? (i := 23) rfl) rfl)
theorem ml_X7_269 : zML RX7 269 mX7_lowest := (zg_5_4 _ (List.mem_of_getElem? (i := 27) rfl) rfl)
theorem ml_X7_247 : zML RX7 247 mX7_common := (zg_5_4 _ (List.mem_of_getElem? (i := 30) rfl) rfl)
theorem ml_L_122 : zML RL 122 mX7_mean := (zg_5_5 _ (List.mem_of_getElem? (i := 1) rfl) rfl)
theorem ml_L_126 : zML RL 126 mX7_see := (zg_5_5 _ (List.mem_of_getElem? (i := 5) rfl) rfl)
theorem ml_L_130 : zML RL 130 mX7_forget := (zg_5_5 _ (List.mem_of_getElem? (i := 10) rfl) rfl)
theorem ml_L_134 : zML RL 134 mX7_kinds := (zg_5_5 _ (List.mem_of_getElem? (i := 14) rfl) rfl)
theorem ml_X7_278 : zML RX7 278 mX7_which := (zg_5_5 _ (List.mem_of_getElem? (i := 18) rfl) rfl)
theorem ml_X7_275 : zML RX7 275 mX7_isSoWith := (zg_5_5 _ (List.mem_of_getElem? (i := 22) rfl) rfl)
theorem ml_L_138 : zML RL 138 mX7_blights := (zg_5_5 _ (List.mem_of_getElem? (i := 26) rfl) rfl)
theorem ml_L_142 : zML RL 142 mX7_ask := (zg_5_5 _ (List.mem_of_getElem? (i := 30) rfl) rfl)
theorem ml_L_146 : zML RL 146 mX7_drift := (zg_5_6 _ (List.mem_of_getElem? (i := 2) rfl) rfl)
theorem ml_L_150 : zML RL 150 mX7_keep := (zg_5_6 _ (List.mem_of_getElem? (i := 7) rfl) rfl)
theorem ml_X7_282 : zML RX7 282 mX7_copies := (zg_5_6 _ (List.mem_of_getElem? (i := 11) rfl) rfl)
theorem ml_L_154 : zML RL 154 mX7_back := (zg_5_6 _ (List.mem_of_getElem? (i := 15) rfl) rfl)
theorem ml_L_158 : zML RL 158 mX7_sheet := (zg_5_6 _ (List.mem_of_getElem? (i := 19) rfl) rfl)
theorem ml_X7_287 : zML RX7 287 mX7_isSheet := (zg_5_6 _ (List.mem_of_getElem? (i := 23) rfl) rfl)
theorem ml_L_162 : zML RL 162 mX7_lay := (zg_5_6 _ (List.mem_of_getElem? (i := 27) rfl) rfl)
theorem ml_L_167 : zML RL 167 mX7_read := (zg_5_6 _ (List.mem_of_getElem? (i := 31) rfl) rfl)
theorem ml_X7_290 : zML RX7 290 mX7_march := (zg_5_7 _ (List.mem_of_getElem? (i := 3) rfl) rfl)
theorem ml_L_171 : zML RL 171 mX7_torn := (zg_5_7 _ (List.mem_of_getElem? (i := 4) rfl) rfl)
theorem ml_L_175 : zML RL 175 mX7_count := (zg_5_7 _ (List.mem_of_getElem? (i := 8) rfl) rfl)
