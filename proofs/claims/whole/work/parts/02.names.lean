def RD : String := "CardMessages$Draft"
def RR : String := "CardMessages$Reader"
def RT : String := "CardMessages$Tape"
def RC : String := "CardMessages"
def RM : String := "CardMessagesModel"
def RL : String := "CardMessagesLaw"
def TD : u_T := fun k => match k with
  | 0 => ("CardMessages$Draft", "messageType", "I", false)
  | 1 => ("CardMessages$Draft", "counts", "[I", true)
  | _ => ("CardMessages$Draft", "marks", "[B", true)
def tyD : Nat → FieldType := fun k => match k with
  | 0 => .int
  | 1 => .array .int
  | _ => .array .byte
theorem nmD : ∀ a, a < 3 → ∀ b, b < 3 → a ≠ b → (TD a).2.1 ≠ (TD b).2.1 := by decide +kernel
theorem tyD_ok : ∀ k, k < 3 → parseFieldDescriptor (TD k).2.2.1 = some (tyD k) := by decide +kernel
def TR : u_T := fun k => match k with
  | 0 => ("CardMessages$Reader", "found", "LCardMessages$Draft;", true)
  | 1 => ("CardMessages$Reader", "faultKind", "I", false)
  | 2 => ("CardMessages$Reader", "faultPlace", "I", false)
  | 3 => ("CardMessages$Reader", "tape", "LCardMessages$Tape;", true)
  | 4 => ("CardMessages$Reader", "next", "I", false)
  | _ => ("CardMessages$Reader", "lastNumber", "I", false)
def tyR : Nat → FieldType := fun k => match k with
  | 0 => .object "CardMessages$Draft"
  | 1 => .int
  | 2 => .int
  | 3 => .object "CardMessages$Tape"
  | 4 => .int
  | _ => .int
theorem nmR : ∀ a, a < 6 → ∀ b, b < 6 → a ≠ b → (TR a).2.1 ≠ (TR b).2.1 := by decide +kernel
theorem tyR_ok : ∀ k, k < 6 → parseFieldDescriptor (TR k).2.2.1 = some (tyR k) := by decide +kernel
def TT : u_T := fun k => match k with
  | 0 => ("CardMessages$Tape", "bytes", "[B", true)
  | _ => ("CardMessages$Tape", "length", "I", false)
def tyT : Nat → FieldType := fun k => match k with
  | 0 => .array .byte
  | _ => .int
theorem nmT : ∀ a, a < 2 → ∀ b, b < 2 → a ≠ b → (TT a).2.1 ≠ (TT b).2.1 := by decide +kernel
theorem tyT_ok : ∀ k, k < 2 → parseFieldDescriptor (TT k).2.2.1 = some (tyT k) := by decide +kernel
def TC : u_T := fun k => match k with
  | 0 => ("CardMessages", "draft", "LCardMessages$Draft;", true)
  | 1 => ("CardMessages", "tape", "LCardMessages$Tape;", true)
  | _ => ("CardMessages", "reader", "LCardMessages$Reader;", true)
def tyC : Nat → FieldType := fun k => match k with
  | 0 => .object "CardMessages$Draft"
  | 1 => .object "CardMessages$Tape"
  | _ => .object "CardMessages$Reader"
theorem nmC : ∀ a, a < 3 → ∀ b, b < 3 → a ≠ b → (TC a).2.1 ≠ (TC b).2.1 := by decide +kernel
theorem tyC_ok : ∀ k, k < 3 → parseFieldDescriptor (TC k).2.2.1 = some (tyC k) := by decide +kernel
def TM : u_T := fun k => match k with
  | 0 => ("CardMessagesModel", "numbers", "[I", true)
  | 1 => ("CardMessagesModel", "sizes", "[I", true)
  | 2 => ("CardMessagesModel", "forms", "[I", true)
  | 3 => ("CardMessagesModel", "code", "I", false)
  | 4 => ("CardMessagesModel", "draftType", "I", false)
  | 5 => ("CardMessagesModel", "draft", "[I", true)
  | 6 => ("CardMessagesModel", "draftSize", "[I", true)
  | 7 => ("CardMessagesModel", "readType", "I", false)
  | 8 => ("CardMessagesModel", "read", "[I", true)
  | 9 => ("CardMessagesModel", "readSize", "[I", true)
  | 10 => ("CardMessagesModel", "tape", "[I", true)
  | 11 => ("CardMessagesModel", "size", "I", false)
  | 12 => ("CardMessagesModel", "at", "I", false)
  | 13 => ("CardMessagesModel", "fault", "I", false)
  | 14 => ("CardMessagesModel", "place", "I", false)
  | 15 => ("CardMessagesModel", "written", "I", false)
  | _ => ("CardMessagesModel", "few", "[I", true)
def tyM : Nat → FieldType := fun k => match k with
  | 0 => .array .int
  | 1 => .array .int
  | 2 => .array .int
  | 3 => .int
  | 4 => .int
  | 5 => .array .int
  | 6 => .array .int
  | 7 => .int
  | 8 => .array .int
  | 9 => .array .int
  | 10 => .array .int
  | 11 => .int
  | 12 => .int
  | 13 => .int
  | 14 => .int
  | 15 => .int
  | _ => .array .int
theorem nmM : ∀ a, a < 17 → ∀ b, b < 17 → a ≠ b → (TM a).2.1 ≠ (TM b).2.1 := by decide +kernel
theorem tyM_ok : ∀ k, k < 17 → parseFieldDescriptor (TM k).2.2.1 = some (tyM k) := by decide +kernel
abbrev vwCl : List vw_C := [(RD, TD, 3), (RR, TR, 6), (RT, TT, 2), (RC, TC, 3), (RM, TM, 17)]
abbrev cC_at : ByteArray := prog_1_method_9_code
def yC_at : MethodName := ⟨RC, "at", "(II)I"⟩
abbrev cC_bytesOfDigits : ByteArray := prog_1_method_21_code
def yC_bytesOfDigits : MethodName := ⟨RC, "bytesOfDigits", "(I)I"⟩
abbrev cC_compose : ByteArray := prog_1_method_12_code
def yC_compose : MethodName := ⟨RC, "compose", "()I"⟩
abbrev cC_digitCount : ByteArray := prog_1_method_20_code
def yC_digitCount : MethodName := ⟨RC, "digitCount", "(J)I"⟩
abbrev cC_digitSlot : ByteArray := prog_1_method_19_code
def yC_digitSlot : MethodName := ⟨RC, "digitSlot", "(I)I"⟩
abbrev cC_digits : ByteArray := prog_1_method_3_code
def yC_digits : MethodName := ⟨RC, "digits", "(IJ)V"⟩
abbrev cC_fault : ByteArray := prog_1_method_16_code
def yC_fault : MethodName := ⟨RC, "fault", "(I)I"⟩
abbrev cC_feed : ByteArray := prog_1_method_13_code
def yC_feed : MethodName := ⟨RC, "feed", "(I)I"⟩
abbrev cC_fields : ByteArray := prog_1_method_11_code
def yC_fields : MethodName := ⟨RC, "fields", "()I"⟩
abbrev cC_init : ByteArray := prog_1_method_1_code
def yC_init : MethodName := ⟨RC, "<init>", "()V"⟩
abbrev cC_knownSlot : ByteArray := prog_1_method_18_code
def yC_knownSlot : MethodName := ⟨RC, "knownSlot", "(I)I"⟩
abbrev cC_letters : ByteArray := prog_1_method_4_code
def yC_letters : MethodName := ⟨RC, "letters", "(IJI)V"⟩
abbrev cC_mapBit : ByteArray := prog_1_method_23_code
def yC_mapBit : MethodName := ⟨RC, "mapBit", "(I)I"⟩
abbrev cC_mapByte : ByteArray := prog_1_method_22_code
def yC_mapByte : MethodName := ⟨RC, "mapByte", "(I)I"⟩
abbrev cC_message : ByteArray := prog_1_method_2_code
def yC_message : MethodName := ⟨RC, "message", "(I)V"⟩
abbrev cC_number : ByteArray := prog_1_method_10_code
def yC_number : MethodName := ⟨RC, "number", "(I)J"⟩
abbrev cC_omit : ByteArray := prog_1_method_6_code
def yC_omit : MethodName := ⟨RC, "omit", "(I)Z"⟩
abbrev cC_original : ByteArray := prog_1_method_5_code
def yC_original : MethodName := ⟨RC, "original", "(III)V"⟩
abbrev cC_read : ByteArray := prog_1_method_17_code
def yC_read : MethodName := ⟨RC, "read", "()Z"⟩
abbrev cC_size : ByteArray := prog_1_method_8_code
def yC_size : MethodName := ⟨RC, "size", "(I)I"⟩
abbrev cC_spoil : ByteArray := prog_1_method_15_code
def yC_spoil : MethodName := ⟨RC, "spoil", "(II)I"⟩
abbrev cC_trim : ByteArray := prog_1_method_14_code
def yC_trim : MethodName := ⟨RC, "trim", "(I)I"⟩
abbrev cC_type : ByteArray := prog_1_method_7_code
def yC_type : MethodName := ⟨RC, "type", "()I"⟩
abbrev cD_become : ByteArray := prog_2_method_3_code
def yD_become : MethodName := ⟨RD, "become", "(LCardMessages$Draft;)V"⟩
abbrev cD_fieldCount : ByteArray := prog_2_method_5_code
def yD_fieldCount : MethodName := ⟨RD, "fieldCount", "()I"⟩
abbrev cD_has : ByteArray := prog_2_method_4_code
def yD_has : MethodName := ⟨RD, "has", "(I)Z"⟩
abbrev cD_init : ByteArray := prog_2_method_1_code
def yD_init : MethodName := ⟨RD, "<init>", "()V"⟩
abbrev cD_lastDigits : ByteArray := prog_2_method_11_code
def yD_lastDigits : MethodName := ⟨RD, "lastDigits", "(I)J"⟩
abbrev cD_mark : ByteArray := prog_2_method_6_code
def yD_mark : MethodName := ⟨RD, "mark", "(II)I"⟩
abbrev cD_putLetters : ByteArray := prog_2_method_10_code
def yD_putLetters : MethodName := ⟨RD, "putLetters", "(IIJ)V"⟩
abbrev cD_putNumber : ByteArray := prog_2_method_8_code
def yD_putNumber : MethodName := ⟨RD, "putNumber", "(IIJ)V"⟩
abbrev cD_putOriginal : ByteArray := prog_2_method_9_code
def yD_putOriginal : MethodName := ⟨RD, "putOriginal", "(III)V"⟩
abbrev cD_restart : ByteArray := prog_2_method_2_code
def yD_restart : MethodName := ⟨RD, "restart", "(I)V"⟩
abbrev cD_setDigits : ByteArray := prog_2_method_12_code
def yD_setDigits : MethodName := ⟨RD, "setDigits", "(IIIJ)V"⟩
abbrev cD_setMark : ByteArray := prog_2_method_7_code
def yD_setMark : MethodName := ⟨RD, "setMark", "(III)V"⟩
abbrev cL_at : ByteArray := method_9_code
def yL_at : MethodName := ⟨RL, "at", "(LCardMessages;II[J)I"⟩
abbrev cL_digits : ByteArray := method_4_code
def yL_digits : MethodName := ⟨RL, "digits", "(LCardMessages;IJ)I"⟩
abbrev cL_fault : ByteArray := method_14_code
def yL_fault : MethodName := ⟨RL, "fault", "(LCardMessages;I[J)I"⟩
abbrev cL_feed : ByteArray := method_11_code
def yL_feed : MethodName := ⟨RL, "feed", "(LCardMessages;I[J)I"⟩
abbrev cL_law : ByteArray := code
def yL_law : MethodName := ⟨RL, "law", "([I)Z"⟩
abbrev cL_letters : ByteArray := method_5_code
def yL_letters : MethodName := ⟨RL, "letters", "(LCardMessages;IJI)I"⟩
abbrev cL_message : ByteArray := method_3_code
def yL_message : MethodName := ⟨RL, "message", "(LCardMessages;I)I"⟩
abbrev cL_number : ByteArray := method_10_code
def yL_number : MethodName := ⟨RL, "number", "(LCardMessages;I[J)I"⟩
abbrev cL_omit : ByteArray := method_7_code
def yL_omit : MethodName := ⟨RL, "omit", "(LCardMessages;I[J)I"⟩
abbrev cL_original : ByteArray := method_6_code
def yL_original : MethodName := ⟨RL, "original", "(LCardMessages;III)I"⟩
abbrev cL_size : ByteArray := method_8_code
def yL_size : MethodName := ⟨RL, "size", "(LCardMessages;I[J)I"⟩
abbrev cL_spoil : ByteArray := method_13_code
def yL_spoil : MethodName := ⟨RL, "spoil", "(LCardMessages;II[J)I"⟩
abbrev cL_trim : ByteArray := method_12_code
def yL_trim : MethodName := ⟨RL, "trim", "(LCardMessages;I[J)I"⟩
abbrev cM_at : ByteArray := prog_6_method_18_code
def yM_at : MethodName := ⟨RM, "at", "(II)I"⟩
abbrev cM_begin : ByteArray := prog_6_method_8_code
def yM_begin : MethodName := ⟨RM, "begin", "(I)V"⟩
abbrev cM_clear : ByteArray := prog_6_method_4_code
def yM_clear : MethodName := ⟨RM, "clear", "([I)V"⟩
abbrev cM_compose : ByteArray := prog_6_method_24_code
def yM_compose : MethodName := ⟨RM, "compose", "()I"⟩
abbrev cM_digits : ByteArray := prog_6_method_11_code
def yM_digits : MethodName := ⟨RM, "digits", "(IJ)V"⟩
abbrev cM_fails : ByteArray := prog_6_method_25_code
def yM_fails : MethodName := ⟨RM, "fails", "(II)V"⟩
abbrev cM_fault : ByteArray := prog_6_method_35_code
def yM_fault : MethodName := ⟨RM, "fault", "(I)I"⟩
abbrev cM_feed : ByteArray := prog_6_method_32_code
def yM_feed : MethodName := ⟨RM, "feed", "(I)I"⟩
abbrev cM_fieldOf : ByteArray := prog_6_method_7_code
def yM_fieldOf : MethodName := ⟨RM, "fieldOf", "(I)I"⟩
abbrev cM_fields : ByteArray := prog_6_method_20_code
def yM_fields : MethodName := ⟨RM, "fields", "()I"⟩
abbrev cM_fill : ByteArray := prog_6_method_10_code
def yM_fill : MethodName := ⟨RM, "fill", "(IJ)V"⟩
abbrev cM_goes : ByteArray := prog_6_method_3_code
def yM_goes : MethodName := ⟨RM, "goes", "(Z)Z"⟩
abbrev cM_init : ByteArray := prog_6_method_1_code
def yM_init : MethodName := ⟨RM, "<init>", "()V"⟩
abbrev cM_isType : ByteArray := prog_6_method_28_code
def yM_isType : MethodName := ⟨RM, "isType", "(I)Z"⟩
abbrev cM_letters : ByteArray := prog_6_method_12_code
def yM_letters : MethodName := ⟨RM, "letters", "(IJI)V"⟩
abbrev cM_message : ByteArray := prog_6_method_9_code
def yM_message : MethodName := ⟨RM, "message", "(I)V"⟩
abbrev cM_number : ByteArray := prog_6_method_19_code
def yM_number : MethodName := ⟨RM, "number", "(I)J"⟩
abbrev cM_omit : ByteArray := prog_6_method_15_code
def yM_omit : MethodName := ⟨RM, "omit", "(I)Z"⟩
abbrev cM_original : ByteArray := prog_6_method_14_code
def yM_original : MethodName := ⟨RM, "original", "(III)V"⟩
abbrev cM_pack : ByteArray := prog_6_method_21_code
def yM_pack : MethodName := ⟨RM, "pack", "([I[III)V"⟩
abbrev cM_read : ByteArray := prog_6_method_36_code
def yM_read : MethodName := ⟨RM, "read", "()Z"⟩
abbrev cM_readTape : ByteArray := prog_6_method_31_code
def yM_readTape : MethodName := ⟨RM, "readTape", "()V"⟩
abbrev cM_setDigits : ByteArray := prog_6_method_6_code
def yM_setDigits : MethodName := ⟨RM, "setDigits", "([IIJI)V"⟩
abbrev cM_setOriginal : ByteArray := prog_6_method_13_code
def yM_setOriginal : MethodName := ⟨RM, "setOriginal", "([IIII)V"⟩
abbrev cM_size : ByteArray := prog_6_method_17_code
def yM_size : MethodName := ⟨RM, "size", "(I)I"⟩
abbrev cM_spoil : ByteArray := prog_6_method_34_code
def yM_spoil : MethodName := ⟨RM, "spoil", "(II)I"⟩
abbrev cM_takeDigits : ByteArray := prog_6_method_26_code
def yM_takeDigits : MethodName := ⟨RM, "takeDigits", "(I[II)V"⟩
abbrev cM_takeField : ByteArray := prog_6_method_30_code
def yM_takeField : MethodName := ⟨RM, "takeField", "(I)V"⟩
abbrev cM_takeLetters : ByteArray := prog_6_method_27_code
def yM_takeLetters : MethodName := ⟨RM, "takeLetters", "(I[II)V"⟩
abbrev cM_takeMaps : ByteArray := prog_6_method_29_code
def yM_takeMaps : MethodName := ⟨RM, "takeMaps", "()V"⟩
abbrev cM_thrown : ByteArray := prog_6_method_2_code
def yM_thrown : MethodName := ⟨RM, "thrown", "()I"⟩
abbrev cM_trim : ByteArray := prog_6_method_33_code
def yM_trim : MethodName := ⟨RM, "trim", "(I)I"⟩
abbrev cM_type : ByteArray := prog_6_method_16_code
def yM_type : MethodName := ⟨RM, "type", "()I"⟩
abbrev cM_width : ByteArray := prog_6_method_5_code
def yM_width : MethodName := ⟨RM, "width", "(J)I"⟩
abbrev cM_write : ByteArray := prog_6_method_22_code
def yM_write : MethodName := ⟨RM, "write", "(I[I[I[I)V"⟩
abbrev cM_writeField : ByteArray := prog_6_method_23_code
def yM_writeField : MethodName := ⟨RM, "writeField", "(I[II[I)V"⟩
abbrev cR_areDigits : ByteArray := prog_3_method_11_code
def yR_areDigits : MethodName := ⟨RR, "areDigits", "(I)Z"⟩
abbrev cR_digitAhead : ByteArray := prog_3_method_12_code
def yR_digitAhead : MethodName := ⟨RR, "digitAhead", "(II)I"⟩
abbrev cR_fail : ByteArray := prog_3_method_15_code
def yR_fail : MethodName := ⟨RR, "fail", "(II)Z"⟩
abbrev cR_halfAhead : ByteArray := prog_3_method_13_code
def yR_halfAhead : MethodName := ⟨RR, "halfAhead", "(I)I"⟩
abbrev cR_hasBit : ByteArray := prog_3_method_5_code
def yR_hasBit : MethodName := ⟨RR, "hasBit", "(I)Z"⟩
abbrev cR_init : ByteArray := prog_3_method_1_code
def yR_init : MethodName := ⟨RR, "<init>", "(LCardMessages$Tape;)V"⟩
abbrev cR_isLetter : ByteArray := prog_3_method_10_code
def yR_isLetter : MethodName := ⟨RR, "isLetter", "(I)Z"⟩
abbrev cR_reaches : ByteArray := prog_3_method_14_code
def yR_reaches : MethodName := ⟨RR, "reaches", "(I)Z"⟩
abbrev cR_walk : ByteArray := prog_3_method_2_code
def yR_walk : MethodName := ⟨RR, "walk", "()Z"⟩
abbrev cR_walkDigits : ByteArray := prog_3_method_8_code
def yR_walkDigits : MethodName := ⟨RR, "walkDigits", "(II)Z"⟩
abbrev cR_walkField : ByteArray := prog_3_method_6_code
def yR_walkField : MethodName := ⟨RR, "walkField", "(I)Z"⟩
abbrev cR_walkLetters : ByteArray := prog_3_method_9_code
def yR_walkLetters : MethodName := ⟨RR, "walkLetters", "(II)Z"⟩
abbrev cR_walkMaps : ByteArray := prog_3_method_4_code
def yR_walkMaps : MethodName := ⟨RR, "walkMaps", "()Z"⟩
abbrev cR_walkNumber : ByteArray := prog_3_method_7_code
def yR_walkNumber : MethodName := ⟨RR, "walkNumber", "(I)Z"⟩
abbrev cR_walkType : ByteArray := prog_3_method_3_code
def yR_walkType : MethodName := ⟨RR, "walkType", "()Z"⟩
abbrev cT_append : ByteArray := prog_4_method_4_code
def yT_append : MethodName := ⟨RT, "append", "(I)V"⟩
abbrev cT_appendDigits : ByteArray := prog_4_method_10_code
def yT_appendDigits : MethodName := ⟨RT, "appendDigits", "(LCardMessages$Draft;II)V"⟩
abbrev cT_appendField : ByteArray := prog_4_method_8_code
def yT_appendField : MethodName := ⟨RT, "appendField", "(LCardMessages$Draft;I)V"⟩
abbrev cT_appendLetters : ByteArray := prog_4_method_11_code
def yT_appendLetters : MethodName := ⟨RT, "appendLetters", "(LCardMessages$Draft;II)V"⟩
abbrev cT_appendMaps : ByteArray := prog_4_method_6_code
def yT_appendMaps : MethodName := ⟨RT, "appendMaps", "(LCardMessages$Draft;)V"⟩
abbrev cT_appendNumber : ByteArray := prog_4_method_9_code
def yT_appendNumber : MethodName := ⟨RT, "appendNumber", "(II)V"⟩
abbrev cT_appendPair : ByteArray := prog_4_method_12_code
def yT_appendPair : MethodName := ⟨RT, "appendPair", "(II)V"⟩
abbrev cT_byteAt : ByteArray := prog_4_method_2_code
def yT_byteAt : MethodName := ⟨RT, "byteAt", "(I)I"⟩
abbrev cT_flip : ByteArray := prog_4_method_3_code
def yT_flip : MethodName := ⟨RT, "flip", "(II)V"⟩
abbrev cT_hasFieldOfSecondMap : ByteArray := prog_4_method_7_code
def yT_hasFieldOfSecondMap : MethodName := ⟨RT, "hasFieldOfSecondMap", "(LCardMessages$Draft;)Z"⟩
abbrev cT_init : ByteArray := prog_4_method_1_code
def yT_init : MethodName := ⟨RT, "<init>", "()V"⟩
abbrev cT_write : ByteArray := prog_4_method_5_code
def yT_write : MethodName := ⟨RT, "write", "(LCardMessages$Draft;)V"⟩
/-- the words that a method may use: all of the tables that keep -/
def BIG : List Cond := lw_tbl.filter goodWord
theorem mB {w : Cond} (h : w ∈ lw_tbl) (g : goodWord w = true) : w ∈ BIG := List.mem_filter.mpr ⟨h, g⟩
theorem tb_1 {w : Cond} (h : w ∈ tables_1_1) : w ∈ lw_tbl := List.mem_append_right _ (List.mem_append_left _ h)
theorem tb_2 {w : Cond} (h : w ∈ tables_1_2) : w ∈ lw_tbl := List.mem_append_right _ (List.mem_append_right _ (List.mem_append_left _ h))
theorem tb_3 {w : Cond} (h : w ∈ tables_1_3) : w ∈ lw_tbl := List.mem_append_right _ (List.mem_append_right _ (List.mem_append_right _ h))
theorem tb_0 {w : Cond} (h : w ∈ k2_sels lw_privs) : w ∈ lw_tbl := List.mem_append_left _ h
theorem big_good : ∀ w ∈ BIG, goodWord w = true := fun _ h => (List.mem_filter.mp h).2
theorem big_gi : GoodIn BIG BIG := fun w h => ⟨h, good_of_word (big_good w h)⟩
theorem big_hts {args : Array Value} {s : State} (h : ∀ w ∈ lw_tbl, w.before args s = true) : ∀ w ∈ BIG, w.before args s = true := fun w hw => h w (List.mem_filter.mp hw).1
def wsC_at : List Cond := .code yC_at cC_at 4 (some .int) :: BIG
def wsC_bytesOfDigits : List Cond := .code yC_bytesOfDigits cC_bytesOfDigits 1 (some .int) :: BIG
def wsC_compose : List Cond := .code yC_compose cC_compose 1 (some .int) :: BIG
def wsC_digitCount : List Cond := .code yC_digitCount cC_digitCount 5 (some .int) :: BIG
def wsC_digitSlot : List Cond := .code yC_digitSlot cC_digitSlot 2 (some .int) :: BIG
def wsC_digits : List Cond := .code yC_digits cC_digits 6 none :: BIG
def wsC_fault : List Cond := .code yC_fault cC_fault 2 (some .int) :: BIG
def wsC_feed : List Cond := .code yC_feed cC_feed 3 (some .int) :: BIG
def wsC_fields : List Cond := .code yC_fields cC_fields 1 (some .int) :: BIG
def wsC_init : List Cond := .code yC_init cC_init 1 none :: BIG
def wsC_knownSlot : List Cond := .code yC_knownSlot cC_knownSlot 2 (some .int) :: BIG
def wsC_letters : List Cond := .code yC_letters cC_letters 7 none :: BIG
def wsC_mapBit : List Cond := .code yC_mapBit cC_mapBit 1 (some .int) :: BIG
def wsC_mapByte : List Cond := .code yC_mapByte cC_mapByte 1 (some .int) :: BIG
def wsC_message : List Cond := .code yC_message cC_message 2 none :: BIG
def wsC_number : List Cond := .code yC_number cC_number 3 (some .long) :: BIG
def wsC_omit : List Cond := .code yC_omit cC_omit 4 (some .boolean) :: BIG
def wsC_original : List Cond := .code yC_original cC_original 4 none :: BIG
def wsC_read : List Cond := .code yC_read cC_read 1 (some .boolean) :: BIG
def wsC_size : List Cond := .code yC_size cC_size 3 (some .int) :: BIG
def wsC_spoil : List Cond := .code yC_spoil cC_spoil 3 (some .int) :: BIG
def wsC_trim : List Cond := .code yC_trim cC_trim 2 (some .int) :: BIG
def wsC_type : List Cond := .code yC_type cC_type 1 (some .int) :: BIG
def wsD_become : List Cond := .code yD_become cD_become 2 none :: BIG
def wsD_fieldCount : List Cond := .code yD_fieldCount cD_fieldCount 3 (some .int) :: BIG
def wsD_has : List Cond := .code yD_has cD_has 2 (some .boolean) :: BIG
def wsD_init : List Cond := .code yD_init cD_init 1 none :: BIG
def wsD_lastDigits : List Cond := .code yD_lastDigits cD_lastDigits 6 (some .long) :: BIG
def wsD_mark : List Cond := .code yD_mark cD_mark 3 (some .int) :: BIG
def wsD_putLetters : List Cond := .code yD_putLetters cD_putLetters 7 none :: BIG
def wsD_putNumber : List Cond := .code yD_putNumber cD_putNumber 5 none :: BIG
def wsD_putOriginal : List Cond := .code yD_putOriginal cD_putOriginal 4 none :: BIG
def wsD_restart : List Cond := .code yD_restart cD_restart 3 none :: BIG
def wsD_setDigits : List Cond := .code yD_setDigits cD_setDigits 9 none :: BIG
def wsD_setMark : List Cond := .code yD_setMark cD_setMark 4 none :: BIG
def wsL_at : List Cond := .codeWith yL_at cL_at 5 (some .int) [(0, 10, 13, 13)] :: BIG
def wsL_digits : List Cond := .codeWith yL_digits cL_digits 5 (some .int) [(0, 6, 9, 13)] :: BIG
def wsL_fault : List Cond := .codeWith yL_fault cL_fault 4 (some .int) [(0, 9, 12, 13)] :: BIG
def wsL_feed : List Cond := .codeWith yL_feed cL_feed 4 (some .int) [(0, 9, 12, 46)] :: BIG
def wsL_letters : List Cond := .codeWith yL_letters cL_letters 6 (some .int) [(0, 8, 11, 13)] :: BIG
def wsL_message : List Cond := .codeWith yL_message cL_message 3 (some .int) [(0, 5, 8, 13)] :: BIG
def wsL_number : List Cond := .codeWith yL_number cL_number 4 (some .int) [(0, 8, 11, 13)] :: BIG
def wsL_omit : List Cond := .codeWith yL_omit cL_omit 4 (some .int) [(0, 16, 19, 13)] :: BIG
def wsL_original : List Cond := .codeWith yL_original cL_original 5 (some .int) [(0, 7, 10, 13)] :: BIG
def wsL_size : List Cond := .codeWith yL_size cL_size 4 (some .int) [(0, 9, 12, 13)] :: BIG
def wsL_spoil : List Cond := .codeWith yL_spoil cL_spoil 5 (some .int) [(0, 10, 13, 13)] :: BIG
def wsL_trim : List Cond := .codeWith yL_trim cL_trim 4 (some .int) [(0, 9, 12, 13)] :: BIG
def wsM_at : List Cond := .code yM_at cM_at 5 (some .int) :: BIG
def wsM_begin : List Cond := .code yM_begin cM_begin 2 none :: BIG
def wsM_clear : List Cond := .code yM_clear cM_clear 2 none :: BIG
def wsM_compose : List Cond := .code yM_compose cM_compose 1 (some .int) :: BIG
def wsM_digits : List Cond := .code yM_digits cM_digits 5 none :: BIG
def wsM_fails : List Cond := .code yM_fails cM_fails 3 none :: BIG
def wsM_fault : List Cond := .code yM_fault cM_fault 2 (some .int) :: BIG
def wsM_feed : List Cond := .code yM_feed cM_feed 3 (some .int) :: BIG
def wsM_fieldOf : List Cond := .code yM_fieldOf cM_fieldOf 4 (some .int) :: BIG
def wsM_fields : List Cond := .code yM_fields cM_fields 3 (some .int) :: BIG
def wsM_fill : List Cond := .code yM_fill cM_fill 4 none :: BIG
def wsM_goes : List Cond := .code yM_goes cM_goes 2 (some .boolean) :: BIG
def wsM_init : List Cond := .code yM_init cM_init 1 none :: BIG
def wsM_isType : List Cond := .code yM_isType cM_isType 2 (some .boolean) :: BIG
def wsM_letters : List Cond := .code yM_letters cM_letters 8 none :: BIG
def wsM_message : List Cond := .code yM_message cM_message 2 none :: BIG
def wsM_number : List Cond := .code yM_number cM_number 6 (some .long) :: BIG
def wsM_omit : List Cond := .code yM_omit cM_omit 4 (some .boolean) :: BIG
def wsM_original : List Cond := .code yM_original cM_original 4 none :: BIG
def wsM_pack : List Cond := .code yM_pack cM_pack 6 none :: BIG
def wsM_read : List Cond := .code yM_read cM_read 3 (some .boolean) :: BIG
def wsM_readTape : List Cond := .code yM_readTape cM_readTape 2 none :: BIG
def wsM_setDigits : List Cond := .code yM_setDigits cM_setDigits 8 none :: BIG
def wsM_setOriginal : List Cond := .code yM_setOriginal cM_setOriginal 6 none :: BIG
def wsM_size : List Cond := .code yM_size cM_size 3 (some .int) :: BIG
def wsM_spoil : List Cond := .code yM_spoil cM_spoil 3 (some .int) :: BIG
def wsM_takeDigits : List Cond := .code yM_takeDigits cM_takeDigits 10 none :: BIG
def wsM_takeField : List Cond := .code yM_takeField cM_takeField 5 none :: BIG
def wsM_takeLetters : List Cond := .code yM_takeLetters cM_takeLetters 7 none :: BIG
def wsM_takeMaps : List Cond := .code yM_takeMaps cM_takeMaps 5 none :: BIG
def wsM_thrown : List Cond := .code yM_thrown cM_thrown 1 (some .int) :: BIG
def wsM_trim : List Cond := .code yM_trim cM_trim 2 (some .int) :: BIG
def wsM_type : List Cond := .code yM_type cM_type 1 (some .int) :: BIG
def wsM_width : List Cond := .code yM_width cM_width 5 (some .int) :: BIG
def wsM_write : List Cond := .code yM_write cM_write 8 none :: BIG
def wsM_writeField : List Cond := .code yM_writeField cM_writeField 7 none :: BIG
def wsR_areDigits : List Cond := .code yR_areDigits cR_areDigits 4 (some .boolean) :: BIG
def wsR_digitAhead : List Cond := .code yR_digitAhead cR_digitAhead 3 (some .int) :: BIG
def wsR_fail : List Cond := .code yR_fail cR_fail 3 (some .boolean) :: BIG
def wsR_halfAhead : List Cond := .code yR_halfAhead cR_halfAhead 3 (some .int) :: BIG
def wsR_hasBit : List Cond := .code yR_hasBit cR_hasBit 3 (some .boolean) :: BIG
def wsR_init : List Cond := .code yR_init cR_init 2 none :: BIG
def wsR_isLetter : List Cond := .code yR_isLetter cR_isLetter 1 (some .boolean) :: BIG
def wsR_reaches : List Cond := .code yR_reaches cR_reaches 2 (some .boolean) :: BIG
def wsR_walk : List Cond := .code yR_walk cR_walk 5 (some .boolean) :: BIG
def wsR_walkDigits : List Cond := .code yR_walkDigits cR_walkDigits 4 (some .boolean) :: BIG
def wsR_walkField : List Cond := .code yR_walkField cR_walkField 4 (some .boolean) :: BIG
def wsR_walkLetters : List Cond := .code yR_walkLetters cR_walkLetters 5 (some .boolean) :: BIG
def wsR_walkMaps : List Cond := .code yR_walkMaps cR_walkMaps 4 (some .boolean) :: BIG
def wsR_walkNumber : List Cond := .code yR_walkNumber cR_walkNumber 3 (some .boolean) :: BIG
def wsR_walkType : List Cond := .code yR_walkType cR_walkType 2 (some .boolean) :: BIG
def wsT_append : List Cond := .code yT_append cT_append 2 none :: BIG
def wsT_appendDigits : List Cond := .code yT_appendDigits cT_appendDigits 6 none :: BIG
def wsT_appendField : List Cond := .code yT_appendField cT_appendField 4 none :: BIG
def wsT_appendLetters : List Cond := .code yT_appendLetters cT_appendLetters 5 none :: BIG
def wsT_appendMaps : List Cond := .code yT_appendMaps cT_appendMaps 5 none :: BIG
def wsT_appendNumber : List Cond := .code yT_appendNumber cT_appendNumber 3 none :: BIG
def wsT_appendPair : List Cond := .code yT_appendPair cT_appendPair 3 none :: BIG
def wsT_byteAt : List Cond := .code yT_byteAt cT_byteAt 2 (some .int) :: BIG
def wsT_flip : List Cond := .code yT_flip cT_flip 3 none :: BIG
def wsT_hasFieldOfSecondMap : List Cond := .code yT_hasFieldOfSecondMap cT_hasFieldOfSecondMap 2 (some .boolean) :: BIG
def wsT_init : List Cond := .code yT_init cT_init 1 none :: BIG
def wsT_write : List Cond := .code yT_write cT_write 3 none :: BIG
theorem w_in_L : (.initialized RL : Cond) ∈ BIG := mB (tb_1 (List.mem_of_getElem? (i := 0) rfl)) (by decide +kernel)
theorem w_in_C : (.initialized RC : Cond) ∈ BIG := mB (tb_1 (List.mem_of_getElem? (i := 1) rfl)) (by decide +kernel)
theorem w_in_D : (.initialized RD : Cond) ∈ BIG := mB (tb_1 (List.mem_of_getElem? (i := 2) rfl)) (by decide +kernel)
theorem w_in_T : (.initialized RT : Cond) ∈ BIG := mB (tb_1 (List.mem_of_getElem? (i := 3) rfl)) (by decide +kernel)
theorem w_in_R : (.initialized RR : Cond) ∈ BIG := mB (tb_1 (List.mem_of_getElem? (i := 4) rfl)) (by decide +kernel)
theorem w_in_M : (.initialized RM : Cond) ∈ BIG := mB (tb_1 (List.mem_of_getElem? (i := 5) rfl)) (by decide +kernel)
theorem w_in_Throwable : (.initialized "java/lang/Throwable" : Cond) ∈ BIG := mB (tb_1 (List.mem_of_getElem? (i := 6) rfl)) (by decide +kernel)
theorem w_in_Exception : (.initialized "java/lang/Exception" : Cond) ∈ BIG := mB (tb_1 (List.mem_of_getElem? (i := 7) rfl)) (by decide +kernel)
theorem w_in_RuntimeException : (.initialized "java/lang/RuntimeException" : Cond) ∈ BIG := mB (tb_1 (List.mem_of_getElem? (i := 8) rfl)) (by decide +kernel)
theorem w_in_IllegalArgumentException : (.initialized "java/lang/IllegalArgumentException" : Cond) ∈ BIG := mB (tb_1 (List.mem_of_getElem? (i := 9) rfl)) (by decide +kernel)
theorem w_in_Math : (.initialized "java/lang/Math" : Cond) ∈ BIG := mB (tb_1 (List.mem_of_getElem? (i := 10) rfl)) (by decide +kernel)
theorem w_in_IllegalStateException : (.initialized "java/lang/IllegalStateException" : Cond) ∈ BIG := mB (tb_1 (List.mem_of_getElem? (i := 11) rfl)) (by decide +kernel)
theorem w_in_System : (.initialized "java/lang/System" : Cond) ∈ BIG := mB (tb_1 (List.mem_of_getElem? (i := 12) rfl)) (by decide +kernel)
theorem w_cl_L_8 : (.classLink RL 8 RC : Cond) ∈ BIG := mB (tb_1 (List.mem_of_getElem? (i := 13) rfl)) (by decide +kernel)
theorem w_is_C : (.instantiable RC 3 : Cond) ∈ BIG := mB (tb_1 (List.mem_of_getElem? (i := 14) rfl)) (by decide +kernel)
theorem w_ml_L_57 : (.methodLink RL 57 yC_init : Cond) ∈ BIG := mB (tb_1 (List.mem_of_getElem? (i := 15) rfl)) (by decide +kernel)
theorem w_im_C_init : (.instanceMethod yC_init : Cond) ∈ BIG := mB (tb_1 (List.mem_of_getElem? (i := 16) rfl)) (by decide +kernel)
theorem w_ml_C_1 : (.methodLink RC 1 objectInit : Cond) ∈ BIG := mB (tb_1 (List.mem_of_getElem? (i := 18) rfl)) (by decide +kernel)
theorem w_im_object : (.instanceMethod objectInit : Cond) ∈ BIG := mB (tb_1 (List.mem_of_getElem? (i := 19) rfl)) (by decide +kernel)
theorem w_cl_C_7 : (.classLink RC 7 RD : Cond) ∈ BIG := mB (tb_1 (List.mem_of_getElem? (i := 21) rfl)) (by decide +kernel)
theorem w_is_D : (.instantiable RD 3 : Cond) ∈ BIG := mB (tb_1 (List.mem_of_getElem? (i := 22) rfl)) (by decide +kernel)
theorem w_im_D_init : (.instanceMethod yD_init : Cond) ∈ BIG := mB (tb_1 (List.mem_of_getElem? (i := 24) rfl)) (by decide +kernel)
theorem w_ml_D_3 : (.methodLink RD 3 objectInit : Cond) ∈ BIG := mB (tb_1 (List.mem_of_getElem? (i := 26) rfl)) (by decide +kernel)
theorem w_fl_D_9 : (.fieldLink RD 9 "CardMessages$Draft" "messageType" "I" : Cond) ∈ BIG := mB (tb_1 (List.mem_of_getElem? (i := 27) rfl)) (by decide +kernel)
theorem w_fl_T_19 : (.fieldLink RT 19 "CardMessages$Draft" "messageType" "I" : Cond) ∈ BIG := mB (tb_1 (List.mem_of_getElem? (i := 28) rfl)) (by decide +kernel)
theorem w_fl_C_92 : (.fieldLink RC 92 "CardMessages$Draft" "messageType" "I" : Cond) ∈ BIG := mB (tb_1 (List.mem_of_getElem? (i := 29) rfl)) (by decide +kernel)
theorem w_fl_D_15 : (.fieldLink RD 15 "CardMessages$Draft" "counts" "[I" : Cond) ∈ BIG := mB (tb_1 (List.mem_of_getElem? (i := 30) rfl)) (by decide +kernel)
theorem w_fl_C_89 : (.fieldLink RC 89 "CardMessages$Draft" "counts" "[I" : Cond) ∈ BIG := mB (tb_1 (List.mem_of_getElem? (i := 31) rfl)) (by decide +kernel)
theorem w_fl_T_62 : (.fieldLink RT 62 "CardMessages$Draft" "counts" "[I" : Cond) ∈ BIG := mB (tb_1 (List.mem_of_getElem? (i := 32) rfl)) (by decide +kernel)
theorem w_fl_R_117 : (.fieldLink RR 117 "CardMessages$Draft" "counts" "[I" : Cond) ∈ BIG := mB (tb_1 (List.mem_of_getElem? (i := 33) rfl)) (by decide +kernel)
theorem w_fl_D_19 : (.fieldLink RD 19 "CardMessages$Draft" "marks" "[B" : Cond) ∈ BIG := mB (tb_1 (List.mem_of_getElem? (i := 34) rfl)) (by decide +kernel)
theorem w_ac_int : (.arrayClass .int : Cond) ∈ BIG := mB (tb_1 (List.mem_of_getElem? (i := 42) rfl)) (by decide +kernel)
theorem w_ac_byte : (.arrayClass .byte : Cond) ∈ BIG := mB (tb_1 (List.mem_of_getElem? (i := 43) rfl)) (by decide +kernel)
theorem w_cl_C_16 : (.classLink RC 16 RT : Cond) ∈ BIG := mB (tb_1 (List.mem_of_getElem? (i := 44) rfl)) (by decide +kernel)
theorem w_is_T : (.instantiable RT 2 : Cond) ∈ BIG := mB (tb_1 (List.mem_of_getElem? (i := 45) rfl)) (by decide +kernel)
theorem w_im_T_init : (.instanceMethod yT_init : Cond) ∈ BIG := mB (tb_1 (List.mem_of_getElem? (i := 47) rfl)) (by decide +kernel)
theorem w_ml_T_3 : (.methodLink RT 3 objectInit : Cond) ∈ BIG := mB (tb_1 (List.mem_of_getElem? (i := 49) rfl)) (by decide +kernel)
theorem w_fl_T_9 : (.fieldLink RT 9 "CardMessages$Tape" "bytes" "[B" : Cond) ∈ BIG := mB (tb_1 (List.mem_of_getElem? (i := 50) rfl)) (by decide +kernel)
theorem w_fl_T_15 : (.fieldLink RT 15 "CardMessages$Tape" "length" "I" : Cond) ∈ BIG := mB (tb_1 (List.mem_of_getElem? (i := 51) rfl)) (by decide +kernel)
theorem w_fl_R_62 : (.fieldLink RR 62 "CardMessages$Tape" "length" "I" : Cond) ∈ BIG := mB (tb_1 (List.mem_of_getElem? (i := 52) rfl)) (by decide +kernel)
theorem w_fl_C_116 : (.fieldLink RC 116 "CardMessages$Tape" "length" "I" : Cond) ∈ BIG := mB (tb_1 (List.mem_of_getElem? (i := 53) rfl)) (by decide +kernel)
theorem w_cl_C_23 : (.classLink RC 23 RR : Cond) ∈ BIG := mB (tb_1 (List.mem_of_getElem? (i := 59) rfl)) (by decide +kernel)
theorem w_is_R : (.instantiable RR 6 : Cond) ∈ BIG := mB (tb_1 (List.mem_of_getElem? (i := 60) rfl)) (by decide +kernel)
theorem w_ml_C_25 : (.methodLink RC 25 yR_init : Cond) ∈ BIG := mB (tb_1 (List.mem_of_getElem? (i := 61) rfl)) (by decide +kernel)
theorem w_im_R_init : (.instanceMethod yR_init : Cond) ∈ BIG := mB (tb_1 (List.mem_of_getElem? (i := 62) rfl)) (by decide +kernel)
theorem w_ml_R_3 : (.methodLink RR 3 objectInit : Cond) ∈ BIG := mB (tb_1 (List.mem_of_getElem? (i := 64) rfl)) (by decide +kernel)
theorem w_cl_R_9 : (.classLink RR 9 RD : Cond) ∈ BIG := mB (tb_1 (List.mem_of_getElem? (i := 65) rfl)) (by decide +kernel)
theorem w_fl_R_12 : (.fieldLink RR 12 "CardMessages$Reader" "found" "LCardMessages$Draft;" : Cond) ∈ BIG := mB (tb_1 (List.mem_of_getElem? (i := 67) rfl)) (by decide +kernel)
theorem w_fl_C_150 : (.fieldLink RC 150 "CardMessages$Reader" "found" "LCardMessages$Draft;" : Cond) ∈ BIG := mB (tb_1 (List.mem_of_getElem? (i := 68) rfl)) (by decide +kernel)
theorem w_fl_R_18 : (.fieldLink RR 18 "CardMessages$Reader" "faultKind" "I" : Cond) ∈ BIG := mB (tb_1 (List.mem_of_getElem? (i := 69) rfl)) (by decide +kernel)
theorem w_fl_C_144 : (.fieldLink RC 144 "CardMessages$Reader" "faultKind" "I" : Cond) ∈ BIG := mB (tb_1 (List.mem_of_getElem? (i := 70) rfl)) (by decide +kernel)
theorem w_fl_R_22 : (.fieldLink RR 22 "CardMessages$Reader" "faultPlace" "I" : Cond) ∈ BIG := mB (tb_1 (List.mem_of_getElem? (i := 71) rfl)) (by decide +kernel)
theorem w_fl_C_147 : (.fieldLink RC 147 "CardMessages$Reader" "faultPlace" "I" : Cond) ∈ BIG := mB (tb_1 (List.mem_of_getElem? (i := 72) rfl)) (by decide +kernel)
theorem w_fl_R_31 : (.fieldLink RR 31 "CardMessages$Reader" "tape" "LCardMessages$Tape;" : Cond) ∈ BIG := mB (tb_1 (List.mem_of_getElem? (i := 73) rfl)) (by decide +kernel)
theorem w_fl_R_25 : (.fieldLink RR 25 "CardMessages$Reader" "next" "I" : Cond) ∈ BIG := mB (tb_1 (List.mem_of_getElem? (i := 74) rfl)) (by decide +kernel)
theorem w_fl_R_28 : (.fieldLink RR 28 "CardMessages$Reader" "lastNumber" "I" : Cond) ∈ BIG := mB (tb_1 (List.mem_of_getElem? (i := 75) rfl)) (by decide +kernel)
theorem w_fl_C_10 : (.fieldLink RC 10 "CardMessages" "draft" "LCardMessages$Draft;" : Cond) ∈ BIG := mB (tb_1 (List.mem_of_getElem? (i := 89) rfl)) (by decide +kernel)
theorem w_fl_C_19 : (.fieldLink RC 19 "CardMessages" "tape" "LCardMessages$Tape;" : Cond) ∈ BIG := mB (tb_1 (List.mem_of_getElem? (i := 90) rfl)) (by decide +kernel)
theorem w_fl_C_28 : (.fieldLink RC 28 "CardMessages" "reader" "LCardMessages$Reader;" : Cond) ∈ BIG := mB (tb_1 (List.mem_of_getElem? (i := 91) rfl)) (by decide +kernel)
theorem w_ml_L_89 : (.methodLink RL 89 yC_type : Cond) ∈ BIG := mB (tb_1 (List.mem_of_getElem? (i := 99) rfl)) (by decide +kernel)
theorem w_im_C_type : (.instanceMethod yC_type : Cond) ∈ BIG := mB (tb_1 (List.mem_of_getElem? (i := 100) rfl)) (by decide +kernel)
theorem w_se_C_type : (.selects RC yC_type yC_type : Cond) ∈ BIG := mB (tb_1 (List.mem_of_getElem? (i := 101) rfl)) (by decide +kernel)
theorem w_ml_L_103 : (.methodLink RL 103 yC_fields : Cond) ∈ BIG := mB (tb_1 (List.mem_of_getElem? (i := 103) rfl)) (by decide +kernel)
theorem w_im_C_fields : (.instanceMethod yC_fields : Cond) ∈ BIG := mB (tb_1 (List.mem_of_getElem? (i := 104) rfl)) (by decide +kernel)
theorem w_se_C_fields : (.selects RC yC_fields yC_fields : Cond) ∈ BIG := mB (tb_1 (List.mem_of_getElem? (i := 105) rfl)) (by decide +kernel)
theorem w_ml_C_108 : (.methodLink RC 108 yD_fieldCount : Cond) ∈ BIG := mB (tb_1 (List.mem_of_getElem? (i := 107) rfl)) (by decide +kernel)
theorem w_im_D_fieldCount : (.instanceMethod yD_fieldCount : Cond) ∈ BIG := mB (tb_1 (List.mem_of_getElem? (i := 108) rfl)) (by decide +kernel)
theorem w_se_D_fieldCount : (.selects RD yD_fieldCount yD_fieldCount : Cond) ∈ BIG := mB (tb_1 (List.mem_of_getElem? (i := 109) rfl)) (by decide +kernel)
theorem w_ml_D_29 : (.methodLink RD 29 yD_has : Cond) ∈ BIG := mB (tb_1 (List.mem_of_getElem? (i := 111) rfl)) (by decide +kernel)
theorem w_im_D_has : (.instanceMethod yD_has : Cond) ∈ BIG := mB (tb_1 (List.mem_of_getElem? (i := 112) rfl)) (by decide +kernel)
theorem w_se_D_has : (.selects RD yD_has yD_has : Cond) ∈ BIG := mB (tb_1 (List.mem_of_getElem? (i := 113) rfl)) (by decide +kernel)
theorem w_ml_L_107 : (.methodLink RL 107 yC_compose : Cond) ∈ BIG := mB (tb_1 (List.mem_of_getElem? (i := 115) rfl)) (by decide +kernel)
theorem w_im_C_compose : (.instanceMethod yC_compose : Cond) ∈ BIG := mB (tb_1 (List.mem_of_getElem? (i := 116) rfl)) (by decide +kernel)
theorem w_se_C_compose : (.selects RC yC_compose yC_compose : Cond) ∈ BIG := mB (tb_1 (List.mem_of_getElem? (i := 117) rfl)) (by decide +kernel)
theorem w_ml_C_112 : (.methodLink RC 112 yT_write : Cond) ∈ BIG := mB (tb_1 (List.mem_of_getElem? (i := 119) rfl)) (by decide +kernel)
theorem w_im_T_write : (.instanceMethod yT_write : Cond) ∈ BIG := mB (tb_1 (List.mem_of_getElem? (i := 120) rfl)) (by decide +kernel)
theorem w_se_T_write : (.selects RT yT_write yT_write : Cond) ∈ BIG := mB (tb_1 (List.mem_of_getElem? (i := 121) rfl)) (by decide +kernel)
theorem w_ml_T_24 : (.methodLink RT 24 yT_appendNumber : Cond) ∈ BIG := mB (tb_1 (List.mem_of_getElem? (i := 123) rfl)) (by decide +kernel)
theorem w_im_T_appendNumber : (.instanceMethod yT_appendNumber : Cond) ∈ BIG := mB (tb_1 (List.mem_of_getElem? (i := 125) rfl)) (by decide +kernel)
theorem w_st_C_bytesOfDigits : (.static yC_bytesOfDigits : Cond) ∈ BIG := mB (tb_1 (List.mem_of_getElem? (i := 128) rfl)) (by decide +kernel)
theorem w_ml_T_81 : (.methodLink RT 81 yT_appendPair : Cond) ∈ BIG := mB (tb_1 (List.mem_of_getElem? (i := 130) rfl)) (by decide +kernel)
theorem w_im_T_appendPair : (.instanceMethod yT_appendPair : Cond) ∈ BIG := mB (tb_1 (List.mem_of_getElem? (i := 132) rfl)) (by decide +kernel)
theorem w_ml_T_44 : (.methodLink RT 44 yT_append : Cond) ∈ BIG := mB (tb_1 (List.mem_of_getElem? (i := 134) rfl)) (by decide +kernel)
theorem w_im_T_append : (.instanceMethod yT_append : Cond) ∈ BIG := mB (tb_1 (List.mem_of_getElem? (i := 135) rfl)) (by decide +kernel)
theorem w_se_T_append : (.selects RT yT_append yT_append : Cond) ∈ BIG := mB (tb_1 (List.mem_of_getElem? (i := 136) rfl)) (by decide +kernel)
theorem w_ml_T_28 : (.methodLink RT 28 yT_appendMaps : Cond) ∈ BIG := mB (tb_1 (List.mem_of_getElem? (i := 138) rfl)) (by decide +kernel)
theorem w_im_T_appendMaps : (.instanceMethod yT_appendMaps : Cond) ∈ BIG := mB (tb_1 (List.mem_of_getElem? (i := 140) rfl)) (by decide +kernel)
theorem w_ml_T_40 : (.methodLink RT 40 yT_hasFieldOfSecondMap : Cond) ∈ BIG := mB (tb_1 (List.mem_of_getElem? (i := 142) rfl)) (by decide +kernel)
theorem w_st_T_hasFieldOfSecondMap : (.static yT_hasFieldOfSecondMap : Cond) ∈ BIG := mB (tb_1 (List.mem_of_getElem? (i := 143) rfl)) (by decide +kernel)
theorem w_ml_T_32 : (.methodLink RT 32 yD_has : Cond) ∈ BIG := mB (tb_1 (List.mem_of_getElem? (i := 147) rfl)) (by decide +kernel)
theorem w_ml_T_48 : (.methodLink RT 48 yT_flip : Cond) ∈ BIG := mB (tb_1 (List.mem_of_getElem? (i := 148) rfl)) (by decide +kernel)
theorem w_im_T_flip : (.instanceMethod yT_flip : Cond) ∈ BIG := mB (tb_1 (List.mem_of_getElem? (i := 149) rfl)) (by decide +kernel)
theorem w_se_T_flip : (.selects RT yT_flip yT_flip : Cond) ∈ BIG := mB (tb_1 (List.mem_of_getElem? (i := 150) rfl)) (by decide +kernel)
theorem w_st_C_mapByte : (.static yC_mapByte : Cond) ∈ BIG := mB (tb_1 (List.mem_of_getElem? (i := 153) rfl)) (by decide +kernel)
theorem w_st_C_mapBit : (.static yC_mapBit : Cond) ∈ BIG := mB (tb_1 (List.mem_of_getElem? (i := 156) rfl)) (by decide +kernel)
theorem w_ml_T_36 : (.methodLink RT 36 yT_appendField : Cond) ∈ BIG := mB (tb_1 (List.mem_of_getElem? (i := 158) rfl)) (by decide +kernel)
theorem w_im_T_appendField : (.instanceMethod yT_appendField : Cond) ∈ BIG := mB (tb_1 (List.mem_of_getElem? (i := 160) rfl)) (by decide +kernel)
theorem w_ml_T_71 : (.methodLink RT 71 yT_appendLetters : Cond) ∈ BIG := mB (tb_1 (List.mem_of_getElem? (i := 166) rfl)) (by decide +kernel)
theorem w_im_T_appendLetters : (.instanceMethod yT_appendLetters : Cond) ∈ BIG := mB (tb_1 (List.mem_of_getElem? (i := 168) rfl)) (by decide +kernel)
theorem w_ml_T_84 : (.methodLink RT 84 yD_mark : Cond) ∈ BIG := mB (tb_1 (List.mem_of_getElem? (i := 170) rfl)) (by decide +kernel)
theorem w_im_D_mark : (.instanceMethod yD_mark : Cond) ∈ BIG := mB (tb_1 (List.mem_of_getElem? (i := 171) rfl)) (by decide +kernel)
theorem w_se_D_mark : (.selects RD yD_mark yD_mark : Cond) ∈ BIG := mB (tb_1 (List.mem_of_getElem? (i := 172) rfl)) (by decide +kernel)
theorem w_ml_T_75 : (.methodLink RT 75 yT_appendDigits : Cond) ∈ BIG := mB (tb_1 (List.mem_of_getElem? (i := 176) rfl)) (by decide +kernel)
theorem w_im_T_appendDigits : (.instanceMethod yT_appendDigits : Cond) ∈ BIG := mB (tb_1 (List.mem_of_getElem? (i := 178) rfl)) (by decide +kernel)
theorem w_ml_L_123 : (.methodLink RL 123 yC_read : Cond) ∈ BIG := mB (tb_1 (List.mem_of_getElem? (i := 180) rfl)) (by decide +kernel)
theorem w_im_C_read : (.instanceMethod yC_read : Cond) ∈ BIG := mB (tb_1 (List.mem_of_getElem? (i := 181) rfl)) (by decide +kernel)
theorem w_se_C_read : (.selects RC yC_read yC_read : Cond) ∈ BIG := mB (tb_1 (List.mem_of_getElem? (i := 182) rfl)) (by decide +kernel)
theorem w_ml_C_140 : (.methodLink RC 140 yR_walk : Cond) ∈ BIG := mB (tb_1 (List.mem_of_getElem? (i := 184) rfl)) (by decide +kernel)
theorem w_im_R_walk : (.instanceMethod yR_walk : Cond) ∈ BIG := mB (tb_1 (List.mem_of_getElem? (i := 185) rfl)) (by decide +kernel)
theorem w_se_R_walk : (.selects RR yR_walk yR_walk : Cond) ∈ BIG := mB (tb_1 (List.mem_of_getElem? (i := 186) rfl)) (by decide +kernel)
theorem w_ml_R_35 : (.methodLink RR 35 yR_walkType : Cond) ∈ BIG := mB (tb_1 (List.mem_of_getElem? (i := 188) rfl)) (by decide +kernel)
theorem w_im_R_walkType : (.instanceMethod yR_walkType : Cond) ∈ BIG := mB (tb_1 (List.mem_of_getElem? (i := 190) rfl)) (by decide +kernel)
theorem w_ml_R_69 : (.methodLink RR 69 yR_walkNumber : Cond) ∈ BIG := mB (tb_1 (List.mem_of_getElem? (i := 192) rfl)) (by decide +kernel)
theorem w_im_R_walkNumber : (.instanceMethod yR_walkNumber : Cond) ∈ BIG := mB (tb_1 (List.mem_of_getElem? (i := 194) rfl)) (by decide +kernel)
theorem w_ml_R_103 : (.methodLink RR 103 yR_areDigits : Cond) ∈ BIG := mB (tb_1 (List.mem_of_getElem? (i := 196) rfl)) (by decide +kernel)
theorem w_im_R_areDigits : (.instanceMethod yR_areDigits : Cond) ∈ BIG := mB (tb_1 (List.mem_of_getElem? (i := 198) rfl)) (by decide +kernel)
theorem w_ml_R_79 : (.methodLink RR 79 yR_reaches : Cond) ∈ BIG := mB (tb_1 (List.mem_of_getElem? (i := 201) rfl)) (by decide +kernel)
theorem w_im_R_reaches : (.instanceMethod yR_reaches : Cond) ∈ BIG := mB (tb_1 (List.mem_of_getElem? (i := 203) rfl)) (by decide +kernel)
theorem w_ml_R_65 : (.methodLink RR 65 yR_fail : Cond) ∈ BIG := mB (tb_1 (List.mem_of_getElem? (i := 205) rfl)) (by decide +kernel)
theorem w_im_R_fail : (.instanceMethod yR_fail : Cond) ∈ BIG := mB (tb_1 (List.mem_of_getElem? (i := 207) rfl)) (by decide +kernel)
theorem w_ml_R_123 : (.methodLink RR 123 yR_halfAhead : Cond) ∈ BIG := mB (tb_1 (List.mem_of_getElem? (i := 209) rfl)) (by decide +kernel)
theorem w_im_R_halfAhead : (.instanceMethod yR_halfAhead : Cond) ∈ BIG := mB (tb_1 (List.mem_of_getElem? (i := 211) rfl)) (by decide +kernel)
theorem w_ml_R_50 : (.methodLink RR 50 yT_byteAt : Cond) ∈ BIG := mB (tb_1 (List.mem_of_getElem? (i := 213) rfl)) (by decide +kernel)
theorem w_im_T_byteAt : (.instanceMethod yT_byteAt : Cond) ∈ BIG := mB (tb_1 (List.mem_of_getElem? (i := 214) rfl)) (by decide +kernel)
theorem w_se_T_byteAt : (.selects RT yT_byteAt yT_byteAt : Cond) ∈ BIG := mB (tb_1 (List.mem_of_getElem? (i := 215) rfl)) (by decide +kernel)
theorem w_ml_R_106 : (.methodLink RR 106 yR_digitAhead : Cond) ∈ BIG := mB (tb_1 (List.mem_of_getElem? (i := 217) rfl)) (by decide +kernel)
theorem w_im_R_digitAhead : (.instanceMethod yR_digitAhead : Cond) ∈ BIG := mB (tb_1 (List.mem_of_getElem? (i := 219) rfl)) (by decide +kernel)
theorem w_ml_R_75 : (.methodLink RR 75 yD_restart : Cond) ∈ BIG := mB (tb_1 (List.mem_of_getElem? (i := 223) rfl)) (by decide +kernel)
theorem w_im_D_restart : (.instanceMethod yD_restart : Cond) ∈ BIG := mB (tb_1 (List.mem_of_getElem? (i := 224) rfl)) (by decide +kernel)
theorem w_se_D_restart : (.selects RD yD_restart yD_restart : Cond) ∈ BIG := mB (tb_1 (List.mem_of_getElem? (i := 225) rfl)) (by decide +kernel)
theorem w_ml_R_39 : (.methodLink RR 39 yR_walkMaps : Cond) ∈ BIG := mB (tb_1 (List.mem_of_getElem? (i := 227) rfl)) (by decide +kernel)
theorem w_im_R_walkMaps : (.instanceMethod yR_walkMaps : Cond) ∈ BIG := mB (tb_1 (List.mem_of_getElem? (i := 229) rfl)) (by decide +kernel)
theorem w_ml_R_85 : (.methodLink RR 85 yR_hasBit : Cond) ∈ BIG := mB (tb_1 (List.mem_of_getElem? (i := 233) rfl)) (by decide +kernel)
theorem w_im_R_hasBit : (.instanceMethod yR_hasBit : Cond) ∈ BIG := mB (tb_1 (List.mem_of_getElem? (i := 235) rfl)) (by decide +kernel)
theorem w_ml_R_58 : (.methodLink RR 58 yR_walkField : Cond) ∈ BIG := mB (tb_2 (List.mem_of_getElem? (i := 0) rfl)) (by decide +kernel)
theorem w_im_R_walkField : (.instanceMethod yR_walkField : Cond) ∈ BIG := mB (tb_2 (List.mem_of_getElem? (i := 2) rfl)) (by decide +kernel)
theorem w_ml_R_97 : (.methodLink RR 97 yR_walkLetters : Cond) ∈ BIG := mB (tb_2 (List.mem_of_getElem? (i := 8) rfl)) (by decide +kernel)
theorem w_im_R_walkLetters : (.instanceMethod yR_walkLetters : Cond) ∈ BIG := mB (tb_2 (List.mem_of_getElem? (i := 10) rfl)) (by decide +kernel)
theorem w_ml_R_120 : (.methodLink RR 120 yR_isLetter : Cond) ∈ BIG := mB (tb_2 (List.mem_of_getElem? (i := 12) rfl)) (by decide +kernel)
theorem w_st_R_isLetter : (.static yR_isLetter : Cond) ∈ BIG := mB (tb_2 (List.mem_of_getElem? (i := 13) rfl)) (by decide +kernel)
theorem w_ml_R_113 : (.methodLink RR 113 yD_setMark : Cond) ∈ BIG := mB (tb_2 (List.mem_of_getElem? (i := 15) rfl)) (by decide +kernel)
theorem w_im_D_setMark : (.instanceMethod yD_setMark : Cond) ∈ BIG := mB (tb_2 (List.mem_of_getElem? (i := 16) rfl)) (by decide +kernel)
theorem w_se_D_setMark : (.selects RD yD_setMark yD_setMark : Cond) ∈ BIG := mB (tb_2 (List.mem_of_getElem? (i := 17) rfl)) (by decide +kernel)
theorem w_ml_R_100 : (.methodLink RR 100 yR_walkDigits : Cond) ∈ BIG := mB (tb_2 (List.mem_of_getElem? (i := 19) rfl)) (by decide +kernel)
theorem w_im_R_walkDigits : (.instanceMethod yR_walkDigits : Cond) ∈ BIG := mB (tb_2 (List.mem_of_getElem? (i := 21) rfl)) (by decide +kernel)
theorem w_ml_C_153 : (.methodLink RC 153 yD_become : Cond) ∈ BIG := mB (tb_2 (List.mem_of_getElem? (i := 23) rfl)) (by decide +kernel)
theorem w_im_D_become : (.instanceMethod yD_become : Cond) ∈ BIG := mB (tb_2 (List.mem_of_getElem? (i := 24) rfl)) (by decide +kernel)
theorem w_se_D_become : (.selects RD yD_become yD_become : Cond) ∈ BIG := mB (tb_2 (List.mem_of_getElem? (i := 25) rfl)) (by decide +kernel)
theorem w_ml_D_23 : (.methodLink RD 23 arraycopyName : Cond) ∈ BIG := mB (tb_2 (List.mem_of_getElem? (i := 27) rfl)) (by decide +kernel)
theorem w_st_copy : (.static arraycopyName : Cond) ∈ BIG := mB (tb_2 (List.mem_of_getElem? (i := 28) rfl)) (by decide +kernel)
theorem w_na_copy : (.native arraycopyName : Cond) ∈ BIG := mB (tb_2 (List.mem_of_getElem? (i := 29) rfl)) (by decide +kernel)
theorem w_ml_L_61 : (.methodLink RL 61 yL_message : Cond) ∈ BIG := mB (tb_2 (List.mem_of_getElem? (i := 30) rfl)) (by decide +kernel)
theorem w_st_L_message : (.static yL_message : Cond) ∈ BIG := mB (tb_2 (List.mem_of_getElem? (i := 31) rfl)) (by decide +kernel)
theorem w_cl_L_13 : (.classLink RL 13 "java/lang/IllegalArgumentException" : Cond) ∈ BIG := mB (tb_2 (List.mem_of_getElem? (i := 33) rfl)) (by decide +kernel)
theorem w_ml_L_7 : (.methodLink RL 7 yC_message : Cond) ∈ BIG := mB (tb_2 (List.mem_of_getElem? (i := 34) rfl)) (by decide +kernel)
theorem w_im_C_message : (.instanceMethod yC_message : Cond) ∈ BIG := mB (tb_2 (List.mem_of_getElem? (i := 35) rfl)) (by decide +kernel)
theorem w_se_C_message : (.selects RC yC_message yC_message : Cond) ∈ BIG := mB (tb_2 (List.mem_of_getElem? (i := 36) rfl)) (by decide +kernel)
theorem w_cl_C_32 : (.classLink RC 32 "java/lang/IllegalArgumentException" : Cond) ∈ BIG := mB (tb_2 (List.mem_of_getElem? (i := 38) rfl)) (by decide +kernel)
theorem w_ml_C_36 : (.methodLink RC 36 ⟨"java/lang/IllegalArgumentException", "<init>", "(Ljava/lang/String;)V"⟩ : Cond) ∈ BIG := mB (tb_2 (List.mem_of_getElem? (i := 79) rfl)) (by decide +kernel)
theorem w_ml_C_39 : (.methodLink RC 39 yD_restart : Cond) ∈ BIG := mB (tb_2 (List.mem_of_getElem? (i := 104) rfl)) (by decide +kernel)
theorem w_ml_L_73 : (.methodLink RL 73 yL_digits : Cond) ∈ BIG := mB (tb_2 (List.mem_of_getElem? (i := 105) rfl)) (by decide +kernel)
theorem w_st_L_digits : (.static yL_digits : Cond) ∈ BIG := mB (tb_2 (List.mem_of_getElem? (i := 106) rfl)) (by decide +kernel)
theorem w_ml_L_15 : (.methodLink RL 15 yC_digits : Cond) ∈ BIG := mB (tb_2 (List.mem_of_getElem? (i := 108) rfl)) (by decide +kernel)
theorem w_im_C_digits : (.instanceMethod yC_digits : Cond) ∈ BIG := mB (tb_2 (List.mem_of_getElem? (i := 109) rfl)) (by decide +kernel)
theorem w_se_C_digits : (.selects RC yC_digits yC_digits : Cond) ∈ BIG := mB (tb_2 (List.mem_of_getElem? (i := 110) rfl)) (by decide +kernel)
theorem w_ml_C_43 : (.methodLink RC 43 yC_digitSlot : Cond) ∈ BIG := mB (tb_2 (List.mem_of_getElem? (i := 112) rfl)) (by decide +kernel)
theorem w_st_C_digitSlot : (.static yC_digitSlot : Cond) ∈ BIG := mB (tb_2 (List.mem_of_getElem? (i := 113) rfl)) (by decide +kernel)
theorem w_ml_C_64 : (.methodLink RC 64 yC_knownSlot : Cond) ∈ BIG := mB (tb_2 (List.mem_of_getElem? (i := 115) rfl)) (by decide +kernel)
theorem w_st_C_knownSlot : (.static yC_knownSlot : Cond) ∈ BIG := mB (tb_2 (List.mem_of_getElem? (i := 116) rfl)) (by decide +kernel)
theorem w_fl_C_156 : (.fieldLink RC 156 "CardMessages" "FIELDS" "[I" : Cond) ∈ BIG := mB (tb_2 (List.mem_of_getElem? (i := 118) rfl)) (by decide +kernel)
theorem w_fl_C_67 : (.fieldLink RC 67 "CardMessages" "HAS_LETTERS" "[I" : Cond) ∈ BIG := mB (tb_2 (List.mem_of_getElem? (i := 120) rfl)) (by decide +kernel)
theorem w_ml_C_47 : (.methodLink RC 47 yC_digitCount : Cond) ∈ BIG := mB (tb_2 (List.mem_of_getElem? (i := 122) rfl)) (by decide +kernel)
theorem w_st_C_digitCount : (.static yC_digitCount : Cond) ∈ BIG := mB (tb_2 (List.mem_of_getElem? (i := 123) rfl)) (by decide +kernel)
theorem w_k_C_163 : (.constantLong RC 163 (10) : Cond) ∈ BIG := mB (tb_2 (List.mem_of_getElem? (i := 125) rfl)) (by decide +kernel)
theorem w_fl_C_51 : (.fieldLink RC 51 "CardMessages" "MOST_MARKS" "[I" : Cond) ∈ BIG := mB (tb_2 (List.mem_of_getElem? (i := 126) rfl)) (by decide +kernel)
theorem w_fl_C_57 : (.fieldLink RC 57 "CardMessages" "COUNT_DIGITS" "[I" : Cond) ∈ BIG := mB (tb_2 (List.mem_of_getElem? (i := 128) rfl)) (by decide +kernel)
theorem w_ml_C_60 : (.methodLink RC 60 yD_putNumber : Cond) ∈ BIG := mB (tb_2 (List.mem_of_getElem? (i := 129) rfl)) (by decide +kernel)
theorem w_im_D_putNumber : (.instanceMethod yD_putNumber : Cond) ∈ BIG := mB (tb_2 (List.mem_of_getElem? (i := 130) rfl)) (by decide +kernel)
theorem w_se_D_putNumber : (.selects RD yD_putNumber yD_putNumber : Cond) ∈ BIG := mB (tb_2 (List.mem_of_getElem? (i := 131) rfl)) (by decide +kernel)
theorem w_ml_D_36 : (.methodLink RD 36 yD_setDigits : Cond) ∈ BIG := mB (tb_2 (List.mem_of_getElem? (i := 133) rfl)) (by decide +kernel)
theorem w_im_D_setDigits : (.instanceMethod yD_setDigits : Cond) ∈ BIG := mB (tb_2 (List.mem_of_getElem? (i := 135) rfl)) (by decide +kernel)
theorem w_k_D_53 : (.constantLong RD 53 (10) : Cond) ∈ BIG := mB (tb_2 (List.mem_of_getElem? (i := 137) rfl)) (by decide +kernel)
theorem w_ml_D_43 : (.methodLink RD 43 yD_setMark : Cond) ∈ BIG := mB (tb_2 (List.mem_of_getElem? (i := 138) rfl)) (by decide +kernel)
theorem w_ml_L_77 : (.methodLink RL 77 yL_letters : Cond) ∈ BIG := mB (tb_2 (List.mem_of_getElem? (i := 139) rfl)) (by decide +kernel)
theorem w_st_L_letters : (.static yL_letters : Cond) ∈ BIG := mB (tb_2 (List.mem_of_getElem? (i := 140) rfl)) (by decide +kernel)
theorem w_ml_L_19 : (.methodLink RL 19 yC_letters : Cond) ∈ BIG := mB (tb_2 (List.mem_of_getElem? (i := 142) rfl)) (by decide +kernel)
theorem w_im_C_letters : (.instanceMethod yC_letters : Cond) ∈ BIG := mB (tb_2 (List.mem_of_getElem? (i := 143) rfl)) (by decide +kernel)
theorem w_se_C_letters : (.selects RC yC_letters yC_letters : Cond) ∈ BIG := mB (tb_2 (List.mem_of_getElem? (i := 144) rfl)) (by decide +kernel)
theorem w_ml_C_74 : (.methodLink RC 74 yD_putLetters : Cond) ∈ BIG := mB (tb_2 (List.mem_of_getElem? (i := 148) rfl)) (by decide +kernel)
theorem w_im_D_putLetters : (.instanceMethod yD_putLetters : Cond) ∈ BIG := mB (tb_2 (List.mem_of_getElem? (i := 149) rfl)) (by decide +kernel)
theorem w_se_D_putLetters : (.selects RD yD_putLetters yD_putLetters : Cond) ∈ BIG := mB (tb_2 (List.mem_of_getElem? (i := 150) rfl)) (by decide +kernel)
theorem w_ml_L_81 : (.methodLink RL 81 yL_original : Cond) ∈ BIG := mB (tb_2 (List.mem_of_getElem? (i := 152) rfl)) (by decide +kernel)
theorem w_st_L_original : (.static yL_original : Cond) ∈ BIG := mB (tb_2 (List.mem_of_getElem? (i := 153) rfl)) (by decide +kernel)
theorem w_ml_L_23 : (.methodLink RL 23 yC_original : Cond) ∈ BIG := mB (tb_2 (List.mem_of_getElem? (i := 155) rfl)) (by decide +kernel)
theorem w_im_C_original : (.instanceMethod yC_original : Cond) ∈ BIG := mB (tb_2 (List.mem_of_getElem? (i := 156) rfl)) (by decide +kernel)
theorem w_se_C_original : (.selects RC yC_original yC_original : Cond) ∈ BIG := mB (tb_2 (List.mem_of_getElem? (i := 157) rfl)) (by decide +kernel)
theorem w_k_C_77 : (.constant RC 77 (999999) : Cond) ∈ BIG := mB (tb_2 (List.mem_of_getElem? (i := 159) rfl)) (by decide +kernel)
theorem w_k_C_78 : (.constant RC 78 (99999) : Cond) ∈ BIG := mB (tb_2 (List.mem_of_getElem? (i := 160) rfl)) (by decide +kernel)
theorem w_ml_C_81 : (.methodLink RC 81 yD_putOriginal : Cond) ∈ BIG := mB (tb_2 (List.mem_of_getElem? (i := 162) rfl)) (by decide +kernel)
theorem w_im_D_putOriginal : (.instanceMethod yD_putOriginal : Cond) ∈ BIG := mB (tb_2 (List.mem_of_getElem? (i := 163) rfl)) (by decide +kernel)
theorem w_se_D_putOriginal : (.selects RD yD_putOriginal yD_putOriginal : Cond) ∈ BIG := mB (tb_2 (List.mem_of_getElem? (i := 164) rfl)) (by decide +kernel)
theorem w_ml_L_85 : (.methodLink RL 85 yL_omit : Cond) ∈ BIG := mB (tb_2 (List.mem_of_getElem? (i := 167) rfl)) (by decide +kernel)
theorem w_st_L_omit : (.static yL_omit : Cond) ∈ BIG := mB (tb_2 (List.mem_of_getElem? (i := 168) rfl)) (by decide +kernel)
theorem w_ml_L_27 : (.methodLink RL 27 yC_omit : Cond) ∈ BIG := mB (tb_2 (List.mem_of_getElem? (i := 170) rfl)) (by decide +kernel)
theorem w_im_C_omit : (.instanceMethod yC_omit : Cond) ∈ BIG := mB (tb_2 (List.mem_of_getElem? (i := 171) rfl)) (by decide +kernel)
theorem w_se_C_omit : (.selects RC yC_omit yC_omit : Cond) ∈ BIG := mB (tb_2 (List.mem_of_getElem? (i := 172) rfl)) (by decide +kernel)
theorem w_ml_C_85 : (.methodLink RC 85 yD_has : Cond) ∈ BIG := mB (tb_2 (List.mem_of_getElem? (i := 174) rfl)) (by decide +kernel)
theorem w_ml_L_93 : (.methodLink RL 93 yL_size : Cond) ∈ BIG := mB (tb_2 (List.mem_of_getElem? (i := 175) rfl)) (by decide +kernel)
theorem w_st_L_size : (.static yL_size : Cond) ∈ BIG := mB (tb_2 (List.mem_of_getElem? (i := 176) rfl)) (by decide +kernel)
theorem w_ml_L_31 : (.methodLink RL 31 yC_size : Cond) ∈ BIG := mB (tb_2 (List.mem_of_getElem? (i := 178) rfl)) (by decide +kernel)
theorem w_im_C_size : (.instanceMethod yC_size : Cond) ∈ BIG := mB (tb_2 (List.mem_of_getElem? (i := 179) rfl)) (by decide +kernel)
theorem w_se_C_size : (.selects RC yC_size yC_size : Cond) ∈ BIG := mB (tb_2 (List.mem_of_getElem? (i := 180) rfl)) (by decide +kernel)
theorem w_ml_L_96 : (.methodLink RL 96 yL_at : Cond) ∈ BIG := mB (tb_2 (List.mem_of_getElem? (i := 182) rfl)) (by decide +kernel)
theorem w_st_L_at : (.static yL_at : Cond) ∈ BIG := mB (tb_2 (List.mem_of_getElem? (i := 183) rfl)) (by decide +kernel)
theorem w_ml_L_35 : (.methodLink RL 35 yC_at : Cond) ∈ BIG := mB (tb_2 (List.mem_of_getElem? (i := 185) rfl)) (by decide +kernel)
theorem w_im_C_at : (.instanceMethod yC_at : Cond) ∈ BIG := mB (tb_2 (List.mem_of_getElem? (i := 186) rfl)) (by decide +kernel)
theorem w_se_C_at : (.selects RC yC_at yC_at : Cond) ∈ BIG := mB (tb_2 (List.mem_of_getElem? (i := 187) rfl)) (by decide +kernel)
theorem w_ml_C_98 : (.methodLink RC 98 yD_mark : Cond) ∈ BIG := mB (tb_2 (List.mem_of_getElem? (i := 190) rfl)) (by decide +kernel)
theorem w_ml_L_100 : (.methodLink RL 100 yL_number : Cond) ∈ BIG := mB (tb_2 (List.mem_of_getElem? (i := 191) rfl)) (by decide +kernel)
theorem w_st_L_number : (.static yL_number : Cond) ∈ BIG := mB (tb_2 (List.mem_of_getElem? (i := 192) rfl)) (by decide +kernel)
theorem w_ml_L_39 : (.methodLink RL 39 yC_number : Cond) ∈ BIG := mB (tb_2 (List.mem_of_getElem? (i := 194) rfl)) (by decide +kernel)
theorem w_im_C_number : (.instanceMethod yC_number : Cond) ∈ BIG := mB (tb_2 (List.mem_of_getElem? (i := 195) rfl)) (by decide +kernel)
theorem w_se_C_number : (.selects RC yC_number yC_number : Cond) ∈ BIG := mB (tb_2 (List.mem_of_getElem? (i := 196) rfl)) (by decide +kernel)
theorem w_ml_C_102 : (.methodLink RC 102 yD_lastDigits : Cond) ∈ BIG := mB (tb_2 (List.mem_of_getElem? (i := 198) rfl)) (by decide +kernel)
theorem w_im_D_lastDigits : (.instanceMethod yD_lastDigits : Cond) ∈ BIG := mB (tb_2 (List.mem_of_getElem? (i := 199) rfl)) (by decide +kernel)
theorem w_se_D_lastDigits : (.selects RD yD_lastDigits yD_lastDigits : Cond) ∈ BIG := mB (tb_2 (List.mem_of_getElem? (i := 200) rfl)) (by decide +kernel)
theorem w_ml_D_47 : (.methodLink RD 47 Lib.Math.max.name : Cond) ∈ BIG := mB (tb_2 (List.mem_of_getElem? (i := 202) rfl)) (by decide +kernel)
theorem w_st_max : (.static Lib.Math.max.name : Cond) ∈ BIG := mB (tb_2 (List.mem_of_getElem? (i := 203) rfl)) (by decide +kernel)
theorem w_ml_D_55 : (.methodLink RD 55 yD_mark : Cond) ∈ BIG := mB (tb_2 (List.mem_of_getElem? (i := 205) rfl)) (by decide +kernel)
theorem w_k_C_106 : (.constantLong RC 106 (-1) : Cond) ∈ BIG := mB (tb_2 (List.mem_of_getElem? (i := 206) rfl)) (by decide +kernel)
theorem w_ml_L_111 : (.methodLink RL 111 yL_feed : Cond) ∈ BIG := mB (tb_2 (List.mem_of_getElem? (i := 207) rfl)) (by decide +kernel)
theorem w_st_L_feed : (.static yL_feed : Cond) ∈ BIG := mB (tb_2 (List.mem_of_getElem? (i := 208) rfl)) (by decide +kernel)
theorem w_cl_L_46 : (.classLink RL 46 "java/lang/IllegalStateException" : Cond) ∈ BIG := mB (tb_2 (List.mem_of_getElem? (i := 210) rfl)) (by decide +kernel)
theorem w_ml_L_43 : (.methodLink RL 43 yC_feed : Cond) ∈ BIG := mB (tb_2 (List.mem_of_getElem? (i := 211) rfl)) (by decide +kernel)
theorem w_im_C_feed : (.instanceMethod yC_feed : Cond) ∈ BIG := mB (tb_2 (List.mem_of_getElem? (i := 212) rfl)) (by decide +kernel)
theorem w_se_C_feed : (.selects RC yC_feed yC_feed : Cond) ∈ BIG := mB (tb_2 (List.mem_of_getElem? (i := 213) rfl)) (by decide +kernel)
theorem w_cl_C_119 : (.classLink RC 119 "java/lang/IllegalStateException" : Cond) ∈ BIG := mB (tb_2 (List.mem_of_getElem? (i := 215) rfl)) (by decide +kernel)
theorem w_ml_C_123 : (.methodLink RC 123 ⟨"java/lang/IllegalStateException", "<init>", "(Ljava/lang/String;)V"⟩ : Cond) ∈ BIG := mB (tb_2 (List.mem_of_getElem? (i := 225) rfl)) (by decide +kernel)
theorem w_ml_C_124 : (.methodLink RC 124 yT_append : Cond) ∈ BIG := mB (tb_2 (List.mem_of_getElem? (i := 231) rfl)) (by decide +kernel)
theorem w_ml_L_114 : (.methodLink RL 114 yL_trim : Cond) ∈ BIG := mB (tb_2 (List.mem_of_getElem? (i := 232) rfl)) (by decide +kernel)
theorem w_st_L_trim : (.static yL_trim : Cond) ∈ BIG := mB (tb_2 (List.mem_of_getElem? (i := 233) rfl)) (by decide +kernel)
theorem w_ml_L_48 : (.methodLink RL 48 yC_trim : Cond) ∈ BIG := mB (tb_2 (List.mem_of_getElem? (i := 235) rfl)) (by decide +kernel)
theorem w_im_C_trim : (.instanceMethod yC_trim : Cond) ∈ BIG := mB (tb_2 (List.mem_of_getElem? (i := 236) rfl)) (by decide +kernel)
theorem w_se_C_trim : (.selects RC yC_trim yC_trim : Cond) ∈ BIG := mB (tb_2 (List.mem_of_getElem? (i := 237) rfl)) (by decide +kernel)
theorem w_ml_L_117 : (.methodLink RL 117 yL_spoil : Cond) ∈ BIG := mB (tb_3 (List.mem_of_getElem? (i := 0) rfl)) (by decide +kernel)
theorem w_st_L_spoil : (.static yL_spoil : Cond) ∈ BIG := mB (tb_3 (List.mem_of_getElem? (i := 1) rfl)) (by decide +kernel)
theorem w_ml_L_51 : (.methodLink RL 51 yC_spoil : Cond) ∈ BIG := mB (tb_3 (List.mem_of_getElem? (i := 3) rfl)) (by decide +kernel)
theorem w_im_C_spoil : (.instanceMethod yC_spoil : Cond) ∈ BIG := mB (tb_3 (List.mem_of_getElem? (i := 4) rfl)) (by decide +kernel)
theorem w_se_C_spoil : (.selects RC yC_spoil yC_spoil : Cond) ∈ BIG := mB (tb_3 (List.mem_of_getElem? (i := 5) rfl)) (by decide +kernel)
theorem w_ml_C_131 : (.methodLink RC 131 yT_flip : Cond) ∈ BIG := mB (tb_3 (List.mem_of_getElem? (i := 8) rfl)) (by decide +kernel)
theorem w_ml_C_135 : (.methodLink RC 135 yT_byteAt : Cond) ∈ BIG := mB (tb_3 (List.mem_of_getElem? (i := 9) rfl)) (by decide +kernel)
theorem w_ml_L_120 : (.methodLink RL 120 yL_fault : Cond) ∈ BIG := mB (tb_3 (List.mem_of_getElem? (i := 10) rfl)) (by decide +kernel)
theorem w_st_L_fault : (.static yL_fault : Cond) ∈ BIG := mB (tb_3 (List.mem_of_getElem? (i := 11) rfl)) (by decide +kernel)
theorem w_ml_L_54 : (.methodLink RL 54 yC_fault : Cond) ∈ BIG := mB (tb_3 (List.mem_of_getElem? (i := 13) rfl)) (by decide +kernel)
theorem w_im_C_fault : (.instanceMethod yC_fault : Cond) ∈ BIG := mB (tb_3 (List.mem_of_getElem? (i := 14) rfl)) (by decide +kernel)
theorem w_se_C_fault : (.selects RC yC_fault yC_fault : Cond) ∈ BIG := mB (tb_3 (List.mem_of_getElem? (i := 15) rfl)) (by decide +kernel)
theorem w_cl_L_58 : (.classLink RL 58 RM : Cond) ∈ BIG := mB (tb_3 (List.mem_of_getElem? (i := 18) rfl)) (by decide +kernel)
theorem w_is_M : (.instantiable RM 17 : Cond) ∈ BIG := mB (tb_3 (List.mem_of_getElem? (i := 19) rfl)) (by decide +kernel)
theorem w_ml_L_60 : (.methodLink RL 60 yM_init : Cond) ∈ BIG := mB (tb_3 (List.mem_of_getElem? (i := 20) rfl)) (by decide +kernel)
theorem w_im_M_init : (.instanceMethod yM_init : Cond) ∈ BIG := mB (tb_3 (List.mem_of_getElem? (i := 21) rfl)) (by decide +kernel)
theorem w_ml_M_1 : (.methodLink RM 1 objectInit : Cond) ∈ BIG := mB (tb_3 (List.mem_of_getElem? (i := 23) rfl)) (by decide +kernel)
theorem w_ml_M_41 : (.methodLink RM 41 yM_clear : Cond) ∈ BIG := mB (tb_3 (List.mem_of_getElem? (i := 24) rfl)) (by decide +kernel)
theorem w_st_M_clear : (.static yM_clear : Cond) ∈ BIG := mB (tb_3 (List.mem_of_getElem? (i := 25) rfl)) (by decide +kernel)
theorem w_fl_M_7 : (.fieldLink RM 7 "CardMessagesModel" "numbers" "[I" : Cond) ∈ BIG := mB (tb_3 (List.mem_of_getElem? (i := 27) rfl)) (by decide +kernel)
theorem w_fl_M_13 : (.fieldLink RM 13 "CardMessagesModel" "sizes" "[I" : Cond) ∈ BIG := mB (tb_3 (List.mem_of_getElem? (i := 28) rfl)) (by decide +kernel)
theorem w_fl_M_16 : (.fieldLink RM 16 "CardMessagesModel" "forms" "[I" : Cond) ∈ BIG := mB (tb_3 (List.mem_of_getElem? (i := 29) rfl)) (by decide +kernel)
theorem w_fl_M_45 : (.fieldLink RM 45 "CardMessagesModel" "code" "I" : Cond) ∈ BIG := mB (tb_3 (List.mem_of_getElem? (i := 30) rfl)) (by decide +kernel)
theorem w_fl_M_19 : (.fieldLink RM 19 "CardMessagesModel" "draftType" "I" : Cond) ∈ BIG := mB (tb_3 (List.mem_of_getElem? (i := 31) rfl)) (by decide +kernel)
theorem w_fl_M_23 : (.fieldLink RM 23 "CardMessagesModel" "draft" "[I" : Cond) ∈ BIG := mB (tb_3 (List.mem_of_getElem? (i := 32) rfl)) (by decide +kernel)
theorem w_fl_M_26 : (.fieldLink RM 26 "CardMessagesModel" "draftSize" "[I" : Cond) ∈ BIG := mB (tb_3 (List.mem_of_getElem? (i := 33) rfl)) (by decide +kernel)
theorem w_fl_M_122 : (.fieldLink RM 122 "CardMessagesModel" "readType" "I" : Cond) ∈ BIG := mB (tb_3 (List.mem_of_getElem? (i := 34) rfl)) (by decide +kernel)
theorem w_fl_M_29 : (.fieldLink RM 29 "CardMessagesModel" "read" "[I" : Cond) ∈ BIG := mB (tb_3 (List.mem_of_getElem? (i := 35) rfl)) (by decide +kernel)
theorem w_fl_M_32 : (.fieldLink RM 32 "CardMessagesModel" "readSize" "[I" : Cond) ∈ BIG := mB (tb_3 (List.mem_of_getElem? (i := 36) rfl)) (by decide +kernel)
theorem w_fl_M_35 : (.fieldLink RM 35 "CardMessagesModel" "tape" "[I" : Cond) ∈ BIG := mB (tb_3 (List.mem_of_getElem? (i := 37) rfl)) (by decide +kernel)
theorem w_fl_M_99 : (.fieldLink RM 99 "CardMessagesModel" "size" "I" : Cond) ∈ BIG := mB (tb_3 (List.mem_of_getElem? (i := 38) rfl)) (by decide +kernel)
theorem w_fl_M_108 : (.fieldLink RM 108 "CardMessagesModel" "at" "I" : Cond) ∈ BIG := mB (tb_3 (List.mem_of_getElem? (i := 39) rfl)) (by decide +kernel)
theorem w_fl_M_102 : (.fieldLink RM 102 "CardMessagesModel" "fault" "I" : Cond) ∈ BIG := mB (tb_3 (List.mem_of_getElem? (i := 40) rfl)) (by decide +kernel)
theorem w_fl_M_105 : (.fieldLink RM 105 "CardMessagesModel" "place" "I" : Cond) ∈ BIG := mB (tb_3 (List.mem_of_getElem? (i := 41) rfl)) (by decide +kernel)
theorem w_fl_M_84 : (.fieldLink RM 84 "CardMessagesModel" "written" "I" : Cond) ∈ BIG := mB (tb_3 (List.mem_of_getElem? (i := 42) rfl)) (by decide +kernel)
theorem w_fl_M_38 : (.fieldLink RM 38 "CardMessagesModel" "few" "[I" : Cond) ∈ BIG := mB (tb_3 (List.mem_of_getElem? (i := 43) rfl)) (by decide +kernel)
theorem w_ml_L_67 : (.methodLink RL 67 yM_thrown : Cond) ∈ BIG := mB (tb_3 (List.mem_of_getElem? (i := 79) rfl)) (by decide +kernel)
theorem w_im_M_thrown : (.instanceMethod yM_thrown : Cond) ∈ BIG := mB (tb_3 (List.mem_of_getElem? (i := 80) rfl)) (by decide +kernel)
theorem w_se_M_thrown : (.selects RM yM_thrown yM_thrown : Cond) ∈ BIG := mB (tb_3 (List.mem_of_getElem? (i := 81) rfl)) (by decide +kernel)
theorem w_ml_L_66 : (.methodLink RL 66 yM_message : Cond) ∈ BIG := mB (tb_3 (List.mem_of_getElem? (i := 83) rfl)) (by decide +kernel)
theorem w_im_M_message : (.instanceMethod yM_message : Cond) ∈ BIG := mB (tb_3 (List.mem_of_getElem? (i := 84) rfl)) (by decide +kernel)
theorem w_se_M_message : (.selects RM yM_message yM_message : Cond) ∈ BIG := mB (tb_3 (List.mem_of_getElem? (i := 85) rfl)) (by decide +kernel)
theorem w_ml_M_50 : (.methodLink RM 50 yM_goes : Cond) ∈ BIG := mB (tb_3 (List.mem_of_getElem? (i := 87) rfl)) (by decide +kernel)
theorem w_im_M_goes : (.instanceMethod yM_goes : Cond) ∈ BIG := mB (tb_3 (List.mem_of_getElem? (i := 89) rfl)) (by decide +kernel)
theorem w_ml_M_54 : (.methodLink RM 54 yM_begin : Cond) ∈ BIG := mB (tb_3 (List.mem_of_getElem? (i := 91) rfl)) (by decide +kernel)
theorem w_im_M_begin : (.instanceMethod yM_begin : Cond) ∈ BIG := mB (tb_3 (List.mem_of_getElem? (i := 93) rfl)) (by decide +kernel)
theorem w_ml_L_76 : (.methodLink RL 76 yM_digits : Cond) ∈ BIG := mB (tb_3 (List.mem_of_getElem? (i := 95) rfl)) (by decide +kernel)
theorem w_im_M_digits : (.instanceMethod yM_digits : Cond) ∈ BIG := mB (tb_3 (List.mem_of_getElem? (i := 96) rfl)) (by decide +kernel)
theorem w_se_M_digits : (.selects RM yM_digits yM_digits : Cond) ∈ BIG := mB (tb_3 (List.mem_of_getElem? (i := 97) rfl)) (by decide +kernel)
theorem w_ml_M_66 : (.methodLink RM 66 yM_fieldOf : Cond) ∈ BIG := mB (tb_3 (List.mem_of_getElem? (i := 99) rfl)) (by decide +kernel)
theorem w_im_M_fieldOf : (.instanceMethod yM_fieldOf : Cond) ∈ BIG := mB (tb_3 (List.mem_of_getElem? (i := 101) rfl)) (by decide +kernel)
theorem w_ml_M_58 : (.methodLink RM 58 yM_width : Cond) ∈ BIG := mB (tb_3 (List.mem_of_getElem? (i := 103) rfl)) (by decide +kernel)
theorem w_st_M_width : (.static yM_width : Cond) ∈ BIG := mB (tb_3 (List.mem_of_getElem? (i := 104) rfl)) (by decide +kernel)
theorem w_k_M_48 : (.constantLong RM 48 (10) : Cond) ∈ BIG := mB (tb_3 (List.mem_of_getElem? (i := 106) rfl)) (by decide +kernel)
theorem w_ml_M_70 : (.methodLink RM 70 yM_fill : Cond) ∈ BIG := mB (tb_3 (List.mem_of_getElem? (i := 107) rfl)) (by decide +kernel)
theorem w_im_M_fill : (.instanceMethod yM_fill : Cond) ∈ BIG := mB (tb_3 (List.mem_of_getElem? (i := 109) rfl)) (by decide +kernel)
theorem w_ml_M_62 : (.methodLink RM 62 yM_setDigits : Cond) ∈ BIG := mB (tb_3 (List.mem_of_getElem? (i := 111) rfl)) (by decide +kernel)
theorem w_st_M_setDigits : (.static yM_setDigits : Cond) ∈ BIG := mB (tb_3 (List.mem_of_getElem? (i := 112) rfl)) (by decide +kernel)
theorem w_ml_L_80 : (.methodLink RL 80 yM_letters : Cond) ∈ BIG := mB (tb_3 (List.mem_of_getElem? (i := 114) rfl)) (by decide +kernel)
theorem w_im_M_letters : (.instanceMethod yM_letters : Cond) ∈ BIG := mB (tb_3 (List.mem_of_getElem? (i := 115) rfl)) (by decide +kernel)
theorem w_se_M_letters : (.selects RM yM_letters yM_letters : Cond) ∈ BIG := mB (tb_3 (List.mem_of_getElem? (i := 116) rfl)) (by decide +kernel)
theorem w_k_M_74 : (.constantLong RM 74 (31) : Cond) ∈ BIG := mB (tb_3 (List.mem_of_getElem? (i := 118) rfl)) (by decide +kernel)
theorem w_ml_L_84 : (.methodLink RL 84 yM_original : Cond) ∈ BIG := mB (tb_3 (List.mem_of_getElem? (i := 119) rfl)) (by decide +kernel)
theorem w_im_M_original : (.instanceMethod yM_original : Cond) ∈ BIG := mB (tb_3 (List.mem_of_getElem? (i := 120) rfl)) (by decide +kernel)
theorem w_se_M_original : (.selects RM yM_original yM_original : Cond) ∈ BIG := mB (tb_3 (List.mem_of_getElem? (i := 121) rfl)) (by decide +kernel)
theorem w_k_M_76 : (.constant RM 76 (999999) : Cond) ∈ BIG := mB (tb_3 (List.mem_of_getElem? (i := 123) rfl)) (by decide +kernel)
theorem w_k_M_77 : (.constant RM 77 (99999) : Cond) ∈ BIG := mB (tb_3 (List.mem_of_getElem? (i := 124) rfl)) (by decide +kernel)
theorem w_ml_M_78 : (.methodLink RM 78 yM_setOriginal : Cond) ∈ BIG := mB (tb_3 (List.mem_of_getElem? (i := 125) rfl)) (by decide +kernel)
theorem w_im_M_setOriginal : (.instanceMethod yM_setOriginal : Cond) ∈ BIG := mB (tb_3 (List.mem_of_getElem? (i := 127) rfl)) (by decide +kernel)
theorem w_ml_L_88 : (.methodLink RL 88 yM_omit : Cond) ∈ BIG := mB (tb_3 (List.mem_of_getElem? (i := 129) rfl)) (by decide +kernel)
theorem w_im_M_omit : (.instanceMethod yM_omit : Cond) ∈ BIG := mB (tb_3 (List.mem_of_getElem? (i := 130) rfl)) (by decide +kernel)
theorem w_se_M_omit : (.selects RM yM_omit yM_omit : Cond) ∈ BIG := mB (tb_3 (List.mem_of_getElem? (i := 131) rfl)) (by decide +kernel)
theorem w_ml_L_92 : (.methodLink RL 92 yM_type : Cond) ∈ BIG := mB (tb_3 (List.mem_of_getElem? (i := 133) rfl)) (by decide +kernel)
theorem w_im_M_type : (.instanceMethod yM_type : Cond) ∈ BIG := mB (tb_3 (List.mem_of_getElem? (i := 134) rfl)) (by decide +kernel)
theorem w_se_M_type : (.selects RM yM_type yM_type : Cond) ∈ BIG := mB (tb_3 (List.mem_of_getElem? (i := 135) rfl)) (by decide +kernel)
theorem w_ml_L_95 : (.methodLink RL 95 yM_size : Cond) ∈ BIG := mB (tb_3 (List.mem_of_getElem? (i := 137) rfl)) (by decide +kernel)
theorem w_im_M_size : (.instanceMethod yM_size : Cond) ∈ BIG := mB (tb_3 (List.mem_of_getElem? (i := 138) rfl)) (by decide +kernel)
theorem w_se_M_size : (.selects RM yM_size yM_size : Cond) ∈ BIG := mB (tb_3 (List.mem_of_getElem? (i := 139) rfl)) (by decide +kernel)
theorem w_ml_L_99 : (.methodLink RL 99 yM_at : Cond) ∈ BIG := mB (tb_3 (List.mem_of_getElem? (i := 141) rfl)) (by decide +kernel)
theorem w_im_M_at : (.instanceMethod yM_at : Cond) ∈ BIG := mB (tb_3 (List.mem_of_getElem? (i := 142) rfl)) (by decide +kernel)
theorem w_se_M_at : (.selects RM yM_at yM_at : Cond) ∈ BIG := mB (tb_3 (List.mem_of_getElem? (i := 143) rfl)) (by decide +kernel)
theorem w_ml_L_102 : (.methodLink RL 102 yM_number : Cond) ∈ BIG := mB (tb_3 (List.mem_of_getElem? (i := 145) rfl)) (by decide +kernel)
theorem w_im_M_number : (.instanceMethod yM_number : Cond) ∈ BIG := mB (tb_3 (List.mem_of_getElem? (i := 146) rfl)) (by decide +kernel)
theorem w_se_M_number : (.selects RM yM_number yM_number : Cond) ∈ BIG := mB (tb_3 (List.mem_of_getElem? (i := 147) rfl)) (by decide +kernel)
theorem w_k_M_82 : (.constantLong RM 82 (-1) : Cond) ∈ BIG := mB (tb_3 (List.mem_of_getElem? (i := 149) rfl)) (by decide +kernel)
theorem w_ml_L_106 : (.methodLink RL 106 yM_fields : Cond) ∈ BIG := mB (tb_3 (List.mem_of_getElem? (i := 150) rfl)) (by decide +kernel)
theorem w_im_M_fields : (.instanceMethod yM_fields : Cond) ∈ BIG := mB (tb_3 (List.mem_of_getElem? (i := 151) rfl)) (by decide +kernel)
theorem w_se_M_fields : (.selects RM yM_fields yM_fields : Cond) ∈ BIG := mB (tb_3 (List.mem_of_getElem? (i := 152) rfl)) (by decide +kernel)
theorem w_ml_L_110 : (.methodLink RL 110 yM_compose : Cond) ∈ BIG := mB (tb_3 (List.mem_of_getElem? (i := 154) rfl)) (by decide +kernel)
theorem w_im_M_compose : (.instanceMethod yM_compose : Cond) ∈ BIG := mB (tb_3 (List.mem_of_getElem? (i := 155) rfl)) (by decide +kernel)
theorem w_se_M_compose : (.selects RM yM_compose yM_compose : Cond) ∈ BIG := mB (tb_3 (List.mem_of_getElem? (i := 156) rfl)) (by decide +kernel)
theorem w_ml_M_95 : (.methodLink RM 95 yM_write : Cond) ∈ BIG := mB (tb_3 (List.mem_of_getElem? (i := 158) rfl)) (by decide +kernel)
theorem w_im_M_write : (.instanceMethod yM_write : Cond) ∈ BIG := mB (tb_3 (List.mem_of_getElem? (i := 160) rfl)) (by decide +kernel)
theorem w_ml_M_87 : (.methodLink RM 87 yM_pack : Cond) ∈ BIG := mB (tb_3 (List.mem_of_getElem? (i := 162) rfl)) (by decide +kernel)
theorem w_im_M_pack : (.instanceMethod yM_pack : Cond) ∈ BIG := mB (tb_3 (List.mem_of_getElem? (i := 164) rfl)) (by decide +kernel)
theorem w_ml_M_91 : (.methodLink RM 91 yM_writeField : Cond) ∈ BIG := mB (tb_3 (List.mem_of_getElem? (i := 166) rfl)) (by decide +kernel)
theorem w_im_M_writeField : (.instanceMethod yM_writeField : Cond) ∈ BIG := mB (tb_3 (List.mem_of_getElem? (i := 168) rfl)) (by decide +kernel)
theorem w_ml_L_113 : (.methodLink RL 113 yM_feed : Cond) ∈ BIG := mB (tb_3 (List.mem_of_getElem? (i := 170) rfl)) (by decide +kernel)
theorem w_im_M_feed : (.instanceMethod yM_feed : Cond) ∈ BIG := mB (tb_3 (List.mem_of_getElem? (i := 171) rfl)) (by decide +kernel)
theorem w_se_M_feed : (.selects RM yM_feed yM_feed : Cond) ∈ BIG := mB (tb_3 (List.mem_of_getElem? (i := 172) rfl)) (by decide +kernel)
theorem w_ml_L_116 : (.methodLink RL 116 yM_trim : Cond) ∈ BIG := mB (tb_3 (List.mem_of_getElem? (i := 174) rfl)) (by decide +kernel)
theorem w_im_M_trim : (.instanceMethod yM_trim : Cond) ∈ BIG := mB (tb_3 (List.mem_of_getElem? (i := 175) rfl)) (by decide +kernel)
theorem w_se_M_trim : (.selects RM yM_trim yM_trim : Cond) ∈ BIG := mB (tb_3 (List.mem_of_getElem? (i := 176) rfl)) (by decide +kernel)
theorem w_ml_L_119 : (.methodLink RL 119 yM_spoil : Cond) ∈ BIG := mB (tb_3 (List.mem_of_getElem? (i := 178) rfl)) (by decide +kernel)
theorem w_im_M_spoil : (.instanceMethod yM_spoil : Cond) ∈ BIG := mB (tb_3 (List.mem_of_getElem? (i := 179) rfl)) (by decide +kernel)
theorem w_se_M_spoil : (.selects RM yM_spoil yM_spoil : Cond) ∈ BIG := mB (tb_3 (List.mem_of_getElem? (i := 180) rfl)) (by decide +kernel)
theorem w_ml_L_122 : (.methodLink RL 122 yM_fault : Cond) ∈ BIG := mB (tb_3 (List.mem_of_getElem? (i := 182) rfl)) (by decide +kernel)
theorem w_im_M_fault : (.instanceMethod yM_fault : Cond) ∈ BIG := mB (tb_3 (List.mem_of_getElem? (i := 183) rfl)) (by decide +kernel)
theorem w_se_M_fault : (.selects RM yM_fault yM_fault : Cond) ∈ BIG := mB (tb_3 (List.mem_of_getElem? (i := 184) rfl)) (by decide +kernel)
theorem w_ml_M_135 : (.methodLink RM 135 yM_readTape : Cond) ∈ BIG := mB (tb_3 (List.mem_of_getElem? (i := 186) rfl)) (by decide +kernel)
theorem w_im_M_readTape : (.instanceMethod yM_readTape : Cond) ∈ BIG := mB (tb_3 (List.mem_of_getElem? (i := 188) rfl)) (by decide +kernel)
theorem w_ml_M_115 : (.methodLink RM 115 yM_takeDigits : Cond) ∈ BIG := mB (tb_3 (List.mem_of_getElem? (i := 190) rfl)) (by decide +kernel)
theorem w_im_M_takeDigits : (.instanceMethod yM_takeDigits : Cond) ∈ BIG := mB (tb_3 (List.mem_of_getElem? (i := 192) rfl)) (by decide +kernel)
theorem w_ml_M_111 : (.methodLink RM 111 yM_fails : Cond) ∈ BIG := mB (tb_3 (List.mem_of_getElem? (i := 194) rfl)) (by decide +kernel)
theorem w_im_M_fails : (.instanceMethod yM_fails : Cond) ∈ BIG := mB (tb_3 (List.mem_of_getElem? (i := 196) rfl)) (by decide +kernel)
theorem w_ml_M_125 : (.methodLink RM 125 yM_isType : Cond) ∈ BIG := mB (tb_3 (List.mem_of_getElem? (i := 198) rfl)) (by decide +kernel)
theorem w_st_M_isType : (.static yM_isType : Cond) ∈ BIG := mB (tb_3 (List.mem_of_getElem? (i := 199) rfl)) (by decide +kernel)
theorem w_ml_M_129 : (.methodLink RM 129 yM_takeMaps : Cond) ∈ BIG := mB (tb_3 (List.mem_of_getElem? (i := 201) rfl)) (by decide +kernel)
theorem w_im_M_takeMaps : (.instanceMethod yM_takeMaps : Cond) ∈ BIG := mB (tb_3 (List.mem_of_getElem? (i := 203) rfl)) (by decide +kernel)
theorem w_ml_M_132 : (.methodLink RM 132 yM_takeField : Cond) ∈ BIG := mB (tb_3 (List.mem_of_getElem? (i := 205) rfl)) (by decide +kernel)
theorem w_im_M_takeField : (.instanceMethod yM_takeField : Cond) ∈ BIG := mB (tb_3 (List.mem_of_getElem? (i := 207) rfl)) (by decide +kernel)
theorem w_ml_M_119 : (.methodLink RM 119 yM_takeLetters : Cond) ∈ BIG := mB (tb_3 (List.mem_of_getElem? (i := 209) rfl)) (by decide +kernel)
theorem w_im_M_takeLetters : (.instanceMethod yM_takeLetters : Cond) ∈ BIG := mB (tb_3 (List.mem_of_getElem? (i := 211) rfl)) (by decide +kernel)
theorem w_ml_L_127 : (.methodLink RL 127 yM_read : Cond) ∈ BIG := mB (tb_3 (List.mem_of_getElem? (i := 213) rfl)) (by decide +kernel)
theorem w_im_M_read : (.instanceMethod yM_read : Cond) ∈ BIG := mB (tb_3 (List.mem_of_getElem? (i := 214) rfl)) (by decide +kernel)
theorem w_se_M_read : (.selects RM yM_read yM_read : Cond) ∈ BIG := mB (tb_3 (List.mem_of_getElem? (i := 215) rfl)) (by decide +kernel)
theorem w_k_L_71 : (.constantLong RL 71 (4294967295) : Cond) ∈ BIG := mB (tb_3 (List.mem_of_getElem? (i := 217) rfl)) (by decide +kernel)
theorem w_ac_long : (.arrayClass .long : Cond) ∈ BIG := mB (tb_3 (List.mem_of_getElem? (i := 218) rfl)) (by decide +kernel)
theorem w_co_C_at : (.code yC_at cC_at 4 (some .int) : Cond) ∈ BIG := mB (tb_2 (List.mem_of_getElem? (i := 188) rfl)) (by decide +kernel)
theorem w_co_C_bytesOfDigits : (.code yC_bytesOfDigits cC_bytesOfDigits 1 (some .int) : Cond) ∈ BIG := mB (tb_1 (List.mem_of_getElem? (i := 129) rfl)) (by decide +kernel)
theorem w_co_C_compose : (.code yC_compose cC_compose 1 (some .int) : Cond) ∈ BIG := mB (tb_1 (List.mem_of_getElem? (i := 118) rfl)) (by decide +kernel)
theorem w_co_C_digitCount : (.code yC_digitCount cC_digitCount 5 (some .int) : Cond) ∈ BIG := mB (tb_2 (List.mem_of_getElem? (i := 124) rfl)) (by decide +kernel)
theorem w_co_C_digitSlot : (.code yC_digitSlot cC_digitSlot 2 (some .int) : Cond) ∈ BIG := mB (tb_2 (List.mem_of_getElem? (i := 114) rfl)) (by decide +kernel)
theorem w_co_C_digits : (.code yC_digits cC_digits 6 none : Cond) ∈ BIG := mB (tb_2 (List.mem_of_getElem? (i := 111) rfl)) (by decide +kernel)
theorem w_co_C_fault : (.code yC_fault cC_fault 2 (some .int) : Cond) ∈ BIG := mB (tb_3 (List.mem_of_getElem? (i := 16) rfl)) (by decide +kernel)
theorem w_co_C_feed : (.code yC_feed cC_feed 3 (some .int) : Cond) ∈ BIG := mB (tb_2 (List.mem_of_getElem? (i := 214) rfl)) (by decide +kernel)
theorem w_co_C_fields : (.code yC_fields cC_fields 1 (some .int) : Cond) ∈ BIG := mB (tb_1 (List.mem_of_getElem? (i := 106) rfl)) (by decide +kernel)
theorem w_co_C_init : (.code yC_init cC_init 1 none : Cond) ∈ BIG := mB (tb_1 (List.mem_of_getElem? (i := 17) rfl)) (by decide +kernel)
theorem w_co_C_knownSlot : (.code yC_knownSlot cC_knownSlot 2 (some .int) : Cond) ∈ BIG := mB (tb_2 (List.mem_of_getElem? (i := 117) rfl)) (by decide +kernel)
theorem w_co_C_letters : (.code yC_letters cC_letters 7 none : Cond) ∈ BIG := mB (tb_2 (List.mem_of_getElem? (i := 145) rfl)) (by decide +kernel)
theorem w_co_C_mapBit : (.code yC_mapBit cC_mapBit 1 (some .int) : Cond) ∈ BIG := mB (tb_1 (List.mem_of_getElem? (i := 157) rfl)) (by decide +kernel)
theorem w_co_C_mapByte : (.code yC_mapByte cC_mapByte 1 (some .int) : Cond) ∈ BIG := mB (tb_1 (List.mem_of_getElem? (i := 154) rfl)) (by decide +kernel)
theorem w_co_C_message : (.code yC_message cC_message 2 none : Cond) ∈ BIG := mB (tb_2 (List.mem_of_getElem? (i := 37) rfl)) (by decide +kernel)
theorem w_co_C_number : (.code yC_number cC_number 3 (some .long) : Cond) ∈ BIG := mB (tb_2 (List.mem_of_getElem? (i := 197) rfl)) (by decide +kernel)
theorem w_co_C_omit : (.code yC_omit cC_omit 4 (some .boolean) : Cond) ∈ BIG := mB (tb_2 (List.mem_of_getElem? (i := 173) rfl)) (by decide +kernel)
theorem w_co_C_original : (.code yC_original cC_original 4 none : Cond) ∈ BIG := mB (tb_2 (List.mem_of_getElem? (i := 158) rfl)) (by decide +kernel)
theorem w_co_C_read : (.code yC_read cC_read 1 (some .boolean) : Cond) ∈ BIG := mB (tb_1 (List.mem_of_getElem? (i := 183) rfl)) (by decide +kernel)
theorem w_co_C_size : (.code yC_size cC_size 3 (some .int) : Cond) ∈ BIG := mB (tb_2 (List.mem_of_getElem? (i := 181) rfl)) (by decide +kernel)
theorem w_co_C_spoil : (.code yC_spoil cC_spoil 3 (some .int) : Cond) ∈ BIG := mB (tb_3 (List.mem_of_getElem? (i := 6) rfl)) (by decide +kernel)
theorem w_co_C_trim : (.code yC_trim cC_trim 2 (some .int) : Cond) ∈ BIG := mB (tb_2 (List.mem_of_getElem? (i := 238) rfl)) (by decide +kernel)
theorem w_co_C_type : (.code yC_type cC_type 1 (some .int) : Cond) ∈ BIG := mB (tb_1 (List.mem_of_getElem? (i := 102) rfl)) (by decide +kernel)
theorem w_co_D_become : (.code yD_become cD_become 2 none : Cond) ∈ BIG := mB (tb_2 (List.mem_of_getElem? (i := 26) rfl)) (by decide +kernel)
theorem w_co_D_fieldCount : (.code yD_fieldCount cD_fieldCount 3 (some .int) : Cond) ∈ BIG := mB (tb_1 (List.mem_of_getElem? (i := 110) rfl)) (by decide +kernel)
theorem w_co_D_has : (.code yD_has cD_has 2 (some .boolean) : Cond) ∈ BIG := mB (tb_1 (List.mem_of_getElem? (i := 114) rfl)) (by decide +kernel)
theorem w_co_D_init : (.code yD_init cD_init 1 none : Cond) ∈ BIG := mB (tb_1 (List.mem_of_getElem? (i := 25) rfl)) (by decide +kernel)
theorem w_co_D_lastDigits : (.code yD_lastDigits cD_lastDigits 6 (some .long) : Cond) ∈ BIG := mB (tb_2 (List.mem_of_getElem? (i := 201) rfl)) (by decide +kernel)
theorem w_co_D_mark : (.code yD_mark cD_mark 3 (some .int) : Cond) ∈ BIG := mB (tb_1 (List.mem_of_getElem? (i := 173) rfl)) (by decide +kernel)
theorem w_co_D_putLetters : (.code yD_putLetters cD_putLetters 7 none : Cond) ∈ BIG := mB (tb_2 (List.mem_of_getElem? (i := 151) rfl)) (by decide +kernel)
theorem w_co_D_putNumber : (.code yD_putNumber cD_putNumber 5 none : Cond) ∈ BIG := mB (tb_2 (List.mem_of_getElem? (i := 132) rfl)) (by decide +kernel)
theorem w_co_D_putOriginal : (.code yD_putOriginal cD_putOriginal 4 none : Cond) ∈ BIG := mB (tb_2 (List.mem_of_getElem? (i := 165) rfl)) (by decide +kernel)
theorem w_co_D_restart : (.code yD_restart cD_restart 3 none : Cond) ∈ BIG := mB (tb_1 (List.mem_of_getElem? (i := 226) rfl)) (by decide +kernel)
theorem w_co_D_setDigits : (.code yD_setDigits cD_setDigits 9 none : Cond) ∈ BIG := mB (tb_2 (List.mem_of_getElem? (i := 136) rfl)) (by decide +kernel)
theorem w_co_D_setMark : (.code yD_setMark cD_setMark 4 none : Cond) ∈ BIG := mB (tb_2 (List.mem_of_getElem? (i := 18) rfl)) (by decide +kernel)
theorem w_co_L_at : (.codeWith yL_at cL_at 5 (some .int) [(0, 10, 13, 13)] : Cond) ∈ BIG := mB (tb_2 (List.mem_of_getElem? (i := 184) rfl)) (by decide +kernel)
theorem w_co_L_digits : (.codeWith yL_digits cL_digits 5 (some .int) [(0, 6, 9, 13)] : Cond) ∈ BIG := mB (tb_2 (List.mem_of_getElem? (i := 107) rfl)) (by decide +kernel)
theorem w_co_L_fault : (.codeWith yL_fault cL_fault 4 (some .int) [(0, 9, 12, 13)] : Cond) ∈ BIG := mB (tb_3 (List.mem_of_getElem? (i := 12) rfl)) (by decide +kernel)
theorem w_co_L_feed : (.codeWith yL_feed cL_feed 4 (some .int) [(0, 9, 12, 46)] : Cond) ∈ BIG := mB (tb_2 (List.mem_of_getElem? (i := 209) rfl)) (by decide +kernel)
theorem w_co_L_letters : (.codeWith yL_letters cL_letters 6 (some .int) [(0, 8, 11, 13)] : Cond) ∈ BIG := mB (tb_2 (List.mem_of_getElem? (i := 141) rfl)) (by decide +kernel)
theorem w_co_L_message : (.codeWith yL_message cL_message 3 (some .int) [(0, 5, 8, 13)] : Cond) ∈ BIG := mB (tb_2 (List.mem_of_getElem? (i := 32) rfl)) (by decide +kernel)
theorem w_co_L_number : (.codeWith yL_number cL_number 4 (some .int) [(0, 8, 11, 13)] : Cond) ∈ BIG := mB (tb_2 (List.mem_of_getElem? (i := 193) rfl)) (by decide +kernel)
theorem w_co_L_omit : (.codeWith yL_omit cL_omit 4 (some .int) [(0, 16, 19, 13)] : Cond) ∈ BIG := mB (tb_2 (List.mem_of_getElem? (i := 169) rfl)) (by decide +kernel)
theorem w_co_L_original : (.codeWith yL_original cL_original 5 (some .int) [(0, 7, 10, 13)] : Cond) ∈ BIG := mB (tb_2 (List.mem_of_getElem? (i := 154) rfl)) (by decide +kernel)
theorem w_co_L_size : (.codeWith yL_size cL_size 4 (some .int) [(0, 9, 12, 13)] : Cond) ∈ BIG := mB (tb_2 (List.mem_of_getElem? (i := 177) rfl)) (by decide +kernel)
theorem w_co_L_spoil : (.codeWith yL_spoil cL_spoil 5 (some .int) [(0, 10, 13, 13)] : Cond) ∈ BIG := mB (tb_3 (List.mem_of_getElem? (i := 2) rfl)) (by decide +kernel)
theorem w_co_L_trim : (.codeWith yL_trim cL_trim 4 (some .int) [(0, 9, 12, 13)] : Cond) ∈ BIG := mB (tb_2 (List.mem_of_getElem? (i := 234) rfl)) (by decide +kernel)
theorem w_co_M_at : (.code yM_at cM_at 5 (some .int) : Cond) ∈ BIG := mB (tb_3 (List.mem_of_getElem? (i := 144) rfl)) (by decide +kernel)
theorem w_co_M_begin : (.code yM_begin cM_begin 2 none : Cond) ∈ BIG := mB (tb_3 (List.mem_of_getElem? (i := 94) rfl)) (by decide +kernel)
theorem w_co_M_clear : (.code yM_clear cM_clear 2 none : Cond) ∈ BIG := mB (tb_3 (List.mem_of_getElem? (i := 26) rfl)) (by decide +kernel)
theorem w_co_M_compose : (.code yM_compose cM_compose 1 (some .int) : Cond) ∈ BIG := mB (tb_3 (List.mem_of_getElem? (i := 157) rfl)) (by decide +kernel)
theorem w_co_M_digits : (.code yM_digits cM_digits 5 none : Cond) ∈ BIG := mB (tb_3 (List.mem_of_getElem? (i := 98) rfl)) (by decide +kernel)
theorem w_co_M_fails : (.code yM_fails cM_fails 3 none : Cond) ∈ BIG := mB (tb_3 (List.mem_of_getElem? (i := 197) rfl)) (by decide +kernel)
theorem w_co_M_fault : (.code yM_fault cM_fault 2 (some .int) : Cond) ∈ BIG := mB (tb_3 (List.mem_of_getElem? (i := 185) rfl)) (by decide +kernel)
theorem w_co_M_feed : (.code yM_feed cM_feed 3 (some .int) : Cond) ∈ BIG := mB (tb_3 (List.mem_of_getElem? (i := 173) rfl)) (by decide +kernel)
theorem w_co_M_fieldOf : (.code yM_fieldOf cM_fieldOf 4 (some .int) : Cond) ∈ BIG := mB (tb_3 (List.mem_of_getElem? (i := 102) rfl)) (by decide +kernel)
theorem w_co_M_fields : (.code yM_fields cM_fields 3 (some .int) : Cond) ∈ BIG := mB (tb_3 (List.mem_of_getElem? (i := 153) rfl)) (by decide +kernel)
theorem w_co_M_fill : (.code yM_fill cM_fill 4 none : Cond) ∈ BIG := mB (tb_3 (List.mem_of_getElem? (i := 110) rfl)) (by decide +kernel)
theorem w_co_M_goes : (.code yM_goes cM_goes 2 (some .boolean) : Cond) ∈ BIG := mB (tb_3 (List.mem_of_getElem? (i := 90) rfl)) (by decide +kernel)
theorem w_co_M_init : (.code yM_init cM_init 1 none : Cond) ∈ BIG := mB (tb_3 (List.mem_of_getElem? (i := 22) rfl)) (by decide +kernel)
theorem w_co_M_isType : (.code yM_isType cM_isType 2 (some .boolean) : Cond) ∈ BIG := mB (tb_3 (List.mem_of_getElem? (i := 200) rfl)) (by decide +kernel)
theorem w_co_M_letters : (.code yM_letters cM_letters 8 none : Cond) ∈ BIG := mB (tb_3 (List.mem_of_getElem? (i := 117) rfl)) (by decide +kernel)
theorem w_co_M_message : (.code yM_message cM_message 2 none : Cond) ∈ BIG := mB (tb_3 (List.mem_of_getElem? (i := 86) rfl)) (by decide +kernel)
theorem w_co_M_number : (.code yM_number cM_number 6 (some .long) : Cond) ∈ BIG := mB (tb_3 (List.mem_of_getElem? (i := 148) rfl)) (by decide +kernel)
theorem w_co_M_omit : (.code yM_omit cM_omit 4 (some .boolean) : Cond) ∈ BIG := mB (tb_3 (List.mem_of_getElem? (i := 132) rfl)) (by decide +kernel)
theorem w_co_M_original : (.code yM_original cM_original 4 none : Cond) ∈ BIG := mB (tb_3 (List.mem_of_getElem? (i := 122) rfl)) (by decide +kernel)
theorem w_co_M_pack : (.code yM_pack cM_pack 6 none : Cond) ∈ BIG := mB (tb_3 (List.mem_of_getElem? (i := 165) rfl)) (by decide +kernel)
theorem w_co_M_read : (.code yM_read cM_read 3 (some .boolean) : Cond) ∈ BIG := mB (tb_3 (List.mem_of_getElem? (i := 216) rfl)) (by decide +kernel)
theorem w_co_M_readTape : (.code yM_readTape cM_readTape 2 none : Cond) ∈ BIG := mB (tb_3 (List.mem_of_getElem? (i := 189) rfl)) (by decide +kernel)
theorem w_co_M_setDigits : (.code yM_setDigits cM_setDigits 8 none : Cond) ∈ BIG := mB (tb_3 (List.mem_of_getElem? (i := 113) rfl)) (by decide +kernel)
theorem w_co_M_setOriginal : (.code yM_setOriginal cM_setOriginal 6 none : Cond) ∈ BIG := mB (tb_3 (List.mem_of_getElem? (i := 128) rfl)) (by decide +kernel)
theorem w_co_M_size : (.code yM_size cM_size 3 (some .int) : Cond) ∈ BIG := mB (tb_3 (List.mem_of_getElem? (i := 140) rfl)) (by decide +kernel)
theorem w_co_M_spoil : (.code yM_spoil cM_spoil 3 (some .int) : Cond) ∈ BIG := mB (tb_3 (List.mem_of_getElem? (i := 181) rfl)) (by decide +kernel)
theorem w_co_M_takeDigits : (.code yM_takeDigits cM_takeDigits 10 none : Cond) ∈ BIG := mB (tb_3 (List.mem_of_getElem? (i := 193) rfl)) (by decide +kernel)
theorem w_co_M_takeField : (.code yM_takeField cM_takeField 5 none : Cond) ∈ BIG := mB (tb_3 (List.mem_of_getElem? (i := 208) rfl)) (by decide +kernel)
theorem w_co_M_takeLetters : (.code yM_takeLetters cM_takeLetters 7 none : Cond) ∈ BIG := mB (tb_3 (List.mem_of_getElem? (i := 212) rfl)) (by decide +kernel)
theorem w_co_M_takeMaps : (.code yM_takeMaps cM_takeMaps 5 none : Cond) ∈ BIG := mB (tb_3 (List.mem_of_getElem? (i := 204) rfl)) (by decide +kernel)
theorem w_co_M_thrown : (.code yM_thrown cM_thrown 1 (some .int) : Cond) ∈ BIG := mB (tb_3 (List.mem_of_getElem? (i := 82) rfl)) (by decide +kernel)
theorem w_co_M_trim : (.code yM_trim cM_trim 2 (some .int) : Cond) ∈ BIG := mB (tb_3 (List.mem_of_getElem? (i := 177) rfl)) (by decide +kernel)
theorem w_co_M_type : (.code yM_type cM_type 1 (some .int) : Cond) ∈ BIG := mB (tb_3 (List.mem_of_getElem? (i := 136) rfl)) (by decide +kernel)
theorem w_co_M_width : (.code yM_width cM_width 5 (some .int) : Cond) ∈ BIG := mB (tb_3 (List.mem_of_getElem? (i := 105) rfl)) (by decide +kernel)
theorem w_co_M_write : (.code yM_write cM_write 8 none : Cond) ∈ BIG := mB (tb_3 (List.mem_of_getElem? (i := 161) rfl)) (by decide +kernel)
theorem w_co_M_writeField : (.code yM_writeField cM_writeField 7 none : Cond) ∈ BIG := mB (tb_3 (List.mem_of_getElem? (i := 169) rfl)) (by decide +kernel)
theorem w_co_R_areDigits : (.code yR_areDigits cR_areDigits 4 (some .boolean) : Cond) ∈ BIG := mB (tb_1 (List.mem_of_getElem? (i := 199) rfl)) (by decide +kernel)
theorem w_co_R_digitAhead : (.code yR_digitAhead cR_digitAhead 3 (some .int) : Cond) ∈ BIG := mB (tb_1 (List.mem_of_getElem? (i := 220) rfl)) (by decide +kernel)
theorem w_co_R_fail : (.code yR_fail cR_fail 3 (some .boolean) : Cond) ∈ BIG := mB (tb_1 (List.mem_of_getElem? (i := 208) rfl)) (by decide +kernel)
theorem w_co_R_halfAhead : (.code yR_halfAhead cR_halfAhead 3 (some .int) : Cond) ∈ BIG := mB (tb_1 (List.mem_of_getElem? (i := 212) rfl)) (by decide +kernel)
theorem w_co_R_hasBit : (.code yR_hasBit cR_hasBit 3 (some .boolean) : Cond) ∈ BIG := mB (tb_1 (List.mem_of_getElem? (i := 236) rfl)) (by decide +kernel)
theorem w_co_R_init : (.code yR_init cR_init 2 none : Cond) ∈ BIG := mB (tb_1 (List.mem_of_getElem? (i := 63) rfl)) (by decide +kernel)
theorem w_co_R_isLetter : (.code yR_isLetter cR_isLetter 1 (some .boolean) : Cond) ∈ BIG := mB (tb_2 (List.mem_of_getElem? (i := 14) rfl)) (by decide +kernel)
theorem w_co_R_reaches : (.code yR_reaches cR_reaches 2 (some .boolean) : Cond) ∈ BIG := mB (tb_1 (List.mem_of_getElem? (i := 204) rfl)) (by decide +kernel)
theorem w_co_R_walk : (.code yR_walk cR_walk 5 (some .boolean) : Cond) ∈ BIG := mB (tb_1 (List.mem_of_getElem? (i := 187) rfl)) (by decide +kernel)
theorem w_co_R_walkDigits : (.code yR_walkDigits cR_walkDigits 4 (some .boolean) : Cond) ∈ BIG := mB (tb_2 (List.mem_of_getElem? (i := 22) rfl)) (by decide +kernel)
theorem w_co_R_walkField : (.code yR_walkField cR_walkField 4 (some .boolean) : Cond) ∈ BIG := mB (tb_2 (List.mem_of_getElem? (i := 3) rfl)) (by decide +kernel)
theorem w_co_R_walkLetters : (.code yR_walkLetters cR_walkLetters 5 (some .boolean) : Cond) ∈ BIG := mB (tb_2 (List.mem_of_getElem? (i := 11) rfl)) (by decide +kernel)
theorem w_co_R_walkMaps : (.code yR_walkMaps cR_walkMaps 4 (some .boolean) : Cond) ∈ BIG := mB (tb_1 (List.mem_of_getElem? (i := 230) rfl)) (by decide +kernel)
theorem w_co_R_walkNumber : (.code yR_walkNumber cR_walkNumber 3 (some .boolean) : Cond) ∈ BIG := mB (tb_1 (List.mem_of_getElem? (i := 195) rfl)) (by decide +kernel)
theorem w_co_R_walkType : (.code yR_walkType cR_walkType 2 (some .boolean) : Cond) ∈ BIG := mB (tb_1 (List.mem_of_getElem? (i := 191) rfl)) (by decide +kernel)
theorem w_co_T_append : (.code yT_append cT_append 2 none : Cond) ∈ BIG := mB (tb_1 (List.mem_of_getElem? (i := 137) rfl)) (by decide +kernel)
theorem w_co_T_appendDigits : (.code yT_appendDigits cT_appendDigits 6 none : Cond) ∈ BIG := mB (tb_1 (List.mem_of_getElem? (i := 179) rfl)) (by decide +kernel)
theorem w_co_T_appendField : (.code yT_appendField cT_appendField 4 none : Cond) ∈ BIG := mB (tb_1 (List.mem_of_getElem? (i := 161) rfl)) (by decide +kernel)
theorem w_co_T_appendLetters : (.code yT_appendLetters cT_appendLetters 5 none : Cond) ∈ BIG := mB (tb_1 (List.mem_of_getElem? (i := 169) rfl)) (by decide +kernel)
theorem w_co_T_appendMaps : (.code yT_appendMaps cT_appendMaps 5 none : Cond) ∈ BIG := mB (tb_1 (List.mem_of_getElem? (i := 141) rfl)) (by decide +kernel)
theorem w_co_T_appendNumber : (.code yT_appendNumber cT_appendNumber 3 none : Cond) ∈ BIG := mB (tb_1 (List.mem_of_getElem? (i := 126) rfl)) (by decide +kernel)
theorem w_co_T_appendPair : (.code yT_appendPair cT_appendPair 3 none : Cond) ∈ BIG := mB (tb_1 (List.mem_of_getElem? (i := 133) rfl)) (by decide +kernel)
theorem w_co_T_byteAt : (.code yT_byteAt cT_byteAt 2 (some .int) : Cond) ∈ BIG := mB (tb_1 (List.mem_of_getElem? (i := 216) rfl)) (by decide +kernel)
theorem w_co_T_flip : (.code yT_flip cT_flip 3 none : Cond) ∈ BIG := mB (tb_1 (List.mem_of_getElem? (i := 151) rfl)) (by decide +kernel)
theorem w_co_T_hasFieldOfSecondMap : (.code yT_hasFieldOfSecondMap cT_hasFieldOfSecondMap 2 (some .boolean) : Cond) ∈ BIG := mB (tb_1 (List.mem_of_getElem? (i := 144) rfl)) (by decide +kernel)
theorem w_co_T_init : (.code yT_init cT_init 1 none : Cond) ∈ BIG := mB (tb_1 (List.mem_of_getElem? (i := 48) rfl)) (by decide +kernel)
theorem w_co_T_write : (.code yT_write cT_write 3 none : Cond) ∈ BIG := mB (tb_1 (List.mem_of_getElem? (i := 122) rfl)) (by decide +kernel)
theorem w_co_object : (.code objectInit ⟨#[0xb1]⟩ 1 none : Cond) ∈ BIG := mB (tb_1 (List.mem_of_getElem? (i := 20) rfl)) (by decide +kernel)
theorem w_co_max : (.code Lib.Math.max.name Lib.Math.max.code 2 (some .int) : Cond) ∈ BIG := mB (tb_2 (List.mem_of_getElem? (i := 204) rfl)) (by decide +kernel)
theorem w_se_T_appendNumber : (.selects RT yT_appendNumber yT_appendNumber : Cond) ∈ BIG := mB (tb_0 (List.mem_of_getElem? (i := 0) rfl)) (by decide +kernel)
theorem w_se_T_appendPair : (.selects RT yT_appendPair yT_appendPair : Cond) ∈ BIG := mB (tb_0 (List.mem_of_getElem? (i := 1) rfl)) (by decide +kernel)
theorem w_se_T_appendMaps : (.selects RT yT_appendMaps yT_appendMaps : Cond) ∈ BIG := mB (tb_0 (List.mem_of_getElem? (i := 2) rfl)) (by decide +kernel)
theorem w_se_T_appendField : (.selects RT yT_appendField yT_appendField : Cond) ∈ BIG := mB (tb_0 (List.mem_of_getElem? (i := 3) rfl)) (by decide +kernel)
theorem w_se_T_appendLetters : (.selects RT yT_appendLetters yT_appendLetters : Cond) ∈ BIG := mB (tb_0 (List.mem_of_getElem? (i := 4) rfl)) (by decide +kernel)
theorem w_se_T_appendDigits : (.selects RT yT_appendDigits yT_appendDigits : Cond) ∈ BIG := mB (tb_0 (List.mem_of_getElem? (i := 5) rfl)) (by decide +kernel)
theorem w_se_R_walkType : (.selects RR yR_walkType yR_walkType : Cond) ∈ BIG := mB (tb_0 (List.mem_of_getElem? (i := 6) rfl)) (by decide +kernel)
theorem w_se_R_walkNumber : (.selects RR yR_walkNumber yR_walkNumber : Cond) ∈ BIG := mB (tb_0 (List.mem_of_getElem? (i := 7) rfl)) (by decide +kernel)
theorem w_se_R_areDigits : (.selects RR yR_areDigits yR_areDigits : Cond) ∈ BIG := mB (tb_0 (List.mem_of_getElem? (i := 8) rfl)) (by decide +kernel)
theorem w_se_R_reaches : (.selects RR yR_reaches yR_reaches : Cond) ∈ BIG := mB (tb_0 (List.mem_of_getElem? (i := 9) rfl)) (by decide +kernel)
theorem w_se_R_fail : (.selects RR yR_fail yR_fail : Cond) ∈ BIG := mB (tb_0 (List.mem_of_getElem? (i := 10) rfl)) (by decide +kernel)
theorem w_se_R_halfAhead : (.selects RR yR_halfAhead yR_halfAhead : Cond) ∈ BIG := mB (tb_0 (List.mem_of_getElem? (i := 11) rfl)) (by decide +kernel)
theorem w_se_R_digitAhead : (.selects RR yR_digitAhead yR_digitAhead : Cond) ∈ BIG := mB (tb_0 (List.mem_of_getElem? (i := 12) rfl)) (by decide +kernel)
theorem w_se_R_walkMaps : (.selects RR yR_walkMaps yR_walkMaps : Cond) ∈ BIG := mB (tb_0 (List.mem_of_getElem? (i := 13) rfl)) (by decide +kernel)
theorem w_se_R_hasBit : (.selects RR yR_hasBit yR_hasBit : Cond) ∈ BIG := mB (tb_0 (List.mem_of_getElem? (i := 14) rfl)) (by decide +kernel)
theorem w_se_R_walkField : (.selects RR yR_walkField yR_walkField : Cond) ∈ BIG := mB (tb_0 (List.mem_of_getElem? (i := 15) rfl)) (by decide +kernel)
theorem w_se_R_walkLetters : (.selects RR yR_walkLetters yR_walkLetters : Cond) ∈ BIG := mB (tb_0 (List.mem_of_getElem? (i := 16) rfl)) (by decide +kernel)
theorem w_se_R_walkDigits : (.selects RR yR_walkDigits yR_walkDigits : Cond) ∈ BIG := mB (tb_0 (List.mem_of_getElem? (i := 17) rfl)) (by decide +kernel)
theorem w_se_D_setDigits : (.selects RD yD_setDigits yD_setDigits : Cond) ∈ BIG := mB (tb_0 (List.mem_of_getElem? (i := 19) rfl)) (by decide +kernel)
theorem w_se_M_goes : (.selects RM yM_goes yM_goes : Cond) ∈ BIG := mB (tb_0 (List.mem_of_getElem? (i := 20) rfl)) (by decide +kernel)
theorem w_se_M_begin : (.selects RM yM_begin yM_begin : Cond) ∈ BIG := mB (tb_0 (List.mem_of_getElem? (i := 21) rfl)) (by decide +kernel)
theorem w_se_M_fieldOf : (.selects RM yM_fieldOf yM_fieldOf : Cond) ∈ BIG := mB (tb_0 (List.mem_of_getElem? (i := 22) rfl)) (by decide +kernel)
theorem w_se_M_fill : (.selects RM yM_fill yM_fill : Cond) ∈ BIG := mB (tb_0 (List.mem_of_getElem? (i := 23) rfl)) (by decide +kernel)
theorem w_se_M_setOriginal : (.selects RM yM_setOriginal yM_setOriginal : Cond) ∈ BIG := mB (tb_0 (List.mem_of_getElem? (i := 24) rfl)) (by decide +kernel)
theorem w_se_M_write : (.selects RM yM_write yM_write : Cond) ∈ BIG := mB (tb_0 (List.mem_of_getElem? (i := 25) rfl)) (by decide +kernel)
theorem w_se_M_pack : (.selects RM yM_pack yM_pack : Cond) ∈ BIG := mB (tb_0 (List.mem_of_getElem? (i := 26) rfl)) (by decide +kernel)
theorem w_se_M_writeField : (.selects RM yM_writeField yM_writeField : Cond) ∈ BIG := mB (tb_0 (List.mem_of_getElem? (i := 27) rfl)) (by decide +kernel)
theorem w_se_M_readTape : (.selects RM yM_readTape yM_readTape : Cond) ∈ BIG := mB (tb_0 (List.mem_of_getElem? (i := 28) rfl)) (by decide +kernel)
theorem w_se_M_takeDigits : (.selects RM yM_takeDigits yM_takeDigits : Cond) ∈ BIG := mB (tb_0 (List.mem_of_getElem? (i := 29) rfl)) (by decide +kernel)
theorem w_se_M_fails : (.selects RM yM_fails yM_fails : Cond) ∈ BIG := mB (tb_0 (List.mem_of_getElem? (i := 30) rfl)) (by decide +kernel)
theorem w_se_M_takeMaps : (.selects RM yM_takeMaps yM_takeMaps : Cond) ∈ BIG := mB (tb_0 (List.mem_of_getElem? (i := 31) rfl)) (by decide +kernel)
theorem w_se_M_takeField : (.selects RM yM_takeField yM_takeField : Cond) ∈ BIG := mB (tb_0 (List.mem_of_getElem? (i := 32) rfl)) (by decide +kernel)
theorem w_se_M_takeLetters : (.selects RM yM_takeLetters yM_takeLetters : Cond) ∈ BIG := mB (tb_0 (List.mem_of_getElem? (i := 33) rfl)) (by decide +kernel)
theorem inD : ∀ w ∈ u_ws RD TD 3, w ∈ BIG := by
  intro w h
  obtain ⟨k, hk, rfl⟩ := List.mem_map.mp h
  have hk := List.mem_range.mp hk
  match k, hk with
  | 0, _ => exact mB (tb_1 (List.mem_of_getElem? (i := 35) rfl)) (by decide +kernel)
  | 1, _ => exact mB (tb_1 (List.mem_of_getElem? (i := 37) rfl)) (by decide +kernel)
  | 2, _ => exact mB (tb_1 (List.mem_of_getElem? (i := 39) rfl)) (by decide +kernel)
  | k + 3, h => exact absurd h (by omega)
theorem inR : ∀ w ∈ u_ws RR TR 6, w ∈ BIG := by
  intro w h
  obtain ⟨k, hk, rfl⟩ := List.mem_map.mp h
  have hk := List.mem_range.mp hk
  match k, hk with
  | 0, _ => exact mB (tb_1 (List.mem_of_getElem? (i := 76) rfl)) (by decide +kernel)
  | 1, _ => exact mB (tb_1 (List.mem_of_getElem? (i := 78) rfl)) (by decide +kernel)
  | 2, _ => exact mB (tb_1 (List.mem_of_getElem? (i := 80) rfl)) (by decide +kernel)
  | 3, _ => exact mB (tb_1 (List.mem_of_getElem? (i := 82) rfl)) (by decide +kernel)
  | 4, _ => exact mB (tb_1 (List.mem_of_getElem? (i := 84) rfl)) (by decide +kernel)
  | 5, _ => exact mB (tb_1 (List.mem_of_getElem? (i := 86) rfl)) (by decide +kernel)
  | k + 6, h => exact absurd h (by omega)
theorem inT : ∀ w ∈ u_ws RT TT 2, w ∈ BIG := by
  intro w h
  obtain ⟨k, hk, rfl⟩ := List.mem_map.mp h
  have hk := List.mem_range.mp hk
  match k, hk with
  | 0, _ => exact mB (tb_1 (List.mem_of_getElem? (i := 54) rfl)) (by decide +kernel)
  | 1, _ => exact mB (tb_1 (List.mem_of_getElem? (i := 56) rfl)) (by decide +kernel)
  | k + 2, h => exact absurd h (by omega)
theorem inC : ∀ w ∈ u_ws RC TC 3, w ∈ BIG := by
  intro w h
  obtain ⟨k, hk, rfl⟩ := List.mem_map.mp h
  have hk := List.mem_range.mp hk
  match k, hk with
  | 0, _ => exact mB (tb_1 (List.mem_of_getElem? (i := 92) rfl)) (by decide +kernel)
  | 1, _ => exact mB (tb_1 (List.mem_of_getElem? (i := 94) rfl)) (by decide +kernel)
  | 2, _ => exact mB (tb_1 (List.mem_of_getElem? (i := 96) rfl)) (by decide +kernel)
  | k + 3, h => exact absurd h (by omega)
theorem inM : ∀ w ∈ u_ws RM TM 17, w ∈ BIG := by
  intro w h
  obtain ⟨k, hk, rfl⟩ := List.mem_map.mp h
  have hk := List.mem_range.mp hk
  match k, hk with
  | 0, _ => exact mB (tb_3 (List.mem_of_getElem? (i := 44) rfl)) (by decide +kernel)
  | 1, _ => exact mB (tb_3 (List.mem_of_getElem? (i := 46) rfl)) (by decide +kernel)
  | 2, _ => exact mB (tb_3 (List.mem_of_getElem? (i := 48) rfl)) (by decide +kernel)
  | 3, _ => exact mB (tb_3 (List.mem_of_getElem? (i := 50) rfl)) (by decide +kernel)
  | 4, _ => exact mB (tb_3 (List.mem_of_getElem? (i := 52) rfl)) (by decide +kernel)
  | 5, _ => exact mB (tb_3 (List.mem_of_getElem? (i := 54) rfl)) (by decide +kernel)
  | 6, _ => exact mB (tb_3 (List.mem_of_getElem? (i := 56) rfl)) (by decide +kernel)
  | 7, _ => exact mB (tb_3 (List.mem_of_getElem? (i := 58) rfl)) (by decide +kernel)
  | 8, _ => exact mB (tb_3 (List.mem_of_getElem? (i := 60) rfl)) (by decide +kernel)
  | 9, _ => exact mB (tb_3 (List.mem_of_getElem? (i := 62) rfl)) (by decide +kernel)
  | 10, _ => exact mB (tb_3 (List.mem_of_getElem? (i := 64) rfl)) (by decide +kernel)
  | 11, _ => exact mB (tb_3 (List.mem_of_getElem? (i := 66) rfl)) (by decide +kernel)
  | 12, _ => exact mB (tb_3 (List.mem_of_getElem? (i := 68) rfl)) (by decide +kernel)
  | 13, _ => exact mB (tb_3 (List.mem_of_getElem? (i := 70) rfl)) (by decide +kernel)
  | 14, _ => exact mB (tb_3 (List.mem_of_getElem? (i := 72) rfl)) (by decide +kernel)
  | 15, _ => exact mB (tb_3 (List.mem_of_getElem? (i := 74) rfl)) (by decide +kernel)
  | 16, _ => exact mB (tb_3 (List.mem_of_getElem? (i := 76) rfl)) (by decide +kernel)
  | k + 17, h => exact absurd h (by omega)
