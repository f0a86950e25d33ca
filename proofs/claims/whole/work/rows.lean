section
-- ===== PART A: goes FIRST, ahead of the names: the tables' words, and 'selects' of the private methods out of them =====
/-- a private method of a class that the tables say can be made, by its rows of tables_1 -/
def lw_okq (q : MethodName × Nat) : Prop := (q.1.cls ≠ "java/lang/invoke/MethodHandle" ∧ q.1.cls ≠ "java/lang/invoke/VarHandle") ∧ Cond.instantiable q.1.cls q.2 ∈ tables_1 ∧ Cond.privateMethod q.1 ∈ tables_1 ∧ Cond.instanceMethod q.1 ∈ tables_1
theorem lw_p0 : lw_okq (⟨"CardMessages$Tape", "appendNumber", "(II)V"⟩, 2) := ⟨⟨by decide +kernel, by decide +kernel⟩, List.mem_of_getElem? (i := 45) (by decide +kernel), List.mem_of_getElem? (i := 124) (by decide +kernel), List.mem_of_getElem? (i := 125) (by decide +kernel)⟩
theorem lw_p1 : lw_okq (⟨"CardMessages$Tape", "appendPair", "(II)V"⟩, 2) := ⟨⟨by decide +kernel, by decide +kernel⟩, List.mem_of_getElem? (i := 45) (by decide +kernel), List.mem_of_getElem? (i := 131) (by decide +kernel), List.mem_of_getElem? (i := 132) (by decide +kernel)⟩
theorem lw_p2 : lw_okq (⟨"CardMessages$Tape", "appendMaps", "(LCardMessages$Draft;)V"⟩, 2) := ⟨⟨by decide +kernel, by decide +kernel⟩, List.mem_of_getElem? (i := 45) (by decide +kernel), List.mem_of_getElem? (i := 139) (by decide +kernel), List.mem_of_getElem? (i := 140) (by decide +kernel)⟩
theorem lw_p3 : lw_okq (⟨"CardMessages$Tape", "appendField", "(LCardMessages$Draft;I)V"⟩, 2) := ⟨⟨by decide +kernel, by decide +kernel⟩, List.mem_of_getElem? (i := 45) (by decide +kernel), List.mem_of_getElem? (i := 159) (by decide +kernel), List.mem_of_getElem? (i := 160) (by decide +kernel)⟩
theorem lw_p4 : lw_okq (⟨"CardMessages$Tape", "appendLetters", "(LCardMessages$Draft;II)V"⟩, 2) := ⟨⟨by decide +kernel, by decide +kernel⟩, List.mem_of_getElem? (i := 45) (by decide +kernel), List.mem_of_getElem? (i := 167) (by decide +kernel), List.mem_of_getElem? (i := 168) (by decide +kernel)⟩
theorem lw_p5 : lw_okq (⟨"CardMessages$Tape", "appendDigits", "(LCardMessages$Draft;II)V"⟩, 2) := ⟨⟨by decide +kernel, by decide +kernel⟩, List.mem_of_getElem? (i := 45) (by decide +kernel), List.mem_of_getElem? (i := 177) (by decide +kernel), List.mem_of_getElem? (i := 178) (by decide +kernel)⟩
theorem lw_p6 : lw_okq (⟨"CardMessages$Reader", "walkType", "()Z"⟩, 6) := ⟨⟨by decide +kernel, by decide +kernel⟩, List.mem_of_getElem? (i := 60) (by decide +kernel), List.mem_of_getElem? (i := 189) (by decide +kernel), List.mem_of_getElem? (i := 190) (by decide +kernel)⟩
theorem lw_p7 : lw_okq (⟨"CardMessages$Reader", "walkNumber", "(I)Z"⟩, 6) := ⟨⟨by decide +kernel, by decide +kernel⟩, List.mem_of_getElem? (i := 60) (by decide +kernel), List.mem_of_getElem? (i := 193) (by decide +kernel), List.mem_of_getElem? (i := 194) (by decide +kernel)⟩
theorem lw_p8 : lw_okq (⟨"CardMessages$Reader", "areDigits", "(I)Z"⟩, 6) := ⟨⟨by decide +kernel, by decide +kernel⟩, List.mem_of_getElem? (i := 60) (by decide +kernel), List.mem_of_getElem? (i := 197) (by decide +kernel), List.mem_of_getElem? (i := 198) (by decide +kernel)⟩
theorem lw_p9 : lw_okq (⟨"CardMessages$Reader", "reaches", "(I)Z"⟩, 6) := ⟨⟨by decide +kernel, by decide +kernel⟩, List.mem_of_getElem? (i := 60) (by decide +kernel), List.mem_of_getElem? (i := 202) (by decide +kernel), List.mem_of_getElem? (i := 203) (by decide +kernel)⟩
theorem lw_p10 : lw_okq (⟨"CardMessages$Reader", "fail", "(II)Z"⟩, 6) := ⟨⟨by decide +kernel, by decide +kernel⟩, List.mem_of_getElem? (i := 60) (by decide +kernel), List.mem_of_getElem? (i := 206) (by decide +kernel), List.mem_of_getElem? (i := 207) (by decide +kernel)⟩
theorem lw_p11 : lw_okq (⟨"CardMessages$Reader", "halfAhead", "(I)I"⟩, 6) := ⟨⟨by decide +kernel, by decide +kernel⟩, List.mem_of_getElem? (i := 60) (by decide +kernel), List.mem_of_getElem? (i := 210) (by decide +kernel), List.mem_of_getElem? (i := 211) (by decide +kernel)⟩
theorem lw_p12 : lw_okq (⟨"CardMessages$Reader", "digitAhead", "(II)I"⟩, 6) := ⟨⟨by decide +kernel, by decide +kernel⟩, List.mem_of_getElem? (i := 60) (by decide +kernel), List.mem_of_getElem? (i := 218) (by decide +kernel), List.mem_of_getElem? (i := 219) (by decide +kernel)⟩
theorem lw_p13 : lw_okq (⟨"CardMessages$Reader", "walkMaps", "()Z"⟩, 6) := ⟨⟨by decide +kernel, by decide +kernel⟩, List.mem_of_getElem? (i := 60) (by decide +kernel), List.mem_of_getElem? (i := 228) (by decide +kernel), List.mem_of_getElem? (i := 229) (by decide +kernel)⟩
theorem lw_p14 : lw_okq (⟨"CardMessages$Reader", "hasBit", "(I)Z"⟩, 6) := ⟨⟨by decide +kernel, by decide +kernel⟩, List.mem_of_getElem? (i := 60) (by decide +kernel), List.mem_of_getElem? (i := 234) (by decide +kernel), List.mem_of_getElem? (i := 235) (by decide +kernel)⟩
theorem lw_p15 : lw_okq (⟨"CardMessages$Reader", "walkField", "(I)Z"⟩, 6) := ⟨⟨by decide +kernel, by decide +kernel⟩, List.mem_of_getElem? (i := 60) (by decide +kernel), List.mem_of_getElem? (i := 241) (by decide +kernel), List.mem_of_getElem? (i := 242) (by decide +kernel)⟩
def lw_privs_1 : List (MethodName × Nat) := [(⟨"CardMessages$Tape", "appendNumber", "(II)V"⟩, 2), (⟨"CardMessages$Tape", "appendPair", "(II)V"⟩, 2), (⟨"CardMessages$Tape", "appendMaps", "(LCardMessages$Draft;)V"⟩, 2), (⟨"CardMessages$Tape", "appendField", "(LCardMessages$Draft;I)V"⟩, 2), (⟨"CardMessages$Tape", "appendLetters", "(LCardMessages$Draft;II)V"⟩, 2), (⟨"CardMessages$Tape", "appendDigits", "(LCardMessages$Draft;II)V"⟩, 2), (⟨"CardMessages$Reader", "walkType", "()Z"⟩, 6), (⟨"CardMessages$Reader", "walkNumber", "(I)Z"⟩, 6), (⟨"CardMessages$Reader", "areDigits", "(I)Z"⟩, 6), (⟨"CardMessages$Reader", "reaches", "(I)Z"⟩, 6), (⟨"CardMessages$Reader", "fail", "(II)Z"⟩, 6), (⟨"CardMessages$Reader", "halfAhead", "(I)I"⟩, 6), (⟨"CardMessages$Reader", "digitAhead", "(II)I"⟩, 6), (⟨"CardMessages$Reader", "walkMaps", "()Z"⟩, 6), (⟨"CardMessages$Reader", "hasBit", "(I)Z"⟩, 6), (⟨"CardMessages$Reader", "walkField", "(I)Z"⟩, 6)]
theorem lw_r1 : ∀ q ∈ lw_privs_1, lw_okq q := List.forall_mem_cons.mpr ⟨lw_p0, List.forall_mem_cons.mpr ⟨lw_p1, List.forall_mem_cons.mpr ⟨lw_p2, List.forall_mem_cons.mpr ⟨lw_p3, List.forall_mem_cons.mpr ⟨lw_p4, List.forall_mem_cons.mpr ⟨lw_p5, List.forall_mem_cons.mpr ⟨lw_p6, List.forall_mem_cons.mpr ⟨lw_p7, List.forall_mem_cons.mpr ⟨lw_p8, List.forall_mem_cons.mpr ⟨lw_p9, List.forall_mem_cons.mpr ⟨lw_p10, List.forall_mem_cons.mpr ⟨lw_p11, List.forall_mem_cons.mpr ⟨lw_p12, List.forall_mem_cons.mpr ⟨lw_p13, List.forall_mem_cons.mpr ⟨lw_p14, List.forall_mem_cons.mpr ⟨lw_p15, fun _ h => absurd h List.not_mem_nil⟩⟩⟩⟩⟩⟩⟩⟩⟩⟩⟩⟩⟩⟩⟩⟩
theorem lw_p16 : lw_okq (⟨"CardMessages$Reader", "walkLetters", "(II)Z"⟩, 6) := ⟨⟨by decide +kernel, by decide +kernel⟩, List.mem_of_getElem? (i := 60) (by decide +kernel), List.mem_of_getElem? (i := 249) (by decide +kernel), List.mem_of_getElem? (i := 250) (by decide +kernel)⟩
theorem lw_p17 : lw_okq (⟨"CardMessages$Reader", "walkDigits", "(II)Z"⟩, 6) := ⟨⟨by decide +kernel, by decide +kernel⟩, List.mem_of_getElem? (i := 60) (by decide +kernel), List.mem_of_getElem? (i := 260) (by decide +kernel), List.mem_of_getElem? (i := 261) (by decide +kernel)⟩
theorem lw_p18 : lw_okq (⟨"java/lang/Throwable", "fillInStackTrace", "(I)Ljava/lang/Throwable;"⟩, 6) := ⟨⟨by decide +kernel, by decide +kernel⟩, List.mem_of_getElem? (i := 316) (by decide +kernel), List.mem_of_getElem? (i := 314) (by decide +kernel), List.mem_of_getElem? (i := 315) (by decide +kernel)⟩
theorem lw_p19 : lw_okq (⟨"CardMessages$Draft", "setDigits", "(IIIJ)V"⟩, 3) := ⟨⟨by decide +kernel, by decide +kernel⟩, List.mem_of_getElem? (i := 22) (by decide +kernel), List.mem_of_getElem? (i := 374) (by decide +kernel), List.mem_of_getElem? (i := 375) (by decide +kernel)⟩
theorem lw_p20 : lw_okq (⟨"CardMessagesModel", "goes", "(Z)Z"⟩, 17) := ⟨⟨by decide +kernel, by decide +kernel⟩, List.mem_of_getElem? (i := 499) (by decide +kernel), List.mem_of_getElem? (i := 568) (by decide +kernel), List.mem_of_getElem? (i := 569) (by decide +kernel)⟩
theorem lw_p21 : lw_okq (⟨"CardMessagesModel", "begin", "(I)V"⟩, 17) := ⟨⟨by decide +kernel, by decide +kernel⟩, List.mem_of_getElem? (i := 499) (by decide +kernel), List.mem_of_getElem? (i := 572) (by decide +kernel), List.mem_of_getElem? (i := 573) (by decide +kernel)⟩
theorem lw_p22 : lw_okq (⟨"CardMessagesModel", "fieldOf", "(I)I"⟩, 17) := ⟨⟨by decide +kernel, by decide +kernel⟩, List.mem_of_getElem? (i := 499) (by decide +kernel), List.mem_of_getElem? (i := 580) (by decide +kernel), List.mem_of_getElem? (i := 581) (by decide +kernel)⟩
theorem lw_p23 : lw_okq (⟨"CardMessagesModel", "fill", "(IJ)V"⟩, 17) := ⟨⟨by decide +kernel, by decide +kernel⟩, List.mem_of_getElem? (i := 499) (by decide +kernel), List.mem_of_getElem? (i := 588) (by decide +kernel), List.mem_of_getElem? (i := 589) (by decide +kernel)⟩
theorem lw_p24 : lw_okq (⟨"CardMessagesModel", "setOriginal", "([IIII)V"⟩, 17) := ⟨⟨by decide +kernel, by decide +kernel⟩, List.mem_of_getElem? (i := 499) (by decide +kernel), List.mem_of_getElem? (i := 606) (by decide +kernel), List.mem_of_getElem? (i := 607) (by decide +kernel)⟩
theorem lw_p25 : lw_okq (⟨"CardMessagesModel", "write", "(I[I[I[I)V"⟩, 17) := ⟨⟨by decide +kernel, by decide +kernel⟩, List.mem_of_getElem? (i := 499) (by decide +kernel), List.mem_of_getElem? (i := 639) (by decide +kernel), List.mem_of_getElem? (i := 640) (by decide +kernel)⟩
theorem lw_p26 : lw_okq (⟨"CardMessagesModel", "pack", "([I[III)V"⟩, 17) := ⟨⟨by decide +kernel, by decide +kernel⟩, List.mem_of_getElem? (i := 499) (by decide +kernel), List.mem_of_getElem? (i := 643) (by decide +kernel), List.mem_of_getElem? (i := 644) (by decide +kernel)⟩
theorem lw_p27 : lw_okq (⟨"CardMessagesModel", "writeField", "(I[II[I)V"⟩, 17) := ⟨⟨by decide +kernel, by decide +kernel⟩, List.mem_of_getElem? (i := 499) (by decide +kernel), List.mem_of_getElem? (i := 647) (by decide +kernel), List.mem_of_getElem? (i := 648) (by decide +kernel)⟩
theorem lw_p28 : lw_okq (⟨"CardMessagesModel", "readTape", "()V"⟩, 17) := ⟨⟨by decide +kernel, by decide +kernel⟩, List.mem_of_getElem? (i := 499) (by decide +kernel), List.mem_of_getElem? (i := 667) (by decide +kernel), List.mem_of_getElem? (i := 668) (by decide +kernel)⟩
theorem lw_p29 : lw_okq (⟨"CardMessagesModel", "takeDigits", "(I[II)V"⟩, 17) := ⟨⟨by decide +kernel, by decide +kernel⟩, List.mem_of_getElem? (i := 499) (by decide +kernel), List.mem_of_getElem? (i := 671) (by decide +kernel), List.mem_of_getElem? (i := 672) (by decide +kernel)⟩
theorem lw_p30 : lw_okq (⟨"CardMessagesModel", "fails", "(II)V"⟩, 17) := ⟨⟨by decide +kernel, by decide +kernel⟩, List.mem_of_getElem? (i := 499) (by decide +kernel), List.mem_of_getElem? (i := 675) (by decide +kernel), List.mem_of_getElem? (i := 676) (by decide +kernel)⟩
theorem lw_p31 : lw_okq (⟨"CardMessagesModel", "takeMaps", "()V"⟩, 17) := ⟨⟨by decide +kernel, by decide +kernel⟩, List.mem_of_getElem? (i := 499) (by decide +kernel), List.mem_of_getElem? (i := 682) (by decide +kernel), List.mem_of_getElem? (i := 683) (by decide +kernel)⟩
def lw_privs_2 : List (MethodName × Nat) := [(⟨"CardMessages$Reader", "walkLetters", "(II)Z"⟩, 6), (⟨"CardMessages$Reader", "walkDigits", "(II)Z"⟩, 6), (⟨"java/lang/Throwable", "fillInStackTrace", "(I)Ljava/lang/Throwable;"⟩, 6), (⟨"CardMessages$Draft", "setDigits", "(IIIJ)V"⟩, 3), (⟨"CardMessagesModel", "goes", "(Z)Z"⟩, 17), (⟨"CardMessagesModel", "begin", "(I)V"⟩, 17), (⟨"CardMessagesModel", "fieldOf", "(I)I"⟩, 17), (⟨"CardMessagesModel", "fill", "(IJ)V"⟩, 17), (⟨"CardMessagesModel", "setOriginal", "([IIII)V"⟩, 17), (⟨"CardMessagesModel", "write", "(I[I[I[I)V"⟩, 17), (⟨"CardMessagesModel", "pack", "([I[III)V"⟩, 17), (⟨"CardMessagesModel", "writeField", "(I[II[I)V"⟩, 17), (⟨"CardMessagesModel", "readTape", "()V"⟩, 17), (⟨"CardMessagesModel", "takeDigits", "(I[II)V"⟩, 17), (⟨"CardMessagesModel", "fails", "(II)V"⟩, 17), (⟨"CardMessagesModel", "takeMaps", "()V"⟩, 17)]
theorem lw_r2 : ∀ q ∈ lw_privs_2, lw_okq q := List.forall_mem_cons.mpr ⟨lw_p16, List.forall_mem_cons.mpr ⟨lw_p17, List.forall_mem_cons.mpr ⟨lw_p18, List.forall_mem_cons.mpr ⟨lw_p19, List.forall_mem_cons.mpr ⟨lw_p20, List.forall_mem_cons.mpr ⟨lw_p21, List.forall_mem_cons.mpr ⟨lw_p22, List.forall_mem_cons.mpr ⟨lw_p23, List.forall_mem_cons.mpr ⟨lw_p24, List.forall_mem_cons.mpr ⟨lw_p25, List.forall_mem_cons.mpr ⟨lw_p26, List.forall_mem_cons.mpr ⟨lw_p27, List.forall_mem_cons.mpr ⟨lw_p28, List.forall_mem_cons.mpr ⟨lw_p29, List.forall_mem_cons.mpr ⟨lw_p30, List.forall_mem_cons.mpr ⟨lw_p31, fun _ h => absurd h List.not_mem_nil⟩⟩⟩⟩⟩⟩⟩⟩⟩⟩⟩⟩⟩⟩⟩⟩
theorem lw_p32 : lw_okq (⟨"CardMessagesModel", "takeField", "(I)V"⟩, 17) := ⟨⟨by decide +kernel, by decide +kernel⟩, List.mem_of_getElem? (i := 499) (by decide +kernel), List.mem_of_getElem? (i := 686) (by decide +kernel), List.mem_of_getElem? (i := 687) (by decide +kernel)⟩
theorem lw_p33 : lw_okq (⟨"CardMessagesModel", "takeLetters", "(I[II)V"⟩, 17) := ⟨⟨by decide +kernel, by decide +kernel⟩, List.mem_of_getElem? (i := 499) (by decide +kernel), List.mem_of_getElem? (i := 690) (by decide +kernel), List.mem_of_getElem? (i := 691) (by decide +kernel)⟩
def lw_privs_3 : List (MethodName × Nat) := [(⟨"CardMessagesModel", "takeField", "(I)V"⟩, 17), (⟨"CardMessagesModel", "takeLetters", "(I[II)V"⟩, 17)]
theorem lw_r3 : ∀ q ∈ lw_privs_3, lw_okq q := List.forall_mem_cons.mpr ⟨lw_p32, List.forall_mem_cons.mpr ⟨lw_p33, fun _ h => absurd h List.not_mem_nil⟩⟩
def lw_privs : List (MethodName × Nat) := lw_privs_1 ++ (lw_privs_2 ++ (lw_privs_3))
def lw_tbl : List Cond := k2_sels lw_privs ++ tables_1
theorem lw_privs_ok : ∀ q ∈ lw_privs, lw_okq q := by
  show ∀ q ∈ lw_privs_1 ++ (lw_privs_2 ++ (lw_privs_3)), lw_okq q
  exact List.forall_mem_append.mpr ⟨lw_r1, List.forall_mem_append.mpr ⟨lw_r2, lw_r3⟩⟩
end
section
def RD : String := "CardMessages$Draft"
def RR : String := "CardMessages$Reader"
def RT : String := "CardMessages$Tape"
def RC : String := "CardMessages"
def RM : String := "CardMessagesModel"
def RL : String := "CardMessagesLaw"
def TD : u_T := fun k => match k with
  | 0 => ("CardMessages$Draft", "messageType", "I", false)
  | 1 => ("CardMessages$Draft", "counts", "[I", true)
  | _ => ("CardMessages$Draft", "marks", "[B", true)
def tyD : Nat → FieldType := fun k => match k with
  | 0 => .int
  | 1 => .array .int
  | _ => .array .byte
theorem nmD : ∀ a, a < 3 → ∀ b, b < 3 → a ≠ b → (TD a).2.1 ≠ (TD b).2.1 := by decide +kernel
theorem tyD_ok : ∀ k, k < 3 → parseFieldDescriptor (TD k).2.2.1 = some (tyD k) := by decide +kernel
def TR : u_T := fun k => match k with
  | 0 => ("CardMessages$Reader", "found", "LCardMessages$Draft;", true)
  | 1 => ("CardMessages$Reader", "faultKind", "I", false)
  | 2 => ("CardMessages$Reader", "faultPlace", "I", false)
  | 3 => ("CardMessages$Reader", "tape", "LCardMessages$Tape;", true)
  | 4 => ("CardMessages$Reader", "next", "I", false)
  | _ => ("CardMessages$Reader", "lastNumber", "I", false)
def tyR : Nat → FieldType := fun k => match k with
  | 0 => .object "CardMessages$Draft"
  | 1 => .int
  | 2 => .int
  | 3 => .object "CardMessages$Tape"
  | 4 => .int
  | _ => .int
theorem nmR : ∀ a, a < 6 → ∀ b, b < 6 → a ≠ b → (TR a).2.1 ≠ (TR b).2.1 := by decide +kernel
theorem tyR_ok : ∀ k, k < 6 → parseFieldDescriptor (TR k).2.2.1 = some (tyR k) := by decide +kernel
def TT : u_T := fun k => match k with
  | 0 => ("CardMessages$Tape", "bytes", "[B", true)
  | _ => ("CardMessages$Tape", "length", "I", false)
def tyT : Nat → FieldType := fun k => match k with
  | 0 => .array .byte
  | _ => .int
theorem nmT : ∀ a, a < 2 → ∀ b, b < 2 → a ≠ b → (TT a).2.1 ≠ (TT b).2.1 := by decide +kernel
theorem tyT_ok : ∀ k, k < 2 → parseFieldDescriptor (TT k).2.2.1 = some (tyT k) := by decide +kernel
def TC : u_T := fun k => match k with
  | 0 => ("CardMessages", "draft", "LCardMessages$Draft;", true)
  | 1 => ("CardMessages", "tape", "LCardMessages$Tape;", true)
  | _ => ("CardMessages", "reader", "LCardMessages$Reader;", true)
def tyC : Nat → FieldType := fun k => match k with
  | 0 => .object "CardMessages$Draft"
  | 1 => .object "CardMessages$Tape"
  | _ => .object "CardMessages$Reader"
theorem nmC : ∀ a, a < 3 → ∀ b, b < 3 → a ≠ b → (TC a).2.1 ≠ (TC b).2.1 := by decide +kernel
theorem tyC_ok : ∀ k, k < 3 → parseFieldDescriptor (TC k).2.2.1 = some (tyC k) := by decide +kernel
def TM : u_T := fun k => match k with
  | 0 => ("CardMessagesModel", "numbers", "[I", true)
  | 1 => ("CardMessagesModel", "sizes", "[I", true)
  | 2 => ("CardMessagesModel", "forms", "[I", true)
  | 3 => ("CardMessagesModel", "code", "I", false)
  | 4 => ("CardMessagesModel", "draftType", "I", false)
  | 5 => ("CardMessagesModel", "draft", "[I", true)
  | 6 => ("CardMessagesModel", "draftSize", "[I", true)
  | 7 => ("CardMessagesModel", "readType", "I", false)
  | 8 => ("CardMessagesModel", "read", "[I", true)
  | 9 => ("CardMessagesModel", "readSize", "[I", true)
  | 10 => ("CardMessagesModel", "tape", "[I", true)
  | 11 => ("CardMessagesModel", "size", "I", false)
  | 12 => ("CardMessagesModel", "at", "I", false)
  | 13 => ("CardMessagesModel", "fault", "I", false)
  | 14 => ("CardMessagesModel", "place", "I", false)
  | 15 => ("CardMessagesModel", "written", "I", false)
  | _ => ("CardMessagesModel", "few", "[I", true)
def tyM : Nat → FieldType := fun k => match k with
  | 0 => .array .int
  | 1 => .array .int
  | 2 => .array .int
  | 3 => .int
  | 4 => .int
  | 5 => .array .int
  | 6 => .array .int
  | 7 => .int
  | 8 => .array .int
  | 9 => .array .int
  | 10 => .array .int
  | 11 => .int
  | 12 => .int
  | 13 => .int
  | 14 => .int
  | 15 => .int
  | _ => .array .int
theorem nmM : ∀ a, a < 17 → ∀ b, b < 17 → a ≠ b → (TM a).2.1 ≠ (TM b).2.1 := by decide +kernel
theorem tyM_ok : ∀ k, k < 17 → parseFieldDescriptor (TM k).2.2.1 = some (tyM k) := by decide +kernel
abbrev vwCl : List vw_C := [(RD, TD, 3), (RR, TR, 6), (RT, TT, 2), (RC, TC, 3), (RM, TM, 17)]
abbrev cC_at : ByteArray := prog_1_method_9_code
def yC_at : MethodName := ⟨RC, "at", "(II)I"⟩
abbrev cC_bytesOfDigits : ByteArray := prog_1_method_21_code
def yC_bytesOfDigits : MethodName := ⟨RC, "bytesOfDigits", "(I)I"⟩
abbrev cC_compose : ByteArray := prog_1_method_12_code
def yC_compose : MethodName := ⟨RC, "compose", "()I"⟩
abbrev cC_digitCount : ByteArray := prog_1_method_20_code
def yC_digitCount : MethodName := ⟨RC, "digitCount", "(J)I"⟩
abbrev cC_digitSlot : ByteArray := prog_1_method_19_code
def yC_digitSlot : MethodName := ⟨RC, "digitSlot", "(I)I"⟩
abbrev cC_digits : ByteArray := prog_1_method_3_code
def yC_digits : MethodName := ⟨RC, "digits", "(IJ)V"⟩
abbrev cC_fault : ByteArray := prog_1_method_16_code
def yC_fault : MethodName := ⟨RC, "fault", "(I)I"⟩
abbrev cC_feed : ByteArray := prog_1_method_13_code
def yC_feed : MethodName := ⟨RC, "feed", "(I)I"⟩
abbrev cC_fields : ByteArray := prog_1_method_11_code
def yC_fields : MethodName := ⟨RC, "fields", "()I"⟩
abbrev cC_init : ByteArray := prog_1_method_1_code
def yC_init : MethodName := ⟨RC, "<init>", "()V"⟩
abbrev cC_knownSlot : ByteArray := prog_1_method_18_code
def yC_knownSlot : MethodName := ⟨RC, "knownSlot", "(I)I"⟩
abbrev cC_letters : ByteArray := prog_1_method_4_code
def yC_letters : MethodName := ⟨RC, "letters", "(IJI)V"⟩
abbrev cC_mapBit : ByteArray := prog_1_method_23_code
def yC_mapBit : MethodName := ⟨RC, "mapBit", "(I)I"⟩
abbrev cC_mapByte : ByteArray := prog_1_method_22_code
def yC_mapByte : MethodName := ⟨RC, "mapByte", "(I)I"⟩
abbrev cC_message : ByteArray := prog_1_method_2_code
def yC_message : MethodName := ⟨RC, "message", "(I)V"⟩
abbrev cC_number : ByteArray := prog_1_method_10_code
def yC_number : MethodName := ⟨RC, "number", "(I)J"⟩
abbrev cC_omit : ByteArray := prog_1_method_6_code
def yC_omit : MethodName := ⟨RC, "omit", "(I)Z"⟩
abbrev cC_original : ByteArray := prog_1_method_5_code
def yC_original : MethodName := ⟨RC, "original", "(III)V"⟩
abbrev cC_read : ByteArray := prog_1_method_17_code
def yC_read : MethodName := ⟨RC, "read", "()Z"⟩
abbrev cC_size : ByteArray := prog_1_method_8_code
def yC_size : MethodName := ⟨RC, "size", "(I)I"⟩
abbrev cC_spoil : ByteArray := prog_1_method_15_code
def yC_spoil : MethodName := ⟨RC, "spoil", "(II)I"⟩
abbrev cC_trim : ByteArray := prog_1_method_14_code
def yC_trim : MethodName := ⟨RC, "trim", "(I)I"⟩
abbrev cC_type : ByteArray := prog_1_method_7_code
def yC_type : MethodName := ⟨RC, "type", "()I"⟩
abbrev cD_become : ByteArray := prog_2_method_3_code
def yD_become : MethodName := ⟨RD, "become", "(LCardMessages$Draft;)V"⟩
abbrev cD_fieldCount : ByteArray := prog_2_method_5_code
def yD_fieldCount : MethodName := ⟨RD, "fieldCount", "()I"⟩
abbrev cD_has : ByteArray := prog_2_method_4_code
def yD_has : MethodName := ⟨RD, "has", "(I)Z"⟩
abbrev cD_init : ByteArray := prog_2_method_1_code
def yD_init : MethodName := ⟨RD, "<init>", "()V"⟩
abbrev cD_lastDigits : ByteArray := prog_2_method_11_code
def yD_lastDigits : MethodName := ⟨RD, "lastDigits", "(I)J"⟩
abbrev cD_mark : ByteArray := prog_2_method_6_code
def yD_mark : MethodName := ⟨RD, "mark", "(II)I"⟩
abbrev cD_putLetters : ByteArray := prog_2_method_10_code
def yD_putLetters : MethodName := ⟨RD, "putLetters", "(IIJ)V"⟩
abbrev cD_putNumber : ByteArray := prog_2_method_8_code
def yD_putNumber : MethodName := ⟨RD, "putNumber", "(IIJ)V"⟩
abbrev cD_putOriginal : ByteArray := prog_2_method_9_code
def yD_putOriginal : MethodName := ⟨RD, "putOriginal", "(III)V"⟩
abbrev cD_restart : ByteArray := prog_2_method_2_code
def yD_restart : MethodName := ⟨RD, "restart", "(I)V"⟩
abbrev cD_setDigits : ByteArray := prog_2_method_12_code
def yD_setDigits : MethodName := ⟨RD, "setDigits", "(IIIJ)V"⟩
abbrev cD_setMark : ByteArray := prog_2_method_7_code
def yD_setMark : MethodName := ⟨RD, "setMark", "(III)V"⟩
abbrev cL_at : ByteArray := method_9_code
def yL_at : MethodName := ⟨RL, "at", "(LCardMessages;II[J)I"⟩
abbrev cL_digits : ByteArray := method_4_code
def yL_digits : MethodName := ⟨RL, "digits", "(LCardMessages;IJ)I"⟩
abbrev cL_fault : ByteArray := method_14_code
def yL_fault : MethodName := ⟨RL, "fault", "(LCardMessages;I[J)I"⟩
abbrev cL_feed : ByteArray := method_11_code
def yL_feed : MethodName := ⟨RL, "feed", "(LCardMessages;I[J)I"⟩
abbrev cL_law : ByteArray := code
def yL_law : MethodName := ⟨RL, "law", "([I)Z"⟩
abbrev cL_letters : ByteArray := method_5_code
def yL_letters : MethodName := ⟨RL, "letters", "(LCardMessages;IJI)I"⟩
abbrev cL_message : ByteArray := method_3_code
def yL_message : MethodName := ⟨RL, "message", "(LCardMessages;I)I"⟩
abbrev cL_number : ByteArray := method_10_code
def yL_number : MethodName := ⟨RL, "number", "(LCardMessages;I[J)I"⟩
abbrev cL_omit : ByteArray := method_7_code
def yL_omit : MethodName := ⟨RL, "omit", "(LCardMessages;I[J)I"⟩
abbrev cL_original : ByteArray := method_6_code
def yL_original : MethodName := ⟨RL, "original", "(LCardMessages;III)I"⟩
abbrev cL_size : ByteArray := method_8_code
def yL_size : MethodName := ⟨RL, "size", "(LCardMessages;I[J)I"⟩
abbrev cL_spoil : ByteArray := method_13_code
def yL_spoil : MethodName := ⟨RL, "spoil", "(LCardMessages;II[J)I"⟩
abbrev cL_trim : ByteArray := method_12_code
def yL_trim : MethodName := ⟨RL, "trim", "(LCardMessages;I[J)I"⟩
abbrev cM_at : ByteArray := prog_6_method_18_code
def yM_at : MethodName := ⟨RM, "at", "(II)I"⟩
abbrev cM_begin : ByteArray := prog_6_method_8_code
def yM_begin : MethodName := ⟨RM, "begin", "(I)V"⟩
abbrev cM_clear : ByteArray := prog_6_method_4_code
def yM_clear : MethodName := ⟨RM, "clear", "([I)V"⟩
abbrev cM_compose : ByteArray := prog_6_method_24_code
def yM_compose : MethodName := ⟨RM, "compose", "()I"⟩
abbrev cM_digits : ByteArray := prog_6_method_11_code
def yM_digits : MethodName := ⟨RM, "digits", "(IJ)V"⟩
abbrev cM_fails : ByteArray := prog_6_method_25_code
def yM_fails : MethodName := ⟨RM, "fails", "(II)V"⟩
abbrev cM_fault : ByteArray := prog_6_method_35_code
def yM_fault : MethodName := ⟨RM, "fault", "(I)I"⟩
abbrev cM_feed : ByteArray := prog_6_method_32_code
def yM_feed : MethodName := ⟨RM, "feed", "(I)I"⟩
abbrev cM_fieldOf : ByteArray := prog_6_method_7_code
def yM_fieldOf : MethodName := ⟨RM, "fieldOf", "(I)I"⟩
abbrev cM_fields : ByteArray := prog_6_method_20_code
def yM_fields : MethodName := ⟨RM, "fields", "()I"⟩
abbrev cM_fill : ByteArray := prog_6_method_10_code
def yM_fill : MethodName := ⟨RM, "fill", "(IJ)V"⟩
abbrev cM_goes : ByteArray := prog_6_method_3_code
def yM_goes : MethodName := ⟨RM, "goes", "(Z)Z"⟩
abbrev cM_init : ByteArray := prog_6_method_1_code
def yM_init : MethodName := ⟨RM, "<init>", "()V"⟩
abbrev cM_isType : ByteArray := prog_6_method_28_code
def yM_isType : MethodName := ⟨RM, "isType", "(I)Z"⟩
abbrev cM_letters : ByteArray := prog_6_method_12_code
def yM_letters : MethodName := ⟨RM, "letters", "(IJI)V"⟩
abbrev cM_message : ByteArray := prog_6_method_9_code
def yM_message : MethodName := ⟨RM, "message", "(I)V"⟩
abbrev cM_number : ByteArray := prog_6_method_19_code
def yM_number : MethodName := ⟨RM, "number", "(I)J"⟩
abbrev cM_omit : ByteArray := prog_6_method_15_code
def yM_omit : MethodName := ⟨RM, "omit", "(I)Z"⟩
abbrev cM_original : ByteArray := prog_6_method_14_code
def yM_original : MethodName := ⟨RM, "original", "(III)V"⟩
abbrev cM_pack : ByteArray := prog_6_method_21_code
def yM_pack : MethodName := ⟨RM, "pack", "([I[III)V"⟩
abbrev cM_read : ByteArray := prog_6_method_36_code
def yM_read : MethodName := ⟨RM, "read", "()Z"⟩
abbrev cM_readTape : ByteArray := prog_6_method_31_code
def yM_readTape : MethodName := ⟨RM, "readTape", "()V"⟩
abbrev cM_setDigits : ByteArray := prog_6_method_6_code
def yM_setDigits : MethodName := ⟨RM, "setDigits", "([IIJI)V"⟩
abbrev cM_setOriginal : ByteArray := prog_6_method_13_code
def yM_setOriginal : MethodName := ⟨RM, "setOriginal", "([IIII)V"⟩
abbrev cM_size : ByteArray := prog_6_method_17_code
def yM_size : MethodName := ⟨RM, "size", "(I)I"⟩
abbrev cM_spoil : ByteArray := prog_6_method_34_code
def yM_spoil : MethodName := ⟨RM, "spoil", "(II)I"⟩
abbrev cM_takeDigits : ByteArray := prog_6_method_26_code
def yM_takeDigits : MethodName := ⟨RM, "takeDigits", "(I[II)V"⟩
abbrev cM_takeField : ByteArray := prog_6_method_30_code
def yM_takeField : MethodName := ⟨RM, "takeField", "(I)V"⟩
abbrev cM_takeLetters : ByteArray := prog_6_method_27_code
def yM_takeLetters : MethodName := ⟨RM, "takeLetters", "(I[II)V"⟩
abbrev cM_takeMaps : ByteArray := prog_6_method_29_code
def yM_takeMaps : MethodName := ⟨RM, "takeMaps", "()V"⟩
abbrev cM_thrown : ByteArray := prog_6_method_2_code
def yM_thrown : MethodName := ⟨RM, "thrown", "()I"⟩
abbrev cM_trim : ByteArray := prog_6_method_33_code
def yM_trim : MethodName := ⟨RM, "trim", "(I)I"⟩
abbrev cM_type : ByteArray := prog_6_method_16_code
def yM_type : MethodName := ⟨RM, "type", "()I"⟩
abbrev cM_width : ByteArray := prog_6_method_5_code
def yM_width : MethodName := ⟨RM, "width", "(J)I"⟩
abbrev cM_write : ByteArray := prog_6_method_22_code
def yM_write : MethodName := ⟨RM, "write", "(I[I[I[I)V"⟩
abbrev cM_writeField : ByteArray := prog_6_method_23_code
def yM_writeField : MethodName := ⟨RM, "writeField", "(I[II[I)V"⟩
abbrev cR_areDigits : ByteArray := prog_3_method_11_code
def yR_areDigits : MethodName := ⟨RR, "areDigits", "(I)Z"⟩
abbrev cR_digitAhead : ByteArray := prog_3_method_12_code
def yR_digitAhead : MethodName := ⟨RR, "digitAhead", "(II)I"⟩
abbrev cR_fail : ByteArray := prog_3_method_15_code
def yR_fail : MethodName := ⟨RR, "fail", "(II)Z"⟩
abbrev cR_halfAhead : ByteArray := prog_3_method_13_code
def yR_halfAhead : MethodName := ⟨RR, "halfAhead", "(I)I"⟩
abbrev cR_hasBit : ByteArray := prog_3_method_5_code
def yR_hasBit : MethodName := ⟨RR, "hasBit", "(I)Z"⟩
abbrev cR_init : ByteArray := prog_3_method_1_code
def yR_init : MethodName := ⟨RR, "<init>", "(LCardMessages$Tape;)V"⟩
abbrev cR_isLetter : ByteArray := prog_3_method_10_code
def yR_isLetter : MethodName := ⟨RR, "isLetter", "(I)Z"⟩
abbrev cR_reaches : ByteArray := prog_3_method_14_code
def yR_reaches : MethodName := ⟨RR, "reaches", "(I)Z"⟩
abbrev cR_walk : ByteArray := prog_3_method_2_code
def yR_walk : MethodName := ⟨RR, "walk", "()Z"⟩
abbrev cR_walkDigits : ByteArray := prog_3_method_8_code
def yR_walkDigits : MethodName := ⟨RR, "walkDigits", "(II)Z"⟩
abbrev cR_walkField : ByteArray := prog_3_method_6_code
def yR_walkField : MethodName := ⟨RR, "walkField", "(I)Z"⟩
abbrev cR_walkLetters : ByteArray := prog_3_method_9_code
def yR_walkLetters : MethodName := ⟨RR, "walkLetters", "(II)Z"⟩
abbrev cR_walkMaps : ByteArray := prog_3_method_4_code
def yR_walkMaps : MethodName := ⟨RR, "walkMaps", "()Z"⟩
abbrev cR_walkNumber : ByteArray := prog_3_method_7_code
def yR_walkNumber : MethodName := ⟨RR, "walkNumber", "(I)Z"⟩
abbrev cR_walkType : ByteArray := prog_3_method_3_code
def yR_walkType : MethodName := ⟨RR, "walkType", "()Z"⟩
abbrev cT_append : ByteArray := prog_4_method_4_code
def yT_append : MethodName := ⟨RT, "append", "(I)V"⟩
abbrev cT_appendDigits : ByteArray := prog_4_method_10_code
def yT_appendDigits : MethodName := ⟨RT, "appendDigits", "(LCardMessages$Draft;II)V"⟩
abbrev cT_appendField : ByteArray := prog_4_method_8_code
def yT_appendField : MethodName := ⟨RT, "appendField", "(LCardMessages$Draft;I)V"⟩
abbrev cT_appendLetters : ByteArray := prog_4_method_11_code
def yT_appendLetters : MethodName := ⟨RT, "appendLetters", "(LCardMessages$Draft;II)V"⟩
abbrev cT_appendMaps : ByteArray := prog_4_method_6_code
def yT_appendMaps : MethodName := ⟨RT, "appendMaps", "(LCardMessages$Draft;)V"⟩
abbrev cT_appendNumber : ByteArray := prog_4_method_9_code
def yT_appendNumber : MethodName := ⟨RT, "appendNumber", "(II)V"⟩
abbrev cT_appendPair : ByteArray := prog_4_method_12_code
def yT_appendPair : MethodName := ⟨RT, "appendPair", "(II)V"⟩
abbrev cT_byteAt : ByteArray := prog_4_method_2_code
def yT_byteAt : MethodName := ⟨RT, "byteAt", "(I)I"⟩
abbrev cT_flip : ByteArray := prog_4_method_3_code
def yT_flip : MethodName := ⟨RT, "flip", "(II)V"⟩
abbrev cT_hasFieldOfSecondMap : ByteArray := prog_4_method_7_code
def yT_hasFieldOfSecondMap : MethodName := ⟨RT, "hasFieldOfSecondMap", "(LCardMessages$Draft;)Z"⟩
abbrev cT_init : ByteArray := prog_4_method_1_code
def yT_init : MethodName := ⟨RT, "<init>", "()V"⟩
abbrev cT_write : ByteArray := prog_4_method_5_code
def yT_write : MethodName := ⟨RT, "write", "(LCardMessages$Draft;)V"⟩
/-- the words that a method may use: all of the tables that keep -/
def BIG : List Cond := lw_tbl.filter goodWord
theorem mB {w : Cond} (h : w ∈ lw_tbl) (g : goodWord w = true) : w ∈ BIG := List.mem_filter.mpr ⟨h, g⟩
theorem tb_1 {w : Cond} (h : w ∈ tables_1_1) : w ∈ lw_tbl := List.mem_append_right _ (List.mem_append_left _ h)
theorem tb_2 {w : Cond} (h : w ∈ tables_1_2) : w ∈ lw_tbl := List.mem_append_right _ (List.mem_append_right _ (List.mem_append_left _ h))
theorem tb_3 {w : Cond} (h : w ∈ tables_1_3) : w ∈ lw_tbl := List.mem_append_right _ (List.mem_append_right _ (List.mem_append_right _ h))
theorem tb_0 {w : Cond} (h : w ∈ k2_sels lw_privs) : w ∈ lw_tbl := List.mem_append_left _ h
theorem big_good : ∀ w ∈ BIG, goodWord w = true := fun _ h => (List.mem_filter.mp h).2
theorem big_gi : GoodIn BIG BIG := fun w h => ⟨h, good_of_word (big_good w h)⟩
theorem big_hts {args : Array Value} {s : State} (h : ∀ w ∈ lw_tbl, w.before args s = true) : ∀ w ∈ BIG, w.before args s = true := fun w hw => h w (List.mem_filter.mp hw).1
def wsC_at : List Cond := .code yC_at cC_at 4 (some .int) :: BIG
def wsC_bytesOfDigits : List Cond := .code yC_bytesOfDigits cC_bytesOfDigits 1 (some .int) :: BIG
def wsC_compose : List Cond := .code yC_compose cC_compose 1 (some .int) :: BIG
def wsC_digitCount : List Cond := .code yC_digitCount cC_digitCount 5 (some .int) :: BIG
def wsC_digitSlot : List Cond := .code yC_digitSlot cC_digitSlot 2 (some .int) :: BIG
def wsC_digits : List Cond := .code yC_digits cC_digits 6 none :: BIG
def wsC_fault : List Cond := .code yC_fault cC_fault 2 (some .int) :: BIG
def wsC_feed : List Cond := .code yC_feed cC_feed 3 (some .int) :: BIG
def wsC_fields : List Cond := .code yC_fields cC_fields 1 (some .int) :: BIG
def wsC_init : List Cond := .code yC_init cC_init 1 none :: BIG
def wsC_knownSlot : List Cond := .code yC_knownSlot cC_knownSlot 2 (some .int) :: BIG
def wsC_letters : List Cond := .code yC_letters cC_letters 7 none :: BIG
def wsC_mapBit : List Cond := .code yC_mapBit cC_mapBit 1 (some .int) :: BIG
def wsC_mapByte : List Cond := .code yC_mapByte cC_mapByte 1 (some .int) :: BIG
def wsC_message : List Cond := .code yC_message cC_message 2 none :: BIG
def wsC_number : List Cond := .code yC_number cC_number 3 (some .long) :: BIG
def wsC_omit : List Cond := .code yC_omit cC_omit 4 (some .boolean) :: BIG
def wsC_original : List Cond := .code yC_original cC_original 4 none :: BIG
def wsC_read : List Cond := .code yC_read cC_read 1 (some .boolean) :: BIG
def wsC_size : List Cond := .code yC_size cC_size 3 (some .int) :: BIG
def wsC_spoil : List Cond := .code yC_spoil cC_spoil 3 (some .int) :: BIG
def wsC_trim : List Cond := .code yC_trim cC_trim 2 (some .int) :: BIG
def wsC_type : List Cond := .code yC_type cC_type 1 (some .int) :: BIG
def wsD_become : List Cond := .code yD_become cD_become 2 none :: BIG
def wsD_fieldCount : List Cond := .code yD_fieldCount cD_fieldCount 3 (some .int) :: BIG
def wsD_has : List Cond := .code yD_has cD_has 2 (some .boolean) :: BIG
def wsD_init : List Cond := .code yD_init cD_init 1 none :: BIG
def wsD_lastDigits : List Cond := .code yD_lastDigits cD_lastDigits 6 (some .long) :: BIG
def wsD_mark : List Cond := .code yD_mark cD_mark 3 (some .int) :: BIG
def wsD_putLetters : List Cond := .code yD_putLetters cD_putLetters 7 none :: BIG
def wsD_putNumber : List Cond := .code yD_putNumber cD_putNumber 5 none :: BIG
def wsD_putOriginal : List Cond := .code yD_putOriginal cD_putOriginal 4 none :: BIG
def wsD_restart : List Cond := .code yD_restart cD_restart 3 none :: BIG
def wsD_setDigits : List Cond := .code yD_setDigits cD_setDigits 9 none :: BIG
def wsD_setMark : List Cond := .code yD_setMark cD_setMark 4 none :: BIG
def wsL_at : List Cond := .codeWith yL_at cL_at 5 (some .int) [(0, 10, 13, 13)] :: BIG
def wsL_digits : List Cond := .codeWith yL_digits cL_digits 5 (some .int) [(0, 6, 9, 13)] :: BIG
def wsL_fault : List Cond := .codeWith yL_fault cL_fault 4 (some .int) [(0, 9, 12, 13)] :: BIG
def wsL_feed : List Cond := .codeWith yL_feed cL_feed 4 (some .int) [(0, 9, 12, 46)] :: BIG
def wsL_letters : List Cond := .codeWith yL_letters cL_letters 6 (some .int) [(0, 8, 11, 13)] :: BIG
def wsL_message : List Cond := .codeWith yL_message cL_message 3 (some .int) [(0, 5, 8, 13)] :: BIG
def wsL_number : List Cond := .codeWith yL_number cL_number 4 (some .int) [(0, 8, 11, 13)] :: BIG
def wsL_omit : List Cond := .codeWith yL_omit cL_omit 4 (some .int) [(0, 16, 19, 13)] :: BIG
def wsL_original : List Cond := .codeWith yL_original cL_original 5 (some .int) [(0, 7, 10, 13)] :: BIG
def wsL_size : List Cond := .codeWith yL_size cL_size 4 (some .int) [(0, 9, 12, 13)] :: BIG
def wsL_spoil : List Cond := .codeWith yL_spoil cL_spoil 5 (some .int) [(0, 10, 13, 13)] :: BIG
def wsL_trim : List Cond := .codeWith yL_trim cL_trim 4 (some .int) [(0, 9, 12, 13)] :: BIG
def wsM_at : List Cond := .code yM_at cM_at 5 (some .int) :: BIG
def wsM_begin : List Cond := .code yM_begin cM_begin 2 none :: BIG
def wsM_clear : List Cond := .code yM_clear cM_clear 2 none :: BIG
def wsM_compose : List Cond := .code yM_compose cM_compose 1 (some .int) :: BIG
def wsM_digits : List Cond := .code yM_digits cM_digits 5 none :: BIG
def wsM_fails : List Cond := .code yM_fails cM_fails 3 none :: BIG
def wsM_fault : List Cond := .code yM_fault cM_fault 2 (some .int) :: BIG
def wsM_feed : List Cond := .code yM_feed cM_feed 3 (some .int) :: BIG
def wsM_fieldOf : List Cond := .code yM_fieldOf cM_fieldOf 4 (some .int) :: BIG
def wsM_fields : List Cond := .code yM_fields cM_fields 3 (some .int) :: BIG
def wsM_fill : List Cond := .code yM_fill cM_fill 4 none :: BIG
def wsM_goes : List Cond := .code yM_goes cM_goes 2 (some .boolean) :: BIG
def wsM_init : List Cond := .code yM_init cM_init 1 none :: BIG
def wsM_isType : List Cond := .code yM_isType cM_isType 2 (some .boolean) :: BIG
def wsM_letters : List Cond := .code yM_letters cM_letters 8 none :: BIG
def wsM_message : List Cond := .code yM_message cM_message 2 none :: BIG
def wsM_number : List Cond := .code yM_number cM_number 6 (some .long) :: BIG
def wsM_omit : List Cond := .code yM_omit cM_omit 4 (some .boolean) :: BIG
def wsM_original : List Cond := .code yM_original cM_original 4 none :: BIG
def wsM_pack : List Cond := .code yM_pack cM_pack 6 none :: BIG
def wsM_read : List Cond := .code yM_read cM_read 3 (some .boolean) :: BIG
def wsM_readTape : List Cond := .code yM_readTape cM_readTape 2 none :: BIG
def wsM_setDigits : List Cond := .code yM_setDigits cM_setDigits 8 none :: BIG
def wsM_setOriginal : List Cond := .code yM_setOriginal cM_setOriginal 6 none :: BIG
def wsM_size : List Cond := .code yM_size cM_size 3 (some .int) :: BIG
def wsM_spoil : List Cond := .code yM_spoil cM_spoil 3 (some .int) :: BIG
def wsM_takeDigits : List Cond := .code yM_takeDigits cM_takeDigits 10 none :: BIG
def wsM_takeField : List Cond := .code yM_takeField cM_takeField 5 none :: BIG
def wsM_takeLetters : List Cond := .code yM_takeLetters cM_takeLetters 7 none :: BIG
def wsM_takeMaps : List Cond := .code yM_takeMaps cM_takeMaps 5 none :: BIG
def wsM_thrown : List Cond := .code yM_thrown cM_thrown 1 (some .int) :: BIG
def wsM_trim : List Cond := .code yM_trim cM_trim 2 (some .int) :: BIG
def wsM_type : List Cond := .code yM_type cM_type 1 (some .int) :: BIG
def wsM_width : List Cond := .code yM_width cM_width 5 (some .int) :: BIG
def wsM_write : List Cond := .code yM_write cM_write 8 none :: BIG
def wsM_writeField : List Cond := .code yM_writeField cM_writeField 7 none :: BIG
def wsR_areDigits : List Cond := .code yR_areDigits cR_areDigits 4 (some .boolean) :: BIG
def wsR_digitAhead : List Cond := .code yR_digitAhead cR_digitAhead 3 (some .int) :: BIG
def wsR_fail : List Cond := .code yR_fail cR_fail 3 (some .boolean) :: BIG
def wsR_halfAhead : List Cond := .code yR_halfAhead cR_halfAhead 3 (some .int) :: BIG
def wsR_hasBit : List Cond := .code yR_hasBit cR_hasBit 3 (some .boolean) :: BIG
def wsR_init : List Cond := .code yR_init cR_init 2 none :: BIG
def wsR_isLetter : List Cond := .code yR_isLetter cR_isLetter 1 (some .boolean) :: BIG
def wsR_reaches : List Cond := .code yR_reaches cR_reaches 2 (some .boolean) :: BIG
def wsR_walk : List Cond := .code yR_walk cR_walk 5 (some .boolean) :: BIG
def wsR_walkDigits : List Cond := .code yR_walkDigits cR_walkDigits 4 (some .boolean) :: BIG
def wsR_walkField : List Cond := .code yR_walkField cR_walkField 4 (some .boolean) :: BIG
def wsR_walkLetters : List Cond := .code yR_walkLetters cR_walkLetters 5 (some .boolean) :: BIG
def wsR_walkMaps : List Cond := .code yR_walkMaps cR_walkMaps 4 (some .boolean) :: BIG
def wsR_walkNumber : List Cond := .code yR_walkNumber cR_walkNumber 3 (some .boolean) :: BIG
def wsR_walkType : List Cond := .code yR_walkType cR_walkType 2 (some .boolean) :: BIG
def wsT_append : List Cond := .code yT_append cT_append 2 none :: BIG
def wsT_appendDigits : List Cond := .code yT_appendDigits cT_appendDigits 6 none :: BIG
def wsT_appendField : List Cond := .code yT_appendField cT_appendField 4 none :: BIG
def wsT_appendLetters : List Cond := .code yT_appendLetters cT_appendLetters 5 none :: BIG
def wsT_appendMaps : List Cond := .code yT_appendMaps cT_appendMaps 5 none :: BIG
def wsT_appendNumber : List Cond := .code yT_appendNumber cT_appendNumber 3 none :: BIG
def wsT_appendPair : List Cond := .code yT_appendPair cT_appendPair 3 none :: BIG
def wsT_byteAt : List Cond := .code yT_byteAt cT_byteAt 2 (some .int) :: BIG
def wsT_flip : List Cond := .code yT_flip cT_flip 3 none :: BIG
def wsT_hasFieldOfSecondMap : List Cond := .code yT_hasFieldOfSecondMap cT_hasFieldOfSecondMap 2 (some .boolean) :: BIG
def wsT_init : List Cond := .code yT_init cT_init 1 none :: BIG
def wsT_write : List Cond := .code yT_write cT_write 3 none :: BIG
theorem w_in_L : (.initialized RL : Cond) ∈ BIG := mB (tb_1 (List.mem_of_getElem? (i := 0) rfl)) (by decide +kernel)
theorem w_in_C : (.initialized RC : Cond) ∈ BIG := mB (tb_1 (List.mem_of_getElem? (i := 1) rfl)) (by decide +kernel)
theorem w_in_D : (.initialized RD : Cond) ∈ BIG := mB (tb_1 (List.mem_of_getElem? (i := 2) rfl)) (by decide +kernel)
theorem w_in_T : (.initialized RT : Cond) ∈ BIG := mB (tb_1 (List.mem_of_getElem? (i := 3) rfl)) (by decide +kernel)
theorem w_in_R : (.initialized RR : Cond) ∈ BIG := mB (tb_1 (List.mem_of_getElem? (i := 4) rfl)) (by decide +kernel)
theorem w_in_M : (.initialized RM : Cond) ∈ BIG := mB (tb_1 (List.mem_of_getElem? (i := 5) rfl)) (by decide +kernel)
theorem w_in_Throwable : (.initialized "java/lang/Throwable" : Cond) ∈ BIG := mB (tb_1 (List.mem_of_getElem? (i := 6) rfl)) (by decide +kernel)
theorem w_in_Exception : (.initialized "java/lang/Exception" : Cond) ∈ BIG := mB (tb_1 (List.mem_of_getElem? (i := 7) rfl)) (by decide +kernel)
theorem w_in_RuntimeException : (.initialized "java/lang/RuntimeException" : Cond) ∈ BIG := mB (tb_1 (List.mem_of_getElem? (i := 8) rfl)) (by decide +kernel)
theorem w_in_IllegalArgumentException : (.initialized "java/lang/IllegalArgumentException" : Cond) ∈ BIG := mB (tb_1 (List.mem_of_getElem? (i := 9) rfl)) (by decide +kernel)
theorem w_in_Math : (.initialized "java/lang/Math" : Cond) ∈ BIG := mB (tb_1 (List.mem_of_getElem? (i := 10) rfl)) (by decide +kernel)
theorem w_in_IllegalStateException : (.initialized "java/lang/IllegalStateException" : Cond) ∈ BIG := mB (tb_1 (List.mem_of_getElem? (i := 11) rfl)) (by decide +kernel)
theorem w_in_System : (.initialized "java/lang/System" : Cond) ∈ BIG := mB (tb_1 (List.mem_of_getElem? (i := 12) rfl)) (by decide +kernel)
theorem w_cl_L_8 : (.classLink RL 8 RC : Cond) ∈ BIG := mB (tb_1 (List.mem_of_getElem? (i := 13) rfl)) (by decide +kernel)
theorem w_is_C : (.instantiable RC 3 : Cond) ∈ BIG := mB (tb_1 (List.mem_of_getElem? (i := 14) rfl)) (by decide +kernel)
theorem w_ml_L_57 : (.methodLink RL 57 yC_init : Cond) ∈ BIG := mB (tb_1 (List.mem_of_getElem? (i := 15) rfl)) (by decide +kernel)
theorem w_im_C_init : (.instanceMethod yC_init : Cond) ∈ BIG := mB (tb_1 (List.mem_of_getElem? (i := 16) rfl)) (by decide +kernel)
theorem w_ml_C_1 : (.methodLink RC 1 objectInit : Cond) ∈ BIG := mB (tb_1 (List.mem_of_getElem? (i := 18) rfl)) (by decide +kernel)
theorem w_im_object : (.instanceMethod objectInit : Cond) ∈ BIG := mB (tb_1 (List.mem_of_getElem? (i := 19) rfl)) (by decide +kernel)
theorem w_cl_C_7 : (.classLink RC 7 RD : Cond) ∈ BIG := mB (tb_1 (List.mem_of_getElem? (i := 21) rfl)) (by decide +kernel)
theorem w_is_D : (.instantiable RD 3 : Cond) ∈ BIG := mB (tb_1 (List.mem_of_getElem? (i := 22) rfl)) (by decide +kernel)
theorem w_im_D_init : (.instanceMethod yD_init : Cond) ∈ BIG := mB (tb_1 (List.mem_of_getElem? (i := 24) rfl)) (by decide +kernel)
theorem w_ml_D_3 : (.methodLink RD 3 objectInit : Cond) ∈ BIG := mB (tb_1 (List.mem_of_getElem? (i := 26) rfl)) (by decide +kernel)
theorem w_fl_D_9 : (.fieldLink RD 9 "CardMessages$Draft" "messageType" "I" : Cond) ∈ BIG := mB (tb_1 (List.mem_of_getElem? (i := 27) rfl)) (by decide +kernel)
theorem w_fl_T_19 : (.fieldLink RT 19 "CardMessages$Draft" "messageType" "I" : Cond) ∈ BIG := mB (tb_1 (List.mem_of_getElem? (i := 28) rfl)) (by decide +kernel)
theorem w_fl_C_92 : (.fieldLink RC 92 "CardMessages$Draft" "messageType" "I" : Cond) ∈ BIG := mB (tb_1 (List.mem_of_getElem? (i := 29) rfl)) (by decide +kernel)
theorem w_fl_D_15 : (.fieldLink RD 15 "CardMessages$Draft" "counts" "[I" : Cond) ∈ BIG := mB (tb_1 (List.mem_of_getElem? (i := 30) rfl)) (by decide +kernel)
theorem w_fl_C_89 : (.fieldLink RC 89 "CardMessages$Draft" "counts" "[I" : Cond) ∈ BIG := mB (tb_1 (List.mem_of_getElem? (i := 31) rfl)) (by decide +kernel)
theorem w_fl_T_62 : (.fieldLink RT 62 "CardMessages$Draft" "counts" "[I" : Cond) ∈ BIG := mB (tb_1 (List.mem_of_getElem? (i := 32) rfl)) (by decide +kernel)
theorem w_fl_R_117 : (.fieldLink RR 117 "CardMessages$Draft" "counts" "[I" : Cond) ∈ BIG := mB (tb_1 (List.mem_of_getElem? (i := 33) rfl)) (by decide +kernel)
theorem w_fl_D_19 : (.fieldLink RD 19 "CardMessages$Draft" "marks" "[B" : Cond) ∈ BIG := mB (tb_1 (List.mem_of_getElem? (i := 34) rfl)) (by decide +kernel)
theorem w_ac_int : (.arrayClass .int : Cond) ∈ BIG := mB (tb_1 (List.mem_of_getElem? (i := 42) rfl)) (by decide +kernel)
theorem w_ac_byte : (.arrayClass .byte : Cond) ∈ BIG := mB (tb_1 (List.mem_of_getElem? (i := 43) rfl)) (by decide +kernel)
theorem w_cl_C_16 : (.classLink RC 16 RT : Cond) ∈ BIG := mB (tb_1 (List.mem_of_getElem? (i := 44) rfl)) (by decide +kernel)
theorem w_is_T : (.instantiable RT 2 : Cond) ∈ BIG := mB (tb_1 (List.mem_of_getElem? (i := 45) rfl)) (by decide +kernel)
theorem w_im_T_init : (.instanceMethod yT_init : Cond) ∈ BIG := mB (tb_1 (List.mem_of_getElem? (i := 47) rfl)) (by decide +kernel)
theorem w_ml_T_3 : (.methodLink RT 3 objectInit : Cond) ∈ BIG := mB (tb_1 (List.mem_of_getElem? (i := 49) rfl)) (by decide +kernel)
theorem w_fl_T_9 : (.fieldLink RT 9 "CardMessages$Tape" "bytes" "[B" : Cond) ∈ BIG := mB (tb_1 (List.mem_of_getElem? (i := 50) rfl)) (by decide +kernel)
theorem w_fl_T_15 : (.fieldLink RT 15 "CardMessages$Tape" "length" "I" : Cond) ∈ BIG := mB (tb_1 (List.mem_of_getElem? (i := 51) rfl)) (by decide +kernel)
theorem w_fl_R_62 : (.fieldLink RR 62 "CardMessages$Tape" "length" "I" : Cond) ∈ BIG := mB (tb_1 (List.mem_of_getElem? (i := 52) rfl)) (by decide +kernel)
theorem w_fl_C_116 : (.fieldLink RC 116 "CardMessages$Tape" "length" "I" : Cond) ∈ BIG := mB (tb_1 (List.mem_of_getElem? (i := 53) rfl)) (by decide +kernel)
theorem w_cl_C_23 : (.classLink RC 23 RR : Cond) ∈ BIG := mB (tb_1 (List.mem_of_getElem? (i := 59) rfl)) (by decide +kernel)
theorem w_is_R : (.instantiable RR 6 : Cond) ∈ BIG := mB (tb_1 (List.mem_of_getElem? (i := 60) rfl)) (by decide +kernel)
theorem w_ml_C_25 : (.methodLink RC 25 yR_init : Cond) ∈ BIG := mB (tb_1 (List.mem_of_getElem? (i := 61) rfl)) (by decide +kernel)
theorem w_im_R_init : (.instanceMethod yR_init : Cond) ∈ BIG := mB (tb_1 (List.mem_of_getElem? (i := 62) rfl)) (by decide +kernel)
theorem w_ml_R_3 : (.methodLink RR 3 objectInit : Cond) ∈ BIG := mB (tb_1 (List.mem_of_getElem? (i := 64) rfl)) (by decide +kernel)
theorem w_cl_R_9 : (.classLink RR 9 RD : Cond) ∈ BIG := mB (tb_1 (List.mem_of_getElem? (i := 65) rfl)) (by decide +kernel)
theorem w_fl_R_12 : (.fieldLink RR 12 "CardMessages$Reader" "found" "LCardMessages$Draft;" : Cond) ∈ BIG := mB (tb_1 (List.mem_of_getElem? (i := 67) rfl)) (by decide +kernel)
theorem w_fl_C_150 : (.fieldLink RC 150 "CardMessages$Reader" "found" "LCardMessages$Draft;" : Cond) ∈ BIG := mB (tb_1 (List.mem_of_getElem? (i := 68) rfl)) (by decide +kernel)
theorem w_fl_R_18 : (.fieldLink RR 18 "CardMessages$Reader" "faultKind" "I" : Cond) ∈ BIG := mB (tb_1 (List.mem_of_getElem? (i := 69) rfl)) (by decide +kernel)
theorem w_fl_C_144 : (.fieldLink RC 144 "CardMessages$Reader" "faultKind" "I" : Cond) ∈ BIG := mB (tb_1 (List.mem_of_getElem? (i := 70) rfl)) (by decide +kernel)
theorem w_fl_R_22 : (.fieldLink RR 22 "CardMessages$Reader" "faultPlace" "I" : Cond) ∈ BIG := mB (tb_1 (List.mem_of_getElem? (i := 71) rfl)) (by decide +kernel)
theorem w_fl_C_147 : (.fieldLink RC 147 "CardMessages$Reader" "faultPlace" "I" : Cond) ∈ BIG := mB (tb_1 (List.mem_of_getElem? (i := 72) rfl)) (by decide +kernel)
theorem w_fl_R_31 : (.fieldLink RR 31 "CardMessages$Reader" "tape" "LCardMessages$Tape;" : Cond) ∈ BIG := mB (tb_1 (List.mem_of_getElem? (i := 73) rfl)) (by decide +kernel)
theorem w_fl_R_25 : (.fieldLink RR 25 "CardMessages$Reader" "next" "I" : Cond) ∈ BIG := mB (tb_1 (List.mem_of_getElem? (i := 74) rfl)) (by decide +kernel)
theorem w_fl_R_28 : (.fieldLink RR 28 "CardMessages$Reader" "lastNumber" "I" : Cond) ∈ BIG := mB (tb_1 (List.mem_of_getElem? (i := 75) rfl)) (by decide +kernel)
theorem w_fl_C_10 : (.fieldLink RC 10 "CardMessages" "draft" "LCardMessages$Draft;" : Cond) ∈ BIG := mB (tb_1 (List.mem_of_getElem? (i := 89) rfl)) (by decide +kernel)
theorem w_fl_C_19 : (.fieldLink RC 19 "CardMessages" "tape" "LCardMessages$Tape;" : Cond) ∈ BIG := mB (tb_1 (List.mem_of_getElem? (i := 90) rfl)) (by decide +kernel)
theorem w_fl_C_28 : (.fieldLink RC 28 "CardMessages" "reader" "LCardMessages$Reader;" : Cond) ∈ BIG := mB (tb_1 (List.mem_of_getElem? (i := 91) rfl)) (by decide +kernel)
theorem w_ml_L_89 : (.methodLink RL 89 yC_type : Cond) ∈ BIG := mB (tb_1 (List.mem_of_getElem? (i := 99) rfl)) (by decide +kernel)
theorem w_im_C_type : (.instanceMethod yC_type : Cond) ∈ BIG := mB (tb_1 (List.mem_of_getElem? (i := 100) rfl)) (by decide +kernel)
theorem w_se_C_type : (.selects RC yC_type yC_type : Cond) ∈ BIG := mB (tb_1 (List.mem_of_getElem? (i := 101) rfl)) (by decide +kernel)
theorem w_ml_L_103 : (.methodLink RL 103 yC_fields : Cond) ∈ BIG := mB (tb_1 (List.mem_of_getElem? (i := 103) rfl)) (by decide +kernel)
theorem w_im_C_fields : (.instanceMethod yC_fields : Cond) ∈ BIG := mB (tb_1 (List.mem_of_getElem? (i := 104) rfl)) (by decide +kernel)
theorem w_se_C_fields : (.selects RC yC_fields yC_fields : Cond) ∈ BIG := mB (tb_1 (List.mem_of_getElem? (i := 105) rfl)) (by decide +kernel)
theorem w_ml_C_108 : (.methodLink RC 108 yD_fieldCount : Cond) ∈ BIG := mB (tb_1 (List.mem_of_getElem? (i := 107) rfl)) (by decide +kernel)
theorem w_im_D_fieldCount : (.instanceMethod yD_fieldCount : Cond) ∈ BIG := mB (tb_1 (List.mem_of_getElem? (i := 108) rfl)) (by decide +kernel)
theorem w_se_D_fieldCount : (.selects RD yD_fieldCount yD_fieldCount : Cond) ∈ BIG := mB (tb_1 (List.mem_of_getElem? (i := 109) rfl)) (by decide +kernel)
theorem w_ml_D_29 : (.methodLink RD 29 yD_has : Cond) ∈ BIG := mB (tb_1 (List.mem_of_getElem? (i := 111) rfl)) (by decide +kernel)
theorem w_im_D_has : (.instanceMethod yD_has : Cond) ∈ BIG := mB (tb_1 (List.mem_of_getElem? (i := 112) rfl)) (by decide +kernel)
theorem w_se_D_has : (.selects RD yD_has yD_has : Cond) ∈ BIG := mB (tb_1 (List.mem_of_getElem? (i := 113) rfl)) (by decide +kernel)
theorem w_ml_L_107 : (.methodLink RL 107 yC_compose : Cond) ∈ BIG := mB (tb_1 (List.mem_of_getElem? (i := 115) rfl)) (by decide +kernel)
theorem w_im_C_compose : (.instanceMethod yC_compose : Cond) ∈ BIG := mB (tb_1 (List.mem_of_getElem? (i := 116) rfl)) (by decide +kernel)
theorem w_se_C_compose : (.selects RC yC_compose yC_compose : Cond) ∈ BIG := mB (tb_1 (List.mem_of_getElem? (i := 117) rfl)) (by decide +kernel)
theorem w_ml_C_112 : (.methodLink RC 112 yT_write : Cond) ∈ BIG := mB (tb_1 (List.mem_of_getElem? (i := 119) rfl)) (by decide +kernel)
theorem w_im_T_write : (.instanceMethod yT_write : Cond) ∈ BIG := mB (tb_1 (List.mem_of_getElem? (i := 120) rfl)) (by decide +kernel)
theorem w_se_T_write : (.selects RT yT_write yT_write : Cond) ∈ BIG := mB (tb_1 (List.mem_of_getElem? (i := 121) rfl)) (by decide +kernel)
theorem w_ml_T_24 : (.methodLink RT 24 yT_appendNumber : Cond) ∈ BIG := mB (tb_1 (List.mem_of_getElem? (i := 123) rfl)) (by decide +kernel)
theorem w_im_T_appendNumber : (.instanceMethod yT_appendNumber : Cond) ∈ BIG := mB (tb_1 (List.mem_of_getElem? (i := 125) rfl)) (by decide +kernel)
theorem w_st_C_bytesOfDigits : (.static yC_bytesOfDigits : Cond) ∈ BIG := mB (tb_1 (List.mem_of_getElem? (i := 128) rfl)) (by decide +kernel)
theorem w_ml_T_81 : (.methodLink RT 81 yT_appendPair : Cond) ∈ BIG := mB (tb_1 (List.mem_of_getElem? (i := 130) rfl)) (by decide +kernel)
theorem w_im_T_appendPair : (.instanceMethod yT_appendPair : Cond) ∈ BIG := mB (tb_1 (List.mem_of_getElem? (i := 132) rfl)) (by decide +kernel)
theorem w_ml_T_44 : (.methodLink RT 44 yT_append : Cond) ∈ BIG := mB (tb_1 (List.mem_of_getElem? (i := 134) rfl)) (by decide +kernel)
theorem w_im_T_append : (.instanceMethod yT_append : Cond) ∈ BIG := mB (tb_1 (List.mem_of_getElem? (i := 135) rfl)) (by decide +kernel)
theorem w_se_T_append : (.selects RT yT_append yT_append : Cond) ∈ BIG := mB (tb_1 (List.mem_of_getElem? (i := 136) rfl)) (by decide +kernel)
theorem w_ml_T_28 : (.methodLink RT 28 yT_appendMaps : Cond) ∈ BIG := mB (tb_1 (List.mem_of_getElem? (i := 138) rfl)) (by decide +kernel)
theorem w_im_T_appendMaps : (.instanceMethod yT_appendMaps : Cond) ∈ BIG := mB (tb_1 (List.mem_of_getElem? (i := 140) rfl)) (by decide +kernel)
theorem w_ml_T_40 : (.methodLink RT 40 yT_hasFieldOfSecondMap : Cond) ∈ BIG := mB (tb_1 (List.mem_of_getElem? (i := 142) rfl)) (by decide +kernel)
theorem w_st_T_hasFieldOfSecondMap : (.static yT_hasFieldOfSecondMap : Cond) ∈ BIG := mB (tb_1 (List.mem_of_getElem? (i := 143) rfl)) (by decide +kernel)
theorem w_ml_T_32 : (.methodLink RT 32 yD_has : Cond) ∈ BIG := mB (tb_1 (List.mem_of_getElem? (i := 147) rfl)) (by decide +kernel)
theorem w_ml_T_48 : (.methodLink RT 48 yT_flip : Cond) ∈ BIG := mB (tb_1 (List.mem_of_getElem? (i := 148) rfl)) (by decide +kernel)
theorem w_im_T_flip : (.instanceMethod yT_flip : Cond) ∈ BIG := mB (tb_1 (List.mem_of_getElem? (i := 149) rfl)) (by decide +kernel)
theorem w_se_T_flip : (.selects RT yT_flip yT_flip : Cond) ∈ BIG := mB (tb_1 (List.mem_of_getElem? (i := 150) rfl)) (by decide +kernel)
theorem w_st_C_mapByte : (.static yC_mapByte : Cond) ∈ BIG := mB (tb_1 (List.mem_of_getElem? (i := 153) rfl)) (by decide +kernel)
theorem w_st_C_mapBit : (.static yC_mapBit : Cond) ∈ BIG := mB (tb_1 (List.mem_of_getElem? (i := 156) rfl)) (by decide +kernel)
theorem w_ml_T_36 : (.methodLink RT 36 yT_appendField : Cond) ∈ BIG := mB (tb_1 (List.mem_of_getElem? (i := 158) rfl)) (by decide +kernel)
theorem w_im_T_appendField : (.instanceMethod yT_appendField : Cond) ∈ BIG := mB (tb_1 (List.mem_of_getElem? (i := 160) rfl)) (by decide +kernel)
theorem w_ml_T_71 : (.methodLink RT 71 yT_appendLetters : Cond) ∈ BIG := mB (tb_1 (List.mem_of_getElem? (i := 166) rfl)) (by decide +kernel)
theorem w_im_T_appendLetters : (.instanceMethod yT_appendLetters : Cond) ∈ BIG := mB (tb_1 (List.mem_of_getElem? (i := 168) rfl)) (by decide +kernel)
theorem w_ml_T_84 : (.methodLink RT 84 yD_mark : Cond) ∈ BIG := mB (tb_1 (List.mem_of_getElem? (i := 170) rfl)) (by decide +kernel)
theorem w_im_D_mark : (.instanceMethod yD_mark : Cond) ∈ BIG := mB (tb_1 (List.mem_of_getElem? (i := 171) rfl)) (by decide +kernel)
theorem w_se_D_mark : (.selects RD yD_mark yD_mark : Cond) ∈ BIG := mB (tb_1 (List.mem_of_getElem? (i := 172) rfl)) (by decide +kernel)
theorem w_ml_T_75 : (.methodLink RT 75 yT_appendDigits : Cond) ∈ BIG := mB (tb_1 (List.mem_of_getElem? (i := 176) rfl)) (by decide +kernel)
theorem w_im_T_appendDigits : (.instanceMethod yT_appendDigits : Cond) ∈ BIG := mB (tb_1 (List.mem_of_getElem? (i := 178) rfl)) (by decide +kernel)
theorem w_ml_L_123 : (.methodLink RL 123 yC_read : Cond) ∈ BIG := mB (tb_1 (List.mem_of_getElem? (i := 180) rfl)) (by decide +kernel)
theorem w_im_C_read : (.instanceMethod yC_read : Cond) ∈ BIG := mB (tb_1 (List.mem_of_getElem? (i := 181) rfl)) (by decide +kernel)
theorem w_se_C_read : (.selects RC yC_read yC_read : Cond) ∈ BIG := mB (tb_1 (List.mem_of_getElem? (i := 182) rfl)) (by decide +kernel)
theorem w_ml_C_140 : (.methodLink RC 140 yR_walk : Cond) ∈ BIG := mB (tb_1 (List.mem_of_getElem? (i := 184) rfl)) (by decide +kernel)
theorem w_im_R_walk : (.instanceMethod yR_walk : Cond) ∈ BIG := mB (tb_1 (List.mem_of_getElem? (i := 185) rfl)) (by decide +kernel)
theorem w_se_R_walk : (.selects RR yR_walk yR_walk : Cond) ∈ BIG := mB (tb_1 (List.mem_of_getElem? (i := 186) rfl)) (by decide +kernel)
theorem w_ml_R_35 : (.methodLink RR 35 yR_walkType : Cond) ∈ BIG := mB (tb_1 (List.mem_of_getElem? (i := 188) rfl)) (by decide +kernel)
theorem w_im_R_walkType : (.instanceMethod yR_walkType : Cond) ∈ BIG := mB (tb_1 (List.mem_of_getElem? (i := 190) rfl)) (by decide +kernel)
theorem w_ml_R_69 : (.methodLink RR 69 yR_walkNumber : Cond) ∈ BIG := mB (tb_1 (List.mem_of_getElem? (i := 192) rfl)) (by decide +kernel)
theorem w_im_R_walkNumber : (.instanceMethod yR_walkNumber : Cond) ∈ BIG := mB (tb_1 (List.mem_of_getElem? (i := 194) rfl)) (by decide +kernel)
theorem w_ml_R_103 : (.methodLink RR 103 yR_areDigits : Cond) ∈ BIG := mB (tb_1 (List.mem_of_getElem? (i := 196) rfl)) (by decide +kernel)
theorem w_im_R_areDigits : (.instanceMethod yR_areDigits : Cond) ∈ BIG := mB (tb_1 (List.mem_of_getElem? (i := 198) rfl)) (by decide +kernel)
theorem w_ml_R_79 : (.methodLink RR 79 yR_reaches : Cond) ∈ BIG := mB (tb_1 (List.mem_of_getElem? (i := 201) rfl)) (by decide +kernel)
theorem w_im_R_reaches : (.instanceMethod yR_reaches : Cond) ∈ BIG := mB (tb_1 (List.mem_of_getElem? (i := 203) rfl)) (by decide +kernel)
theorem w_ml_R_65 : (.methodLink RR 65 yR_fail : Cond) ∈ BIG := mB (tb_1 (List.mem_of_getElem? (i := 205) rfl)) (by decide +kernel)
theorem w_im_R_fail : (.instanceMethod yR_fail : Cond) ∈ BIG := mB (tb_1 (List.mem_of_getElem? (i := 207) rfl)) (by decide +kernel)
theorem w_ml_R_123 : (.methodLink RR 123 yR_halfAhead : Cond) ∈ BIG := mB (tb_1 (List.mem_of_getElem? (i := 209) rfl)) (by decide +kernel)
theorem w_im_R_halfAhead : (.instanceMethod yR_halfAhead : Cond) ∈ BIG := mB (tb_1 (List.mem_of_getElem? (i := 211) rfl)) (by decide +kernel)
theorem w_ml_R_50 : (.methodLink RR 50 yT_byteAt : Cond) ∈ BIG := mB (tb_1 (List.mem_of_getElem? (i := 213) rfl)) (by decide +kernel)
theorem w_im_T_byteAt : (.instanceMethod yT_byteAt : Cond) ∈ BIG := mB (tb_1 (List.mem_of_getElem? (i := 214) rfl)) (by decide +kernel)
theorem w_se_T_byteAt : (.selects RT yT_byteAt yT_byteAt : Cond) ∈ BIG := mB (tb_1 (List.mem_of_getElem? (i := 215) rfl)) (by decide +kernel)
theorem w_ml_R_106 : (.methodLink RR 106 yR_digitAhead : Cond) ∈ BIG := mB (tb_1 (List.mem_of_getElem? (i := 217) rfl)) (by decide +kernel)
theorem w_im_R_digitAhead : (.instanceMethod yR_digitAhead : Cond) ∈ BIG := mB (tb_1 (List.mem_of_getElem? (i := 219) rfl)) (by decide +kernel)
theorem w_ml_R_75 : (.methodLink RR 75 yD_restart : Cond) ∈ BIG := mB (tb_1 (List.mem_of_getElem? (i := 223) rfl)) (by decide +kernel)
theorem w_im_D_restart : (.instanceMethod yD_restart : Cond) ∈ BIG := mB (tb_1 (List.mem_of_getElem? (i := 224) rfl)) (by decide +kernel)
theorem w_se_D_restart : (.selects RD yD_restart yD_restart : Cond) ∈ BIG := mB (tb_1 (List.mem_of_getElem? (i := 225) rfl)) (by decide +kernel)
theorem w_ml_R_39 : (.methodLink RR 39 yR_walkMaps : Cond) ∈ BIG := mB (tb_1 (List.mem_of_getElem? (i := 227) rfl)) (by decide +kernel)
theorem w_im_R_walkMaps : (.instanceMethod yR_walkMaps : Cond) ∈ BIG := mB (tb_1 (List.mem_of_getElem? (i := 229) rfl)) (by decide +kernel)
theorem w_ml_R_85 : (.methodLink RR 85 yR_hasBit : Cond) ∈ BIG := mB (tb_1 (List.mem_of_getElem? (i := 233) rfl)) (by decide +kernel)
theorem w_im_R_hasBit : (.instanceMethod yR_hasBit : Cond) ∈ BIG := mB (tb_1 (List.mem_of_getElem? (i := 235) rfl)) (by decide +kernel)
theorem w_ml_R_58 : (.methodLink RR 58 yR_walkField : Cond) ∈ BIG := mB (tb_2 (List.mem_of_getElem? (i := 0) rfl)) (by decide +kernel)
theorem w_im_R_walkField : (.instanceMethod yR_walkField : Cond) ∈ BIG := mB (tb_2 (List.mem_of_getElem? (i := 2) rfl)) (by decide +kernel)
theorem w_ml_R_97 : (.methodLink RR 97 yR_walkLetters : Cond) ∈ BIG := mB (tb_2 (List.mem_of_getElem? (i := 8) rfl)) (by decide +kernel)
theorem w_im_R_walkLetters : (.instanceMethod yR_walkLetters : Cond) ∈ BIG := mB (tb_2 (List.mem_of_getElem? (i := 10) rfl)) (by decide +kernel)
theorem w_ml_R_120 : (.methodLink RR 120 yR_isLetter : Cond) ∈ BIG := mB (tb_2 (List.mem_of_getElem? (i := 12) rfl)) (by decide +kernel)
theorem w_st_R_isLetter : (.static yR_isLetter : Cond) ∈ BIG := mB (tb_2 (List.mem_of_getElem? (i := 13) rfl)) (by decide +kernel)
theorem w_ml_R_113 : (.methodLink RR 113 yD_setMark : Cond) ∈ BIG := mB (tb_2 (List.mem_of_getElem? (i := 15) rfl)) (by decide +kernel)
theorem w_im_D_setMark : (.instanceMethod yD_setMark : Cond) ∈ BIG := mB (tb_2 (List.mem_of_getElem? (i := 16) rfl)) (by decide +kernel)
theorem w_se_D_setMark : (.selects RD yD_setMark yD_setMark : Cond) ∈ BIG := mB (tb_2 (List.mem_of_getElem? (i := 17) rfl)) (by decide +kernel)
theorem w_ml_R_100 : (.methodLink RR 100 yR_walkDigits : Cond) ∈ BIG := mB (tb_2 (List.mem_of_getElem? (i := 19) rfl)) (by decide +kernel)
theorem w_im_R_walkDigits : (.instanceMethod yR_walkDigits : Cond) ∈ BIG := mB (tb_2 (List.mem_of_getElem? (i := 21) rfl)) (by decide +kernel)
theorem w_ml_C_153 : (.methodLink RC 153 yD_become : Cond) ∈ BIG := mB (tb_2 (List.mem_of_getElem? (i := 23) rfl)) (by decide +kernel)
theorem w_im_D_become : (.instanceMethod yD_become : Cond) ∈ BIG := mB (tb_2 (List.mem_of_getElem? (i := 24) rfl)) (by decide +kernel)
theorem w_se_D_become : (.selects RD yD_become yD_become : Cond) ∈ BIG := mB (tb_2 (List.mem_of_getElem? (i := 25) rfl)) (by decide +kernel)
theorem w_ml_D_23 : (.methodLink RD 23 arraycopyName : Cond) ∈ BIG := mB (tb_2 (List.mem_of_getElem? (i := 27) rfl)) (by decide +kernel)
theorem w_st_copy : (.static arraycopyName : Cond) ∈ BIG := mB (tb_2 (List.mem_of_getElem? (i := 28) rfl)) (by decide +kernel)
theorem w_na_copy : (.native arraycopyName : Cond) ∈ BIG := mB (tb_2 (List.mem_of_getElem? (i := 29) rfl)) (by decide +kernel)
theorem w_ml_L_61 : (.methodLink RL 61 yL_message : Cond) ∈ BIG := mB (tb_2 (List.mem_of_getElem? (i := 30) rfl)) (by decide +kernel)
theorem w_st_L_message : (.static yL_message : Cond) ∈ BIG := mB (tb_2 (List.mem_of_getElem? (i := 31) rfl)) (by decide +kernel)
theorem w_cl_L_13 : (.classLink RL 13 "java/lang/IllegalArgumentException" : Cond) ∈ BIG := mB (tb_2 (List.mem_of_getElem? (i := 33) rfl)) (by decide +kernel)
theorem w_ml_L_7 : (.methodLink RL 7 yC_message : Cond) ∈ BIG := mB (tb_2 (List.mem_of_getElem? (i := 34) rfl)) (by decide +kernel)
theorem w_im_C_message : (.instanceMethod yC_message : Cond) ∈ BIG := mB (tb_2 (List.mem_of_getElem? (i := 35) rfl)) (by decide +kernel)
theorem w_se_C_message : (.selects RC yC_message yC_message : Cond) ∈ BIG := mB (tb_2 (List.mem_of_getElem? (i := 36) rfl)) (by decide +kernel)
theorem w_cl_C_32 : (.classLink RC 32 "java/lang/IllegalArgumentException" : Cond) ∈ BIG := mB (tb_2 (List.mem_of_getElem? (i := 38) rfl)) (by decide +kernel)
theorem w_ml_C_36 : (.methodLink RC 36 ⟨"java/lang/IllegalArgumentException", "<init>", "(Ljava/lang/String;)V"⟩ : Cond) ∈ BIG := mB (tb_2 (List.mem_of_getElem? (i := 79) rfl)) (by decide +kernel)
theorem w_ml_C_39 : (.methodLink RC 39 yD_restart : Cond) ∈ BIG := mB (tb_2 (List.mem_of_getElem? (i := 104) rfl)) (by decide +kernel)
theorem w_ml_L_73 : (.methodLink RL 73 yL_digits : Cond) ∈ BIG := mB (tb_2 (List.mem_of_getElem? (i := 105) rfl)) (by decide +kernel)
theorem w_st_L_digits : (.static yL_digits : Cond) ∈ BIG := mB (tb_2 (List.mem_of_getElem? (i := 106) rfl)) (by decide +kernel)
theorem w_ml_L_15 : (.methodLink RL 15 yC_digits : Cond) ∈ BIG := mB (tb_2 (List.mem_of_getElem? (i := 108) rfl)) (by decide +kernel)
theorem w_im_C_digits : (.instanceMethod yC_digits : Cond) ∈ BIG := mB (tb_2 (List.mem_of_getElem? (i := 109) rfl)) (by decide +kernel)
theorem w_se_C_digits : (.selects RC yC_digits yC_digits : Cond) ∈ BIG := mB (tb_2 (List.mem_of_getElem? (i := 110) rfl)) (by decide +kernel)
theorem w_ml_C_43 : (.methodLink RC 43 yC_digitSlot : Cond) ∈ BIG := mB (tb_2 (List.mem_of_getElem? (i := 112) rfl)) (by decide +kernel)
theorem w_st_C_digitSlot : (.static yC_digitSlot : Cond) ∈ BIG := mB (tb_2 (List.mem_of_getElem? (i := 113) rfl)) (by decide +kernel)
theorem w_ml_C_64 : (.methodLink RC 64 yC_knownSlot : Cond) ∈ BIG := mB (tb_2 (List.mem_of_getElem? (i := 115) rfl)) (by decide +kernel)
theorem w_st_C_knownSlot : (.static yC_knownSlot : Cond) ∈ BIG := mB (tb_2 (List.mem_of_getElem? (i := 116) rfl)) (by decide +kernel)
theorem w_fl_C_156 : (.fieldLink RC 156 "CardMessages" "FIELDS" "[I" : Cond) ∈ BIG := mB (tb_2 (List.mem_of_getElem? (i := 118) rfl)) (by decide +kernel)
theorem w_fl_C_67 : (.fieldLink RC 67 "CardMessages" "HAS_LETTERS" "[I" : Cond) ∈ BIG := mB (tb_2 (List.mem_of_getElem? (i := 120) rfl)) (by decide +kernel)
theorem w_ml_C_47 : (.methodLink RC 47 yC_digitCount : Cond) ∈ BIG := mB (tb_2 (List.mem_of_getElem? (i := 122) rfl)) (by decide +kernel)
theorem w_st_C_digitCount : (.static yC_digitCount : Cond) ∈ BIG := mB (tb_2 (List.mem_of_getElem? (i := 123) rfl)) (by decide +kernel)
theorem w_k_C_163 : (.constantLong RC 163 (10) : Cond) ∈ BIG := mB (tb_2 (List.mem_of_getElem? (i := 125) rfl)) (by decide +kernel)
theorem w_fl_C_51 : (.fieldLink RC 51 "CardMessages" "MOST_MARKS" "[I" : Cond) ∈ BIG := mB (tb_2 (List.mem_of_getElem? (i := 126) rfl)) (by decide +kernel)
theorem w_fl_C_57 : (.fieldLink RC 57 "CardMessages" "COUNT_DIGITS" "[I" : Cond) ∈ BIG := mB (tb_2 (List.mem_of_getElem? (i := 128) rfl)) (by decide +kernel)
theorem w_ml_C_60 : (.methodLink RC 60 yD_putNumber : Cond) ∈ BIG := mB (tb_2 (List.mem_of_getElem? (i := 129) rfl)) (by decide +kernel)
theorem w_im_D_putNumber : (.instanceMethod yD_putNumber : Cond) ∈ BIG := mB (tb_2 (List.mem_of_getElem? (i := 130) rfl)) (by decide +kernel)
theorem w_se_D_putNumber : (.selects RD yD_putNumber yD_putNumber : Cond) ∈ BIG := mB (tb_2 (List.mem_of_getElem? (i := 131) rfl)) (by decide +kernel)
theorem w_ml_D_36 : (.methodLink RD 36 yD_setDigits : Cond) ∈ BIG := mB (tb_2 (List.mem_of_getElem? (i := 133) rfl)) (by decide +kernel)
theorem w_im_D_setDigits : (.instanceMethod yD_setDigits : Cond) ∈ BIG := mB (tb_2 (List.mem_of_getElem? (i := 135) rfl)) (by decide +kernel)
theorem w_k_D_53 : (.constantLong RD 53 (10) : Cond) ∈ BIG := mB (tb_2 (List.mem_of_getElem? (i := 137) rfl)) (by decide +kernel)
theorem w_ml_D_43 : (.methodLink RD 43 yD_setMark : Cond) ∈ BIG := mB (tb_2 (List.mem_of_getElem? (i := 138) rfl)) (by decide +kernel)
theorem w_ml_L_77 : (.methodLink RL 77 yL_letters : Cond) ∈ BIG := mB (tb_2 (List.mem_of_getElem? (i := 139) rfl)) (by decide +kernel)
theorem w_st_L_letters : (.static yL_letters : Cond) ∈ BIG := mB (tb_2 (List.mem_of_getElem? (i := 140) rfl)) (by decide +kernel)
theorem w_ml_L_19 : (.methodLink RL 19 yC_letters : Cond) ∈ BIG := mB (tb_2 (List.mem_of_getElem? (i := 142) rfl)) (by decide +kernel)
theorem w_im_C_letters : (.instanceMethod yC_letters : Cond) ∈ BIG := mB (tb_2 (List.mem_of_getElem? (i := 143) rfl)) (by decide +kernel)
theorem w_se_C_letters : (.selects RC yC_letters yC_letters : Cond) ∈ BIG := mB (tb_2 (List.mem_of_getElem? (i := 144) rfl)) (by decide +kernel)
theorem w_ml_C_74 : (.methodLink RC 74 yD_putLetters : Cond) ∈ BIG := mB (tb_2 (List.mem_of_getElem? (i := 148) rfl)) (by decide +kernel)
theorem w_im_D_putLetters : (.instanceMethod yD_putLetters : Cond) ∈ BIG := mB (tb_2 (List.mem_of_getElem? (i := 149) rfl)) (by decide +kernel)
theorem w_se_D_putLetters : (.selects RD yD_putLetters yD_putLetters : Cond) ∈ BIG := mB (tb_2 (List.mem_of_getElem? (i := 150) rfl)) (by decide +kernel)
theorem w_ml_L_81 : (.methodLink RL 81 yL_original : Cond) ∈ BIG := mB (tb_2 (List.mem_of_getElem? (i := 152) rfl)) (by decide +kernel)
theorem w_st_L_original : (.static yL_original : Cond) ∈ BIG := mB (tb_2 (List.mem_of_getElem? (i := 153) rfl)) (by decide +kernel)
theorem w_ml_L_23 : (.methodLink RL 23 yC_original : Cond) ∈ BIG := mB (tb_2 (List.mem_of_getElem? (i := 155) rfl)) (by decide +kernel)
theorem w_im_C_original : (.instanceMethod yC_original : Cond) ∈ BIG := mB (tb_2 (List.mem_of_getElem? (i := 156) rfl)) (by decide +kernel)
theorem w_se_C_original : (.selects RC yC_original yC_original : Cond) ∈ BIG := mB (tb_2 (List.mem_of_getElem? (i := 157) rfl)) (by decide +kernel)
theorem w_k_C_77 : (.constant RC 77 (999999) : Cond) ∈ BIG := mB (tb_2 (List.mem_of_getElem? (i := 159) rfl)) (by decide +kernel)
theorem w_k_C_78 : (.constant RC 78 (99999) : Cond) ∈ BIG := mB (tb_2 (List.mem_of_getElem? (i := 160) rfl)) (by decide +kernel)
theorem w_ml_C_81 : (.methodLink RC 81 yD_putOriginal : Cond) ∈ BIG := mB (tb_2 (List.mem_of_getElem? (i := 162) rfl)) (by decide +kernel)
theorem w_im_D_putOriginal : (.instanceMethod yD_putOriginal : Cond) ∈ BIG := mB (tb_2 (List.mem_of_getElem? (i := 163) rfl)) (by decide +kernel)
theorem w_se_D_putOriginal : (.selects RD yD_putOriginal yD_putOriginal : Cond) ∈ BIG := mB (tb_2 (List.mem_of_getElem? (i := 164) rfl)) (by decide +kernel)
theorem w_ml_L_85 : (.methodLink RL 85 yL_omit : Cond) ∈ BIG := mB (tb_2 (List.mem_of_getElem? (i := 167) rfl)) (by decide +kernel)
theorem w_st_L_omit : (.static yL_omit : Cond) ∈ BIG := mB (tb_2 (List.mem_of_getElem? (i := 168) rfl)) (by decide +kernel)
theorem w_ml_L_27 : (.methodLink RL 27 yC_omit : Cond) ∈ BIG := mB (tb_2 (List.mem_of_getElem? (i := 170) rfl)) (by decide +kernel)
theorem w_im_C_omit : (.instanceMethod yC_omit : Cond) ∈ BIG := mB (tb_2 (List.mem_of_getElem? (i := 171) rfl)) (by decide +kernel)
theorem w_se_C_omit : (.selects RC yC_omit yC_omit : Cond) ∈ BIG := mB (tb_2 (List.mem_of_getElem? (i := 172) rfl)) (by decide +kernel)
theorem w_ml_C_85 : (.methodLink RC 85 yD_has : Cond) ∈ BIG := mB (tb_2 (List.mem_of_getElem? (i := 174) rfl)) (by decide +kernel)
theorem w_ml_L_93 : (.methodLink RL 93 yL_size : Cond) ∈ BIG := mB (tb_2 (List.mem_of_getElem? (i := 175) rfl)) (by decide +kernel)
theorem w_st_L_size : (.static yL_size : Cond) ∈ BIG := mB (tb_2 (List.mem_of_getElem? (i := 176) rfl)) (by decide +kernel)
theorem w_ml_L_31 : (.methodLink RL 31 yC_size : Cond) ∈ BIG := mB (tb_2 (List.mem_of_getElem? (i := 178) rfl)) (by decide +kernel)
theorem w_im_C_size : (.instanceMethod yC_size : Cond) ∈ BIG := mB (tb_2 (List.mem_of_getElem? (i := 179) rfl)) (by decide +kernel)
theorem w_se_C_size : (.selects RC yC_size yC_size : Cond) ∈ BIG := mB (tb_2 (List.mem_of_getElem? (i := 180) rfl)) (by decide +kernel)
theorem w_ml_L_96 : (.methodLink RL 96 yL_at : Cond) ∈ BIG := mB (tb_2 (List.mem_of_getElem? (i := 182) rfl)) (by decide +kernel)
theorem w_st_L_at : (.static yL_at : Cond) ∈ BIG := mB (tb_2 (List.mem_of_getElem? (i := 183) rfl)) (by decide +kernel)
theorem w_ml_L_35 : (.methodLink RL 35 yC_at : Cond) ∈ BIG := mB (tb_2 (List.mem_of_getElem? (i := 185) rfl)) (by decide +kernel)
theorem w_im_C_at : (.instanceMethod yC_at : Cond) ∈ BIG := mB (tb_2 (List.mem_of_getElem? (i := 186) rfl)) (by decide +kernel)
theorem w_se_C_at : (.selects RC yC_at yC_at : Cond) ∈ BIG := mB (tb_2 (List.mem_of_getElem? (i := 187) rfl)) (by decide +kernel)
theorem w_ml_C_98 : (.methodLink RC 98 yD_mark : Cond) ∈ BIG := mB (tb_2 (List.mem_of_getElem? (i := 190) rfl)) (by decide +kernel)
theorem w_ml_L_100 : (.methodLink RL 100 yL_number : Cond) ∈ BIG := mB (tb_2 (List.mem_of_getElem? (i := 191) rfl)) (by decide +kernel)
theorem w_st_L_number : (.static yL_number : Cond) ∈ BIG := mB (tb_2 (List.mem_of_getElem? (i := 192) rfl)) (by decide +kernel)
theorem w_ml_L_39 : (.methodLink RL 39 yC_number : Cond) ∈ BIG := mB (tb_2 (List.mem_of_getElem? (i := 194) rfl)) (by decide +kernel)
theorem w_im_C_number : (.instanceMethod yC_number : Cond) ∈ BIG := mB (tb_2 (List.mem_of_getElem? (i := 195) rfl)) (by decide +kernel)
theorem w_se_C_number : (.selects RC yC_number yC_number : Cond) ∈ BIG := mB (tb_2 (List.mem_of_getElem? (i := 196) rfl)) (by decide +kernel)
theorem w_ml_C_102 : (.methodLink RC 102 yD_lastDigits : Cond) ∈ BIG := mB (tb_2 (List.mem_of_getElem? (i := 198) rfl)) (by decide +kernel)
theorem w_im_D_lastDigits : (.instanceMethod yD_lastDigits : Cond) ∈ BIG := mB (tb_2 (List.mem_of_getElem? (i := 199) rfl)) (by decide +kernel)
theorem w_se_D_lastDigits : (.selects RD yD_lastDigits yD_lastDigits : Cond) ∈ BIG := mB (tb_2 (List.mem_of_getElem? (i := 200) rfl)) (by decide +kernel)
theorem w_ml_D_47 : (.methodLink RD 47 Lib.Math.max.name : Cond) ∈ BIG := mB (tb_2 (List.mem_of_getElem? (i := 202) rfl)) (by decide +kernel)
theorem w_st_max : (.static Lib.Math.max.name : Cond) ∈ BIG := mB (tb_2 (List.mem_of_getElem? (i := 203) rfl)) (by decide +kernel)
theorem w_ml_D_55 : (.methodLink RD 55 yD_mark : Cond) ∈ BIG := mB (tb_2 (List.mem_of_getElem? (i := 205) rfl)) (by decide +kernel)
theorem w_k_C_106 : (.constantLong RC 106 (-1) : Cond) ∈ BIG := mB (tb_2 (List.mem_of_getElem? (i := 206) rfl)) (by decide +kernel)
theorem w_ml_L_111 : (.methodLink RL 111 yL_feed : Cond) ∈ BIG := mB (tb_2 (List.mem_of_getElem? (i := 207) rfl)) (by decide +kernel)
theorem w_st_L_feed : (.static yL_feed : Cond) ∈ BIG := mB (tb_2 (List.mem_of_getElem? (i := 208) rfl)) (by decide +kernel)
theorem w_cl_L_46 : (.classLink RL 46 "java/lang/IllegalStateException" : Cond) ∈ BIG := mB (tb_2 (List.mem_of_getElem? (i := 210) rfl)) (by decide +kernel)
theorem w_ml_L_43 : (.methodLink RL 43 yC_feed : Cond) ∈ BIG := mB (tb_2 (List.mem_of_getElem? (i := 211) rfl)) (by decide +kernel)
theorem w_im_C_feed : (.instanceMethod yC_feed : Cond) ∈ BIG := mB (tb_2 (List.mem_of_getElem? (i := 212) rfl)) (by decide +kernel)
theorem w_se_C_feed : (.selects RC yC_feed yC_feed : Cond) ∈ BIG := mB (tb_2 (List.mem_of_getElem? (i := 213) rfl)) (by decide +kernel)
theorem w_cl_C_119 : (.classLink RC 119 "java/lang/IllegalStateException" : Cond) ∈ BIG := mB (tb_2 (List.mem_of_getElem? (i := 215) rfl)) (by decide +kernel)
theorem w_ml_C_123 : (.methodLink RC 123 ⟨"java/lang/IllegalStateException", "<init>", "(Ljava/lang/String;)V"⟩ : Cond) ∈ BIG := mB (tb_2 (List.mem_of_getElem? (i := 225) rfl)) (by decide +kernel)
theorem w_ml_C_124 : (.methodLink RC 124 yT_append : Cond) ∈ BIG := mB (tb_2 (List.mem_of_getElem? (i := 231) rfl)) (by decide +kernel)
theorem w_ml_L_114 : (.methodLink RL 114 yL_trim : Cond) ∈ BIG := mB (tb_2 (List.mem_of_getElem? (i := 232) rfl)) (by decide +kernel)
theorem w_st_L_trim : (.static yL_trim : Cond) ∈ BIG := mB (tb_2 (List.mem_of_getElem? (i := 233) rfl)) (by decide +kernel)
theorem w_ml_L_48 : (.methodLink RL 48 yC_trim : Cond) ∈ BIG := mB (tb_2 (List.mem_of_getElem? (i := 235) rfl)) (by decide +kernel)
theorem w_im_C_trim : (.instanceMethod yC_trim : Cond) ∈ BIG := mB (tb_2 (List.mem_of_getElem? (i := 236) rfl)) (by decide +kernel)
theorem w_se_C_trim : (.selects RC yC_trim yC_trim : Cond) ∈ BIG := mB (tb_2 (List.mem_of_getElem? (i := 237) rfl)) (by decide +kernel)
theorem w_ml_L_117 : (.methodLink RL 117 yL_spoil : Cond) ∈ BIG := mB (tb_3 (List.mem_of_getElem? (i := 0) rfl)) (by decide +kernel)
theorem w_st_L_spoil : (.static yL_spoil : Cond) ∈ BIG := mB (tb_3 (List.mem_of_getElem? (i := 1) rfl)) (by decide +kernel)
theorem w_ml_L_51 : (.methodLink RL 51 yC_spoil : Cond) ∈ BIG := mB (tb_3 (List.mem_of_getElem? (i := 3) rfl)) (by decide +kernel)
theorem w_im_C_spoil : (.instanceMethod yC_spoil : Cond) ∈ BIG := mB (tb_3 (List.mem_of_getElem? (i := 4) rfl)) (by decide +kernel)
theorem w_se_C_spoil : (.selects RC yC_spoil yC_spoil : Cond) ∈ BIG := mB (tb_3 (List.mem_of_getElem? (i := 5) rfl)) (by decide +kernel)
theorem w_ml_C_131 : (.methodLink RC 131 yT_flip : Cond) ∈ BIG := mB (tb_3 (List.mem_of_getElem? (i := 8) rfl)) (by decide +kernel)
theorem w_ml_C_135 : (.methodLink RC 135 yT_byteAt : Cond) ∈ BIG := mB (tb_3 (List.mem_of_getElem? (i := 9) rfl)) (by decide +kernel)
theorem w_ml_L_120 : (.methodLink RL 120 yL_fault : Cond) ∈ BIG := mB (tb_3 (List.mem_of_getElem? (i := 10) rfl)) (by decide +kernel)
theorem w_st_L_fault : (.static yL_fault : Cond) ∈ BIG := mB (tb_3 (List.mem_of_getElem? (i := 11) rfl)) (by decide +kernel)
theorem w_ml_L_54 : (.methodLink RL 54 yC_fault : Cond) ∈ BIG := mB (tb_3 (List.mem_of_getElem? (i := 13) rfl)) (by decide +kernel)
theorem w_im_C_fault : (.instanceMethod yC_fault : Cond) ∈ BIG := mB (tb_3 (List.mem_of_getElem? (i := 14) rfl)) (by decide +kernel)
theorem w_se_C_fault : (.selects RC yC_fault yC_fault : Cond) ∈ BIG := mB (tb_3 (List.mem_of_getElem? (i := 15) rfl)) (by decide +kernel)
theorem w_cl_L_58 : (.classLink RL 58 RM : Cond) ∈ BIG := mB (tb_3 (List.mem_of_getElem? (i := 18) rfl)) (by decide +kernel)
theorem w_is_M : (.instantiable RM 17 : Cond) ∈ BIG := mB (tb_3 (List.mem_of_getElem? (i := 19) rfl)) (by decide +kernel)
theorem w_ml_L_60 : (.methodLink RL 60 yM_init : Cond) ∈ BIG := mB (tb_3 (List.mem_of_getElem? (i := 20) rfl)) (by decide +kernel)
theorem w_im_M_init : (.instanceMethod yM_init : Cond) ∈ BIG := mB (tb_3 (List.mem_of_getElem? (i := 21) rfl)) (by decide +kernel)
theorem w_ml_M_1 : (.methodLink RM 1 objectInit : Cond) ∈ BIG := mB (tb_3 (List.mem_of_getElem? (i := 23) rfl)) (by decide +kernel)
theorem w_ml_M_41 : (.methodLink RM 41 yM_clear : Cond) ∈ BIG := mB (tb_3 (List.mem_of_getElem? (i := 24) rfl)) (by decide +kernel)
theorem w_st_M_clear : (.static yM_clear : Cond) ∈ BIG := mB (tb_3 (List.mem_of_getElem? (i := 25) rfl)) (by decide +kernel)
theorem w_fl_M_7 : (.fieldLink RM 7 "CardMessagesModel" "numbers" "[I" : Cond) ∈ BIG := mB (tb_3 (List.mem_of_getElem? (i := 27) rfl)) (by decide +kernel)
theorem w_fl_M_13 : (.fieldLink RM 13 "CardMessagesModel" "sizes" "[I" : Cond) ∈ BIG := mB (tb_3 (List.mem_of_getElem? (i := 28) rfl)) (by decide +kernel)
theorem w_fl_M_16 : (.fieldLink RM 16 "CardMessagesModel" "forms" "[I" : Cond) ∈ BIG := mB (tb_3 (List.mem_of_getElem? (i := 29) rfl)) (by decide +kernel)
theorem w_fl_M_45 : (.fieldLink RM 45 "CardMessagesModel" "code" "I" : Cond) ∈ BIG := mB (tb_3 (List.mem_of_getElem? (i := 30) rfl)) (by decide +kernel)
theorem w_fl_M_19 : (.fieldLink RM 19 "CardMessagesModel" "draftType" "I" : Cond) ∈ BIG := mB (tb_3 (List.mem_of_getElem? (i := 31) rfl)) (by decide +kernel)
theorem w_fl_M_23 : (.fieldLink RM 23 "CardMessagesModel" "draft" "[I" : Cond) ∈ BIG := mB (tb_3 (List.mem_of_getElem? (i := 32) rfl)) (by decide +kernel)
theorem w_fl_M_26 : (.fieldLink RM 26 "CardMessagesModel" "draftSize" "[I" : Cond) ∈ BIG := mB (tb_3 (List.mem_of_getElem? (i := 33) rfl)) (by decide +kernel)
theorem w_fl_M_122 : (.fieldLink RM 122 "CardMessagesModel" "readType" "I" : Cond) ∈ BIG := mB (tb_3 (List.mem_of_getElem? (i := 34) rfl)) (by decide +kernel)
theorem w_fl_M_29 : (.fieldLink RM 29 "CardMessagesModel" "read" "[I" : Cond) ∈ BIG := mB (tb_3 (List.mem_of_getElem? (i := 35) rfl)) (by decide +kernel)
theorem w_fl_M_32 : (.fieldLink RM 32 "CardMessagesModel" "readSize" "[I" : Cond) ∈ BIG := mB (tb_3 (List.mem_of_getElem? (i := 36) rfl)) (by decide +kernel)
theorem w_fl_M_35 : (.fieldLink RM 35 "CardMessagesModel" "tape" "[I" : Cond) ∈ BIG := mB (tb_3 (List.mem_of_getElem? (i := 37) rfl)) (by decide +kernel)
theorem w_fl_M_99 : (.fieldLink RM 99 "CardMessagesModel" "size" "I" : Cond) ∈ BIG := mB (tb_3 (List.mem_of_getElem? (i := 38) rfl)) (by decide +kernel)
theorem w_fl_M_108 : (.fieldLink RM 108 "CardMessagesModel" "at" "I" : Cond) ∈ BIG := mB (tb_3 (List.mem_of_getElem? (i := 39) rfl)) (by decide +kernel)
theorem w_fl_M_102 : (.fieldLink RM 102 "CardMessagesModel" "fault" "I" : Cond) ∈ BIG := mB (tb_3 (List.mem_of_getElem? (i := 40) rfl)) (by decide +kernel)
theorem w_fl_M_105 : (.fieldLink RM 105 "CardMessagesModel" "place" "I" : Cond) ∈ BIG := mB (tb_3 (List.mem_of_getElem? (i := 41) rfl)) (by decide +kernel)
theorem w_fl_M_84 : (.fieldLink RM 84 "CardMessagesModel" "written" "I" : Cond) ∈ BIG := mB (tb_3 (List.mem_of_getElem? (i := 42) rfl)) (by decide +kernel)
theorem w_fl_M_38 : (.fieldLink RM 38 "CardMessagesModel" "few" "[I" : Cond) ∈ BIG := mB (tb_3 (List.mem_of_getElem? (i := 43) rfl)) (by decide +kernel)
theorem w_ml_L_67 : (.methodLink RL 67 yM_thrown : Cond) ∈ BIG := mB (tb_3 (List.mem_of_getElem? (i := 79) rfl)) (by decide +kernel)
theorem w_im_M_thrown : (.instanceMethod yM_thrown : Cond) ∈ BIG := mB (tb_3 (List.mem_of_getElem? (i := 80) rfl)) (by decide +kernel)
theorem w_se_M_thrown : (.selects RM yM_thrown yM_thrown : Cond) ∈ BIG := mB (tb_3 (List.mem_of_getElem? (i := 81) rfl)) (by decide +kernel)
theorem w_ml_L_66 : (.methodLink RL 66 yM_message : Cond) ∈ BIG := mB (tb_3 (List.mem_of_getElem? (i := 83) rfl)) (by decide +kernel)
theorem w_im_M_message : (.instanceMethod yM_message : Cond) ∈ BIG := mB (tb_3 (List.mem_of_getElem? (i := 84) rfl)) (by decide +kernel)
theorem w_se_M_message : (.selects RM yM_message yM_message : Cond) ∈ BIG := mB (tb_3 (List.mem_of_getElem? (i := 85) rfl)) (by decide +kernel)
theorem w_ml_M_50 : (.methodLink RM 50 yM_goes : Cond) ∈ BIG := mB (tb_3 (List.mem_of_getElem? (i := 87) rfl)) (by decide +kernel)
theorem w_im_M_goes : (.instanceMethod yM_goes : Cond) ∈ BIG := mB (tb_3 (List.mem_of_getElem? (i := 89) rfl)) (by decide +kernel)
theorem w_ml_M_54 : (.methodLink RM 54 yM_begin : Cond) ∈ BIG := mB (tb_3 (List.mem_of_getElem? (i := 91) rfl)) (by decide +kernel)
theorem w_im_M_begin : (.instanceMethod yM_begin : Cond) ∈ BIG := mB (tb_3 (List.mem_of_getElem? (i := 93) rfl)) (by decide +kernel)
theorem w_ml_L_76 : (.methodLink RL 76 yM_digits : Cond) ∈ BIG := mB (tb_3 (List.mem_of_getElem? (i := 95) rfl)) (by decide +kernel)
theorem w_im_M_digits : (.instanceMethod yM_digits : Cond) ∈ BIG := mB (tb_3 (List.mem_of_getElem? (i := 96) rfl)) (by decide +kernel)
theorem w_se_M_digits : (.selects RM yM_digits yM_digits : Cond) ∈ BIG := mB (tb_3 (List.mem_of_getElem? (i := 97) rfl)) (by decide +kernel)
theorem w_ml_M_66 : (.methodLink RM 66 yM_fieldOf : Cond) ∈ BIG := mB (tb_3 (List.mem_of_getElem? (i := 99) rfl)) (by decide +kernel)
theorem w_im_M_fieldOf : (.instanceMethod yM_fieldOf : Cond) ∈ BIG := mB (tb_3 (List.mem_of_getElem? (i := 101) rfl)) (by decide +kernel)
theorem w_ml_M_58 : (.methodLink RM 58 yM_width : Cond) ∈ BIG := mB (tb_3 (List.mem_of_getElem? (i := 103) rfl)) (by decide +kernel)
theorem w_st_M_width : (.static yM_width : Cond) ∈ BIG := mB (tb_3 (List.mem_of_getElem? (i := 104) rfl)) (by decide +kernel)
theorem w_k_M_48 : (.constantLong RM 48 (10) : Cond) ∈ BIG := mB (tb_3 (List.mem_of_getElem? (i := 106) rfl)) (by decide +kernel)
theorem w_ml_M_70 : (.methodLink RM 70 yM_fill : Cond) ∈ BIG := mB (tb_3 (List.mem_of_getElem? (i := 107) rfl)) (by decide +kernel)
theorem w_im_M_fill : (.instanceMethod yM_fill : Cond) ∈ BIG := mB (tb_3 (List.mem_of_getElem? (i := 109) rfl)) (by decide +kernel)
theorem w_ml_M_62 : (.methodLink RM 62 yM_setDigits : Cond) ∈ BIG := mB (tb_3 (List.mem_of_getElem? (i := 111) rfl)) (by decide +kernel)
theorem w_st_M_setDigits : (.static yM_setDigits : Cond) ∈ BIG := mB (tb_3 (List.mem_of_getElem? (i := 112) rfl)) (by decide +kernel)
theorem w_ml_L_80 : (.methodLink RL 80 yM_letters : Cond) ∈ BIG := mB (tb_3 (List.mem_of_getElem? (i := 114) rfl)) (by decide +kernel)
theorem w_im_M_letters : (.instanceMethod yM_letters : Cond) ∈ BIG := mB (tb_3 (List.mem_of_getElem? (i := 115) rfl)) (by decide +kernel)
theorem w_se_M_letters : (.selects RM yM_letters yM_letters : Cond) ∈ BIG := mB (tb_3 (List.mem_of_getElem? (i := 116) rfl)) (by decide +kernel)
theorem w_k_M_74 : (.constantLong RM 74 (31) : Cond) ∈ BIG := mB (tb_3 (List.mem_of_getElem? (i := 118) rfl)) (by decide +kernel)
theorem w_ml_L_84 : (.methodLink RL 84 yM_original : Cond) ∈ BIG := mB (tb_3 (List.mem_of_getElem? (i := 119) rfl)) (by decide +kernel)
theorem w_im_M_original : (.instanceMethod yM_original : Cond) ∈ BIG := mB (tb_3 (List.mem_of_getElem? (i := 120) rfl)) (by decide +kernel)
theorem w_se_M_original : (.selects RM yM_original yM_original : Cond) ∈ BIG := mB (tb_3 (List.mem_of_getElem? (i := 121) rfl)) (by decide +kernel)
theorem w_k_M_76 : (.constant RM 76 (999999) : Cond) ∈ BIG := mB (tb_3 (List.mem_of_getElem? (i := 123) rfl)) (by decide +kernel)
theorem w_k_M_77 : (.constant RM 77 (99999) : Cond) ∈ BIG := mB (tb_3 (List.mem_of_getElem? (i := 124) rfl)) (by decide +kernel)
theorem w_ml_M_78 : (.methodLink RM 78 yM_setOriginal : Cond) ∈ BIG := mB (tb_3 (List.mem_of_getElem? (i := 125) rfl)) (by decide +kernel)
theorem w_im_M_setOriginal : (.instanceMethod yM_setOriginal : Cond) ∈ BIG := mB (tb_3 (List.mem_of_getElem? (i := 127) rfl)) (by decide +kernel)
theorem w_ml_L_88 : (.methodLink RL 88 yM_omit : Cond) ∈ BIG := mB (tb_3 (List.mem_of_getElem? (i := 129) rfl)) (by decide +kernel)
theorem w_im_M_omit : (.instanceMethod yM_omit : Cond) ∈ BIG := mB (tb_3 (List.mem_of_getElem? (i := 130) rfl)) (by decide +kernel)
theorem w_se_M_omit : (.selects RM yM_omit yM_omit : Cond) ∈ BIG := mB (tb_3 (List.mem_of_getElem? (i := 131) rfl)) (by decide +kernel)
theorem w_ml_L_92 : (.methodLink RL 92 yM_type : Cond) ∈ BIG := mB (tb_3 (List.mem_of_getElem? (i := 133) rfl)) (by decide +kernel)
theorem w_im_M_type : (.instanceMethod yM_type : Cond) ∈ BIG := mB (tb_3 (List.mem_of_getElem? (i := 134) rfl)) (by decide +kernel)
theorem w_se_M_type : (.selects RM yM_type yM_type : Cond) ∈ BIG := mB (tb_3 (List.mem_of_getElem? (i := 135) rfl)) (by decide +kernel)
theorem w_ml_L_95 : (.methodLink RL 95 yM_size : Cond) ∈ BIG := mB (tb_3 (List.mem_of_getElem? (i := 137) rfl)) (by decide +kernel)
theorem w_im_M_size : (.instanceMethod yM_size : Cond) ∈ BIG := mB (tb_3 (List.mem_of_getElem? (i := 138) rfl)) (by decide +kernel)
theorem w_se_M_size : (.selects RM yM_size yM_size : Cond) ∈ BIG := mB (tb_3 (List.mem_of_getElem? (i := 139) rfl)) (by decide +kernel)
theorem w_ml_L_99 : (.methodLink RL 99 yM_at : Cond) ∈ BIG := mB (tb_3 (List.mem_of_getElem? (i := 141) rfl)) (by decide +kernel)
theorem w_im_M_at : (.instanceMethod yM_at : Cond) ∈ BIG := mB (tb_3 (List.mem_of_getElem? (i := 142) rfl)) (by decide +kernel)
theorem w_se_M_at : (.selects RM yM_at yM_at : Cond) ∈ BIG := mB (tb_3 (List.mem_of_getElem? (i := 143) rfl)) (by decide +kernel)
theorem w_ml_L_102 : (.methodLink RL 102 yM_number : Cond) ∈ BIG := mB (tb_3 (List.mem_of_getElem? (i := 145) rfl)) (by decide +kernel)
theorem w_im_M_number : (.instanceMethod yM_number : Cond) ∈ BIG := mB (tb_3 (List.mem_of_getElem? (i := 146) rfl)) (by decide +kernel)
theorem w_se_M_number : (.selects RM yM_number yM_number : Cond) ∈ BIG := mB (tb_3 (List.mem_of_getElem? (i := 147) rfl)) (by decide +kernel)
theorem w_k_M_82 : (.constantLong RM 82 (-1) : Cond) ∈ BIG := mB (tb_3 (List.mem_of_getElem? (i := 149) rfl)) (by decide +kernel)
theorem w_ml_L_106 : (.methodLink RL 106 yM_fields : Cond) ∈ BIG := mB (tb_3 (List.mem_of_getElem? (i := 150) rfl)) (by decide +kernel)
theorem w_im_M_fields : (.instanceMethod yM_fields : Cond) ∈ BIG := mB (tb_3 (List.mem_of_getElem? (i := 151) rfl)) (by decide +kernel)
theorem w_se_M_fields : (.selects RM yM_fields yM_fields : Cond) ∈ BIG := mB (tb_3 (List.mem_of_getElem? (i := 152) rfl)) (by decide +kernel)
theorem w_ml_L_110 : (.methodLink RL 110 yM_compose : Cond) ∈ BIG := mB (tb_3 (List.mem_of_getElem? (i := 154) rfl)) (by decide +kernel)
theorem w_im_M_compose : (.instanceMethod yM_compose : Cond) ∈ BIG := mB (tb_3 (List.mem_of_getElem? (i := 155) rfl)) (by decide +kernel)
theorem w_se_M_compose : (.selects RM yM_compose yM_compose : Cond) ∈ BIG := mB (tb_3 (List.mem_of_getElem? (i := 156) rfl)) (by decide +kernel)
theorem w_ml_M_95 : (.methodLink RM 95 yM_write : Cond) ∈ BIG := mB (tb_3 (List.mem_of_getElem? (i := 158) rfl)) (by decide +kernel)
theorem w_im_M_write : (.instanceMethod yM_write : Cond) ∈ BIG := mB (tb_3 (List.mem_of_getElem? (i := 160) rfl)) (by decide +kernel)
theorem w_ml_M_87 : (.methodLink RM 87 yM_pack : Cond) ∈ BIG := mB (tb_3 (List.mem_of_getElem? (i := 162) rfl)) (by decide +kernel)
theorem w_im_M_pack : (.instanceMethod yM_pack : Cond) ∈ BIG := mB (tb_3 (List.mem_of_getElem? (i := 164) rfl)) (by decide +kernel)
theorem w_ml_M_91 : (.methodLink RM 91 yM_writeField : Cond) ∈ BIG := mB (tb_3 (List.mem_of_getElem? (i := 166) rfl)) (by decide +kernel)
theorem w_im_M_writeField : (.instanceMethod yM_writeField : Cond) ∈ BIG := mB (tb_3 (List.mem_of_getElem? (i := 168) rfl)) (by decide +kernel)
theorem w_ml_L_113 : (.methodLink RL 113 yM_feed : Cond) ∈ BIG := mB (tb_3 (List.mem_of_getElem? (i := 170) rfl)) (by decide +kernel)
theorem w_im_M_feed : (.instanceMethod yM_feed : Cond) ∈ BIG := mB (tb_3 (List.mem_of_getElem? (i := 171) rfl)) (by decide +kernel)
theorem w_se_M_feed : (.selects RM yM_feed yM_feed : Cond) ∈ BIG := mB (tb_3 (List.mem_of_getElem? (i := 172) rfl)) (by decide +kernel)
theorem w_ml_L_116 : (.methodLink RL 116 yM_trim : Cond) ∈ BIG := mB (tb_3 (List.mem_of_getElem? (i := 174) rfl)) (by decide +kernel)
theorem w_im_M_trim : (.instanceMethod yM_trim : Cond) ∈ BIG := mB (tb_3 (List.mem_of_getElem? (i := 175) rfl)) (by decide +kernel)
theorem w_se_M_trim : (.selects RM yM_trim yM_trim : Cond) ∈ BIG := mB (tb_3 (List.mem_of_getElem? (i := 176) rfl)) (by decide +kernel)
theorem w_ml_L_119 : (.methodLink RL 119 yM_spoil : Cond) ∈ BIG := mB (tb_3 (List.mem_of_getElem? (i := 178) rfl)) (by decide +kernel)
theorem w_im_M_spoil : (.instanceMethod yM_spoil : Cond) ∈ BIG := mB (tb_3 (List.mem_of_getElem? (i := 179) rfl)) (by decide +kernel)
theorem w_se_M_spoil : (.selects RM yM_spoil yM_spoil : Cond) ∈ BIG := mB (tb_3 (List.mem_of_getElem? (i := 180) rfl)) (by decide +kernel)
theorem w_ml_L_122 : (.methodLink RL 122 yM_fault : Cond) ∈ BIG := mB (tb_3 (List.mem_of_getElem? (i := 182) rfl)) (by decide +kernel)
theorem w_im_M_fault : (.instanceMethod yM_fault : Cond) ∈ BIG := mB (tb_3 (List.mem_of_getElem? (i := 183) rfl)) (by decide +kernel)
theorem w_se_M_fault : (.selects RM yM_fault yM_fault : Cond) ∈ BIG := mB (tb_3 (List.mem_of_getElem? (i := 184) rfl)) (by decide +kernel)
theorem w_ml_M_135 : (.methodLink RM 135 yM_readTape : Cond) ∈ BIG := mB (tb_3 (List.mem_of_getElem? (i := 186) rfl)) (by decide +kernel)
theorem w_im_M_readTape : (.instanceMethod yM_readTape : Cond) ∈ BIG := mB (tb_3 (List.mem_of_getElem? (i := 188) rfl)) (by decide +kernel)
theorem w_ml_M_115 : (.methodLink RM 115 yM_takeDigits : Cond) ∈ BIG := mB (tb_3 (List.mem_of_getElem? (i := 190) rfl)) (by decide +kernel)
theorem w_im_M_takeDigits : (.instanceMethod yM_takeDigits : Cond) ∈ BIG := mB (tb_3 (List.mem_of_getElem? (i := 192) rfl)) (by decide +kernel)
theorem w_ml_M_111 : (.methodLink RM 111 yM_fails : Cond) ∈ BIG := mB (tb_3 (List.mem_of_getElem? (i := 194) rfl)) (by decide +kernel)
theorem w_im_M_fails : (.instanceMethod yM_fails : Cond) ∈ BIG := mB (tb_3 (List.mem_of_getElem? (i := 196) rfl)) (by decide +kernel)
theorem w_ml_M_125 : (.methodLink RM 125 yM_isType : Cond) ∈ BIG := mB (tb_3 (List.mem_of_getElem? (i := 198) rfl)) (by decide +kernel)
theorem w_st_M_isType : (.static yM_isType : Cond) ∈ BIG := mB (tb_3 (List.mem_of_getElem? (i := 199) rfl)) (by decide +kernel)
theorem w_ml_M_129 : (.methodLink RM 129 yM_takeMaps : Cond) ∈ BIG := mB (tb_3 (List.mem_of_getElem? (i := 201) rfl)) (by decide +kernel)
theorem w_im_M_takeMaps : (.instanceMethod yM_takeMaps : Cond) ∈ BIG := mB (tb_3 (List.mem_of_getElem? (i := 203) rfl)) (by decide +kernel)
theorem w_ml_M_132 : (.methodLink RM 132 yM_takeField : Cond) ∈ BIG := mB (tb_3 (List.mem_of_getElem? (i := 205) rfl)) (by decide +kernel)
theorem w_im_M_takeField : (.instanceMethod yM_takeField : Cond) ∈ BIG := mB (tb_3 (List.mem_of_getElem? (i := 207) rfl)) (by decide +kernel)
theorem w_ml_M_119 : (.methodLink RM 119 yM_takeLetters : Cond) ∈ BIG := mB (tb_3 (List.mem_of_getElem? (i := 209) rfl)) (by decide +kernel)
theorem w_im_M_takeLetters : (.instanceMethod yM_takeLetters : Cond) ∈ BIG := mB (tb_3 (List.mem_of_getElem? (i := 211) rfl)) (by decide +kernel)
theorem w_ml_L_127 : (.methodLink RL 127 yM_read : Cond) ∈ BIG := mB (tb_3 (List.mem_of_getElem? (i := 213) rfl)) (by decide +kernel)
theorem w_im_M_read : (.instanceMethod yM_read : Cond) ∈ BIG := mB (tb_3 (List.mem_of_getElem? (i := 214) rfl)) (by decide +kernel)
theorem w_se_M_read : (.selects RM yM_read yM_read : Cond) ∈ BIG := mB (tb_3 (List.mem_of_getElem? (i := 215) rfl)) (by decide +kernel)
theorem w_k_L_71 : (.constantLong RL 71 (4294967295) : Cond) ∈ BIG := mB (tb_3 (List.mem_of_getElem? (i := 217) rfl)) (by decide +kernel)
theorem w_ac_long : (.arrayClass .long : Cond) ∈ BIG := mB (tb_3 (List.mem_of_getElem? (i := 218) rfl)) (by decide +kernel)
theorem w_co_C_at : (.code yC_at cC_at 4 (some .int) : Cond) ∈ BIG := mB (tb_2 (List.mem_of_getElem? (i := 188) rfl)) (by decide +kernel)
theorem w_co_C_bytesOfDigits : (.code yC_bytesOfDigits cC_bytesOfDigits 1 (some .int) : Cond) ∈ BIG := mB (tb_1 (List.mem_of_getElem? (i := 129) rfl)) (by decide +kernel)
theorem w_co_C_compose : (.code yC_compose cC_compose 1 (some .int) : Cond) ∈ BIG := mB (tb_1 (List.mem_of_getElem? (i := 118) rfl)) (by decide +kernel)
theorem w_co_C_digitCount : (.code yC_digitCount cC_digitCount 5 (some .int) : Cond) ∈ BIG := mB (tb_2 (List.mem_of_getElem? (i := 124) rfl)) (by decide +kernel)
theorem w_co_C_digitSlot : (.code yC_digitSlot cC_digitSlot 2 (some .int) : Cond) ∈ BIG := mB (tb_2 (List.mem_of_getElem? (i := 114) rfl)) (by decide +kernel)
theorem w_co_C_digits : (.code yC_digits cC_digits 6 none : Cond) ∈ BIG := mB (tb_2 (List.mem_of_getElem? (i := 111) rfl)) (by decide +kernel)
theorem w_co_C_fault : (.code yC_fault cC_fault 2 (some .int) : Cond) ∈ BIG := mB (tb_3 (List.mem_of_getElem? (i := 16) rfl)) (by decide +kernel)
theorem w_co_C_feed : (.code yC_feed cC_feed 3 (some .int) : Cond) ∈ BIG := mB (tb_2 (List.mem_of_getElem? (i := 214) rfl)) (by decide +kernel)
theorem w_co_C_fields : (.code yC_fields cC_fields 1 (some .int) : Cond) ∈ BIG := mB (tb_1 (List.mem_of_getElem? (i := 106) rfl)) (by decide +kernel)
theorem w_co_C_init : (.code yC_init cC_init 1 none : Cond) ∈ BIG := mB (tb_1 (List.mem_of_getElem? (i := 17) rfl)) (by decide +kernel)
theorem w_co_C_knownSlot : (.code yC_knownSlot cC_knownSlot 2 (some .int) : Cond) ∈ BIG := mB (tb_2 (List.mem_of_getElem? (i := 117) rfl)) (by decide +kernel)
theorem w_co_C_letters : (.code yC_letters cC_letters 7 none : Cond) ∈ BIG := mB (tb_2 (List.mem_of_getElem? (i := 145) rfl)) (by decide +kernel)
theorem w_co_C_mapBit : (.code yC_mapBit cC_mapBit 1 (some .int) : Cond) ∈ BIG := mB (tb_1 (List.mem_of_getElem? (i := 157) rfl)) (by decide +kernel)
theorem w_co_C_mapByte : (.code yC_mapByte cC_mapByte 1 (some .int) : Cond) ∈ BIG := mB (tb_1 (List.mem_of_getElem? (i := 154) rfl)) (by decide +kernel)
theorem w_co_C_message : (.code yC_message cC_message 2 none : Cond) ∈ BIG := mB (tb_2 (List.mem_of_getElem? (i := 37) rfl)) (by decide +kernel)
theorem w_co_C_number : (.code yC_number cC_number 3 (some .long) : Cond) ∈ BIG := mB (tb_2 (List.mem_of_getElem? (i := 197) rfl)) (by decide +kernel)
theorem w_co_C_omit : (.code yC_omit cC_omit 4 (some .boolean) : Cond) ∈ BIG := mB (tb_2 (List.mem_of_getElem? (i := 173) rfl)) (by decide +kernel)
theorem w_co_C_original : (.code yC_original cC_original 4 none : Cond) ∈ BIG := mB (tb_2 (List.mem_of_getElem? (i := 158) rfl)) (by decide +kernel)
theorem w_co_C_read : (.code yC_read cC_read 1 (some .boolean) : Cond) ∈ BIG := mB (tb_1 (List.mem_of_getElem? (i := 183) rfl)) (by decide +kernel)
theorem w_co_C_size : (.code yC_size cC_size 3 (some .int) : Cond) ∈ BIG := mB (tb_2 (List.mem_of_getElem? (i := 181) rfl)) (by decide +kernel)
theorem w_co_C_spoil : (.code yC_spoil cC_spoil 3 (some .int) : Cond) ∈ BIG := mB (tb_3 (List.mem_of_getElem? (i := 6) rfl)) (by decide +kernel)
theorem w_co_C_trim : (.code yC_trim cC_trim 2 (some .int) : Cond) ∈ BIG := mB (tb_2 (List.mem_of_getElem? (i := 238) rfl)) (by decide +kernel)
theorem w_co_C_type : (.code yC_type cC_type 1 (some .int) : Cond) ∈ BIG := mB (tb_1 (List.mem_of_getElem? (i := 102) rfl)) (by decide +kernel)
theorem w_co_D_become : (.code yD_become cD_become 2 none : Cond) ∈ BIG := mB (tb_2 (List.mem_of_getElem? (i := 26) rfl)) (by decide +kernel)
theorem w_co_D_fieldCount : (.code yD_fieldCount cD_fieldCount 3 (some .int) : Cond) ∈ BIG := mB (tb_1 (List.mem_of_getElem? (i := 110) rfl)) (by decide +kernel)
theorem w_co_D_has : (.code yD_has cD_has 2 (some .boolean) : Cond) ∈ BIG := mB (tb_1 (List.mem_of_getElem? (i := 114) rfl)) (by decide +kernel)
theorem w_co_D_init : (.code yD_init cD_init 1 none : Cond) ∈ BIG := mB (tb_1 (List.mem_of_getElem? (i := 25) rfl)) (by decide +kernel)
theorem w_co_D_lastDigits : (.code yD_lastDigits cD_lastDigits 6 (some .long) : Cond) ∈ BIG := mB (tb_2 (List.mem_of_getElem? (i := 201) rfl)) (by decide +kernel)
theorem w_co_D_mark : (.code yD_mark cD_mark 3 (some .int) : Cond) ∈ BIG := mB (tb_1 (List.mem_of_getElem? (i := 173) rfl)) (by decide +kernel)
theorem w_co_D_putLetters : (.code yD_putLetters cD_putLetters 7 none : Cond) ∈ BIG := mB (tb_2 (List.mem_of_getElem? (i := 151) rfl)) (by decide +kernel)
theorem w_co_D_putNumber : (.code yD_putNumber cD_putNumber 5 none : Cond) ∈ BIG := mB (tb_2 (List.mem_of_getElem? (i := 132) rfl)) (by decide +kernel)
theorem w_co_D_putOriginal : (.code yD_putOriginal cD_putOriginal 4 none : Cond) ∈ BIG := mB (tb_2 (List.mem_of_getElem? (i := 165) rfl)) (by decide +kernel)
theorem w_co_D_restart : (.code yD_restart cD_restart 3 none : Cond) ∈ BIG := mB (tb_1 (List.mem_of_getElem? (i := 226) rfl)) (by decide +kernel)
theorem w_co_D_setDigits : (.code yD_setDigits cD_setDigits 9 none : Cond) ∈ BIG := mB (tb_2 (List.mem_of_getElem? (i := 136) rfl)) (by decide +kernel)
theorem w_co_D_setMark : (.code yD_setMark cD_setMark 4 none : Cond) ∈ BIG := mB (tb_2 (List.mem_of_getElem? (i := 18) rfl)) (by decide +kernel)
theorem w_co_L_at : (.codeWith yL_at cL_at 5 (some .int) [(0, 10, 13, 13)] : Cond) ∈ BIG := mB (tb_2 (List.mem_of_getElem? (i := 184) rfl)) (by decide +kernel)
theorem w_co_L_digits : (.codeWith yL_digits cL_digits 5 (some .int) [(0, 6, 9, 13)] : Cond) ∈ BIG := mB (tb_2 (List.mem_of_getElem? (i := 107) rfl)) (by decide +kernel)
theorem w_co_L_fault : (.codeWith yL_fault cL_fault 4 (some .int) [(0, 9, 12, 13)] : Cond) ∈ BIG := mB (tb_3 (List.mem_of_getElem? (i := 12) rfl)) (by decide +kernel)
theorem w_co_L_feed : (.codeWith yL_feed cL_feed 4 (some .int) [(0, 9, 12, 46)] : Cond) ∈ BIG := mB (tb_2 (List.mem_of_getElem? (i := 209) rfl)) (by decide +kernel)
theorem w_co_L_letters : (.codeWith yL_letters cL_letters 6 (some .int) [(0, 8, 11, 13)] : Cond) ∈ BIG := mB (tb_2 (List.mem_of_getElem? (i := 141) rfl)) (by decide +kernel)
theorem w_co_L_message : (.codeWith yL_message cL_message 3 (some .int) [(0, 5, 8, 13)] : Cond) ∈ BIG := mB (tb_2 (List.mem_of_getElem? (i := 32) rfl)) (by decide +kernel)
theorem w_co_L_number : (.codeWith yL_number cL_number 4 (some .int) [(0, 8, 11, 13)] : Cond) ∈ BIG := mB (tb_2 (List.mem_of_getElem? (i := 193) rfl)) (by decide +kernel)
theorem w_co_L_omit : (.codeWith yL_omit cL_omit 4 (some .int) [(0, 16, 19, 13)] : Cond) ∈ BIG := mB (tb_2 (List.mem_of_getElem? (i := 169) rfl)) (by decide +kernel)
theorem w_co_L_original : (.codeWith yL_original cL_original 5 (some .int) [(0, 7, 10, 13)] : Cond) ∈ BIG := mB (tb_2 (List.mem_of_getElem? (i := 154) rfl)) (by decide +kernel)
theorem w_co_L_size : (.codeWith yL_size cL_size 4 (some .int) [(0, 9, 12, 13)] : Cond) ∈ BIG := mB (tb_2 (List.mem_of_getElem? (i := 177) rfl)) (by decide +kernel)
theorem w_co_L_spoil : (.codeWith yL_spoil cL_spoil 5 (some .int) [(0, 10, 13, 13)] : Cond) ∈ BIG := mB (tb_3 (List.mem_of_getElem? (i := 2) rfl)) (by decide +kernel)
theorem w_co_L_trim : (.codeWith yL_trim cL_trim 4 (some .int) [(0, 9, 12, 13)] : Cond) ∈ BIG := mB (tb_2 (List.mem_of_getElem? (i := 234) rfl)) (by decide +kernel)
theorem w_co_M_at : (.code yM_at cM_at 5 (some .int) : Cond) ∈ BIG := mB (tb_3 (List.mem_of_getElem? (i := 144) rfl)) (by decide +kernel)
theorem w_co_M_begin : (.code yM_begin cM_begin 2 none : Cond) ∈ BIG := mB (tb_3 (List.mem_of_getElem? (i := 94) rfl)) (by decide +kernel)
theorem w_co_M_clear : (.code yM_clear cM_clear 2 none : Cond) ∈ BIG := mB (tb_3 (List.mem_of_getElem? (i := 26) rfl)) (by decide +kernel)
theorem w_co_M_compose : (.code yM_compose cM_compose 1 (some .int) : Cond) ∈ BIG := mB (tb_3 (List.mem_of_getElem? (i := 157) rfl)) (by decide +kernel)
theorem w_co_M_digits : (.code yM_digits cM_digits 5 none : Cond) ∈ BIG := mB (tb_3 (List.mem_of_getElem? (i := 98) rfl)) (by decide +kernel)
theorem w_co_M_fails : (.code yM_fails cM_fails 3 none : Cond) ∈ BIG := mB (tb_3 (List.mem_of_getElem? (i := 197) rfl)) (by decide +kernel)
theorem w_co_M_fault : (.code yM_fault cM_fault 2 (some .int) : Cond) ∈ BIG := mB (tb_3 (List.mem_of_getElem? (i := 185) rfl)) (by decide +kernel)
theorem w_co_M_feed : (.code yM_feed cM_feed 3 (some .int) : Cond) ∈ BIG := mB (tb_3 (List.mem_of_getElem? (i := 173) rfl)) (by decide +kernel)
theorem w_co_M_fieldOf : (.code yM_fieldOf cM_fieldOf 4 (some .int) : Cond) ∈ BIG := mB (tb_3 (List.mem_of_getElem? (i := 102) rfl)) (by decide +kernel)
theorem w_co_M_fields : (.code yM_fields cM_fields 3 (some .int) : Cond) ∈ BIG := mB (tb_3 (List.mem_of_getElem? (i := 153) rfl)) (by decide +kernel)
theorem w_co_M_fill : (.code yM_fill cM_fill 4 none : Cond) ∈ BIG := mB (tb_3 (List.mem_of_getElem? (i := 110) rfl)) (by decide +kernel)
theorem w_co_M_goes : (.code yM_goes cM_goes 2 (some .boolean) : Cond) ∈ BIG := mB (tb_3 (List.mem_of_getElem? (i := 90) rfl)) (by decide +kernel)
theorem w_co_M_init : (.code yM_init cM_init 1 none : Cond) ∈ BIG := mB (tb_3 (List.mem_of_getElem? (i := 22) rfl)) (by decide +kernel)
theorem w_co_M_isType : (.code yM_isType cM_isType 2 (some .boolean) : Cond) ∈ BIG := mB (tb_3 (List.mem_of_getElem? (i := 200) rfl)) (by decide +kernel)
theorem w_co_M_letters : (.code yM_letters cM_letters 8 none : Cond) ∈ BIG := mB (tb_3 (List.mem_of_getElem? (i := 117) rfl)) (by decide +kernel)
theorem w_co_M_message : (.code yM_message cM_message 2 none : Cond) ∈ BIG := mB (tb_3 (List.mem_of_getElem? (i := 86) rfl)) (by decide +kernel)
theorem w_co_M_number : (.code yM_number cM_number 6 (some .long) : Cond) ∈ BIG := mB (tb_3 (List.mem_of_getElem? (i := 148) rfl)) (by decide +kernel)
theorem w_co_M_omit : (.code yM_omit cM_omit 4 (some .boolean) : Cond) ∈ BIG := mB (tb_3 (List.mem_of_getElem? (i := 132) rfl)) (by decide +kernel)
theorem w_co_M_original : (.code yM_original cM_original 4 none : Cond) ∈ BIG := mB (tb_3 (List.mem_of_getElem? (i := 122) rfl)) (by decide +kernel)
theorem w_co_M_pack : (.code yM_pack cM_pack 6 none : Cond) ∈ BIG := mB (tb_3 (List.mem_of_getElem? (i := 165) rfl)) (by decide +kernel)
theorem w_co_M_read : (.code yM_read cM_read 3 (some .boolean) : Cond) ∈ BIG := mB (tb_3 (List.mem_of_getElem? (i := 216) rfl)) (by decide +kernel)
theorem w_co_M_readTape : (.code yM_readTape cM_readTape 2 none : Cond) ∈ BIG := mB (tb_3 (List.mem_of_getElem? (i := 189) rfl)) (by decide +kernel)
theorem w_co_M_setDigits : (.code yM_setDigits cM_setDigits 8 none : Cond) ∈ BIG := mB (tb_3 (List.mem_of_getElem? (i := 113) rfl)) (by decide +kernel)
theorem w_co_M_setOriginal : (.code yM_setOriginal cM_setOriginal 6 none : Cond) ∈ BIG := mB (tb_3 (List.mem_of_getElem? (i := 128) rfl)) (by decide +kernel)
theorem w_co_M_size : (.code yM_size cM_size 3 (some .int) : Cond) ∈ BIG := mB (tb_3 (List.mem_of_getElem? (i := 140) rfl)) (by decide +kernel)
theorem w_co_M_spoil : (.code yM_spoil cM_spoil 3 (some .int) : Cond) ∈ BIG := mB (tb_3 (List.mem_of_getElem? (i := 181) rfl)) (by decide +kernel)
theorem w_co_M_takeDigits : (.code yM_takeDigits cM_takeDigits 10 none : Cond) ∈ BIG := mB (tb_3 (List.mem_of_getElem? (i := 193) rfl)) (by decide +kernel)
theorem w_co_M_takeField : (.code yM_takeField cM_takeField 5 none : Cond) ∈ BIG := mB (tb_3 (List.mem_of_getElem? (i := 208) rfl)) (by decide +kernel)
theorem w_co_M_takeLetters : (.code yM_takeLetters cM_takeLetters 7 none : Cond) ∈ BIG := mB (tb_3 (List.mem_of_getElem? (i := 212) rfl)) (by decide +kernel)
theorem w_co_M_takeMaps : (.code yM_takeMaps cM_takeMaps 5 none : Cond) ∈ BIG := mB (tb_3 (List.mem_of_getElem? (i := 204) rfl)) (by decide +kernel)
theorem w_co_M_thrown : (.code yM_thrown cM_thrown 1 (some .int) : Cond) ∈ BIG := mB (tb_3 (List.mem_of_getElem? (i := 82) rfl)) (by decide +kernel)
theorem w_co_M_trim : (.code yM_trim cM_trim 2 (some .int) : Cond) ∈ BIG := mB (tb_3 (List.mem_of_getElem? (i := 177) rfl)) (by decide +kernel)
theorem w_co_M_type : (.code yM_type cM_type 1 (some .int) : Cond) ∈ BIG := mB (tb_3 (List.mem_of_getElem? (i := 136) rfl)) (by decide +kernel)
theorem w_co_M_width : (.code yM_width cM_width 5 (some .int) : Cond) ∈ BIG := mB (tb_3 (List.mem_of_getElem? (i := 105) rfl)) (by decide +kernel)
theorem w_co_M_write : (.code yM_write cM_write 8 none : Cond) ∈ BIG := mB (tb_3 (List.mem_of_getElem? (i := 161) rfl)) (by decide +kernel)
theorem w_co_M_writeField : (.code yM_writeField cM_writeField 7 none : Cond) ∈ BIG := mB (tb_3 (List.mem_of_getElem? (i := 169) rfl)) (by decide +kernel)
theorem w_co_R_areDigits : (.code yR_areDigits cR_areDigits 4 (some .boolean) : Cond) ∈ BIG := mB (tb_1 (List.mem_of_getElem? (i := 199) rfl)) (by decide +kernel)
theorem w_co_R_digitAhead : (.code yR_digitAhead cR_digitAhead 3 (some .int) : Cond) ∈ BIG := mB (tb_1 (List.mem_of_getElem? (i := 220) rfl)) (by decide +kernel)
theorem w_co_R_fail : (.code yR_fail cR_fail 3 (some .boolean) : Cond) ∈ BIG := mB (tb_1 (List.mem_of_getElem? (i := 208) rfl)) (by decide +kernel)
theorem w_co_R_halfAhead : (.code yR_halfAhead cR_halfAhead 3 (some .int) : Cond) ∈ BIG := mB (tb_1 (List.mem_of_getElem? (i := 212) rfl)) (by decide +kernel)
theorem w_co_R_hasBit : (.code yR_hasBit cR_hasBit 3 (some .boolean) : Cond) ∈ BIG := mB (tb_1 (List.mem_of_getElem? (i := 236) rfl)) (by decide +kernel)
theorem w_co_R_init : (.code yR_init cR_init 2 none : Cond) ∈ BIG := mB (tb_1 (List.mem_of_getElem? (i := 63) rfl)) (by decide +kernel)
theorem w_co_R_isLetter : (.code yR_isLetter cR_isLetter 1 (some .boolean) : Cond) ∈ BIG := mB (tb_2 (List.mem_of_getElem? (i := 14) rfl)) (by decide +kernel)
theorem w_co_R_reaches : (.code yR_reaches cR_reaches 2 (some .boolean) : Cond) ∈ BIG := mB (tb_1 (List.mem_of_getElem? (i := 204) rfl)) (by decide +kernel)
theorem w_co_R_walk : (.code yR_walk cR_walk 5 (some .boolean) : Cond) ∈ BIG := mB (tb_1 (List.mem_of_getElem? (i := 187) rfl)) (by decide +kernel)
theorem w_co_R_walkDigits : (.code yR_walkDigits cR_walkDigits 4 (some .boolean) : Cond) ∈ BIG := mB (tb_2 (List.mem_of_getElem? (i := 22) rfl)) (by decide +kernel)
theorem w_co_R_walkField : (.code yR_walkField cR_walkField 4 (some .boolean) : Cond) ∈ BIG := mB (tb_2 (List.mem_of_getElem? (i := 3) rfl)) (by decide +kernel)
theorem w_co_R_walkLetters : (.code yR_walkLetters cR_walkLetters 5 (some .boolean) : Cond) ∈ BIG := mB (tb_2 (List.mem_of_getElem? (i := 11) rfl)) (by decide +kernel)
theorem w_co_R_walkMaps : (.code yR_walkMaps cR_walkMaps 4 (some .boolean) : Cond) ∈ BIG := mB (tb_1 (List.mem_of_getElem? (i := 230) rfl)) (by decide +kernel)
theorem w_co_R_walkNumber : (.code yR_walkNumber cR_walkNumber 3 (some .boolean) : Cond) ∈ BIG := mB (tb_1 (List.mem_of_getElem? (i := 195) rfl)) (by decide +kernel)
theorem w_co_R_walkType : (.code yR_walkType cR_walkType 2 (some .boolean) : Cond) ∈ BIG := mB (tb_1 (List.mem_of_getElem? (i := 191) rfl)) (by decide +kernel)
theorem w_co_T_append : (.code yT_append cT_append 2 none : Cond) ∈ BIG := mB (tb_1 (List.mem_of_getElem? (i := 137) rfl)) (by decide +kernel)
theorem w_co_T_appendDigits : (.code yT_appendDigits cT_appendDigits 6 none : Cond) ∈ BIG := mB (tb_1 (List.mem_of_getElem? (i := 179) rfl)) (by decide +kernel)
theorem w_co_T_appendField : (.code yT_appendField cT_appendField 4 none : Cond) ∈ BIG := mB (tb_1 (List.mem_of_getElem? (i := 161) rfl)) (by decide +kernel)
theorem w_co_T_appendLetters : (.code yT_appendLetters cT_appendLetters 5 none : Cond) ∈ BIG := mB (tb_1 (List.mem_of_getElem? (i := 169) rfl)) (by decide +kernel)
theorem w_co_T_appendMaps : (.code yT_appendMaps cT_appendMaps 5 none : Cond) ∈ BIG := mB (tb_1 (List.mem_of_getElem? (i := 141) rfl)) (by decide +kernel)
theorem w_co_T_appendNumber : (.code yT_appendNumber cT_appendNumber 3 none : Cond) ∈ BIG := mB (tb_1 (List.mem_of_getElem? (i := 126) rfl)) (by decide +kernel)
theorem w_co_T_appendPair : (.code yT_appendPair cT_appendPair 3 none : Cond) ∈ BIG := mB (tb_1 (List.mem_of_getElem? (i := 133) rfl)) (by decide +kernel)
theorem w_co_T_byteAt : (.code yT_byteAt cT_byteAt 2 (some .int) : Cond) ∈ BIG := mB (tb_1 (List.mem_of_getElem? (i := 216) rfl)) (by decide +kernel)
theorem w_co_T_flip : (.code yT_flip cT_flip 3 none : Cond) ∈ BIG := mB (tb_1 (List.mem_of_getElem? (i := 151) rfl)) (by decide +kernel)
theorem w_co_T_hasFieldOfSecondMap : (.code yT_hasFieldOfSecondMap cT_hasFieldOfSecondMap 2 (some .boolean) : Cond) ∈ BIG := mB (tb_1 (List.mem_of_getElem? (i := 144) rfl)) (by decide +kernel)
theorem w_co_T_init : (.code yT_init cT_init 1 none : Cond) ∈ BIG := mB (tb_1 (List.mem_of_getElem? (i := 48) rfl)) (by decide +kernel)
theorem w_co_T_write : (.code yT_write cT_write 3 none : Cond) ∈ BIG := mB (tb_1 (List.mem_of_getElem? (i := 122) rfl)) (by decide +kernel)
theorem w_co_object : (.code objectInit ⟨#[0xb1]⟩ 1 none : Cond) ∈ BIG := mB (tb_1 (List.mem_of_getElem? (i := 20) rfl)) (by decide +kernel)
theorem w_co_max : (.code Lib.Math.max.name Lib.Math.max.code 2 (some .int) : Cond) ∈ BIG := mB (tb_2 (List.mem_of_getElem? (i := 204) rfl)) (by decide +kernel)
theorem w_se_T_appendNumber : (.selects RT yT_appendNumber yT_appendNumber : Cond) ∈ BIG := mB (tb_0 (List.mem_of_getElem? (i := 0) rfl)) (by decide +kernel)
theorem w_se_T_appendPair : (.selects RT yT_appendPair yT_appendPair : Cond) ∈ BIG := mB (tb_0 (List.mem_of_getElem? (i := 1) rfl)) (by decide +kernel)
theorem w_se_T_appendMaps : (.selects RT yT_appendMaps yT_appendMaps : Cond) ∈ BIG := mB (tb_0 (List.mem_of_getElem? (i := 2) rfl)) (by decide +kernel)
theorem w_se_T_appendField : (.selects RT yT_appendField yT_appendField : Cond) ∈ BIG := mB (tb_0 (List.mem_of_getElem? (i := 3) rfl)) (by decide +kernel)
theorem w_se_T_appendLetters : (.selects RT yT_appendLetters yT_appendLetters : Cond) ∈ BIG := mB (tb_0 (List.mem_of_getElem? (i := 4) rfl)) (by decide +kernel)
theorem w_se_T_appendDigits : (.selects RT yT_appendDigits yT_appendDigits : Cond) ∈ BIG := mB (tb_0 (List.mem_of_getElem? (i := 5) rfl)) (by decide +kernel)
theorem w_se_R_walkType : (.selects RR yR_walkType yR_walkType : Cond) ∈ BIG := mB (tb_0 (List.mem_of_getElem? (i := 6) rfl)) (by decide +kernel)
theorem w_se_R_walkNumber : (.selects RR yR_walkNumber yR_walkNumber : Cond) ∈ BIG := mB (tb_0 (List.mem_of_getElem? (i := 7) rfl)) (by decide +kernel)
theorem w_se_R_areDigits : (.selects RR yR_areDigits yR_areDigits : Cond) ∈ BIG := mB (tb_0 (List.mem_of_getElem? (i := 8) rfl)) (by decide +kernel)
theorem w_se_R_reaches : (.selects RR yR_reaches yR_reaches : Cond) ∈ BIG := mB (tb_0 (List.mem_of_getElem? (i := 9) rfl)) (by decide +kernel)
theorem w_se_R_fail : (.selects RR yR_fail yR_fail : Cond) ∈ BIG := mB (tb_0 (List.mem_of_getElem? (i := 10) rfl)) (by decide +kernel)
theorem w_se_R_halfAhead : (.selects RR yR_halfAhead yR_halfAhead : Cond) ∈ BIG := mB (tb_0 (List.mem_of_getElem? (i := 11) rfl)) (by decide +kernel)
theorem w_se_R_digitAhead : (.selects RR yR_digitAhead yR_digitAhead : Cond) ∈ BIG := mB (tb_0 (List.mem_of_getElem? (i := 12) rfl)) (by decide +kernel)
theorem w_se_R_walkMaps : (.selects RR yR_walkMaps yR_walkMaps : Cond) ∈ BIG := mB (tb_0 (List.mem_of_getElem? (i := 13) rfl)) (by decide +kernel)
theorem w_se_R_hasBit : (.selects RR yR_hasBit yR_hasBit : Cond) ∈ BIG := mB (tb_0 (List.mem_of_getElem? (i := 14) rfl)) (by decide +kernel)
theorem w_se_R_walkField : (.selects RR yR_walkField yR_walkField : Cond) ∈ BIG := mB (tb_0 (List.mem_of_getElem? (i := 15) rfl)) (by decide +kernel)
theorem w_se_R_walkLetters : (.selects RR yR_walkLetters yR_walkLetters : Cond) ∈ BIG := mB (tb_0 (List.mem_of_getElem? (i := 16) rfl)) (by decide +kernel)
theorem w_se_R_walkDigits : (.selects RR yR_walkDigits yR_walkDigits : Cond) ∈ BIG := mB (tb_0 (List.mem_of_getElem? (i := 17) rfl)) (by decide +kernel)
theorem w_se_D_setDigits : (.selects RD yD_setDigits yD_setDigits : Cond) ∈ BIG := mB (tb_0 (List.mem_of_getElem? (i := 19) rfl)) (by decide +kernel)
theorem w_se_M_goes : (.selects RM yM_goes yM_goes : Cond) ∈ BIG := mB (tb_0 (List.mem_of_getElem? (i := 20) rfl)) (by decide +kernel)
theorem w_se_M_begin : (.selects RM yM_begin yM_begin : Cond) ∈ BIG := mB (tb_0 (List.mem_of_getElem? (i := 21) rfl)) (by decide +kernel)
theorem w_se_M_fieldOf : (.selects RM yM_fieldOf yM_fieldOf : Cond) ∈ BIG := mB (tb_0 (List.mem_of_getElem? (i := 22) rfl)) (by decide +kernel)
theorem w_se_M_fill : (.selects RM yM_fill yM_fill : Cond) ∈ BIG := mB (tb_0 (List.mem_of_getElem? (i := 23) rfl)) (by decide +kernel)
theorem w_se_M_setOriginal : (.selects RM yM_setOriginal yM_setOriginal : Cond) ∈ BIG := mB (tb_0 (List.mem_of_getElem? (i := 24) rfl)) (by decide +kernel)
theorem w_se_M_write : (.selects RM yM_write yM_write : Cond) ∈ BIG := mB (tb_0 (List.mem_of_getElem? (i := 25) rfl)) (by decide +kernel)
theorem w_se_M_pack : (.selects RM yM_pack yM_pack : Cond) ∈ BIG := mB (tb_0 (List.mem_of_getElem? (i := 26) rfl)) (by decide +kernel)
theorem w_se_M_writeField : (.selects RM yM_writeField yM_writeField : Cond) ∈ BIG := mB (tb_0 (List.mem_of_getElem? (i := 27) rfl)) (by decide +kernel)
theorem w_se_M_readTape : (.selects RM yM_readTape yM_readTape : Cond) ∈ BIG := mB (tb_0 (List.mem_of_getElem? (i := 28) rfl)) (by decide +kernel)
theorem w_se_M_takeDigits : (.selects RM yM_takeDigits yM_takeDigits : Cond) ∈ BIG := mB (tb_0 (List.mem_of_getElem? (i := 29) rfl)) (by decide +kernel)
theorem w_se_M_fails : (.selects RM yM_fails yM_fails : Cond) ∈ BIG := mB (tb_0 (List.mem_of_getElem? (i := 30) rfl)) (by decide +kernel)
theorem w_se_M_takeMaps : (.selects RM yM_takeMaps yM_takeMaps : Cond) ∈ BIG := mB (tb_0 (List.mem_of_getElem? (i := 31) rfl)) (by decide +kernel)
theorem w_se_M_takeField : (.selects RM yM_takeField yM_takeField : Cond) ∈ BIG := mB (tb_0 (List.mem_of_getElem? (i := 32) rfl)) (by decide +kernel)
theorem w_se_M_takeLetters : (.selects RM yM_takeLetters yM_takeLetters : Cond) ∈ BIG := mB (tb_0 (List.mem_of_getElem? (i := 33) rfl)) (by decide +kernel)
theorem inD : ∀ w ∈ u_ws RD TD 3, w ∈ BIG := by
  intro w h
  obtain ⟨k, hk, rfl⟩ := List.mem_map.mp h
  have hk := List.mem_range.mp hk
  match k, hk with
  | 0, _ => exact mB (tb_1 (List.mem_of_getElem? (i := 35) rfl)) (by decide +kernel)
  | 1, _ => exact mB (tb_1 (List.mem_of_getElem? (i := 37) rfl)) (by decide +kernel)
  | 2, _ => exact mB (tb_1 (List.mem_of_getElem? (i := 39) rfl)) (by decide +kernel)
  | k + 3, h => exact absurd h (by omega)
theorem inR : ∀ w ∈ u_ws RR TR 6, w ∈ BIG := by
  intro w h
  obtain ⟨k, hk, rfl⟩ := List.mem_map.mp h
  have hk := List.mem_range.mp hk
  match k, hk with
  | 0, _ => exact mB (tb_1 (List.mem_of_getElem? (i := 76) rfl)) (by decide +kernel)
  | 1, _ => exact mB (tb_1 (List.mem_of_getElem? (i := 78) rfl)) (by decide +kernel)
  | 2, _ => exact mB (tb_1 (List.mem_of_getElem? (i := 80) rfl)) (by decide +kernel)
  | 3, _ => exact mB (tb_1 (List.mem_of_getElem? (i := 82) rfl)) (by decide +kernel)
  | 4, _ => exact mB (tb_1 (List.mem_of_getElem? (i := 84) rfl)) (by decide +kernel)
  | 5, _ => exact mB (tb_1 (List.mem_of_getElem? (i := 86) rfl)) (by decide +kernel)
  | k + 6, h => exact absurd h (by omega)
theorem inT : ∀ w ∈ u_ws RT TT 2, w ∈ BIG := by
  intro w h
  obtain ⟨k, hk, rfl⟩ := List.mem_map.mp h
  have hk := List.mem_range.mp hk
  match k, hk with
  | 0, _ => exact mB (tb_1 (List.mem_of_getElem? (i := 54) rfl)) (by decide +kernel)
  | 1, _ => exact mB (tb_1 (List.mem_of_getElem? (i := 56) rfl)) (by decide +kernel)
  | k + 2, h => exact absurd h (by omega)
theorem inC : ∀ w ∈ u_ws RC TC 3, w ∈ BIG := by
  intro w h
  obtain ⟨k, hk, rfl⟩ := List.mem_map.mp h
  have hk := List.mem_range.mp hk
  match k, hk with
  | 0, _ => exact mB (tb_1 (List.mem_of_getElem? (i := 92) rfl)) (by decide +kernel)
  | 1, _ => exact mB (tb_1 (List.mem_of_getElem? (i := 94) rfl)) (by decide +kernel)
  | 2, _ => exact mB (tb_1 (List.mem_of_getElem? (i := 96) rfl)) (by decide +kernel)
  | k + 3, h => exact absurd h (by omega)
theorem inM : ∀ w ∈ u_ws RM TM 17, w ∈ BIG := by
  intro w h
  obtain ⟨k, hk, rfl⟩ := List.mem_map.mp h
  have hk := List.mem_range.mp hk
  match k, hk with
  | 0, _ => exact mB (tb_3 (List.mem_of_getElem? (i := 44) rfl)) (by decide +kernel)
  | 1, _ => exact mB (tb_3 (List.mem_of_getElem? (i := 46) rfl)) (by decide +kernel)
  | 2, _ => exact mB (tb_3 (List.mem_of_getElem? (i := 48) rfl)) (by decide +kernel)
  | 3, _ => exact mB (tb_3 (List.mem_of_getElem? (i := 50) rfl)) (by decide +kernel)
  | 4, _ => exact mB (tb_3 (List.mem_of_getElem? (i := 52) rfl)) (by decide +kernel)
  | 5, _ => exact mB (tb_3 (List.mem_of_getElem? (i := 54) rfl)) (by decide +kernel)
  | 6, _ => exact mB (tb_3 (List.mem_of_getElem? (i := 56) rfl)) (by decide +kernel)
  | 7, _ => exact mB (tb_3 (List.mem_of_getElem? (i := 58) rfl)) (by decide +kernel)
  | 8, _ => exact mB (tb_3 (List.mem_of_getElem? (i := 60) rfl)) (by decide +kernel)
  | 9, _ => exact mB (tb_3 (List.mem_of_getElem? (i := 62) rfl)) (by decide +kernel)
  | 10, _ => exact mB (tb_3 (List.mem_of_getElem? (i := 64) rfl)) (by decide +kernel)
  | 11, _ => exact mB (tb_3 (List.mem_of_getElem? (i := 66) rfl)) (by decide +kernel)
  | 12, _ => exact mB (tb_3 (List.mem_of_getElem? (i := 68) rfl)) (by decide +kernel)
  | 13, _ => exact mB (tb_3 (List.mem_of_getElem? (i := 70) rfl)) (by decide +kernel)
  | 14, _ => exact mB (tb_3 (List.mem_of_getElem? (i := 72) rfl)) (by decide +kernel)
  | 15, _ => exact mB (tb_3 (List.mem_of_getElem? (i := 74) rfl)) (by decide +kernel)
  | 16, _ => exact mB (tb_3 (List.mem_of_getElem? (i := 76) rfl)) (by decide +kernel)
  | k + 17, h => exact absurd h (by omega)
end
section
theorem dD_become_0 : decode cD_become 0 = .ok (.aload_n 0, 1) := by decide +kernel
theorem dD_become_1 : decode cD_become 1 = .ok (.aload_n 1, 1) := by decide +kernel
theorem dD_become_2 : decode cD_become 2 = .ok (.getfield 9, 3) := by decide +kernel
theorem dD_become_5 : decode cD_become 5 = .ok (.putfield 9, 3) := by decide +kernel
theorem dD_become_8 : decode cD_become 8 = .ok (.aload_n 1, 1) := by decide +kernel
theorem dD_become_9 : decode cD_become 9 = .ok (.getfield 15, 3) := by decide +kernel
theorem dD_become_12 : decode cD_become 12 = .ok (.iconst 0, 1) := by decide +kernel
theorem dD_become_13 : decode cD_become 13 = .ok (.aload_n 0, 1) := by decide +kernel
theorem dD_become_14 : decode cD_become 14 = .ok (.getfield 15, 3) := by decide +kernel
theorem dD_become_17 : decode cD_become 17 = .ok (.iconst 0, 1) := by decide +kernel
theorem dD_become_18 : decode cD_become 18 = .ok (.bipush 16, 2) := by decide +kernel
theorem dD_become_20 : decode cD_become 20 = .ok (.invokestatic 23, 3) := by decide +kernel
theorem dD_become_23 : decode cD_become 23 = .ok (.aload_n 1, 1) := by decide +kernel
theorem dD_become_24 : decode cD_become 24 = .ok (.getfield 19, 3) := by decide +kernel
theorem dD_become_27 : decode cD_become 27 = .ok (.iconst 0, 1) := by decide +kernel
theorem dD_become_28 : decode cD_become 28 = .ok (.aload_n 0, 1) := by decide +kernel
theorem dD_become_29 : decode cD_become 29 = .ok (.getfield 19, 3) := by decide +kernel
theorem dD_become_32 : decode cD_become 32 = .ok (.iconst 0, 1) := by decide +kernel
theorem dD_become_33 : decode cD_become 33 = .ok (.sipush 208, 3) := by decide +kernel
theorem dD_become_36 : decode cD_become 36 = .ok (.invokestatic 23, 3) := by decide +kernel
theorem dD_become_39 : decode cD_become 39 = .ok (.return_, 1) := by decide +kernel
theorem dD_fieldCount_0 : decode cD_fieldCount 0 = .ok (.iconst 0, 1) := by decide +kernel
theorem dD_fieldCount_1 : decode cD_fieldCount 1 = .ok (.istore_n 1, 1) := by decide +kernel
theorem dD_fieldCount_2 : decode cD_fieldCount 2 = .ok (.iconst 0, 1) := by decide +kernel
theorem dD_fieldCount_3 : decode cD_fieldCount 3 = .ok (.istore_n 2, 1) := by decide +kernel
theorem dD_fieldCount_4 : decode cD_fieldCount 4 = .ok (.iload_n 2, 1) := by decide +kernel
theorem dD_fieldCount_5 : decode cD_fieldCount 5 = .ok (.bipush 16, 2) := by decide +kernel
theorem dD_fieldCount_7 : decode cD_fieldCount 7 = .ok (.if_icmp .ge 20, 3) := by decide +kernel
theorem dD_fieldCount_10 : decode cD_fieldCount 10 = .ok (.aload_n 0, 1) := by decide +kernel
theorem dD_fieldCount_11 : decode cD_fieldCount 11 = .ok (.iload_n 2, 1) := by decide +kernel
theorem dD_fieldCount_12 : decode cD_fieldCount 12 = .ok (.invokevirtual 29, 3) := by decide +kernel
theorem dD_fieldCount_15 : decode cD_fieldCount 15 = .ok (.ifCond .eq 6, 3) := by decide +kernel
theorem dD_fieldCount_18 : decode cD_fieldCount 18 = .ok (.iinc 1 1, 3) := by decide +kernel
theorem dD_fieldCount_21 : decode cD_fieldCount 21 = .ok (.iinc 2 1, 3) := by decide +kernel
theorem dD_fieldCount_24 : decode cD_fieldCount 24 = .ok (.goto (-20), 3) := by decide +kernel
theorem dD_fieldCount_27 : decode cD_fieldCount 27 = .ok (.iload_n 1, 1) := by decide +kernel
theorem dD_fieldCount_28 : decode cD_fieldCount 28 = .ok (.ireturn, 1) := by decide +kernel
theorem dD_has_0 : decode cD_has 0 = .ok (.aload_n 0, 1) := by decide +kernel
theorem dD_has_1 : decode cD_has 1 = .ok (.getfield 15, 3) := by decide +kernel
theorem dD_has_4 : decode cD_has 4 = .ok (.iload_n 1, 1) := by decide +kernel
theorem dD_has_5 : decode cD_has 5 = .ok (.iaload, 1) := by decide +kernel
theorem dD_has_6 : decode cD_has 6 = .ok (.ifCond .eq 7, 3) := by decide +kernel
theorem dD_has_9 : decode cD_has 9 = .ok (.iconst 1, 1) := by decide +kernel
theorem dD_has_10 : decode cD_has 10 = .ok (.goto 4, 3) := by decide +kernel
theorem dD_has_13 : decode cD_has 13 = .ok (.iconst 0, 1) := by decide +kernel
theorem dD_has_14 : decode cD_has 14 = .ok (.ireturn, 1) := by decide +kernel
theorem dD_init_0 : decode cD_init 0 = .ok (.aload_n 0, 1) := by decide +kernel
theorem dD_init_1 : decode cD_init 1 = .ok (.invokespecial 3, 3) := by decide +kernel
theorem dD_init_4 : decode cD_init 4 = .ok (.aload_n 0, 1) := by decide +kernel
theorem dD_init_5 : decode cD_init 5 = .ok (.sipush 800, 3) := by decide +kernel
theorem dD_init_8 : decode cD_init 8 = .ok (.putfield 9, 3) := by decide +kernel
theorem dD_init_11 : decode cD_init 11 = .ok (.aload_n 0, 1) := by decide +kernel
theorem dD_init_12 : decode cD_init 12 = .ok (.bipush 16, 2) := by decide +kernel
theorem dD_init_14 : decode cD_init 14 = .ok (.newarray .int, 2) := by decide +kernel
theorem dD_init_16 : decode cD_init 16 = .ok (.putfield 15, 3) := by decide +kernel
theorem dD_init_19 : decode cD_init 19 = .ok (.aload_n 0, 1) := by decide +kernel
theorem dD_init_20 : decode cD_init 20 = .ok (.sipush 208, 3) := by decide +kernel
theorem dD_init_23 : decode cD_init 23 = .ok (.newarray .byte, 2) := by decide +kernel
theorem dD_init_25 : decode cD_init 25 = .ok (.putfield 19, 3) := by decide +kernel
theorem dD_init_28 : decode cD_init 28 = .ok (.return_, 1) := by decide +kernel
theorem dD_lastDigits_0 : decode cD_lastDigits 0 = .ok (.aload_n 0, 1) := by decide +kernel
theorem dD_lastDigits_1 : decode cD_lastDigits 1 = .ok (.getfield 15, 3) := by decide +kernel
theorem dD_lastDigits_4 : decode cD_lastDigits 4 = .ok (.iload_n 1, 1) := by decide +kernel
theorem dD_lastDigits_5 : decode cD_lastDigits 5 = .ok (.iaload, 1) := by decide +kernel
theorem dD_lastDigits_6 : decode cD_lastDigits 6 = .ok (.istore_n 2, 1) := by decide +kernel
theorem dD_lastDigits_7 : decode cD_lastDigits 7 = .ok (.lconst 0, 1) := by decide +kernel
theorem dD_lastDigits_8 : decode cD_lastDigits 8 = .ok (.lstore_n 3, 1) := by decide +kernel
theorem dD_lastDigits_9 : decode cD_lastDigits 9 = .ok (.iconst 0, 1) := by decide +kernel
theorem dD_lastDigits_10 : decode cD_lastDigits 10 = .ok (.iload_n 2, 1) := by decide +kernel
theorem dD_lastDigits_11 : decode cD_lastDigits 11 = .ok (.bipush 18, 2) := by decide +kernel
theorem dD_lastDigits_13 : decode cD_lastDigits 13 = .ok (.isub, 1) := by decide +kernel
theorem dD_lastDigits_14 : decode cD_lastDigits 14 = .ok (.invokestatic 47, 3) := by decide +kernel
theorem dD_lastDigits_17 : decode cD_lastDigits 17 = .ok (.istore 5, 2) := by decide +kernel
theorem dD_lastDigits_19 : decode cD_lastDigits 19 = .ok (.iload 5, 2) := by decide +kernel
theorem dD_lastDigits_21 : decode cD_lastDigits 21 = .ok (.iload_n 2, 1) := by decide +kernel
theorem dD_lastDigits_22 : decode cD_lastDigits 22 = .ok (.if_icmp .ge 24, 3) := by decide +kernel
theorem dD_lastDigits_25 : decode cD_lastDigits 25 = .ok (.lload_n 3, 1) := by decide +kernel
theorem dD_lastDigits_26 : decode cD_lastDigits 26 = .ok (.ldc2_w 53, 3) := by decide +kernel
theorem dD_lastDigits_29 : decode cD_lastDigits 29 = .ok (.lmul, 1) := by decide +kernel
theorem dD_lastDigits_30 : decode cD_lastDigits 30 = .ok (.aload_n 0, 1) := by decide +kernel
theorem dD_lastDigits_31 : decode cD_lastDigits 31 = .ok (.iload_n 1, 1) := by decide +kernel
theorem dD_lastDigits_32 : decode cD_lastDigits 32 = .ok (.iload 5, 2) := by decide +kernel
theorem dD_lastDigits_34 : decode cD_lastDigits 34 = .ok (.invokevirtual 55, 3) := by decide +kernel
theorem dD_lastDigits_37 : decode cD_lastDigits 37 = .ok (.i2l, 1) := by decide +kernel
theorem dD_lastDigits_38 : decode cD_lastDigits 38 = .ok (.ladd, 1) := by decide +kernel
theorem dD_lastDigits_39 : decode cD_lastDigits 39 = .ok (.lstore_n 3, 1) := by decide +kernel
theorem dD_lastDigits_40 : decode cD_lastDigits 40 = .ok (.iinc 5 1, 3) := by decide +kernel
theorem dD_lastDigits_43 : decode cD_lastDigits 43 = .ok (.goto (-24), 3) := by decide +kernel
theorem dD_lastDigits_46 : decode cD_lastDigits 46 = .ok (.lload_n 3, 1) := by decide +kernel
theorem dD_lastDigits_47 : decode cD_lastDigits 47 = .ok (.lreturn, 1) := by decide +kernel
theorem dD_mark_0 : decode cD_mark 0 = .ok (.aload_n 0, 1) := by decide +kernel
theorem dD_mark_1 : decode cD_mark 1 = .ok (.getfield 19, 3) := by decide +kernel
theorem dD_mark_4 : decode cD_mark 4 = .ok (.getstatic 33, 3) := by decide +kernel
theorem dD_mark_7 : decode cD_mark 7 = .ok (.iload_n 1, 1) := by decide +kernel
theorem dD_mark_8 : decode cD_mark 8 = .ok (.iaload, 1) := by decide +kernel
theorem dD_mark_9 : decode cD_mark 9 = .ok (.iload_n 2, 1) := by decide +kernel
theorem dD_mark_10 : decode cD_mark 10 = .ok (.iadd, 1) := by decide +kernel
theorem dD_mark_11 : decode cD_mark 11 = .ok (.baload, 1) := by decide +kernel
theorem dD_mark_12 : decode cD_mark 12 = .ok (.ireturn, 1) := by decide +kernel
theorem dD_putLetters_0 : decode cD_putLetters 0 = .ok (.iconst 0, 1) := by decide +kernel
theorem dD_putLetters_1 : decode cD_putLetters 1 = .ok (.istore 5, 2) := by decide +kernel
theorem dD_putLetters_3 : decode cD_putLetters 3 = .ok (.iload 5, 2) := by decide +kernel
theorem dD_putLetters_5 : decode cD_putLetters 5 = .ok (.iload_n 2, 1) := by decide +kernel
theorem dD_putLetters_6 : decode cD_putLetters 6 = .ok (.if_icmp .ge 54, 3) := by decide +kernel
theorem dD_putLetters_9 : decode cD_putLetters 9 = .ok (.lload_n 3, 1) := by decide +kernel
theorem dD_putLetters_10 : decode cD_putLetters 10 = .ok (.iconst 5, 1) := by decide +kernel
theorem dD_putLetters_11 : decode cD_putLetters 11 = .ok (.iload 5, 2) := by decide +kernel
theorem dD_putLetters_13 : decode cD_putLetters 13 = .ok (.bipush 12, 2) := by decide +kernel
theorem dD_putLetters_15 : decode cD_putLetters 15 = .ok (.irem, 1) := by decide +kernel
theorem dD_putLetters_16 : decode cD_putLetters 16 = .ok (.imul, 1) := by decide +kernel
theorem dD_putLetters_17 : decode cD_putLetters 17 = .ok (.lshr, 1) := by decide +kernel
theorem dD_putLetters_18 : decode cD_putLetters 18 = .ok (.l2i, 1) := by decide +kernel
theorem dD_putLetters_19 : decode cD_putLetters 19 = .ok (.bipush 31, 2) := by decide +kernel
theorem dD_putLetters_21 : decode cD_putLetters 21 = .ok (.iand, 1) := by decide +kernel
theorem dD_putLetters_22 : decode cD_putLetters 22 = .ok (.istore 6, 2) := by decide +kernel
theorem dD_putLetters_24 : decode cD_putLetters 24 = .ok (.aload_n 0, 1) := by decide +kernel
theorem dD_putLetters_25 : decode cD_putLetters 25 = .ok (.iload_n 1, 1) := by decide +kernel
theorem dD_putLetters_26 : decode cD_putLetters 26 = .ok (.iload 5, 2) := by decide +kernel
theorem dD_putLetters_28 : decode cD_putLetters 28 = .ok (.iload 6, 2) := by decide +kernel
theorem dD_putLetters_30 : decode cD_putLetters 30 = .ok (.bipush 10, 2) := by decide +kernel
theorem dD_putLetters_32 : decode cD_putLetters 32 = .ok (.if_icmp .ge 11, 3) := by decide +kernel
theorem dD_putLetters_35 : decode cD_putLetters 35 = .ok (.bipush 48, 2) := by decide +kernel
theorem dD_putLetters_37 : decode cD_putLetters 37 = .ok (.iload 6, 2) := by decide +kernel
theorem dD_putLetters_39 : decode cD_putLetters 39 = .ok (.iadd, 1) := by decide +kernel
theorem dD_putLetters_40 : decode cD_putLetters 40 = .ok (.goto 11, 3) := by decide +kernel
theorem dD_putLetters_43 : decode cD_putLetters 43 = .ok (.bipush 65, 2) := by decide +kernel
theorem dD_putLetters_45 : decode cD_putLetters 45 = .ok (.iload 6, 2) := by decide +kernel
theorem dD_putLetters_47 : decode cD_putLetters 47 = .ok (.iadd, 1) := by decide +kernel
theorem dD_putLetters_48 : decode cD_putLetters 48 = .ok (.bipush 10, 2) := by decide +kernel
theorem dD_putLetters_50 : decode cD_putLetters 50 = .ok (.isub, 1) := by decide +kernel
theorem dD_putLetters_51 : decode cD_putLetters 51 = .ok (.invokevirtual 43, 3) := by decide +kernel
theorem dD_putLetters_54 : decode cD_putLetters 54 = .ok (.iinc 5 1, 3) := by decide +kernel
theorem dD_putLetters_57 : decode cD_putLetters 57 = .ok (.goto (-54), 3) := by decide +kernel
theorem dD_putLetters_60 : decode cD_putLetters 60 = .ok (.aload_n 0, 1) := by decide +kernel
theorem dD_putLetters_61 : decode cD_putLetters 61 = .ok (.getfield 15, 3) := by decide +kernel
theorem dD_putLetters_64 : decode cD_putLetters 64 = .ok (.iload_n 1, 1) := by decide +kernel
theorem dD_putLetters_65 : decode cD_putLetters 65 = .ok (.iload_n 2, 1) := by decide +kernel
theorem dD_putLetters_66 : decode cD_putLetters 66 = .ok (.iastore, 1) := by decide +kernel
theorem dD_putLetters_67 : decode cD_putLetters 67 = .ok (.return_, 1) := by decide +kernel
theorem dD_putNumber_0 : decode cD_putNumber 0 = .ok (.aload_n 0, 1) := by decide +kernel
theorem dD_putNumber_1 : decode cD_putNumber 1 = .ok (.iload_n 1, 1) := by decide +kernel
theorem dD_putNumber_2 : decode cD_putNumber 2 = .ok (.iconst 0, 1) := by decide +kernel
theorem dD_putNumber_3 : decode cD_putNumber 3 = .ok (.iload_n 2, 1) := by decide +kernel
theorem dD_putNumber_4 : decode cD_putNumber 4 = .ok (.lload_n 3, 1) := by decide +kernel
theorem dD_putNumber_5 : decode cD_putNumber 5 = .ok (.invokevirtual 36, 3) := by decide +kernel
theorem dD_putNumber_8 : decode cD_putNumber 8 = .ok (.aload_n 0, 1) := by decide +kernel
theorem dD_putNumber_9 : decode cD_putNumber 9 = .ok (.getfield 15, 3) := by decide +kernel
theorem dD_putNumber_12 : decode cD_putNumber 12 = .ok (.iload_n 1, 1) := by decide +kernel
theorem dD_putNumber_13 : decode cD_putNumber 13 = .ok (.iload_n 2, 1) := by decide +kernel
theorem dD_putNumber_14 : decode cD_putNumber 14 = .ok (.iastore, 1) := by decide +kernel
theorem dD_putNumber_15 : decode cD_putNumber 15 = .ok (.return_, 1) := by decide +kernel
theorem dD_putOriginal_0 : decode cD_putOriginal 0 = .ok (.aload_n 0, 1) := by decide +kernel
theorem dD_putOriginal_1 : decode cD_putOriginal 1 = .ok (.bipush 14, 2) := by decide +kernel
theorem dD_putOriginal_3 : decode cD_putOriginal 3 = .ok (.iconst 0, 1) := by decide +kernel
theorem dD_putOriginal_4 : decode cD_putOriginal 4 = .ok (.iconst 4, 1) := by decide +kernel
theorem dD_putOriginal_5 : decode cD_putOriginal 5 = .ok (.iload_n 1, 1) := by decide +kernel
theorem dD_putOriginal_6 : decode cD_putOriginal 6 = .ok (.i2l, 1) := by decide +kernel
theorem dD_putOriginal_7 : decode cD_putOriginal 7 = .ok (.invokevirtual 36, 3) := by decide +kernel
theorem dD_putOriginal_10 : decode cD_putOriginal 10 = .ok (.aload_n 0, 1) := by decide +kernel
theorem dD_putOriginal_11 : decode cD_putOriginal 11 = .ok (.bipush 14, 2) := by decide +kernel
theorem dD_putOriginal_13 : decode cD_putOriginal 13 = .ok (.iconst 4, 1) := by decide +kernel
theorem dD_putOriginal_14 : decode cD_putOriginal 14 = .ok (.bipush 6, 2) := by decide +kernel
theorem dD_putOriginal_16 : decode cD_putOriginal 16 = .ok (.iload_n 2, 1) := by decide +kernel
theorem dD_putOriginal_17 : decode cD_putOriginal 17 = .ok (.i2l, 1) := by decide +kernel
theorem dD_putOriginal_18 : decode cD_putOriginal 18 = .ok (.invokevirtual 36, 3) := by decide +kernel
theorem dD_putOriginal_21 : decode cD_putOriginal 21 = .ok (.aload_n 0, 1) := by decide +kernel
theorem dD_putOriginal_22 : decode cD_putOriginal 22 = .ok (.bipush 14, 2) := by decide +kernel
theorem dD_putOriginal_24 : decode cD_putOriginal 24 = .ok (.bipush 10, 2) := by decide +kernel
theorem dD_putOriginal_26 : decode cD_putOriginal 26 = .ok (.bipush 10, 2) := by decide +kernel
theorem dD_putOriginal_28 : decode cD_putOriginal 28 = .ok (.lconst 0, 1) := by decide +kernel
theorem dD_putOriginal_29 : decode cD_putOriginal 29 = .ok (.invokevirtual 36, 3) := by decide +kernel
theorem dD_putOriginal_32 : decode cD_putOriginal 32 = .ok (.aload_n 0, 1) := by decide +kernel
theorem dD_putOriginal_33 : decode cD_putOriginal 33 = .ok (.bipush 14, 2) := by decide +kernel
theorem dD_putOriginal_35 : decode cD_putOriginal 35 = .ok (.bipush 20, 2) := by decide +kernel
theorem dD_putOriginal_37 : decode cD_putOriginal 37 = .ok (.bipush 11, 2) := by decide +kernel
theorem dD_putOriginal_39 : decode cD_putOriginal 39 = .ok (.iload_n 3, 1) := by decide +kernel
theorem dD_putOriginal_40 : decode cD_putOriginal 40 = .ok (.i2l, 1) := by decide +kernel
theorem dD_putOriginal_41 : decode cD_putOriginal 41 = .ok (.invokevirtual 36, 3) := by decide +kernel
theorem dD_putOriginal_44 : decode cD_putOriginal 44 = .ok (.aload_n 0, 1) := by decide +kernel
theorem dD_putOriginal_45 : decode cD_putOriginal 45 = .ok (.bipush 14, 2) := by decide +kernel
theorem dD_putOriginal_47 : decode cD_putOriginal 47 = .ok (.bipush 31, 2) := by decide +kernel
theorem dD_putOriginal_49 : decode cD_putOriginal 49 = .ok (.bipush 11, 2) := by decide +kernel
theorem dD_putOriginal_51 : decode cD_putOriginal 51 = .ok (.lconst 0, 1) := by decide +kernel
theorem dD_putOriginal_52 : decode cD_putOriginal 52 = .ok (.invokevirtual 36, 3) := by decide +kernel
theorem dD_putOriginal_55 : decode cD_putOriginal 55 = .ok (.aload_n 0, 1) := by decide +kernel
theorem dD_putOriginal_56 : decode cD_putOriginal 56 = .ok (.getfield 15, 3) := by decide +kernel
theorem dD_putOriginal_59 : decode cD_putOriginal 59 = .ok (.bipush 14, 2) := by decide +kernel
theorem dD_putOriginal_61 : decode cD_putOriginal 61 = .ok (.getstatic 40, 3) := by decide +kernel
theorem dD_putOriginal_64 : decode cD_putOriginal 64 = .ok (.bipush 14, 2) := by decide +kernel
theorem dD_putOriginal_66 : decode cD_putOriginal 66 = .ok (.iaload, 1) := by decide +kernel
theorem dD_putOriginal_67 : decode cD_putOriginal 67 = .ok (.iastore, 1) := by decide +kernel
theorem dD_putOriginal_68 : decode cD_putOriginal 68 = .ok (.return_, 1) := by decide +kernel
theorem dD_restart_0 : decode cD_restart 0 = .ok (.aload_n 0, 1) := by decide +kernel
theorem dD_restart_1 : decode cD_restart 1 = .ok (.iload_n 1, 1) := by decide +kernel
theorem dD_restart_2 : decode cD_restart 2 = .ok (.putfield 9, 3) := by decide +kernel
theorem dD_restart_5 : decode cD_restart 5 = .ok (.iconst 0, 1) := by decide +kernel
theorem dD_restart_6 : decode cD_restart 6 = .ok (.istore_n 2, 1) := by decide +kernel
theorem dD_restart_7 : decode cD_restart 7 = .ok (.iload_n 2, 1) := by decide +kernel
theorem dD_restart_8 : decode cD_restart 8 = .ok (.bipush 16, 2) := by decide +kernel
theorem dD_restart_10 : decode cD_restart 10 = .ok (.if_icmp .ge 16, 3) := by decide +kernel
theorem dD_restart_13 : decode cD_restart 13 = .ok (.aload_n 0, 1) := by decide +kernel
theorem dD_restart_14 : decode cD_restart 14 = .ok (.getfield 15, 3) := by decide +kernel
theorem dD_restart_17 : decode cD_restart 17 = .ok (.iload_n 2, 1) := by decide +kernel
theorem dD_restart_18 : decode cD_restart 18 = .ok (.iconst 0, 1) := by decide +kernel
theorem dD_restart_19 : decode cD_restart 19 = .ok (.iastore, 1) := by decide +kernel
theorem dD_restart_20 : decode cD_restart 20 = .ok (.iinc 2 1, 3) := by decide +kernel
theorem dD_restart_23 : decode cD_restart 23 = .ok (.goto (-16), 3) := by decide +kernel
theorem dD_restart_26 : decode cD_restart 26 = .ok (.return_, 1) := by decide +kernel
theorem dD_setDigits_0 : decode cD_setDigits 0 = .ok (.lload 4, 2) := by decide +kernel
theorem dD_setDigits_2 : decode cD_setDigits 2 = .ok (.lstore 6, 2) := by decide +kernel
theorem dD_setDigits_4 : decode cD_setDigits 4 = .ok (.iload_n 2, 1) := by decide +kernel
theorem dD_setDigits_5 : decode cD_setDigits 5 = .ok (.iload_n 3, 1) := by decide +kernel
theorem dD_setDigits_6 : decode cD_setDigits 6 = .ok (.iadd, 1) := by decide +kernel
theorem dD_setDigits_7 : decode cD_setDigits 7 = .ok (.iconst 1, 1) := by decide +kernel
theorem dD_setDigits_8 : decode cD_setDigits 8 = .ok (.isub, 1) := by decide +kernel
theorem dD_setDigits_9 : decode cD_setDigits 9 = .ok (.istore 8, 2) := by decide +kernel
theorem dD_setDigits_11 : decode cD_setDigits 11 = .ok (.iload 8, 2) := by decide +kernel
theorem dD_setDigits_13 : decode cD_setDigits 13 = .ok (.iload_n 2, 1) := by decide +kernel
theorem dD_setDigits_14 : decode cD_setDigits 14 = .ok (.if_icmp .lt 31, 3) := by decide +kernel
theorem dD_setDigits_17 : decode cD_setDigits 17 = .ok (.aload_n 0, 1) := by decide +kernel
theorem dD_setDigits_18 : decode cD_setDigits 18 = .ok (.iload_n 1, 1) := by decide +kernel
theorem dD_setDigits_19 : decode cD_setDigits 19 = .ok (.iload 8, 2) := by decide +kernel
theorem dD_setDigits_21 : decode cD_setDigits 21 = .ok (.lload 6, 2) := by decide +kernel
theorem dD_setDigits_23 : decode cD_setDigits 23 = .ok (.ldc2_w 53, 3) := by decide +kernel
theorem dD_setDigits_26 : decode cD_setDigits 26 = .ok (.lrem, 1) := by decide +kernel
theorem dD_setDigits_27 : decode cD_setDigits 27 = .ok (.l2i, 1) := by decide +kernel
theorem dD_setDigits_28 : decode cD_setDigits 28 = .ok (.invokevirtual 43, 3) := by decide +kernel
theorem dD_setDigits_31 : decode cD_setDigits 31 = .ok (.lload 6, 2) := by decide +kernel
theorem dD_setDigits_33 : decode cD_setDigits 33 = .ok (.ldc2_w 53, 3) := by decide +kernel
theorem dD_setDigits_36 : decode cD_setDigits 36 = .ok (.ldiv, 1) := by decide +kernel
theorem dD_setDigits_37 : decode cD_setDigits 37 = .ok (.lstore 6, 2) := by decide +kernel
theorem dD_setDigits_39 : decode cD_setDigits 39 = .ok (.iinc 8 (-1), 3) := by decide +kernel
theorem dD_setDigits_42 : decode cD_setDigits 42 = .ok (.goto (-31), 3) := by decide +kernel
theorem dD_setDigits_45 : decode cD_setDigits 45 = .ok (.return_, 1) := by decide +kernel
theorem dD_setMark_0 : decode cD_setMark 0 = .ok (.aload_n 0, 1) := by decide +kernel
theorem dD_setMark_1 : decode cD_setMark 1 = .ok (.getfield 19, 3) := by decide +kernel
theorem dD_setMark_4 : decode cD_setMark 4 = .ok (.getstatic 33, 3) := by decide +kernel
theorem dD_setMark_7 : decode cD_setMark 7 = .ok (.iload_n 1, 1) := by decide +kernel
theorem dD_setMark_8 : decode cD_setMark 8 = .ok (.iaload, 1) := by decide +kernel
theorem dD_setMark_9 : decode cD_setMark 9 = .ok (.iload_n 2, 1) := by decide +kernel
theorem dD_setMark_10 : decode cD_setMark 10 = .ok (.iadd, 1) := by decide +kernel
theorem dD_setMark_11 : decode cD_setMark 11 = .ok (.iload_n 3, 1) := by decide +kernel
theorem dD_setMark_12 : decode cD_setMark 12 = .ok (.i2b, 1) := by decide +kernel
theorem dD_setMark_13 : decode cD_setMark 13 = .ok (.bastore, 1) := by decide +kernel
theorem dD_setMark_14 : decode cD_setMark 14 = .ok (.return_, 1) := by decide +kernel
theorem dR_areDigits_0 : decode cR_areDigits 0 = .ok (.aload_n 0, 1) := by decide +kernel
theorem dR_areDigits_1 : decode cR_areDigits 1 = .ok (.iload_n 1, 1) := by decide +kernel
theorem dR_areDigits_2 : decode cR_areDigits 2 = .ok (.invokestatic 110, 3) := by decide +kernel
theorem dR_areDigits_5 : decode cR_areDigits 5 = .ok (.invokevirtual 79, 3) := by decide +kernel
theorem dR_areDigits_8 : decode cR_areDigits 8 = .ok (.ifCond .ne 5, 3) := by decide +kernel
theorem dR_areDigits_11 : decode cR_areDigits 11 = .ok (.iconst 0, 1) := by decide +kernel
theorem dR_areDigits_12 : decode cR_areDigits 12 = .ok (.ireturn, 1) := by decide +kernel
theorem dR_areDigits_13 : decode cR_areDigits 13 = .ok (.iload_n 1, 1) := by decide +kernel
theorem dR_areDigits_14 : decode cR_areDigits 14 = .ok (.iconst 2, 1) := by decide +kernel
theorem dR_areDigits_15 : decode cR_areDigits 15 = .ok (.irem, 1) := by decide +kernel
theorem dR_areDigits_16 : decode cR_areDigits 16 = .ok (.istore_n 2, 1) := by decide +kernel
theorem dR_areDigits_17 : decode cR_areDigits 17 = .ok (.iconst 0, 1) := by decide +kernel
theorem dR_areDigits_18 : decode cR_areDigits 18 = .ok (.istore_n 3, 1) := by decide +kernel
theorem dR_areDigits_19 : decode cR_areDigits 19 = .ok (.iload_n 3, 1) := by decide +kernel
theorem dR_areDigits_20 : decode cR_areDigits 20 = .ok (.iload_n 2, 1) := by decide +kernel
theorem dR_areDigits_21 : decode cR_areDigits 21 = .ok (.iload_n 1, 1) := by decide +kernel
theorem dR_areDigits_22 : decode cR_areDigits 22 = .ok (.iadd, 1) := by decide +kernel
theorem dR_areDigits_23 : decode cR_areDigits 23 = .ok (.if_icmp .ge 42, 3) := by decide +kernel
theorem dR_areDigits_26 : decode cR_areDigits 26 = .ok (.aload_n 0, 1) := by decide +kernel
theorem dR_areDigits_27 : decode cR_areDigits 27 = .ok (.iload_n 3, 1) := by decide +kernel
theorem dR_areDigits_28 : decode cR_areDigits 28 = .ok (.invokevirtual 123, 3) := by decide +kernel
theorem dR_areDigits_31 : decode cR_areDigits 31 = .ok (.iload_n 3, 1) := by decide +kernel
theorem dR_areDigits_32 : decode cR_areDigits 32 = .ok (.iload_n 2, 1) := by decide +kernel
theorem dR_areDigits_33 : decode cR_areDigits 33 = .ok (.if_icmp .ge 7, 3) := by decide +kernel
theorem dR_areDigits_36 : decode cR_areDigits 36 = .ok (.iconst 0, 1) := by decide +kernel
theorem dR_areDigits_37 : decode cR_areDigits 37 = .ok (.goto 5, 3) := by decide +kernel
theorem dR_areDigits_40 : decode cR_areDigits 40 = .ok (.bipush 9, 2) := by decide +kernel
theorem dR_areDigits_42 : decode cR_areDigits 42 = .ok (.if_icmp .le 17, 3) := by decide +kernel
theorem dR_areDigits_45 : decode cR_areDigits 45 = .ok (.aload_n 0, 1) := by decide +kernel
theorem dR_areDigits_46 : decode cR_areDigits 46 = .ok (.iconst 2, 1) := by decide +kernel
theorem dR_areDigits_47 : decode cR_areDigits 47 = .ok (.aload_n 0, 1) := by decide +kernel
theorem dR_areDigits_48 : decode cR_areDigits 48 = .ok (.getfield 25, 3) := by decide +kernel
theorem dR_areDigits_51 : decode cR_areDigits 51 = .ok (.iload_n 3, 1) := by decide +kernel
theorem dR_areDigits_52 : decode cR_areDigits 52 = .ok (.iconst 2, 1) := by decide +kernel
theorem dR_areDigits_53 : decode cR_areDigits 53 = .ok (.idiv, 1) := by decide +kernel
theorem dR_areDigits_54 : decode cR_areDigits 54 = .ok (.iadd, 1) := by decide +kernel
theorem dR_areDigits_55 : decode cR_areDigits 55 = .ok (.invokevirtual 65, 3) := by decide +kernel
theorem dR_areDigits_58 : decode cR_areDigits 58 = .ok (.ireturn, 1) := by decide +kernel
theorem dR_areDigits_59 : decode cR_areDigits 59 = .ok (.iinc 3 1, 3) := by decide +kernel
theorem dR_areDigits_62 : decode cR_areDigits 62 = .ok (.goto (-43), 3) := by decide +kernel
theorem dR_areDigits_65 : decode cR_areDigits 65 = .ok (.iconst 1, 1) := by decide +kernel
theorem dR_areDigits_66 : decode cR_areDigits 66 = .ok (.ireturn, 1) := by decide +kernel
theorem dR_digitAhead_0 : decode cR_digitAhead 0 = .ok (.aload_n 0, 1) := by decide +kernel
theorem dR_digitAhead_1 : decode cR_digitAhead 1 = .ok (.iload_n 2, 1) := by decide +kernel
theorem dR_digitAhead_2 : decode cR_digitAhead 2 = .ok (.iconst 2, 1) := by decide +kernel
theorem dR_digitAhead_3 : decode cR_digitAhead 3 = .ok (.irem, 1) := by decide +kernel
theorem dR_digitAhead_4 : decode cR_digitAhead 4 = .ok (.iload_n 1, 1) := by decide +kernel
theorem dR_digitAhead_5 : decode cR_digitAhead 5 = .ok (.iadd, 1) := by decide +kernel
theorem dR_digitAhead_6 : decode cR_digitAhead 6 = .ok (.invokevirtual 123, 3) := by decide +kernel
theorem dR_digitAhead_9 : decode cR_digitAhead 9 = .ok (.ireturn, 1) := by decide +kernel
theorem dR_fail_0 : decode cR_fail 0 = .ok (.aload_n 0, 1) := by decide +kernel
theorem dR_fail_1 : decode cR_fail 1 = .ok (.iload_n 1, 1) := by decide +kernel
theorem dR_fail_2 : decode cR_fail 2 = .ok (.putfield 18, 3) := by decide +kernel
theorem dR_fail_5 : decode cR_fail 5 = .ok (.aload_n 0, 1) := by decide +kernel
theorem dR_fail_6 : decode cR_fail 6 = .ok (.iload_n 2, 1) := by decide +kernel
theorem dR_fail_7 : decode cR_fail 7 = .ok (.putfield 22, 3) := by decide +kernel
theorem dR_fail_10 : decode cR_fail 10 = .ok (.iconst 0, 1) := by decide +kernel
theorem dR_fail_11 : decode cR_fail 11 = .ok (.ireturn, 1) := by decide +kernel
theorem dR_halfAhead_0 : decode cR_halfAhead 0 = .ok (.aload_n 0, 1) := by decide +kernel
theorem dR_halfAhead_1 : decode cR_halfAhead 1 = .ok (.getfield 31, 3) := by decide +kernel
theorem dR_halfAhead_4 : decode cR_halfAhead 4 = .ok (.aload_n 0, 1) := by decide +kernel
theorem dR_halfAhead_5 : decode cR_halfAhead 5 = .ok (.getfield 25, 3) := by decide +kernel
theorem dR_halfAhead_8 : decode cR_halfAhead 8 = .ok (.iload_n 1, 1) := by decide +kernel
theorem dR_halfAhead_9 : decode cR_halfAhead 9 = .ok (.iconst 2, 1) := by decide +kernel
theorem dR_halfAhead_10 : decode cR_halfAhead 10 = .ok (.idiv, 1) := by decide +kernel
theorem dR_halfAhead_11 : decode cR_halfAhead 11 = .ok (.iadd, 1) := by decide +kernel
theorem dR_halfAhead_12 : decode cR_halfAhead 12 = .ok (.invokevirtual 50, 3) := by decide +kernel
theorem dR_halfAhead_15 : decode cR_halfAhead 15 = .ok (.istore_n 2, 1) := by decide +kernel
theorem dR_halfAhead_16 : decode cR_halfAhead 16 = .ok (.iload_n 1, 1) := by decide +kernel
theorem dR_halfAhead_17 : decode cR_halfAhead 17 = .ok (.iconst 2, 1) := by decide +kernel
theorem dR_halfAhead_18 : decode cR_halfAhead 18 = .ok (.irem, 1) := by decide +kernel
theorem dR_halfAhead_19 : decode cR_halfAhead 19 = .ok (.ifCond .ne 9, 3) := by decide +kernel
theorem dR_halfAhead_22 : decode cR_halfAhead 22 = .ok (.iload_n 2, 1) := by decide +kernel
theorem dR_halfAhead_23 : decode cR_halfAhead 23 = .ok (.iconst 4, 1) := by decide +kernel
theorem dR_halfAhead_24 : decode cR_halfAhead 24 = .ok (.ishr, 1) := by decide +kernel
theorem dR_halfAhead_25 : decode cR_halfAhead 25 = .ok (.goto 7, 3) := by decide +kernel
theorem dR_halfAhead_28 : decode cR_halfAhead 28 = .ok (.iload_n 2, 1) := by decide +kernel
theorem dR_halfAhead_29 : decode cR_halfAhead 29 = .ok (.bipush 15, 2) := by decide +kernel
theorem dR_halfAhead_31 : decode cR_halfAhead 31 = .ok (.iand, 1) := by decide +kernel
theorem dR_halfAhead_32 : decode cR_halfAhead 32 = .ok (.ireturn, 1) := by decide +kernel
theorem dR_hasBit_0 : decode cR_hasBit 0 = .ok (.iload_n 1, 1) := by decide +kernel
theorem dR_hasBit_1 : decode cR_hasBit 1 = .ok (.istore_n 2, 1) := by decide +kernel
theorem dR_hasBit_2 : decode cR_hasBit 2 = .ok (.iload_n 2, 1) := by decide +kernel
theorem dR_hasBit_3 : decode cR_hasBit 3 = .ok (.iload_n 1, 1) := by decide +kernel
theorem dR_hasBit_4 : decode cR_hasBit 4 = .ok (.bipush 8, 2) := by decide +kernel
theorem dR_hasBit_6 : decode cR_hasBit 6 = .ok (.iadd, 1) := by decide +kernel
theorem dR_hasBit_7 : decode cR_hasBit 7 = .ok (.if_icmp .ge 22, 3) := by decide +kernel
theorem dR_hasBit_10 : decode cR_hasBit 10 = .ok (.aload_n 0, 1) := by decide +kernel
theorem dR_hasBit_11 : decode cR_hasBit 11 = .ok (.getfield 31, 3) := by decide +kernel
theorem dR_hasBit_14 : decode cR_hasBit 14 = .ok (.iload_n 2, 1) := by decide +kernel
theorem dR_hasBit_15 : decode cR_hasBit 15 = .ok (.invokevirtual 50, 3) := by decide +kernel
theorem dR_hasBit_18 : decode cR_hasBit 18 = .ok (.ifCond .eq 5, 3) := by decide +kernel
theorem dR_hasBit_21 : decode cR_hasBit 21 = .ok (.iconst 1, 1) := by decide +kernel
theorem dR_hasBit_22 : decode cR_hasBit 22 = .ok (.ireturn, 1) := by decide +kernel
theorem dR_hasBit_23 : decode cR_hasBit 23 = .ok (.iinc 2 1, 3) := by decide +kernel
theorem dR_hasBit_26 : decode cR_hasBit 26 = .ok (.goto (-24), 3) := by decide +kernel
theorem dR_hasBit_29 : decode cR_hasBit 29 = .ok (.iconst 0, 1) := by decide +kernel
theorem dR_hasBit_30 : decode cR_hasBit 30 = .ok (.ireturn, 1) := by decide +kernel
theorem dR_init_0 : decode cR_init 0 = .ok (.aload_n 0, 1) := by decide +kernel
theorem dR_init_1 : decode cR_init 1 = .ok (.invokespecial 3, 3) := by decide +kernel
theorem dR_init_4 : decode cR_init 4 = .ok (.aload_n 0, 1) := by decide +kernel
theorem dR_init_5 : decode cR_init 5 = .ok (.new 9, 3) := by decide +kernel
theorem dR_init_8 : decode cR_init 8 = .ok (.dup, 1) := by decide +kernel
theorem dR_init_9 : decode cR_init 9 = .ok (.invokespecial 11, 3) := by decide +kernel
theorem dR_init_12 : decode cR_init 12 = .ok (.putfield 12, 3) := by decide +kernel
theorem dR_init_15 : decode cR_init 15 = .ok (.aload_n 0, 1) := by decide +kernel
theorem dR_init_16 : decode cR_init 16 = .ok (.iconst 0, 1) := by decide +kernel
theorem dR_init_17 : decode cR_init 17 = .ok (.putfield 18, 3) := by decide +kernel
theorem dR_init_20 : decode cR_init 20 = .ok (.aload_n 0, 1) := by decide +kernel
theorem dR_init_21 : decode cR_init 21 = .ok (.iconst (-1), 1) := by decide +kernel
theorem dR_init_22 : decode cR_init 22 = .ok (.putfield 22, 3) := by decide +kernel
theorem dR_init_25 : decode cR_init 25 = .ok (.aload_n 0, 1) := by decide +kernel
theorem dR_init_26 : decode cR_init 26 = .ok (.iconst 0, 1) := by decide +kernel
theorem dR_init_27 : decode cR_init 27 = .ok (.putfield 25, 3) := by decide +kernel
theorem dR_init_30 : decode cR_init 30 = .ok (.aload_n 0, 1) := by decide +kernel
theorem dR_init_31 : decode cR_init 31 = .ok (.iconst 0, 1) := by decide +kernel
theorem dR_init_32 : decode cR_init 32 = .ok (.putfield 28, 3) := by decide +kernel
theorem dR_init_35 : decode cR_init 35 = .ok (.aload_n 0, 1) := by decide +kernel
theorem dR_init_36 : decode cR_init 36 = .ok (.aload_n 1, 1) := by decide +kernel
theorem dR_init_37 : decode cR_init 37 = .ok (.putfield 31, 3) := by decide +kernel
theorem dR_init_40 : decode cR_init 40 = .ok (.return_, 1) := by decide +kernel
theorem dR_isLetter_0 : decode cR_isLetter 0 = .ok (.iload_n 0, 1) := by decide +kernel
theorem dR_isLetter_1 : decode cR_isLetter 1 = .ok (.bipush 48, 2) := by decide +kernel
theorem dR_isLetter_3 : decode cR_isLetter 3 = .ok (.if_icmp .lt 9, 3) := by decide +kernel
theorem dR_isLetter_6 : decode cR_isLetter 6 = .ok (.iload_n 0, 1) := by decide +kernel
theorem dR_isLetter_7 : decode cR_isLetter 7 = .ok (.bipush 57, 2) := by decide +kernel
theorem dR_isLetter_9 : decode cR_isLetter 9 = .ok (.if_icmp .le 15, 3) := by decide +kernel
theorem dR_isLetter_12 : decode cR_isLetter 12 = .ok (.iload_n 0, 1) := by decide +kernel
theorem dR_isLetter_13 : decode cR_isLetter 13 = .ok (.bipush 65, 2) := by decide +kernel
theorem dR_isLetter_15 : decode cR_isLetter 15 = .ok (.if_icmp .lt 13, 3) := by decide +kernel
theorem dR_isLetter_18 : decode cR_isLetter 18 = .ok (.iload_n 0, 1) := by decide +kernel
theorem dR_isLetter_19 : decode cR_isLetter 19 = .ok (.bipush 90, 2) := by decide +kernel
theorem dR_isLetter_21 : decode cR_isLetter 21 = .ok (.if_icmp .gt 7, 3) := by decide +kernel
theorem dR_isLetter_24 : decode cR_isLetter 24 = .ok (.iconst 1, 1) := by decide +kernel
theorem dR_isLetter_25 : decode cR_isLetter 25 = .ok (.goto 4, 3) := by decide +kernel
theorem dR_isLetter_28 : decode cR_isLetter 28 = .ok (.iconst 0, 1) := by decide +kernel
theorem dR_isLetter_29 : decode cR_isLetter 29 = .ok (.ireturn, 1) := by decide +kernel
theorem dR_reaches_0 : decode cR_reaches 0 = .ok (.iload_n 1, 1) := by decide +kernel
theorem dR_reaches_1 : decode cR_reaches 1 = .ok (.aload_n 0, 1) := by decide +kernel
theorem dR_reaches_2 : decode cR_reaches 2 = .ok (.getfield 31, 3) := by decide +kernel
theorem dR_reaches_5 : decode cR_reaches 5 = .ok (.getfield 62, 3) := by decide +kernel
theorem dR_reaches_8 : decode cR_reaches 8 = .ok (.aload_n 0, 1) := by decide +kernel
theorem dR_reaches_9 : decode cR_reaches 9 = .ok (.getfield 25, 3) := by decide +kernel
theorem dR_reaches_12 : decode cR_reaches 12 = .ok (.isub, 1) := by decide +kernel
theorem dR_reaches_13 : decode cR_reaches 13 = .ok (.if_icmp .le 18, 3) := by decide +kernel
theorem dR_reaches_16 : decode cR_reaches 16 = .ok (.aload_n 0, 1) := by decide +kernel
theorem dR_reaches_17 : decode cR_reaches 17 = .ok (.iconst 1, 1) := by decide +kernel
theorem dR_reaches_18 : decode cR_reaches 18 = .ok (.aload_n 0, 1) := by decide +kernel
theorem dR_reaches_19 : decode cR_reaches 19 = .ok (.getfield 31, 3) := by decide +kernel
theorem dR_reaches_22 : decode cR_reaches 22 = .ok (.getfield 62, 3) := by decide +kernel
theorem dR_reaches_25 : decode cR_reaches 25 = .ok (.invokevirtual 65, 3) := by decide +kernel
theorem dR_reaches_28 : decode cR_reaches 28 = .ok (.ifCond .eq 7, 3) := by decide +kernel
theorem dR_reaches_31 : decode cR_reaches 31 = .ok (.iconst 1, 1) := by decide +kernel
theorem dR_reaches_32 : decode cR_reaches 32 = .ok (.goto 4, 3) := by decide +kernel
theorem dR_reaches_35 : decode cR_reaches 35 = .ok (.iconst 0, 1) := by decide +kernel
theorem dR_reaches_36 : decode cR_reaches 36 = .ok (.ireturn, 1) := by decide +kernel
theorem dR_walk_0 : decode cR_walk 0 = .ok (.aload_n 0, 1) := by decide +kernel
theorem dR_walk_1 : decode cR_walk 1 = .ok (.iconst 0, 1) := by decide +kernel
theorem dR_walk_2 : decode cR_walk 2 = .ok (.putfield 18, 3) := by decide +kernel
theorem dR_walk_5 : decode cR_walk 5 = .ok (.aload_n 0, 1) := by decide +kernel
theorem dR_walk_6 : decode cR_walk 6 = .ok (.iconst (-1), 1) := by decide +kernel
theorem dR_walk_7 : decode cR_walk 7 = .ok (.putfield 22, 3) := by decide +kernel
theorem dR_walk_10 : decode cR_walk 10 = .ok (.aload_n 0, 1) := by decide +kernel
theorem dR_walk_11 : decode cR_walk 11 = .ok (.iconst 0, 1) := by decide +kernel
theorem dR_walk_12 : decode cR_walk 12 = .ok (.putfield 25, 3) := by decide +kernel
theorem dR_walk_15 : decode cR_walk 15 = .ok (.aload_n 0, 1) := by decide +kernel
theorem dR_walk_16 : decode cR_walk 16 = .ok (.invokevirtual 35, 3) := by decide +kernel
theorem dR_walk_19 : decode cR_walk 19 = .ok (.ifCond .ne 5, 3) := by decide +kernel
theorem dR_walk_22 : decode cR_walk 22 = .ok (.iconst 0, 1) := by decide +kernel
theorem dR_walk_23 : decode cR_walk 23 = .ok (.ireturn, 1) := by decide +kernel
theorem dR_walk_24 : decode cR_walk 24 = .ok (.aload_n 0, 1) := by decide +kernel
theorem dR_walk_25 : decode cR_walk 25 = .ok (.getfield 25, 3) := by decide +kernel
theorem dR_walk_28 : decode cR_walk 28 = .ok (.istore_n 1, 1) := by decide +kernel
theorem dR_walk_29 : decode cR_walk 29 = .ok (.aload_n 0, 1) := by decide +kernel
theorem dR_walk_30 : decode cR_walk 30 = .ok (.invokevirtual 39, 3) := by decide +kernel
theorem dR_walk_33 : decode cR_walk 33 = .ok (.ifCond .ne 5, 3) := by decide +kernel
theorem dR_walk_36 : decode cR_walk 36 = .ok (.iconst 0, 1) := by decide +kernel
theorem dR_walk_37 : decode cR_walk 37 = .ok (.ireturn, 1) := by decide +kernel
theorem dR_walk_38 : decode cR_walk 38 = .ok (.aload_n 0, 1) := by decide +kernel
theorem dR_walk_39 : decode cR_walk 39 = .ok (.getfield 25, 3) := by decide +kernel
theorem dR_walk_42 : decode cR_walk 42 = .ok (.istore_n 2, 1) := by decide +kernel
theorem dR_walk_43 : decode cR_walk 43 = .ok (.iconst 0, 1) := by decide +kernel
theorem dR_walk_44 : decode cR_walk 44 = .ok (.istore_n 3, 1) := by decide +kernel
theorem dR_walk_45 : decode cR_walk 45 = .ok (.iload_n 3, 1) := by decide +kernel
theorem dR_walk_46 : decode cR_walk 46 = .ok (.bipush 16, 2) := by decide +kernel
theorem dR_walk_48 : decode cR_walk 48 = .ok (.if_icmp .ge 58, 3) := by decide +kernel
theorem dR_walk_51 : decode cR_walk 51 = .ok (.iload_n 1, 1) := by decide +kernel
theorem dR_walk_52 : decode cR_walk 52 = .ok (.getstatic 42, 3) := by decide +kernel
theorem dR_walk_55 : decode cR_walk 55 = .ok (.iload_n 3, 1) := by decide +kernel
theorem dR_walk_56 : decode cR_walk 56 = .ok (.iaload, 1) := by decide +kernel
theorem dR_walk_57 : decode cR_walk 57 = .ok (.invokestatic 46, 3) := by decide +kernel
theorem dR_walk_60 : decode cR_walk 60 = .ok (.iadd, 1) := by decide +kernel
theorem dR_walk_61 : decode cR_walk 61 = .ok (.istore 4, 2) := by decide +kernel
theorem dR_walk_63 : decode cR_walk 63 = .ok (.iload 4, 2) := by decide +kernel
theorem dR_walk_65 : decode cR_walk 65 = .ok (.iload_n 2, 1) := by decide +kernel
theorem dR_walk_66 : decode cR_walk 66 = .ok (.if_icmp .ge 34, 3) := by decide +kernel
theorem dR_walk_69 : decode cR_walk 69 = .ok (.aload_n 0, 1) := by decide +kernel
theorem dR_walk_70 : decode cR_walk 70 = .ok (.getfield 31, 3) := by decide +kernel
theorem dR_walk_73 : decode cR_walk 73 = .ok (.iload 4, 2) := by decide +kernel
theorem dR_walk_75 : decode cR_walk 75 = .ok (.invokevirtual 50, 3) := by decide +kernel
theorem dR_walk_78 : decode cR_walk 78 = .ok (.getstatic 42, 3) := by decide +kernel
theorem dR_walk_81 : decode cR_walk 81 = .ok (.iload_n 3, 1) := by decide +kernel
theorem dR_walk_82 : decode cR_walk 82 = .ok (.iaload, 1) := by decide +kernel
theorem dR_walk_83 : decode cR_walk 83 = .ok (.invokestatic 55, 3) := by decide +kernel
theorem dR_walk_86 : decode cR_walk 86 = .ok (.iand, 1) := by decide +kernel
theorem dR_walk_87 : decode cR_walk 87 = .ok (.ifCond .eq 13, 3) := by decide +kernel
theorem dR_walk_90 : decode cR_walk 90 = .ok (.aload_n 0, 1) := by decide +kernel
theorem dR_walk_91 : decode cR_walk 91 = .ok (.iload_n 3, 1) := by decide +kernel
theorem dR_walk_92 : decode cR_walk 92 = .ok (.invokevirtual 58, 3) := by decide +kernel
theorem dR_walk_95 : decode cR_walk 95 = .ok (.ifCond .ne 5, 3) := by decide +kernel
theorem dR_walk_98 : decode cR_walk 98 = .ok (.iconst 0, 1) := by decide +kernel
theorem dR_walk_99 : decode cR_walk 99 = .ok (.ireturn, 1) := by decide +kernel
theorem dR_walk_100 : decode cR_walk 100 = .ok (.iinc 3 1, 3) := by decide +kernel
theorem dR_walk_103 : decode cR_walk 103 = .ok (.goto (-58), 3) := by decide +kernel
theorem dR_walk_106 : decode cR_walk 106 = .ok (.aload_n 0, 1) := by decide +kernel
theorem dR_walk_107 : decode cR_walk 107 = .ok (.getfield 25, 3) := by decide +kernel
theorem dR_walk_110 : decode cR_walk 110 = .ok (.aload_n 0, 1) := by decide +kernel
theorem dR_walk_111 : decode cR_walk 111 = .ok (.getfield 31, 3) := by decide +kernel
theorem dR_walk_114 : decode cR_walk 114 = .ok (.getfield 62, 3) := by decide +kernel
theorem dR_walk_117 : decode cR_walk 117 = .ok (.if_icmp .eq 16, 3) := by decide +kernel
theorem dR_walk_120 : decode cR_walk 120 = .ok (.aload_n 0, 1) := by decide +kernel
theorem dR_walk_121 : decode cR_walk 121 = .ok (.bipush 7, 2) := by decide +kernel
theorem dR_walk_123 : decode cR_walk 123 = .ok (.aload_n 0, 1) := by decide +kernel
theorem dR_walk_124 : decode cR_walk 124 = .ok (.getfield 25, 3) := by decide +kernel
theorem dR_walk_127 : decode cR_walk 127 = .ok (.invokevirtual 65, 3) := by decide +kernel
theorem dR_walk_130 : decode cR_walk 130 = .ok (.ifCond .eq 7, 3) := by decide +kernel
theorem dR_walk_133 : decode cR_walk 133 = .ok (.iconst 1, 1) := by decide +kernel
theorem dR_walk_134 : decode cR_walk 134 = .ok (.goto 4, 3) := by decide +kernel
theorem dR_walk_137 : decode cR_walk 137 = .ok (.iconst 0, 1) := by decide +kernel
theorem dR_walk_138 : decode cR_walk 138 = .ok (.ireturn, 1) := by decide +kernel
theorem dR_walkDigits_0 : decode cR_walkDigits 0 = .ok (.aload_n 0, 1) := by decide +kernel
theorem dR_walkDigits_1 : decode cR_walkDigits 1 = .ok (.iload_n 2, 1) := by decide +kernel
theorem dR_walkDigits_2 : decode cR_walkDigits 2 = .ok (.invokevirtual 103, 3) := by decide +kernel
theorem dR_walkDigits_5 : decode cR_walkDigits 5 = .ok (.ifCond .ne 5, 3) := by decide +kernel
theorem dR_walkDigits_8 : decode cR_walkDigits 8 = .ok (.iconst 0, 1) := by decide +kernel
theorem dR_walkDigits_9 : decode cR_walkDigits 9 = .ok (.ireturn, 1) := by decide +kernel
theorem dR_walkDigits_10 : decode cR_walkDigits 10 = .ok (.iconst 0, 1) := by decide +kernel
theorem dR_walkDigits_11 : decode cR_walkDigits 11 = .ok (.istore_n 3, 1) := by decide +kernel
theorem dR_walkDigits_12 : decode cR_walkDigits 12 = .ok (.iload_n 3, 1) := by decide +kernel
theorem dR_walkDigits_13 : decode cR_walkDigits 13 = .ok (.iload_n 2, 1) := by decide +kernel
theorem dR_walkDigits_14 : decode cR_walkDigits 14 = .ok (.if_icmp .ge 24, 3) := by decide +kernel
theorem dR_walkDigits_17 : decode cR_walkDigits 17 = .ok (.aload_n 0, 1) := by decide +kernel
theorem dR_walkDigits_18 : decode cR_walkDigits 18 = .ok (.getfield 12, 3) := by decide +kernel
theorem dR_walkDigits_21 : decode cR_walkDigits 21 = .ok (.iload_n 1, 1) := by decide +kernel
theorem dR_walkDigits_22 : decode cR_walkDigits 22 = .ok (.iload_n 3, 1) := by decide +kernel
theorem dR_walkDigits_23 : decode cR_walkDigits 23 = .ok (.aload_n 0, 1) := by decide +kernel
theorem dR_walkDigits_24 : decode cR_walkDigits 24 = .ok (.iload_n 3, 1) := by decide +kernel
theorem dR_walkDigits_25 : decode cR_walkDigits 25 = .ok (.iload_n 2, 1) := by decide +kernel
theorem dR_walkDigits_26 : decode cR_walkDigits 26 = .ok (.invokevirtual 106, 3) := by decide +kernel
theorem dR_walkDigits_29 : decode cR_walkDigits 29 = .ok (.invokevirtual 113, 3) := by decide +kernel
theorem dR_walkDigits_32 : decode cR_walkDigits 32 = .ok (.iinc 3 1, 3) := by decide +kernel
theorem dR_walkDigits_35 : decode cR_walkDigits 35 = .ok (.goto (-23), 3) := by decide +kernel
theorem dR_walkDigits_38 : decode cR_walkDigits 38 = .ok (.aload_n 0, 1) := by decide +kernel
theorem dR_walkDigits_39 : decode cR_walkDigits 39 = .ok (.getfield 12, 3) := by decide +kernel
theorem dR_walkDigits_42 : decode cR_walkDigits 42 = .ok (.getfield 117, 3) := by decide +kernel
theorem dR_walkDigits_45 : decode cR_walkDigits 45 = .ok (.iload_n 1, 1) := by decide +kernel
theorem dR_walkDigits_46 : decode cR_walkDigits 46 = .ok (.iload_n 2, 1) := by decide +kernel
theorem dR_walkDigits_47 : decode cR_walkDigits 47 = .ok (.iastore, 1) := by decide +kernel
theorem dR_walkDigits_48 : decode cR_walkDigits 48 = .ok (.aload_n 0, 1) := by decide +kernel
theorem dR_walkDigits_49 : decode cR_walkDigits 49 = .ok (.dup, 1) := by decide +kernel
theorem dR_walkDigits_50 : decode cR_walkDigits 50 = .ok (.getfield 25, 3) := by decide +kernel
theorem dR_walkDigits_53 : decode cR_walkDigits 53 = .ok (.iload_n 2, 1) := by decide +kernel
theorem dR_walkDigits_54 : decode cR_walkDigits 54 = .ok (.invokestatic 110, 3) := by decide +kernel
theorem dR_walkDigits_57 : decode cR_walkDigits 57 = .ok (.iadd, 1) := by decide +kernel
theorem dR_walkDigits_58 : decode cR_walkDigits 58 = .ok (.putfield 25, 3) := by decide +kernel
theorem dR_walkDigits_61 : decode cR_walkDigits 61 = .ok (.iconst 1, 1) := by decide +kernel
theorem dR_walkDigits_62 : decode cR_walkDigits 62 = .ok (.ireturn, 1) := by decide +kernel
theorem dR_walkField_0 : decode cR_walkField 0 = .ok (.getstatic 88, 3) := by decide +kernel
theorem dR_walkField_3 : decode cR_walkField 3 = .ok (.iload_n 1, 1) := by decide +kernel
theorem dR_walkField_4 : decode cR_walkField 4 = .ok (.iaload, 1) := by decide +kernel
theorem dR_walkField_5 : decode cR_walkField 5 = .ok (.istore_n 2, 1) := by decide +kernel
theorem dR_walkField_6 : decode cR_walkField 6 = .ok (.getstatic 91, 3) := by decide +kernel
theorem dR_walkField_9 : decode cR_walkField 9 = .ok (.iload_n 1, 1) := by decide +kernel
theorem dR_walkField_10 : decode cR_walkField 10 = .ok (.iaload, 1) := by decide +kernel
theorem dR_walkField_11 : decode cR_walkField 11 = .ok (.ifCond .eq 48, 3) := by decide +kernel
theorem dR_walkField_14 : decode cR_walkField 14 = .ok (.aload_n 0, 1) := by decide +kernel
theorem dR_walkField_15 : decode cR_walkField 15 = .ok (.getfield 25, 3) := by decide +kernel
theorem dR_walkField_18 : decode cR_walkField 18 = .ok (.istore_n 3, 1) := by decide +kernel
theorem dR_walkField_19 : decode cR_walkField 19 = .ok (.aload_n 0, 1) := by decide +kernel
theorem dR_walkField_20 : decode cR_walkField 20 = .ok (.getstatic 91, 3) := by decide +kernel
theorem dR_walkField_23 : decode cR_walkField 23 = .ok (.iload_n 1, 1) := by decide +kernel
theorem dR_walkField_24 : decode cR_walkField 24 = .ok (.iaload, 1) := by decide +kernel
theorem dR_walkField_25 : decode cR_walkField 25 = .ok (.invokevirtual 69, 3) := by decide +kernel
theorem dR_walkField_28 : decode cR_walkField 28 = .ok (.ifCond .ne 5, 3) := by decide +kernel
theorem dR_walkField_31 : decode cR_walkField 31 = .ok (.iconst 0, 1) := by decide +kernel
theorem dR_walkField_32 : decode cR_walkField 32 = .ok (.ireturn, 1) := by decide +kernel
theorem dR_walkField_33 : decode cR_walkField 33 = .ok (.aload_n 0, 1) := by decide +kernel
theorem dR_walkField_34 : decode cR_walkField 34 = .ok (.getfield 28, 3) := by decide +kernel
theorem dR_walkField_37 : decode cR_walkField 37 = .ok (.istore_n 2, 1) := by decide +kernel
theorem dR_walkField_38 : decode cR_walkField 38 = .ok (.iload_n 2, 1) := by decide +kernel
theorem dR_walkField_39 : decode cR_walkField 39 = .ok (.iconst 1, 1) := by decide +kernel
theorem dR_walkField_40 : decode cR_walkField 40 = .ok (.if_icmp .lt 12, 3) := by decide +kernel
theorem dR_walkField_43 : decode cR_walkField 43 = .ok (.iload_n 2, 1) := by decide +kernel
theorem dR_walkField_44 : decode cR_walkField 44 = .ok (.getstatic 88, 3) := by decide +kernel
theorem dR_walkField_47 : decode cR_walkField 47 = .ok (.iload_n 1, 1) := by decide +kernel
theorem dR_walkField_48 : decode cR_walkField 48 = .ok (.iaload, 1) := by decide +kernel
theorem dR_walkField_49 : decode cR_walkField 49 = .ok (.if_icmp .le 10, 3) := by decide +kernel
theorem dR_walkField_52 : decode cR_walkField 52 = .ok (.aload_n 0, 1) := by decide +kernel
theorem dR_walkField_53 : decode cR_walkField 53 = .ok (.iconst 5, 1) := by decide +kernel
theorem dR_walkField_54 : decode cR_walkField 54 = .ok (.iload_n 3, 1) := by decide +kernel
theorem dR_walkField_55 : decode cR_walkField 55 = .ok (.invokevirtual 65, 3) := by decide +kernel
theorem dR_walkField_58 : decode cR_walkField 58 = .ok (.ireturn, 1) := by decide +kernel
theorem dR_walkField_59 : decode cR_walkField 59 = .ok (.getstatic 94, 3) := by decide +kernel
theorem dR_walkField_62 : decode cR_walkField 62 = .ok (.iload_n 1, 1) := by decide +kernel
theorem dR_walkField_63 : decode cR_walkField 63 = .ok (.iaload, 1) := by decide +kernel
theorem dR_walkField_64 : decode cR_walkField 64 = .ok (.ifCond .eq 12, 3) := by decide +kernel
theorem dR_walkField_67 : decode cR_walkField 67 = .ok (.aload_n 0, 1) := by decide +kernel
theorem dR_walkField_68 : decode cR_walkField 68 = .ok (.iload_n 1, 1) := by decide +kernel
theorem dR_walkField_69 : decode cR_walkField 69 = .ok (.iload_n 2, 1) := by decide +kernel
theorem dR_walkField_70 : decode cR_walkField 70 = .ok (.invokevirtual 97, 3) := by decide +kernel
theorem dR_walkField_73 : decode cR_walkField 73 = .ok (.goto 9, 3) := by decide +kernel
theorem dR_walkField_76 : decode cR_walkField 76 = .ok (.aload_n 0, 1) := by decide +kernel
theorem dR_walkField_77 : decode cR_walkField 77 = .ok (.iload_n 1, 1) := by decide +kernel
theorem dR_walkField_78 : decode cR_walkField 78 = .ok (.iload_n 2, 1) := by decide +kernel
theorem dR_walkField_79 : decode cR_walkField 79 = .ok (.invokevirtual 100, 3) := by decide +kernel
theorem dR_walkField_82 : decode cR_walkField 82 = .ok (.ireturn, 1) := by decide +kernel
theorem dR_walkLetters_0 : decode cR_walkLetters 0 = .ok (.aload_n 0, 1) := by decide +kernel
theorem dR_walkLetters_1 : decode cR_walkLetters 1 = .ok (.iload_n 2, 1) := by decide +kernel
theorem dR_walkLetters_2 : decode cR_walkLetters 2 = .ok (.invokevirtual 79, 3) := by decide +kernel
theorem dR_walkLetters_5 : decode cR_walkLetters 5 = .ok (.ifCond .ne 5, 3) := by decide +kernel
theorem dR_walkLetters_8 : decode cR_walkLetters 8 = .ok (.iconst 0, 1) := by decide +kernel
theorem dR_walkLetters_9 : decode cR_walkLetters 9 = .ok (.ireturn, 1) := by decide +kernel
theorem dR_walkLetters_10 : decode cR_walkLetters 10 = .ok (.iconst 0, 1) := by decide +kernel
theorem dR_walkLetters_11 : decode cR_walkLetters 11 = .ok (.istore_n 3, 1) := by decide +kernel
theorem dR_walkLetters_12 : decode cR_walkLetters 12 = .ok (.iload_n 3, 1) := by decide +kernel
theorem dR_walkLetters_13 : decode cR_walkLetters 13 = .ok (.iload_n 2, 1) := by decide +kernel
theorem dR_walkLetters_14 : decode cR_walkLetters 14 = .ok (.if_icmp .ge 56, 3) := by decide +kernel
theorem dR_walkLetters_17 : decode cR_walkLetters 17 = .ok (.aload_n 0, 1) := by decide +kernel
theorem dR_walkLetters_18 : decode cR_walkLetters 18 = .ok (.getfield 31, 3) := by decide +kernel
theorem dR_walkLetters_21 : decode cR_walkLetters 21 = .ok (.aload_n 0, 1) := by decide +kernel
theorem dR_walkLetters_22 : decode cR_walkLetters 22 = .ok (.getfield 25, 3) := by decide +kernel
theorem dR_walkLetters_25 : decode cR_walkLetters 25 = .ok (.iload_n 3, 1) := by decide +kernel
theorem dR_walkLetters_26 : decode cR_walkLetters 26 = .ok (.iadd, 1) := by decide +kernel
theorem dR_walkLetters_27 : decode cR_walkLetters 27 = .ok (.invokevirtual 50, 3) := by decide +kernel
theorem dR_walkLetters_30 : decode cR_walkLetters 30 = .ok (.istore 4, 2) := by decide +kernel
theorem dR_walkLetters_32 : decode cR_walkLetters 32 = .ok (.iload 4, 2) := by decide +kernel
theorem dR_walkLetters_34 : decode cR_walkLetters 34 = .ok (.invokestatic 120, 3) := by decide +kernel
theorem dR_walkLetters_37 : decode cR_walkLetters 37 = .ok (.ifCond .ne 16, 3) := by decide +kernel
theorem dR_walkLetters_40 : decode cR_walkLetters 40 = .ok (.aload_n 0, 1) := by decide +kernel
theorem dR_walkLetters_41 : decode cR_walkLetters 41 = .ok (.bipush 6, 2) := by decide +kernel
theorem dR_walkLetters_43 : decode cR_walkLetters 43 = .ok (.aload_n 0, 1) := by decide +kernel
theorem dR_walkLetters_44 : decode cR_walkLetters 44 = .ok (.getfield 25, 3) := by decide +kernel
theorem dR_walkLetters_47 : decode cR_walkLetters 47 = .ok (.iload_n 3, 1) := by decide +kernel
theorem dR_walkLetters_48 : decode cR_walkLetters 48 = .ok (.iadd, 1) := by decide +kernel
theorem dR_walkLetters_49 : decode cR_walkLetters 49 = .ok (.invokevirtual 65, 3) := by decide +kernel
theorem dR_walkLetters_52 : decode cR_walkLetters 52 = .ok (.ireturn, 1) := by decide +kernel
theorem dR_walkLetters_53 : decode cR_walkLetters 53 = .ok (.aload_n 0, 1) := by decide +kernel
theorem dR_walkLetters_54 : decode cR_walkLetters 54 = .ok (.getfield 12, 3) := by decide +kernel
theorem dR_walkLetters_57 : decode cR_walkLetters 57 = .ok (.iload_n 1, 1) := by decide +kernel
theorem dR_walkLetters_58 : decode cR_walkLetters 58 = .ok (.iload_n 3, 1) := by decide +kernel
theorem dR_walkLetters_59 : decode cR_walkLetters 59 = .ok (.iload 4, 2) := by decide +kernel
theorem dR_walkLetters_61 : decode cR_walkLetters 61 = .ok (.invokevirtual 113, 3) := by decide +kernel
theorem dR_walkLetters_64 : decode cR_walkLetters 64 = .ok (.iinc 3 1, 3) := by decide +kernel
theorem dR_walkLetters_67 : decode cR_walkLetters 67 = .ok (.goto (-55), 3) := by decide +kernel
theorem dR_walkLetters_70 : decode cR_walkLetters 70 = .ok (.aload_n 0, 1) := by decide +kernel
theorem dR_walkLetters_71 : decode cR_walkLetters 71 = .ok (.getfield 12, 3) := by decide +kernel
theorem dR_walkLetters_74 : decode cR_walkLetters 74 = .ok (.getfield 117, 3) := by decide +kernel
theorem dR_walkLetters_77 : decode cR_walkLetters 77 = .ok (.iload_n 1, 1) := by decide +kernel
theorem dR_walkLetters_78 : decode cR_walkLetters 78 = .ok (.iload_n 2, 1) := by decide +kernel
theorem dR_walkLetters_79 : decode cR_walkLetters 79 = .ok (.iastore, 1) := by decide +kernel
theorem dR_walkLetters_80 : decode cR_walkLetters 80 = .ok (.aload_n 0, 1) := by decide +kernel
theorem dR_walkLetters_81 : decode cR_walkLetters 81 = .ok (.dup, 1) := by decide +kernel
theorem dR_walkLetters_82 : decode cR_walkLetters 82 = .ok (.getfield 25, 3) := by decide +kernel
theorem dR_walkLetters_85 : decode cR_walkLetters 85 = .ok (.iload_n 2, 1) := by decide +kernel
theorem dR_walkLetters_86 : decode cR_walkLetters 86 = .ok (.iadd, 1) := by decide +kernel
theorem dR_walkLetters_87 : decode cR_walkLetters 87 = .ok (.putfield 25, 3) := by decide +kernel
theorem dR_walkLetters_90 : decode cR_walkLetters 90 = .ok (.iconst 1, 1) := by decide +kernel
theorem dR_walkLetters_91 : decode cR_walkLetters 91 = .ok (.ireturn, 1) := by decide +kernel
theorem dR_walkMaps_0 : decode cR_walkMaps 0 = .ok (.aload_n 0, 1) := by decide +kernel
theorem dR_walkMaps_1 : decode cR_walkMaps 1 = .ok (.getfield 25, 3) := by decide +kernel
theorem dR_walkMaps_4 : decode cR_walkMaps 4 = .ok (.istore_n 1, 1) := by decide +kernel
theorem dR_walkMaps_5 : decode cR_walkMaps 5 = .ok (.aload_n 0, 1) := by decide +kernel
theorem dR_walkMaps_6 : decode cR_walkMaps 6 = .ok (.bipush 8, 2) := by decide +kernel
theorem dR_walkMaps_8 : decode cR_walkMaps 8 = .ok (.invokevirtual 79, 3) := by decide +kernel
theorem dR_walkMaps_11 : decode cR_walkMaps 11 = .ok (.ifCond .ne 5, 3) := by decide +kernel
theorem dR_walkMaps_14 : decode cR_walkMaps 14 = .ok (.iconst 0, 1) := by decide +kernel
theorem dR_walkMaps_15 : decode cR_walkMaps 15 = .ok (.ireturn, 1) := by decide +kernel
theorem dR_walkMaps_16 : decode cR_walkMaps 16 = .ok (.aload_n 0, 1) := by decide +kernel
theorem dR_walkMaps_17 : decode cR_walkMaps 17 = .ok (.dup, 1) := by decide +kernel
theorem dR_walkMaps_18 : decode cR_walkMaps 18 = .ok (.getfield 25, 3) := by decide +kernel
theorem dR_walkMaps_21 : decode cR_walkMaps 21 = .ok (.bipush 8, 2) := by decide +kernel
theorem dR_walkMaps_23 : decode cR_walkMaps 23 = .ok (.iadd, 1) := by decide +kernel
theorem dR_walkMaps_24 : decode cR_walkMaps 24 = .ok (.putfield 25, 3) := by decide +kernel
theorem dR_walkMaps_27 : decode cR_walkMaps 27 = .ok (.aload_n 0, 1) := by decide +kernel
theorem dR_walkMaps_28 : decode cR_walkMaps 28 = .ok (.getfield 31, 3) := by decide +kernel
theorem dR_walkMaps_31 : decode cR_walkMaps 31 = .ok (.iload_n 1, 1) := by decide +kernel
theorem dR_walkMaps_32 : decode cR_walkMaps 32 = .ok (.invokevirtual 50, 3) := by decide +kernel
theorem dR_walkMaps_35 : decode cR_walkMaps 35 = .ok (.sipush 128, 3) := by decide +kernel
theorem dR_walkMaps_38 : decode cR_walkMaps 38 = .ok (.iand, 1) := by decide +kernel
theorem dR_walkMaps_39 : decode cR_walkMaps 39 = .ok (.ifCond .eq 7, 3) := by decide +kernel
theorem dR_walkMaps_42 : decode cR_walkMaps 42 = .ok (.iconst 1, 1) := by decide +kernel
theorem dR_walkMaps_43 : decode cR_walkMaps 43 = .ok (.goto 4, 3) := by decide +kernel
theorem dR_walkMaps_46 : decode cR_walkMaps 46 = .ok (.iconst 0, 1) := by decide +kernel
theorem dR_walkMaps_47 : decode cR_walkMaps 47 = .ok (.istore_n 2, 1) := by decide +kernel
theorem dR_walkMaps_48 : decode cR_walkMaps 48 = .ok (.iload_n 2, 1) := by decide +kernel
theorem dR_walkMaps_49 : decode cR_walkMaps 49 = .ok (.ifCond .eq 25, 3) := by decide +kernel
theorem dR_walkMaps_52 : decode cR_walkMaps 52 = .ok (.aload_n 0, 1) := by decide +kernel
theorem dR_walkMaps_53 : decode cR_walkMaps 53 = .ok (.bipush 8, 2) := by decide +kernel
theorem dR_walkMaps_55 : decode cR_walkMaps 55 = .ok (.invokevirtual 79, 3) := by decide +kernel
theorem dR_walkMaps_58 : decode cR_walkMaps 58 = .ok (.ifCond .ne 5, 3) := by decide +kernel
theorem dR_walkMaps_61 : decode cR_walkMaps 61 = .ok (.iconst 0, 1) := by decide +kernel
theorem dR_walkMaps_62 : decode cR_walkMaps 62 = .ok (.ireturn, 1) := by decide +kernel
theorem dR_walkMaps_63 : decode cR_walkMaps 63 = .ok (.aload_n 0, 1) := by decide +kernel
theorem dR_walkMaps_64 : decode cR_walkMaps 64 = .ok (.dup, 1) := by decide +kernel
theorem dR_walkMaps_65 : decode cR_walkMaps 65 = .ok (.getfield 25, 3) := by decide +kernel
theorem dR_walkMaps_68 : decode cR_walkMaps 68 = .ok (.bipush 8, 2) := by decide +kernel
theorem dR_walkMaps_70 : decode cR_walkMaps 70 = .ok (.iadd, 1) := by decide +kernel
theorem dR_walkMaps_71 : decode cR_walkMaps 71 = .ok (.putfield 25, 3) := by decide +kernel
theorem dR_walkMaps_74 : decode cR_walkMaps 74 = .ok (.iload_n 1, 1) := by decide +kernel
theorem dR_walkMaps_75 : decode cR_walkMaps 75 = .ok (.istore_n 3, 1) := by decide +kernel
theorem dR_walkMaps_76 : decode cR_walkMaps 76 = .ok (.iload_n 3, 1) := by decide +kernel
theorem dR_walkMaps_77 : decode cR_walkMaps 77 = .ok (.aload_n 0, 1) := by decide +kernel
theorem dR_walkMaps_78 : decode cR_walkMaps 78 = .ok (.getfield 25, 3) := by decide +kernel
theorem dR_walkMaps_81 : decode cR_walkMaps 81 = .ok (.if_icmp .ge 37, 3) := by decide +kernel
theorem dR_walkMaps_84 : decode cR_walkMaps 84 = .ok (.aload_n 0, 1) := by decide +kernel
theorem dR_walkMaps_85 : decode cR_walkMaps 85 = .ok (.getfield 31, 3) := by decide +kernel
theorem dR_walkMaps_88 : decode cR_walkMaps 88 = .ok (.iload_n 3, 1) := by decide +kernel
theorem dR_walkMaps_89 : decode cR_walkMaps 89 = .ok (.invokevirtual 50, 3) := by decide +kernel
theorem dR_walkMaps_92 : decode cR_walkMaps 92 = .ok (.getstatic 82, 3) := by decide +kernel
theorem dR_walkMaps_95 : decode cR_walkMaps 95 = .ok (.iload_n 3, 1) := by decide +kernel
theorem dR_walkMaps_96 : decode cR_walkMaps 96 = .ok (.iload_n 1, 1) := by decide +kernel
theorem dR_walkMaps_97 : decode cR_walkMaps 97 = .ok (.isub, 1) := by decide +kernel
theorem dR_walkMaps_98 : decode cR_walkMaps 98 = .ok (.iaload, 1) := by decide +kernel
theorem dR_walkMaps_99 : decode cR_walkMaps 99 = .ok (.iconst (-1), 1) := by decide +kernel
theorem dR_walkMaps_100 : decode cR_walkMaps 100 = .ok (.ixor, 1) := by decide +kernel
theorem dR_walkMaps_101 : decode cR_walkMaps 101 = .ok (.iand, 1) := by decide +kernel
theorem dR_walkMaps_102 : decode cR_walkMaps 102 = .ok (.ifCond .eq 10, 3) := by decide +kernel
theorem dR_walkMaps_105 : decode cR_walkMaps 105 = .ok (.aload_n 0, 1) := by decide +kernel
theorem dR_walkMaps_106 : decode cR_walkMaps 106 = .ok (.iconst 4, 1) := by decide +kernel
theorem dR_walkMaps_107 : decode cR_walkMaps 107 = .ok (.iload_n 3, 1) := by decide +kernel
theorem dR_walkMaps_108 : decode cR_walkMaps 108 = .ok (.invokevirtual 65, 3) := by decide +kernel
theorem dR_walkMaps_111 : decode cR_walkMaps 111 = .ok (.ireturn, 1) := by decide +kernel
theorem dR_walkMaps_112 : decode cR_walkMaps 112 = .ok (.iinc 3 1, 3) := by decide +kernel
theorem dR_walkMaps_115 : decode cR_walkMaps 115 = .ok (.goto (-39), 3) := by decide +kernel
theorem dR_walkMaps_118 : decode cR_walkMaps 118 = .ok (.iload_n 2, 1) := by decide +kernel
theorem dR_walkMaps_119 : decode cR_walkMaps 119 = .ok (.ifCond .eq 26, 3) := by decide +kernel
theorem dR_walkMaps_122 : decode cR_walkMaps 122 = .ok (.aload_n 0, 1) := by decide +kernel
theorem dR_walkMaps_123 : decode cR_walkMaps 123 = .ok (.iload_n 1, 1) := by decide +kernel
theorem dR_walkMaps_124 : decode cR_walkMaps 124 = .ok (.bipush 8, 2) := by decide +kernel
theorem dR_walkMaps_126 : decode cR_walkMaps 126 = .ok (.iadd, 1) := by decide +kernel
theorem dR_walkMaps_127 : decode cR_walkMaps 127 = .ok (.invokevirtual 85, 3) := by decide +kernel
theorem dR_walkMaps_130 : decode cR_walkMaps 130 = .ok (.ifCond .ne 15, 3) := by decide +kernel
theorem dR_walkMaps_133 : decode cR_walkMaps 133 = .ok (.aload_n 0, 1) := by decide +kernel
theorem dR_walkMaps_134 : decode cR_walkMaps 134 = .ok (.iconst 4, 1) := by decide +kernel
theorem dR_walkMaps_135 : decode cR_walkMaps 135 = .ok (.iload_n 1, 1) := by decide +kernel
theorem dR_walkMaps_136 : decode cR_walkMaps 136 = .ok (.bipush 8, 2) := by decide +kernel
theorem dR_walkMaps_138 : decode cR_walkMaps 138 = .ok (.iadd, 1) := by decide +kernel
theorem dR_walkMaps_139 : decode cR_walkMaps 139 = .ok (.invokevirtual 65, 3) := by decide +kernel
theorem dR_walkMaps_142 : decode cR_walkMaps 142 = .ok (.ifCond .eq 7, 3) := by decide +kernel
theorem dR_walkMaps_145 : decode cR_walkMaps 145 = .ok (.iconst 1, 1) := by decide +kernel
theorem dR_walkMaps_146 : decode cR_walkMaps 146 = .ok (.goto 4, 3) := by decide +kernel
theorem dR_walkMaps_149 : decode cR_walkMaps 149 = .ok (.iconst 0, 1) := by decide +kernel
theorem dR_walkMaps_150 : decode cR_walkMaps 150 = .ok (.ireturn, 1) := by decide +kernel
theorem dR_walkNumber_0 : decode cR_walkNumber 0 = .ok (.aload_n 0, 1) := by decide +kernel
theorem dR_walkNumber_1 : decode cR_walkNumber 1 = .ok (.iload_n 1, 1) := by decide +kernel
theorem dR_walkNumber_2 : decode cR_walkNumber 2 = .ok (.invokevirtual 103, 3) := by decide +kernel
theorem dR_walkNumber_5 : decode cR_walkNumber 5 = .ok (.ifCond .ne 5, 3) := by decide +kernel
theorem dR_walkNumber_8 : decode cR_walkNumber 8 = .ok (.iconst 0, 1) := by decide +kernel
theorem dR_walkNumber_9 : decode cR_walkNumber 9 = .ok (.ireturn, 1) := by decide +kernel
theorem dR_walkNumber_10 : decode cR_walkNumber 10 = .ok (.aload_n 0, 1) := by decide +kernel
theorem dR_walkNumber_11 : decode cR_walkNumber 11 = .ok (.iconst 0, 1) := by decide +kernel
theorem dR_walkNumber_12 : decode cR_walkNumber 12 = .ok (.putfield 28, 3) := by decide +kernel
theorem dR_walkNumber_15 : decode cR_walkNumber 15 = .ok (.iconst 0, 1) := by decide +kernel
theorem dR_walkNumber_16 : decode cR_walkNumber 16 = .ok (.istore_n 2, 1) := by decide +kernel
theorem dR_walkNumber_17 : decode cR_walkNumber 17 = .ok (.iload_n 2, 1) := by decide +kernel
theorem dR_walkNumber_18 : decode cR_walkNumber 18 = .ok (.iload_n 1, 1) := by decide +kernel
theorem dR_walkNumber_19 : decode cR_walkNumber 19 = .ok (.if_icmp .ge 27, 3) := by decide +kernel
theorem dR_walkNumber_22 : decode cR_walkNumber 22 = .ok (.aload_n 0, 1) := by decide +kernel
theorem dR_walkNumber_23 : decode cR_walkNumber 23 = .ok (.aload_n 0, 1) := by decide +kernel
theorem dR_walkNumber_24 : decode cR_walkNumber 24 = .ok (.getfield 28, 3) := by decide +kernel
theorem dR_walkNumber_27 : decode cR_walkNumber 27 = .ok (.bipush 10, 2) := by decide +kernel
theorem dR_walkNumber_29 : decode cR_walkNumber 29 = .ok (.imul, 1) := by decide +kernel
theorem dR_walkNumber_30 : decode cR_walkNumber 30 = .ok (.aload_n 0, 1) := by decide +kernel
theorem dR_walkNumber_31 : decode cR_walkNumber 31 = .ok (.iload_n 2, 1) := by decide +kernel
theorem dR_walkNumber_32 : decode cR_walkNumber 32 = .ok (.iload_n 1, 1) := by decide +kernel
theorem dR_walkNumber_33 : decode cR_walkNumber 33 = .ok (.invokevirtual 106, 3) := by decide +kernel
theorem dR_walkNumber_36 : decode cR_walkNumber 36 = .ok (.iadd, 1) := by decide +kernel
theorem dR_walkNumber_37 : decode cR_walkNumber 37 = .ok (.putfield 28, 3) := by decide +kernel
theorem dR_walkNumber_40 : decode cR_walkNumber 40 = .ok (.iinc 2 1, 3) := by decide +kernel
theorem dR_walkNumber_43 : decode cR_walkNumber 43 = .ok (.goto (-26), 3) := by decide +kernel
theorem dR_walkNumber_46 : decode cR_walkNumber 46 = .ok (.aload_n 0, 1) := by decide +kernel
theorem dR_walkNumber_47 : decode cR_walkNumber 47 = .ok (.dup, 1) := by decide +kernel
theorem dR_walkNumber_48 : decode cR_walkNumber 48 = .ok (.getfield 25, 3) := by decide +kernel
theorem dR_walkNumber_51 : decode cR_walkNumber 51 = .ok (.iload_n 1, 1) := by decide +kernel
theorem dR_walkNumber_52 : decode cR_walkNumber 52 = .ok (.invokestatic 110, 3) := by decide +kernel
theorem dR_walkNumber_55 : decode cR_walkNumber 55 = .ok (.iadd, 1) := by decide +kernel
theorem dR_walkNumber_56 : decode cR_walkNumber 56 = .ok (.putfield 25, 3) := by decide +kernel
theorem dR_walkNumber_59 : decode cR_walkNumber 59 = .ok (.iconst 1, 1) := by decide +kernel
theorem dR_walkNumber_60 : decode cR_walkNumber 60 = .ok (.ireturn, 1) := by decide +kernel
theorem dR_walkType_0 : decode cR_walkType 0 = .ok (.aload_n 0, 1) := by decide +kernel
theorem dR_walkType_1 : decode cR_walkType 1 = .ok (.iconst 4, 1) := by decide +kernel
theorem dR_walkType_2 : decode cR_walkType 2 = .ok (.invokevirtual 69, 3) := by decide +kernel
theorem dR_walkType_5 : decode cR_walkType 5 = .ok (.ifCond .ne 5, 3) := by decide +kernel
theorem dR_walkType_8 : decode cR_walkType 8 = .ok (.iconst 0, 1) := by decide +kernel
theorem dR_walkType_9 : decode cR_walkType 9 = .ok (.ireturn, 1) := by decide +kernel
theorem dR_walkType_10 : decode cR_walkType 10 = .ok (.iconst 0, 1) := by decide +kernel
theorem dR_walkType_11 : decode cR_walkType 11 = .ok (.istore_n 1, 1) := by decide +kernel
theorem dR_walkType_12 : decode cR_walkType 12 = .ok (.iload_n 1, 1) := by decide +kernel
theorem dR_walkType_13 : decode cR_walkType 13 = .ok (.getstatic 72, 3) := by decide +kernel
theorem dR_walkType_16 : decode cR_walkType 16 = .ok (.arraylength, 1) := by decide +kernel
theorem dR_walkType_17 : decode cR_walkType 17 = .ok (.if_icmp .ge 34, 3) := by decide +kernel
theorem dR_walkType_20 : decode cR_walkType 20 = .ok (.getstatic 72, 3) := by decide +kernel
theorem dR_walkType_23 : decode cR_walkType 23 = .ok (.iload_n 1, 1) := by decide +kernel
theorem dR_walkType_24 : decode cR_walkType 24 = .ok (.iaload, 1) := by decide +kernel
theorem dR_walkType_25 : decode cR_walkType 25 = .ok (.aload_n 0, 1) := by decide +kernel
theorem dR_walkType_26 : decode cR_walkType 26 = .ok (.getfield 28, 3) := by decide +kernel
theorem dR_walkType_29 : decode cR_walkType 29 = .ok (.if_icmp .ne 16, 3) := by decide +kernel
theorem dR_walkType_32 : decode cR_walkType 32 = .ok (.aload_n 0, 1) := by decide +kernel
theorem dR_walkType_33 : decode cR_walkType 33 = .ok (.getfield 12, 3) := by decide +kernel
theorem dR_walkType_36 : decode cR_walkType 36 = .ok (.aload_n 0, 1) := by decide +kernel
theorem dR_walkType_37 : decode cR_walkType 37 = .ok (.getfield 28, 3) := by decide +kernel
theorem dR_walkType_40 : decode cR_walkType 40 = .ok (.invokevirtual 75, 3) := by decide +kernel
theorem dR_walkType_43 : decode cR_walkType 43 = .ok (.iconst 1, 1) := by decide +kernel
theorem dR_walkType_44 : decode cR_walkType 44 = .ok (.ireturn, 1) := by decide +kernel
theorem dR_walkType_45 : decode cR_walkType 45 = .ok (.iinc 1 1, 3) := by decide +kernel
theorem dR_walkType_48 : decode cR_walkType 48 = .ok (.goto (-36), 3) := by decide +kernel
theorem dR_walkType_51 : decode cR_walkType 51 = .ok (.aload_n 0, 1) := by decide +kernel
theorem dR_walkType_52 : decode cR_walkType 52 = .ok (.iconst 3, 1) := by decide +kernel
theorem dR_walkType_53 : decode cR_walkType 53 = .ok (.iconst 0, 1) := by decide +kernel
theorem dR_walkType_54 : decode cR_walkType 54 = .ok (.invokevirtual 65, 3) := by decide +kernel
theorem dR_walkType_57 : decode cR_walkType 57 = .ok (.ireturn, 1) := by decide +kernel
theorem dT_append_0 : decode cT_append 0 = .ok (.aload_n 0, 1) := by decide +kernel
theorem dT_append_1 : decode cT_append 1 = .ok (.getfield 15, 3) := by decide +kernel
theorem dT_append_4 : decode cT_append 4 = .ok (.sipush 400, 3) := by decide +kernel
theorem dT_append_7 : decode cT_append 7 = .ok (.if_icmp .ge 24, 3) := by decide +kernel
theorem dT_append_10 : decode cT_append 10 = .ok (.aload_n 0, 1) := by decide +kernel
theorem dT_append_11 : decode cT_append 11 = .ok (.getfield 9, 3) := by decide +kernel
theorem dT_append_14 : decode cT_append 14 = .ok (.aload_n 0, 1) := by decide +kernel
theorem dT_append_15 : decode cT_append 15 = .ok (.getfield 15, 3) := by decide +kernel
theorem dT_append_18 : decode cT_append 18 = .ok (.iload_n 1, 1) := by decide +kernel
theorem dT_append_19 : decode cT_append 19 = .ok (.i2b, 1) := by decide +kernel
theorem dT_append_20 : decode cT_append 20 = .ok (.bastore, 1) := by decide +kernel
theorem dT_append_21 : decode cT_append 21 = .ok (.aload_n 0, 1) := by decide +kernel
theorem dT_append_22 : decode cT_append 22 = .ok (.dup, 1) := by decide +kernel
theorem dT_append_23 : decode cT_append 23 = .ok (.getfield 15, 3) := by decide +kernel
theorem dT_append_26 : decode cT_append 26 = .ok (.iconst 1, 1) := by decide +kernel
theorem dT_append_27 : decode cT_append 27 = .ok (.iadd, 1) := by decide +kernel
theorem dT_append_28 : decode cT_append 28 = .ok (.putfield 15, 3) := by decide +kernel
theorem dT_append_31 : decode cT_append 31 = .ok (.return_, 1) := by decide +kernel
theorem dT_appendDigits_0 : decode cT_appendDigits 0 = .ok (.iload_n 3, 1) := by decide +kernel
theorem dT_appendDigits_1 : decode cT_appendDigits 1 = .ok (.iconst 2, 1) := by decide +kernel
theorem dT_appendDigits_2 : decode cT_appendDigits 2 = .ok (.irem, 1) := by decide +kernel
theorem dT_appendDigits_3 : decode cT_appendDigits 3 = .ok (.istore 4, 2) := by decide +kernel
theorem dT_appendDigits_5 : decode cT_appendDigits 5 = .ok (.iload 4, 2) := by decide +kernel
theorem dT_appendDigits_7 : decode cT_appendDigits 7 = .ok (.ifCond .eq 14, 3) := by decide +kernel
theorem dT_appendDigits_10 : decode cT_appendDigits 10 = .ok (.aload_n 0, 1) := by decide +kernel
theorem dT_appendDigits_11 : decode cT_appendDigits 11 = .ok (.iconst 0, 1) := by decide +kernel
theorem dT_appendDigits_12 : decode cT_appendDigits 12 = .ok (.aload_n 1, 1) := by decide +kernel
theorem dT_appendDigits_13 : decode cT_appendDigits 13 = .ok (.iload_n 2, 1) := by decide +kernel
theorem dT_appendDigits_14 : decode cT_appendDigits 14 = .ok (.iconst 0, 1) := by decide +kernel
theorem dT_appendDigits_15 : decode cT_appendDigits 15 = .ok (.invokevirtual 84, 3) := by decide +kernel
theorem dT_appendDigits_18 : decode cT_appendDigits 18 = .ok (.invokevirtual 81, 3) := by decide +kernel
theorem dT_appendDigits_21 : decode cT_appendDigits 21 = .ok (.iload 4, 2) := by decide +kernel
theorem dT_appendDigits_23 : decode cT_appendDigits 23 = .ok (.istore 5, 2) := by decide +kernel
theorem dT_appendDigits_25 : decode cT_appendDigits 25 = .ok (.iload 5, 2) := by decide +kernel
theorem dT_appendDigits_27 : decode cT_appendDigits 27 = .ok (.iconst 1, 1) := by decide +kernel
theorem dT_appendDigits_28 : decode cT_appendDigits 28 = .ok (.iadd, 1) := by decide +kernel
theorem dT_appendDigits_29 : decode cT_appendDigits 29 = .ok (.iload_n 3, 1) := by decide +kernel
theorem dT_appendDigits_30 : decode cT_appendDigits 30 = .ok (.if_icmp .ge 29, 3) := by decide +kernel
theorem dT_appendDigits_33 : decode cT_appendDigits 33 = .ok (.aload_n 0, 1) := by decide +kernel
theorem dT_appendDigits_34 : decode cT_appendDigits 34 = .ok (.aload_n 1, 1) := by decide +kernel
theorem dT_appendDigits_35 : decode cT_appendDigits 35 = .ok (.iload_n 2, 1) := by decide +kernel
theorem dT_appendDigits_36 : decode cT_appendDigits 36 = .ok (.iload 5, 2) := by decide +kernel
theorem dT_appendDigits_38 : decode cT_appendDigits 38 = .ok (.invokevirtual 84, 3) := by decide +kernel
theorem dT_appendDigits_41 : decode cT_appendDigits 41 = .ok (.aload_n 1, 1) := by decide +kernel
theorem dT_appendDigits_42 : decode cT_appendDigits 42 = .ok (.iload_n 2, 1) := by decide +kernel
theorem dT_appendDigits_43 : decode cT_appendDigits 43 = .ok (.iload 5, 2) := by decide +kernel
theorem dT_appendDigits_45 : decode cT_appendDigits 45 = .ok (.iconst 1, 1) := by decide +kernel
theorem dT_appendDigits_46 : decode cT_appendDigits 46 = .ok (.iadd, 1) := by decide +kernel
theorem dT_appendDigits_47 : decode cT_appendDigits 47 = .ok (.invokevirtual 84, 3) := by decide +kernel
theorem dT_appendDigits_50 : decode cT_appendDigits 50 = .ok (.invokevirtual 81, 3) := by decide +kernel
theorem dT_appendDigits_53 : decode cT_appendDigits 53 = .ok (.iinc 5 2, 3) := by decide +kernel
theorem dT_appendDigits_56 : decode cT_appendDigits 56 = .ok (.goto (-31), 3) := by decide +kernel
theorem dT_appendDigits_59 : decode cT_appendDigits 59 = .ok (.return_, 1) := by decide +kernel
theorem dT_appendField_0 : decode cT_appendField 0 = .ok (.aload_n 1, 1) := by decide +kernel
theorem dT_appendField_1 : decode cT_appendField 1 = .ok (.getfield 62, 3) := by decide +kernel
theorem dT_appendField_4 : decode cT_appendField 4 = .ok (.iload_n 2, 1) := by decide +kernel
theorem dT_appendField_5 : decode cT_appendField 5 = .ok (.iaload, 1) := by decide +kernel
theorem dT_appendField_6 : decode cT_appendField 6 = .ok (.istore_n 3, 1) := by decide +kernel
theorem dT_appendField_7 : decode cT_appendField 7 = .ok (.getstatic 65, 3) := by decide +kernel
theorem dT_appendField_10 : decode cT_appendField 10 = .ok (.iload_n 2, 1) := by decide +kernel
theorem dT_appendField_11 : decode cT_appendField 11 = .ok (.iaload, 1) := by decide +kernel
theorem dT_appendField_12 : decode cT_appendField 12 = .ok (.ifCond .eq 13, 3) := by decide +kernel
theorem dT_appendField_15 : decode cT_appendField 15 = .ok (.aload_n 0, 1) := by decide +kernel
theorem dT_appendField_16 : decode cT_appendField 16 = .ok (.iload_n 3, 1) := by decide +kernel
theorem dT_appendField_17 : decode cT_appendField 17 = .ok (.getstatic 65, 3) := by decide +kernel
theorem dT_appendField_20 : decode cT_appendField 20 = .ok (.iload_n 2, 1) := by decide +kernel
theorem dT_appendField_21 : decode cT_appendField 21 = .ok (.iaload, 1) := by decide +kernel
theorem dT_appendField_22 : decode cT_appendField 22 = .ok (.invokevirtual 24, 3) := by decide +kernel
theorem dT_appendField_25 : decode cT_appendField 25 = .ok (.getstatic 68, 3) := by decide +kernel
theorem dT_appendField_28 : decode cT_appendField 28 = .ok (.iload_n 2, 1) := by decide +kernel
theorem dT_appendField_29 : decode cT_appendField 29 = .ok (.iaload, 1) := by decide +kernel
theorem dT_appendField_30 : decode cT_appendField 30 = .ok (.ifCond .eq 13, 3) := by decide +kernel
theorem dT_appendField_33 : decode cT_appendField 33 = .ok (.aload_n 0, 1) := by decide +kernel
theorem dT_appendField_34 : decode cT_appendField 34 = .ok (.aload_n 1, 1) := by decide +kernel
theorem dT_appendField_35 : decode cT_appendField 35 = .ok (.iload_n 2, 1) := by decide +kernel
theorem dT_appendField_36 : decode cT_appendField 36 = .ok (.iload_n 3, 1) := by decide +kernel
theorem dT_appendField_37 : decode cT_appendField 37 = .ok (.invokevirtual 71, 3) := by decide +kernel
theorem dT_appendField_40 : decode cT_appendField 40 = .ok (.goto 10, 3) := by decide +kernel
theorem dT_appendField_43 : decode cT_appendField 43 = .ok (.aload_n 0, 1) := by decide +kernel
theorem dT_appendField_44 : decode cT_appendField 44 = .ok (.aload_n 1, 1) := by decide +kernel
theorem dT_appendField_45 : decode cT_appendField 45 = .ok (.iload_n 2, 1) := by decide +kernel
theorem dT_appendField_46 : decode cT_appendField 46 = .ok (.iload_n 3, 1) := by decide +kernel
theorem dT_appendField_47 : decode cT_appendField 47 = .ok (.invokevirtual 75, 3) := by decide +kernel
theorem dT_appendField_50 : decode cT_appendField 50 = .ok (.return_, 1) := by decide +kernel
theorem dT_appendLetters_0 : decode cT_appendLetters 0 = .ok (.iconst 0, 1) := by decide +kernel
theorem dT_appendLetters_1 : decode cT_appendLetters 1 = .ok (.istore 4, 2) := by decide +kernel
theorem dT_appendLetters_3 : decode cT_appendLetters 3 = .ok (.iload 4, 2) := by decide +kernel
theorem dT_appendLetters_5 : decode cT_appendLetters 5 = .ok (.iload_n 3, 1) := by decide +kernel
theorem dT_appendLetters_6 : decode cT_appendLetters 6 = .ok (.if_icmp .ge 20, 3) := by decide +kernel
theorem dT_appendLetters_9 : decode cT_appendLetters 9 = .ok (.aload_n 0, 1) := by decide +kernel
theorem dT_appendLetters_10 : decode cT_appendLetters 10 = .ok (.aload_n 1, 1) := by decide +kernel
theorem dT_appendLetters_11 : decode cT_appendLetters 11 = .ok (.iload_n 2, 1) := by decide +kernel
theorem dT_appendLetters_12 : decode cT_appendLetters 12 = .ok (.iload 4, 2) := by decide +kernel
theorem dT_appendLetters_14 : decode cT_appendLetters 14 = .ok (.invokevirtual 84, 3) := by decide +kernel
theorem dT_appendLetters_17 : decode cT_appendLetters 17 = .ok (.invokevirtual 44, 3) := by decide +kernel
theorem dT_appendLetters_20 : decode cT_appendLetters 20 = .ok (.iinc 4 1, 3) := by decide +kernel
theorem dT_appendLetters_23 : decode cT_appendLetters 23 = .ok (.goto (-20), 3) := by decide +kernel
theorem dT_appendLetters_26 : decode cT_appendLetters 26 = .ok (.return_, 1) := by decide +kernel
theorem dT_appendMaps_0 : decode cT_appendMaps 0 = .ok (.aload_n 1, 1) := by decide +kernel
theorem dT_appendMaps_1 : decode cT_appendMaps 1 = .ok (.invokestatic 40, 3) := by decide +kernel
theorem dT_appendMaps_4 : decode cT_appendMaps 4 = .ok (.istore_n 2, 1) := by decide +kernel
theorem dT_appendMaps_5 : decode cT_appendMaps 5 = .ok (.aload_n 0, 1) := by decide +kernel
theorem dT_appendMaps_6 : decode cT_appendMaps 6 = .ok (.getfield 15, 3) := by decide +kernel
theorem dT_appendMaps_9 : decode cT_appendMaps 9 = .ok (.istore_n 3, 1) := by decide +kernel
theorem dT_appendMaps_10 : decode cT_appendMaps 10 = .ok (.iconst 0, 1) := by decide +kernel
theorem dT_appendMaps_11 : decode cT_appendMaps 11 = .ok (.istore 4, 2) := by decide +kernel
theorem dT_appendMaps_13 : decode cT_appendMaps 13 = .ok (.iload 4, 2) := by decide +kernel
theorem dT_appendMaps_15 : decode cT_appendMaps 15 = .ok (.iload_n 2, 1) := by decide +kernel
theorem dT_appendMaps_16 : decode cT_appendMaps 16 = .ok (.ifCond .eq 8, 3) := by decide +kernel
theorem dT_appendMaps_19 : decode cT_appendMaps 19 = .ok (.bipush 16, 2) := by decide +kernel
theorem dT_appendMaps_21 : decode cT_appendMaps 21 = .ok (.goto 5, 3) := by decide +kernel
theorem dT_appendMaps_24 : decode cT_appendMaps 24 = .ok (.bipush 8, 2) := by decide +kernel
theorem dT_appendMaps_26 : decode cT_appendMaps 26 = .ok (.if_icmp .ge 14, 3) := by decide +kernel
theorem dT_appendMaps_29 : decode cT_appendMaps 29 = .ok (.aload_n 0, 1) := by decide +kernel
theorem dT_appendMaps_30 : decode cT_appendMaps 30 = .ok (.iconst 0, 1) := by decide +kernel
theorem dT_appendMaps_31 : decode cT_appendMaps 31 = .ok (.invokevirtual 44, 3) := by decide +kernel
theorem dT_appendMaps_34 : decode cT_appendMaps 34 = .ok (.iinc 4 1, 3) := by decide +kernel
theorem dT_appendMaps_37 : decode cT_appendMaps 37 = .ok (.goto (-24), 3) := by decide +kernel
theorem dT_appendMaps_40 : decode cT_appendMaps 40 = .ok (.iload_n 2, 1) := by decide +kernel
theorem dT_appendMaps_41 : decode cT_appendMaps 41 = .ok (.ifCond .eq 11, 3) := by decide +kernel
theorem dT_appendMaps_44 : decode cT_appendMaps 44 = .ok (.aload_n 0, 1) := by decide +kernel
theorem dT_appendMaps_45 : decode cT_appendMaps 45 = .ok (.iload_n 3, 1) := by decide +kernel
theorem dT_appendMaps_46 : decode cT_appendMaps 46 = .ok (.sipush 128, 3) := by decide +kernel
theorem dT_appendMaps_49 : decode cT_appendMaps 49 = .ok (.invokevirtual 48, 3) := by decide +kernel
theorem dT_appendMaps_52 : decode cT_appendMaps 52 = .ok (.iconst 0, 1) := by decide +kernel
theorem dT_appendMaps_53 : decode cT_appendMaps 53 = .ok (.istore 4, 2) := by decide +kernel
theorem dT_appendMaps_55 : decode cT_appendMaps 55 = .ok (.iload 4, 2) := by decide +kernel
theorem dT_appendMaps_57 : decode cT_appendMaps 57 = .ok (.bipush 16, 2) := by decide +kernel
theorem dT_appendMaps_59 : decode cT_appendMaps 59 = .ok (.if_icmp .ge 42, 3) := by decide +kernel
theorem dT_appendMaps_62 : decode cT_appendMaps 62 = .ok (.aload_n 1, 1) := by decide +kernel
theorem dT_appendMaps_63 : decode cT_appendMaps 63 = .ok (.iload 4, 2) := by decide +kernel
theorem dT_appendMaps_65 : decode cT_appendMaps 65 = .ok (.invokevirtual 32, 3) := by decide +kernel
theorem dT_appendMaps_68 : decode cT_appendMaps 68 = .ok (.ifCond .eq 27, 3) := by decide +kernel
theorem dT_appendMaps_71 : decode cT_appendMaps 71 = .ok (.aload_n 0, 1) := by decide +kernel
theorem dT_appendMaps_72 : decode cT_appendMaps 72 = .ok (.iload_n 3, 1) := by decide +kernel
theorem dT_appendMaps_73 : decode cT_appendMaps 73 = .ok (.getstatic 51, 3) := by decide +kernel
theorem dT_appendMaps_76 : decode cT_appendMaps 76 = .ok (.iload 4, 2) := by decide +kernel
theorem dT_appendMaps_78 : decode cT_appendMaps 78 = .ok (.iaload, 1) := by decide +kernel
theorem dT_appendMaps_79 : decode cT_appendMaps 79 = .ok (.invokestatic 55, 3) := by decide +kernel
theorem dT_appendMaps_82 : decode cT_appendMaps 82 = .ok (.iadd, 1) := by decide +kernel
theorem dT_appendMaps_83 : decode cT_appendMaps 83 = .ok (.getstatic 51, 3) := by decide +kernel
theorem dT_appendMaps_86 : decode cT_appendMaps 86 = .ok (.iload 4, 2) := by decide +kernel
theorem dT_appendMaps_88 : decode cT_appendMaps 88 = .ok (.iaload, 1) := by decide +kernel
theorem dT_appendMaps_89 : decode cT_appendMaps 89 = .ok (.invokestatic 59, 3) := by decide +kernel
theorem dT_appendMaps_92 : decode cT_appendMaps 92 = .ok (.invokevirtual 48, 3) := by decide +kernel
theorem dT_appendMaps_95 : decode cT_appendMaps 95 = .ok (.iinc 4 1, 3) := by decide +kernel
theorem dT_appendMaps_98 : decode cT_appendMaps 98 = .ok (.goto (-43), 3) := by decide +kernel
theorem dT_appendMaps_101 : decode cT_appendMaps 101 = .ok (.return_, 1) := by decide +kernel
theorem dT_appendNumber_0 : decode cT_appendNumber 0 = .ok (.iload_n 2, 1) := by decide +kernel
theorem dT_appendNumber_1 : decode cT_appendNumber 1 = .ok (.invokestatic 78, 3) := by decide +kernel
theorem dT_appendNumber_4 : decode cT_appendNumber 4 = .ok (.iconst 2, 1) := by decide +kernel
theorem dT_appendNumber_5 : decode cT_appendNumber 5 = .ok (.if_icmp .ne 22, 3) := by decide +kernel
theorem dT_appendNumber_8 : decode cT_appendNumber 8 = .ok (.aload_n 0, 1) := by decide +kernel
theorem dT_appendNumber_9 : decode cT_appendNumber 9 = .ok (.iload_n 1, 1) := by decide +kernel
theorem dT_appendNumber_10 : decode cT_appendNumber 10 = .ok (.sipush 1000, 3) := by decide +kernel
theorem dT_appendNumber_13 : decode cT_appendNumber 13 = .ok (.idiv, 1) := by decide +kernel
theorem dT_appendNumber_14 : decode cT_appendNumber 14 = .ok (.bipush 10, 2) := by decide +kernel
theorem dT_appendNumber_16 : decode cT_appendNumber 16 = .ok (.irem, 1) := by decide +kernel
theorem dT_appendNumber_17 : decode cT_appendNumber 17 = .ok (.iload_n 1, 1) := by decide +kernel
theorem dT_appendNumber_18 : decode cT_appendNumber 18 = .ok (.bipush 100, 2) := by decide +kernel
theorem dT_appendNumber_20 : decode cT_appendNumber 20 = .ok (.idiv, 1) := by decide +kernel
theorem dT_appendNumber_21 : decode cT_appendNumber 21 = .ok (.bipush 10, 2) := by decide +kernel
theorem dT_appendNumber_23 : decode cT_appendNumber 23 = .ok (.irem, 1) := by decide +kernel
theorem dT_appendNumber_24 : decode cT_appendNumber 24 = .ok (.invokevirtual 81, 3) := by decide +kernel
theorem dT_appendNumber_27 : decode cT_appendNumber 27 = .ok (.aload_n 0, 1) := by decide +kernel
theorem dT_appendNumber_28 : decode cT_appendNumber 28 = .ok (.iload_n 1, 1) := by decide +kernel
theorem dT_appendNumber_29 : decode cT_appendNumber 29 = .ok (.bipush 10, 2) := by decide +kernel
theorem dT_appendNumber_31 : decode cT_appendNumber 31 = .ok (.idiv, 1) := by decide +kernel
theorem dT_appendNumber_32 : decode cT_appendNumber 32 = .ok (.bipush 10, 2) := by decide +kernel
theorem dT_appendNumber_34 : decode cT_appendNumber 34 = .ok (.irem, 1) := by decide +kernel
theorem dT_appendNumber_35 : decode cT_appendNumber 35 = .ok (.iload_n 1, 1) := by decide +kernel
theorem dT_appendNumber_36 : decode cT_appendNumber 36 = .ok (.bipush 10, 2) := by decide +kernel
theorem dT_appendNumber_38 : decode cT_appendNumber 38 = .ok (.irem, 1) := by decide +kernel
theorem dT_appendNumber_39 : decode cT_appendNumber 39 = .ok (.invokevirtual 81, 3) := by decide +kernel
theorem dT_appendNumber_42 : decode cT_appendNumber 42 = .ok (.return_, 1) := by decide +kernel
theorem dT_appendPair_0 : decode cT_appendPair 0 = .ok (.aload_n 0, 1) := by decide +kernel
theorem dT_appendPair_1 : decode cT_appendPair 1 = .ok (.iload_n 1, 1) := by decide +kernel
theorem dT_appendPair_2 : decode cT_appendPair 2 = .ok (.iconst 4, 1) := by decide +kernel
theorem dT_appendPair_3 : decode cT_appendPair 3 = .ok (.ishl, 1) := by decide +kernel
theorem dT_appendPair_4 : decode cT_appendPair 4 = .ok (.iload_n 2, 1) := by decide +kernel
theorem dT_appendPair_5 : decode cT_appendPair 5 = .ok (.ior, 1) := by decide +kernel
theorem dT_appendPair_6 : decode cT_appendPair 6 = .ok (.invokevirtual 44, 3) := by decide +kernel
theorem dT_appendPair_9 : decode cT_appendPair 9 = .ok (.return_, 1) := by decide +kernel
theorem dT_byteAt_0 : decode cT_byteAt 0 = .ok (.aload_n 0, 1) := by decide +kernel
theorem dT_byteAt_1 : decode cT_byteAt 1 = .ok (.getfield 9, 3) := by decide +kernel
theorem dT_byteAt_4 : decode cT_byteAt 4 = .ok (.iload_n 1, 1) := by decide +kernel
theorem dT_byteAt_5 : decode cT_byteAt 5 = .ok (.baload, 1) := by decide +kernel
theorem dT_byteAt_6 : decode cT_byteAt 6 = .ok (.sipush 255, 3) := by decide +kernel
theorem dT_byteAt_9 : decode cT_byteAt 9 = .ok (.iand, 1) := by decide +kernel
theorem dT_byteAt_10 : decode cT_byteAt 10 = .ok (.ireturn, 1) := by decide +kernel
theorem dT_flip_0 : decode cT_flip 0 = .ok (.aload_n 0, 1) := by decide +kernel
theorem dT_flip_1 : decode cT_flip 1 = .ok (.getfield 9, 3) := by decide +kernel
theorem dT_flip_4 : decode cT_flip 4 = .ok (.iload_n 1, 1) := by decide +kernel
theorem dT_flip_5 : decode cT_flip 5 = .ok (.aload_n 0, 1) := by decide +kernel
theorem dT_flip_6 : decode cT_flip 6 = .ok (.getfield 9, 3) := by decide +kernel
theorem dT_flip_9 : decode cT_flip 9 = .ok (.iload_n 1, 1) := by decide +kernel
theorem dT_flip_10 : decode cT_flip 10 = .ok (.baload, 1) := by decide +kernel
theorem dT_flip_11 : decode cT_flip 11 = .ok (.iload_n 2, 1) := by decide +kernel
theorem dT_flip_12 : decode cT_flip 12 = .ok (.ixor, 1) := by decide +kernel
theorem dT_flip_13 : decode cT_flip 13 = .ok (.i2b, 1) := by decide +kernel
theorem dT_flip_14 : decode cT_flip 14 = .ok (.bastore, 1) := by decide +kernel
theorem dT_flip_15 : decode cT_flip 15 = .ok (.return_, 1) := by decide +kernel
theorem dT_hasFieldOfSecondMap_0 : decode cT_hasFieldOfSecondMap 0 = .ok (.iconst 0, 1) := by decide +kernel
theorem dT_hasFieldOfSecondMap_1 : decode cT_hasFieldOfSecondMap 1 = .ok (.istore_n 1, 1) := by decide +kernel
theorem dT_hasFieldOfSecondMap_2 : decode cT_hasFieldOfSecondMap 2 = .ok (.iload_n 1, 1) := by decide +kernel
theorem dT_hasFieldOfSecondMap_3 : decode cT_hasFieldOfSecondMap 3 = .ok (.bipush 16, 2) := by decide +kernel
theorem dT_hasFieldOfSecondMap_5 : decode cT_hasFieldOfSecondMap 5 = .ok (.if_icmp .ge 29, 3) := by decide +kernel
theorem dT_hasFieldOfSecondMap_8 : decode cT_hasFieldOfSecondMap 8 = .ok (.getstatic 51, 3) := by decide +kernel
theorem dT_hasFieldOfSecondMap_11 : decode cT_hasFieldOfSecondMap 11 = .ok (.iload_n 1, 1) := by decide +kernel
theorem dT_hasFieldOfSecondMap_12 : decode cT_hasFieldOfSecondMap 12 = .ok (.iaload, 1) := by decide +kernel
theorem dT_hasFieldOfSecondMap_13 : decode cT_hasFieldOfSecondMap 13 = .ok (.bipush 64, 2) := by decide +kernel
theorem dT_hasFieldOfSecondMap_15 : decode cT_hasFieldOfSecondMap 15 = .ok (.if_icmp .le 13, 3) := by decide +kernel
theorem dT_hasFieldOfSecondMap_18 : decode cT_hasFieldOfSecondMap 18 = .ok (.aload_n 0, 1) := by decide +kernel
theorem dT_hasFieldOfSecondMap_19 : decode cT_hasFieldOfSecondMap 19 = .ok (.iload_n 1, 1) := by decide +kernel
theorem dT_hasFieldOfSecondMap_20 : decode cT_hasFieldOfSecondMap 20 = .ok (.invokevirtual 32, 3) := by decide +kernel
theorem dT_hasFieldOfSecondMap_23 : decode cT_hasFieldOfSecondMap 23 = .ok (.ifCond .eq 5, 3) := by decide +kernel
theorem dT_hasFieldOfSecondMap_26 : decode cT_hasFieldOfSecondMap 26 = .ok (.iconst 1, 1) := by decide +kernel
theorem dT_hasFieldOfSecondMap_27 : decode cT_hasFieldOfSecondMap 27 = .ok (.ireturn, 1) := by decide +kernel
theorem dT_hasFieldOfSecondMap_28 : decode cT_hasFieldOfSecondMap 28 = .ok (.iinc 1 1, 3) := by decide +kernel
theorem dT_hasFieldOfSecondMap_31 : decode cT_hasFieldOfSecondMap 31 = .ok (.goto (-29), 3) := by decide +kernel
theorem dT_hasFieldOfSecondMap_34 : decode cT_hasFieldOfSecondMap 34 = .ok (.iconst 0, 1) := by decide +kernel
theorem dT_hasFieldOfSecondMap_35 : decode cT_hasFieldOfSecondMap 35 = .ok (.ireturn, 1) := by decide +kernel
theorem dT_init_0 : decode cT_init 0 = .ok (.aload_n 0, 1) := by decide +kernel
theorem dT_init_1 : decode cT_init 1 = .ok (.invokespecial 3, 3) := by decide +kernel
theorem dT_init_4 : decode cT_init 4 = .ok (.aload_n 0, 1) := by decide +kernel
theorem dT_init_5 : decode cT_init 5 = .ok (.sipush 400, 3) := by decide +kernel
theorem dT_init_8 : decode cT_init 8 = .ok (.newarray .byte, 2) := by decide +kernel
theorem dT_init_10 : decode cT_init 10 = .ok (.putfield 9, 3) := by decide +kernel
theorem dT_init_13 : decode cT_init 13 = .ok (.aload_n 0, 1) := by decide +kernel
theorem dT_init_14 : decode cT_init 14 = .ok (.iconst 0, 1) := by decide +kernel
theorem dT_init_15 : decode cT_init 15 = .ok (.putfield 15, 3) := by decide +kernel
theorem dT_init_18 : decode cT_init 18 = .ok (.return_, 1) := by decide +kernel
theorem dT_write_0 : decode cT_write 0 = .ok (.aload_n 0, 1) := by decide +kernel
theorem dT_write_1 : decode cT_write 1 = .ok (.iconst 0, 1) := by decide +kernel
theorem dT_write_2 : decode cT_write 2 = .ok (.putfield 15, 3) := by decide +kernel
theorem dT_write_5 : decode cT_write 5 = .ok (.aload_n 0, 1) := by decide +kernel
theorem dT_write_6 : decode cT_write 6 = .ok (.aload_n 1, 1) := by decide +kernel
theorem dT_write_7 : decode cT_write 7 = .ok (.getfield 19, 3) := by decide +kernel
theorem dT_write_10 : decode cT_write 10 = .ok (.iconst 4, 1) := by decide +kernel
theorem dT_write_11 : decode cT_write 11 = .ok (.invokevirtual 24, 3) := by decide +kernel
theorem dT_write_14 : decode cT_write 14 = .ok (.aload_n 0, 1) := by decide +kernel
theorem dT_write_15 : decode cT_write 15 = .ok (.aload_n 1, 1) := by decide +kernel
theorem dT_write_16 : decode cT_write 16 = .ok (.invokevirtual 28, 3) := by decide +kernel
theorem dT_write_19 : decode cT_write 19 = .ok (.iconst 0, 1) := by decide +kernel
theorem dT_write_20 : decode cT_write 20 = .ok (.istore_n 2, 1) := by decide +kernel
theorem dT_write_21 : decode cT_write 21 = .ok (.iload_n 2, 1) := by decide +kernel
theorem dT_write_22 : decode cT_write 22 = .ok (.bipush 16, 2) := by decide +kernel
theorem dT_write_24 : decode cT_write 24 = .ok (.if_icmp .ge 23, 3) := by decide +kernel
theorem dT_write_27 : decode cT_write 27 = .ok (.aload_n 1, 1) := by decide +kernel
theorem dT_write_28 : decode cT_write 28 = .ok (.iload_n 2, 1) := by decide +kernel
theorem dT_write_29 : decode cT_write 29 = .ok (.invokevirtual 32, 3) := by decide +kernel
theorem dT_write_32 : decode cT_write 32 = .ok (.ifCond .eq 9, 3) := by decide +kernel
theorem dT_write_35 : decode cT_write 35 = .ok (.aload_n 0, 1) := by decide +kernel
theorem dT_write_36 : decode cT_write 36 = .ok (.aload_n 1, 1) := by decide +kernel
theorem dT_write_37 : decode cT_write 37 = .ok (.iload_n 2, 1) := by decide +kernel
theorem dT_write_38 : decode cT_write 38 = .ok (.invokevirtual 36, 3) := by decide +kernel
theorem dT_write_41 : decode cT_write 41 = .ok (.iinc 2 1, 3) := by decide +kernel
theorem dT_write_44 : decode cT_write 44 = .ok (.goto (-23), 3) := by decide +kernel
theorem dT_write_47 : decode cT_write 47 = .ok (.return_, 1) := by decide +kernel
end
section
theorem dC_at_0 : decode cC_at 0 = .ok (.iload_n 1, 1) := by decide +kernel
theorem dC_at_1 : decode cC_at 1 = .ok (.invokestatic 64, 3) := by decide +kernel
theorem dC_at_4 : decode cC_at 4 = .ok (.istore_n 3, 1) := by decide +kernel
theorem dC_at_5 : decode cC_at 5 = .ok (.iload_n 2, 1) := by decide +kernel
theorem dC_at_6 : decode cC_at 6 = .ok (.ifCond .lt 16, 3) := by decide +kernel
theorem dC_at_9 : decode cC_at 9 = .ok (.iload_n 2, 1) := by decide +kernel
theorem dC_at_10 : decode cC_at 10 = .ok (.aload_n 0, 1) := by decide +kernel
theorem dC_at_11 : decode cC_at 11 = .ok (.getfield 10, 3) := by decide +kernel
theorem dC_at_14 : decode cC_at 14 = .ok (.getfield 89, 3) := by decide +kernel
theorem dC_at_17 : decode cC_at 17 = .ok (.iload_n 3, 1) := by decide +kernel
theorem dC_at_18 : decode cC_at 18 = .ok (.iaload, 1) := by decide +kernel
theorem dC_at_19 : decode cC_at 19 = .ok (.if_icmp .lt 13, 3) := by decide +kernel
theorem dC_at_22 : decode cC_at 22 = .ok (.new 32, 3) := by decide +kernel
theorem dC_at_25 : decode cC_at 25 = .ok (.dup, 1) := by decide +kernel
theorem dC_at_26 : decode cC_at 26 = .ok (.ldc 96, 2) := by decide +kernel
theorem dC_at_28 : decode cC_at 28 = .ok (.invokespecial 36, 3) := by decide +kernel
theorem dC_at_31 : decode cC_at 31 = .ok (.athrow, 1) := by decide +kernel
theorem dC_at_32 : decode cC_at 32 = .ok (.aload_n 0, 1) := by decide +kernel
theorem dC_at_33 : decode cC_at 33 = .ok (.getfield 10, 3) := by decide +kernel
theorem dC_at_36 : decode cC_at 36 = .ok (.iload_n 3, 1) := by decide +kernel
theorem dC_at_37 : decode cC_at 37 = .ok (.iload_n 2, 1) := by decide +kernel
theorem dC_at_38 : decode cC_at 38 = .ok (.invokevirtual 98, 3) := by decide +kernel
theorem dC_at_41 : decode cC_at 41 = .ok (.ireturn, 1) := by decide +kernel
theorem dC_bytesOfDigits_0 : decode cC_bytesOfDigits 0 = .ok (.iload_n 0, 1) := by decide +kernel
theorem dC_bytesOfDigits_1 : decode cC_bytesOfDigits 1 = .ok (.iconst 1, 1) := by decide +kernel
theorem dC_bytesOfDigits_2 : decode cC_bytesOfDigits 2 = .ok (.iadd, 1) := by decide +kernel
theorem dC_bytesOfDigits_3 : decode cC_bytesOfDigits 3 = .ok (.iconst 2, 1) := by decide +kernel
theorem dC_bytesOfDigits_4 : decode cC_bytesOfDigits 4 = .ok (.idiv, 1) := by decide +kernel
theorem dC_bytesOfDigits_5 : decode cC_bytesOfDigits 5 = .ok (.ireturn, 1) := by decide +kernel
theorem dC_compose_0 : decode cC_compose 0 = .ok (.aload_n 0, 1) := by decide +kernel
theorem dC_compose_1 : decode cC_compose 1 = .ok (.getfield 19, 3) := by decide +kernel
theorem dC_compose_4 : decode cC_compose 4 = .ok (.aload_n 0, 1) := by decide +kernel
theorem dC_compose_5 : decode cC_compose 5 = .ok (.getfield 10, 3) := by decide +kernel
theorem dC_compose_8 : decode cC_compose 8 = .ok (.invokevirtual 112, 3) := by decide +kernel
theorem dC_compose_11 : decode cC_compose 11 = .ok (.aload_n 0, 1) := by decide +kernel
theorem dC_compose_12 : decode cC_compose 12 = .ok (.getfield 19, 3) := by decide +kernel
theorem dC_compose_15 : decode cC_compose 15 = .ok (.getfield 116, 3) := by decide +kernel
theorem dC_compose_18 : decode cC_compose 18 = .ok (.ireturn, 1) := by decide +kernel
theorem dC_digitCount_0 : decode cC_digitCount 0 = .ok (.lload_n 0, 1) := by decide +kernel
theorem dC_digitCount_1 : decode cC_digitCount 1 = .ok (.lstore_n 2, 1) := by decide +kernel
theorem dC_digitCount_2 : decode cC_digitCount 2 = .ok (.iconst 1, 1) := by decide +kernel
theorem dC_digitCount_3 : decode cC_digitCount 3 = .ok (.istore 4, 2) := by decide +kernel
theorem dC_digitCount_5 : decode cC_digitCount 5 = .ok (.iload 4, 2) := by decide +kernel
theorem dC_digitCount_7 : decode cC_digitCount 7 = .ok (.bipush 19, 2) := by decide +kernel
theorem dC_digitCount_9 : decode cC_digitCount 9 = .ok (.if_icmp .ge 24, 3) := by decide +kernel
theorem dC_digitCount_12 : decode cC_digitCount 12 = .ok (.lload_n 2, 1) := by decide +kernel
theorem dC_digitCount_13 : decode cC_digitCount 13 = .ok (.ldc2_w 163, 3) := by decide +kernel
theorem dC_digitCount_16 : decode cC_digitCount 16 = .ok (.ldiv, 1) := by decide +kernel
theorem dC_digitCount_17 : decode cC_digitCount 17 = .ok (.lstore_n 2, 1) := by decide +kernel
theorem dC_digitCount_18 : decode cC_digitCount 18 = .ok (.lload_n 2, 1) := by decide +kernel
theorem dC_digitCount_19 : decode cC_digitCount 19 = .ok (.lconst 0, 1) := by decide +kernel
theorem dC_digitCount_20 : decode cC_digitCount 20 = .ok (.lcmp, 1) := by decide +kernel
theorem dC_digitCount_21 : decode cC_digitCount 21 = .ok (.ifCond .ne 6, 3) := by decide +kernel
theorem dC_digitCount_24 : decode cC_digitCount 24 = .ok (.iload 4, 2) := by decide +kernel
theorem dC_digitCount_26 : decode cC_digitCount 26 = .ok (.ireturn, 1) := by decide +kernel
theorem dC_digitCount_27 : decode cC_digitCount 27 = .ok (.iinc 4 1, 3) := by decide +kernel
theorem dC_digitCount_30 : decode cC_digitCount 30 = .ok (.goto (-25), 3) := by decide +kernel
theorem dC_digitCount_33 : decode cC_digitCount 33 = .ok (.bipush 19, 2) := by decide +kernel
theorem dC_digitCount_35 : decode cC_digitCount 35 = .ok (.ireturn, 1) := by decide +kernel
theorem dC_digitSlot_0 : decode cC_digitSlot 0 = .ok (.iload_n 0, 1) := by decide +kernel
theorem dC_digitSlot_1 : decode cC_digitSlot 1 = .ok (.invokestatic 64, 3) := by decide +kernel
theorem dC_digitSlot_4 : decode cC_digitSlot 4 = .ok (.istore_n 1, 1) := by decide +kernel
theorem dC_digitSlot_5 : decode cC_digitSlot 5 = .ok (.getstatic 67, 3) := by decide +kernel
theorem dC_digitSlot_8 : decode cC_digitSlot 8 = .ok (.iload_n 1, 1) := by decide +kernel
theorem dC_digitSlot_9 : decode cC_digitSlot 9 = .ok (.iaload, 1) := by decide +kernel
theorem dC_digitSlot_10 : decode cC_digitSlot 10 = .ok (.ifCond .eq 13, 3) := by decide +kernel
theorem dC_digitSlot_13 : decode cC_digitSlot 13 = .ok (.new 32, 3) := by decide +kernel
theorem dC_digitSlot_16 : decode cC_digitSlot 16 = .ok (.dup, 1) := by decide +kernel
theorem dC_digitSlot_17 : decode cC_digitSlot 17 = .ok (.ldc 161, 2) := by decide +kernel
theorem dC_digitSlot_19 : decode cC_digitSlot 19 = .ok (.invokespecial 36, 3) := by decide +kernel
theorem dC_digitSlot_22 : decode cC_digitSlot 22 = .ok (.athrow, 1) := by decide +kernel
theorem dC_digitSlot_23 : decode cC_digitSlot 23 = .ok (.iload_n 1, 1) := by decide +kernel
theorem dC_digitSlot_24 : decode cC_digitSlot 24 = .ok (.ireturn, 1) := by decide +kernel
theorem dC_digits_0 : decode cC_digits 0 = .ok (.iload_n 1, 1) := by decide +kernel
theorem dC_digits_1 : decode cC_digits 1 = .ok (.invokestatic 43, 3) := by decide +kernel
theorem dC_digits_4 : decode cC_digits 4 = .ok (.istore 4, 2) := by decide +kernel
theorem dC_digits_6 : decode cC_digits 6 = .ok (.lload_n 2, 1) := by decide +kernel
theorem dC_digits_7 : decode cC_digits 7 = .ok (.invokestatic 47, 3) := by decide +kernel
theorem dC_digits_10 : decode cC_digits 10 = .ok (.istore 5, 2) := by decide +kernel
theorem dC_digits_12 : decode cC_digits 12 = .ok (.lload_n 2, 1) := by decide +kernel
theorem dC_digits_13 : decode cC_digits 13 = .ok (.lconst 0, 1) := by decide +kernel
theorem dC_digits_14 : decode cC_digits 14 = .ok (.lcmp, 1) := by decide +kernel
theorem dC_digits_15 : decode cC_digits 15 = .ok (.ifCond .lt 14, 3) := by decide +kernel
theorem dC_digits_18 : decode cC_digits 18 = .ok (.iload 5, 2) := by decide +kernel
theorem dC_digits_20 : decode cC_digits 20 = .ok (.getstatic 51, 3) := by decide +kernel
theorem dC_digits_23 : decode cC_digits 23 = .ok (.iload 4, 2) := by decide +kernel
theorem dC_digits_25 : decode cC_digits 25 = .ok (.iaload, 1) := by decide +kernel
theorem dC_digits_26 : decode cC_digits 26 = .ok (.if_icmp .le 13, 3) := by decide +kernel
theorem dC_digits_29 : decode cC_digits 29 = .ok (.new 32, 3) := by decide +kernel
theorem dC_digits_32 : decode cC_digits 32 = .ok (.dup, 1) := by decide +kernel
theorem dC_digits_33 : decode cC_digits 33 = .ok (.ldc 55, 2) := by decide +kernel
theorem dC_digits_35 : decode cC_digits 35 = .ok (.invokespecial 36, 3) := by decide +kernel
theorem dC_digits_38 : decode cC_digits 38 = .ok (.athrow, 1) := by decide +kernel
theorem dC_digits_39 : decode cC_digits 39 = .ok (.aload_n 0, 1) := by decide +kernel
theorem dC_digits_40 : decode cC_digits 40 = .ok (.getfield 10, 3) := by decide +kernel
theorem dC_digits_43 : decode cC_digits 43 = .ok (.iload 4, 2) := by decide +kernel
theorem dC_digits_45 : decode cC_digits 45 = .ok (.getstatic 57, 3) := by decide +kernel
theorem dC_digits_48 : decode cC_digits 48 = .ok (.iload 4, 2) := by decide +kernel
theorem dC_digits_50 : decode cC_digits 50 = .ok (.iaload, 1) := by decide +kernel
theorem dC_digits_51 : decode cC_digits 51 = .ok (.ifCond .ne 12, 3) := by decide +kernel
theorem dC_digits_54 : decode cC_digits 54 = .ok (.getstatic 51, 3) := by decide +kernel
theorem dC_digits_57 : decode cC_digits 57 = .ok (.iload 4, 2) := by decide +kernel
theorem dC_digits_59 : decode cC_digits 59 = .ok (.iaload, 1) := by decide +kernel
theorem dC_digits_60 : decode cC_digits 60 = .ok (.goto 5, 3) := by decide +kernel
theorem dC_digits_63 : decode cC_digits 63 = .ok (.iload 5, 2) := by decide +kernel
theorem dC_digits_65 : decode cC_digits 65 = .ok (.lload_n 2, 1) := by decide +kernel
theorem dC_digits_66 : decode cC_digits 66 = .ok (.invokevirtual 60, 3) := by decide +kernel
theorem dC_digits_69 : decode cC_digits 69 = .ok (.return_, 1) := by decide +kernel
theorem dC_fault_0 : decode cC_fault 0 = .ok (.iload_n 1, 1) := by decide +kernel
theorem dC_fault_1 : decode cC_fault 1 = .ok (.ifCond .eq 18, 3) := by decide +kernel
theorem dC_fault_4 : decode cC_fault 4 = .ok (.iload_n 1, 1) := by decide +kernel
theorem dC_fault_5 : decode cC_fault 5 = .ok (.iconst 1, 1) := by decide +kernel
theorem dC_fault_6 : decode cC_fault 6 = .ok (.if_icmp .eq 13, 3) := by decide +kernel
theorem dC_fault_9 : decode cC_fault 9 = .ok (.new 32, 3) := by decide +kernel
theorem dC_fault_12 : decode cC_fault 12 = .ok (.dup, 1) := by decide +kernel
theorem dC_fault_13 : decode cC_fault 13 = .ok (.ldc 138, 2) := by decide +kernel
theorem dC_fault_15 : decode cC_fault 15 = .ok (.invokespecial 36, 3) := by decide +kernel
theorem dC_fault_18 : decode cC_fault 18 = .ok (.athrow, 1) := by decide +kernel
theorem dC_fault_19 : decode cC_fault 19 = .ok (.aload_n 0, 1) := by decide +kernel
theorem dC_fault_20 : decode cC_fault 20 = .ok (.getfield 28, 3) := by decide +kernel
theorem dC_fault_23 : decode cC_fault 23 = .ok (.invokevirtual 140, 3) := by decide +kernel
theorem dC_fault_26 : decode cC_fault 26 = .ok (.pop, 1) := by decide +kernel
theorem dC_fault_27 : decode cC_fault 27 = .ok (.iload_n 1, 1) := by decide +kernel
theorem dC_fault_28 : decode cC_fault 28 = .ok (.ifCond .ne 13, 3) := by decide +kernel
theorem dC_fault_31 : decode cC_fault 31 = .ok (.aload_n 0, 1) := by decide +kernel
theorem dC_fault_32 : decode cC_fault 32 = .ok (.getfield 28, 3) := by decide +kernel
theorem dC_fault_35 : decode cC_fault 35 = .ok (.getfield 144, 3) := by decide +kernel
theorem dC_fault_38 : decode cC_fault 38 = .ok (.goto 10, 3) := by decide +kernel
theorem dC_fault_41 : decode cC_fault 41 = .ok (.aload_n 0, 1) := by decide +kernel
theorem dC_fault_42 : decode cC_fault 42 = .ok (.getfield 28, 3) := by decide +kernel
theorem dC_fault_45 : decode cC_fault 45 = .ok (.getfield 147, 3) := by decide +kernel
theorem dC_fault_48 : decode cC_fault 48 = .ok (.ireturn, 1) := by decide +kernel
theorem dC_feed_0 : decode cC_feed 0 = .ok (.aload_n 0, 1) := by decide +kernel
theorem dC_feed_1 : decode cC_feed 1 = .ok (.getfield 19, 3) := by decide +kernel
theorem dC_feed_4 : decode cC_feed 4 = .ok (.getfield 116, 3) := by decide +kernel
theorem dC_feed_7 : decode cC_feed 7 = .ok (.iconst 4, 1) := by decide +kernel
theorem dC_feed_8 : decode cC_feed 8 = .ok (.iadd, 1) := by decide +kernel
theorem dC_feed_9 : decode cC_feed 9 = .ok (.sipush 400, 3) := by decide +kernel
theorem dC_feed_12 : decode cC_feed 12 = .ok (.if_icmp .le 13, 3) := by decide +kernel
theorem dC_feed_15 : decode cC_feed 15 = .ok (.new 119, 3) := by decide +kernel
theorem dC_feed_18 : decode cC_feed 18 = .ok (.dup, 1) := by decide +kernel
theorem dC_feed_19 : decode cC_feed 19 = .ok (.ldc 121, 2) := by decide +kernel
theorem dC_feed_21 : decode cC_feed 21 = .ok (.invokespecial 123, 3) := by decide +kernel
theorem dC_feed_24 : decode cC_feed 24 = .ok (.athrow, 1) := by decide +kernel
theorem dC_feed_25 : decode cC_feed 25 = .ok (.bipush 24, 2) := by decide +kernel
theorem dC_feed_27 : decode cC_feed 27 = .ok (.istore_n 2, 1) := by decide +kernel
theorem dC_feed_28 : decode cC_feed 28 = .ok (.iload_n 2, 1) := by decide +kernel
theorem dC_feed_29 : decode cC_feed 29 = .ok (.ifCond .lt 19, 3) := by decide +kernel
theorem dC_feed_32 : decode cC_feed 32 = .ok (.aload_n 0, 1) := by decide +kernel
theorem dC_feed_33 : decode cC_feed 33 = .ok (.getfield 19, 3) := by decide +kernel
theorem dC_feed_36 : decode cC_feed 36 = .ok (.iload_n 1, 1) := by decide +kernel
theorem dC_feed_37 : decode cC_feed 37 = .ok (.iload_n 2, 1) := by decide +kernel
theorem dC_feed_38 : decode cC_feed 38 = .ok (.ishr, 1) := by decide +kernel
theorem dC_feed_39 : decode cC_feed 39 = .ok (.invokevirtual 124, 3) := by decide +kernel
theorem dC_feed_42 : decode cC_feed 42 = .ok (.iinc 2 (-8), 3) := by decide +kernel
theorem dC_feed_45 : decode cC_feed 45 = .ok (.goto (-17), 3) := by decide +kernel
theorem dC_feed_48 : decode cC_feed 48 = .ok (.aload_n 0, 1) := by decide +kernel
theorem dC_feed_49 : decode cC_feed 49 = .ok (.getfield 19, 3) := by decide +kernel
theorem dC_feed_52 : decode cC_feed 52 = .ok (.getfield 116, 3) := by decide +kernel
theorem dC_feed_55 : decode cC_feed 55 = .ok (.ireturn, 1) := by decide +kernel
theorem dC_fields_0 : decode cC_fields 0 = .ok (.aload_n 0, 1) := by decide +kernel
theorem dC_fields_1 : decode cC_fields 1 = .ok (.getfield 10, 3) := by decide +kernel
theorem dC_fields_4 : decode cC_fields 4 = .ok (.invokevirtual 108, 3) := by decide +kernel
theorem dC_fields_7 : decode cC_fields 7 = .ok (.ireturn, 1) := by decide +kernel
theorem dC_init_0 : decode cC_init 0 = .ok (.aload_n 0, 1) := by decide +kernel
theorem dC_init_1 : decode cC_init 1 = .ok (.invokespecial 1, 3) := by decide +kernel
theorem dC_init_4 : decode cC_init 4 = .ok (.aload_n 0, 1) := by decide +kernel
theorem dC_init_5 : decode cC_init 5 = .ok (.new 7, 3) := by decide +kernel
theorem dC_init_8 : decode cC_init 8 = .ok (.dup, 1) := by decide +kernel
theorem dC_init_9 : decode cC_init 9 = .ok (.invokespecial 9, 3) := by decide +kernel
theorem dC_init_12 : decode cC_init 12 = .ok (.putfield 10, 3) := by decide +kernel
theorem dC_init_15 : decode cC_init 15 = .ok (.aload_n 0, 1) := by decide +kernel
theorem dC_init_16 : decode cC_init 16 = .ok (.new 16, 3) := by decide +kernel
theorem dC_init_19 : decode cC_init 19 = .ok (.dup, 1) := by decide +kernel
theorem dC_init_20 : decode cC_init 20 = .ok (.invokespecial 18, 3) := by decide +kernel
theorem dC_init_23 : decode cC_init 23 = .ok (.putfield 19, 3) := by decide +kernel
theorem dC_init_26 : decode cC_init 26 = .ok (.aload_n 0, 1) := by decide +kernel
theorem dC_init_27 : decode cC_init 27 = .ok (.new 23, 3) := by decide +kernel
theorem dC_init_30 : decode cC_init 30 = .ok (.dup, 1) := by decide +kernel
theorem dC_init_31 : decode cC_init 31 = .ok (.aload_n 0, 1) := by decide +kernel
theorem dC_init_32 : decode cC_init 32 = .ok (.getfield 19, 3) := by decide +kernel
theorem dC_init_35 : decode cC_init 35 = .ok (.invokespecial 25, 3) := by decide +kernel
theorem dC_init_38 : decode cC_init 38 = .ok (.putfield 28, 3) := by decide +kernel
theorem dC_init_41 : decode cC_init 41 = .ok (.return_, 1) := by decide +kernel
theorem dC_knownSlot_0 : decode cC_knownSlot 0 = .ok (.iconst 0, 1) := by decide +kernel
theorem dC_knownSlot_1 : decode cC_knownSlot 1 = .ok (.istore_n 1, 1) := by decide +kernel
theorem dC_knownSlot_2 : decode cC_knownSlot 2 = .ok (.iload_n 1, 1) := by decide +kernel
theorem dC_knownSlot_3 : decode cC_knownSlot 3 = .ok (.bipush 16, 2) := by decide +kernel
theorem dC_knownSlot_5 : decode cC_knownSlot 5 = .ok (.if_icmp .ge 20, 3) := by decide +kernel
theorem dC_knownSlot_8 : decode cC_knownSlot 8 = .ok (.getstatic 156, 3) := by decide +kernel
theorem dC_knownSlot_11 : decode cC_knownSlot 11 = .ok (.iload_n 1, 1) := by decide +kernel
theorem dC_knownSlot_12 : decode cC_knownSlot 12 = .ok (.iaload, 1) := by decide +kernel
theorem dC_knownSlot_13 : decode cC_knownSlot 13 = .ok (.iload_n 0, 1) := by decide +kernel
theorem dC_knownSlot_14 : decode cC_knownSlot 14 = .ok (.if_icmp .ne 5, 3) := by decide +kernel
theorem dC_knownSlot_17 : decode cC_knownSlot 17 = .ok (.iload_n 1, 1) := by decide +kernel
theorem dC_knownSlot_18 : decode cC_knownSlot 18 = .ok (.ireturn, 1) := by decide +kernel
theorem dC_knownSlot_19 : decode cC_knownSlot 19 = .ok (.iinc 1 1, 3) := by decide +kernel
theorem dC_knownSlot_22 : decode cC_knownSlot 22 = .ok (.goto (-20), 3) := by decide +kernel
theorem dC_knownSlot_25 : decode cC_knownSlot 25 = .ok (.new 32, 3) := by decide +kernel
theorem dC_knownSlot_28 : decode cC_knownSlot 28 = .ok (.dup, 1) := by decide +kernel
theorem dC_knownSlot_29 : decode cC_knownSlot 29 = .ok (.ldc 159, 2) := by decide +kernel
theorem dC_knownSlot_31 : decode cC_knownSlot 31 = .ok (.invokespecial 36, 3) := by decide +kernel
theorem dC_knownSlot_34 : decode cC_knownSlot 34 = .ok (.athrow, 1) := by decide +kernel
theorem dC_letters_0 : decode cC_letters 0 = .ok (.iload_n 1, 1) := by decide +kernel
theorem dC_letters_1 : decode cC_letters 1 = .ok (.invokestatic 64, 3) := by decide +kernel
theorem dC_letters_4 : decode cC_letters 4 = .ok (.istore 5, 2) := by decide +kernel
theorem dC_letters_6 : decode cC_letters 6 = .ok (.getstatic 67, 3) := by decide +kernel
theorem dC_letters_9 : decode cC_letters 9 = .ok (.iload 5, 2) := by decide +kernel
theorem dC_letters_11 : decode cC_letters 11 = .ok (.iaload, 1) := by decide +kernel
theorem dC_letters_12 : decode cC_letters 12 = .ok (.ifCond .ne 13, 3) := by decide +kernel
theorem dC_letters_15 : decode cC_letters 15 = .ok (.new 32, 3) := by decide +kernel
theorem dC_letters_18 : decode cC_letters 18 = .ok (.dup, 1) := by decide +kernel
theorem dC_letters_19 : decode cC_letters 19 = .ok (.ldc 70, 2) := by decide +kernel
theorem dC_letters_21 : decode cC_letters 21 = .ok (.invokespecial 36, 3) := by decide +kernel
theorem dC_letters_24 : decode cC_letters 24 = .ok (.athrow, 1) := by decide +kernel
theorem dC_letters_25 : decode cC_letters 25 = .ok (.getstatic 57, 3) := by decide +kernel
theorem dC_letters_28 : decode cC_letters 28 = .ok (.iload 5, 2) := by decide +kernel
theorem dC_letters_30 : decode cC_letters 30 = .ok (.iaload, 1) := by decide +kernel
theorem dC_letters_31 : decode cC_letters 31 = .ok (.ifCond .ne 7, 3) := by decide +kernel
theorem dC_letters_34 : decode cC_letters 34 = .ok (.iconst 1, 1) := by decide +kernel
theorem dC_letters_35 : decode cC_letters 35 = .ok (.goto 4, 3) := by decide +kernel
theorem dC_letters_38 : decode cC_letters 38 = .ok (.iconst 0, 1) := by decide +kernel
theorem dC_letters_39 : decode cC_letters 39 = .ok (.istore 6, 2) := by decide +kernel
theorem dC_letters_41 : decode cC_letters 41 = .ok (.iload 6, 2) := by decide +kernel
theorem dC_letters_43 : decode cC_letters 43 = .ok (.ifCond .eq 11, 3) := by decide +kernel
theorem dC_letters_46 : decode cC_letters 46 = .ok (.iload 4, 2) := by decide +kernel
theorem dC_letters_48 : decode cC_letters 48 = .ok (.ifCond .eq 33, 3) := by decide +kernel
theorem dC_letters_51 : decode cC_letters 51 = .ok (.goto 20, 3) := by decide +kernel
theorem dC_letters_54 : decode cC_letters 54 = .ok (.iload 4, 2) := by decide +kernel
theorem dC_letters_56 : decode cC_letters 56 = .ok (.iconst 1, 1) := by decide +kernel
theorem dC_letters_57 : decode cC_letters 57 = .ok (.if_icmp .lt 14, 3) := by decide +kernel
theorem dC_letters_60 : decode cC_letters 60 = .ok (.iload 4, 2) := by decide +kernel
theorem dC_letters_62 : decode cC_letters 62 = .ok (.getstatic 51, 3) := by decide +kernel
theorem dC_letters_65 : decode cC_letters 65 = .ok (.iload 5, 2) := by decide +kernel
theorem dC_letters_67 : decode cC_letters 67 = .ok (.iaload, 1) := by decide +kernel
theorem dC_letters_68 : decode cC_letters 68 = .ok (.if_icmp .le 13, 3) := by decide +kernel
theorem dC_letters_71 : decode cC_letters 71 = .ok (.new 32, 3) := by decide +kernel
theorem dC_letters_74 : decode cC_letters 74 = .ok (.dup, 1) := by decide +kernel
theorem dC_letters_75 : decode cC_letters 75 = .ok (.ldc 72, 2) := by decide +kernel
theorem dC_letters_77 : decode cC_letters 77 = .ok (.invokespecial 36, 3) := by decide +kernel
theorem dC_letters_80 : decode cC_letters 80 = .ok (.athrow, 1) := by decide +kernel
theorem dC_letters_81 : decode cC_letters 81 = .ok (.aload_n 0, 1) := by decide +kernel
theorem dC_letters_82 : decode cC_letters 82 = .ok (.getfield 10, 3) := by decide +kernel
theorem dC_letters_85 : decode cC_letters 85 = .ok (.iload 5, 2) := by decide +kernel
theorem dC_letters_87 : decode cC_letters 87 = .ok (.iload 6, 2) := by decide +kernel
theorem dC_letters_89 : decode cC_letters 89 = .ok (.ifCond .eq 12, 3) := by decide +kernel
theorem dC_letters_92 : decode cC_letters 92 = .ok (.getstatic 51, 3) := by decide +kernel
theorem dC_letters_95 : decode cC_letters 95 = .ok (.iload 5, 2) := by decide +kernel
theorem dC_letters_97 : decode cC_letters 97 = .ok (.iaload, 1) := by decide +kernel
theorem dC_letters_98 : decode cC_letters 98 = .ok (.goto 5, 3) := by decide +kernel
theorem dC_letters_101 : decode cC_letters 101 = .ok (.iload 4, 2) := by decide +kernel
theorem dC_letters_103 : decode cC_letters 103 = .ok (.lload_n 2, 1) := by decide +kernel
theorem dC_letters_104 : decode cC_letters 104 = .ok (.invokevirtual 74, 3) := by decide +kernel
theorem dC_letters_107 : decode cC_letters 107 = .ok (.return_, 1) := by decide +kernel
theorem dC_mapBit_0 : decode cC_mapBit 0 = .ok (.sipush 128, 3) := by decide +kernel
theorem dC_mapBit_3 : decode cC_mapBit 3 = .ok (.iload_n 0, 1) := by decide +kernel
theorem dC_mapBit_4 : decode cC_mapBit 4 = .ok (.iconst 1, 1) := by decide +kernel
theorem dC_mapBit_5 : decode cC_mapBit 5 = .ok (.isub, 1) := by decide +kernel
theorem dC_mapBit_6 : decode cC_mapBit 6 = .ok (.bipush 8, 2) := by decide +kernel
theorem dC_mapBit_8 : decode cC_mapBit 8 = .ok (.irem, 1) := by decide +kernel
theorem dC_mapBit_9 : decode cC_mapBit 9 = .ok (.ishr, 1) := by decide +kernel
theorem dC_mapBit_10 : decode cC_mapBit 10 = .ok (.ireturn, 1) := by decide +kernel
theorem dC_mapByte_0 : decode cC_mapByte 0 = .ok (.iload_n 0, 1) := by decide +kernel
theorem dC_mapByte_1 : decode cC_mapByte 1 = .ok (.iconst 1, 1) := by decide +kernel
theorem dC_mapByte_2 : decode cC_mapByte 2 = .ok (.isub, 1) := by decide +kernel
theorem dC_mapByte_3 : decode cC_mapByte 3 = .ok (.bipush 8, 2) := by decide +kernel
theorem dC_mapByte_5 : decode cC_mapByte 5 = .ok (.idiv, 1) := by decide +kernel
theorem dC_mapByte_6 : decode cC_mapByte 6 = .ok (.ireturn, 1) := by decide +kernel
theorem dC_message_0 : decode cC_message 0 = .ok (.iload_n 1, 1) := by decide +kernel
theorem dC_message_1 : decode cC_message 1 = .ok (.ifCond .lt 10, 3) := by decide +kernel
theorem dC_message_4 : decode cC_message 4 = .ok (.iload_n 1, 1) := by decide +kernel
theorem dC_message_5 : decode cC_message 5 = .ok (.sipush 9999, 3) := by decide +kernel
theorem dC_message_8 : decode cC_message 8 = .ok (.if_icmp .le 13, 3) := by decide +kernel
theorem dC_message_11 : decode cC_message 11 = .ok (.new 32, 3) := by decide +kernel
theorem dC_message_14 : decode cC_message 14 = .ok (.dup, 1) := by decide +kernel
theorem dC_message_15 : decode cC_message 15 = .ok (.ldc 34, 2) := by decide +kernel
theorem dC_message_17 : decode cC_message 17 = .ok (.invokespecial 36, 3) := by decide +kernel
theorem dC_message_20 : decode cC_message 20 = .ok (.athrow, 1) := by decide +kernel
theorem dC_message_21 : decode cC_message 21 = .ok (.aload_n 0, 1) := by decide +kernel
theorem dC_message_22 : decode cC_message 22 = .ok (.getfield 10, 3) := by decide +kernel
theorem dC_message_25 : decode cC_message 25 = .ok (.iload_n 1, 1) := by decide +kernel
theorem dC_message_26 : decode cC_message 26 = .ok (.invokevirtual 39, 3) := by decide +kernel
theorem dC_message_29 : decode cC_message 29 = .ok (.return_, 1) := by decide +kernel
theorem dC_number_0 : decode cC_number 0 = .ok (.iload_n 1, 1) := by decide +kernel
theorem dC_number_1 : decode cC_number 1 = .ok (.invokestatic 43, 3) := by decide +kernel
theorem dC_number_4 : decode cC_number 4 = .ok (.istore_n 2, 1) := by decide +kernel
theorem dC_number_5 : decode cC_number 5 = .ok (.aload_n 0, 1) := by decide +kernel
theorem dC_number_6 : decode cC_number 6 = .ok (.getfield 10, 3) := by decide +kernel
theorem dC_number_9 : decode cC_number 9 = .ok (.iload_n 2, 1) := by decide +kernel
theorem dC_number_10 : decode cC_number 10 = .ok (.invokevirtual 85, 3) := by decide +kernel
theorem dC_number_13 : decode cC_number 13 = .ok (.ifCond .eq 14, 3) := by decide +kernel
theorem dC_number_16 : decode cC_number 16 = .ok (.aload_n 0, 1) := by decide +kernel
theorem dC_number_17 : decode cC_number 17 = .ok (.getfield 10, 3) := by decide +kernel
theorem dC_number_20 : decode cC_number 20 = .ok (.iload_n 2, 1) := by decide +kernel
theorem dC_number_21 : decode cC_number 21 = .ok (.invokevirtual 102, 3) := by decide +kernel
theorem dC_number_24 : decode cC_number 24 = .ok (.goto 6, 3) := by decide +kernel
theorem dC_number_27 : decode cC_number 27 = .ok (.ldc2_w 106, 3) := by decide +kernel
theorem dC_number_30 : decode cC_number 30 = .ok (.lreturn, 1) := by decide +kernel
theorem dC_omit_0 : decode cC_omit 0 = .ok (.iload_n 1, 1) := by decide +kernel
theorem dC_omit_1 : decode cC_omit 1 = .ok (.invokestatic 64, 3) := by decide +kernel
theorem dC_omit_4 : decode cC_omit 4 = .ok (.istore_n 2, 1) := by decide +kernel
theorem dC_omit_5 : decode cC_omit 5 = .ok (.aload_n 0, 1) := by decide +kernel
theorem dC_omit_6 : decode cC_omit 6 = .ok (.getfield 10, 3) := by decide +kernel
theorem dC_omit_9 : decode cC_omit 9 = .ok (.iload_n 2, 1) := by decide +kernel
theorem dC_omit_10 : decode cC_omit 10 = .ok (.invokevirtual 85, 3) := by decide +kernel
theorem dC_omit_13 : decode cC_omit 13 = .ok (.istore_n 3, 1) := by decide +kernel
theorem dC_omit_14 : decode cC_omit 14 = .ok (.aload_n 0, 1) := by decide +kernel
theorem dC_omit_15 : decode cC_omit 15 = .ok (.getfield 10, 3) := by decide +kernel
theorem dC_omit_18 : decode cC_omit 18 = .ok (.getfield 89, 3) := by decide +kernel
theorem dC_omit_21 : decode cC_omit 21 = .ok (.iload_n 2, 1) := by decide +kernel
theorem dC_omit_22 : decode cC_omit 22 = .ok (.iconst 0, 1) := by decide +kernel
theorem dC_omit_23 : decode cC_omit 23 = .ok (.iastore, 1) := by decide +kernel
theorem dC_omit_24 : decode cC_omit 24 = .ok (.iload_n 3, 1) := by decide +kernel
theorem dC_omit_25 : decode cC_omit 25 = .ok (.ireturn, 1) := by decide +kernel
theorem dC_original_0 : decode cC_original 0 = .ok (.iload_n 1, 1) := by decide +kernel
theorem dC_original_1 : decode cC_original 1 = .ok (.ifCond .lt 30, 3) := by decide +kernel
theorem dC_original_4 : decode cC_original 4 = .ok (.iload_n 1, 1) := by decide +kernel
theorem dC_original_5 : decode cC_original 5 = .ok (.sipush 9999, 3) := by decide +kernel
theorem dC_original_8 : decode cC_original 8 = .ok (.if_icmp .gt 23, 3) := by decide +kernel
theorem dC_original_11 : decode cC_original 11 = .ok (.iload_n 2, 1) := by decide +kernel
theorem dC_original_12 : decode cC_original 12 = .ok (.ifCond .lt 19, 3) := by decide +kernel
theorem dC_original_15 : decode cC_original 15 = .ok (.iload_n 2, 1) := by decide +kernel
theorem dC_original_16 : decode cC_original 16 = .ok (.ldc 77, 2) := by decide +kernel
theorem dC_original_18 : decode cC_original 18 = .ok (.if_icmp .gt 13, 3) := by decide +kernel
theorem dC_original_21 : decode cC_original 21 = .ok (.iload_n 3, 1) := by decide +kernel
theorem dC_original_22 : decode cC_original 22 = .ok (.ifCond .lt 9, 3) := by decide +kernel
theorem dC_original_25 : decode cC_original 25 = .ok (.iload_n 3, 1) := by decide +kernel
theorem dC_original_26 : decode cC_original 26 = .ok (.ldc 78, 2) := by decide +kernel
theorem dC_original_28 : decode cC_original 28 = .ok (.if_icmp .le 13, 3) := by decide +kernel
theorem dC_original_31 : decode cC_original 31 = .ok (.new 32, 3) := by decide +kernel
theorem dC_original_34 : decode cC_original 34 = .ok (.dup, 1) := by decide +kernel
theorem dC_original_35 : decode cC_original 35 = .ok (.ldc 79, 2) := by decide +kernel
theorem dC_original_37 : decode cC_original 37 = .ok (.invokespecial 36, 3) := by decide +kernel
theorem dC_original_40 : decode cC_original 40 = .ok (.athrow, 1) := by decide +kernel
theorem dC_original_41 : decode cC_original 41 = .ok (.aload_n 0, 1) := by decide +kernel
theorem dC_original_42 : decode cC_original 42 = .ok (.getfield 10, 3) := by decide +kernel
theorem dC_original_45 : decode cC_original 45 = .ok (.iload_n 1, 1) := by decide +kernel
theorem dC_original_46 : decode cC_original 46 = .ok (.iload_n 2, 1) := by decide +kernel
theorem dC_original_47 : decode cC_original 47 = .ok (.iload_n 3, 1) := by decide +kernel
theorem dC_original_48 : decode cC_original 48 = .ok (.invokevirtual 81, 3) := by decide +kernel
theorem dC_original_51 : decode cC_original 51 = .ok (.return_, 1) := by decide +kernel
theorem dC_read_0 : decode cC_read 0 = .ok (.aload_n 0, 1) := by decide +kernel
theorem dC_read_1 : decode cC_read 1 = .ok (.getfield 28, 3) := by decide +kernel
theorem dC_read_4 : decode cC_read 4 = .ok (.invokevirtual 140, 3) := by decide +kernel
theorem dC_read_7 : decode cC_read 7 = .ok (.ifCond .ne 5, 3) := by decide +kernel
theorem dC_read_10 : decode cC_read 10 = .ok (.iconst 0, 1) := by decide +kernel
theorem dC_read_11 : decode cC_read 11 = .ok (.ireturn, 1) := by decide +kernel
theorem dC_read_12 : decode cC_read 12 = .ok (.aload_n 0, 1) := by decide +kernel
theorem dC_read_13 : decode cC_read 13 = .ok (.getfield 10, 3) := by decide +kernel
theorem dC_read_16 : decode cC_read 16 = .ok (.aload_n 0, 1) := by decide +kernel
theorem dC_read_17 : decode cC_read 17 = .ok (.getfield 28, 3) := by decide +kernel
theorem dC_read_20 : decode cC_read 20 = .ok (.getfield 150, 3) := by decide +kernel
theorem dC_read_23 : decode cC_read 23 = .ok (.invokevirtual 153, 3) := by decide +kernel
theorem dC_read_26 : decode cC_read 26 = .ok (.iconst 1, 1) := by decide +kernel
theorem dC_read_27 : decode cC_read 27 = .ok (.ireturn, 1) := by decide +kernel
theorem dC_size_0 : decode cC_size 0 = .ok (.iload_n 1, 1) := by decide +kernel
theorem dC_size_1 : decode cC_size 1 = .ok (.invokestatic 64, 3) := by decide +kernel
theorem dC_size_4 : decode cC_size 4 = .ok (.istore_n 2, 1) := by decide +kernel
theorem dC_size_5 : decode cC_size 5 = .ok (.aload_n 0, 1) := by decide +kernel
theorem dC_size_6 : decode cC_size 6 = .ok (.getfield 10, 3) := by decide +kernel
theorem dC_size_9 : decode cC_size 9 = .ok (.iload_n 2, 1) := by decide +kernel
theorem dC_size_10 : decode cC_size 10 = .ok (.invokevirtual 85, 3) := by decide +kernel
theorem dC_size_13 : decode cC_size 13 = .ok (.ifCond .eq 15, 3) := by decide +kernel
theorem dC_size_16 : decode cC_size 16 = .ok (.aload_n 0, 1) := by decide +kernel
theorem dC_size_17 : decode cC_size 17 = .ok (.getfield 10, 3) := by decide +kernel
theorem dC_size_20 : decode cC_size 20 = .ok (.getfield 89, 3) := by decide +kernel
theorem dC_size_23 : decode cC_size 23 = .ok (.iload_n 2, 1) := by decide +kernel
theorem dC_size_24 : decode cC_size 24 = .ok (.iaload, 1) := by decide +kernel
theorem dC_size_25 : decode cC_size 25 = .ok (.goto 4, 3) := by decide +kernel
theorem dC_size_28 : decode cC_size 28 = .ok (.iconst (-1), 1) := by decide +kernel
theorem dC_size_29 : decode cC_size 29 = .ok (.ireturn, 1) := by decide +kernel
theorem dC_spoil_0 : decode cC_spoil 0 = .ok (.iload_n 1, 1) := by decide +kernel
theorem dC_spoil_1 : decode cC_spoil 1 = .ok (.ifCond .lt 25, 3) := by decide +kernel
theorem dC_spoil_4 : decode cC_spoil 4 = .ok (.iload_n 1, 1) := by decide +kernel
theorem dC_spoil_5 : decode cC_spoil 5 = .ok (.aload_n 0, 1) := by decide +kernel
theorem dC_spoil_6 : decode cC_spoil 6 = .ok (.getfield 19, 3) := by decide +kernel
theorem dC_spoil_9 : decode cC_spoil 9 = .ok (.getfield 116, 3) := by decide +kernel
theorem dC_spoil_12 : decode cC_spoil 12 = .ok (.if_icmp .ge 14, 3) := by decide +kernel
theorem dC_spoil_15 : decode cC_spoil 15 = .ok (.iload_n 2, 1) := by decide +kernel
theorem dC_spoil_16 : decode cC_spoil 16 = .ok (.ifCond .lt 10, 3) := by decide +kernel
theorem dC_spoil_19 : decode cC_spoil 19 = .ok (.iload_n 2, 1) := by decide +kernel
theorem dC_spoil_20 : decode cC_spoil 20 = .ok (.sipush 255, 3) := by decide +kernel
theorem dC_spoil_23 : decode cC_spoil 23 = .ok (.if_icmp .le 13, 3) := by decide +kernel
theorem dC_spoil_26 : decode cC_spoil 26 = .ok (.new 32, 3) := by decide +kernel
theorem dC_spoil_29 : decode cC_spoil 29 = .ok (.dup, 1) := by decide +kernel
theorem dC_spoil_30 : decode cC_spoil 30 = .ok (.ldc 129, 2) := by decide +kernel
theorem dC_spoil_32 : decode cC_spoil 32 = .ok (.invokespecial 36, 3) := by decide +kernel
theorem dC_spoil_35 : decode cC_spoil 35 = .ok (.athrow, 1) := by decide +kernel
theorem dC_spoil_36 : decode cC_spoil 36 = .ok (.aload_n 0, 1) := by decide +kernel
theorem dC_spoil_37 : decode cC_spoil 37 = .ok (.getfield 19, 3) := by decide +kernel
theorem dC_spoil_40 : decode cC_spoil 40 = .ok (.iload_n 1, 1) := by decide +kernel
theorem dC_spoil_41 : decode cC_spoil 41 = .ok (.iload_n 2, 1) := by decide +kernel
theorem dC_spoil_42 : decode cC_spoil 42 = .ok (.invokevirtual 131, 3) := by decide +kernel
theorem dC_spoil_45 : decode cC_spoil 45 = .ok (.aload_n 0, 1) := by decide +kernel
theorem dC_spoil_46 : decode cC_spoil 46 = .ok (.getfield 19, 3) := by decide +kernel
theorem dC_spoil_49 : decode cC_spoil 49 = .ok (.iload_n 1, 1) := by decide +kernel
theorem dC_spoil_50 : decode cC_spoil 50 = .ok (.invokevirtual 135, 3) := by decide +kernel
theorem dC_spoil_53 : decode cC_spoil 53 = .ok (.ireturn, 1) := by decide +kernel
theorem dC_trim_0 : decode cC_trim 0 = .ok (.iload_n 1, 1) := by decide +kernel
theorem dC_trim_1 : decode cC_trim 1 = .ok (.ifCond .lt 14, 3) := by decide +kernel
theorem dC_trim_4 : decode cC_trim 4 = .ok (.iload_n 1, 1) := by decide +kernel
theorem dC_trim_5 : decode cC_trim 5 = .ok (.aload_n 0, 1) := by decide +kernel
theorem dC_trim_6 : decode cC_trim 6 = .ok (.getfield 19, 3) := by decide +kernel
theorem dC_trim_9 : decode cC_trim 9 = .ok (.getfield 116, 3) := by decide +kernel
theorem dC_trim_12 : decode cC_trim 12 = .ok (.if_icmp .le 13, 3) := by decide +kernel
theorem dC_trim_15 : decode cC_trim 15 = .ok (.new 32, 3) := by decide +kernel
theorem dC_trim_18 : decode cC_trim 18 = .ok (.dup, 1) := by decide +kernel
theorem dC_trim_19 : decode cC_trim 19 = .ok (.ldc 127, 2) := by decide +kernel
theorem dC_trim_21 : decode cC_trim 21 = .ok (.invokespecial 36, 3) := by decide +kernel
theorem dC_trim_24 : decode cC_trim 24 = .ok (.athrow, 1) := by decide +kernel
theorem dC_trim_25 : decode cC_trim 25 = .ok (.aload_n 0, 1) := by decide +kernel
theorem dC_trim_26 : decode cC_trim 26 = .ok (.getfield 19, 3) := by decide +kernel
theorem dC_trim_29 : decode cC_trim 29 = .ok (.dup, 1) := by decide +kernel
theorem dC_trim_30 : decode cC_trim 30 = .ok (.getfield 116, 3) := by decide +kernel
theorem dC_trim_33 : decode cC_trim 33 = .ok (.iload_n 1, 1) := by decide +kernel
theorem dC_trim_34 : decode cC_trim 34 = .ok (.isub, 1) := by decide +kernel
theorem dC_trim_35 : decode cC_trim 35 = .ok (.putfield 116, 3) := by decide +kernel
theorem dC_trim_38 : decode cC_trim 38 = .ok (.aload_n 0, 1) := by decide +kernel
theorem dC_trim_39 : decode cC_trim 39 = .ok (.getfield 19, 3) := by decide +kernel
theorem dC_trim_42 : decode cC_trim 42 = .ok (.getfield 116, 3) := by decide +kernel
theorem dC_trim_45 : decode cC_trim 45 = .ok (.ireturn, 1) := by decide +kernel
theorem dC_type_0 : decode cC_type 0 = .ok (.aload_n 0, 1) := by decide +kernel
theorem dC_type_1 : decode cC_type 1 = .ok (.getfield 10, 3) := by decide +kernel
theorem dC_type_4 : decode cC_type 4 = .ok (.getfield 92, 3) := by decide +kernel
theorem dC_type_7 : decode cC_type 7 = .ok (.ireturn, 1) := by decide +kernel
end
section
/-! rows of one's own, in numbers: ints as nI of a natural, int and byte arrays as functions to naturals -/
/-- a byte of 0 .. 255 as the array keeps it -/
def sB (n : Nat) : Int32 := (nI n).toInt8.toInt32
abbrev aN (f : Nat → Nat) : Nat → Int32 := fun j => nI (f j)
abbrev aB (f : Nat → Nat) : Nat → Int32 := fun j => sB (f j)
/-- a store into a function -/
def nup (f : Nat → Nat) (k v : Nat) : Nat → Nat := fun j => if j = k then v else f j
theorem nup_s {f : Nat → Nat} {k v : Nat} : nup f k v k = v := if_pos rfl
theorem nup_n {f : Nat → Nat} {k v j : Nat} (h : j ≠ k) : nup f k v j = f j := if_neg h
theorem aN_at {f : Nat → Nat} {k : Nat} (h : k < 2 ^ 31) : aN f (nI k).toNatClampNeg = nI (f k) := by
  show nI (f (nI k).toNatClampNeg) = _
  rw [nI_clamp h]
theorem aB_at {f : Nat → Nat} {k : Nat} (h : k < 2 ^ 31) : aB f (nI k).toNatClampNeg = sB (f k) := by
  show sB (f (nI k).toNatClampNeg) = _
  rw [nI_clamp h]
theorem aN_up {f : Nat → Nat} {k v : Nat} (h : k < 2 ^ 31) : upd (aN f) (nI k).toNatClampNeg (nI v) = aN (nup f k v) := by
  rw [nI_clamp h]
  funext j
  show (if j = k then nI v else nI (f j)) = nI (if j = k then v else f j)
  split <;> rfl
theorem aB_up {f : Nat → Nat} {k v : Nat} (h : k < 2 ^ 31) : upd (aB f) (nI k).toNatClampNeg (sB v) = aB (nup f k v) := by
  rw [nI_clamp h]
  funext j
  show (if j = k then sB v else sB (f j)) = sB (if j = k then v else f j)
  split <;> rfl
theorem sB_and {n : Nat} (h : n < 256) : sB n &&& 255 = nI n := sc_k8 n h
theorem sB_byte (n : Nat) : (nI n).toInt8.toInt32 = sB n := rfl
theorem sB_nar (n : Nat) : vp_nar .byte (sB n) = sB n := pk_vb (nI n)
/-- of a small one the byte is itself -/
theorem sB_small : ∀ n, n < 128 → sB n = nI n := by decide
theorem zi_incr (a n : Nat) : nI a + Int32.ofInt (n : Int) = nI (a + n) := nI_add a n
theorem zi_decr {a n : Nat} (h : n ≤ a) : nI a + Int32.ofInt (-(n : Int)) = nI (a - n) := by
  have e : Int32.ofInt (-(n : Int)) = - nI n := by
    rw [Int32.ofInt_neg]
    rfl
  rw [e, ← Int32.sub_eq_add_neg, pk_sub h]
section ZI
variable {p : Program} {l : Launch} {e : Env} {R : Room} {s : State} {m : MethodId} {args : Array Value} {below : List Frame} {meth : Method} {c : Code} {H : Heap} {locs : List Loc} {cells slots : Nat} {Q : State → Prop} {cc : ByteArray} {pc : Nat} {ls : Array Slot} {rest : List Value}
theorem zi_v {x b : Int32} (h : x = b) (k : W p l e R s m args below meth c H locs cells slots Q (F0 m pc ls (.int b :: rest))) : W p l e R s m args below meth c H locs cells slots Q (F0 m pc ls (.int x :: rest)) := by rw [h]; exact k
theorem zl_v {x b : Int64} (h : x = b) (k : W p l e R s m args below meth c H locs cells slots Q (F0 m pc ls (.long b :: rest))) : W p l e R s m args below meth c H locs cells slots Q (F0 m pc ls (.long x :: rest)) := by rw [h]; exact k
theorem zi_c {v : Int32} {a : Nat} (h : v = nI a) (k : W p l e R s m args below meth c H locs cells slots Q (F0 m pc ls (.int (nI a) :: rest))) : W p l e R s m args below meth c H locs cells slots Q (F0 m pc ls (.int v :: rest)) := by rw [h]; exact k
theorem zl_c {v : Int64} {a : Nat} (h : v = lN a) (k : W p l e R s m args below meth c H locs cells slots Q (F0 m pc ls (.long (lN a) :: rest))) : W p l e R s m args below meth c H locs cells slots Q (F0 m pc ls (.long v :: rest)) := by rw [h]; exact k
/-- the goal's end by a name -/
theorem zq_name {g : JFrame} (k : ∀ Q' : State → Prop, Q' = Q → W p l e R s m args below meth c H locs cells slots Q' g) : W p l e R s m args below meth c H locs cells slots Q g := k Q rfl
theorem zi_add (hx : p.tables.exec = Jvm.exec) (hb : c.code = cc) {a b : Nat} (hdg : decode cc pc = .ok (.iadd, 1)) (k : W p l e R s m args below meth c H locs cells slots Q (F0 m (pc + 1) ls (.int (nI (a + b)) :: rest))) : W p l e R s m args below meth c H locs cells slots Q (F0 m pc ls (.int (nI b) :: .int (nI a) :: rest)) := lv_iadd hx hb hdg (by rw [nI_add]; exact k)
theorem zi_sub (hx : p.tables.exec = Jvm.exec) (hb : c.code = cc) {a b : Nat} (h : b ≤ a) (hdg : decode cc pc = .ok (.isub, 1)) (k : W p l e R s m args below meth c H locs cells slots Q (F0 m (pc + 1) ls (.int (nI (a - b)) :: rest))) : W p l e R s m args below meth c H locs cells slots Q (F0 m pc ls (.int (nI b) :: .int (nI a) :: rest)) := lv_isub hx hb hdg (by rw [pk_sub h]; exact k)
theorem zi_mul (hx : p.tables.exec = Jvm.exec) (hb : c.code = cc) {a b : Nat} (hdg : decode cc pc = .ok (.imul, 1)) (k : W p l e R s m args below meth c H locs cells slots Q (F0 m (pc + 1) ls (.int (nI (a * b)) :: rest))) : W p l e R s m args below meth c H locs cells slots Q (F0 m pc ls (.int (nI b) :: .int (nI a) :: rest)) := lv_imul hx hb hdg (by rw [pk_mul]; exact k)
theorem zi_div (hx : p.tables.exec = Jvm.exec) (hb : c.code = cc) {a b : Nat} (ha : a < 2 ^ 31) (h0 : 0 < b) (h1 : b < 2 ^ 31) (hdg : decode cc pc = .ok (.idiv, 1)) (k : W p l e R s m args below meth c H locs cells slots Q (F0 m (pc + 1) ls (.int (nI (a / b)) :: rest))) : W p l e R s m args below meth c H locs cells slots Q (F0 m pc ls (.int (nI b) :: .int (nI a) :: rest)) := lv_idiv hx hb hdg (nI_ne0 h0 h1) (by rw [pk_div ha h0 h1]; exact k)
theorem zi_rem (hx : p.tables.exec = Jvm.exec) (hb : c.code = cc) {a b : Nat} (ha : a < 2 ^ 31) (h0 : 0 < b) (h1 : b < 2 ^ 31) (hdg : decode cc pc = .ok (.irem, 1)) (k : W p l e R s m args below meth c H locs cells slots Q (F0 m (pc + 1) ls (.int (nI (a % b)) :: rest))) : W p l e R s m args below meth c H locs cells slots Q (F0 m pc ls (.int (nI b) :: .int (nI a) :: rest)) := lv_irem hx hb hdg (nI_ne0 h0 h1) (by rw [pk_rem ha h0 h1]; exact k)
theorem zi_ge (hx : p.tables.exec = Jvm.exec) (hb : c.code = cc) {a b : Nat} (ha : a < 2 ^ 31) (h1 : b < 2 ^ 31) {off : Int} {tgt : Nat} (hdg : decode cc pc = .ok (.if_icmp .ge off, 3)) (ht : (pc : Int) + off = (tgt : Int)) (kt : b ≤ a → W p l e R s m args below meth c H locs cells slots Q (F0 m tgt ls rest)) (kf : a < b → W p l e R s m args below meth c H locs cells slots Q (F0 m (pc + 3) ls rest)) : W p l e R s m args below meth c H locs cells slots Q (F0 m pc ls (.int (nI b) :: .int (nI a) :: rest)) :=
  lv_icmp_ge hx hb hdg ht (fun q => kt ((nI_leI h1 ha).mp q)) (fun q => kf (Nat.lt_of_not_le fun h => q ((nI_leI h1 ha).mpr h)))
theorem zi_lt (hx : p.tables.exec = Jvm.exec) (hb : c.code = cc) {a b : Nat} (ha : a < 2 ^ 31) (h1 : b < 2 ^ 31) {off : Int} {tgt : Nat} (hdg : decode cc pc = .ok (.if_icmp .lt off, 3)) (ht : (pc : Int) + off = (tgt : Int)) (kt : a < b → W p l e R s m args below meth c H locs cells slots Q (F0 m tgt ls rest)) (kf : b ≤ a → W p l e R s m args below meth c H locs cells slots Q (F0 m (pc + 3) ls rest)) : W p l e R s m args below meth c H locs cells slots Q (F0 m pc ls (.int (nI b) :: .int (nI a) :: rest)) :=
  lv_icmp_lt hx hb hdg ht (fun q => kt ((nI_ltI ha h1).mp q)) (fun q => kf (Nat.le_of_not_lt fun h => q ((nI_ltI ha h1).mpr h)))
theorem zi_gt (hx : p.tables.exec = Jvm.exec) (hb : c.code = cc) {a b : Nat} (ha : a < 2 ^ 31) (h1 : b < 2 ^ 31) {off : Int} {tgt : Nat} (hdg : decode cc pc = .ok (.if_icmp .gt off, 3)) (ht : (pc : Int) + off = (tgt : Int)) (kt : b < a → W p l e R s m args below meth c H locs cells slots Q (F0 m tgt ls rest)) (kf : a ≤ b → W p l e R s m args below meth c H locs cells slots Q (F0 m (pc + 3) ls rest)) : W p l e R s m args below meth c H locs cells slots Q (F0 m pc ls (.int (nI b) :: .int (nI a) :: rest)) :=
  lv_icmp_gt hx hb hdg ht (fun q => kt ((nI_ltI h1 ha).mp q)) (fun q => kf (Nat.le_of_not_lt fun h => q ((nI_ltI h1 ha).mpr h)))
theorem zi_le (hx : p.tables.exec = Jvm.exec) (hb : c.code = cc) {a b : Nat} (ha : a < 2 ^ 31) (h1 : b < 2 ^ 31) {off : Int} {tgt : Nat} (hdg : decode cc pc = .ok (.if_icmp .le off, 3)) (ht : (pc : Int) + off = (tgt : Int)) (kt : a ≤ b → W p l e R s m args below meth c H locs cells slots Q (F0 m tgt ls rest)) (kf : b < a → W p l e R s m args below meth c H locs cells slots Q (F0 m (pc + 3) ls rest)) : W p l e R s m args below meth c H locs cells slots Q (F0 m pc ls (.int (nI b) :: .int (nI a) :: rest)) :=
  lv_icmp_le hx hb hdg ht (fun q => kt ((nI_leI ha h1).mp q)) (fun q => kf (Nat.lt_of_not_le fun h => q ((nI_leI ha h1).mpr h)))
theorem zi_eq (hx : p.tables.exec = Jvm.exec) (hb : c.code = cc) {a b : Nat} (ha : a < 2 ^ 31) (h1 : b < 2 ^ 31) {off : Int} {tgt : Nat} (hdg : decode cc pc = .ok (.if_icmp .eq off, 3)) (ht : (pc : Int) + off = (tgt : Int)) (kt : a = b → W p l e R s m args below meth c H locs cells slots Q (F0 m tgt ls rest)) (kf : a ≠ b → W p l e R s m args below meth c H locs cells slots Q (F0 m (pc + 3) ls rest)) : W p l e R s m args below meth c H locs cells slots Q (F0 m pc ls (.int (nI b) :: .int (nI a) :: rest)) :=
  lv_icmp_eq hx hb hdg ht (fun q => kt ((nI_eq ha h1).mp q)) (fun q => kf (fun h => q ((nI_eq ha h1).mpr h)))
theorem zi_ne (hx : p.tables.exec = Jvm.exec) (hb : c.code = cc) {a b : Nat} (ha : a < 2 ^ 31) (h1 : b < 2 ^ 31) {off : Int} {tgt : Nat} (hdg : decode cc pc = .ok (.if_icmp .ne off, 3)) (ht : (pc : Int) + off = (tgt : Int)) (kt : a ≠ b → W p l e R s m args below meth c H locs cells slots Q (F0 m tgt ls rest)) (kf : a = b → W p l e R s m args below meth c H locs cells slots Q (F0 m (pc + 3) ls rest)) : W p l e R s m args below meth c H locs cells slots Q (F0 m pc ls (.int (nI b) :: .int (nI a) :: rest)) :=
  lv_icmp_ne hx hb hdg ht (fun q => kt (fun h => q ((nI_eq ha h1).mpr h))) (fun q => kf ((nI_eq ha h1).mp q))
theorem zi_eq0 (hx : p.tables.exec = Jvm.exec) (hb : c.code = cc) {a : Nat} (ha : a < 2 ^ 31) {off : Int} {tgt : Nat} (hdg : decode cc pc = .ok (.ifCond .eq off, 3)) (ht : (pc : Int) + off = (tgt : Int)) (kt : a = 0 → W p l e R s m args below meth c H locs cells slots Q (F0 m tgt ls rest)) (kf : a ≠ 0 → W p l e R s m args below meth c H locs cells slots Q (F0 m (pc + 3) ls rest)) : W p l e R s m args below meth c H locs cells slots Q (F0 m pc ls (.int (nI a) :: rest)) :=
  lv_if_eq hx hb hdg ht (fun q => kt ((nI_eq (b := 0) ha (by decide)).mp q)) (fun q => kf (fun h => q ((nI_eq (b := 0) ha (by decide)).mpr h)))
theorem zi_ne0 (hx : p.tables.exec = Jvm.exec) (hb : c.code = cc) {a : Nat} (ha : a < 2 ^ 31) {off : Int} {tgt : Nat} (hdg : decode cc pc = .ok (.ifCond .ne off, 3)) (ht : (pc : Int) + off = (tgt : Int)) (kt : a ≠ 0 → W p l e R s m args below meth c H locs cells slots Q (F0 m tgt ls rest)) (kf : a = 0 → W p l e R s m args below meth c H locs cells slots Q (F0 m (pc + 3) ls rest)) : W p l e R s m args below meth c H locs cells slots Q (F0 m pc ls (.int (nI a) :: rest)) :=
  lv_if_ne hx hb hdg ht (fun q => kt (fun h => q ((nI_eq (b := 0) ha (by decide)).mpr h))) (fun q => kf ((nI_eq (b := 0) ha (by decide)).mp q))
/-- of a natural it isn't below 0: that road is shut -/
theorem zi_lt0 (hx : p.tables.exec = Jvm.exec) (hb : c.code = cc) {a : Nat} (ha : a < 2 ^ 31) {off : Int} {tgt : Nat} (hdg : decode cc pc = .ok (.ifCond .lt off, 3)) (ht : (pc : Int) + off = (tgt : Int)) (kf : W p l e R s m args below meth c H locs cells slots Q (F0 m (pc + 3) ls rest)) : W p l e R s m args below meth c H locs cells slots Q (F0 m pc ls (.int (nI a) :: rest)) :=
  lv_if_lt hx hb hdg ht (fun q => absurd q (nI_pos ha)) (fun _ => kf)
theorem zi_ge0 (hx : p.tables.exec = Jvm.exec) (hb : c.code = cc) {a : Nat} (ha : a < 2 ^ 31) {off : Int} {tgt : Nat} (hdg : decode cc pc = .ok (.ifCond .ge off, 3)) (ht : (pc : Int) + off = (tgt : Int)) (kt : W p l e R s m args below meth c H locs cells slots Q (F0 m tgt ls rest)) : W p l e R s m args below meth c H locs cells slots Q (F0 m pc ls (.int (nI a) :: rest)) :=
  lv_if_ge hx hb hdg ht (fun _ => kt) (fun q => absurd (nI_pos' ha) q)
theorem zi_gt0 (hx : p.tables.exec = Jvm.exec) (hb : c.code = cc) {a : Nat} (ha : a < 2 ^ 31) {off : Int} {tgt : Nat} (hdg : decode cc pc = .ok (.ifCond .gt off, 3)) (ht : (pc : Int) + off = (tgt : Int)) (kt : 0 < a → W p l e R s m args below meth c H locs cells slots Q (F0 m tgt ls rest)) (kf : a = 0 → W p l e R s m args below meth c H locs cells slots Q (F0 m (pc + 3) ls rest)) : W p l e R s m args below meth c H locs cells slots Q (F0 m pc ls (.int (nI a) :: rest)) :=
  lv_if_gt hx hb hdg ht (fun q => kt ((nI_ltI (a := 0) (by decide) ha).mp q)) (fun q => kf (Nat.eq_zero_of_not_pos fun h => q ((nI_ltI (a := 0) (by decide) ha).mpr h)))
theorem zi_le0 (hx : p.tables.exec = Jvm.exec) (hb : c.code = cc) {a : Nat} (ha : a < 2 ^ 31) {off : Int} {tgt : Nat} (hdg : decode cc pc = .ok (.ifCond .le off, 3)) (ht : (pc : Int) + off = (tgt : Int)) (kt : a = 0 → W p l e R s m args below meth c H locs cells slots Q (F0 m tgt ls rest)) (kf : 0 < a → W p l e R s m args below meth c H locs cells slots Q (F0 m (pc + 3) ls rest)) : W p l e R s m args below meth c H locs cells slots Q (F0 m pc ls (.int (nI a) :: rest)) :=
  lv_if_le hx hb hdg ht (fun q => kt (Nat.le_zero.mp ((nI_leI (b := 0) ha (by decide)).mp q))) (fun q => kf (Nat.pos_of_ne_zero fun h => q ((nI_leI (b := 0) ha (by decide)).mpr (Nat.le_of_eq h))))
/-- '& (2^j - 1)' -/
theorem zi_and (hx : p.tables.exec = Jvm.exec) (hb : c.code = cc) {a b : Nat} (j : Nat) (ha : a < 2 ^ 32) (h1 : (nI b).toBitVec.toNat = 2 ^ j - 1) (hdg : decode cc pc = .ok (.iand, 1)) (k : W p l e R s m args below meth c H locs cells slots Q (F0 m (pc + 1) ls (.int (nI (a % 2 ^ j)) :: rest))) : W p l e R s m args below meth c H locs cells slots Q (F0 m pc ls (.int (nI b) :: .int (nI a) :: rest)) := lv_iand hx hb hdg (by rw [pk_andN ha j h1]; exact k)
/-- a byte of an array & 255 -/
theorem zi_and255 (hx : p.tables.exec = Jvm.exec) (hb : c.code = cc) {a : Nat} (ha : a < 256) (hdg : decode cc pc = .ok (.iand, 1)) (k : W p l e R s m args below meth c H locs cells slots Q (F0 m (pc + 1) ls (.int (nI a) :: rest))) : W p l e R s m args below meth c H locs cells slots Q (F0 m pc ls (.int (nI 255) :: .int (sB a) :: rest)) := lv_iand hx hb hdg (by rw [show sB a &&& nI 255 = nI a from sB_and ha]; exact k)
theorem zi_shr (hx : p.tables.exec = Jvm.exec) (hb : c.code = cc) {a b : Nat} (ha : a < 2 ^ 31) (h1 : ((nI b &&& 31).toBitVec.smod 32).toNat = b) (hdg : decode cc pc = .ok (.ishr, 1)) (k : W p l e R s m args below meth c H locs cells slots Q (F0 m (pc + 1) ls (.int (nI (a / 2 ^ b)) :: rest))) : W p l e R s m args below meth c H locs cells slots Q (F0 m pc ls (.int (nI b) :: .int (nI a) :: rest)) := lv_ishr hx hb hdg (by rw [pk_shrN ha _ b h1]; exact k)
theorem zi_shl (hx : p.tables.exec = Jvm.exec) (hb : c.code = cc) {a b : Nat} (ha : a * 2 ^ b < 2 ^ 32) (h1 : ((nI b &&& 31).toBitVec.smod 32).toNat = b) (hdg : decode cc pc = .ok (.ishl, 1)) (k : W p l e R s m args below meth c H locs cells slots Q (F0 m (pc + 1) ls (.int (nI (a * 2 ^ b)) :: rest))) : W p l e R s m args below meth c H locs cells slots Q (F0 m pc ls (.int (nI b) :: .int (nI a) :: rest)) := lv_ishl hx hb hdg (by rw [pk_shlN _ b h1 ha]; exact k)
theorem zi_b (hx : p.tables.exec = Jvm.exec) (hb : c.code = cc) {a : Nat} (hdg : decode cc pc = .ok (.i2b, 1)) (k : W p l e R s m args below meth c H locs cells slots Q (F0 m (pc + 1) ls (.int (sB a) :: rest))) : W p l e R s m args below meth c H locs cells slots Q (F0 m pc ls (.int (nI a) :: rest)) := lv_i2b hx hb hdg rfl k
/-- of a small one i2b changes nothing -/
theorem zi_bs (hx : p.tables.exec = Jvm.exec) (hb : c.code = cc) {a : Nat} (ha : a < 128) (hdg : decode cc pc = .ok (.i2b, 1)) (k : W p l e R s m args below meth c H locs cells slots Q (F0 m (pc + 1) ls (.int (nI a) :: rest))) : W p l e R s m args below meth c H locs cells slots Q (F0 m pc ls (.int (nI a) :: rest)) := lv_i2b hx hb hdg (sB_small a ha) k
theorem zi_l (hx : p.tables.exec = Jvm.exec) (hb : c.code = cc) {a : Nat} (ha : a < 2 ^ 31) (hdg : decode cc pc = .ok (.i2l, 1)) (k : W p l e R s m args below meth c H locs cells slots Q (F0 m (pc + 1) ls (.long (lN a) :: rest))) : W p l e R s m args below meth c H locs cells slots Q (F0 m pc ls (.int (nI a) :: rest)) := lv_i2l hx hb hdg (nI_l ha) k
theorem zl_i (hx : p.tables.exec = Jvm.exec) (hb : c.code = cc) {a : Nat} (hdg : decode cc pc = .ok (.l2i, 1)) (k : W p l e R s m args below meth c H locs cells slots Q (F0 m (pc + 1) ls (.int (nI a) :: rest))) : W p l e R s m args below meth c H locs cells slots Q (F0 m pc ls (.long (lN a) :: rest)) := lv_l2i hx hb hdg (lN_i a) k
theorem zl_add (hx : p.tables.exec = Jvm.exec) (hb : c.code = cc) {a b : Nat} (hdg : decode cc pc = .ok (.ladd, 1)) (k : W p l e R s m args below meth c H locs cells slots Q (F0 m (pc + 1) ls (.long (lN (a + b)) :: rest))) : W p l e R s m args below meth c H locs cells slots Q (F0 m pc ls (.long (lN b) :: .long (lN a) :: rest)) := lv_ladd hx hb hdg (by rw [lN_add]; exact k)
theorem zl_mul (hx : p.tables.exec = Jvm.exec) (hb : c.code = cc) {a b : Nat} (hdg : decode cc pc = .ok (.lmul, 1)) (k : W p l e R s m args below meth c H locs cells slots Q (F0 m (pc + 1) ls (.long (lN (a * b)) :: rest))) : W p l e R s m args below meth c H locs cells slots Q (F0 m pc ls (.long (lN b) :: .long (lN a) :: rest)) := lv_lmul hx hb hdg (by rw [lN_mul]; exact k)
theorem lN_ne0 {b : Nat} (h0 : 0 < b) (h1 : b < 2 ^ 63) : ¬ lN b = 0 := fun q => by
  have h := (pk_lEQ (a := b) (b := 0) h1 (by decide)).mp q
  omega
theorem zl_div (hx : p.tables.exec = Jvm.exec) (hb : c.code = cc) {a b : Nat} (ha : a < 2 ^ 63) (h0 : 0 < b) (h1 : b < 2 ^ 63) (hdg : decode cc pc = .ok (.ldiv, 1)) (k : W p l e R s m args below meth c H locs cells slots Q (F0 m (pc + 1) ls (.long (lN (a / b)) :: rest))) : W p l e R s m args below meth c H locs cells slots Q (F0 m pc ls (.long (lN b) :: .long (lN a) :: rest)) := lv_ldiv hx hb hdg (lN_ne0 h0 h1) (by rw [pk_lDiv ha h0 h1]; exact k)
theorem zl_rem (hx : p.tables.exec = Jvm.exec) (hb : c.code = cc) {a b : Nat} (ha : a < 2 ^ 63) (h0 : 0 < b) (h1 : b < 2 ^ 63) (hdg : decode cc pc = .ok (.lrem, 1)) (k : W p l e R s m args below meth c H locs cells slots Q (F0 m (pc + 1) ls (.long (lN (a % b)) :: rest))) : W p l e R s m args below meth c H locs cells slots Q (F0 m pc ls (.long (lN b) :: .long (lN a) :: rest)) := lv_lrem hx hb hdg (lN_ne0 h0 h1) (by rw [pk_lRem ha h0 h1]; exact k)
end ZI
section ZA
variable {p : Program} {l : Launch} {e : Env} {R : Room} {s : State} {m : MethodId} {args : Array Value} {below : List Frame} {meth : Method} {c : Code} {H : Heap} {locs : List Loc} {cells slots : Nat} {Q : State → Prop} {cc : ByteArray} {pc : Nat} {ls : Array Slot} {rest : List Value} {D : va_G} {cl : List vw_C} {A : Nat → Prop} {a : Nat} {tys : List (ClassId × FieldType)} {ws : va_W} {H0 : Heap}
/-- an int array of naturals, read -/
theorem za_ild (hx : p.tables.exec = Jvm.exec) (hb : c.code = cc) (hK : va_K D cl tys s) (hP : va_P D cl ws H) (q0 t0 : Nat) {cA : ClassId} {n : Nat} {f : Nat → Nat} (ha : ws[q0]? = some (a, .inl (cA, n, .inl (aN f)))) (ht : tys[t0]? = some (cA, .int)) {i : Nat} (hi : i < n) (hn : n < 2 ^ 31) (hdg : decode cc pc = .ok (.iaload, 1))
    (kk : W p l e R s m args below meth c H locs cells slots Q (F0 m (pc + 1) ls (.int (nI (f i)) :: rest))) : W p l e R s m args below meth c H locs cells slots Q (F0 m pc ls (.int (nI i) :: .ref a :: rest)) :=
  va_iald hx hb hK hP q0 t0 ha ht (vp_in_nI hi hn) hdg (by rw [aN_at (Nat.lt_trans hi hn)]; exact kk)
theorem za_ist (hx : p.tables.exec = Jvm.exec) (hb : c.code = cc) (hK : va_K D cl tys s) (hP : va_P D cl ws H) (hD : va_D A ws) (hS : va_S A H0 H locs) (q0 t0 : Nat) {cA : ClassId} {n : Nat} {f : Nat → Nat} (ha : ws[q0]? = some (a, .inl (cA, n, .inl (aN f)))) (ht : tys[t0]? = some (cA, .int)) {i x : Nat} (hi : i < n) (hn : n < 2 ^ 31) (hdg : decode cc pc = .ok (.iastore, 1))
    (kk : ∀ (H1 : Heap) (locs1 : List Loc), va_P D cl (ws.set q0 (a, .inl (cA, n, .inl (aN (nup f i x))))) H1 → va_D A (ws.set q0 (a, .inl (cA, n, .inl (aN (nup f i x))))) → va_S A H0 H1 locs1 → W p l e R s m args below meth c H1 locs1 cells slots Q (F0 m (pc + 1) ls rest)) : W p l e R s m args below meth c H locs cells slots Q (F0 m pc ls (.int (nI x) :: .int (nI i) :: .ref a :: rest)) :=
  va_iast hx hb hK hP hD hS q0 t0 ha ht (vp_in_nI hi hn) hdg (by rw [aN_up (Nat.lt_trans hi hn)]; exact kk)
/-- a byte array of small naturals, read as ints -/
theorem za_bld (hx : p.tables.exec = Jvm.exec) (hb : c.code = cc) (hK : va_K D cl tys s) (hP : va_P D cl ws H) (q0 t0 : Nat) {cA : ClassId} {n : Nat} {f : Nat → Nat} (ha : ws[q0]? = some (a, .inl (cA, n, .inl (aN f)))) (ht : tys[t0]? = some (cA, .byte)) {i : Nat} (hi : i < n) (hn : n < 2 ^ 31) (hdg : decode cc pc = .ok (.baload, 1))
    (kk : W p l e R s m args below meth c H locs cells slots Q (F0 m (pc + 1) ls (.int (nI (f i)) :: rest))) : W p l e R s m args below meth c H locs cells slots Q (F0 m pc ls (.int (nI i) :: .ref a :: rest)) :=
  va_bald hx hb hK hP q0 t0 ha ht (vp_in_nI hi hn) hdg (by rw [aN_at (Nat.lt_trans hi hn)]; exact kk)
theorem nar_small {x : Nat} (h : x < 128) : vp_nar .byte (nI x) = nI x := by rw [← sB_small x h, sB_nar]
theorem za_bst (hx : p.tables.exec = Jvm.exec) (hb : c.code = cc) (hK : va_K D cl tys s) (hP : va_P D cl ws H) (hD : va_D A ws) (hS : va_S A H0 H locs) (q0 t0 : Nat) {cA : ClassId} {n : Nat} {f : Nat → Nat} (ha : ws[q0]? = some (a, .inl (cA, n, .inl (aN f)))) (ht : tys[t0]? = some (cA, .byte)) {i x : Nat} (hi : i < n) (hn : n < 2 ^ 31) (h7 : x < 128) (hdg : decode cc pc = .ok (.bastore, 1))
    (kk : ∀ (H1 : Heap) (locs1 : List Loc), va_P D cl (ws.set q0 (a, .inl (cA, n, .inl (aN (nup f i x))))) H1 → va_D A (ws.set q0 (a, .inl (cA, n, .inl (aN (nup f i x))))) → va_S A H0 H1 locs1 → W p l e R s m args below meth c H1 locs1 cells slots Q (F0 m (pc + 1) ls rest)) : W p l e R s m args below meth c H locs cells slots Q (F0 m pc ls (.int (nI x) :: .int (nI i) :: .ref a :: rest)) :=
  va_bast hx hb hK hP hD hS q0 t0 ha ht (vp_in_nI hi hn) hdg (by rw [nar_small h7, aN_up (Nat.lt_trans hi hn)]; exact kk)
/-- a byte array of bytes 0 .. 255 -/
theorem za_Bld (hx : p.tables.exec = Jvm.exec) (hb : c.code = cc) (hK : va_K D cl tys s) (hP : va_P D cl ws H) (q0 t0 : Nat) {cA : ClassId} {n : Nat} {f : Nat → Nat} (ha : ws[q0]? = some (a, .inl (cA, n, .inl (aB f)))) (ht : tys[t0]? = some (cA, .byte)) {i : Nat} (hi : i < n) (hn : n < 2 ^ 31) (hdg : decode cc pc = .ok (.baload, 1))
    (kk : W p l e R s m args below meth c H locs cells slots Q (F0 m (pc + 1) ls (.int (sB (f i)) :: rest))) : W p l e R s m args below meth c H locs cells slots Q (F0 m pc ls (.int (nI i) :: .ref a :: rest)) :=
  va_bald hx hb hK hP q0 t0 ha ht (vp_in_nI hi hn) hdg (by rw [aB_at (Nat.lt_trans hi hn)]; exact kk)
theorem za_Bst (hx : p.tables.exec = Jvm.exec) (hb : c.code = cc) (hK : va_K D cl tys s) (hP : va_P D cl ws H) (hD : va_D A ws) (hS : va_S A H0 H locs) (q0 t0 : Nat) {cA : ClassId} {n : Nat} {f : Nat → Nat} (ha : ws[q0]? = some (a, .inl (cA, n, .inl (aB f)))) (ht : tys[t0]? = some (cA, .byte)) {i x : Nat} (hi : i < n) (hn : n < 2 ^ 31) (hdg : decode cc pc = .ok (.bastore, 1))
    (kk : ∀ (H1 : Heap) (locs1 : List Loc), va_P D cl (ws.set q0 (a, .inl (cA, n, .inl (aB (nup f i x))))) H1 → va_D A (ws.set q0 (a, .inl (cA, n, .inl (aB (nup f i x))))) → va_S A H0 H1 locs1 → W p l e R s m args below meth c H1 locs1 cells slots Q (F0 m (pc + 1) ls rest)) : W p l e R s m args below meth c H locs cells slots Q (F0 m pc ls (.int (sB x) :: .int (nI i) :: .ref a :: rest)) :=
  va_bast hx hb hK hP hD hS q0 t0 ha ht (vp_in_nI hi hn) hdg (by rw [sB_nar, aB_up (Nat.lt_trans hi hn)]; exact kk)
/-- a table of ints that is given at the start -/
theorem za_tab (hx : p.tables.exec = Jvm.exec) (hb : c.code = cc) {t N : Nat} {f : Nat → Nat} (hT : va_T .int t N (fun j => .int (nI (f j))) A s s.heap) (hS : va_S A s.heap H locs) {i : Nat} (hi : i < N) (hn : N < 2 ^ 31) (hdg : decode cc pc = .ok (.iaload, 1))
    (kk : W p l e R s m args below meth c H locs cells slots Q (F0 m (pc + 1) ls (.int (nI (f i)) :: rest))) : W p l e R s m args below meth c H locs cells slots Q (F0 m pc ls (.int (nI i) :: .ref t :: rest)) :=
  va_ti hx hb hT hS (vp_in_nI hi hn) (by rw [nI_clamp (Nat.lt_trans hi hn)]) hdg kk
end ZA
end
section
/-! the class's own numbers and what its methods do to them, as functions of naturals -/
def tl (xs : List Nat) (k : Nat) : Nat := xs.getD k 0
def fFI : Nat → Nat := tl [2, 3, 4, 11, 32, 37, 38, 39, 41, 49, 54, 70, 74, 86, 90, 95]
def fMM : Nat → Nat := tl [19, 6, 12, 6, 11, 12, 6, 2, 8, 3, 40, 3, 10, 16, 42, 12]
def fCD : Nat → Nat := tl [2, 0, 0, 0, 2, 0, 0, 0, 0, 0, 3, 0, 0, 0, 0, 0]
def fHL : Nat → Nat := tl [0, 0, 0, 0, 0, 1, 1, 1, 1, 0, 1, 0, 0, 0, 0, 0]
def fFM : Nat → Nat := tl [0, 19, 25, 37, 43, 54, 66, 72, 74, 82, 85, 125, 128, 138, 154, 196]
def fTY : Nat → Nat := tl [100, 101, 110, 220, 221, 230, 400, 401, 410, 420, 421, 430, 500, 501, 510, 800, 810]
def fKB : Nat → Nat := tl [240, 32, 0, 1, 14, 128, 132, 0, 4, 64, 4, 66, 0, 0, 0, 0]
theorem fFI_b : ∀ k, k < 16 → 2 ≤ fFI k ∧ fFI k ≤ 95 := by decide
theorem fMM_b : ∀ k, k < 16 → 2 ≤ fMM k ∧ fMM k ≤ 42 := by decide
theorem fCD_b : ∀ k, k < 16 → fCD k ≤ 3 := by decide
theorem fHL_b : ∀ k, k < 16 → fHL k ≤ 1 := by decide
theorem fFM_b : ∀ k, k < 16 → fFM k + fMM k ≤ 208 := by decide
theorem fTY_b : ∀ k, k < 17 → fTY k ≤ 810 := by decide
theorem fKB_b : ∀ k, k < 16 → fKB k < 256 := by decide
/-- there or not -/
def hz (n : Nat) : Nat := if n = 0 then 0 else 1
theorem hz_lt (n : Nat) : hz n < 2 ^ 31 := by unfold hz; split <;> decide
theorem hz_le (n : Nat) : hz n ≤ 1 := by unfold hz; split <;> decide
theorem hz_0 {n : Nat} : hz n = 0 ↔ n = 0 := by unfold hz; split <;> simp_all
/-- the first k are 0 -/
def zc (f : Nat → Nat) (k : Nat) : Nat → Nat := fun j => if j < k then 0 else f j
theorem zc_0 (f : Nat → Nat) : f = zc f 0 := by funext j; simp [zc]
theorem zc_s (f : Nat → Nat) (k : Nat) : nup (zc f k) k 0 = zc f (k + 1) := by
  funext j
  unfold nup zc
  by_cases h : j = k
  · subst h; simp
  · by_cases h2 : j < k
    · rw [if_neg h, if_pos h2, if_pos (by omega)]
    · rw [if_neg h, if_neg h2, if_neg (by omega)]
/-- the first n out of the one, the rest out of the other -/
def cp (f g : Nat → Nat) (n : Nat) : Nat → Nat := fun j => if j < n then f j else g j
theorem cp_N (f g : Nat → Nat) {n : Nat} (h : n < 2 ^ 31) : va_cpy (aN f) (aN g) (nI 0).toNatClampNeg (nI 0).toNatClampNeg (nI n).toNatClampNeg = aN (cp f g n) := by
  rw [nI_clamp (n := 0) (by decide), nI_clamp h]
  funext j
  show (if 0 ≤ j ∧ j < 0 + n then nI (f (0 + (j - 0))) else nI (g j)) = nI (if j < n then f j else g j)
  by_cases h2 : j < n
  · rw [if_pos ⟨Nat.zero_le _, by omega⟩, if_pos h2, Nat.zero_add, Nat.sub_zero]
  · rw [if_neg (by omega), if_neg h2]
/-- how many of the first k are there -/
def fc (cnt : Nat → Nat) : Nat → Nat
  | 0 => 0
  | k + 1 => fc cnt k + hz (cnt k)
theorem fc_le (cnt : Nat → Nat) : ∀ k, fc cnt k ≤ k
  | 0 => Nat.le_refl 0
  | k + 1 => by
    have h1 := fc_le cnt k
    have h2 : hz (cnt k) ≤ 1 := by unfold hz; split <;> omega
    unfold fc
    omega
/-- n digits of v from the place b on -/
def ds (mk : Nat → Nat) (b : Nat) : Nat → Nat → (Nat → Nat)
  | 0, _ => mk
  | n + 1, v => ds (nup mk (b + n) (v % 10)) b n (v / 10)
/-- n letters of v from the place b on, the first of them being letter k -/
def lt_ (v : Int64) (k : Nat) : Nat := (v >>> ((nI (5 * (k % 12))).toInt64 &&& 63)).toInt32.toBitVec.toNat % 2 ^ 5
def lb (w : Nat) : Nat := if w < 10 then 48 + w else 65 + w - 10
def lset (v : Int64) (b : Nat) : Nat → Nat → (Nat → Nat) → (Nat → Nat)
  | 0, _, m9 => m9
  | n + 1, k, m9 => lset v b n (k + 1) (nup m9 (b + k) (lb (lt_ v k)))
/-- the number that n digits from the place b on are, behind acc -/
def nm_ (mk : Nat → Nat) (b : Nat) : Nat → Nat → Nat
  | 0, acc => acc
  | n + 1, acc => nm_ mk (b + 1) n (acc * 10 + mk b)
/-- one before -/
def pm (a : Nat) : Int32 := nI a - 1
theorem pm_s (a : Nat) : pm (a + 1) = nI a := by unfold pm; exact nI_pred a
theorem pm_m (a : Nat) : nI a + Int32.ofInt (-1) = pm a := by
  unfold pm
  rw [Int32.sub_eq_add_neg]
  rfl
theorem pm_lt {a n : Nat} (h : a + n < 2 ^ 30) : pm (a + n) < nI a ↔ n = 0 := by
  cases n with
  | zero =>
    refine ⟨fun _ => rfl, fun _ => ?_⟩
    rw [Int32.lt_iff_toInt_lt]
    have := pk_sub_toInt (a := a) (b := 1) (by omega) (by decide)
    rw [nI_toInt (by omega)]
    show (nI a - nI 1).toInt < _
    rw [this]
    omega
  | succ n =>
    rw [show a + (n + 1) = (a + n) + 1 from by omega, pm_s, nI_ltI (by omega) (by omega)]
    omega
theorem max_0 {a b : Nat} (ha : a < 2 ^ 30) (hb : b < 2 ^ 30) : (if nI 0 < nI a - nI b then nI a - nI b else nI 0) = nI (a - b) := by
  by_cases h : b ≤ a
  · rw [pk_sub h]
    split
    · rfl
    · rename_i q
      have : ¬ 0 < a - b := fun z => q ((nI_ltI (a := 0) (b := a - b) (by decide) (by omega)).mpr z)
      rw [show a - b = 0 by omega]
  · have h2 := pk_sneg (a := a) (b := b) hb (by omega)
    rw [if_neg (fun q => ?_), show a - b = 0 by omega]
    rw [Int32.lt_iff_toInt_lt] at q h2
    rw [show (nI 0).toInt = 0 from rfl] at q
    rw [show (0 : Int32).toInt = 0 from rfl] at h2
    omega
/-! the tape: a byte's halves, digits ahead, letters ahead -/
def hf (tp : Nat → Nat) (nx h : Nat) : Nat := if h % 2 = 0 then tp (nx + h / 2) / 16 else tp (nx + h / 2) % 16
theorem hf_lt {tp : Nat → Nat} (ht : ∀ j, tp j < 256) (nx h : Nat) : hf tp nx h < 16 := by
  have := ht (nx + h / 2)
  unfold hf
  split <;> omega
def dgL (tp : Nat → Nat) (nx odd : Nat) : Nat → Nat → Option (Nat × Nat)
  | 0, _ => none
  | n + 1, h => if (if h < odd then 0 else 9) < hf tp nx h then some (2, nx + h / 2) else dgL tp nx odd n (h + 1)
/-- the fault of ct digits at nx -/
def dgF (tp : Nat → Nat) (len nx ct : Nat) : Option (Nat × Nat) := if len < nx + (ct + 1) / 2 then some (1, len) else dgL tp nx (ct % 2) (ct % 2 + ct) 0
/-- the number that they are -/
def nmA (tp : Nat → Nat) (nx ct : Nat) : Nat → Nat → Nat → Nat
  | 0, _, acc => acc
  | n + 1, k, acc => nmA tp nx ct n (k + 1) (acc * 10 + hf tp nx (ct % 2 + k))
/-- them, laid from the place b on -/
def dgC (tp : Nat → Nat) (nx ct b : Nat) : Nat → Nat → (Nat → Nat) → (Nat → Nat)
  | 0, _, m9 => m9
  | n + 1, k, m9 => dgC tp nx ct b n (k + 1) (nup m9 (b + k) (hf tp nx (ct % 2 + k)))
def isL (v : Nat) : Bool := (decide (48 ≤ v) && decide (v ≤ 57)) || (decide (65 ≤ v) && decide (v ≤ 90))
def ltL (tp : Nat → Nat) : Nat → Nat → Option (Nat × Nat)
  | 0, _ => none
  | n + 1, i => if isL (tp i) then ltL tp n (i + 1) else some (6, i)
def ltF (tp : Nat → Nat) (len nx n : Nat) : Option (Nat × Nat) := if len < nx + n then some (1, len) else ltL tp n nx
def ltC (tp : Nat → Nat) (nx b : Nat) : Nat → Nat → (Nat → Nat) → (Nat → Nat)
  | 0, _, m9 => m9
  | n + 1, k, m9 => ltC tp nx b n (k + 1) (nup m9 (b + k) (tp (nx + k)))
theorem dgF_fit {tp : Nat → Nat} {len nx ct : Nat} (h : dgF tp len nx ct = none) : nx + (ct + 1) / 2 ≤ len := by
  unfold dgF at h
  by_cases q : len < nx + (ct + 1) / 2
  · rw [if_pos q] at h; cases h
  · omega
theorem dgF_ok {tp : Nat → Nat} {len nx ct : Nat} (h : dgF tp len nx ct = none) : dgL tp nx (ct % 2) (ct % 2 + ct) 0 = none := by
  have q := dgF_fit h
  unfold dgF at h
  rwa [if_neg (by omega)] at h
/-! what comes behind the tape, as rows of bytes -/
def apl (tp : Nat → Nat) (len : Nat) : List Nat → (Nat → Nat)
  | [] => tp
  | b :: bs => apl (nup tp len b) (len + 1) bs
theorem apl_app (tp : Nat → Nat) (len : Nat) (xs ys : List Nat) : apl tp len (xs ++ ys) = apl (apl tp len xs) (len + xs.length) ys := by
  induction xs generalizing tp len with
  | nil => rfl
  | cons b bs ih =>
    show apl (nup tp len b) (len + 1) (bs ++ ys) = apl (apl (nup tp len b) (len + 1) bs) (len + (bs.length + 1)) ys
    rw [ih, show len + (bs.length + 1) = len + 1 + bs.length by omega]
def anb (v dc : Nat) : List Nat := (if (dc + 1) / 2 = 2 then [v / 1000 % 10 * 16 + v / 100 % 10] else []) ++ [v / 10 % 10 * 16 + v % 10]
def pB (mk : Nat → Nat) (b : Nat) : Nat → Nat → List Nat
  | 0, _ => []
  | n + 1, k => (mk (b + k) * 16 + mk (b + (k + 1))) :: pB mk b n (k + 2)
def dgB (mk : Nat → Nat) (b ct : Nat) : List Nat := (if ct % 2 = 0 then [] else [0 * 16 + mk (b + 0)]) ++ pB mk b (ct / 2) (ct % 2)
def lB (mk : Nat → Nat) (b : Nat) : Nat → Nat → List Nat
  | 0, _ => []
  | n + 1, k => mk (b + k) :: lB mk b n (k + 1)
def fldB (cnt mk : Nat → Nat) (sl : Nat) : List Nat := (if fCD sl = 0 then [] else anb (cnt sl) (fCD sl)) ++ (if fHL sl = 0 then dgB mk (fFM sl) (cnt sl) else lB mk (fFM sl) (cnt sl) 0)
theorem or16 {a b : Nat} (ha : a < 16) (hb : b < 16) : nI (a * 16) ||| nI b = nI (a * 16 + b) := by
  have : ∀ a, a < 16 → ∀ b, b < 16 → nI (a * 16) ||| nI b = nI (a * 16 + b) := by decide
  exact this a ha b hb
theorem fit_small {n : Nat} (h : n < 128) : fits .byte (.int (nI n)) = true := by
  rw [← sB_small n h]
  exact pk_fb (nI n)
theorem ltF_fit {tp : Nat → Nat} {len nx ct : Nat} (h : ltF tp len nx ct = none) : nx + ct ≤ len := by
  unfold ltF at h
  by_cases q : len < nx + ct
  · rw [if_pos q] at h; cases h
  · omega
theorem ltF_ok {tp : Nat → Nat} {len nx ct : Nat} (h : ltF tp len nx ct = none) : ltL tp ct nx = none := by
  have q := ltF_fit h
  unfold ltF at h
  rwa [if_neg (by omega)] at h
theorem isL_lt {v : Nat} (h : isL v = true) : v < 128 := by
  simp only [isL, Bool.or_eq_true, Bool.and_eq_true, decide_eq_true_eq] at h
  omega
theorem nup_lt {f : Nat → Nat} {k v m : Nat} (h : ∀ j, f j < m) (hv : v < m) : ∀ j, nup f k v j < m := fun j => by
  unfold nup
  split
  · exact hv
  · exact h j
theorem lB_len (mk : Nat → Nat) (b : Nat) : ∀ n k, (lB mk b n k).length = n
  | 0, _ => rfl
  | n + 1, k => by
    show (lB mk b n (k + 1)).length + 1 = n + 1
    rw [lB_len mk b n (k + 1)]
theorem sl_32 : ∀ n, n < 32 → ((nI n &&& 31).toBitVec.smod 32).toNat = n := by decide
theorem shr_N {a b : Nat} (ha : a < 2 ^ 31) (hb : b < 32) : nI a >>> (nI b &&& 31) = nI (a / 2 ^ b) := pk_shrN ha _ b (sl_32 b hb)
theorem sB_of (x : Int32) : x.toInt8.toInt32 = sB (x.toBitVec.toNat % 256) := by
  unfold sB
  congr 1
  apply Int8.toBitVec_inj.mp
  apply BitVec.eq_of_toNat_eq
  show (x.toBitVec.signExtend 8).toNat = ((BitVec.ofNat 32 (x.toBitVec.toNat % 256)).signExtend 8).toNat
  rw [BitVec.signExtend_eq_setWidth_of_le _ (by decide), BitVec.signExtend_eq_setWidth_of_le _ (by decide)]
  rw [BitVec.toNat_setWidth, BitVec.toNat_setWidth, BitVec.toNat_ofNat]
  omega
theorem nI_and (a b : Nat) : nI a &&& nI b = nI (a &&& b) := by
  apply Int32.toBitVec_inj.mp
  show BitVec.ofNat 32 a &&& BitVec.ofNat 32 b = BitVec.ofNat 32 (a &&& b)
  apply BitVec.eq_of_getLsbD_eq
  intro i hi
  simp [hi]
theorem nI_xor (a b : Nat) : nI a ^^^ nI b = nI (a ^^^ b) := by
  apply Int32.toBitVec_inj.mp
  show BitVec.ofNat 32 a ^^^ BitVec.ofNat 32 b = BitVec.ofNat 32 (a ^^^ b)
  apply BitVec.eq_of_getLsbD_eq
  intro i hi
  simp [hi]
theorem sB_xor (a b : Nat) : (sB a ^^^ nI b).toInt8.toInt32 = sB (a ^^^ b) := by
  unfold sB
  congr 1
  rw [Int32.toInt8_xor, Int8.toInt8_toInt32, ← Int32.toInt8_xor]
  congr 1
  exact nI_xor a b
theorem lt_lt (v : Int64) (k : Nat) : lt_ v k < 32 := Nat.mod_lt _ (by decide)
theorem lb_lt {w : Nat} (h : w < 36) : lb w < 128 := by unfold lb; split <;> omega
/-! a field of the tape -/
def valF (tp : Nat → Nat) (len nx sl ct : Nat) : Option (Nat × Nat) := if fHL sl = 0 then dgF tp len nx ct else ltF tp len nx ct
def fCt (tp : Nat → Nat) (nx sl : Nat) : Nat := if fCD sl = 0 then fMM sl else nmA tp nx (fCD sl) (fCD sl) 0 0
def fVp (nx sl : Nat) : Nat := nx + (fCD sl + 1) / 2
def fieldF (tp : Nat → Nat) (len nx sl : Nat) : Option (Nat × Nat) :=
  if fCD sl = 0 then valF tp len nx sl (fMM sl)
  else match dgF tp len nx (fCD sl) with
    | some q => some q
    | none => if nmA tp nx (fCD sl) (fCD sl) 0 0 < 1 ∨ fMM sl < nmA tp nx (fCD sl) (fCD sl) 0 0 then some (5, nx) else valF tp len (nx + (fCD sl + 1) / 2) sl (nmA tp nx (fCD sl) (fCD sl) 0 0)
def vMk (tp : Nat → Nat) (p sl ct : Nat) (mk : Nat → Nat) : Nat → Nat := if fHL sl = 0 then dgC tp p ct (fFM sl) ct 0 mk else ltC tp p (fFM sl) ct 0 mk
def vNx (p sl ct : Nat) : Nat := if fHL sl = 0 then p + (ct + 1) / 2 else p + ct
def fMk (tp : Nat → Nat) (nx sl : Nat) (mk : Nat → Nat) : Nat → Nat := vMk tp (fVp nx sl) sl (fCt tp nx sl) mk
def fNx (tp : Nat → Nat) (nx sl : Nat) : Nat := vNx (fVp nx sl) sl (fCt tp nx sl)
def fLn (tp : Nat → Nat) (nx sl lnb : Nat) : Nat := if fCD sl = 0 then lnb else nmA tp nx (fCD sl) (fCD sl) 0 0
theorem fVp_0 {nx sl : Nat} (h : fCD sl = 0) : fVp nx sl = nx := by unfold fVp; rw [h]; rfl
theorem nmA_lt {tp : Nat → Nat} (ht : ∀ j, tp j < 256) (nx ct : Nat) : ∀ n k acc, nmA tp nx ct n k acc + 1 ≤ (acc + 1) * 16 ^ n
  | 0, _, acc => by show acc + 1 ≤ _; omega
  | n + 1, k, acc => by
    have h1 := nmA_lt ht nx ct n (k + 1) (acc * 10 + hf tp nx (ct % 2 + k))
    have h2 := hf_lt ht nx (ct % 2 + k)
    have h3 : (acc * 10 + hf tp nx (ct % 2 + k) + 1) * 16 ^ n ≤ ((acc + 1) * 16) * 16 ^ n := Nat.mul_le_mul_right _ (by omega)
    show nmA tp nx ct n (k + 1) (acc * 10 + hf tp nx (ct % 2 + k)) + 1 ≤ _
    rw [Nat.pow_succ, Nat.mul_comm (16 ^ n) 16, ← Nat.mul_assoc]
    exact Nat.le_trans h1 h3
theorem nmA_b {tp : Nat → Nat} (ht : ∀ j, tp j < 256) {nx ct : Nat} (h : ct ≤ 4) : nmA tp nx ct ct 0 0 < 65536 := by
  have h1 := nmA_lt ht nx ct ct 0 0
  have h2 : 16 ^ ct ≤ 16 ^ 4 := Nat.pow_le_pow_right (by decide) h
  have h3 : (16 : Nat) ^ 4 = 65536 := rfl
  omega
/-! the maps -/
def anyB (tp : Nat → Nat) : Nat → Nat → Bool
  | 0, _ => false
  | n + 1, i => if tp i = 0 then anyB tp n (i + 1) else true
def mpL (tp : Nat → Nat) (a : Nat) : Nat → Nat → Option (Nat × Nat)
  | 0, _ => none
  | n + 1, j => if tp (a + j) &&& (255 - fKB j) = 0 then mpL tp a n (j + 1) else some (4, a + j)
def wid (tp : Nat → Nat) (a : Nat) : Nat := if tp a < 128 then 8 else 16
def mapsF (tp : Nat → Nat) (len a : Nat) : Option (Nat × Nat) :=
  if len < a + 8 then some (1, len)
  else if tp a < 128 then mpL tp a 8 0
  else if len < a + 16 then some (1, len)
  else match mpL tp a 16 0 with
    | some q => some q
    | none => if anyB tp 8 (a + 8) = true then none else some (4, a + 8)
theorem and_128 : ∀ v, v < 256 → (v &&& 128 = 0 ↔ v < 128) := by decide +kernel
theorem kb_iff : ∀ j, j < 16 → ∀ v, v < 256 → ((nI v &&& (nI (fKB j) ^^^ (-1))) = 0 ↔ v &&& (255 - fKB j) = 0) := by decide +kernel
/-! the whole message -/
def prs (tp : Nat → Nat) (w sl : Nat) : Bool := decide (2 + (fFI sl - 1) / 8 < 2 + w ∧ tp (2 + (fFI sl - 1) / 8) &&& 128 / 2 ^ ((fFI sl - 1) % 8) ≠ 0)
def wkF (tp : Nat → Nat) (len w : Nat) : Nat → Nat → Nat → Option (Nat × Nat)
  | 0, _, nx => if nx = len then none else some (7, nx)
  | n + 1, sl, nx => if prs tp w sl = true then (match fieldF tp len nx sl with
      | some q => some q
      | none => wkF tp len w n (sl + 1) (fNx tp nx sl)) else wkF tp len w n (sl + 1) nx
def wkC (tp : Nat → Nat) (w : Nat) : Nat → Nat → Nat → (Nat → Nat) → (Nat → Nat)
  | 0, _, _, c9 => c9
  | n + 1, sl, nx, c9 => if prs tp w sl = true then wkC tp w n (sl + 1) (fNx tp nx sl) (nup c9 sl (fCt tp nx sl)) else wkC tp w n (sl + 1) nx c9
def wkM (tp : Nat → Nat) (w : Nat) : Nat → Nat → Nat → (Nat → Nat) → (Nat → Nat)
  | 0, _, _, m9 => m9
  | n + 1, sl, nx, m9 => if prs tp w sl = true then wkM tp w n (sl + 1) (fNx tp nx sl) (fMk tp nx sl m9) else wkM tp w n (sl + 1) nx m9
theorem valF_fit {tp : Nat → Nat} {len p sl ct : Nat} (h : valF tp len p sl ct = none) : vNx p sl ct ≤ len := by
  unfold valF at h
  unfold vNx
  split at h
  · rename_i q; rw [if_pos q]; exact dgF_fit h
  · rename_i q; rw [if_neg q]; exact ltF_fit h
theorem fieldF_val {tp : Nat → Nat} {len nx sl : Nat} (h : fieldF tp len nx sl = none) : valF tp len (fVp nx sl) sl (fCt tp nx sl) = none := by
  unfold fieldF at h
  unfold fVp fCt
  split at h
  · rename_i q; rw [if_pos q, q]; exact h
  · rename_i q
    rw [if_neg q]
    split at h
    · cases h
    · split at h
      · cases h
      · exact h
theorem fieldF_fit {tp : Nat → Nat} {len nx sl : Nat} (h : fieldF tp len nx sl = none) : fNx tp nx sl ≤ len := valF_fit (fieldF_val h)
theorem dgC_lt {tp : Nat → Nat} (ht : ∀ j, tp j < 256) (nx ct b : Nat) : ∀ n k (m9 : Nat → Nat), (∀ j, m9 j < 128) → ∀ j, dgC tp nx ct b n k m9 j < 128
  | 0, _, _, h => h
  | n + 1, k, m9, h => dgC_lt ht nx ct b n (k + 1) _ (nup_lt h (Nat.lt_trans (hf_lt ht nx _) (by decide)))
theorem ltC_lt {tp : Nat → Nat} (nx b : Nat) : ∀ n k (m9 : Nat → Nat), ltL tp n (nx + k) = none → (∀ j, m9 j < 128) → ∀ j, ltC tp nx b n k m9 j < 128
  | 0, _, _, _, h => h
  | n + 1, k, m9, hL, h => by
    unfold ltL at hL
    split at hL
    · rename_i q
      exact ltC_lt nx b n (k + 1) _ hL (nup_lt h (isL_lt q))
    · cases hL
theorem fMk_lt {tp : Nat → Nat} (ht : ∀ j, tp j < 256) {len nx sl : Nat} {mk : Nat → Nat} (h : fieldF tp len nx sl = none) (hm : ∀ j, mk j < 128) : ∀ j, fMk tp nx sl mk j < 128 := by
  have hv := fieldF_val h
  unfold valF at hv
  unfold fMk vMk
  split at hv
  · rename_i q; rw [if_pos q]; exact dgC_lt ht _ _ _ _ _ _ hm
  · rename_i q; rw [if_neg q]; exact ltC_lt _ _ _ _ _ (ltF_ok hv) hm
theorem fieldF_num {tp : Nat → Nat} {len nx sl : Nat} (h : fieldF tp len nx sl = none) (q : ¬ fCD sl = 0) : dgF tp len nx (fCD sl) = none ∧ 1 ≤ nmA tp nx (fCD sl) (fCD sl) 0 0 ∧ nmA tp nx (fCD sl) (fCD sl) 0 0 ≤ fMM sl := by
  unfold fieldF at h
  rw [if_neg q] at h
  split at h
  · cases h
  · rename_i e
    split at h
    · cases h
    · rename_i w
      exact ⟨e, by omega, by omega⟩
/-- the three ways to a field's fault -/
theorem fieldF_no {tp : Nat → Nat} {len nx sl k p : Nat} (h : fieldF tp len nx sl = some (k, p)) (q : ¬ fCD sl = 0) :
    dgF tp len nx (fCD sl) = some (k, p) ∨ (dgF tp len nx (fCD sl) = none ∧ (nmA tp nx (fCD sl) (fCD sl) 0 0 < 1 ∨ fMM sl < nmA tp nx (fCD sl) (fCD sl) 0 0) ∧ 5 = k ∧ nx = p) ∨
    (dgF tp len nx (fCD sl) = none ∧ 1 ≤ nmA tp nx (fCD sl) (fCD sl) 0 0 ∧ nmA tp nx (fCD sl) (fCD sl) 0 0 ≤ fMM sl ∧ valF tp len (nx + (fCD sl + 1) / 2) sl (nmA tp nx (fCD sl) (fCD sl) 0 0) = some (k, p)) := by
  unfold fieldF at h
  rw [if_neg q] at h
  split at h
  · rename_i e
    cases h
    exact Or.inl e
  · rename_i e
    split at h
    · rename_i w
      cases h
      exact Or.inr (Or.inl ⟨e, w, rfl, rfl⟩)
    · rename_i w
      exact Or.inr (Or.inr ⟨e, by omega, by omega, h⟩)
end
section
/-! what is given at the start and stays: the tables, the links across the nest -/
def gT (n : String) (N : Nat) (f : Nat → Nat) (A : Nat → Prop) (U : State) : Prop := ∃ t : Nat, va_Z "CardMessages" n "[I" (.ref t) A U U.heap ∧ va_T .int t N (fun j => .int (nI (f j))) A U U.heap
theorem gT.to {n : String} {N : Nat} {f : Nat → Nat} {A B : Nat → Prop} {s U : State} {H : Heap} {locs : List Loc} (h : gT n N f A s) (hS : va_S A s.heap H locs) (hU : U.heap = H) (hvm : s.vm.Alike U.vm) (hAB : ∀ q, B q → A q) : gT n N f B U := by
  obtain ⟨t, hz, ht⟩ := h
  refine ⟨t, ?_, ?_⟩
  · rw [hU]; exact ((hz.kept hS.2.1).moved hvm).narrow hAB
  · rw [hU]; exact ((ht.kept hS.2.1).moved hvm).narrow hAB
theorem gT.call {n : String} {N : Nat} {f : Nat → Nat} {A : Nat → Prop} {U : State} {g : JFrame} {mk : MethodId} {a : Array Value} (h : gT n N f A U) : gT n N f A (U.calling g mk a) := by
  obtain ⟨t, hz, ht⟩ := h
  exact ⟨t, va_Z.moved (u := U) (U := U.calling g mk a) (Vm.Alike.refl U.vm) hz, va_T.moved (u := U) (U := U.calling g mk a) (Vm.Alike.refl U.vm) ht⟩
def gNf : List (String × Nat × String) := [(RT, 51, "FIELDS"), (RT, 65, "COUNT_DIGITS"), (RT, 68, "HAS_LETTERS"), (RD, 33, "FIRST_MARK"), (RD, 40, "MOST_MARKS"), (RR, 72, "TYPES"), (RR, 82, "KNOWN_BITS"), (RR, 42, "FIELDS"), (RR, 88, "MOST_MARKS"), (RR, 91, "COUNT_DIGITS"), (RR, 94, "HAS_LETTERS")]
def gNm : List (String × Nat × MethodName) := [(RC, 9, yD_init), (RC, 18, yT_init), (RR, 11, yD_init), (RT, 78, yC_bytesOfDigits), (RT, 55, yC_mapByte), (RT, 59, yC_mapBit), (RR, 110, yC_bytesOfDigits), (RR, 46, yC_mapByte), (RR, 55, yC_mapBit)]
/-- what a throw needs (to be filled) -/
def gX (A : Nat → Prop) (U : State) : Prop := True
theorem gX.to {A B : Nat → Prop} {s U : State} {H : Heap} {locs : List Loc} (h : gX A s) (hS : va_S A s.heap H locs) (hU : U.heap = H) (hW : s.WarmedH U.vm) (hAB : ∀ q, B q → A q) : gX B U := trivial
theorem gX.call {A : Nat → Prop} {U : State} {g : JFrame} {mk : MethodId} {a : Array Value} (h : gX A U) : gX A (U.calling g mk a) := trivial
def gS (A : Nat → Prop) (U : State) : Prop := gT "FIELDS" 16 fFI A U ∧ gT "MOST_MARKS" 16 fMM A U ∧ gT "COUNT_DIGITS" 16 fCD A U ∧ gT "HAS_LETTERS" 16 fHL A U ∧ gT "FIRST_MARK" 16 fFM A U ∧ gT "TYPES" 17 fTY A U ∧ gT "KNOWN_BITS" 16 fKB A U ∧ (∀ q ∈ gNf, va_Nw (.fieldLinkNest q.1 q.2.1 "CardMessages" q.2.2 "[I" "CardMessages") U) ∧ (∀ q ∈ gNm, va_Nw (.methodLinkNest q.1 q.2.1 q.2.2 "CardMessages") U) ∧ gX A U
theorem gS.FIELDS {A : Nat → Prop} {U : State} (h : gS A U) : gT "FIELDS" 16 fFI A U := h.1
theorem gS.MOST_MARKS {A : Nat → Prop} {U : State} (h : gS A U) : gT "MOST_MARKS" 16 fMM A U := h.2.1
theorem gS.COUNT_DIGITS {A : Nat → Prop} {U : State} (h : gS A U) : gT "COUNT_DIGITS" 16 fCD A U := h.2.2.1
theorem gS.HAS_LETTERS {A : Nat → Prop} {U : State} (h : gS A U) : gT "HAS_LETTERS" 16 fHL A U := h.2.2.2.1
theorem gS.FIRST_MARK {A : Nat → Prop} {U : State} (h : gS A U) : gT "FIRST_MARK" 16 fFM A U := h.2.2.2.2.1
theorem gS.TYPES {A : Nat → Prop} {U : State} (h : gS A U) : gT "TYPES" 17 fTY A U := h.2.2.2.2.2.1
theorem gS.KNOWN_BITS {A : Nat → Prop} {U : State} (h : gS A U) : gT "KNOWN_BITS" 16 fKB A U := h.2.2.2.2.2.2.1
theorem gS.nf {A : Nat → Prop} {U : State} (h : gS A U) : ∀ q ∈ gNf, va_Nw (.fieldLinkNest q.1 q.2.1 "CardMessages" q.2.2 "[I" "CardMessages") U := h.2.2.2.2.2.2.2.1
theorem gS.nm {A : Nat → Prop} {U : State} (h : gS A U) : ∀ q ∈ gNm, va_Nw (.methodLinkNest q.1 q.2.1 q.2.2 "CardMessages") U := h.2.2.2.2.2.2.2.2.1
theorem gS.x {A : Nat → Prop} {U : State} (h : gS A U) : gX A U := h.2.2.2.2.2.2.2.2.2
theorem gS.to {A B : Nat → Prop} {s U : State} {H : Heap} {locs : List Loc} (h : gS A s) (hS : va_S A s.heap H locs) (hU : U.heap = H) (hW : s.WarmedH U.vm) (hAB : ∀ q, B q → A q) : gS B U :=
  ⟨gT.to h.FIELDS hS hU hW.alike hAB, gT.to h.MOST_MARKS hS hU hW.alike hAB, gT.to h.COUNT_DIGITS hS hU hW.alike hAB, gT.to h.HAS_LETTERS hS hU hW.alike hAB, gT.to h.FIRST_MARK hS hU hW.alike hAB, gT.to h.TYPES hS hU hW.alike hAB, gT.to h.KNOWN_BITS hS hU hW.alike hAB, fun q hq => va_Nw.warmF hW (h.nf q hq), fun q hq => va_Nw.warmM hW (h.nm q hq), gX.to h.x hS hU hW hAB⟩
theorem gS.call {A : Nat → Prop} {U : State} {g : JFrame} {mk : MethodId} {a : Array Value} (h : gS A U) : gS A (U.calling g mk a) :=
  ⟨gT.call h.FIELDS, gT.call h.MOST_MARKS, gT.call h.COUNT_DIGITS, gT.call h.HAS_LETTERS, gT.call h.FIRST_MARK, gT.call h.TYPES, gT.call h.KNOWN_BITS, fun q hq => va_Nw.same rfl rfl (h.nf q hq), fun q hq => va_Nw.same rfl rfl (h.nm q hq), gX.call h.x⟩
/-! a callee's words, out of the one list -/
theorem gC {y : MethodName} {cc : ByteArray} {maxL : Nat} {ret : Option FieldType} (h5 : (.code y cc maxL ret : Cond) ∈ BIG) : GoodIn BIG (.code y cc maxL ret :: BIG) := fun w h => big_gi w ((List.mem_cons.mp h).elim (fun e => e ▸ h5) id)
theorem gV {own C : String} {idx : Nat} {y : MethodName} {cc : ByteArray} {maxL : Nat} {ret : Option FieldType} (h1 : (.methodLink own idx y : Cond) ∈ BIG) (h2 : (.instanceMethod y : Cond) ∈ BIG) (h3 : (.selects C y y : Cond) ∈ BIG) (h4 : (.initialized C : Cond) ∈ BIG) (h5 : (.code y cc maxL ret : Cond) ∈ BIG) : GoodIn BIG (wsV own idx C y (.code y cc maxL ret :: BIG)) := fun w h => by
  rcases List.mem_append.mp h with h | h
  · simp only [List.mem_cons, List.not_mem_nil, or_false] at h
    rcases h with rfl | rfl | rfl | rfl
    · exact big_gi _ h1
    · exact big_gi _ h2
    · exact big_gi _ h3
    · exact big_gi _ h4
  · exact gC h5 w h
theorem gSt {own : String} {idx : Nat} {y : MethodName} {cc : ByteArray} {maxL : Nat} {ret : Option FieldType} (h1 : (.methodLink own idx y : Cond) ∈ BIG) (h2 : (.static y : Cond) ∈ BIG) (h4 : (.initialized y.cls : Cond) ∈ BIG) (h5 : (.code y cc maxL ret : Cond) ∈ BIG) : GoodIn BIG (va_wsS own idx y (.code y cc maxL ret :: BIG)) := fun w h => by
  rcases List.mem_append.mp h with h | h
  · simp only [List.mem_cons, List.not_mem_nil, or_false] at h
    rcases h with rfl | rfl | rfl
    · exact big_gi _ h1
    · exact big_gi _ h2
    · exact big_gi _ h4
  · exact gC h5 w h
/-! contracts' starts and ends in a few shapes, and calls over them. zR: a method that reads (the heap stays); zM: a method that writes its world; T: one that may throw (the heap stays but for the exception) -/
abbrev zNo : Nat → Prop := fun _ => False
abbrev zNew (sz : Nat) : Nat → Prop := fun q => sz ≤ q
def zR (D : va_G) (tys : List (ClassId × FieldType)) (av : List Value) (ws : va_W) (Hc : Heap) : Array Value → State → Prop := va_Pc av (fun U => U.heap = Hc ∧ gS zNo U ∧ va_P D vwCl ws Hc ∧ va_K D vwCl tys U)
def zM (D : va_G) (tys : List (ClassId × FieldType)) (av : List Value) (ws : va_W) (sz : Nat) : Array Value → State → Prop := va_Pc av (fun U => U.heap.size = sz ∧ gS (va_A ws sz) U ∧ va_P D vwCl ws U.heap ∧ va_K D vwCl tys U ∧ va_D (fun _ => True) ws)
/-- reads, may throw -/
def zT (D : va_G) (tys : List (ClassId × FieldType)) (av : List Value) (ws : va_W) (Hc : Heap) : Array Value → State → Prop := va_Pc av (fun U => U.heap = Hc ∧ gS (zNew Hc.size) U ∧ va_P D vwCl ws Hc ∧ va_K D vwCl tys U)
abbrev zRi (Hc : Heap) (post : Int32 → Prop) : Array Value → State → Outcome → State → Prop := va_Qi (fun r (_ : Unit) => post r) (fun _ t => t.heap = Hc) zNo
abbrev zRl (Hc : Heap) (post : Int64 → Prop) : Array Value → State → Outcome → State → Prop := va_Ql (fun r (_ : Unit) => post r) (fun _ t => t.heap = Hc) zNo
abbrev zMv (D : va_G) (ws ws' : va_W) (sz : Nat) (post : Prop) : Array Value → State → Outcome → State → Prop := va_Qv (fun _ : Unit => post) (fun _ t => va_P D vwCl ws' t.heap ∧ va_D (va_A ws sz) ws') (va_A ws sz)
abbrev zMi (D : va_G) (ws ws' : va_W) (sz : Nat) (post : Int32 → Prop) : Array Value → State → Outcome → State → Prop := va_Qi (fun r (_ : Unit) => post r) (fun _ t => va_P D vwCl ws' t.heap ∧ va_D (va_A ws sz) ws') (va_A ws sz)
/-- the same, with what comes of it told by a value u -/
abbrev zSi {S : Type} (D : va_G) (ws : va_W) (sz : Nat) (post : Int32 → S → Prop) (wsF : S → va_W) : Array Value → State → Outcome → State → Prop := va_Qi post (fun u t => va_P D vwCl (wsF u) t.heap ∧ va_D (va_A ws sz) (wsF u)) (va_A ws sz)
abbrev zSv {S : Type} (D : va_G) (ws : va_W) (sz : Nat) (post : S → Prop) (wsF : S → va_W) : Array Value → State → Outcome → State → Prop := va_Qv post (fun u t => va_P D vwCl (wsF u) t.heap ∧ va_D (va_A ws sz) (wsF u)) (va_A ws sz)
theorem zR_blind {D : va_G} {tys : List (ClassId × FieldType)} {av : List Value} {ws : va_W} {Hc : Heap} : FrameBlind (zR D tys av ws Hc) := fun a U g mk q => by
  obtain ⟨q0, q1, qG, qP, qK⟩ := q
  exact ⟨q0, q1, gS.call qG, qP, va_K.moved (u := U) (U := U.calling g mk a) (Vm.Alike.refl U.vm) qK⟩
theorem zT_blind {D : va_G} {tys : List (ClassId × FieldType)} {av : List Value} {ws : va_W} {Hc : Heap} : FrameBlind (zT D tys av ws Hc) := fun a U g mk q => by
  obtain ⟨q0, q1, qG, qP, qK⟩ := q
  exact ⟨q0, q1, gS.call qG, qP, va_K.moved (u := U) (U := U.calling g mk a) (Vm.Alike.refl U.vm) qK⟩
theorem zM_blind {D : va_G} {tys : List (ClassId × FieldType)} {av : List Value} {ws : va_W} {sz : Nat} : FrameBlind (zM D tys av ws sz) := fun a U g mk q => by
  obtain ⟨q0, q1, qG, qP, qK, qD⟩ := q
  exact ⟨q0, q1, gS.call qG, qP, va_K.moved (u := U) (U := U.calling g mk a) (Vm.Alike.refl U.vm) qK, qD⟩
section ZP
variable {s : State} {H : Heap} {locs : List Loc} {D : va_G} {A : Nat → Prop} {tys : List (ClassId × FieldType)} {av As : List Value} {ws : va_W} {b ci q0 : Nat} {qc : vw_C} {fs : List Value}
theorem zR_S (hG : gS A s) (hS : va_S A s.heap H locs) (hP : va_P D vwCl ws H) (hK : va_K D vwCl tys s) : PreS s H (zR D tys av ws H) av := ⟨zR_blind, fun _ hU hW => ⟨rfl, hU, gS.to hG hS hU hW (fun _ h => h.elim), hP, va_K.moved hW.alike hK⟩⟩
theorem zR_V (hG : gS A s) (hS : va_S A s.heap H locs) (hP : va_P D vwCl ws H) (hK : va_K D vwCl tys s) (q0 : Nat) (hc : vwCl[ci]? = some qc) (he : ws[q0]? = some (b, .inr (ci, fs))) : PreV s H qc.1 b (zR D tys (.ref b :: As) ws H) As := ⟨zR_blind, va_recv hK hP hc he, fun _ hU hW => ⟨rfl, hU, gS.to hG hS hU hW (fun _ h => h.elim), hP, va_K.moved hW.alike hK⟩⟩
theorem zT_S (hG : gS A s) (hA : ∀ q, s.heap.size ≤ q → A q) (hS : va_S A s.heap H locs) (hP : va_P D vwCl ws H) (hK : va_K D vwCl tys s) : PreS s H (zT D tys av ws H) av := ⟨zT_blind, fun _ hU hW => ⟨rfl, hU, gS.to hG hS hU hW (fun q h => hA q (Nat.le_trans hS.1 h)), hP, va_K.moved hW.alike hK⟩⟩
theorem zT_V (hG : gS A s) (hA : ∀ q, s.heap.size ≤ q → A q) (hS : va_S A s.heap H locs) (hP : va_P D vwCl ws H) (hK : va_K D vwCl tys s) (q0 : Nat) (hc : vwCl[ci]? = some qc) (he : ws[q0]? = some (b, .inr (ci, fs))) : PreV s H qc.1 b (zT D tys (.ref b :: As) ws H) As := ⟨zT_blind, va_recv hK hP hc he, fun _ hU hW => ⟨rfl, hU, gS.to hG hS hU hW (fun q h => hA q (Nat.le_trans hS.1 h)), hP, va_K.moved hW.alike hK⟩⟩
theorem zM_S (hG : gS A s) (hS : va_S A s.heap H locs) (hF : ∀ q, va_A ws H.size q → A q) (hP : va_P D vwCl ws H) (hD : va_D A ws) (hK : va_K D vwCl tys s) : PreS s H (zM D tys av ws H.size) av := ⟨zM_blind, fun _ hU hW => ⟨rfl, by rw [hU], gS.to hG hS hU hW hF, by rw [hU]; exact hP, va_K.moved hW.alike hK, hD.weaken (fun _ _ _ _ => trivial)⟩⟩
theorem zM_V (hG : gS A s) (hS : va_S A s.heap H locs) (hF : ∀ q, va_A ws H.size q → A q) (hP : va_P D vwCl ws H) (hD : va_D A ws) (hK : va_K D vwCl tys s) (q0 : Nat) (hc : vwCl[ci]? = some qc) (he : ws[q0]? = some (b, .inr (ci, fs))) : PreV s H qc.1 b (zM D tys (.ref b :: As) ws H.size) As := ⟨zM_blind, va_recv hK hP hc he, fun _ hU hW => ⟨rfl, by rw [hU], gS.to hG hS hU hW hF, by rw [hU]; exact hP, va_K.moved hW.alike hK, hD.weaken (fun _ _ _ _ => trivial)⟩⟩
end ZP
section ZC
variable {p : Program} {l : Launch} {e : Env} {R : Room} {s : State} {m : MethodId} {args : Array Value} {below : List Frame} {meth : Method} {c : Code} {H : Heap} {locs : List Loc} {cells slots : Nat} {Q : State → Prop}
variable {pc : Nat} {ls : Array Slot} {rest st0 : List Value} {a : Array Value} {A0 : Nat → Prop} {H0 : Heap} {mc ms : Nat} {D : va_G} {ws ws' : va_W}
theorem zc_Ri {post : Int32 → Prop} (hr : va_Run p l e R s m args below meth c H locs cells slots 0 0 (F0 m pc ls st0) rest (zRi H post a) zNo) (hS : va_S A0 H0 H locs)
    (kk : ∀ (r : Int32) (locs1 : List Loc), post r → va_S A0 H0 H locs1 → W p l e R s m args below meth c H locs1 cells slots Q (F0 m (pc + 3) ls (.int r :: rest))) : W p l e R s m args below meth c H locs cells slots Q (F0 m pc ls st0) :=
  va_calli hr hS (fun _ _ h => h.elim) (fun _ h => h.elim) (fun r _ t H1 locs1 ht _ hp hB _ _ hS1 => by
    have e9 : H = H1 := hB.symm.trans ht
    subst e9
    exact kk r locs1 hp hS1)
theorem zc_Rl {post : Int64 → Prop} (hr : va_Run p l e R s m args below meth c H locs cells slots 0 0 (F0 m pc ls st0) rest (zRl H post a) zNo) (hS : va_S A0 H0 H locs)
    (kk : ∀ (r : Int64) (locs1 : List Loc), post r → va_S A0 H0 H locs1 → W p l e R s m args below meth c H locs1 cells slots Q (F0 m (pc + 3) ls (.long r :: rest))) : W p l e R s m args below meth c H locs cells slots Q (F0 m pc ls st0) :=
  va_calll hr hS (fun _ _ h => h.elim) (fun _ h => h.elim) (fun r _ t H1 locs1 ht _ hp hB _ _ hS1 => by
    have e9 : H = H1 := hB.symm.trans ht
    subst e9
    exact kk r locs1 hp hS1)
theorem zc_Mv {post : Prop} (hr : va_Run p l e R s m args below meth c H locs cells slots mc ms (F0 m pc ls st0) rest (zMv D ws ws' H.size post a) (va_A ws H.size)) (hS : va_S A0 H0 H locs) (hF : ∀ q, va_A ws H.size q → A0 q)
    (kk : ∀ (H1 : Heap) (locs1 : List Loc), post → va_P D vwCl ws' H1 → va_D (va_A ws H.size) ws' → (∀ q : Nat, q < H.size → ¬ va_A ws H.size q → H1[q]? = H[q]?) → va_S A0 H0 H1 locs1 → W p l e R s m args below meth c H1 locs1 (cells + mc) (slots + ms) Q (F0 m (pc + 3) ls rest)) : W p l e R s m args below meth c H locs cells slots Q (F0 m pc ls st0) :=
  va_callv hr hS (fun q _ h => hF q h) hF (fun _ t H1 locs1 ht _ hp hB _ hk hS1 => kk H1 locs1 hp (by rw [← ht]; exact hB.1) hB.2 hk hS1)
theorem zc_Mi {post : Int32 → Prop} (hr : va_Run p l e R s m args below meth c H locs cells slots mc ms (F0 m pc ls st0) rest (zMi D ws ws' H.size post a) (va_A ws H.size)) (hS : va_S A0 H0 H locs) (hF : ∀ q, va_A ws H.size q → A0 q)
    (kk : ∀ (r : Int32) (H1 : Heap) (locs1 : List Loc), post r → va_P D vwCl ws' H1 → va_D (va_A ws H.size) ws' → (∀ q : Nat, q < H.size → ¬ va_A ws H.size q → H1[q]? = H[q]?) → va_S A0 H0 H1 locs1 → W p l e R s m args below meth c H1 locs1 (cells + mc) (slots + ms) Q (F0 m (pc + 3) ls (.int r :: rest))) : W p l e R s m args below meth c H locs cells slots Q (F0 m pc ls st0) :=
  va_calli hr hS (fun q _ h => hF q h) hF (fun r _ t H1 locs1 ht _ hp hB _ hk hS1 => kk r H1 locs1 hp (by rw [← ht]; exact hB.1) hB.2 hk hS1)
theorem zc_Si {S : Type} {post : Int32 → S → Prop} {wsF : S → va_W} (hr : va_Run p l e R s m args below meth c H locs cells slots mc ms (F0 m pc ls st0) rest (zSi D ws H.size post wsF a) (va_A ws H.size)) (hS : va_S A0 H0 H locs) (hF : ∀ q, va_A ws H.size q → A0 q)
    (kk : ∀ (r : Int32) (u : S) (H1 : Heap) (locs1 : List Loc), post r u → va_P D vwCl (wsF u) H1 → va_D (va_A ws H.size) (wsF u) → (∀ q : Nat, q < H.size → ¬ va_A ws H.size q → H1[q]? = H[q]?) → va_S A0 H0 H1 locs1 → W p l e R s m args below meth c H1 locs1 (cells + mc) (slots + ms) Q (F0 m (pc + 3) ls (.int r :: rest))) : W p l e R s m args below meth c H locs cells slots Q (F0 m pc ls st0) :=
  va_calli hr hS (fun q _ h => hF q h) hF (fun r u t H1 locs1 ht _ hp hB _ hk hS1 => kk r u H1 locs1 hp (by rw [← ht]; exact hB.1) hB.2 hk hS1)
theorem zc_Sv {S : Type} {post : S → Prop} {wsF : S → va_W} (hr : va_Run p l e R s m args below meth c H locs cells slots mc ms (F0 m pc ls st0) rest (zSv D ws H.size post wsF a) (va_A ws H.size)) (hS : va_S A0 H0 H locs) (hF : ∀ q, va_A ws H.size q → A0 q)
    (kk : ∀ (u : S) (H1 : Heap) (locs1 : List Loc), post u → va_P D vwCl (wsF u) H1 → va_D (va_A ws H.size) (wsF u) → (∀ q : Nat, q < H.size → ¬ va_A ws H.size q → H1[q]? = H[q]?) → va_S A0 H0 H1 locs1 → W p l e R s m args below meth c H1 locs1 (cells + mc) (slots + ms) Q (F0 m (pc + 3) ls rest)) : W p l e R s m args below meth c H locs cells slots Q (F0 m pc ls st0) :=
  va_callv hr hS (fun q _ h => hF q h) hF (fun u t H1 locs1 ht _ hp hB _ hk hS1 => kk u H1 locs1 hp (by rw [← ht]; exact hB.1) hB.2 hk hS1)
end ZC
end
section
def rm_c_C_bytesOfDigits : Room := ({ frames := 0, cells := 0, slots := 0, locals := 0 } : Room)
set_option maxHeartbeats 4000000 in
set_option maxRecDepth 100000 in
theorem c_C_bytesOfDigits (l : Launch) (dC : Nat → ClassId) (dI : Nat → Nat → Nat) (cI : ClassId) (cB : ClassId) (n : Nat) (hn : n < 1000) (Hc : Heap) : Met l yC_bytesOfDigits wsC_bytesOfDigits rm_c_C_bytesOfDigits (zR (dC, dI) [(cI, .int), (cB, .byte)] [.int (nI n)] [] Hc) (zRi Hc (fun r => r = nI ((n + 1) / 2))) 0 0 zNo := by
  refine Met.ofW (cc := cC_bytesOfDigits) (maxL := 1) (ret := (some .int)) (by decide) rfl ?_
  intro p e s m args below meth c s₁ Bd hml hv
  obtain ⟨rfl, hH, hG, hP, hK⟩ := hv
  subst hH
  have hx := Bd.exec
  have hb := Bd.bytes
  have hr := Bd.returns
  have hts := atoms_spec (ws := wsC_bytesOfDigits) Bd.pre
  have hw : ∀ w ∈ BIG, w.before _ s = true := fun w h => hts w (List.mem_cons_of_mem _ h)
  have hown : s.vm.findClass RC = some m.cls := findClass_of_methodNamed Bd.named
  have hlocks := Bd.notSynchronized
  have hS : va_S zNo s.heap s.heap [] := va_S.rf
  have hl := lv_entry ([.int (nI n)]) (n := 1) (Nat.le_of_ble_eq_true rfl)
  rw [lg_entry_eq]
  generalize (lg_sl ([.int (nI n)]) ++ List.replicate (1 - (lg_sl ([.int (nI n)])).length) Slot.unset).toArray = ls at hl ⊢
  have hl : lv_has ls 1 [(0, .int (nI n))] := hl
  refine zq_name (fun Q hQ => ?_)
  change W p l e rm_c_C_bytesOfDigits s m _ below meth c _ _ _ _ Q _
  refine lv_iload_n hx hb dC_bytesOfDigits_0 rfl (lv_at hl 0 rfl) ?_
  refine lv_iconst (v := nI 1) hx hb dC_bytesOfDigits_1 (by decide) ?_
  refine zi_add hx hb dC_bytesOfDigits_2 ?_
  refine lv_iconst (v := nI 2) hx hb dC_bytesOfDigits_3 (by decide) ?_
  refine zi_div hx hb (by omega) (by omega) (by omega) dC_bytesOfDigits_4 ?_
  subst hQ
  exact W.iret (v := nI ((n + 1) / 2)) hx hb hr (fun t ht hW => ⟨⟨nI ((n + 1) / 2), (), rfl, rfl, ht⟩, hS.F ht⟩) hS.2.2 dC_bytesOfDigits_5
def rm_c_C_mapByte : Room := ({ frames := 0, cells := 0, slots := 0, locals := 0 } : Room)
set_option maxHeartbeats 4000000 in
set_option maxRecDepth 100000 in
theorem c_C_mapByte (l : Launch) (dC : Nat → ClassId) (dI : Nat → Nat → Nat) (cI : ClassId) (cB : ClassId) (n : Nat) (hn : 1 ≤ n) (hn2 : n < 1000) (Hc : Heap) : Met l yC_mapByte wsC_mapByte rm_c_C_mapByte (zR (dC, dI) [(cI, .int), (cB, .byte)] [.int (nI n)] [] Hc) (zRi Hc (fun r => r = nI ((n - 1) / 8))) 0 0 zNo := by
  refine Met.ofW (cc := cC_mapByte) (maxL := 1) (ret := (some .int)) (by decide) rfl ?_
  intro p e s m args below meth c s₁ Bd hml hv
  obtain ⟨rfl, hH, hG, hP, hK⟩ := hv
  subst hH
  have hx := Bd.exec
  have hb := Bd.bytes
  have hr := Bd.returns
  have hts := atoms_spec (ws := wsC_mapByte) Bd.pre
  have hw : ∀ w ∈ BIG, w.before _ s = true := fun w h => hts w (List.mem_cons_of_mem _ h)
  have hown : s.vm.findClass RC = some m.cls := findClass_of_methodNamed Bd.named
  have hlocks := Bd.notSynchronized
  have hS : va_S zNo s.heap s.heap [] := va_S.rf
  have hl := lv_entry ([.int (nI n)]) (n := 1) (Nat.le_of_ble_eq_true rfl)
  rw [lg_entry_eq]
  generalize (lg_sl ([.int (nI n)]) ++ List.replicate (1 - (lg_sl ([.int (nI n)])).length) Slot.unset).toArray = ls at hl ⊢
  have hl : lv_has ls 1 [(0, .int (nI n))] := hl
  refine zq_name (fun Q hQ => ?_)
  change W p l e rm_c_C_mapByte s m _ below meth c _ _ _ _ Q _
  refine lv_iload_n hx hb dC_mapByte_0 rfl (lv_at hl 0 rfl) ?_
  refine lv_iconst (v := nI 1) hx hb dC_mapByte_1 (by decide) ?_
  refine zi_sub hx hb (by omega) dC_mapByte_2 ?_
  refine lv_bipush (v := nI 8) hx hb dC_mapByte_3 (by decide) ?_
  refine zi_div hx hb (by omega) (by omega) (by omega) dC_mapByte_5 ?_
  subst hQ
  exact W.iret (v := nI ((n - 1) / 8)) hx hb hr (fun t ht hW => ⟨⟨nI ((n - 1) / 8), (), rfl, rfl, ht⟩, hS.F ht⟩) hS.2.2 dC_mapByte_6
def rm_c_C_mapBit : Room := ({ frames := 0, cells := 0, slots := 0, locals := 0 } : Room)
set_option maxHeartbeats 4000000 in
set_option maxRecDepth 100000 in
theorem c_C_mapBit (l : Launch) (dC : Nat → ClassId) (dI : Nat → Nat → Nat) (cI : ClassId) (cB : ClassId) (n : Nat) (hn : 1 ≤ n) (hn2 : n < 1000) (Hc : Heap) : Met l yC_mapBit wsC_mapBit rm_c_C_mapBit (zR (dC, dI) [(cI, .int), (cB, .byte)] [.int (nI n)] [] Hc) (zRi Hc (fun r => r = nI (128 / 2 ^ ((n - 1) % 8)))) 0 0 zNo := by
  refine Met.ofW (cc := cC_mapBit) (maxL := 1) (ret := (some .int)) (by decide) rfl ?_
  intro p e s m args below meth c s₁ Bd hml hv
  obtain ⟨rfl, hH, hG, hP, hK⟩ := hv
  subst hH
  have hx := Bd.exec
  have hb := Bd.bytes
  have hr := Bd.returns
  have hts := atoms_spec (ws := wsC_mapBit) Bd.pre
  have hw : ∀ w ∈ BIG, w.before _ s = true := fun w h => hts w (List.mem_cons_of_mem _ h)
  have hown : s.vm.findClass RC = some m.cls := findClass_of_methodNamed Bd.named
  have hlocks := Bd.notSynchronized
  have hS : va_S zNo s.heap s.heap [] := va_S.rf
  have hl := lv_entry ([.int (nI n)]) (n := 1) (Nat.le_of_ble_eq_true rfl)
  rw [lg_entry_eq]
  generalize (lg_sl ([.int (nI n)]) ++ List.replicate (1 - (lg_sl ([.int (nI n)])).length) Slot.unset).toArray = ls at hl ⊢
  have hl : lv_has ls 1 [(0, .int (nI n))] := hl
  refine zq_name (fun Q hQ => ?_)
  change W p l e rm_c_C_mapBit s m _ below meth c _ _ _ _ Q _
  refine lv_sipush (v := nI 128) hx hb dC_mapBit_0 (by decide) ?_
  refine lv_iload_n hx hb dC_mapBit_3 rfl (lv_at hl 0 rfl) ?_
  refine lv_iconst (v := nI 1) hx hb dC_mapBit_4 (by decide) ?_
  refine zi_sub hx hb (by omega) dC_mapBit_5 ?_
  refine lv_bipush (v := nI 8) hx hb dC_mapBit_6 (by decide) ?_
  refine zi_rem hx hb (by omega) (by omega) (by omega) dC_mapBit_8 ?_
  refine lv_ishr hx hb dC_mapBit_9 ?_
  refine zi_v (b := nI (128 / 2 ^ ((n - 1) % 8))) (shr_N (by decide) (by omega)) ?_
  subst hQ
  exact W.iret (v := nI (128 / 2 ^ ((n - 1) % 8))) hx hb hr (fun t ht hW => ⟨⟨nI (128 / 2 ^ ((n - 1) % 8)), (), rfl, rfl, ht⟩, hS.F ht⟩) hS.2.2 dC_mapBit_10
end
section
def rm_c_D_has : Room := ({ frames := 0, cells := 0, slots := 0, locals := 0 } : Room)
set_option maxHeartbeats 4000000 in
set_option maxRecDepth 100000 in
theorem c_D_has (l : Launch) (dC : Nat → ClassId) (dI : Nat → Nat → Nat) (h0 : Nat) (h1 : Nat) (h2 : Nat) (cI : ClassId) (cB : ClassId) (ty : Nat) (cnt : Nat → Nat) (k : Nat) (hk : k < 16) (hb9 : cnt k < 2 ^ 31) (Hc : Heap) : Met l yD_has wsD_has rm_c_D_has (zR (dC, dI) [(cI, .int), (cB, .byte)] [.ref h0, .int (nI k)] [(h0, .inr (0, [.int (nI ty), .ref h1, .ref h2])), (h1, .inl (cI, 16, .inl (aN cnt)))] Hc) (zRi Hc (fun r => r = nI (hz (cnt k)))) 0 0 zNo := by
  refine Met.ofW (cc := cD_has) (maxL := 2) (ret := (some .boolean)) (by decide) rfl ?_
  intro p e s m args below meth c s₁ Bd hml hv
  obtain ⟨rfl, hH, hG, hP, hK⟩ := hv
  subst hH
  have hx := Bd.exec
  have hb := Bd.bytes
  have hr := Bd.returns
  have hts := atoms_spec (ws := wsD_has) Bd.pre
  have hw : ∀ w ∈ BIG, w.before _ s = true := fun w h => hts w (List.mem_cons_of_mem _ h)
  have hown : s.vm.findClass RD = some m.cls := findClass_of_methodNamed Bd.named
  have hlocks := Bd.notSynchronized
  have hS : va_S zNo s.heap s.heap [] := va_S.rf
  have hl := lv_entry ([.ref h0, .int (nI k)]) (n := 2) (Nat.le_of_ble_eq_true rfl)
  rw [lg_entry_eq]
  generalize (lg_sl ([.ref h0, .int (nI k)]) ++ List.replicate (2 - (lg_sl ([.ref h0, .int (nI k)])).length) Slot.unset).toArray = ls at hl ⊢
  have hl : lv_has ls 2 [(0, .ref h0), (1, .int (nI k))] := hl
  refine zq_name (fun Q hQ => ?_)
  change W p l e rm_c_D_has s m _ below meth c _ _ _ _ Q _
  refine lv_aload_n hx hb dD_has_0 rfl (lv_at hl 0 rfl) ?_
  refine va_get (D := (dC, dI)) (ci := 0) (v := .ref h1) (C := RD) (T := TD) (N := 3) hx hb hw inD hown hK hP 0 rfl rfl 1 (by decide) (hw _ w_fl_D_15) (fun _ h9 => h9) rfl dD_has_1 ?_
  refine lv_iload_n hx hb dD_has_4 rfl (lv_at hl 1 rfl) ?_
  refine za_ild hx hb hK hP 1 0 rfl rfl (by omega) (by decide) dD_has_5 ?_
  refine zi_eq0 (tgt := 13) hx hb (by omega) dD_has_6 (by decide) (fun c_6 => ?_) (fun c_6 => ?_)
  · refine lv_iconst (v := nI 0) hx hb dD_has_13 (by decide) ?_
    subst hQ
    exact W.zret (v := nI 0) hx hb hr (by decide) (fun t ht hW => ⟨⟨nI 0, (), rfl, (by unfold hz; rw [if_pos c_6]), ht⟩, hS.F ht⟩) hS.2.2 dD_has_14
  · refine lv_iconst (v := nI 1) hx hb dD_has_9 (by decide) ?_
    refine lv_goto (tgt := 14) hx hb dD_has_10 (by decide) ?_
    subst hQ
    exact W.zret (v := nI 1) hx hb hr (by decide) (fun t ht hW => ⟨⟨nI 1, (), rfl, (by unfold hz; rw [if_neg c_6]), ht⟩, hS.F ht⟩) hS.2.2 dD_has_14
def rm_c_D_restart : Room := ({ frames := 0, cells := 0, slots := 0, locals := 0 } : Room)
set_option maxHeartbeats 4000000 in
set_option maxRecDepth 100000 in
theorem c_D_restart (l : Launch) (dC : Nat → ClassId) (dI : Nat → Nat → Nat) (h0 : Nat) (h1 : Nat) (h2 : Nat) (cI : ClassId) (cB : ClassId) (ty : Nat) (cnt : Nat → Nat) (mk : Nat → Nat) (ty2 : Nat) (sz : Nat) : Met l yD_restart wsD_restart rm_c_D_restart (zM (dC, dI) [(cI, .int), (cB, .byte)] [.ref h0, .int (nI ty2)] [(h0, .inr (0, [.int (nI ty), .ref h1, .ref h2])), (h1, .inl (cI, 16, .inl (aN cnt))), (h2, .inl (cB, 208, .inl (aN mk)))] sz) (zMv (dC, dI) [(h0, .inr (0, [.int (nI ty), .ref h1, .ref h2])), (h1, .inl (cI, 16, .inl (aN cnt))), (h2, .inl (cB, 208, .inl (aN mk)))] [(h0, .inr (0, [.int (nI ty2), .ref h1, .ref h2])), (h1, .inl (cI, 16, .inl (aN (zc cnt 16)))), (h2, .inl (cB, 208, .inl (aN mk)))] sz (True)) 0 0 (va_A [(h0, .inr (0, [.int (nI ty), .ref h1, .ref h2])), (h1, .inl (cI, 16, .inl (aN cnt))), (h2, .inl (cB, 208, .inl (aN mk)))] sz) := by
  refine Met.ofW (cc := cD_restart) (maxL := 3) (ret := none) (by decide) rfl ?_
  intro p e s m args below meth c s₁ Bd hml hv
  obtain ⟨rfl, hsz, hG, hP, hK, hD0⟩ := hv
  subst hsz
  have hx := Bd.exec
  have hb := Bd.bytes
  have hr := Bd.returns
  have hts := atoms_spec (ws := wsD_restart) Bd.pre
  have hw : ∀ w ∈ BIG, w.before _ s = true := fun w h => hts w (List.mem_cons_of_mem _ h)
  have hown : s.vm.findClass RD = some m.cls := findClass_of_methodNamed Bd.named
  have hlocks := Bd.notSynchronized
  have hD := hD0.self (sz := s.heap.size)
  obtain ⟨A, hAe⟩ : ∃ A, A = va_A [(h0, .inr (0, [.int (nI ty), .ref h1, .ref h2])), (h1, .inl (cI, 16, .inl (aN cnt))), (h2, .inl (cB, 208, .inl (aN mk)))] s.heap.size := ⟨_, rfl⟩
  have hA : ∀ q : Nat, s.heap.size ≤ q → A q := fun q h => by rw [hAe]; exact Or.inr h
  rw [← hAe] at hG hD
  have hS : va_S A s.heap s.heap [] := va_S.rf
  have hl := lv_entry ([.ref h0, .int (nI ty2)]) (n := 3) (Nat.le_of_ble_eq_true rfl)
  rw [lg_entry_eq]
  generalize (lg_sl ([.ref h0, .int (nI ty2)]) ++ List.replicate (3 - (lg_sl ([.ref h0, .int (nI ty2)])).length) Slot.unset).toArray = ls at hl ⊢
  have hl : lv_has ls 3 [(0, .ref h0), (1, .int (nI ty2))] := hl
  refine zq_name (fun Q hQ => ?_)
  change W p l e rm_c_D_restart s m _ below meth c _ _ _ _ Q _
  refine lv_aload_n hx hb dD_restart_0 rfl (lv_at hl 0 rfl) ?_
  refine lv_iload_n hx hb dD_restart_1 rfl (lv_at hl 1 rfl) ?_
  refine va_put (D := (dC, dI)) (ci := 0) (v := .int (nI ty2)) (ty := .int) (C := RD) (T := TD) (N := 3) hx hb hw inD tyD tyD_ok nmD hown hK hP hD hS 0 rfl rfl 0 (by decide) (hw _ w_fl_D_9) (fun _ h9 => h9) rfl (by decide +kernel) rfl rfl (Nat.le_of_ble_eq_true rfl) dD_restart_2 (fun H locs hP hD hS => ?_)
  have hP : va_P (dC, dI) vwCl [(h0, .inr (0, [.int (nI ty2), .ref h1, .ref h2])), (h1, .inl (cI, 16, .inl (aN cnt))), (h2, .inl (cB, 208, .inl (aN mk)))] H := hP
  have hD : va_D A [(h0, .inr (0, [.int (nI ty2), .ref h1, .ref h2])), (h1, .inl (cI, 16, .inl (aN cnt))), (h2, .inl (cB, 208, .inl (aN mk)))] := hD
  refine lv_iconst (v := nI 0) hx hb dD_restart_5 (by decide) ?_
  refine lv_istore_n (lv' := [(2, .int (nI 0)), (0, .ref h0), (1, .int (nI ty2))]) hx hb dD_restart_6 rfl hl (by decide) rfl (fun ls hl => ?_)
  have lp_7 : ∀ (fu : Nat) (k : Nat) (f : Nat → Nat) (hk : k ≤ 16) (hf : f = zc cnt k) (hms : 16 - k < fu) (H : Heap) (locs : List Loc) (ls : Array Slot), lv_has ls 3 [(0, .ref h0), (1, .int (nI ty2)), (2, .int (nI k))] → va_P (dC, dI) vwCl [(h0, .inr (0, [.int (nI ty2), .ref h1, .ref h2])), (h1, .inl (cI, 16, .inl (aN f))), (h2, .inl (cB, 208, .inl (aN mk)))] H → va_D A [(h0, .inr (0, [.int (nI ty2), .ref h1, .ref h2])), (h1, .inl (cI, 16, .inl (aN f))), (h2, .inl (cB, 208, .inl (aN mk)))] → va_S A s.heap H locs → W p l e rm_c_D_restart s m ([.ref h0, .int (nI ty2)] : List Value).toArray below meth c H locs 0 0 Q (F0 m 7 ls []) := by
    intro fu
    induction fu with
    | zero => intro k f hk hf hms; exact absurd hms (Nat.not_lt_zero _)
    | succ fu ih7 =>
      intro k f hk hf hms H locs ls hl hP hD hS
      refine lv_iload_n hx hb dD_restart_7 rfl (lv_at hl 2 rfl) ?_
      refine lv_bipush (v := nI 16) hx hb dD_restart_8 (by decide) ?_
      refine zi_ge (tgt := 26) hx hb (by omega) (by omega) dD_restart_10 (by decide) (fun c_10 => ?_) (fun c_10 => ?_)
      · obtain rfl : k = 16 := by omega
        subst hf
        subst hAe
        subst hQ
        exact W.vret hx hb hr (fun t ht hW => ⟨⟨(), rfl, trivial, by rw [ht]; exact hP.sub [0, 1, 2] rfl, hD.sub [0, 1, 2] (by decide) rfl⟩, hS.F ht⟩) hS.2.2 dD_restart_26
      · refine lv_aload_n hx hb dD_restart_13 rfl (lv_at hl 0 rfl) ?_
        refine va_get (D := (dC, dI)) (ci := 0) (v := .ref h1) (C := RD) (T := TD) (N := 3) hx hb hw inD hown hK hP 0 rfl rfl 1 (by decide) (hw _ w_fl_D_15) (fun _ h9 => h9) rfl dD_restart_14 ?_
        refine lv_iload_n hx hb dD_restart_17 rfl (lv_at hl 2 rfl) ?_
        refine lv_iconst (v := nI 0) hx hb dD_restart_18 (by decide) ?_
        refine za_ist hx hb hK hP hD hS 1 0 rfl rfl (by omega) (by decide) dD_restart_19 (fun H locs hP hD hS => ?_)
        have hP : va_P (dC, dI) vwCl [(h0, .inr (0, [.int (nI ty2), .ref h1, .ref h2])), (h1, .inl (cI, 16, .inl (aN (nup f k 0)))), (h2, .inl (cB, 208, .inl (aN mk)))] H := hP
        have hD : va_D A [(h0, .inr (0, [.int (nI ty2), .ref h1, .ref h2])), (h1, .inl (cI, 16, .inl (aN (nup f k 0)))), (h2, .inl (cB, 208, .inl (aN mk)))] := hD
        refine lv_iinc (v := nI (k + 1)) (lv' := [(2, .int (nI (k + 1))), (0, .ref h0), (1, .int (nI ty2))]) hx hb dD_restart_20 hl (k := 2) rfl (zi_incr k 1) (by decide) rfl (fun ls hl => ?_)
        refine lv_goto (tgt := 7) hx hb dD_restart_23 (by decide) ?_
        exact ih7 (k + 1) (nup f k 0) (by omega) (by rw [hf]; exact zc_s cnt k) (by omega) _ _ _ (lv_sub hl [1, 2, 0] rfl) (hP.sub [0, 1, 2] rfl) (hD.sub [0, 1, 2] (by decide) rfl) hS
  exact lp_7 ((16 - 0) + 1) 0 cnt (by omega) (zc_0 cnt) (Nat.lt_succ_self _) _ _ _ (lv_sub hl [1, 2, 0] rfl) (hP.sub [0, 1, 2] rfl) (hD.sub [0, 1, 2] (by decide) rfl) hS
def rm_c_D_become : Room := ({ frames := 1, cells := 0, slots := 0, locals := 26 } : Room)
set_option maxHeartbeats 4000000 in
set_option maxRecDepth 100000 in
theorem c_D_become (l : Launch) (dC : Nat → ClassId) (dI : Nat → Nat → Nat) (h0 : Nat) (h1 : Nat) (h2 : Nat) (cI : ClassId) (cB : ClassId) (ty : Nat) (cnt : Nat → Nat) (mk : Nat → Nat) (g0 : Nat) (g1 : Nat) (g2 : Nat) (ty2 : Nat) (cnt2 : Nat → Nat) (mk2 : Nat → Nat) (hm : ∀ j, mk2 j < 128) (sz : Nat) : Met l yD_become wsD_become rm_c_D_become (zM (dC, dI) [(cI, .int), (cB, .byte)] [.ref h0, .ref g0] [(h0, .inr (0, [.int (nI ty), .ref h1, .ref h2])), (h1, .inl (cI, 16, .inl (aN cnt))), (h2, .inl (cB, 208, .inl (aN mk))), (g0, .inr (0, [.int (nI ty2), .ref g1, .ref g2])), (g1, .inl (cI, 16, .inl (aN cnt2))), (g2, .inl (cB, 208, .inl (aN mk2)))] sz) (zMv (dC, dI) [(h0, .inr (0, [.int (nI ty), .ref h1, .ref h2])), (h1, .inl (cI, 16, .inl (aN cnt))), (h2, .inl (cB, 208, .inl (aN mk))), (g0, .inr (0, [.int (nI ty2), .ref g1, .ref g2])), (g1, .inl (cI, 16, .inl (aN cnt2))), (g2, .inl (cB, 208, .inl (aN mk2)))] [(h0, .inr (0, [.int (nI ty2), .ref h1, .ref h2])), (h1, .inl (cI, 16, .inl (aN (cp cnt2 cnt 16)))), (h2, .inl (cB, 208, .inl (aN (cp mk2 mk 208)))), (g0, .inr (0, [.int (nI ty2), .ref g1, .ref g2])), (g1, .inl (cI, 16, .inl (aN cnt2))), (g2, .inl (cB, 208, .inl (aN mk2)))] sz (True)) 0 0 (va_A [(h0, .inr (0, [.int (nI ty), .ref h1, .ref h2])), (h1, .inl (cI, 16, .inl (aN cnt))), (h2, .inl (cB, 208, .inl (aN mk))), (g0, .inr (0, [.int (nI ty2), .ref g1, .ref g2])), (g1, .inl (cI, 16, .inl (aN cnt2))), (g2, .inl (cB, 208, .inl (aN mk2)))] sz) := by
  refine Met.ofW (cc := cD_become) (maxL := 2) (ret := none) (by decide) rfl ?_
  intro p e s m args below meth c s₁ Bd hml hv
  obtain ⟨rfl, hsz, hG, hP, hK, hD0⟩ := hv
  subst hsz
  have hx := Bd.exec
  have hb := Bd.bytes
  have hr := Bd.returns
  have hts := atoms_spec (ws := wsD_become) Bd.pre
  have hw : ∀ w ∈ BIG, w.before _ s = true := fun w h => hts w (List.mem_cons_of_mem _ h)
  have hown : s.vm.findClass RD = some m.cls := findClass_of_methodNamed Bd.named
  have hlocks := Bd.notSynchronized
  have hD := hD0.self (sz := s.heap.size)
  obtain ⟨A, hAe⟩ : ∃ A, A = va_A [(h0, .inr (0, [.int (nI ty), .ref h1, .ref h2])), (h1, .inl (cI, 16, .inl (aN cnt))), (h2, .inl (cB, 208, .inl (aN mk))), (g0, .inr (0, [.int (nI ty2), .ref g1, .ref g2])), (g1, .inl (cI, 16, .inl (aN cnt2))), (g2, .inl (cB, 208, .inl (aN mk2)))] s.heap.size := ⟨_, rfl⟩
  have hA : ∀ q : Nat, s.heap.size ≤ q → A q := fun q h => by rw [hAe]; exact Or.inr h
  rw [← hAe] at hG hD
  have hS : va_S A s.heap s.heap [] := va_S.rf
  have hl := lv_entry ([.ref h0, .ref g0]) (n := 2) (Nat.le_of_ble_eq_true rfl)
  rw [lg_entry_eq]
  generalize (lg_sl ([.ref h0, .ref g0]) ++ List.replicate (2 - (lg_sl ([.ref h0, .ref g0])).length) Slot.unset).toArray = ls at hl ⊢
  have hl : lv_has ls 2 [(0, .ref h0), (1, .ref g0)] := hl
  refine zq_name (fun Q hQ => ?_)
  change W p l e rm_c_D_become s m _ below meth c _ _ _ _ Q _
  refine lv_aload_n hx hb dD_become_0 rfl (lv_at hl 0 rfl) ?_
  refine lv_aload_n hx hb dD_become_1 rfl (lv_at hl 1 rfl) ?_
  refine va_get (D := (dC, dI)) (ci := 0) (v := .int (nI ty2)) (C := RD) (T := TD) (N := 3) hx hb hw inD hown hK hP 3 rfl rfl 0 (by decide) (hw _ w_fl_D_9) (fun _ h9 => h9) rfl dD_become_2 ?_
  refine va_put (D := (dC, dI)) (ci := 0) (v := .int (nI ty2)) (ty := .int) (C := RD) (T := TD) (N := 3) hx hb hw inD tyD tyD_ok nmD hown hK hP hD hS 0 rfl rfl 0 (by decide) (hw _ w_fl_D_9) (fun _ h9 => h9) rfl (by decide +kernel) rfl rfl (Nat.le_of_ble_eq_true rfl) dD_become_5 (fun H locs hP hD hS => ?_)
  have hP : va_P (dC, dI) vwCl [(h0, .inr (0, [.int (nI ty2), .ref h1, .ref h2])), (h1, .inl (cI, 16, .inl (aN cnt))), (h2, .inl (cB, 208, .inl (aN mk))), (g0, .inr (0, [.int (nI ty2), .ref g1, .ref g2])), (g1, .inl (cI, 16, .inl (aN cnt2))), (g2, .inl (cB, 208, .inl (aN mk2)))] H := hP
  have hD : va_D A [(h0, .inr (0, [.int (nI ty2), .ref h1, .ref h2])), (h1, .inl (cI, 16, .inl (aN cnt))), (h2, .inl (cB, 208, .inl (aN mk))), (g0, .inr (0, [.int (nI ty2), .ref g1, .ref g2])), (g1, .inl (cI, 16, .inl (aN cnt2))), (g2, .inl (cB, 208, .inl (aN mk2)))] := hD
  refine lv_aload_n hx hb dD_become_8 rfl (lv_at hl 1 rfl) ?_
  refine va_get (D := (dC, dI)) (ci := 0) (v := .ref g1) (C := RD) (T := TD) (N := 3) hx hb hw inD hown hK hP 3 rfl rfl 1 (by decide) (hw _ w_fl_D_15) (fun _ h9 => h9) rfl dD_become_9 ?_
  refine lv_iconst (v := nI 0) hx hb dD_become_12 (by decide) ?_
  refine lv_aload_n hx hb dD_become_13 rfl (lv_at hl 0 rfl) ?_
  refine va_get (D := (dC, dI)) (ci := 0) (v := .ref h1) (C := RD) (T := TD) (N := 3) hx hb hw inD hown hK hP 0 rfl rfl 1 (by decide) (hw _ w_fl_D_15) (fun _ h9 => h9) rfl dD_become_14 ?_
  refine lv_iconst (v := nI 0) hx hb dD_become_17 (by decide) ?_
  refine lv_bipush (v := nI 16) hx hb dD_become_18 (by decide) ?_
  refine va_copyi hx hb (by rw [hml]; exact hl.1.symm) hown (hw _ w_ml_D_23) (hw _ w_na_copy) (hw _ w_st_copy) (hw _ w_in_System) hK hP hD hS 4 1 0 0 rfl rfl rfl rfl rfl (by decide) (by decide) (by decide) (by decide) (by decide) (fun i hi => rfl) (Nat.le_of_ble_eq_true rfl) (Nat.le_of_ble_eq_true rfl) dD_become_20 (fun H locs hP hD hS => ?_)
  rw [cp_N _ _ (by decide)] at hP hD
  have hP : va_P (dC, dI) vwCl [(h0, .inr (0, [.int (nI ty2), .ref h1, .ref h2])), (h1, .inl (cI, 16, .inl (aN (cp cnt2 cnt 16)))), (h2, .inl (cB, 208, .inl (aN mk))), (g0, .inr (0, [.int (nI ty2), .ref g1, .ref g2])), (g1, .inl (cI, 16, .inl (aN cnt2))), (g2, .inl (cB, 208, .inl (aN mk2)))] H := hP
  have hD : va_D A [(h0, .inr (0, [.int (nI ty2), .ref h1, .ref h2])), (h1, .inl (cI, 16, .inl (aN (cp cnt2 cnt 16)))), (h2, .inl (cB, 208, .inl (aN mk))), (g0, .inr (0, [.int (nI ty2), .ref g1, .ref g2])), (g1, .inl (cI, 16, .inl (aN cnt2))), (g2, .inl (cB, 208, .inl (aN mk2)))] := hD
  refine lv_aload_n hx hb dD_become_23 rfl (lv_at hl 1 rfl) ?_
  refine va_get (D := (dC, dI)) (ci := 0) (v := .ref g2) (C := RD) (T := TD) (N := 3) hx hb hw inD hown hK hP 3 rfl rfl 2 (by decide) (hw _ w_fl_D_19) (fun _ h9 => h9) rfl dD_become_24 ?_
  refine lv_iconst (v := nI 0) hx hb dD_become_27 (by decide) ?_
  refine lv_aload_n hx hb dD_become_28 rfl (lv_at hl 0 rfl) ?_
  refine va_get (D := (dC, dI)) (ci := 0) (v := .ref h2) (C := RD) (T := TD) (N := 3) hx hb hw inD hown hK hP 0 rfl rfl 2 (by decide) (hw _ w_fl_D_19) (fun _ h9 => h9) rfl dD_become_29 ?_
  refine lv_iconst (v := nI 0) hx hb dD_become_32 (by decide) ?_
  refine lv_sipush (v := nI 208) hx hb dD_become_33 (by decide) ?_
  refine va_copyi hx hb (by rw [hml]; exact hl.1.symm) hown (hw _ w_ml_D_23) (hw _ w_na_copy) (hw _ w_st_copy) (hw _ w_in_System) hK hP hD hS 5 2 1 1 rfl rfl rfl rfl rfl (by decide) (by decide) (by decide) (by decide) (by decide) (fun i _ => fit_small (hm _)) (Nat.le_of_ble_eq_true rfl) (Nat.le_of_ble_eq_true rfl) dD_become_36 (fun H locs hP hD hS => ?_)
  rw [cp_N _ _ (by decide)] at hP hD
  have hP : va_P (dC, dI) vwCl [(h0, .inr (0, [.int (nI ty2), .ref h1, .ref h2])), (h1, .inl (cI, 16, .inl (aN (cp cnt2 cnt 16)))), (h2, .inl (cB, 208, .inl (aN (cp mk2 mk 208)))), (g0, .inr (0, [.int (nI ty2), .ref g1, .ref g2])), (g1, .inl (cI, 16, .inl (aN cnt2))), (g2, .inl (cB, 208, .inl (aN mk2)))] H := hP
  have hD : va_D A [(h0, .inr (0, [.int (nI ty2), .ref h1, .ref h2])), (h1, .inl (cI, 16, .inl (aN (cp cnt2 cnt 16)))), (h2, .inl (cB, 208, .inl (aN (cp mk2 mk 208)))), (g0, .inr (0, [.int (nI ty2), .ref g1, .ref g2])), (g1, .inl (cI, 16, .inl (aN cnt2))), (g2, .inl (cB, 208, .inl (aN mk2)))] := hD
  subst hAe
  subst hQ
  exact W.vret hx hb hr (fun t ht hW => ⟨⟨(), rfl, trivial, by rw [ht]; exact hP.sub [0, 1, 2, 3, 4, 5] rfl, hD.sub [0, 1, 2, 3, 4, 5] (by decide) rfl⟩, hS.F ht⟩) hS.2.2 dD_become_39
def rm_c_D_fieldCount : Room := ({ frames := 1, cells := 0, slots := 0, locals := 21 } : Room)
set_option maxHeartbeats 4000000 in
set_option maxRecDepth 100000 in
theorem c_D_fieldCount (l : Launch) (dC : Nat → ClassId) (dI : Nat → Nat → Nat) (h0 : Nat) (h1 : Nat) (h2 : Nat) (cI : ClassId) (cB : ClassId) (ty : Nat) (cnt : Nat → Nat) (hb9 : ∀ j, j < 16 → cnt j < 2 ^ 31) (Hc : Heap) : Met l yD_fieldCount wsD_fieldCount rm_c_D_fieldCount (zR (dC, dI) [(cI, .int), (cB, .byte)] [.ref h0] [(h0, .inr (0, [.int (nI ty), .ref h1, .ref h2])), (h1, .inl (cI, 16, .inl (aN cnt)))] Hc) (zRi Hc (fun r => r = nI (fc cnt 16))) 0 0 zNo := by
  refine Met.ofW (cc := cD_fieldCount) (maxL := 3) (ret := (some .int)) (by decide) rfl ?_
  intro p e s m args below meth c s₁ Bd hml hv
  obtain ⟨rfl, hH, hG, hP, hK⟩ := hv
  subst hH
  have hx := Bd.exec
  have hb := Bd.bytes
  have hr := Bd.returns
  have hts := atoms_spec (ws := wsD_fieldCount) Bd.pre
  have hw : ∀ w ∈ BIG, w.before _ s = true := fun w h => hts w (List.mem_cons_of_mem _ h)
  have hown : s.vm.findClass RD = some m.cls := findClass_of_methodNamed Bd.named
  have hlocks := Bd.notSynchronized
  have hS : va_S zNo s.heap s.heap [] := va_S.rf
  have hl := lv_entry ([.ref h0]) (n := 3) (Nat.le_of_ble_eq_true rfl)
  rw [lg_entry_eq]
  generalize (lg_sl ([.ref h0]) ++ List.replicate (3 - (lg_sl ([.ref h0])).length) Slot.unset).toArray = ls at hl ⊢
  have hl : lv_has ls 3 [(0, .ref h0)] := hl
  refine zq_name (fun Q hQ => ?_)
  change W p l e rm_c_D_fieldCount s m _ below meth c _ _ _ _ Q _
  refine lv_iconst (v := nI 0) hx hb dD_fieldCount_0 (by decide) ?_
  refine lv_istore_n (lv' := [(1, .int (nI 0)), (0, .ref h0)]) hx hb dD_fieldCount_1 rfl hl (by decide) rfl (fun ls hl => ?_)
  refine lv_iconst (v := nI 0) hx hb dD_fieldCount_2 (by decide) ?_
  refine lv_istore_n (lv' := [(2, .int (nI 0)), (1, .int (nI 0)), (0, .ref h0)]) hx hb dD_fieldCount_3 rfl hl (by decide) rfl (fun ls hl => ?_)
  have lp_4 : ∀ (fu : Nat) (k : Nat) (n1 : Nat) (hk : k ≤ 16) (hn : n1 = fc cnt k) (hms : 16 - k < fu) (locs : List Loc) (ls : Array Slot), lv_has ls 3 [(0, .ref h0), (1, .int (nI n1)), (2, .int (nI k))] → va_S zNo s.heap s.heap locs → W p l e rm_c_D_fieldCount s m ([.ref h0] : List Value).toArray below meth c s.heap locs 0 0 Q (F0 m 4 ls []) := by
    intro fu
    induction fu with
    | zero => intro k n1 hk hn hms; exact absurd hms (Nat.not_lt_zero _)
    | succ fu ih4 =>
      intro k n1 hk hn hms locs ls hl hS
      refine lv_iload_n hx hb dD_fieldCount_4 rfl (lv_at hl 2 rfl) ?_
      refine lv_bipush (v := nI 16) hx hb dD_fieldCount_5 (by decide) ?_
      refine zi_ge (tgt := 27) hx hb (by omega) (by omega) dD_fieldCount_7 (by decide) (fun c_7 => ?_) (fun c_7 => ?_)
      · refine lv_iload_n hx hb dD_fieldCount_27 rfl (lv_at hl 1 rfl) ?_
        subst hQ
        exact W.iret (v := nI n1) hx hb hr (fun t ht hW => ⟨⟨nI n1, (), rfl, (by rw [hn, show k = 16 by omega]), ht⟩, hS.F ht⟩) hS.2.2 dD_fieldCount_28
      · refine lv_aload_n hx hb dD_fieldCount_10 rfl (lv_at hl 0 rfl) ?_
        refine lv_iload_n hx hb dD_fieldCount_11 rfl (lv_at hl 2 rfl) ?_
        refine zc_Ri (va_runV (As := [.int (nI k)]) (rest := []) ⟨hx, hb, hml, hown, hw⟩ (c_D_has l dC dI h0 h1 h2 cI cB ty cnt k (by omega) (hb9 k (by omega)) s.heap) (cwV 1 hw (gV w_ml_D_29 w_im_D_has w_se_D_has w_in_D w_co_D_has) rfl rfl rfl (by decide +kernel) ⟨Nat.le_of_ble_eq_true rfl, Nat.le_of_ble_eq_true rfl⟩) (zR_V hG hS (hP.sub (ws' := [(h0, .inr (0, [.int (nI ty), .ref h1, .ref h2])), (h1, .inl (cI, 16, .inl (aN cnt)))]) [0, 1] rfl) hK 0 rfl rfl) rfl rfl hl.1 rfl (lv_room (Nat.le_of_ble_eq_true rfl)) dD_fieldCount_12 ⟨Nat.le_of_ble_eq_true rfl, Nat.le_of_ble_eq_true rfl⟩) hS (fun r_1 locs h_12 hS => ?_)
        subst h_12
        refine zi_eq0 (tgt := 21) hx hb (hz_lt _) dD_fieldCount_15 (by decide) (fun c_15 => ?_) (fun c_15 => ?_)
        · refine lv_iinc (v := nI (k + 1)) (lv' := [(2, .int (nI (k + 1))), (0, .ref h0), (1, .int (nI n1))]) hx hb dD_fieldCount_21 hl (k := 2) rfl (zi_incr k 1) (by decide) rfl (fun ls hl => ?_)
          refine lv_goto (tgt := 4) hx hb dD_fieldCount_24 (by decide) ?_
          exact ih4 (k + 1) n1 (by omega) (by rw [hn]; show _ = fc cnt k + hz (cnt k); have := hz_le (cnt k); omega) (by omega) _ _ (lv_sub hl [1, 2, 0] rfl) hS
        · refine lv_iinc (v := nI (n1 + 1)) (lv' := [(1, .int (nI (n1 + 1))), (0, .ref h0), (2, .int (nI k))]) hx hb dD_fieldCount_18 hl (k := 1) rfl (zi_incr n1 1) (by decide) rfl (fun ls hl => ?_)
          refine lv_iinc (v := nI (k + 1)) (lv' := [(2, .int (nI (k + 1))), (1, .int (nI (n1 + 1))), (0, .ref h0)]) hx hb dD_fieldCount_21 hl (k := 2) rfl (zi_incr k 1) (by decide) rfl (fun ls hl => ?_)
          refine lv_goto (tgt := 4) hx hb dD_fieldCount_24 (by decide) ?_
          exact ih4 (k + 1) (n1 + 1) (by omega) (by rw [hn]; show _ = fc cnt k + hz (cnt k); have := hz_le (cnt k); omega) (by omega) _ _ (lv_sub hl [2, 1, 0] rfl) hS
  exact lp_4 ((16 - 0) + 1) 0 0 (by omega) rfl (Nat.lt_succ_self _) _ _ (lv_sub hl [2, 1, 0] rfl) hS
def rm_c_D_mark : Room := ({ frames := 0, cells := 0, slots := 0, locals := 0 } : Room)
set_option maxHeartbeats 4000000 in
set_option maxRecDepth 100000 in
theorem c_D_mark (l : Launch) (dC : Nat → ClassId) (dI : Nat → Nat → Nat) (h0 : Nat) (h1 : Nat) (h2 : Nat) (cI : ClassId) (cB : ClassId) (ty : Nat) (mk : Nat → Nat) (sl : Nat) (k : Nat) (hs : sl < 16) (hk : fFM sl + k < 208) (Hc : Heap) : Met l yD_mark wsD_mark rm_c_D_mark (zR (dC, dI) [(cI, .int), (cB, .byte)] [.ref h0, .int (nI sl), .int (nI k)] [(h0, .inr (0, [.int (nI ty), .ref h1, .ref h2])), (h2, .inl (cB, 208, .inl (aN mk)))] Hc) (zRi Hc (fun r => r = nI (mk (fFM sl + k)))) 0 0 zNo := by
  refine Met.ofW (cc := cD_mark) (maxL := 3) (ret := (some .int)) (by decide) rfl ?_
  intro p e s m args below meth c s₁ Bd hml hv
  obtain ⟨rfl, hH, hG, hP, hK⟩ := hv
  subst hH
  have hx := Bd.exec
  have hb := Bd.bytes
  have hr := Bd.returns
  have hts := atoms_spec (ws := wsD_mark) Bd.pre
  have hw : ∀ w ∈ BIG, w.before _ s = true := fun w h => hts w (List.mem_cons_of_mem _ h)
  have hown : s.vm.findClass RD = some m.cls := findClass_of_methodNamed Bd.named
  have hlocks := Bd.notSynchronized
  have hS : va_S zNo s.heap s.heap [] := va_S.rf
  have hl := lv_entry ([.ref h0, .int (nI sl), .int (nI k)]) (n := 3) (Nat.le_of_ble_eq_true rfl)
  rw [lg_entry_eq]
  generalize (lg_sl ([.ref h0, .int (nI sl), .int (nI k)]) ++ List.replicate (3 - (lg_sl ([.ref h0, .int (nI sl), .int (nI k)])).length) Slot.unset).toArray = ls at hl ⊢
  have hl : lv_has ls 3 [(0, .ref h0), (1, .int (nI sl)), (2, .int (nI k))] := hl
  refine zq_name (fun Q hQ => ?_)
  change W p l e rm_c_D_mark s m _ below meth c _ _ _ _ Q _
  obtain ⟨tfFM, zfFM, afFM⟩ := hG.FIRST_MARK
  refine lv_aload_n hx hb dD_mark_0 rfl (lv_at hl 0 rfl) ?_
  refine va_get (D := (dC, dI)) (ci := 0) (v := .ref h2) (C := RD) (T := TD) (N := 3) hx hb hw inD hown hK hP 0 rfl rfl 2 (by decide) (hw _ w_fl_D_19) (fun _ h9 => h9) rfl dD_mark_1 ?_
  refine va_getsN hx hb zfFM hS hown (va_Nw.use rfl (hG.nf (RD, 33, "FIRST_MARK") (List.mem_of_getElem? (i := 3) rfl))) (fun _ h9 => h9) dD_mark_4 ?_
  refine lv_iload_n hx hb dD_mark_7 rfl (lv_at hl 1 rfl) ?_
  refine za_tab hx hb afFM hS (by omega) (by decide) dD_mark_8 ?_
  refine lv_iload_n hx hb dD_mark_9 rfl (lv_at hl 2 rfl) ?_
  refine zi_add hx hb dD_mark_10 ?_
  refine za_bld hx hb hK hP 1 1 rfl rfl (by omega) (by decide) dD_mark_11 ?_
  subst hQ
  exact W.iret (v := nI (mk ((fFM sl) + k))) hx hb hr (fun t ht hW => ⟨⟨nI (mk ((fFM sl) + k)), (), rfl, rfl, ht⟩, hS.F ht⟩) hS.2.2 dD_mark_12
def rm_c_D_setMark : Room := ({ frames := 0, cells := 0, slots := 0, locals := 0 } : Room)
set_option maxHeartbeats 4000000 in
set_option maxRecDepth 100000 in
theorem c_D_setMark (l : Launch) (dC : Nat → ClassId) (dI : Nat → Nat → Nat) (h0 : Nat) (h1 : Nat) (h2 : Nat) (cI : ClassId) (cB : ClassId) (ty : Nat) (mk : Nat → Nat) (sl : Nat) (k : Nat) (v : Nat) (hs : sl < 16) (hk : fFM sl + k < 208) (hv : v < 128) (sz : Nat) : Met l yD_setMark wsD_setMark rm_c_D_setMark (zM (dC, dI) [(cI, .int), (cB, .byte)] [.ref h0, .int (nI sl), .int (nI k), .int (nI v)] [(h0, .inr (0, [.int (nI ty), .ref h1, .ref h2])), (h2, .inl (cB, 208, .inl (aN mk)))] sz) (zMv (dC, dI) [(h0, .inr (0, [.int (nI ty), .ref h1, .ref h2])), (h2, .inl (cB, 208, .inl (aN mk)))] [(h0, .inr (0, [.int (nI ty), .ref h1, .ref h2])), (h2, .inl (cB, 208, .inl (aN (nup mk (fFM sl + k) v))))] sz (True)) 0 0 (va_A [(h0, .inr (0, [.int (nI ty), .ref h1, .ref h2])), (h2, .inl (cB, 208, .inl (aN mk)))] sz) := by
  refine Met.ofW (cc := cD_setMark) (maxL := 4) (ret := none) (by decide) rfl ?_
  intro p e s m args below meth c s₁ Bd hml hv
  obtain ⟨rfl, hsz, hG, hP, hK, hD0⟩ := hv
  subst hsz
  have hx := Bd.exec
  have hb := Bd.bytes
  have hr := Bd.returns
  have hts := atoms_spec (ws := wsD_setMark) Bd.pre
  have hw : ∀ w ∈ BIG, w.before _ s = true := fun w h => hts w (List.mem_cons_of_mem _ h)
  have hown : s.vm.findClass RD = some m.cls := findClass_of_methodNamed Bd.named
  have hlocks := Bd.notSynchronized
  have hD := hD0.self (sz := s.heap.size)
  obtain ⟨A, hAe⟩ : ∃ A, A = va_A [(h0, .inr (0, [.int (nI ty), .ref h1, .ref h2])), (h2, .inl (cB, 208, .inl (aN mk)))] s.heap.size := ⟨_, rfl⟩
  have hA : ∀ q : Nat, s.heap.size ≤ q → A q := fun q h => by rw [hAe]; exact Or.inr h
  rw [← hAe] at hG hD
  have hS : va_S A s.heap s.heap [] := va_S.rf
  have hl := lv_entry ([.ref h0, .int (nI sl), .int (nI k), .int (nI v)]) (n := 4) (Nat.le_of_ble_eq_true rfl)
  rw [lg_entry_eq]
  generalize (lg_sl ([.ref h0, .int (nI sl), .int (nI k), .int (nI v)]) ++ List.replicate (4 - (lg_sl ([.ref h0, .int (nI sl), .int (nI k), .int (nI v)])).length) Slot.unset).toArray = ls at hl ⊢
  have hl : lv_has ls 4 [(0, .ref h0), (1, .int (nI sl)), (2, .int (nI k)), (3, .int (nI v))] := hl
  refine zq_name (fun Q hQ => ?_)
  change W p l e rm_c_D_setMark s m _ below meth c _ _ _ _ Q _
  obtain ⟨tfFM, zfFM, afFM⟩ := hG.FIRST_MARK
  refine lv_aload_n hx hb dD_setMark_0 rfl (lv_at hl 0 rfl) ?_
  refine va_get (D := (dC, dI)) (ci := 0) (v := .ref h2) (C := RD) (T := TD) (N := 3) hx hb hw inD hown hK hP 0 rfl rfl 2 (by decide) (hw _ w_fl_D_19) (fun _ h9 => h9) rfl dD_setMark_1 ?_
  refine va_getsN hx hb zfFM hS hown (va_Nw.use rfl (hG.nf (RD, 33, "FIRST_MARK") (List.mem_of_getElem? (i := 3) rfl))) (fun _ h9 => h9) dD_setMark_4 ?_
  refine lv_iload_n hx hb dD_setMark_7 rfl (lv_at hl 1 rfl) ?_
  refine za_tab hx hb afFM hS (by omega) (by decide) dD_setMark_8 ?_
  refine lv_iload_n hx hb dD_setMark_9 rfl (lv_at hl 2 rfl) ?_
  refine zi_add hx hb dD_setMark_10 ?_
  refine lv_iload_n hx hb dD_setMark_11 rfl (lv_at hl 3 rfl) ?_
  refine zi_bs hx hb (by omega) dD_setMark_12 ?_
  refine za_bst hx hb hK hP hD hS 1 1 rfl rfl (by omega) (by decide) (by omega) dD_setMark_13 (fun H locs hP hD hS => ?_)
  have hP : va_P (dC, dI) vwCl [(h0, .inr (0, [.int (nI ty), .ref h1, .ref h2])), (h2, .inl (cB, 208, .inl (aN (nup mk ((fFM sl) + k) v))))] H := hP
  have hD : va_D A [(h0, .inr (0, [.int (nI ty), .ref h1, .ref h2])), (h2, .inl (cB, 208, .inl (aN (nup mk ((fFM sl) + k) v))))] := hD
  subst hAe
  subst hQ
  exact W.vret hx hb hr (fun t ht hW => ⟨⟨(), rfl, trivial, by rw [ht]; exact hP.sub [0, 1] rfl, hD.sub [0, 1] (by decide) rfl⟩, hS.F ht⟩) hS.2.2 dD_setMark_14
def rm_c_D_setDigits : Room := ({ frames := 1, cells := 0, slots := 0, locals := 23 } : Room)
set_option maxHeartbeats 4000000 in
set_option maxRecDepth 100000 in
theorem c_D_setDigits (l : Launch) (dC : Nat → ClassId) (dI : Nat → Nat → Nat) (h0 : Nat) (h1 : Nat) (h2 : Nat) (cI : ClassId) (cB : ClassId) (ty : Nat) (mk : Nat → Nat) (sl : Nat) (fr : Nat) (ct : Nat) (v : Nat) (hs : sl < 16) (hk : fFM sl + fr + ct ≤ 208) (hv : v < 2 ^ 63) (sz : Nat) : Met l yD_setDigits wsD_setDigits rm_c_D_setDigits (zM (dC, dI) [(cI, .int), (cB, .byte)] [.ref h0, .int (nI sl), .int (nI fr), .int (nI ct), .long (lN v)] [(h0, .inr (0, [.int (nI ty), .ref h1, .ref h2])), (h2, .inl (cB, 208, .inl (aN mk)))] sz) (zMv (dC, dI) [(h0, .inr (0, [.int (nI ty), .ref h1, .ref h2])), (h2, .inl (cB, 208, .inl (aN mk)))] [(h0, .inr (0, [.int (nI ty), .ref h1, .ref h2])), (h2, .inl (cB, 208, .inl (aN (ds mk (fFM sl + fr) ct v))))] sz (True)) 0 0 (va_A [(h0, .inr (0, [.int (nI ty), .ref h1, .ref h2])), (h2, .inl (cB, 208, .inl (aN mk)))] sz) := by
  refine Met.ofW (cc := cD_setDigits) (maxL := 9) (ret := none) (by decide) rfl ?_
  intro p e s m args below meth c s₁ Bd hml hv
  obtain ⟨rfl, hsz, hG, hP, hK, hD0⟩ := hv
  subst hsz
  have hx := Bd.exec
  have hb := Bd.bytes
  have hr := Bd.returns
  have hts := atoms_spec (ws := wsD_setDigits) Bd.pre
  have hw : ∀ w ∈ BIG, w.before _ s = true := fun w h => hts w (List.mem_cons_of_mem _ h)
  have hown : s.vm.findClass RD = some m.cls := findClass_of_methodNamed Bd.named
  have hlocks := Bd.notSynchronized
  have hD := hD0.self (sz := s.heap.size)
  obtain ⟨A, hAe⟩ : ∃ A, A = va_A [(h0, .inr (0, [.int (nI ty), .ref h1, .ref h2])), (h2, .inl (cB, 208, .inl (aN mk)))] s.heap.size := ⟨_, rfl⟩
  have hA : ∀ q : Nat, s.heap.size ≤ q → A q := fun q h => by rw [hAe]; exact Or.inr h
  rw [← hAe] at hG hD
  have hS : va_S A s.heap s.heap [] := va_S.rf
  have hl := lv_entry ([.ref h0, .int (nI sl), .int (nI fr), .int (nI ct), .long (lN v)]) (n := 9) (Nat.le_of_ble_eq_true rfl)
  rw [lg_entry_eq]
  generalize (lg_sl ([.ref h0, .int (nI sl), .int (nI fr), .int (nI ct), .long (lN v)]) ++ List.replicate (9 - (lg_sl ([.ref h0, .int (nI sl), .int (nI fr), .int (nI ct), .long (lN v)])).length) Slot.unset).toArray = ls at hl ⊢
  have hl : lv_has ls 9 [(0, .ref h0), (1, .int (nI sl)), (2, .int (nI fr)), (3, .int (nI ct)), (4, .long (lN v))] := hl
  refine zq_name (fun Q hQ => ?_)
  change W p l e rm_c_D_setDigits s m _ below meth c _ _ _ _ Q _
  refine lv_lload hx hb dD_setDigits_0 (lv_at hl 4 rfl) ?_
  refine lv_lstore (lv' := [(6, .long (lN v)), (0, .ref h0), (1, .int (nI sl)), (2, .int (nI fr)), (3, .int (nI ct)), (4, .long (lN v))]) hx hb dD_setDigits_2 hl (by decide) rfl (fun ls hl => ?_)
  refine lv_iload_n hx hb dD_setDigits_4 rfl (lv_at hl 3 rfl) ?_
  refine lv_iload_n hx hb dD_setDigits_5 rfl (lv_at hl 4 rfl) ?_
  refine zi_add hx hb dD_setDigits_6 ?_
  refine lv_iconst (v := nI 1) hx hb dD_setDigits_7 (by decide) ?_
  refine lv_isub hx hb dD_setDigits_8 ?_
  refine lv_istore (lv' := [(8, .int ((nI (fr + ct)) - (nI 1))), (6, .long (lN v)), (0, .ref h0), (1, .int (nI sl)), (2, .int (nI fr)), (3, .int (nI ct)), (4, .long (lN v))]) hx hb dD_setDigits_9 hl (by decide) rfl (fun ls hl => ?_)
  have lp_11 : ∀ (fu : Nat) (n : Nat) (r : Nat) (f : Nat → Nat) (hn : n ≤ ct) (hr9 : r < 2 ^ 63) (hi : ds f (fFM sl + fr) n r = ds mk (fFM sl + fr) ct v) (hms : n < fu) (H : Heap) (locs : List Loc) (ls : Array Slot), lv_has ls 9 [(0, .ref h0), (1, .int (nI sl)), (2, .int (nI fr)), (3, .int (nI ct)), (6, .long (lN r)), (8, .int (pm (fr + n)))] → va_P (dC, dI) vwCl [(h0, .inr (0, [.int (nI ty), .ref h1, .ref h2])), (h2, .inl (cB, 208, .inl (aN f)))] H → va_D A [(h0, .inr (0, [.int (nI ty), .ref h1, .ref h2])), (h2, .inl (cB, 208, .inl (aN f)))] → va_S A s.heap H locs → W p l e rm_c_D_setDigits s m ([.ref h0, .int (nI sl), .int (nI fr), .int (nI ct), .long (lN v)] : List Value).toArray below meth c H locs 0 0 Q (F0 m 11 ls []) := by
    intro fu
    induction fu with
    | zero => intro n r f hn hr9 hi hms; exact absurd hms (Nat.not_lt_zero _)
    | succ fu ih11 =>
      intro n r f hn hr9 hi hms H locs ls hl hP hD hS
      refine lv_iload hx hb dD_setDigits_11 (lv_at hl 5 rfl) ?_
      refine lv_iload_n hx hb dD_setDigits_13 rfl (lv_at hl 2 rfl) ?_
      refine lv_icmp_lt (tgt := 45) hx hb dD_setDigits_14 (by decide) (fun c_14 => ?_) (fun c_14 => ?_)
      · obtain rfl : n = 0 := (pm_lt (by omega)).mp c_14
        have hi : f = ds mk (fFM sl + fr) ct v := hi
        subst hi
        subst hAe
        subst hQ
        exact W.vret hx hb hr (fun t ht hW => ⟨⟨(), rfl, trivial, by rw [ht]; exact hP.sub [0, 1] rfl, hD.sub [0, 1] (by decide) rfl⟩, hS.F ht⟩) hS.2.2 dD_setDigits_45
      · obtain ⟨n1, rfl⟩ : ∃ n1, n = n1 + 1 := ⟨n - 1, by have := mt (pm_lt (a := fr) (n := n) (by omega)).mpr c_14; omega⟩
        rw [← Nat.add_assoc, pm_s] at hl
        refine lv_aload_n hx hb dD_setDigits_17 rfl (lv_at hl 0 rfl) ?_
        refine lv_iload_n hx hb dD_setDigits_18 rfl (lv_at hl 1 rfl) ?_
        refine lv_iload hx hb dD_setDigits_19 (lv_at hl 5 rfl) ?_
        refine lv_lload hx hb dD_setDigits_21 (lv_at hl 4 rfl) ?_
        refine lv_ldc2 (v := 10) hx hb hown (hw _ w_k_D_53) dD_setDigits_23 ?_
        refine zl_c (a := 10) rfl ?_
        refine zl_rem hx hb (by omega) (by omega) (by omega) dD_setDigits_26 ?_
        refine zl_i hx hb dD_setDigits_27 ?_
        have hPc := hP.sub (ws' := [(h0, .inr (0, [.int (nI ty), .ref h1, .ref h2])), (h2, .inl (cB, 208, .inl (aN f)))]) [0, 1] rfl
        have hDc := hD.sub (ws' := [(h0, .inr (0, [.int (nI ty), .ref h1, .ref h2])), (h2, .inl (cB, 208, .inl (aN f)))]) [0, 1] (by decide) rfl
        have hFc := va_free (wc := [(h0, .inr (0, [.int (nI ty), .ref h1, .ref h2])), (h2, .inl (cB, 208, .inl (aN f)))]) hD hS hA [0, 1] rfl
        refine zc_Mv (va_runV (As := [.int (nI sl), .int (nI (fr + n1)), .int (nI (r % 10))]) (rest := []) ⟨hx, hb, hml, hown, hw⟩ (c_D_setMark l dC dI h0 h1 h2 cI cB ty f sl (fr + n1) (r % 10) (by omega) (by omega) (by omega) H.size) (cwV 3 hw (gV w_ml_D_43 w_im_D_setMark w_se_D_setMark w_in_D w_co_D_setMark) rfl rfl rfl (by decide +kernel) ⟨Nat.le_of_ble_eq_true rfl, Nat.le_of_ble_eq_true rfl⟩) (zM_V hG hS hFc hPc hDc hK 0 rfl rfl) rfl rfl hl.1 rfl (lv_room (Nat.le_of_ble_eq_true rfl)) dD_setDigits_28 ⟨Nat.le_of_ble_eq_true rfl, Nat.le_of_ble_eq_true rfl⟩) hS hFc (fun H locs h_28 hP1 hD1 hk1 hS => ?_)
        obtain ⟨hP, hD⟩ := va_join (wr := []) (w1 := [(h0, .inr (0, [.int (nI ty), .ref h1, .ref h2])), (h2, .inl (cB, 208, .inl (aN (nup f (fFM sl + (fr + n1)) (r % 10)))))]) hP hD [0, 1] [] rfl rfl (by decide) (by decide) hk1 hFc hP1 hD1
        have hP : va_P (dC, dI) vwCl [(h0, .inr (0, [.int (nI ty), .ref h1, .ref h2])), (h2, .inl (cB, 208, .inl (aN (nup f (fFM sl + (fr + n1)) (r % 10)))))] H := hP
        have hD : va_D A [(h0, .inr (0, [.int (nI ty), .ref h1, .ref h2])), (h2, .inl (cB, 208, .inl (aN (nup f (fFM sl + (fr + n1)) (r % 10)))))] := hD
        refine lv_lload hx hb dD_setDigits_31 (lv_at hl 4 rfl) ?_
        refine lv_ldc2 (v := 10) hx hb hown (hw _ w_k_D_53) dD_setDigits_33 ?_
        refine zl_c (a := 10) rfl ?_
        refine zl_div hx hb (by omega) (by omega) (by omega) dD_setDigits_36 ?_
        refine lv_lstore (lv' := [(6, .long (lN (r / 10))), (0, .ref h0), (1, .int (nI sl)), (2, .int (nI fr)), (3, .int (nI ct)), (8, .int (nI (fr + n1)))]) hx hb dD_setDigits_37 hl (by decide) rfl (fun ls hl => ?_)
        refine lv_iinc (v := pm (fr + n1)) (lv' := [(8, .int (pm (fr + n1))), (6, .long (lN (r / 10))), (0, .ref h0), (1, .int (nI sl)), (2, .int (nI fr)), (3, .int (nI ct))]) hx hb dD_setDigits_39 hl (k := 5) rfl (pm_m _) (by decide) rfl (fun ls hl => ?_)
        refine lv_goto (tgt := 11) hx hb dD_setDigits_42 (by decide) ?_
        exact ih11 n1 (r / 10) (nup f (fFM sl + (fr + n1)) (r % 10)) (by omega) (by omega) (by rw [show fFM sl + (fr + n1) = fFM sl + fr + n1 by omega]; exact hi) (by omega) _ _ _ (lv_sub hl [2, 3, 4, 5, 1, 0] rfl) (hP.sub [0, 1] rfl) (hD.sub [0, 1] (by decide) rfl) hS
  exact lp_11 (ct + 1) ct v mk (by omega) (by omega) rfl (Nat.lt_succ_self _) _ _ _ (lv_sub hl [2, 3, 4, 5, 1, 0] rfl) (hP.sub [0, 1] rfl) (hD.sub [0, 1] (by decide) rfl) hS
def rm_c_D_putNumber : Room := ({ frames := 2, cells := 0, slots := 0, locals := 51 } : Room)
set_option maxHeartbeats 4000000 in
set_option maxRecDepth 100000 in
theorem c_D_putNumber (l : Launch) (dC : Nat → ClassId) (dI : Nat → Nat → Nat) (h0 : Nat) (h1 : Nat) (h2 : Nat) (cI : ClassId) (cB : ClassId) (ty : Nat) (cnt : Nat → Nat) (mk : Nat → Nat) (sl : Nat) (ct : Nat) (v : Nat) (hs : sl < 16) (hk : fFM sl + ct ≤ 208) (hv : v < 2 ^ 63) (sz : Nat) : Met l yD_putNumber wsD_putNumber rm_c_D_putNumber (zM (dC, dI) [(cI, .int), (cB, .byte)] [.ref h0, .int (nI sl), .int (nI ct), .long (lN v)] [(h0, .inr (0, [.int (nI ty), .ref h1, .ref h2])), (h1, .inl (cI, 16, .inl (aN cnt))), (h2, .inl (cB, 208, .inl (aN mk)))] sz) (zMv (dC, dI) [(h0, .inr (0, [.int (nI ty), .ref h1, .ref h2])), (h1, .inl (cI, 16, .inl (aN cnt))), (h2, .inl (cB, 208, .inl (aN mk)))] [(h0, .inr (0, [.int (nI ty), .ref h1, .ref h2])), (h1, .inl (cI, 16, .inl (aN (nup cnt sl ct)))), (h2, .inl (cB, 208, .inl (aN (ds mk (fFM sl + 0) ct v))))] sz (True)) 0 0 (va_A [(h0, .inr (0, [.int (nI ty), .ref h1, .ref h2])), (h1, .inl (cI, 16, .inl (aN cnt))), (h2, .inl (cB, 208, .inl (aN mk)))] sz) := by
  refine Met.ofW (cc := cD_putNumber) (maxL := 5) (ret := none) (by decide) rfl ?_
  intro p e s m args below meth c s₁ Bd hml hv
  obtain ⟨rfl, hsz, hG, hP, hK, hD0⟩ := hv
  subst hsz
  have hx := Bd.exec
  have hb := Bd.bytes
  have hr := Bd.returns
  have hts := atoms_spec (ws := wsD_putNumber) Bd.pre
  have hw : ∀ w ∈ BIG, w.before _ s = true := fun w h => hts w (List.mem_cons_of_mem _ h)
  have hown : s.vm.findClass RD = some m.cls := findClass_of_methodNamed Bd.named
  have hlocks := Bd.notSynchronized
  have hD := hD0.self (sz := s.heap.size)
  obtain ⟨A, hAe⟩ : ∃ A, A = va_A [(h0, .inr (0, [.int (nI ty), .ref h1, .ref h2])), (h1, .inl (cI, 16, .inl (aN cnt))), (h2, .inl (cB, 208, .inl (aN mk)))] s.heap.size := ⟨_, rfl⟩
  have hA : ∀ q : Nat, s.heap.size ≤ q → A q := fun q h => by rw [hAe]; exact Or.inr h
  rw [← hAe] at hG hD
  have hS : va_S A s.heap s.heap [] := va_S.rf
  have hl := lv_entry ([.ref h0, .int (nI sl), .int (nI ct), .long (lN v)]) (n := 5) (Nat.le_of_ble_eq_true rfl)
  rw [lg_entry_eq]
  generalize (lg_sl ([.ref h0, .int (nI sl), .int (nI ct), .long (lN v)]) ++ List.replicate (5 - (lg_sl ([.ref h0, .int (nI sl), .int (nI ct), .long (lN v)])).length) Slot.unset).toArray = ls at hl ⊢
  have hl : lv_has ls 5 [(0, .ref h0), (1, .int (nI sl)), (2, .int (nI ct)), (3, .long (lN v))] := hl
  refine zq_name (fun Q hQ => ?_)
  change W p l e rm_c_D_putNumber s m _ below meth c _ _ _ _ Q _
  refine lv_aload_n hx hb dD_putNumber_0 rfl (lv_at hl 0 rfl) ?_
  refine lv_iload_n hx hb dD_putNumber_1 rfl (lv_at hl 1 rfl) ?_
  refine lv_iconst (v := nI 0) hx hb dD_putNumber_2 (by decide) ?_
  refine lv_iload_n hx hb dD_putNumber_3 rfl (lv_at hl 2 rfl) ?_
  refine lv_lload_n hx hb dD_putNumber_4 rfl (lv_at hl 3 rfl) ?_
  have hPc := hP.sub (ws' := [(h0, .inr (0, [.int (nI ty), .ref h1, .ref h2])), (h2, .inl (cB, 208, .inl (aN mk)))]) [0, 2] rfl
  have hDc := hD.sub (ws' := [(h0, .inr (0, [.int (nI ty), .ref h1, .ref h2])), (h2, .inl (cB, 208, .inl (aN mk)))]) [0, 2] (by decide) rfl
  have hFc := va_free (wc := [(h0, .inr (0, [.int (nI ty), .ref h1, .ref h2])), (h2, .inl (cB, 208, .inl (aN mk)))]) hD hS hA [0, 2] rfl
  refine zc_Mv (va_runV (As := [.int (nI sl), .int (nI 0), .int (nI ct), .long (lN v)]) (rest := []) ⟨hx, hb, hml, hown, hw⟩ (c_D_setDigits l dC dI h0 h1 h2 cI cB ty mk sl 0 ct v (by omega) (by omega) (by omega) s.heap.size) (cwV 4 hw (gV w_ml_D_36 w_im_D_setDigits w_se_D_setDigits w_in_D w_co_D_setDigits) rfl rfl rfl (by decide +kernel) ⟨Nat.le_of_ble_eq_true rfl, Nat.le_of_ble_eq_true rfl⟩) (zM_V hG hS hFc hPc hDc hK 0 rfl rfl) rfl rfl hl.1 rfl (lv_room (Nat.le_of_ble_eq_true rfl)) dD_putNumber_5 ⟨Nat.le_of_ble_eq_true rfl, Nat.le_of_ble_eq_true rfl⟩) hS hFc (fun H locs h_5 hP1 hD1 hk1 hS => ?_)
  obtain ⟨hP, hD⟩ := va_join (wr := [(h1, .inl (cI, 16, .inl (aN cnt)))]) (w1 := [(h0, .inr (0, [.int (nI ty), .ref h1, .ref h2])), (h2, .inl (cB, 208, .inl (aN (ds mk (fFM sl + 0) ct v))))]) hP hD [0, 2] [1] rfl rfl (by decide) (by decide) hk1 hFc hP1 hD1
  have hP : va_P (dC, dI) vwCl [(h1, .inl (cI, 16, .inl (aN cnt))), (h0, .inr (0, [.int (nI ty), .ref h1, .ref h2])), (h2, .inl (cB, 208, .inl (aN (ds mk (fFM sl + 0) ct v))))] H := hP
  have hD : va_D A [(h1, .inl (cI, 16, .inl (aN cnt))), (h0, .inr (0, [.int (nI ty), .ref h1, .ref h2])), (h2, .inl (cB, 208, .inl (aN (ds mk (fFM sl + 0) ct v))))] := hD
  refine lv_aload_n hx hb dD_putNumber_8 rfl (lv_at hl 0 rfl) ?_
  refine va_get (D := (dC, dI)) (ci := 0) (v := .ref h1) (C := RD) (T := TD) (N := 3) hx hb hw inD hown hK hP 1 rfl rfl 1 (by decide) (hw _ w_fl_D_15) (fun _ h9 => h9) rfl dD_putNumber_9 ?_
  refine lv_iload_n hx hb dD_putNumber_12 rfl (lv_at hl 1 rfl) ?_
  refine lv_iload_n hx hb dD_putNumber_13 rfl (lv_at hl 2 rfl) ?_
  refine za_ist hx hb hK hP hD hS 0 0 rfl rfl (by omega) (by decide) dD_putNumber_14 (fun H locs hP hD hS => ?_)
  have hP : va_P (dC, dI) vwCl [(h1, .inl (cI, 16, .inl (aN (nup cnt sl ct)))), (h0, .inr (0, [.int (nI ty), .ref h1, .ref h2])), (h2, .inl (cB, 208, .inl (aN (ds mk (fFM sl + 0) ct v))))] H := hP
  have hD : va_D A [(h1, .inl (cI, 16, .inl (aN (nup cnt sl ct)))), (h0, .inr (0, [.int (nI ty), .ref h1, .ref h2])), (h2, .inl (cB, 208, .inl (aN (ds mk (fFM sl + 0) ct v))))] := hD
  subst hAe
  subst hQ
  exact W.vret hx hb hr (fun t ht hW => ⟨⟨(), rfl, trivial, by rw [ht]; exact hP.sub [1, 0, 2] rfl, hD.sub [1, 0, 2] (by decide) rfl⟩, hS.F ht⟩) hS.2.2 dD_putNumber_15
def rm_c_D_putOriginal : Room := ({ frames := 2, cells := 0, slots := 0, locals := 51 } : Room)
set_option maxHeartbeats 4000000 in
set_option maxRecDepth 100000 in
theorem c_D_putOriginal (l : Launch) (dC : Nat → ClassId) (dI : Nat → Nat → Nat) (h0 : Nat) (h1 : Nat) (h2 : Nat) (cI : ClassId) (cB : ClassId) (ty : Nat) (cnt : Nat → Nat) (mk : Nat → Nat) (a1 : Nat) (a2 : Nat) (a3 : Nat) (ha1 : a1 < 2 ^ 31) (ha2 : a2 < 2 ^ 31) (ha3 : a3 < 2 ^ 31) (sz : Nat) : Met l yD_putOriginal wsD_putOriginal rm_c_D_putOriginal (zM (dC, dI) [(cI, .int), (cB, .byte)] [.ref h0, .int (nI a1), .int (nI a2), .int (nI a3)] [(h0, .inr (0, [.int (nI ty), .ref h1, .ref h2])), (h1, .inl (cI, 16, .inl (aN cnt))), (h2, .inl (cB, 208, .inl (aN mk)))] sz) (zMv (dC, dI) [(h0, .inr (0, [.int (nI ty), .ref h1, .ref h2])), (h1, .inl (cI, 16, .inl (aN cnt))), (h2, .inl (cB, 208, .inl (aN mk)))] [(h0, .inr (0, [.int (nI ty), .ref h1, .ref h2])), (h1, .inl (cI, 16, .inl (aN (nup cnt 14 (fMM 14))))), (h2, .inl (cB, 208, .inl (aN (ds (ds (ds (ds (ds mk (fFM 14 + 0) 4 a1) (fFM 14 + 4) 6 a2) (fFM 14 + 10) 10 0) (fFM 14 + 20) 11 a3) (fFM 14 + 31) 11 0))))] sz (True)) 0 0 (va_A [(h0, .inr (0, [.int (nI ty), .ref h1, .ref h2])), (h1, .inl (cI, 16, .inl (aN cnt))), (h2, .inl (cB, 208, .inl (aN mk)))] sz) := by
  refine Met.ofW (cc := cD_putOriginal) (maxL := 4) (ret := none) (by decide) rfl ?_
  intro p e s m args below meth c s₁ Bd hml hv
  obtain ⟨rfl, hsz, hG, hP, hK, hD0⟩ := hv
  subst hsz
  have hx := Bd.exec
  have hb := Bd.bytes
  have hr := Bd.returns
  have hts := atoms_spec (ws := wsD_putOriginal) Bd.pre
  have hw : ∀ w ∈ BIG, w.before _ s = true := fun w h => hts w (List.mem_cons_of_mem _ h)
  have hown : s.vm.findClass RD = some m.cls := findClass_of_methodNamed Bd.named
  have hlocks := Bd.notSynchronized
  have hD := hD0.self (sz := s.heap.size)
  obtain ⟨A, hAe⟩ : ∃ A, A = va_A [(h0, .inr (0, [.int (nI ty), .ref h1, .ref h2])), (h1, .inl (cI, 16, .inl (aN cnt))), (h2, .inl (cB, 208, .inl (aN mk)))] s.heap.size := ⟨_, rfl⟩
  have hA : ∀ q : Nat, s.heap.size ≤ q → A q := fun q h => by rw [hAe]; exact Or.inr h
  rw [← hAe] at hG hD
  have hS : va_S A s.heap s.heap [] := va_S.rf
  have hl := lv_entry ([.ref h0, .int (nI a1), .int (nI a2), .int (nI a3)]) (n := 4) (Nat.le_of_ble_eq_true rfl)
  rw [lg_entry_eq]
  generalize (lg_sl ([.ref h0, .int (nI a1), .int (nI a2), .int (nI a3)]) ++ List.replicate (4 - (lg_sl ([.ref h0, .int (nI a1), .int (nI a2), .int (nI a3)])).length) Slot.unset).toArray = ls at hl ⊢
  have hl : lv_has ls 4 [(0, .ref h0), (1, .int (nI a1)), (2, .int (nI a2)), (3, .int (nI a3))] := hl
  refine zq_name (fun Q hQ => ?_)
  change W p l e rm_c_D_putOriginal s m _ below meth c _ _ _ _ Q _
  obtain ⟨tfMM, zfMM, afMM⟩ := hG.MOST_MARKS
  have h14 : fFM 14 = 154 := rfl
  refine lv_aload_n hx hb dD_putOriginal_0 rfl (lv_at hl 0 rfl) ?_
  refine lv_bipush (v := nI 14) hx hb dD_putOriginal_1 (by decide) ?_
  refine lv_iconst (v := nI 0) hx hb dD_putOriginal_3 (by decide) ?_
  refine lv_iconst (v := nI 4) hx hb dD_putOriginal_4 (by decide) ?_
  refine lv_iload_n hx hb dD_putOriginal_5 rfl (lv_at hl 1 rfl) ?_
  refine zi_l hx hb (by omega) dD_putOriginal_6 ?_
  have hPc := hP.sub (ws' := [(h0, .inr (0, [.int (nI ty), .ref h1, .ref h2])), (h2, .inl (cB, 208, .inl (aN mk)))]) [0, 2] rfl
  have hDc := hD.sub (ws' := [(h0, .inr (0, [.int (nI ty), .ref h1, .ref h2])), (h2, .inl (cB, 208, .inl (aN mk)))]) [0, 2] (by decide) rfl
  have hFc := va_free (wc := [(h0, .inr (0, [.int (nI ty), .ref h1, .ref h2])), (h2, .inl (cB, 208, .inl (aN mk)))]) hD hS hA [0, 2] rfl
  refine zc_Mv (va_runV (As := [.int (nI 14), .int (nI 0), .int (nI 4), .long (lN a1)]) (rest := []) ⟨hx, hb, hml, hown, hw⟩ (c_D_setDigits l dC dI h0 h1 h2 cI cB ty mk 14 0 4 a1 (by omega) (by omega) (by omega) s.heap.size) (cwV 4 hw (gV w_ml_D_36 w_im_D_setDigits w_se_D_setDigits w_in_D w_co_D_setDigits) rfl rfl rfl (by decide +kernel) ⟨Nat.le_of_ble_eq_true rfl, Nat.le_of_ble_eq_true rfl⟩) (zM_V hG hS hFc hPc hDc hK 0 rfl rfl) rfl rfl hl.1 rfl (lv_room (Nat.le_of_ble_eq_true rfl)) dD_putOriginal_7 ⟨Nat.le_of_ble_eq_true rfl, Nat.le_of_ble_eq_true rfl⟩) hS hFc (fun H locs h_7 hP1 hD1 hk1 hS => ?_)
  obtain ⟨hP, hD⟩ := va_join (wr := [(h1, .inl (cI, 16, .inl (aN cnt)))]) (w1 := [(h0, .inr (0, [.int (nI ty), .ref h1, .ref h2])), (h2, .inl (cB, 208, .inl (aN (ds mk (fFM 14 + 0) 4 a1))))]) hP hD [0, 2] [1] rfl rfl (by decide) (by decide) hk1 hFc hP1 hD1
  have hP : va_P (dC, dI) vwCl [(h1, .inl (cI, 16, .inl (aN cnt))), (h0, .inr (0, [.int (nI ty), .ref h1, .ref h2])), (h2, .inl (cB, 208, .inl (aN (ds mk (fFM 14 + 0) 4 a1))))] H := hP
  have hD : va_D A [(h1, .inl (cI, 16, .inl (aN cnt))), (h0, .inr (0, [.int (nI ty), .ref h1, .ref h2])), (h2, .inl (cB, 208, .inl (aN (ds mk (fFM 14 + 0) 4 a1))))] := hD
  refine lv_aload_n hx hb dD_putOriginal_10 rfl (lv_at hl 0 rfl) ?_
  refine lv_bipush (v := nI 14) hx hb dD_putOriginal_11 (by decide) ?_
  refine lv_iconst (v := nI 4) hx hb dD_putOriginal_13 (by decide) ?_
  refine lv_bipush (v := nI 6) hx hb dD_putOriginal_14 (by decide) ?_
  refine lv_iload_n hx hb dD_putOriginal_16 rfl (lv_at hl 2 rfl) ?_
  refine zi_l hx hb (by omega) dD_putOriginal_17 ?_
  have hPc := hP.sub (ws' := [(h0, .inr (0, [.int (nI ty), .ref h1, .ref h2])), (h2, .inl (cB, 208, .inl (aN (ds mk (fFM 14 + 0) 4 a1))))]) [1, 2] rfl
  have hDc := hD.sub (ws' := [(h0, .inr (0, [.int (nI ty), .ref h1, .ref h2])), (h2, .inl (cB, 208, .inl (aN (ds mk (fFM 14 + 0) 4 a1))))]) [1, 2] (by decide) rfl
  have hFc := va_free (wc := [(h0, .inr (0, [.int (nI ty), .ref h1, .ref h2])), (h2, .inl (cB, 208, .inl (aN (ds mk (fFM 14 + 0) 4 a1))))]) hD hS hA [1, 2] rfl
  refine zc_Mv (va_runV (As := [.int (nI 14), .int (nI 4), .int (nI 6), .long (lN a2)]) (rest := []) ⟨hx, hb, hml, hown, hw⟩ (c_D_setDigits l dC dI h0 h1 h2 cI cB ty (ds mk (fFM 14 + 0) 4 a1) 14 4 6 a2 (by omega) (by omega) (by omega) H.size) (cwV 4 hw (gV w_ml_D_36 w_im_D_setDigits w_se_D_setDigits w_in_D w_co_D_setDigits) rfl rfl rfl (by decide +kernel) ⟨Nat.le_of_ble_eq_true rfl, Nat.le_of_ble_eq_true rfl⟩) (zM_V hG hS hFc hPc hDc hK 0 rfl rfl) rfl rfl hl.1 rfl (lv_room (Nat.le_of_ble_eq_true rfl)) dD_putOriginal_18 ⟨Nat.le_of_ble_eq_true rfl, Nat.le_of_ble_eq_true rfl⟩) hS hFc (fun H locs h_18 hP1 hD1 hk1 hS => ?_)
  obtain ⟨hP, hD⟩ := va_join (wr := [(h1, .inl (cI, 16, .inl (aN cnt)))]) (w1 := [(h0, .inr (0, [.int (nI ty), .ref h1, .ref h2])), (h2, .inl (cB, 208, .inl (aN (ds (ds mk (fFM 14 + 0) 4 a1) (fFM 14 + 4) 6 a2))))]) hP hD [1, 2] [0] rfl rfl (by decide) (by decide) hk1 hFc hP1 hD1
  have hP : va_P (dC, dI) vwCl [(h1, .inl (cI, 16, .inl (aN cnt))), (h0, .inr (0, [.int (nI ty), .ref h1, .ref h2])), (h2, .inl (cB, 208, .inl (aN (ds (ds mk (fFM 14 + 0) 4 a1) (fFM 14 + 4) 6 a2))))] H := hP
  have hD : va_D A [(h1, .inl (cI, 16, .inl (aN cnt))), (h0, .inr (0, [.int (nI ty), .ref h1, .ref h2])), (h2, .inl (cB, 208, .inl (aN (ds (ds mk (fFM 14 + 0) 4 a1) (fFM 14 + 4) 6 a2))))] := hD
  refine lv_aload_n hx hb dD_putOriginal_21 rfl (lv_at hl 0 rfl) ?_
  refine lv_bipush (v := nI 14) hx hb dD_putOriginal_22 (by decide) ?_
  refine lv_bipush (v := nI 10) hx hb dD_putOriginal_24 (by decide) ?_
  refine lv_bipush (v := nI 10) hx hb dD_putOriginal_26 (by decide) ?_
  refine lv_lconst (v := lN 0) hx hb dD_putOriginal_28 (by decide) ?_
  have hPc := hP.sub (ws' := [(h0, .inr (0, [.int (nI ty), .ref h1, .ref h2])), (h2, .inl (cB, 208, .inl (aN (ds (ds mk (fFM 14 + 0) 4 a1) (fFM 14 + 4) 6 a2))))]) [1, 2] rfl
  have hDc := hD.sub (ws' := [(h0, .inr (0, [.int (nI ty), .ref h1, .ref h2])), (h2, .inl (cB, 208, .inl (aN (ds (ds mk (fFM 14 + 0) 4 a1) (fFM 14 + 4) 6 a2))))]) [1, 2] (by decide) rfl
  have hFc := va_free (wc := [(h0, .inr (0, [.int (nI ty), .ref h1, .ref h2])), (h2, .inl (cB, 208, .inl (aN (ds (ds mk (fFM 14 + 0) 4 a1) (fFM 14 + 4) 6 a2))))]) hD hS hA [1, 2] rfl
  refine zc_Mv (va_runV (As := [.int (nI 14), .int (nI 10), .int (nI 10), .long (lN 0)]) (rest := []) ⟨hx, hb, hml, hown, hw⟩ (c_D_setDigits l dC dI h0 h1 h2 cI cB ty (ds (ds mk (fFM 14 + 0) 4 a1) (fFM 14 + 4) 6 a2) 14 10 10 0 (by omega) (by omega) (by omega) H.size) (cwV 4 hw (gV w_ml_D_36 w_im_D_setDigits w_se_D_setDigits w_in_D w_co_D_setDigits) rfl rfl rfl (by decide +kernel) ⟨Nat.le_of_ble_eq_true rfl, Nat.le_of_ble_eq_true rfl⟩) (zM_V hG hS hFc hPc hDc hK 0 rfl rfl) rfl rfl hl.1 rfl (lv_room (Nat.le_of_ble_eq_true rfl)) dD_putOriginal_29 ⟨Nat.le_of_ble_eq_true rfl, Nat.le_of_ble_eq_true rfl⟩) hS hFc (fun H locs h_29 hP1 hD1 hk1 hS => ?_)
  obtain ⟨hP, hD⟩ := va_join (wr := [(h1, .inl (cI, 16, .inl (aN cnt)))]) (w1 := [(h0, .inr (0, [.int (nI ty), .ref h1, .ref h2])), (h2, .inl (cB, 208, .inl (aN (ds (ds (ds mk (fFM 14 + 0) 4 a1) (fFM 14 + 4) 6 a2) (fFM 14 + 10) 10 0))))]) hP hD [1, 2] [0] rfl rfl (by decide) (by decide) hk1 hFc hP1 hD1
  have hP : va_P (dC, dI) vwCl [(h1, .inl (cI, 16, .inl (aN cnt))), (h0, .inr (0, [.int (nI ty), .ref h1, .ref h2])), (h2, .inl (cB, 208, .inl (aN (ds (ds (ds mk (fFM 14 + 0) 4 a1) (fFM 14 + 4) 6 a2) (fFM 14 + 10) 10 0))))] H := hP
  have hD : va_D A [(h1, .inl (cI, 16, .inl (aN cnt))), (h0, .inr (0, [.int (nI ty), .ref h1, .ref h2])), (h2, .inl (cB, 208, .inl (aN (ds (ds (ds mk (fFM 14 + 0) 4 a1) (fFM 14 + 4) 6 a2) (fFM 14 + 10) 10 0))))] := hD
  refine lv_aload_n hx hb dD_putOriginal_32 rfl (lv_at hl 0 rfl) ?_
  refine lv_bipush (v := nI 14) hx hb dD_putOriginal_33 (by decide) ?_
  refine lv_bipush (v := nI 20) hx hb dD_putOriginal_35 (by decide) ?_
  refine lv_bipush (v := nI 11) hx hb dD_putOriginal_37 (by decide) ?_
  refine lv_iload_n hx hb dD_putOriginal_39 rfl (lv_at hl 3 rfl) ?_
  refine zi_l hx hb (by omega) dD_putOriginal_40 ?_
  have hPc := hP.sub (ws' := [(h0, .inr (0, [.int (nI ty), .ref h1, .ref h2])), (h2, .inl (cB, 208, .inl (aN (ds (ds (ds mk (fFM 14 + 0) 4 a1) (fFM 14 + 4) 6 a2) (fFM 14 + 10) 10 0))))]) [1, 2] rfl
  have hDc := hD.sub (ws' := [(h0, .inr (0, [.int (nI ty), .ref h1, .ref h2])), (h2, .inl (cB, 208, .inl (aN (ds (ds (ds mk (fFM 14 + 0) 4 a1) (fFM 14 + 4) 6 a2) (fFM 14 + 10) 10 0))))]) [1, 2] (by decide) rfl
  have hFc := va_free (wc := [(h0, .inr (0, [.int (nI ty), .ref h1, .ref h2])), (h2, .inl (cB, 208, .inl (aN (ds (ds (ds mk (fFM 14 + 0) 4 a1) (fFM 14 + 4) 6 a2) (fFM 14 + 10) 10 0))))]) hD hS hA [1, 2] rfl
  refine zc_Mv (va_runV (As := [.int (nI 14), .int (nI 20), .int (nI 11), .long (lN a3)]) (rest := []) ⟨hx, hb, hml, hown, hw⟩ (c_D_setDigits l dC dI h0 h1 h2 cI cB ty (ds (ds (ds mk (fFM 14 + 0) 4 a1) (fFM 14 + 4) 6 a2) (fFM 14 + 10) 10 0) 14 20 11 a3 (by omega) (by omega) (by omega) H.size) (cwV 4 hw (gV w_ml_D_36 w_im_D_setDigits w_se_D_setDigits w_in_D w_co_D_setDigits) rfl rfl rfl (by decide +kernel) ⟨Nat.le_of_ble_eq_true rfl, Nat.le_of_ble_eq_true rfl⟩) (zM_V hG hS hFc hPc hDc hK 0 rfl rfl) rfl rfl hl.1 rfl (lv_room (Nat.le_of_ble_eq_true rfl)) dD_putOriginal_41 ⟨Nat.le_of_ble_eq_true rfl, Nat.le_of_ble_eq_true rfl⟩) hS hFc (fun H locs h_41 hP1 hD1 hk1 hS => ?_)
  obtain ⟨hP, hD⟩ := va_join (wr := [(h1, .inl (cI, 16, .inl (aN cnt)))]) (w1 := [(h0, .inr (0, [.int (nI ty), .ref h1, .ref h2])), (h2, .inl (cB, 208, .inl (aN (ds (ds (ds (ds mk (fFM 14 + 0) 4 a1) (fFM 14 + 4) 6 a2) (fFM 14 + 10) 10 0) (fFM 14 + 20) 11 a3))))]) hP hD [1, 2] [0] rfl rfl (by decide) (by decide) hk1 hFc hP1 hD1
  have hP : va_P (dC, dI) vwCl [(h1, .inl (cI, 16, .inl (aN cnt))), (h0, .inr (0, [.int (nI ty), .ref h1, .ref h2])), (h2, .inl (cB, 208, .inl (aN (ds (ds (ds (ds mk (fFM 14 + 0) 4 a1) (fFM 14 + 4) 6 a2) (fFM 14 + 10) 10 0) (fFM 14 + 20) 11 a3))))] H := hP
  have hD : va_D A [(h1, .inl (cI, 16, .inl (aN cnt))), (h0, .inr (0, [.int (nI ty), .ref h1, .ref h2])), (h2, .inl (cB, 208, .inl (aN (ds (ds (ds (ds mk (fFM 14 + 0) 4 a1) (fFM 14 + 4) 6 a2) (fFM 14 + 10) 10 0) (fFM 14 + 20) 11 a3))))] := hD
  refine lv_aload_n hx hb dD_putOriginal_44 rfl (lv_at hl 0 rfl) ?_
  refine lv_bipush (v := nI 14) hx hb dD_putOriginal_45 (by decide) ?_
  refine lv_bipush (v := nI 31) hx hb dD_putOriginal_47 (by decide) ?_
  refine lv_bipush (v := nI 11) hx hb dD_putOriginal_49 (by decide) ?_
  refine lv_lconst (v := lN 0) hx hb dD_putOriginal_51 (by decide) ?_
  have hPc := hP.sub (ws' := [(h0, .inr (0, [.int (nI ty), .ref h1, .ref h2])), (h2, .inl (cB, 208, .inl (aN (ds (ds (ds (ds mk (fFM 14 + 0) 4 a1) (fFM 14 + 4) 6 a2) (fFM 14 + 10) 10 0) (fFM 14 + 20) 11 a3))))]) [1, 2] rfl
  have hDc := hD.sub (ws' := [(h0, .inr (0, [.int (nI ty), .ref h1, .ref h2])), (h2, .inl (cB, 208, .inl (aN (ds (ds (ds (ds mk (fFM 14 + 0) 4 a1) (fFM 14 + 4) 6 a2) (fFM 14 + 10) 10 0) (fFM 14 + 20) 11 a3))))]) [1, 2] (by decide) rfl
  have hFc := va_free (wc := [(h0, .inr (0, [.int (nI ty), .ref h1, .ref h2])), (h2, .inl (cB, 208, .inl (aN (ds (ds (ds (ds mk (fFM 14 + 0) 4 a1) (fFM 14 + 4) 6 a2) (fFM 14 + 10) 10 0) (fFM 14 + 20) 11 a3))))]) hD hS hA [1, 2] rfl
  refine zc_Mv (va_runV (As := [.int (nI 14), .int (nI 31), .int (nI 11), .long (lN 0)]) (rest := []) ⟨hx, hb, hml, hown, hw⟩ (c_D_setDigits l dC dI h0 h1 h2 cI cB ty (ds (ds (ds (ds mk (fFM 14 + 0) 4 a1) (fFM 14 + 4) 6 a2) (fFM 14 + 10) 10 0) (fFM 14 + 20) 11 a3) 14 31 11 0 (by omega) (by omega) (by omega) H.size) (cwV 4 hw (gV w_ml_D_36 w_im_D_setDigits w_se_D_setDigits w_in_D w_co_D_setDigits) rfl rfl rfl (by decide +kernel) ⟨Nat.le_of_ble_eq_true rfl, Nat.le_of_ble_eq_true rfl⟩) (zM_V hG hS hFc hPc hDc hK 0 rfl rfl) rfl rfl hl.1 rfl (lv_room (Nat.le_of_ble_eq_true rfl)) dD_putOriginal_52 ⟨Nat.le_of_ble_eq_true rfl, Nat.le_of_ble_eq_true rfl⟩) hS hFc (fun H locs h_52 hP1 hD1 hk1 hS => ?_)
  obtain ⟨hP, hD⟩ := va_join (wr := [(h1, .inl (cI, 16, .inl (aN cnt)))]) (w1 := [(h0, .inr (0, [.int (nI ty), .ref h1, .ref h2])), (h2, .inl (cB, 208, .inl (aN (ds (ds (ds (ds (ds mk (fFM 14 + 0) 4 a1) (fFM 14 + 4) 6 a2) (fFM 14 + 10) 10 0) (fFM 14 + 20) 11 a3) (fFM 14 + 31) 11 0))))]) hP hD [1, 2] [0] rfl rfl (by decide) (by decide) hk1 hFc hP1 hD1
  have hP : va_P (dC, dI) vwCl [(h1, .inl (cI, 16, .inl (aN cnt))), (h0, .inr (0, [.int (nI ty), .ref h1, .ref h2])), (h2, .inl (cB, 208, .inl (aN (ds (ds (ds (ds (ds mk (fFM 14 + 0) 4 a1) (fFM 14 + 4) 6 a2) (fFM 14 + 10) 10 0) (fFM 14 + 20) 11 a3) (fFM 14 + 31) 11 0))))] H := hP
  have hD : va_D A [(h1, .inl (cI, 16, .inl (aN cnt))), (h0, .inr (0, [.int (nI ty), .ref h1, .ref h2])), (h2, .inl (cB, 208, .inl (aN (ds (ds (ds (ds (ds mk (fFM 14 + 0) 4 a1) (fFM 14 + 4) 6 a2) (fFM 14 + 10) 10 0) (fFM 14 + 20) 11 a3) (fFM 14 + 31) 11 0))))] := hD
  refine lv_aload_n hx hb dD_putOriginal_55 rfl (lv_at hl 0 rfl) ?_
  refine va_get (D := (dC, dI)) (ci := 0) (v := .ref h1) (C := RD) (T := TD) (N := 3) hx hb hw inD hown hK hP 1 rfl rfl 1 (by decide) (hw _ w_fl_D_15) (fun _ h9 => h9) rfl dD_putOriginal_56 ?_
  refine lv_bipush (v := nI 14) hx hb dD_putOriginal_59 (by decide) ?_
  refine va_getsN hx hb zfMM hS hown (va_Nw.use rfl (hG.nf (RD, 40, "MOST_MARKS") (List.mem_of_getElem? (i := 4) rfl))) (fun _ h9 => h9) dD_putOriginal_61 ?_
  refine lv_bipush (v := nI 14) hx hb dD_putOriginal_64 (by decide) ?_
  refine za_tab hx hb afMM hS (by omega) (by decide) dD_putOriginal_66 ?_
  refine za_ist hx hb hK hP hD hS 0 0 rfl rfl (by omega) (by decide) dD_putOriginal_67 (fun H locs hP hD hS => ?_)
  have hP : va_P (dC, dI) vwCl [(h1, .inl (cI, 16, .inl (aN (nup cnt 14 (fMM 14))))), (h0, .inr (0, [.int (nI ty), .ref h1, .ref h2])), (h2, .inl (cB, 208, .inl (aN (ds (ds (ds (ds (ds mk (fFM 14 + 0) 4 a1) (fFM 14 + 4) 6 a2) (fFM 14 + 10) 10 0) (fFM 14 + 20) 11 a3) (fFM 14 + 31) 11 0))))] H := hP
  have hD : va_D A [(h1, .inl (cI, 16, .inl (aN (nup cnt 14 (fMM 14))))), (h0, .inr (0, [.int (nI ty), .ref h1, .ref h2])), (h2, .inl (cB, 208, .inl (aN (ds (ds (ds (ds (ds mk (fFM 14 + 0) 4 a1) (fFM 14 + 4) 6 a2) (fFM 14 + 10) 10 0) (fFM 14 + 20) 11 a3) (fFM 14 + 31) 11 0))))] := hD
  subst hAe
  subst hQ
  exact W.vret hx hb hr (fun t ht hW => ⟨⟨(), rfl, trivial, by rw [ht]; exact hP.sub [1, 0, 2] rfl, hD.sub [1, 0, 2] (by decide) rfl⟩, hS.F ht⟩) hS.2.2 dD_putOriginal_68
def rm_c_D_putLetters : Room := ({ frames := 1, cells := 0, slots := 0, locals := 23 } : Room)
set_option maxHeartbeats 4000000 in
set_option maxRecDepth 100000 in
theorem c_D_putLetters (l : Launch) (dC : Nat → ClassId) (dI : Nat → Nat → Nat) (h0 : Nat) (h1 : Nat) (h2 : Nat) (cI : ClassId) (cB : ClassId) (ty : Nat) (cnt : Nat → Nat) (mk : Nat → Nat) (sl : Nat) (ct : Nat) (v : Int64) (hs : sl < 16) (hk : fFM sl + ct ≤ 208) (sz : Nat) : Met l yD_putLetters wsD_putLetters rm_c_D_putLetters (zM (dC, dI) [(cI, .int), (cB, .byte)] [.ref h0, .int (nI sl), .int (nI ct), .long v] [(h0, .inr (0, [.int (nI ty), .ref h1, .ref h2])), (h1, .inl (cI, 16, .inl (aN cnt))), (h2, .inl (cB, 208, .inl (aN mk)))] sz) (zMv (dC, dI) [(h0, .inr (0, [.int (nI ty), .ref h1, .ref h2])), (h1, .inl (cI, 16, .inl (aN cnt))), (h2, .inl (cB, 208, .inl (aN mk)))] [(h0, .inr (0, [.int (nI ty), .ref h1, .ref h2])), (h1, .inl (cI, 16, .inl (aN (nup cnt sl ct)))), (h2, .inl (cB, 208, .inl (aN (lset v (fFM sl) ct 0 mk))))] sz (True)) 0 0 (va_A [(h0, .inr (0, [.int (nI ty), .ref h1, .ref h2])), (h1, .inl (cI, 16, .inl (aN cnt))), (h2, .inl (cB, 208, .inl (aN mk)))] sz) := by
  refine Met.ofW (cc := cD_putLetters) (maxL := 7) (ret := none) (by decide) rfl ?_
  intro p e s m args below meth c s₁ Bd hml hv
  obtain ⟨rfl, hsz, hG, hP, hK, hD0⟩ := hv
  subst hsz
  have hx := Bd.exec
  have hb := Bd.bytes
  have hr := Bd.returns
  have hts := atoms_spec (ws := wsD_putLetters) Bd.pre
  have hw : ∀ w ∈ BIG, w.before _ s = true := fun w h => hts w (List.mem_cons_of_mem _ h)
  have hown : s.vm.findClass RD = some m.cls := findClass_of_methodNamed Bd.named
  have hlocks := Bd.notSynchronized
  have hD := hD0.self (sz := s.heap.size)
  obtain ⟨A, hAe⟩ : ∃ A, A = va_A [(h0, .inr (0, [.int (nI ty), .ref h1, .ref h2])), (h1, .inl (cI, 16, .inl (aN cnt))), (h2, .inl (cB, 208, .inl (aN mk)))] s.heap.size := ⟨_, rfl⟩
  have hA : ∀ q : Nat, s.heap.size ≤ q → A q := fun q h => by rw [hAe]; exact Or.inr h
  rw [← hAe] at hG hD
  have hS : va_S A s.heap s.heap [] := va_S.rf
  have hl := lv_entry ([.ref h0, .int (nI sl), .int (nI ct), .long v]) (n := 7) (Nat.le_of_ble_eq_true rfl)
  rw [lg_entry_eq]
  generalize (lg_sl ([.ref h0, .int (nI sl), .int (nI ct), .long v]) ++ List.replicate (7 - (lg_sl ([.ref h0, .int (nI sl), .int (nI ct), .long v])).length) Slot.unset).toArray = ls at hl ⊢
  have hl : lv_has ls 7 [(0, .ref h0), (1, .int (nI sl)), (2, .int (nI ct)), (3, .long v)] := hl
  refine zq_name (fun Q hQ => ?_)
  change W p l e rm_c_D_putLetters s m _ below meth c _ _ _ _ Q _
  refine lv_iconst (v := nI 0) hx hb dD_putLetters_0 (by decide) ?_
  refine lv_istore (lv' := [(5, .int (nI 0)), (0, .ref h0), (1, .int (nI sl)), (2, .int (nI ct)), (3, .long v)]) hx hb dD_putLetters_1 hl (by decide) rfl (fun ls hl => ?_)
  have lp_3 : ∀ (fu : Nat) (k : Nat) (f : Nat → Nat) (hkc : k ≤ ct) (hi : lset v (fFM sl) (ct - k) k f = lset v (fFM sl) ct 0 mk) (hms : ct - k < fu) (H : Heap) (locs : List Loc) (ls : Array Slot), lv_has ls 7 [(0, .ref h0), (1, .int (nI sl)), (2, .int (nI ct)), (3, .long v), (5, .int (nI k))] → va_P (dC, dI) vwCl [(h0, .inr (0, [.int (nI ty), .ref h1, .ref h2])), (h1, .inl (cI, 16, .inl (aN cnt))), (h2, .inl (cB, 208, .inl (aN f)))] H → va_D A [(h0, .inr (0, [.int (nI ty), .ref h1, .ref h2])), (h1, .inl (cI, 16, .inl (aN cnt))), (h2, .inl (cB, 208, .inl (aN f)))] → va_S A s.heap H locs → W p l e rm_c_D_putLetters s m ([.ref h0, .int (nI sl), .int (nI ct), .long v] : List Value).toArray below meth c H locs 0 0 Q (F0 m 3 ls []) := by
    intro fu
    induction fu with
    | zero => intro k f hkc hi hms; exact absurd hms (Nat.not_lt_zero _)
    | succ fu ih3 =>
      intro k f hkc hi hms H locs ls hl hP hD hS
      refine lv_iload hx hb dD_putLetters_3 (lv_at hl 4 rfl) ?_
      refine lv_iload_n hx hb dD_putLetters_5 rfl (lv_at hl 2 rfl) ?_
      refine zi_ge (tgt := 60) hx hb (by omega) (by omega) dD_putLetters_6 (by decide) (fun c_6 => ?_) (fun c_6 => ?_)
      · rw [show ct - k = 0 by omega] at hi
        have hi : f = lset v (fFM sl) ct 0 mk := hi
        subst hi
        refine lv_aload_n hx hb dD_putLetters_60 rfl (lv_at hl 0 rfl) ?_
        refine va_get (D := (dC, dI)) (ci := 0) (v := .ref h1) (C := RD) (T := TD) (N := 3) hx hb hw inD hown hK hP 0 rfl rfl 1 (by decide) (hw _ w_fl_D_15) (fun _ h9 => h9) rfl dD_putLetters_61 ?_
        refine lv_iload_n hx hb dD_putLetters_64 rfl (lv_at hl 1 rfl) ?_
        refine lv_iload_n hx hb dD_putLetters_65 rfl (lv_at hl 2 rfl) ?_
        refine za_ist hx hb hK hP hD hS 1 0 rfl rfl (by omega) (by decide) dD_putLetters_66 (fun H locs hP hD hS => ?_)
        have hP : va_P (dC, dI) vwCl [(h0, .inr (0, [.int (nI ty), .ref h1, .ref h2])), (h1, .inl (cI, 16, .inl (aN (nup cnt sl ct)))), (h2, .inl (cB, 208, .inl (aN (lset v (fFM sl) ct 0 mk))))] H := hP
        have hD : va_D A [(h0, .inr (0, [.int (nI ty), .ref h1, .ref h2])), (h1, .inl (cI, 16, .inl (aN (nup cnt sl ct)))), (h2, .inl (cB, 208, .inl (aN (lset v (fFM sl) ct 0 mk))))] := hD
        subst hAe
        subst hQ
        exact W.vret hx hb hr (fun t ht hW => ⟨⟨(), rfl, trivial, by rw [ht]; exact hP.sub [0, 1, 2] rfl, hD.sub [0, 1, 2] (by decide) rfl⟩, hS.F ht⟩) hS.2.2 dD_putLetters_67
      · refine lv_lload_n hx hb dD_putLetters_9 rfl (lv_at hl 3 rfl) ?_
        refine lv_iconst (v := nI 5) hx hb dD_putLetters_10 (by decide) ?_
        refine lv_iload hx hb dD_putLetters_11 (lv_at hl 4 rfl) ?_
        refine lv_bipush (v := nI 12) hx hb dD_putLetters_13 (by decide) ?_
        refine zi_rem hx hb (by omega) (by omega) (by omega) dD_putLetters_15 ?_
        refine zi_mul hx hb dD_putLetters_16 ?_
        refine lv_lshr hx hb dD_putLetters_17 rfl ?_
        refine lv_l2i hx hb dD_putLetters_18 rfl ?_
        refine lv_bipush (v := nI 31) hx hb dD_putLetters_19 (by decide) ?_
        refine lv_iand hx hb dD_putLetters_21 ?_
        refine zi_v (b := nI (lt_ v k)) (pk_and _ 5 (by decide)) ?_
        have hw9 := lt_lt v k
        refine lv_istore (lv' := [(6, .int (nI (lt_ v k))), (0, .ref h0), (1, .int (nI sl)), (2, .int (nI ct)), (3, .long v), (5, .int (nI k))]) hx hb dD_putLetters_22 hl (by decide) rfl (fun ls hl => ?_)
        refine lv_aload_n hx hb dD_putLetters_24 rfl (lv_at hl 1 rfl) ?_
        refine lv_iload_n hx hb dD_putLetters_25 rfl (lv_at hl 2 rfl) ?_
        refine lv_iload hx hb dD_putLetters_26 (lv_at hl 5 rfl) ?_
        refine lv_iload hx hb dD_putLetters_28 (lv_at hl 0 rfl) ?_
        refine lv_bipush (v := nI 10) hx hb dD_putLetters_30 (by decide) ?_
        refine zi_ge (tgt := 43) hx hb (by omega) (by omega) dD_putLetters_32 (by decide) (fun c_32 => ?_) (fun c_32 => ?_)
        · refine lv_bipush (v := nI 65) hx hb dD_putLetters_43 (by decide) ?_
          refine lv_iload hx hb dD_putLetters_45 (lv_at hl 0 rfl) ?_
          refine zi_add hx hb dD_putLetters_47 ?_
          refine lv_bipush (v := nI 10) hx hb dD_putLetters_48 (by decide) ?_
          refine zi_sub hx hb (by omega) dD_putLetters_50 ?_
          refine zi_v (b := nI (lb (lt_ v k))) (by unfold lb; rw [if_neg (by omega)]) ?_
          have hPc := hP.sub (ws' := [(h0, .inr (0, [.int (nI ty), .ref h1, .ref h2])), (h2, .inl (cB, 208, .inl (aN f)))]) [0, 2] rfl
          have hDc := hD.sub (ws' := [(h0, .inr (0, [.int (nI ty), .ref h1, .ref h2])), (h2, .inl (cB, 208, .inl (aN f)))]) [0, 2] (by decide) rfl
          have hFc := va_free (wc := [(h0, .inr (0, [.int (nI ty), .ref h1, .ref h2])), (h2, .inl (cB, 208, .inl (aN f)))]) hD hS hA [0, 2] rfl
          refine zc_Mv (va_runV (As := [.int (nI sl), .int (nI k), .int (nI (lb (lt_ v k)))]) (rest := []) ⟨hx, hb, hml, hown, hw⟩ (c_D_setMark l dC dI h0 h1 h2 cI cB ty f sl k (lb (lt_ v k)) (by omega) (by omega) (lb_lt (by omega)) H.size) (cwV 3 hw (gV w_ml_D_43 w_im_D_setMark w_se_D_setMark w_in_D w_co_D_setMark) rfl rfl rfl (by decide +kernel) ⟨Nat.le_of_ble_eq_true rfl, Nat.le_of_ble_eq_true rfl⟩) (zM_V hG hS hFc hPc hDc hK 0 rfl rfl) rfl rfl hl.1 rfl (lv_room (Nat.le_of_ble_eq_true rfl)) dD_putLetters_51 ⟨Nat.le_of_ble_eq_true rfl, Nat.le_of_ble_eq_true rfl⟩) hS hFc (fun H locs h_51 hP1 hD1 hk1 hS => ?_)
          obtain ⟨hP, hD⟩ := va_join (wr := [(h1, .inl (cI, 16, .inl (aN cnt)))]) (w1 := [(h0, .inr (0, [.int (nI ty), .ref h1, .ref h2])), (h2, .inl (cB, 208, .inl (aN (nup f (fFM sl + k) (lb (lt_ v k))))))]) hP hD [0, 2] [1] rfl rfl (by decide) (by decide) hk1 hFc hP1 hD1
          have hP : va_P (dC, dI) vwCl [(h1, .inl (cI, 16, .inl (aN cnt))), (h0, .inr (0, [.int (nI ty), .ref h1, .ref h2])), (h2, .inl (cB, 208, .inl (aN (nup f (fFM sl + k) (lb (lt_ v k))))))] H := hP
          have hD : va_D A [(h1, .inl (cI, 16, .inl (aN cnt))), (h0, .inr (0, [.int (nI ty), .ref h1, .ref h2])), (h2, .inl (cB, 208, .inl (aN (nup f (fFM sl + k) (lb (lt_ v k))))))] := hD
          refine lv_iinc (v := nI (k + 1)) (lv' := [(5, .int (nI (k + 1))), (6, .int (nI (lt_ v k))), (0, .ref h0), (1, .int (nI sl)), (2, .int (nI ct)), (3, .long v)]) hx hb dD_putLetters_54 hl (k := 5) rfl (zi_incr k 1) (by decide) rfl (fun ls hl => ?_)
          refine lv_goto (tgt := 3) hx hb dD_putLetters_57 (by decide) ?_
          exact ih3 (k + 1) (nup f (fFM sl + k) (lb (lt_ v k))) (by omega) (by have h9 := hi; rw [show ct - k = ct - (k + 1) + 1 by omega] at h9; exact h9) (by omega) _ _ _ (lv_sub hl [2, 3, 4, 5, 0] rfl) (hP.sub [1, 0, 2] rfl) (hD.sub [1, 0, 2] (by decide) rfl) hS
        · refine lv_bipush (v := nI 48) hx hb dD_putLetters_35 (by decide) ?_
          refine lv_iload hx hb dD_putLetters_37 (lv_at hl 0 rfl) ?_
          refine zi_add hx hb dD_putLetters_39 ?_
          refine lv_goto (tgt := 51) hx hb dD_putLetters_40 (by decide) ?_
          refine zi_v (b := nI (lb (lt_ v k))) (by unfold lb; rw [if_pos c_32]) ?_
          have hPc := hP.sub (ws' := [(h0, .inr (0, [.int (nI ty), .ref h1, .ref h2])), (h2, .inl (cB, 208, .inl (aN f)))]) [0, 2] rfl
          have hDc := hD.sub (ws' := [(h0, .inr (0, [.int (nI ty), .ref h1, .ref h2])), (h2, .inl (cB, 208, .inl (aN f)))]) [0, 2] (by decide) rfl
          have hFc := va_free (wc := [(h0, .inr (0, [.int (nI ty), .ref h1, .ref h2])), (h2, .inl (cB, 208, .inl (aN f)))]) hD hS hA [0, 2] rfl
          refine zc_Mv (va_runV (As := [.int (nI sl), .int (nI k), .int (nI (lb (lt_ v k)))]) (rest := []) ⟨hx, hb, hml, hown, hw⟩ (c_D_setMark l dC dI h0 h1 h2 cI cB ty f sl k (lb (lt_ v k)) (by omega) (by omega) (lb_lt (by omega)) H.size) (cwV 3 hw (gV w_ml_D_43 w_im_D_setMark w_se_D_setMark w_in_D w_co_D_setMark) rfl rfl rfl (by decide +kernel) ⟨Nat.le_of_ble_eq_true rfl, Nat.le_of_ble_eq_true rfl⟩) (zM_V hG hS hFc hPc hDc hK 0 rfl rfl) rfl rfl hl.1 rfl (lv_room (Nat.le_of_ble_eq_true rfl)) dD_putLetters_51 ⟨Nat.le_of_ble_eq_true rfl, Nat.le_of_ble_eq_true rfl⟩) hS hFc (fun H locs h_51 hP1 hD1 hk1 hS => ?_)
          obtain ⟨hP, hD⟩ := va_join (wr := [(h1, .inl (cI, 16, .inl (aN cnt)))]) (w1 := [(h0, .inr (0, [.int (nI ty), .ref h1, .ref h2])), (h2, .inl (cB, 208, .inl (aN (nup f (fFM sl + k) (lb (lt_ v k))))))]) hP hD [0, 2] [1] rfl rfl (by decide) (by decide) hk1 hFc hP1 hD1
          have hP : va_P (dC, dI) vwCl [(h1, .inl (cI, 16, .inl (aN cnt))), (h0, .inr (0, [.int (nI ty), .ref h1, .ref h2])), (h2, .inl (cB, 208, .inl (aN (nup f (fFM sl + k) (lb (lt_ v k))))))] H := hP
          have hD : va_D A [(h1, .inl (cI, 16, .inl (aN cnt))), (h0, .inr (0, [.int (nI ty), .ref h1, .ref h2])), (h2, .inl (cB, 208, .inl (aN (nup f (fFM sl + k) (lb (lt_ v k))))))] := hD
          refine lv_iinc (v := nI (k + 1)) (lv' := [(5, .int (nI (k + 1))), (6, .int (nI (lt_ v k))), (0, .ref h0), (1, .int (nI sl)), (2, .int (nI ct)), (3, .long v)]) hx hb dD_putLetters_54 hl (k := 5) rfl (zi_incr k 1) (by decide) rfl (fun ls hl => ?_)
          refine lv_goto (tgt := 3) hx hb dD_putLetters_57 (by decide) ?_
          exact ih3 (k + 1) (nup f (fFM sl + k) (lb (lt_ v k))) (by omega) (by have h9 := hi; rw [show ct - k = ct - (k + 1) + 1 by omega] at h9; exact h9) (by omega) _ _ _ (lv_sub hl [2, 3, 4, 5, 0] rfl) (hP.sub [1, 0, 2] rfl) (hD.sub [1, 0, 2] (by decide) rfl) hS
  exact lp_3 ((ct - 0) + 1) 0 mk (by omega) rfl (Nat.lt_succ_self _) _ _ _ (lv_sub hl [1, 2, 3, 4, 0] rfl) (hP.sub [0, 1, 2] rfl) (hD.sub [0, 1, 2] (by decide) rfl) hS
def rm_c_D_lastDigits : Room := ({ frames := 1, cells := 0, slots := 0, locals := 22 } : Room)
set_option maxHeartbeats 4000000 in
set_option maxRecDepth 100000 in
theorem c_D_lastDigits (l : Launch) (dC : Nat → ClassId) (dI : Nat → Nat → Nat) (h0 : Nat) (h1 : Nat) (h2 : Nat) (cI : ClassId) (cB : ClassId) (ty : Nat) (cnt : Nat → Nat) (mk : Nat → Nat) (sl : Nat) (hs : sl < 16) (hk : fFM sl + cnt sl ≤ 208) (hm : ∀ j, mk j < 128) (Hc : Heap) : Met l yD_lastDigits wsD_lastDigits rm_c_D_lastDigits (zR (dC, dI) [(cI, .int), (cB, .byte)] [.ref h0, .int (nI sl)] [(h0, .inr (0, [.int (nI ty), .ref h1, .ref h2])), (h1, .inl (cI, 16, .inl (aN cnt))), (h2, .inl (cB, 208, .inl (aN mk)))] Hc) (zRl Hc (fun r => r = lN (nm_ mk (fFM sl + (cnt sl - 18)) (cnt sl - (cnt sl - 18)) 0))) 0 0 zNo := by
  refine Met.ofW (cc := cD_lastDigits) (maxL := 6) (ret := (some .long)) (by decide) rfl ?_
  intro p e s m args below meth c s₁ Bd hml hv
  obtain ⟨rfl, hH, hG, hP, hK⟩ := hv
  subst hH
  have hx := Bd.exec
  have hb := Bd.bytes
  have hr := Bd.returns
  have hts := atoms_spec (ws := wsD_lastDigits) Bd.pre
  have hw : ∀ w ∈ BIG, w.before _ s = true := fun w h => hts w (List.mem_cons_of_mem _ h)
  have hown : s.vm.findClass RD = some m.cls := findClass_of_methodNamed Bd.named
  have hlocks := Bd.notSynchronized
  have hS : va_S zNo s.heap s.heap [] := va_S.rf
  have hl := lv_entry ([.ref h0, .int (nI sl)]) (n := 6) (Nat.le_of_ble_eq_true rfl)
  rw [lg_entry_eq]
  generalize (lg_sl ([.ref h0, .int (nI sl)]) ++ List.replicate (6 - (lg_sl ([.ref h0, .int (nI sl)])).length) Slot.unset).toArray = ls at hl ⊢
  have hl : lv_has ls 6 [(0, .ref h0), (1, .int (nI sl))] := hl
  refine zq_name (fun Q hQ => ?_)
  change W p l e rm_c_D_lastDigits s m _ below meth c _ _ _ _ Q _
  refine lv_aload_n hx hb dD_lastDigits_0 rfl (lv_at hl 0 rfl) ?_
  refine va_get (D := (dC, dI)) (ci := 0) (v := .ref h1) (C := RD) (T := TD) (N := 3) hx hb hw inD hown hK hP 0 rfl rfl 1 (by decide) (hw _ w_fl_D_15) (fun _ h9 => h9) rfl dD_lastDigits_1 ?_
  refine lv_iload_n hx hb dD_lastDigits_4 rfl (lv_at hl 1 rfl) ?_
  refine za_ild hx hb hK hP 1 0 rfl rfl (by omega) (by decide) dD_lastDigits_5 ?_
  refine lv_istore_n (lv' := [(2, .int (nI (cnt sl))), (0, .ref h0), (1, .int (nI sl))]) hx hb dD_lastDigits_6 rfl hl (by decide) rfl (fun ls hl => ?_)
  refine lv_lconst (v := lN 0) hx hb dD_lastDigits_7 (by decide) ?_
  refine lv_lstore_n (lv' := [(3, .long (lN 0)), (2, .int (nI (cnt sl))), (0, .ref h0), (1, .int (nI sl))]) hx hb dD_lastDigits_8 rfl hl (by decide) rfl (fun ls hl => ?_)
  refine lv_iconst (v := nI 0) hx hb dD_lastDigits_9 (by decide) ?_
  refine lv_iload_n hx hb dD_lastDigits_10 rfl (lv_at hl 1 rfl) ?_
  refine lv_bipush (v := nI 18) hx hb dD_lastDigits_11 (by decide) ?_
  refine lv_isub hx hb dD_lastDigits_13 ?_
  refine va_mmax hx hb (by rw [hml]; exact hl.1.symm) hown (hw _ w_ml_D_47) (hw _ w_st_max) (hw _ w_in_Math) (hw _ w_co_max) (Nat.le_of_ble_eq_true rfl) (Nat.le_of_ble_eq_true rfl) (Nat.le_of_ble_eq_true rfl) (Nat.le_of_ble_eq_true rfl) dD_lastDigits_14 ?_
  refine zi_v (b := nI (cnt sl - 18)) (max_0 (by omega) (by decide)) ?_
  refine lv_istore (lv' := [(5, .int (nI (cnt sl - 18))), (3, .long (lN 0)), (2, .int (nI (cnt sl))), (0, .ref h0), (1, .int (nI sl))]) hx hb dD_lastDigits_17 hl (by decide) rfl (fun ls hl => ?_)
  have lp_19 : ∀ (fu : Nat) (k : Nat) (acc : Nat) (hkc : k ≤ cnt sl) (hi : nm_ mk (fFM sl + k) (cnt sl - k) acc = nm_ mk (fFM sl + (cnt sl - 18)) (cnt sl - (cnt sl - 18)) 0) (hms : cnt sl - k < fu) (locs : List Loc) (ls : Array Slot), lv_has ls 6 [(0, .ref h0), (1, .int (nI sl)), (2, .int (nI (cnt sl))), (3, .long (lN acc)), (5, .int (nI k))] → va_S zNo s.heap s.heap locs → W p l e rm_c_D_lastDigits s m ([.ref h0, .int (nI sl)] : List Value).toArray below meth c s.heap locs 0 0 Q (F0 m 19 ls []) := by
    intro fu
    induction fu with
    | zero => intro k acc hkc hi hms; exact absurd hms (Nat.not_lt_zero _)
    | succ fu ih19 =>
      intro k acc hkc hi hms locs ls hl hS
      refine lv_iload hx hb dD_lastDigits_19 (lv_at hl 4 rfl) ?_
      refine lv_iload_n hx hb dD_lastDigits_21 rfl (lv_at hl 2 rfl) ?_
      refine zi_ge (tgt := 46) hx hb (by omega) (by omega) dD_lastDigits_22 (by decide) (fun c_22 => ?_) (fun c_22 => ?_)
      · refine lv_lload_n hx hb dD_lastDigits_46 rfl (lv_at hl 3 rfl) ?_
        subst hQ
        exact W.lret (v := lN acc) hx hb hr (fun t ht hW => ⟨⟨lN acc, (), rfl, (by rw [← hi, show cnt sl - k = 0 by omega]; rfl), ht⟩, hS.F ht⟩) hS.2.2 dD_lastDigits_47
      · refine lv_lload_n hx hb dD_lastDigits_25 rfl (lv_at hl 3 rfl) ?_
        refine lv_ldc2 (v := 10) hx hb hown (hw _ w_k_D_53) dD_lastDigits_26 ?_
        refine zl_c (a := 10) rfl ?_
        refine zl_mul hx hb dD_lastDigits_29 ?_
        refine lv_aload_n hx hb dD_lastDigits_30 rfl (lv_at hl 0 rfl) ?_
        refine lv_iload_n hx hb dD_lastDigits_31 rfl (lv_at hl 1 rfl) ?_
        refine lv_iload hx hb dD_lastDigits_32 (lv_at hl 4 rfl) ?_
        refine zc_Ri (va_runV (As := [.int (nI sl), .int (nI k)]) (rest := [.long (lN (acc * 10))]) ⟨hx, hb, hml, hown, hw⟩ (c_D_mark l dC dI h0 h1 h2 cI cB ty mk sl k (by omega) (by omega) s.heap) (cwV 2 hw (gV w_ml_D_55 w_im_D_mark w_se_D_mark w_in_D w_co_D_mark) rfl rfl rfl (by decide +kernel) ⟨Nat.le_of_ble_eq_true rfl, Nat.le_of_ble_eq_true rfl⟩) (zR_V hG hS (hP.sub (ws' := [(h0, .inr (0, [.int (nI ty), .ref h1, .ref h2])), (h2, .inl (cB, 208, .inl (aN mk)))]) [0, 2] rfl) hK 0 rfl rfl) rfl rfl hl.1 rfl (lv_room (Nat.le_of_ble_eq_true rfl)) dD_lastDigits_34 ⟨Nat.le_of_ble_eq_true rfl, Nat.le_of_ble_eq_true rfl⟩) hS (fun r_1 locs h_34 hS => ?_)
        subst h_34
        have hm9 := hm (fFM sl + k)
        refine zi_l hx hb (by omega) dD_lastDigits_37 ?_
        refine zl_add hx hb dD_lastDigits_38 ?_
        refine lv_lstore_n (lv' := [(3, .long (lN ((acc * 10) + (mk (fFM sl + k))))), (0, .ref h0), (1, .int (nI sl)), (2, .int (nI (cnt sl))), (5, .int (nI k))]) hx hb dD_lastDigits_39 rfl hl (by decide) rfl (fun ls hl => ?_)
        refine lv_iinc (v := nI (k + 1)) (lv' := [(5, .int (nI (k + 1))), (3, .long (lN ((acc * 10) + (mk (fFM sl + k))))), (0, .ref h0), (1, .int (nI sl)), (2, .int (nI (cnt sl)))]) hx hb dD_lastDigits_40 hl (k := 4) rfl (zi_incr k 1) (by decide) rfl (fun ls hl => ?_)
        refine lv_goto (tgt := 19) hx hb dD_lastDigits_43 (by decide) ?_
        exact ih19 (k + 1) ((acc * 10) + (mk (fFM sl + k))) (by omega) (by have h9 := hi; rw [show cnt sl - k = cnt sl - (k + 1) + 1 by omega] at h9; exact h9) (by omega) _ _ (lv_sub hl [2, 3, 4, 1, 0] rfl) hS
  exact lp_19 ((cnt sl - (cnt sl - 18)) + 1) (cnt sl - 18) 0 (by omega) rfl (Nat.lt_succ_self _) _ _ (lv_sub hl [3, 4, 2, 1, 0] rfl) hS
end
section
def rm_c_T_byteAt : Room := ({ frames := 0, cells := 0, slots := 0, locals := 0 } : Room)
set_option maxHeartbeats 4000000 in
set_option maxRecDepth 100000 in
theorem c_T_byteAt (l : Launch) (dC : Nat → ClassId) (dI : Nat → Nat → Nat) (t0 : Nat) (t1 : Nat) (len : Nat) (cI : ClassId) (cB : ClassId) (tp : Nat → Nat) (i : Nat) (hi : i < 400) (hti : tp i < 256) (Hc : Heap) : Met l yT_byteAt wsT_byteAt rm_c_T_byteAt (zR (dC, dI) [(cI, .int), (cB, .byte)] [.ref t0, .int (nI i)] [(t0, .inr (2, [.ref t1, .int (nI len)])), (t1, .inl (cB, 400, .inl (aB tp)))] Hc) (zRi Hc (fun r => r = nI (tp i))) 0 0 zNo := by
  refine Met.ofW (cc := cT_byteAt) (maxL := 2) (ret := (some .int)) (by decide) rfl ?_
  intro p e s m args below meth c s₁ Bd hml hv
  obtain ⟨rfl, hH, hG, hP, hK⟩ := hv
  subst hH
  have hx := Bd.exec
  have hb := Bd.bytes
  have hr := Bd.returns
  have hts := atoms_spec (ws := wsT_byteAt) Bd.pre
  have hw : ∀ w ∈ BIG, w.before _ s = true := fun w h => hts w (List.mem_cons_of_mem _ h)
  have hown : s.vm.findClass RT = some m.cls := findClass_of_methodNamed Bd.named
  have hlocks := Bd.notSynchronized
  have hS : va_S zNo s.heap s.heap [] := va_S.rf
  have hl := lv_entry ([.ref t0, .int (nI i)]) (n := 2) (Nat.le_of_ble_eq_true rfl)
  rw [lg_entry_eq]
  generalize (lg_sl ([.ref t0, .int (nI i)]) ++ List.replicate (2 - (lg_sl ([.ref t0, .int (nI i)])).length) Slot.unset).toArray = ls at hl ⊢
  have hl : lv_has ls 2 [(0, .ref t0), (1, .int (nI i))] := hl
  refine zq_name (fun Q hQ => ?_)
  change W p l e rm_c_T_byteAt s m _ below meth c _ _ _ _ Q _
  refine lv_aload_n hx hb dT_byteAt_0 rfl (lv_at hl 0 rfl) ?_
  refine va_get (D := (dC, dI)) (ci := 2) (v := .ref t1) (C := RT) (T := TT) (N := 2) hx hb hw inT hown hK hP 0 rfl rfl 0 (by decide) (hw _ w_fl_T_9) (fun _ h9 => h9) rfl dT_byteAt_1 ?_
  refine lv_iload_n hx hb dT_byteAt_4 rfl (lv_at hl 1 rfl) ?_
  refine za_Bld hx hb hK hP 1 1 rfl rfl (by omega) (by decide) dT_byteAt_5 ?_
  refine lv_sipush (v := nI 255) hx hb dT_byteAt_6 (by decide) ?_
  refine zi_and255 hx hb (by omega) dT_byteAt_9 ?_
  subst hQ
  exact W.iret (v := nI (tp i)) hx hb hr (fun t ht hW => ⟨⟨nI (tp i), (), rfl, rfl, ht⟩, hS.F ht⟩) hS.2.2 dT_byteAt_10
def rm_c_R_fail : Room := ({ frames := 0, cells := 0, slots := 0, locals := 0 } : Room)
set_option maxHeartbeats 4000000 in
set_option maxRecDepth 100000 in
theorem c_R_fail (l : Launch) (dC : Nat → ClassId) (dI : Nat → Nat → Nat) (r0 : Nat) (f0 : Nat) (fk : Nat) (fp : Int32) (t0 : Nat) (nx : Nat) (lnb : Nat) (cI : ClassId) (cB : ClassId) (k : Nat) (pl : Int32) (sz : Nat) : Met l yR_fail wsR_fail rm_c_R_fail (zM (dC, dI) [(cI, .int), (cB, .byte)] [.ref r0, .int (nI k), .int pl] [(r0, .inr (1, [.ref f0, .int (nI fk), .int fp, .ref t0, .int (nI nx), .int (nI lnb)]))] sz) (zMi (dC, dI) [(r0, .inr (1, [.ref f0, .int (nI fk), .int fp, .ref t0, .int (nI nx), .int (nI lnb)]))] [(r0, .inr (1, [.ref f0, .int (nI k), .int pl, .ref t0, .int (nI nx), .int (nI lnb)]))] sz (fun r => r = nI 0)) 0 0 (va_A [(r0, .inr (1, [.ref f0, .int (nI fk), .int fp, .ref t0, .int (nI nx), .int (nI lnb)]))] sz) := by
  refine Met.ofW (cc := cR_fail) (maxL := 3) (ret := (some .boolean)) (by decide) rfl ?_
  intro p e s m args below meth c s₁ Bd hml hv
  obtain ⟨rfl, hsz, hG, hP, hK, hD0⟩ := hv
  subst hsz
  have hx := Bd.exec
  have hb := Bd.bytes
  have hr := Bd.returns
  have hts := atoms_spec (ws := wsR_fail) Bd.pre
  have hw : ∀ w ∈ BIG, w.before _ s = true := fun w h => hts w (List.mem_cons_of_mem _ h)
  have hown : s.vm.findClass RR = some m.cls := findClass_of_methodNamed Bd.named
  have hlocks := Bd.notSynchronized
  have hD := hD0.self (sz := s.heap.size)
  obtain ⟨A, hAe⟩ : ∃ A, A = va_A [(r0, .inr (1, [.ref f0, .int (nI fk), .int fp, .ref t0, .int (nI nx), .int (nI lnb)]))] s.heap.size := ⟨_, rfl⟩
  have hA : ∀ q : Nat, s.heap.size ≤ q → A q := fun q h => by rw [hAe]; exact Or.inr h
  rw [← hAe] at hG hD
  have hS : va_S A s.heap s.heap [] := va_S.rf
  have hl := lv_entry ([.ref r0, .int (nI k), .int pl]) (n := 3) (Nat.le_of_ble_eq_true rfl)
  rw [lg_entry_eq]
  generalize (lg_sl ([.ref r0, .int (nI k), .int pl]) ++ List.replicate (3 - (lg_sl ([.ref r0, .int (nI k), .int pl])).length) Slot.unset).toArray = ls at hl ⊢
  have hl : lv_has ls 3 [(0, .ref r0), (1, .int (nI k)), (2, .int pl)] := hl
  refine zq_name (fun Q hQ => ?_)
  change W p l e rm_c_R_fail s m _ below meth c _ _ _ _ Q _
  refine lv_aload_n hx hb dR_fail_0 rfl (lv_at hl 0 rfl) ?_
  refine lv_iload_n hx hb dR_fail_1 rfl (lv_at hl 1 rfl) ?_
  refine va_put (D := (dC, dI)) (ci := 1) (v := .int (nI k)) (ty := .int) (C := RR) (T := TR) (N := 6) hx hb hw inR tyR tyR_ok nmR hown hK hP hD hS 0 rfl rfl 1 (by decide) (hw _ w_fl_R_18) (fun _ h9 => h9) rfl (by decide +kernel) rfl rfl (Nat.le_of_ble_eq_true rfl) dR_fail_2 (fun H locs hP hD hS => ?_)
  have hP : va_P (dC, dI) vwCl [(r0, .inr (1, [.ref f0, .int (nI k), .int fp, .ref t0, .int (nI nx), .int (nI lnb)]))] H := hP
  have hD : va_D A [(r0, .inr (1, [.ref f0, .int (nI k), .int fp, .ref t0, .int (nI nx), .int (nI lnb)]))] := hD
  refine lv_aload_n hx hb dR_fail_5 rfl (lv_at hl 0 rfl) ?_
  refine lv_iload_n hx hb dR_fail_6 rfl (lv_at hl 2 rfl) ?_
  refine va_put (D := (dC, dI)) (ci := 1) (v := .int pl) (ty := .int) (C := RR) (T := TR) (N := 6) hx hb hw inR tyR tyR_ok nmR hown hK hP hD hS 0 rfl rfl 2 (by decide) (hw _ w_fl_R_22) (fun _ h9 => h9) rfl (by decide +kernel) rfl rfl (Nat.le_of_ble_eq_true rfl) dR_fail_7 (fun H locs hP hD hS => ?_)
  have hP : va_P (dC, dI) vwCl [(r0, .inr (1, [.ref f0, .int (nI k), .int pl, .ref t0, .int (nI nx), .int (nI lnb)]))] H := hP
  have hD : va_D A [(r0, .inr (1, [.ref f0, .int (nI k), .int pl, .ref t0, .int (nI nx), .int (nI lnb)]))] := hD
  refine lv_iconst (v := nI 0) hx hb dR_fail_10 (by decide) ?_
  subst hAe
  subst hQ
  exact W.zret (v := nI 0) hx hb hr (by decide) (fun t ht hW => ⟨⟨nI 0, (), rfl, rfl, by rw [ht]; exact hP.sub [0] rfl, hD.sub [0] (by decide) rfl⟩, hS.F ht⟩) hS.2.2 dR_fail_11
def rm_c_reaches_ok : Room := ({ frames := 1, cells := 0, slots := 0, locals := 22 } : Room)
set_option maxHeartbeats 4000000 in
set_option maxRecDepth 100000 in
theorem c_reaches_ok (l : Launch) (dC : Nat → ClassId) (dI : Nat → Nat → Nat) (r0 : Nat) (f0 : Nat) (fk : Nat) (fp : Int32) (t0 : Nat) (nx : Nat) (lnb : Nat) (t1 : Nat) (len : Nat) (cI : ClassId) (cB : ClassId) (n : Nat) (hln : len ≤ 400) (hnl : nx ≤ len) (hn : nx + n ≤ len) (Hc : Heap) : Met l yR_reaches wsR_reaches rm_c_reaches_ok (zR (dC, dI) [(cI, .int), (cB, .byte)] [.ref r0, .int (nI n)] [(r0, .inr (1, [.ref f0, .int (nI fk), .int fp, .ref t0, .int (nI nx), .int (nI lnb)])), (t0, .inr (2, [.ref t1, .int (nI len)]))] Hc) (zRi Hc (fun r => r = nI 1)) 0 0 zNo := by
  refine Met.ofW (cc := cR_reaches) (maxL := 2) (ret := (some .boolean)) (by decide) rfl ?_
  intro p e s m args below meth c s₁ Bd hml hv
  obtain ⟨rfl, hH, hG, hP, hK⟩ := hv
  subst hH
  have hx := Bd.exec
  have hb := Bd.bytes
  have hr := Bd.returns
  have hts := atoms_spec (ws := wsR_reaches) Bd.pre
  have hw : ∀ w ∈ BIG, w.before _ s = true := fun w h => hts w (List.mem_cons_of_mem _ h)
  have hown : s.vm.findClass RR = some m.cls := findClass_of_methodNamed Bd.named
  have hlocks := Bd.notSynchronized
  have hS : va_S zNo s.heap s.heap [] := va_S.rf
  have hl := lv_entry ([.ref r0, .int (nI n)]) (n := 2) (Nat.le_of_ble_eq_true rfl)
  rw [lg_entry_eq]
  generalize (lg_sl ([.ref r0, .int (nI n)]) ++ List.replicate (2 - (lg_sl ([.ref r0, .int (nI n)])).length) Slot.unset).toArray = ls at hl ⊢
  have hl : lv_has ls 2 [(0, .ref r0), (1, .int (nI n))] := hl
  refine zq_name (fun Q hQ => ?_)
  change W p l e rm_c_reaches_ok s m _ below meth c _ _ _ _ Q _
  refine lv_iload_n hx hb dR_reaches_0 rfl (lv_at hl 1 rfl) ?_
  refine lv_aload_n hx hb dR_reaches_1 rfl (lv_at hl 0 rfl) ?_
  refine va_get (D := (dC, dI)) (ci := 1) (v := .ref t0) (C := RR) (T := TR) (N := 6) hx hb hw inR hown hK hP 0 rfl rfl 3 (by decide) (hw _ w_fl_R_31) (fun _ h9 => h9) rfl dR_reaches_2 ?_
  refine va_get (D := (dC, dI)) (ci := 2) (v := .int (nI len)) (C := RT) (T := TT) (N := 2) hx hb hw inT hown hK hP 1 rfl rfl 1 (by decide) (hw _ w_fl_R_62) (fun _ h9 => h9) rfl dR_reaches_5 ?_
  refine lv_aload_n hx hb dR_reaches_8 rfl (lv_at hl 0 rfl) ?_
  refine va_get (D := (dC, dI)) (ci := 1) (v := .int (nI nx)) (C := RR) (T := TR) (N := 6) hx hb hw inR hown hK hP 0 rfl rfl 4 (by decide) (hw _ w_fl_R_25) (fun _ h9 => h9) rfl dR_reaches_9 ?_
  refine zi_sub hx hb (by omega) dR_reaches_12 ?_
  refine zi_le (tgt := 31) hx hb (by omega) (by omega) dR_reaches_13 (by decide) (fun c_13 => ?_) (fun q => False.elim ((by omega : False)))
  refine lv_iconst (v := nI 1) hx hb dR_reaches_31 (by decide) ?_
  refine lv_goto (tgt := 36) hx hb dR_reaches_32 (by decide) ?_
  subst hQ
  exact W.zret (v := nI 1) hx hb hr (by decide) (fun t ht hW => ⟨⟨nI 1, (), rfl, rfl, ht⟩, hS.F ht⟩) hS.2.2 dR_reaches_36
def rm_c_reaches_no : Room := ({ frames := 1, cells := 0, slots := 0, locals := 22 } : Room)
set_option maxHeartbeats 4000000 in
set_option maxRecDepth 100000 in
theorem c_reaches_no (l : Launch) (dC : Nat → ClassId) (dI : Nat → Nat → Nat) (r0 : Nat) (f0 : Nat) (fk : Nat) (fp : Int32) (t0 : Nat) (nx : Nat) (lnb : Nat) (t1 : Nat) (len : Nat) (cI : ClassId) (cB : ClassId) (n : Nat) (hln : len ≤ 400) (hnl : nx ≤ len) (hn : len < nx + n) (hn2 : n < 1000) (sz : Nat) : Met l yR_reaches wsR_reaches rm_c_reaches_no (zM (dC, dI) [(cI, .int), (cB, .byte)] [.ref r0, .int (nI n)] [(r0, .inr (1, [.ref f0, .int (nI fk), .int fp, .ref t0, .int (nI nx), .int (nI lnb)])), (t0, .inr (2, [.ref t1, .int (nI len)]))] sz) (zMi (dC, dI) [(r0, .inr (1, [.ref f0, .int (nI fk), .int fp, .ref t0, .int (nI nx), .int (nI lnb)])), (t0, .inr (2, [.ref t1, .int (nI len)]))] [(r0, .inr (1, [.ref f0, .int (nI 1), .int (nI len), .ref t0, .int (nI nx), .int (nI lnb)])), (t0, .inr (2, [.ref t1, .int (nI len)]))] sz (fun r => r = nI 0)) 0 0 (va_A [(r0, .inr (1, [.ref f0, .int (nI fk), .int fp, .ref t0, .int (nI nx), .int (nI lnb)])), (t0, .inr (2, [.ref t1, .int (nI len)]))] sz) := by
  refine Met.ofW (cc := cR_reaches) (maxL := 2) (ret := (some .boolean)) (by decide) rfl ?_
  intro p e s m args below meth c s₁ Bd hml hv
  obtain ⟨rfl, hsz, hG, hP, hK, hD0⟩ := hv
  subst hsz
  have hx := Bd.exec
  have hb := Bd.bytes
  have hr := Bd.returns
  have hts := atoms_spec (ws := wsR_reaches) Bd.pre
  have hw : ∀ w ∈ BIG, w.before _ s = true := fun w h => hts w (List.mem_cons_of_mem _ h)
  have hown : s.vm.findClass RR = some m.cls := findClass_of_methodNamed Bd.named
  have hlocks := Bd.notSynchronized
  have hD := hD0.self (sz := s.heap.size)
  obtain ⟨A, hAe⟩ : ∃ A, A = va_A [(r0, .inr (1, [.ref f0, .int (nI fk), .int fp, .ref t0, .int (nI nx), .int (nI lnb)])), (t0, .inr (2, [.ref t1, .int (nI len)]))] s.heap.size := ⟨_, rfl⟩
  have hA : ∀ q : Nat, s.heap.size ≤ q → A q := fun q h => by rw [hAe]; exact Or.inr h
  rw [← hAe] at hG hD
  have hS : va_S A s.heap s.heap [] := va_S.rf
  have hl := lv_entry ([.ref r0, .int (nI n)]) (n := 2) (Nat.le_of_ble_eq_true rfl)
  rw [lg_entry_eq]
  generalize (lg_sl ([.ref r0, .int (nI n)]) ++ List.replicate (2 - (lg_sl ([.ref r0, .int (nI n)])).length) Slot.unset).toArray = ls at hl ⊢
  have hl : lv_has ls 2 [(0, .ref r0), (1, .int (nI n))] := hl
  refine zq_name (fun Q hQ => ?_)
  change W p l e rm_c_reaches_no s m _ below meth c _ _ _ _ Q _
  refine lv_iload_n hx hb dR_reaches_0 rfl (lv_at hl 1 rfl) ?_
  refine lv_aload_n hx hb dR_reaches_1 rfl (lv_at hl 0 rfl) ?_
  refine va_get (D := (dC, dI)) (ci := 1) (v := .ref t0) (C := RR) (T := TR) (N := 6) hx hb hw inR hown hK hP 0 rfl rfl 3 (by decide) (hw _ w_fl_R_31) (fun _ h9 => h9) rfl dR_reaches_2 ?_
  refine va_get (D := (dC, dI)) (ci := 2) (v := .int (nI len)) (C := RT) (T := TT) (N := 2) hx hb hw inT hown hK hP 1 rfl rfl 1 (by decide) (hw _ w_fl_R_62) (fun _ h9 => h9) rfl dR_reaches_5 ?_
  refine lv_aload_n hx hb dR_reaches_8 rfl (lv_at hl 0 rfl) ?_
  refine va_get (D := (dC, dI)) (ci := 1) (v := .int (nI nx)) (C := RR) (T := TR) (N := 6) hx hb hw inR hown hK hP 0 rfl rfl 4 (by decide) (hw _ w_fl_R_25) (fun _ h9 => h9) rfl dR_reaches_9 ?_
  refine zi_sub hx hb (by omega) dR_reaches_12 ?_
  refine zi_le (tgt := 31) hx hb (by omega) (by omega) dR_reaches_13 (by decide) (fun q => False.elim ((by omega : False))) (fun c_13 => ?_)
  refine lv_aload_n hx hb dR_reaches_16 rfl (lv_at hl 0 rfl) ?_
  refine lv_iconst (v := nI 1) hx hb dR_reaches_17 (by decide) ?_
  refine lv_aload_n hx hb dR_reaches_18 rfl (lv_at hl 0 rfl) ?_
  refine va_get (D := (dC, dI)) (ci := 1) (v := .ref t0) (C := RR) (T := TR) (N := 6) hx hb hw inR hown hK hP 0 rfl rfl 3 (by decide) (hw _ w_fl_R_31) (fun _ h9 => h9) rfl dR_reaches_19 ?_
  refine va_get (D := (dC, dI)) (ci := 2) (v := .int (nI len)) (C := RT) (T := TT) (N := 2) hx hb hw inT hown hK hP 1 rfl rfl 1 (by decide) (hw _ w_fl_R_62) (fun _ h9 => h9) rfl dR_reaches_22 ?_
  have hPc := hP.sub (ws' := [(r0, .inr (1, [.ref f0, .int (nI fk), .int fp, .ref t0, .int (nI nx), .int (nI lnb)]))]) [0] rfl
  have hDc := hD.sub (ws' := [(r0, .inr (1, [.ref f0, .int (nI fk), .int fp, .ref t0, .int (nI nx), .int (nI lnb)]))]) [0] (by decide) rfl
  have hFc := va_free (wc := [(r0, .inr (1, [.ref f0, .int (nI fk), .int fp, .ref t0, .int (nI nx), .int (nI lnb)]))]) hD hS hA [0] rfl
  refine zc_Mi (va_runV (As := [.int (nI 1), .int (nI len)]) (rest := []) ⟨hx, hb, hml, hown, hw⟩ (c_R_fail l dC dI r0 f0 fk fp t0 nx lnb cI cB 1 (nI len) s.heap.size) (cwV 2 hw (gV w_ml_R_65 w_im_R_fail w_se_R_fail w_in_R w_co_R_fail) rfl rfl rfl (by decide +kernel) ⟨Nat.le_of_ble_eq_true rfl, Nat.le_of_ble_eq_true rfl⟩) (zM_V hG hS hFc hPc hDc hK 0 rfl rfl) rfl rfl hl.1 rfl (lv_room (Nat.le_of_ble_eq_true rfl)) dR_reaches_25 ⟨Nat.le_of_ble_eq_true rfl, Nat.le_of_ble_eq_true rfl⟩) hS hFc (fun r_1 H locs h_25 hP1 hD1 hk1 hS => ?_)
  obtain ⟨hP, hD⟩ := va_join (wr := [(t0, .inr (2, [.ref t1, .int (nI len)]))]) (w1 := [(r0, .inr (1, [.ref f0, .int (nI 1), .int (nI len), .ref t0, .int (nI nx), .int (nI lnb)]))]) hP hD [0] [1] rfl rfl (by decide) (by decide) hk1 hFc hP1 hD1
  have hP : va_P (dC, dI) vwCl [(t0, .inr (2, [.ref t1, .int (nI len)])), (r0, .inr (1, [.ref f0, .int (nI 1), .int (nI len), .ref t0, .int (nI nx), .int (nI lnb)]))] H := hP
  have hD : va_D A [(t0, .inr (2, [.ref t1, .int (nI len)])), (r0, .inr (1, [.ref f0, .int (nI 1), .int (nI len), .ref t0, .int (nI nx), .int (nI lnb)]))] := hD
  subst h_25
  refine lv_if_eq (tgt := 35) hx hb dR_reaches_28 (by decide) (fun c_28 => ?_) (fun q => False.elim (absurd q (by decide)))
  refine lv_iconst (v := nI 0) hx hb dR_reaches_35 (by decide) ?_
  subst hAe
  subst hQ
  exact W.zret (v := nI 0) hx hb hr (by decide) (fun t ht hW => ⟨⟨nI 0, (), rfl, rfl, by rw [ht]; exact hP.sub [1, 0] rfl, hD.sub [1, 0] (by decide) rfl⟩, hS.F ht⟩) hS.2.2 dR_reaches_36
def rm_c_R_halfAhead : Room := ({ frames := 1, cells := 0, slots := 0, locals := 21 } : Room)
set_option maxHeartbeats 4000000 in
set_option maxRecDepth 100000 in
theorem c_R_halfAhead (l : Launch) (dC : Nat → ClassId) (dI : Nat → Nat → Nat) (r0 : Nat) (f0 : Nat) (fk : Nat) (fp : Int32) (t0 : Nat) (nx : Nat) (lnb : Nat) (t1 : Nat) (len : Nat) (cI : ClassId) (cB : ClassId) (tp : Nat → Nat) (k : Nat) (htp : ∀ j, tp j < 256) (hk : nx + k / 2 < 400) (hk2 : k < 1000) (Hc : Heap) : Met l yR_halfAhead wsR_halfAhead rm_c_R_halfAhead (zR (dC, dI) [(cI, .int), (cB, .byte)] [.ref r0, .int (nI k)] [(r0, .inr (1, [.ref f0, .int (nI fk), .int fp, .ref t0, .int (nI nx), .int (nI lnb)])), (t0, .inr (2, [.ref t1, .int (nI len)])), (t1, .inl (cB, 400, .inl (aB tp)))] Hc) (zRi Hc (fun r => r = nI (hf tp nx k))) 0 0 zNo := by
  refine Met.ofW (cc := cR_halfAhead) (maxL := 3) (ret := (some .int)) (by decide) rfl ?_
  intro p e s m args below meth c s₁ Bd hml hv
  obtain ⟨rfl, hH, hG, hP, hK⟩ := hv
  subst hH
  have hx := Bd.exec
  have hb := Bd.bytes
  have hr := Bd.returns
  have hts := atoms_spec (ws := wsR_halfAhead) Bd.pre
  have hw : ∀ w ∈ BIG, w.before _ s = true := fun w h => hts w (List.mem_cons_of_mem _ h)
  have hown : s.vm.findClass RR = some m.cls := findClass_of_methodNamed Bd.named
  have hlocks := Bd.notSynchronized
  have hS : va_S zNo s.heap s.heap [] := va_S.rf
  have hl := lv_entry ([.ref r0, .int (nI k)]) (n := 3) (Nat.le_of_ble_eq_true rfl)
  rw [lg_entry_eq]
  generalize (lg_sl ([.ref r0, .int (nI k)]) ++ List.replicate (3 - (lg_sl ([.ref r0, .int (nI k)])).length) Slot.unset).toArray = ls at hl ⊢
  have hl : lv_has ls 3 [(0, .ref r0), (1, .int (nI k))] := hl
  refine zq_name (fun Q hQ => ?_)
  change W p l e rm_c_R_halfAhead s m _ below meth c _ _ _ _ Q _
  have ht9 := htp (nx + k / 2)
  refine lv_aload_n hx hb dR_halfAhead_0 rfl (lv_at hl 0 rfl) ?_
  refine va_get (D := (dC, dI)) (ci := 1) (v := .ref t0) (C := RR) (T := TR) (N := 6) hx hb hw inR hown hK hP 0 rfl rfl 3 (by decide) (hw _ w_fl_R_31) (fun _ h9 => h9) rfl dR_halfAhead_1 ?_
  refine lv_aload_n hx hb dR_halfAhead_4 rfl (lv_at hl 0 rfl) ?_
  refine va_get (D := (dC, dI)) (ci := 1) (v := .int (nI nx)) (C := RR) (T := TR) (N := 6) hx hb hw inR hown hK hP 0 rfl rfl 4 (by decide) (hw _ w_fl_R_25) (fun _ h9 => h9) rfl dR_halfAhead_5 ?_
  refine lv_iload_n hx hb dR_halfAhead_8 rfl (lv_at hl 1 rfl) ?_
  refine lv_iconst (v := nI 2) hx hb dR_halfAhead_9 (by decide) ?_
  refine zi_div hx hb (by omega) (by omega) (by omega) dR_halfAhead_10 ?_
  refine zi_add hx hb dR_halfAhead_11 ?_
  refine zc_Ri (va_runV (As := [.int (nI (nx + (k / 2)))]) (rest := []) ⟨hx, hb, hml, hown, hw⟩ (c_T_byteAt l dC dI t0 t1 len cI cB tp (nx + (k / 2)) (by omega) (htp _) s.heap) (cwV 1 hw (gV w_ml_R_50 w_im_T_byteAt w_se_T_byteAt w_in_T w_co_T_byteAt) rfl rfl rfl (by decide +kernel) ⟨Nat.le_of_ble_eq_true rfl, Nat.le_of_ble_eq_true rfl⟩) (zR_V hG hS (hP.sub (ws' := [(t0, .inr (2, [.ref t1, .int (nI len)])), (t1, .inl (cB, 400, .inl (aB tp)))]) [1, 2] rfl) hK 0 rfl rfl) rfl rfl hl.1 rfl (lv_room (Nat.le_of_ble_eq_true rfl)) dR_halfAhead_12 ⟨Nat.le_of_ble_eq_true rfl, Nat.le_of_ble_eq_true rfl⟩) hS (fun r_1 locs h_12 hS => ?_)
  subst h_12
  refine lv_istore_n (lv' := [(2, .int (nI (tp (nx + (k / 2))))), (0, .ref r0), (1, .int (nI k))]) hx hb dR_halfAhead_15 rfl hl (by decide) rfl (fun ls hl => ?_)
  refine lv_iload_n hx hb dR_halfAhead_16 rfl (lv_at hl 2 rfl) ?_
  refine lv_iconst (v := nI 2) hx hb dR_halfAhead_17 (by decide) ?_
  refine zi_rem hx hb (by omega) (by omega) (by omega) dR_halfAhead_18 ?_
  refine zi_ne0 (tgt := 28) hx hb (by omega) dR_halfAhead_19 (by decide) (fun c_19 => ?_) (fun c_19 => ?_)
  · refine lv_iload_n hx hb dR_halfAhead_28 rfl (lv_at hl 0 rfl) ?_
    refine lv_bipush (v := nI 15) hx hb dR_halfAhead_29 (by decide) ?_
    refine zi_and hx hb 4 (by omega) (by decide) dR_halfAhead_31 ?_
    refine zi_v (b := nI ((tp (nx + (k / 2))) % 16)) rfl ?_
    refine zi_v (b := nI (hf tp nx k)) (by unfold hf; rw [if_neg c_19]) ?_
    subst hQ
    exact W.iret (v := nI (hf tp nx k)) hx hb hr (fun t ht hW => ⟨⟨nI (hf tp nx k), (), rfl, rfl, ht⟩, hS.F ht⟩) hS.2.2 dR_halfAhead_32
  · refine lv_iload_n hx hb dR_halfAhead_22 rfl (lv_at hl 0 rfl) ?_
    refine lv_iconst (v := nI 4) hx hb dR_halfAhead_23 (by decide) ?_
    refine zi_shr hx hb (by omega) (by decide) dR_halfAhead_24 ?_
    refine zi_v (b := nI ((tp (nx + (k / 2))) / 16)) rfl ?_
    refine lv_goto (tgt := 32) hx hb dR_halfAhead_25 (by decide) ?_
    refine zi_v (b := nI (hf tp nx k)) (by unfold hf; rw [if_pos c_19]) ?_
    subst hQ
    exact W.iret (v := nI (hf tp nx k)) hx hb hr (fun t ht hW => ⟨⟨nI (hf tp nx k), (), rfl, rfl, ht⟩, hS.F ht⟩) hS.2.2 dR_halfAhead_32
def rm_c_R_digitAhead : Room := ({ frames := 2, cells := 0, slots := 0, locals := 43 } : Room)
set_option maxHeartbeats 4000000 in
set_option maxRecDepth 100000 in
theorem c_R_digitAhead (l : Launch) (dC : Nat → ClassId) (dI : Nat → Nat → Nat) (r0 : Nat) (f0 : Nat) (fk : Nat) (fp : Int32) (t0 : Nat) (nx : Nat) (lnb : Nat) (t1 : Nat) (len : Nat) (cI : ClassId) (cB : ClassId) (tp : Nat → Nat) (k : Nat) (ct : Nat) (htp : ∀ j, tp j < 256) (hk : nx + (ct % 2 + k) / 2 < 400) (hk2 : ct % 2 + k < 1000) (hk3 : ct < 1000) (Hc : Heap) : Met l yR_digitAhead wsR_digitAhead rm_c_R_digitAhead (zR (dC, dI) [(cI, .int), (cB, .byte)] [.ref r0, .int (nI k), .int (nI ct)] [(r0, .inr (1, [.ref f0, .int (nI fk), .int fp, .ref t0, .int (nI nx), .int (nI lnb)])), (t0, .inr (2, [.ref t1, .int (nI len)])), (t1, .inl (cB, 400, .inl (aB tp)))] Hc) (zRi Hc (fun r => r = nI (hf tp nx (ct % 2 + k)))) 0 0 zNo := by
  refine Met.ofW (cc := cR_digitAhead) (maxL := 3) (ret := (some .int)) (by decide) rfl ?_
  intro p e s m args below meth c s₁ Bd hml hv
  obtain ⟨rfl, hH, hG, hP, hK⟩ := hv
  subst hH
  have hx := Bd.exec
  have hb := Bd.bytes
  have hr := Bd.returns
  have hts := atoms_spec (ws := wsR_digitAhead) Bd.pre
  have hw : ∀ w ∈ BIG, w.before _ s = true := fun w h => hts w (List.mem_cons_of_mem _ h)
  have hown : s.vm.findClass RR = some m.cls := findClass_of_methodNamed Bd.named
  have hlocks := Bd.notSynchronized
  have hS : va_S zNo s.heap s.heap [] := va_S.rf
  have hl := lv_entry ([.ref r0, .int (nI k), .int (nI ct)]) (n := 3) (Nat.le_of_ble_eq_true rfl)
  rw [lg_entry_eq]
  generalize (lg_sl ([.ref r0, .int (nI k), .int (nI ct)]) ++ List.replicate (3 - (lg_sl ([.ref r0, .int (nI k), .int (nI ct)])).length) Slot.unset).toArray = ls at hl ⊢
  have hl : lv_has ls 3 [(0, .ref r0), (1, .int (nI k)), (2, .int (nI ct))] := hl
  refine zq_name (fun Q hQ => ?_)
  change W p l e rm_c_R_digitAhead s m _ below meth c _ _ _ _ Q _
  refine lv_aload_n hx hb dR_digitAhead_0 rfl (lv_at hl 0 rfl) ?_
  refine lv_iload_n hx hb dR_digitAhead_1 rfl (lv_at hl 2 rfl) ?_
  refine lv_iconst (v := nI 2) hx hb dR_digitAhead_2 (by decide) ?_
  refine zi_rem hx hb (by omega) (by omega) (by omega) dR_digitAhead_3 ?_
  refine lv_iload_n hx hb dR_digitAhead_4 rfl (lv_at hl 1 rfl) ?_
  refine zi_add hx hb dR_digitAhead_5 ?_
  refine zc_Ri (va_runV (As := [.int (nI ((ct % 2) + k))]) (rest := []) ⟨hx, hb, hml, hown, hw⟩ (c_R_halfAhead l dC dI r0 f0 fk fp t0 nx lnb t1 len cI cB tp ((ct % 2) + k) htp (by omega) (by omega) s.heap) (cwV 1 hw (gV w_ml_R_123 w_im_R_halfAhead w_se_R_halfAhead w_in_R w_co_R_halfAhead) rfl rfl rfl (by decide +kernel) ⟨Nat.le_of_ble_eq_true rfl, Nat.le_of_ble_eq_true rfl⟩) (zR_V hG hS (hP.sub (ws' := [(r0, .inr (1, [.ref f0, .int (nI fk), .int fp, .ref t0, .int (nI nx), .int (nI lnb)])), (t0, .inr (2, [.ref t1, .int (nI len)])), (t1, .inl (cB, 400, .inl (aB tp)))]) [0, 1, 2] rfl) hK 0 rfl rfl) rfl rfl hl.1 rfl (lv_room (Nat.le_of_ble_eq_true rfl)) dR_digitAhead_6 ⟨Nat.le_of_ble_eq_true rfl, Nat.le_of_ble_eq_true rfl⟩) hS (fun r_1 locs h_6 hS => ?_)
  subst h_6
  subst hQ
  exact W.iret (v := nI (hf tp nx ((ct % 2) + k))) hx hb hr (fun t ht hW => ⟨⟨nI (hf tp nx ((ct % 2) + k)), (), rfl, rfl, ht⟩, hS.F ht⟩) hS.2.2 dR_digitAhead_9
def rm_c_areDigits_ok : Room := ({ frames := 2, cells := 0, slots := 0, locals := 43 } : Room)
set_option maxHeartbeats 4000000 in
set_option maxRecDepth 100000 in
theorem c_areDigits_ok (l : Launch) (dC : Nat → ClassId) (dI : Nat → Nat → Nat) (r0 : Nat) (f0 : Nat) (fk : Nat) (fp : Int32) (t0 : Nat) (nx : Nat) (lnb : Nat) (t1 : Nat) (len : Nat) (cI : ClassId) (cB : ClassId) (tp : Nat → Nat) (ct : Nat) (hln : len ≤ 400) (hnl : nx ≤ len) (htp : ∀ j, tp j < 256) (hc : ct < 100) (hd : dgF tp len nx ct = none) (Hc : Heap) : Met l yR_areDigits wsR_areDigits rm_c_areDigits_ok (zR (dC, dI) [(cI, .int), (cB, .byte)] [.ref r0, .int (nI ct)] [(r0, .inr (1, [.ref f0, .int (nI fk), .int fp, .ref t0, .int (nI nx), .int (nI lnb)])), (t0, .inr (2, [.ref t1, .int (nI len)])), (t1, .inl (cB, 400, .inl (aB tp)))] Hc) (zRi Hc (fun r => r = nI 1)) 0 0 zNo := by
  refine Met.ofW (cc := cR_areDigits) (maxL := 4) (ret := (some .boolean)) (by decide) rfl ?_
  intro p e s m args below meth c s₁ Bd hml hv
  obtain ⟨rfl, hH, hG, hP, hK⟩ := hv
  subst hH
  have hx := Bd.exec
  have hb := Bd.bytes
  have hr := Bd.returns
  have hts := atoms_spec (ws := wsR_areDigits) Bd.pre
  have hw : ∀ w ∈ BIG, w.before _ s = true := fun w h => hts w (List.mem_cons_of_mem _ h)
  have hown : s.vm.findClass RR = some m.cls := findClass_of_methodNamed Bd.named
  have hlocks := Bd.notSynchronized
  have hS : va_S zNo s.heap s.heap [] := va_S.rf
  have hl := lv_entry ([.ref r0, .int (nI ct)]) (n := 4) (Nat.le_of_ble_eq_true rfl)
  rw [lg_entry_eq]
  generalize (lg_sl ([.ref r0, .int (nI ct)]) ++ List.replicate (4 - (lg_sl ([.ref r0, .int (nI ct)])).length) Slot.unset).toArray = ls at hl ⊢
  have hl : lv_has ls 4 [(0, .ref r0), (1, .int (nI ct))] := hl
  refine zq_name (fun Q hQ => ?_)
  change W p l e rm_c_areDigits_ok s m _ below meth c _ _ _ _ Q _
  have hs9 := dgF_fit hd
  have hd := dgF_ok hd
  have hb9 : ∀ j, hf tp nx j < 16 := hf_lt htp nx
  refine lv_aload_n hx hb dR_areDigits_0 rfl (lv_at hl 0 rfl) ?_
  refine lv_iload_n hx hb dR_areDigits_1 rfl (lv_at hl 1 rfl) ?_
  refine zc_Ri (va_runSN (As := [.int (nI ct)]) (rest := [.ref r0]) ⟨hx, hb, hml, hown, hw⟩ (c_C_bytesOfDigits l dC dI cI cB ct (by omega) s.heap) ⟨va_cnB 1 hw (gC w_co_C_bytesOfDigits) rfl rfl rfl (hG.nm (RR, 110, yC_bytesOfDigits) (List.mem_of_getElem? (i := 6) rfl)) (hw _ w_in_C) (by decide +kernel) ⟨Nat.le_of_ble_eq_true rfl, Nat.le_of_ble_eq_true rfl⟩, hw _ w_st_C_bytesOfDigits, trivial⟩ (zR_S hG hS (hP.sub (ws' := []) [] rfl) hK) rfl rfl hl.1 rfl (lv_room (Nat.le_of_ble_eq_true rfl)) dR_areDigits_2 ⟨Nat.le_of_ble_eq_true rfl, Nat.le_of_ble_eq_true rfl⟩) hS (fun r_1 locs h_2 hS => ?_)
  subst h_2
  refine zc_Ri (va_runV (As := [.int (nI ((ct + 1) / 2))]) (rest := []) ⟨hx, hb, hml, hown, hw⟩ (c_reaches_ok l dC dI r0 f0 fk fp t0 nx lnb t1 len cI cB ((ct + 1) / 2) (by omega) (by omega) (by omega) s.heap) (cwV 1 hw (gV w_ml_R_79 w_im_R_reaches w_se_R_reaches w_in_R w_co_R_reaches) rfl rfl rfl (by decide +kernel) ⟨Nat.le_of_ble_eq_true rfl, Nat.le_of_ble_eq_true rfl⟩) (zR_V hG hS (hP.sub (ws' := [(r0, .inr (1, [.ref f0, .int (nI fk), .int fp, .ref t0, .int (nI nx), .int (nI lnb)])), (t0, .inr (2, [.ref t1, .int (nI len)]))]) [0, 1] rfl) hK 0 rfl rfl) rfl rfl hl.1 rfl (lv_room (Nat.le_of_ble_eq_true rfl)) dR_areDigits_5 ⟨Nat.le_of_ble_eq_true rfl, Nat.le_of_ble_eq_true rfl⟩) hS (fun r_2 locs h_5 hS => ?_)
  subst h_5
  refine lv_if_ne (tgt := 13) hx hb dR_areDigits_8 (by decide) (fun c_8 => ?_) (fun q => False.elim (absurd q (by decide)))
  refine lv_iload_n hx hb dR_areDigits_13 rfl (lv_at hl 1 rfl) ?_
  refine lv_iconst (v := nI 2) hx hb dR_areDigits_14 (by decide) ?_
  refine zi_rem hx hb (by omega) (by omega) (by omega) dR_areDigits_15 ?_
  refine lv_istore_n (lv' := [(2, .int (nI (ct % 2))), (0, .ref r0), (1, .int (nI ct))]) hx hb dR_areDigits_16 rfl hl (by decide) rfl (fun ls hl => ?_)
  refine lv_iconst (v := nI 0) hx hb dR_areDigits_17 (by decide) ?_
  refine lv_istore_n (lv' := [(3, .int (nI 0)), (2, .int (nI (ct % 2))), (0, .ref r0), (1, .int (nI ct))]) hx hb dR_areDigits_18 rfl hl (by decide) rfl (fun ls hl => ?_)
  have lp_19 : ∀ (fu : Nat) (h : Nat) (hh : h ≤ ct % 2 + ct) (hi : dgL tp nx (ct % 2) (ct % 2 + ct - h) h = none) (hms : ct % 2 + ct - h < fu) (locs : List Loc) (ls : Array Slot), lv_has ls 4 [(0, .ref r0), (1, .int (nI ct)), (2, .int (nI (ct % 2))), (3, .int (nI h))] → va_S zNo s.heap s.heap locs → W p l e rm_c_areDigits_ok s m ([.ref r0, .int (nI ct)] : List Value).toArray below meth c s.heap locs 0 0 Q (F0 m 19 ls []) := by
    intro fu
    induction fu with
    | zero => intro h hh hi hms; exact absurd hms (Nat.not_lt_zero _)
    | succ fu ih19 =>
      intro h hh hi hms locs ls hl hS
      refine lv_iload_n hx hb dR_areDigits_19 rfl (lv_at hl 3 rfl) ?_
      refine lv_iload_n hx hb dR_areDigits_20 rfl (lv_at hl 2 rfl) ?_
      refine lv_iload_n hx hb dR_areDigits_21 rfl (lv_at hl 1 rfl) ?_
      refine zi_add hx hb dR_areDigits_22 ?_
      refine zi_ge (tgt := 65) hx hb (by omega) (by omega) dR_areDigits_23 (by decide) (fun c_23 => ?_) (fun c_23 => ?_)
      · refine lv_iconst (v := nI 1) hx hb dR_areDigits_65 (by decide) ?_
        subst hQ
        exact W.zret (v := nI 1) hx hb hr (by decide) (fun t ht hW => ⟨⟨nI 1, (), rfl, rfl, ht⟩, hS.F ht⟩) hS.2.2 dR_areDigits_66
      · refine lv_aload_n hx hb dR_areDigits_26 rfl (lv_at hl 0 rfl) ?_
        refine lv_iload_n hx hb dR_areDigits_27 rfl (lv_at hl 3 rfl) ?_
        refine zc_Ri (va_runV (As := [.int (nI h)]) (rest := []) ⟨hx, hb, hml, hown, hw⟩ (c_R_halfAhead l dC dI r0 f0 fk fp t0 nx lnb t1 len cI cB tp h htp (by omega) (by omega) s.heap) (cwV 1 hw (gV w_ml_R_123 w_im_R_halfAhead w_se_R_halfAhead w_in_R w_co_R_halfAhead) rfl rfl rfl (by decide +kernel) ⟨Nat.le_of_ble_eq_true rfl, Nat.le_of_ble_eq_true rfl⟩) (zR_V hG hS (hP.sub (ws' := [(r0, .inr (1, [.ref f0, .int (nI fk), .int fp, .ref t0, .int (nI nx), .int (nI lnb)])), (t0, .inr (2, [.ref t1, .int (nI len)])), (t1, .inl (cB, 400, .inl (aB tp)))]) [0, 1, 2] rfl) hK 0 rfl rfl) rfl rfl hl.1 rfl (lv_room (Nat.le_of_ble_eq_true rfl)) dR_areDigits_28 ⟨Nat.le_of_ble_eq_true rfl, Nat.le_of_ble_eq_true rfl⟩) hS (fun r_3 locs h_28 hS => ?_)
        subst h_28
        have hb8 := hb9 h
        refine lv_iload_n hx hb dR_areDigits_31 rfl (lv_at hl 3 rfl) ?_
        refine lv_iload_n hx hb dR_areDigits_32 rfl (lv_at hl 2 rfl) ?_
        refine zi_ge (tgt := 40) hx hb (by omega) (by omega) dR_areDigits_33 (by decide) (fun c_33 => ?_) (fun c_33 => ?_)
        · refine lv_bipush (v := nI 9) hx hb dR_areDigits_40 (by decide) ?_
          refine zi_le (tgt := 59) hx hb (by omega) (by omega) dR_areDigits_42 (by decide) (fun c_42 => ?_) (fun q => False.elim ((by have h9 := hi; rw [show ct % 2 + ct - h = ct % 2 + ct - (h + 1) + 1 by omega] at h9; unfold dgL at h9; rw [if_pos (by split <;> omega)] at h9; cases h9)))
          refine lv_iinc (v := nI (h + 1)) (lv' := [(3, .int (nI (h + 1))), (0, .ref r0), (1, .int (nI ct)), (2, .int (nI (ct % 2)))]) hx hb dR_areDigits_59 hl (k := 3) rfl (zi_incr h 1) (by decide) rfl (fun ls hl => ?_)
          refine lv_goto (tgt := 19) hx hb dR_areDigits_62 (by decide) ?_
          exact ih19 (h + 1) (by omega) (by have h9 := hi; rw [show ct % 2 + ct - h = ct % 2 + ct - (h + 1) + 1 by omega] at h9; unfold dgL at h9; rw [if_neg (by split <;> omega)] at h9; exact h9) (by omega) _ _ (lv_sub hl [1, 2, 3, 0] rfl) hS
        · refine lv_iconst (v := nI 0) hx hb dR_areDigits_36 (by decide) ?_
          refine lv_goto (tgt := 42) hx hb dR_areDigits_37 (by decide) ?_
          refine zi_le (tgt := 59) hx hb (by omega) (by omega) dR_areDigits_42 (by decide) (fun c_42 => ?_) (fun q => False.elim ((by have h9 := hi; rw [show ct % 2 + ct - h = ct % 2 + ct - (h + 1) + 1 by omega] at h9; unfold dgL at h9; rw [if_pos (by split <;> omega)] at h9; cases h9)))
          refine lv_iinc (v := nI (h + 1)) (lv' := [(3, .int (nI (h + 1))), (0, .ref r0), (1, .int (nI ct)), (2, .int (nI (ct % 2)))]) hx hb dR_areDigits_59 hl (k := 3) rfl (zi_incr h 1) (by decide) rfl (fun ls hl => ?_)
          refine lv_goto (tgt := 19) hx hb dR_areDigits_62 (by decide) ?_
          exact ih19 (h + 1) (by omega) (by have h9 := hi; rw [show ct % 2 + ct - h = ct % 2 + ct - (h + 1) + 1 by omega] at h9; unfold dgL at h9; rw [if_neg (by split <;> omega)] at h9; exact h9) (by omega) _ _ (lv_sub hl [1, 2, 3, 0] rfl) hS
  exact lp_19 ((ct % 2 + ct - 0) + 1) 0 (by omega) hd (Nat.lt_succ_self _) _ _ (lv_sub hl [2, 3, 1, 0] rfl) hS
def rm_c_areDigits_no : Room := ({ frames := 2, cells := 0, slots := 0, locals := 43 } : Room)
set_option maxHeartbeats 4000000 in
set_option maxRecDepth 100000 in
theorem c_areDigits_no (l : Launch) (dC : Nat → ClassId) (dI : Nat → Nat → Nat) (r0 : Nat) (f0 : Nat) (fk : Nat) (fp : Int32) (t0 : Nat) (nx : Nat) (lnb : Nat) (t1 : Nat) (len : Nat) (cI : ClassId) (cB : ClassId) (tp : Nat → Nat) (ct : Nat) (k2 : Nat) (p2 : Nat) (hln : len ≤ 400) (hnl : nx ≤ len) (htp : ∀ j, tp j < 256) (hc : ct < 100) (hd : dgF tp len nx ct = some (k2, p2)) (sz : Nat) : Met l yR_areDigits wsR_areDigits rm_c_areDigits_no (zM (dC, dI) [(cI, .int), (cB, .byte)] [.ref r0, .int (nI ct)] [(r0, .inr (1, [.ref f0, .int (nI fk), .int fp, .ref t0, .int (nI nx), .int (nI lnb)])), (t0, .inr (2, [.ref t1, .int (nI len)])), (t1, .inl (cB, 400, .inl (aB tp)))] sz) (zMi (dC, dI) [(r0, .inr (1, [.ref f0, .int (nI fk), .int fp, .ref t0, .int (nI nx), .int (nI lnb)])), (t0, .inr (2, [.ref t1, .int (nI len)])), (t1, .inl (cB, 400, .inl (aB tp)))] [(r0, .inr (1, [.ref f0, .int (nI k2), .int (nI p2), .ref t0, .int (nI nx), .int (nI lnb)])), (t0, .inr (2, [.ref t1, .int (nI len)])), (t1, .inl (cB, 400, .inl (aB tp)))] sz (fun r => r = nI 0)) 0 0 (va_A [(r0, .inr (1, [.ref f0, .int (nI fk), .int fp, .ref t0, .int (nI nx), .int (nI lnb)])), (t0, .inr (2, [.ref t1, .int (nI len)])), (t1, .inl (cB, 400, .inl (aB tp)))] sz) := by
  refine Met.ofW (cc := cR_areDigits) (maxL := 4) (ret := (some .boolean)) (by decide) rfl ?_
  intro p e s m args below meth c s₁ Bd hml hv
  obtain ⟨rfl, hsz, hG, hP, hK, hD0⟩ := hv
  subst hsz
  have hx := Bd.exec
  have hb := Bd.bytes
  have hr := Bd.returns
  have hts := atoms_spec (ws := wsR_areDigits) Bd.pre
  have hw : ∀ w ∈ BIG, w.before _ s = true := fun w h => hts w (List.mem_cons_of_mem _ h)
  have hown : s.vm.findClass RR = some m.cls := findClass_of_methodNamed Bd.named
  have hlocks := Bd.notSynchronized
  have hD := hD0.self (sz := s.heap.size)
  obtain ⟨A, hAe⟩ : ∃ A, A = va_A [(r0, .inr (1, [.ref f0, .int (nI fk), .int fp, .ref t0, .int (nI nx), .int (nI lnb)])), (t0, .inr (2, [.ref t1, .int (nI len)])), (t1, .inl (cB, 400, .inl (aB tp)))] s.heap.size := ⟨_, rfl⟩
  have hA : ∀ q : Nat, s.heap.size ≤ q → A q := fun q h => by rw [hAe]; exact Or.inr h
  rw [← hAe] at hG hD
  have hS : va_S A s.heap s.heap [] := va_S.rf
  have hl := lv_entry ([.ref r0, .int (nI ct)]) (n := 4) (Nat.le_of_ble_eq_true rfl)
  rw [lg_entry_eq]
  generalize (lg_sl ([.ref r0, .int (nI ct)]) ++ List.replicate (4 - (lg_sl ([.ref r0, .int (nI ct)])).length) Slot.unset).toArray = ls at hl ⊢
  have hl : lv_has ls 4 [(0, .ref r0), (1, .int (nI ct))] := hl
  refine zq_name (fun Q hQ => ?_)
  change W p l e rm_c_areDigits_no s m _ below meth c _ _ _ _ Q _
  have hb9 : ∀ j, hf tp nx j < 16 := hf_lt htp nx
  by_cases hq : len < nx + (ct + 1) / 2
  · unfold dgF at hd
    rw [if_pos hq] at hd
    cases hd
    refine lv_aload_n hx hb dR_areDigits_0 rfl (lv_at hl 0 rfl) ?_
    refine lv_iload_n hx hb dR_areDigits_1 rfl (lv_at hl 1 rfl) ?_
    refine zc_Ri (va_runSN (As := [.int (nI ct)]) (rest := [.ref r0]) ⟨hx, hb, hml, hown, hw⟩ (c_C_bytesOfDigits l dC dI cI cB ct (by omega) s.heap) ⟨va_cnB 1 hw (gC w_co_C_bytesOfDigits) rfl rfl rfl (hG.nm (RR, 110, yC_bytesOfDigits) (List.mem_of_getElem? (i := 6) rfl)) (hw _ w_in_C) (by decide +kernel) ⟨Nat.le_of_ble_eq_true rfl, Nat.le_of_ble_eq_true rfl⟩, hw _ w_st_C_bytesOfDigits, trivial⟩ (zR_S hG hS (hP.sub (ws' := []) [] rfl) hK) rfl rfl hl.1 rfl (lv_room (Nat.le_of_ble_eq_true rfl)) dR_areDigits_2 ⟨Nat.le_of_ble_eq_true rfl, Nat.le_of_ble_eq_true rfl⟩) hS (fun r_1 locs h_2 hS => ?_)
    subst h_2
    have hPc := hP.sub (ws' := [(r0, .inr (1, [.ref f0, .int (nI fk), .int fp, .ref t0, .int (nI nx), .int (nI lnb)])), (t0, .inr (2, [.ref t1, .int (nI len)]))]) [0, 1] rfl
    have hDc := hD.sub (ws' := [(r0, .inr (1, [.ref f0, .int (nI fk), .int fp, .ref t0, .int (nI nx), .int (nI lnb)])), (t0, .inr (2, [.ref t1, .int (nI len)]))]) [0, 1] (by decide) rfl
    have hFc := va_free (wc := [(r0, .inr (1, [.ref f0, .int (nI fk), .int fp, .ref t0, .int (nI nx), .int (nI lnb)])), (t0, .inr (2, [.ref t1, .int (nI len)]))]) hD hS hA [0, 1] rfl
    refine zc_Mi (va_runV (As := [.int (nI ((ct + 1) / 2))]) (rest := []) ⟨hx, hb, hml, hown, hw⟩ (c_reaches_no l dC dI r0 f0 fk fp t0 nx lnb t1 len cI cB ((ct + 1) / 2) (by omega) (by omega) (by omega) (by omega) s.heap.size) (cwV 1 hw (gV w_ml_R_79 w_im_R_reaches w_se_R_reaches w_in_R w_co_R_reaches) rfl rfl rfl (by decide +kernel) ⟨Nat.le_of_ble_eq_true rfl, Nat.le_of_ble_eq_true rfl⟩) (zM_V hG hS hFc hPc hDc hK 0 rfl rfl) rfl rfl hl.1 rfl (lv_room (Nat.le_of_ble_eq_true rfl)) dR_areDigits_5 ⟨Nat.le_of_ble_eq_true rfl, Nat.le_of_ble_eq_true rfl⟩) hS hFc (fun r_2 H locs h_5 hP1 hD1 hk1 hS => ?_)
    obtain ⟨hP, hD⟩ := va_join (wr := [(t1, .inl (cB, 400, .inl (aB tp)))]) (w1 := [(r0, .inr (1, [.ref f0, .int (nI 1), .int (nI len), .ref t0, .int (nI nx), .int (nI lnb)])), (t0, .inr (2, [.ref t1, .int (nI len)]))]) hP hD [0, 1] [2] rfl rfl (by decide) (by decide) hk1 hFc hP1 hD1
    have hP : va_P (dC, dI) vwCl [(t1, .inl (cB, 400, .inl (aB tp))), (r0, .inr (1, [.ref f0, .int (nI 1), .int (nI len), .ref t0, .int (nI nx), .int (nI lnb)])), (t0, .inr (2, [.ref t1, .int (nI len)]))] H := hP
    have hD : va_D A [(t1, .inl (cB, 400, .inl (aB tp))), (r0, .inr (1, [.ref f0, .int (nI 1), .int (nI len), .ref t0, .int (nI nx), .int (nI lnb)])), (t0, .inr (2, [.ref t1, .int (nI len)]))] := hD
    subst h_5
    refine lv_if_ne (tgt := 13) hx hb dR_areDigits_8 (by decide) (fun q => False.elim (absurd q (by decide))) (fun c_8 => ?_)
    refine lv_iconst (v := nI 0) hx hb dR_areDigits_11 (by decide) ?_
    subst hAe
    subst hQ
    exact W.zret (v := nI 0) hx hb hr (by decide) (fun t ht hW => ⟨⟨nI 0, (), rfl, rfl, by rw [ht]; exact hP.sub [1, 2, 0] rfl, hD.sub [1, 2, 0] (by decide) rfl⟩, hS.F ht⟩) hS.2.2 dR_areDigits_12
  · unfold dgF at hd
    rw [if_neg hq] at hd
    refine lv_aload_n hx hb dR_areDigits_0 rfl (lv_at hl 0 rfl) ?_
    refine lv_iload_n hx hb dR_areDigits_1 rfl (lv_at hl 1 rfl) ?_
    refine zc_Ri (va_runSN (As := [.int (nI ct)]) (rest := [.ref r0]) ⟨hx, hb, hml, hown, hw⟩ (c_C_bytesOfDigits l dC dI cI cB ct (by omega) s.heap) ⟨va_cnB 1 hw (gC w_co_C_bytesOfDigits) rfl rfl rfl (hG.nm (RR, 110, yC_bytesOfDigits) (List.mem_of_getElem? (i := 6) rfl)) (hw _ w_in_C) (by decide +kernel) ⟨Nat.le_of_ble_eq_true rfl, Nat.le_of_ble_eq_true rfl⟩, hw _ w_st_C_bytesOfDigits, trivial⟩ (zR_S hG hS (hP.sub (ws' := []) [] rfl) hK) rfl rfl hl.1 rfl (lv_room (Nat.le_of_ble_eq_true rfl)) dR_areDigits_2 ⟨Nat.le_of_ble_eq_true rfl, Nat.le_of_ble_eq_true rfl⟩) hS (fun r_3 locs h_2 hS => ?_)
    subst h_2
    refine zc_Ri (va_runV (As := [.int (nI ((ct + 1) / 2))]) (rest := []) ⟨hx, hb, hml, hown, hw⟩ (c_reaches_ok l dC dI r0 f0 fk fp t0 nx lnb t1 len cI cB ((ct + 1) / 2) (by omega) (by omega) (by omega) s.heap) (cwV 1 hw (gV w_ml_R_79 w_im_R_reaches w_se_R_reaches w_in_R w_co_R_reaches) rfl rfl rfl (by decide +kernel) ⟨Nat.le_of_ble_eq_true rfl, Nat.le_of_ble_eq_true rfl⟩) (zR_V hG hS (hP.sub (ws' := [(r0, .inr (1, [.ref f0, .int (nI fk), .int fp, .ref t0, .int (nI nx), .int (nI lnb)])), (t0, .inr (2, [.ref t1, .int (nI len)]))]) [0, 1] rfl) hK 0 rfl rfl) rfl rfl hl.1 rfl (lv_room (Nat.le_of_ble_eq_true rfl)) dR_areDigits_5 ⟨Nat.le_of_ble_eq_true rfl, Nat.le_of_ble_eq_true rfl⟩) hS (fun r_4 locs h_5 hS => ?_)
    subst h_5
    refine lv_if_ne (tgt := 13) hx hb dR_areDigits_8 (by decide) (fun c_8 => ?_) (fun q => False.elim (absurd q (by decide)))
    refine lv_iload_n hx hb dR_areDigits_13 rfl (lv_at hl 1 rfl) ?_
    refine lv_iconst (v := nI 2) hx hb dR_areDigits_14 (by decide) ?_
    refine zi_rem hx hb (by omega) (by omega) (by omega) dR_areDigits_15 ?_
    refine lv_istore_n (lv' := [(2, .int (nI (ct % 2))), (0, .ref r0), (1, .int (nI ct))]) hx hb dR_areDigits_16 rfl hl (by decide) rfl (fun ls hl => ?_)
    refine lv_iconst (v := nI 0) hx hb dR_areDigits_17 (by decide) ?_
    refine lv_istore_n (lv' := [(3, .int (nI 0)), (2, .int (nI (ct % 2))), (0, .ref r0), (1, .int (nI ct))]) hx hb dR_areDigits_18 rfl hl (by decide) rfl (fun ls hl => ?_)
    have lp_19 : ∀ (fu : Nat) (h : Nat) (hh : h ≤ ct % 2 + ct) (hi : dgL tp nx (ct % 2) (ct % 2 + ct - h) h = some (k2, p2)) (hms : ct % 2 + ct - h < fu) (H : Heap) (locs : List Loc) (ls : Array Slot), lv_has ls 4 [(0, .ref r0), (1, .int (nI ct)), (2, .int (nI (ct % 2))), (3, .int (nI h))] → va_P (dC, dI) vwCl [(r0, .inr (1, [.ref f0, .int (nI fk), .int fp, .ref t0, .int (nI nx), .int (nI lnb)])), (t0, .inr (2, [.ref t1, .int (nI len)])), (t1, .inl (cB, 400, .inl (aB tp)))] H → va_D A [(r0, .inr (1, [.ref f0, .int (nI fk), .int fp, .ref t0, .int (nI nx), .int (nI lnb)])), (t0, .inr (2, [.ref t1, .int (nI len)])), (t1, .inl (cB, 400, .inl (aB tp)))] → va_S A s.heap H locs → W p l e rm_c_areDigits_no s m ([.ref r0, .int (nI ct)] : List Value).toArray below meth c H locs 0 0 Q (F0 m 19 ls []) := by
      intro fu
      induction fu with
      | zero => intro h hh hi hms; exact absurd hms (Nat.not_lt_zero _)
      | succ fu ih19 =>
        intro h hh hi hms H locs ls hl hP hD hS
        refine lv_iload_n hx hb dR_areDigits_19 rfl (lv_at hl 3 rfl) ?_
        refine lv_iload_n hx hb dR_areDigits_20 rfl (lv_at hl 2 rfl) ?_
        refine lv_iload_n hx hb dR_areDigits_21 rfl (lv_at hl 1 rfl) ?_
        refine zi_add hx hb dR_areDigits_22 ?_
        refine zi_ge (tgt := 65) hx hb (by omega) (by omega) dR_areDigits_23 (by decide) (fun q => False.elim ((by have h9 := hi; rw [show ct % 2 + ct - h = 0 by omega] at h9; cases h9))) (fun c_23 => ?_)
        refine lv_aload_n hx hb dR_areDigits_26 rfl (lv_at hl 0 rfl) ?_
        refine lv_iload_n hx hb dR_areDigits_27 rfl (lv_at hl 3 rfl) ?_
        refine zc_Ri (va_runV (As := [.int (nI h)]) (rest := []) ⟨hx, hb, hml, hown, hw⟩ (c_R_halfAhead l dC dI r0 f0 fk fp t0 nx lnb t1 len cI cB tp h htp (by omega) (by omega) H) (cwV 1 hw (gV w_ml_R_123 w_im_R_halfAhead w_se_R_halfAhead w_in_R w_co_R_halfAhead) rfl rfl rfl (by decide +kernel) ⟨Nat.le_of_ble_eq_true rfl, Nat.le_of_ble_eq_true rfl⟩) (zR_V hG hS (hP.sub (ws' := [(r0, .inr (1, [.ref f0, .int (nI fk), .int fp, .ref t0, .int (nI nx), .int (nI lnb)])), (t0, .inr (2, [.ref t1, .int (nI len)])), (t1, .inl (cB, 400, .inl (aB tp)))]) [0, 1, 2] rfl) hK 0 rfl rfl) rfl rfl hl.1 rfl (lv_room (Nat.le_of_ble_eq_true rfl)) dR_areDigits_28 ⟨Nat.le_of_ble_eq_true rfl, Nat.le_of_ble_eq_true rfl⟩) hS (fun r_5 locs h_28 hS => ?_)
        subst h_28
        have hb8 := hb9 h
        refine lv_iload_n hx hb dR_areDigits_31 rfl (lv_at hl 3 rfl) ?_
        refine lv_iload_n hx hb dR_areDigits_32 rfl (lv_at hl 2 rfl) ?_
        refine zi_ge (tgt := 40) hx hb (by omega) (by omega) dR_areDigits_33 (by decide) (fun c_33 => ?_) (fun c_33 => ?_)
        · refine lv_bipush (v := nI 9) hx hb dR_areDigits_40 (by decide) ?_
          refine zi_le (tgt := 59) hx hb (by omega) (by omega) dR_areDigits_42 (by decide) (fun c_42 => ?_) (fun c_42 => ?_)
          · refine lv_iinc (v := nI (h + 1)) (lv' := [(3, .int (nI (h + 1))), (0, .ref r0), (1, .int (nI ct)), (2, .int (nI (ct % 2)))]) hx hb dR_areDigits_59 hl (k := 3) rfl (zi_incr h 1) (by decide) rfl (fun ls hl => ?_)
            refine lv_goto (tgt := 19) hx hb dR_areDigits_62 (by decide) ?_
            exact ih19 (h + 1) (by omega) (by have h9 := hi; rw [show ct % 2 + ct - h = ct % 2 + ct - (h + 1) + 1 by omega] at h9; unfold dgL at h9; rw [if_neg (by split <;> omega)] at h9; exact h9) (by omega) _ _ _ (lv_sub hl [1, 2, 3, 0] rfl) (hP.sub [0, 1, 2] rfl) (hD.sub [0, 1, 2] (by decide) rfl) hS
          · have h9 := hi
            rw [show ct % 2 + ct - h = ct % 2 + ct - (h + 1) + 1 by omega] at h9
            unfold dgL at h9
            rw [if_pos (by split <;> omega)] at h9
            cases h9
            refine lv_aload_n hx hb dR_areDigits_45 rfl (lv_at hl 0 rfl) ?_
            refine lv_iconst (v := nI 2) hx hb dR_areDigits_46 (by decide) ?_
            refine lv_aload_n hx hb dR_areDigits_47 rfl (lv_at hl 0 rfl) ?_
            refine va_get (D := (dC, dI)) (ci := 1) (v := .int (nI nx)) (C := RR) (T := TR) (N := 6) hx hb hw inR hown hK hP 0 rfl rfl 4 (by decide) (hw _ w_fl_R_25) (fun _ h9 => h9) rfl dR_areDigits_48 ?_
            refine lv_iload_n hx hb dR_areDigits_51 rfl (lv_at hl 3 rfl) ?_
            refine lv_iconst (v := nI 2) hx hb dR_areDigits_52 (by decide) ?_
            refine zi_div hx hb (by omega) (by omega) (by omega) dR_areDigits_53 ?_
            refine zi_add hx hb dR_areDigits_54 ?_
            have hPc := hP.sub (ws' := [(r0, .inr (1, [.ref f0, .int (nI fk), .int fp, .ref t0, .int (nI nx), .int (nI lnb)]))]) [0] rfl
            have hDc := hD.sub (ws' := [(r0, .inr (1, [.ref f0, .int (nI fk), .int fp, .ref t0, .int (nI nx), .int (nI lnb)]))]) [0] (by decide) rfl
            have hFc := va_free (wc := [(r0, .inr (1, [.ref f0, .int (nI fk), .int fp, .ref t0, .int (nI nx), .int (nI lnb)]))]) hD hS hA [0] rfl
            refine zc_Mi (va_runV (As := [.int (nI 2), .int (nI (nx + (h / 2)))]) (rest := []) ⟨hx, hb, hml, hown, hw⟩ (c_R_fail l dC dI r0 f0 fk fp t0 nx lnb cI cB 2 (nI (nx + (h / 2))) H.size) (cwV 2 hw (gV w_ml_R_65 w_im_R_fail w_se_R_fail w_in_R w_co_R_fail) rfl rfl rfl (by decide +kernel) ⟨Nat.le_of_ble_eq_true rfl, Nat.le_of_ble_eq_true rfl⟩) (zM_V hG hS hFc hPc hDc hK 0 rfl rfl) rfl rfl hl.1 rfl (lv_room (Nat.le_of_ble_eq_true rfl)) dR_areDigits_55 ⟨Nat.le_of_ble_eq_true rfl, Nat.le_of_ble_eq_true rfl⟩) hS hFc (fun r_6 H locs h_55 hP1 hD1 hk1 hS => ?_)
            obtain ⟨hP, hD⟩ := va_join (wr := [(t0, .inr (2, [.ref t1, .int (nI len)])), (t1, .inl (cB, 400, .inl (aB tp)))]) (w1 := [(r0, .inr (1, [.ref f0, .int (nI 2), .int (nI (nx + (h / 2))), .ref t0, .int (nI nx), .int (nI lnb)]))]) hP hD [0] [1, 2] rfl rfl (by decide) (by decide) hk1 hFc hP1 hD1
            have hP : va_P (dC, dI) vwCl [(t0, .inr (2, [.ref t1, .int (nI len)])), (t1, .inl (cB, 400, .inl (aB tp))), (r0, .inr (1, [.ref f0, .int (nI 2), .int (nI (nx + (h / 2))), .ref t0, .int (nI nx), .int (nI lnb)]))] H := hP
            have hD : va_D A [(t0, .inr (2, [.ref t1, .int (nI len)])), (t1, .inl (cB, 400, .inl (aB tp))), (r0, .inr (1, [.ref f0, .int (nI 2), .int (nI (nx + (h / 2))), .ref t0, .int (nI nx), .int (nI lnb)]))] := hD
            subst h_55
            subst hAe
            subst hQ
            exact W.zret (v := nI 0) hx hb hr (by decide) (fun t ht hW => ⟨⟨nI 0, (), rfl, rfl, by rw [ht]; exact hP.sub [2, 0, 1] rfl, hD.sub [2, 0, 1] (by decide) rfl⟩, hS.F ht⟩) hS.2.2 dR_areDigits_58
        · refine lv_iconst (v := nI 0) hx hb dR_areDigits_36 (by decide) ?_
          refine lv_goto (tgt := 42) hx hb dR_areDigits_37 (by decide) ?_
          refine zi_le (tgt := 59) hx hb (by omega) (by omega) dR_areDigits_42 (by decide) (fun c_42 => ?_) (fun c_42 => ?_)
          · refine lv_iinc (v := nI (h + 1)) (lv' := [(3, .int (nI (h + 1))), (0, .ref r0), (1, .int (nI ct)), (2, .int (nI (ct % 2)))]) hx hb dR_areDigits_59 hl (k := 3) rfl (zi_incr h 1) (by decide) rfl (fun ls hl => ?_)
            refine lv_goto (tgt := 19) hx hb dR_areDigits_62 (by decide) ?_
            exact ih19 (h + 1) (by omega) (by have h9 := hi; rw [show ct % 2 + ct - h = ct % 2 + ct - (h + 1) + 1 by omega] at h9; unfold dgL at h9; rw [if_neg (by split <;> omega)] at h9; exact h9) (by omega) _ _ _ (lv_sub hl [1, 2, 3, 0] rfl) (hP.sub [0, 1, 2] rfl) (hD.sub [0, 1, 2] (by decide) rfl) hS
          · have h9 := hi
            rw [show ct % 2 + ct - h = ct % 2 + ct - (h + 1) + 1 by omega] at h9
            unfold dgL at h9
            rw [if_pos (by split <;> omega)] at h9
            cases h9
            refine lv_aload_n hx hb dR_areDigits_45 rfl (lv_at hl 0 rfl) ?_
            refine lv_iconst (v := nI 2) hx hb dR_areDigits_46 (by decide) ?_
            refine lv_aload_n hx hb dR_areDigits_47 rfl (lv_at hl 0 rfl) ?_
            refine va_get (D := (dC, dI)) (ci := 1) (v := .int (nI nx)) (C := RR) (T := TR) (N := 6) hx hb hw inR hown hK hP 0 rfl rfl 4 (by decide) (hw _ w_fl_R_25) (fun _ h9 => h9) rfl dR_areDigits_48 ?_
            refine lv_iload_n hx hb dR_areDigits_51 rfl (lv_at hl 3 rfl) ?_
            refine lv_iconst (v := nI 2) hx hb dR_areDigits_52 (by decide) ?_
            refine zi_div hx hb (by omega) (by omega) (by omega) dR_areDigits_53 ?_
            refine zi_add hx hb dR_areDigits_54 ?_
            have hPc := hP.sub (ws' := [(r0, .inr (1, [.ref f0, .int (nI fk), .int fp, .ref t0, .int (nI nx), .int (nI lnb)]))]) [0] rfl
            have hDc := hD.sub (ws' := [(r0, .inr (1, [.ref f0, .int (nI fk), .int fp, .ref t0, .int (nI nx), .int (nI lnb)]))]) [0] (by decide) rfl
            have hFc := va_free (wc := [(r0, .inr (1, [.ref f0, .int (nI fk), .int fp, .ref t0, .int (nI nx), .int (nI lnb)]))]) hD hS hA [0] rfl
            refine zc_Mi (va_runV (As := [.int (nI 2), .int (nI (nx + (h / 2)))]) (rest := []) ⟨hx, hb, hml, hown, hw⟩ (c_R_fail l dC dI r0 f0 fk fp t0 nx lnb cI cB 2 (nI (nx + (h / 2))) H.size) (cwV 2 hw (gV w_ml_R_65 w_im_R_fail w_se_R_fail w_in_R w_co_R_fail) rfl rfl rfl (by decide +kernel) ⟨Nat.le_of_ble_eq_true rfl, Nat.le_of_ble_eq_true rfl⟩) (zM_V hG hS hFc hPc hDc hK 0 rfl rfl) rfl rfl hl.1 rfl (lv_room (Nat.le_of_ble_eq_true rfl)) dR_areDigits_55 ⟨Nat.le_of_ble_eq_true rfl, Nat.le_of_ble_eq_true rfl⟩) hS hFc (fun r_7 H locs h_55 hP1 hD1 hk1 hS => ?_)
            obtain ⟨hP, hD⟩ := va_join (wr := [(t0, .inr (2, [.ref t1, .int (nI len)])), (t1, .inl (cB, 400, .inl (aB tp)))]) (w1 := [(r0, .inr (1, [.ref f0, .int (nI 2), .int (nI (nx + (h / 2))), .ref t0, .int (nI nx), .int (nI lnb)]))]) hP hD [0] [1, 2] rfl rfl (by decide) (by decide) hk1 hFc hP1 hD1
            have hP : va_P (dC, dI) vwCl [(t0, .inr (2, [.ref t1, .int (nI len)])), (t1, .inl (cB, 400, .inl (aB tp))), (r0, .inr (1, [.ref f0, .int (nI 2), .int (nI (nx + (h / 2))), .ref t0, .int (nI nx), .int (nI lnb)]))] H := hP
            have hD : va_D A [(t0, .inr (2, [.ref t1, .int (nI len)])), (t1, .inl (cB, 400, .inl (aB tp))), (r0, .inr (1, [.ref f0, .int (nI 2), .int (nI (nx + (h / 2))), .ref t0, .int (nI nx), .int (nI lnb)]))] := hD
            subst h_55
            subst hAe
            subst hQ
            exact W.zret (v := nI 0) hx hb hr (by decide) (fun t ht hW => ⟨⟨nI 0, (), rfl, rfl, by rw [ht]; exact hP.sub [2, 0, 1] rfl, hD.sub [2, 0, 1] (by decide) rfl⟩, hS.F ht⟩) hS.2.2 dR_areDigits_58
    exact lp_19 ((ct % 2 + ct - 0) + 1) 0 (by omega) hd (Nat.lt_succ_self _) _ _ _ (lv_sub hl [2, 3, 1, 0] rfl) (hP.sub [0, 1, 2] rfl) (hD.sub [0, 1, 2] (by decide) rfl) hS
def rm_c_walkNumber_ok : Room := ({ frames := 3, cells := 0, slots := 0, locals := 66 } : Room)
set_option maxHeartbeats 4000000 in
set_option maxRecDepth 100000 in
theorem c_walkNumber_ok (l : Launch) (dC : Nat → ClassId) (dI : Nat → Nat → Nat) (r0 : Nat) (f0 : Nat) (fk : Nat) (fp : Int32) (t0 : Nat) (nx : Nat) (lnb : Nat) (t1 : Nat) (len : Nat) (cI : ClassId) (cB : ClassId) (tp : Nat → Nat) (ct : Nat) (hln : len ≤ 400) (hnl : nx ≤ len) (htp : ∀ j, tp j < 256) (hc : ct ≤ 4) (hd : dgF tp len nx ct = none) (sz : Nat) : Met l yR_walkNumber wsR_walkNumber rm_c_walkNumber_ok (zM (dC, dI) [(cI, .int), (cB, .byte)] [.ref r0, .int (nI ct)] [(r0, .inr (1, [.ref f0, .int (nI fk), .int fp, .ref t0, .int (nI nx), .int (nI lnb)])), (t0, .inr (2, [.ref t1, .int (nI len)])), (t1, .inl (cB, 400, .inl (aB tp)))] sz) (zMi (dC, dI) [(r0, .inr (1, [.ref f0, .int (nI fk), .int fp, .ref t0, .int (nI nx), .int (nI lnb)])), (t0, .inr (2, [.ref t1, .int (nI len)])), (t1, .inl (cB, 400, .inl (aB tp)))] [(r0, .inr (1, [.ref f0, .int (nI fk), .int fp, .ref t0, .int (nI (nx + (ct + 1) / 2)), .int (nI (nmA tp nx ct ct 0 0))])), (t0, .inr (2, [.ref t1, .int (nI len)])), (t1, .inl (cB, 400, .inl (aB tp)))] sz (fun r => r = nI 1)) 0 0 (va_A [(r0, .inr (1, [.ref f0, .int (nI fk), .int fp, .ref t0, .int (nI nx), .int (nI lnb)])), (t0, .inr (2, [.ref t1, .int (nI len)])), (t1, .inl (cB, 400, .inl (aB tp)))] sz) := by
  refine Met.ofW (cc := cR_walkNumber) (maxL := 3) (ret := (some .boolean)) (by decide) rfl ?_
  intro p e s m args below meth c s₁ Bd hml hv
  obtain ⟨rfl, hsz, hG, hP, hK, hD0⟩ := hv
  subst hsz
  have hx := Bd.exec
  have hb := Bd.bytes
  have hr := Bd.returns
  have hts := atoms_spec (ws := wsR_walkNumber) Bd.pre
  have hw : ∀ w ∈ BIG, w.before _ s = true := fun w h => hts w (List.mem_cons_of_mem _ h)
  have hown : s.vm.findClass RR = some m.cls := findClass_of_methodNamed Bd.named
  have hlocks := Bd.notSynchronized
  have hD := hD0.self (sz := s.heap.size)
  obtain ⟨A, hAe⟩ : ∃ A, A = va_A [(r0, .inr (1, [.ref f0, .int (nI fk), .int fp, .ref t0, .int (nI nx), .int (nI lnb)])), (t0, .inr (2, [.ref t1, .int (nI len)])), (t1, .inl (cB, 400, .inl (aB tp)))] s.heap.size := ⟨_, rfl⟩
  have hA : ∀ q : Nat, s.heap.size ≤ q → A q := fun q h => by rw [hAe]; exact Or.inr h
  rw [← hAe] at hG hD
  have hS : va_S A s.heap s.heap [] := va_S.rf
  have hl := lv_entry ([.ref r0, .int (nI ct)]) (n := 3) (Nat.le_of_ble_eq_true rfl)
  rw [lg_entry_eq]
  generalize (lg_sl ([.ref r0, .int (nI ct)]) ++ List.replicate (3 - (lg_sl ([.ref r0, .int (nI ct)])).length) Slot.unset).toArray = ls at hl ⊢
  have hl : lv_has ls 3 [(0, .ref r0), (1, .int (nI ct))] := hl
  refine zq_name (fun Q hQ => ?_)
  change W p l e rm_c_walkNumber_ok s m _ below meth c _ _ _ _ Q _
  have hs9 := dgF_fit hd
  refine lv_aload_n hx hb dR_walkNumber_0 rfl (lv_at hl 0 rfl) ?_
  refine lv_iload_n hx hb dR_walkNumber_1 rfl (lv_at hl 1 rfl) ?_
  refine zc_Ri (va_runV (As := [.int (nI ct)]) (rest := []) ⟨hx, hb, hml, hown, hw⟩ (c_areDigits_ok l dC dI r0 f0 fk fp t0 nx lnb t1 len cI cB tp ct (by omega) (by omega) htp (by omega) hd s.heap) (cwV 1 hw (gV w_ml_R_103 w_im_R_areDigits w_se_R_areDigits w_in_R w_co_R_areDigits) rfl rfl rfl (by decide +kernel) ⟨Nat.le_of_ble_eq_true rfl, Nat.le_of_ble_eq_true rfl⟩) (zR_V hG hS (hP.sub (ws' := [(r0, .inr (1, [.ref f0, .int (nI fk), .int fp, .ref t0, .int (nI nx), .int (nI lnb)])), (t0, .inr (2, [.ref t1, .int (nI len)])), (t1, .inl (cB, 400, .inl (aB tp)))]) [0, 1, 2] rfl) hK 0 rfl rfl) rfl rfl hl.1 rfl (lv_room (Nat.le_of_ble_eq_true rfl)) dR_walkNumber_2 ⟨Nat.le_of_ble_eq_true rfl, Nat.le_of_ble_eq_true rfl⟩) hS (fun r_1 locs h_2 hS => ?_)
  subst h_2
  refine lv_if_ne (tgt := 10) hx hb dR_walkNumber_5 (by decide) (fun c_5 => ?_) (fun q => False.elim (absurd q (by decide)))
  refine lv_aload_n hx hb dR_walkNumber_10 rfl (lv_at hl 0 rfl) ?_
  refine lv_iconst (v := nI 0) hx hb dR_walkNumber_11 (by decide) ?_
  refine va_put (D := (dC, dI)) (ci := 1) (v := .int (nI 0)) (ty := .int) (C := RR) (T := TR) (N := 6) hx hb hw inR tyR tyR_ok nmR hown hK hP hD hS 0 rfl rfl 5 (by decide) (hw _ w_fl_R_28) (fun _ h9 => h9) rfl (by decide +kernel) rfl rfl (Nat.le_of_ble_eq_true rfl) dR_walkNumber_12 (fun H locs hP hD hS => ?_)
  have hP : va_P (dC, dI) vwCl [(r0, .inr (1, [.ref f0, .int (nI fk), .int fp, .ref t0, .int (nI nx), .int (nI 0)])), (t0, .inr (2, [.ref t1, .int (nI len)])), (t1, .inl (cB, 400, .inl (aB tp)))] H := hP
  have hD : va_D A [(r0, .inr (1, [.ref f0, .int (nI fk), .int fp, .ref t0, .int (nI nx), .int (nI 0)])), (t0, .inr (2, [.ref t1, .int (nI len)])), (t1, .inl (cB, 400, .inl (aB tp)))] := hD
  refine lv_iconst (v := nI 0) hx hb dR_walkNumber_15 (by decide) ?_
  refine lv_istore_n (lv' := [(2, .int (nI 0)), (0, .ref r0), (1, .int (nI ct))]) hx hb dR_walkNumber_16 rfl hl (by decide) rfl (fun ls hl => ?_)
  have lp_17 : ∀ (fu : Nat) (k : Nat) (acc : Nat) (hk : k ≤ ct) (hi : nmA tp nx ct (ct - k) k acc = nmA tp nx ct ct 0 0) (hms : ct - k < fu) (H : Heap) (locs : List Loc) (ls : Array Slot), lv_has ls 3 [(0, .ref r0), (1, .int (nI ct)), (2, .int (nI k))] → va_P (dC, dI) vwCl [(r0, .inr (1, [.ref f0, .int (nI fk), .int fp, .ref t0, .int (nI nx), .int (nI acc)])), (t0, .inr (2, [.ref t1, .int (nI len)])), (t1, .inl (cB, 400, .inl (aB tp)))] H → va_D A [(r0, .inr (1, [.ref f0, .int (nI fk), .int fp, .ref t0, .int (nI nx), .int (nI acc)])), (t0, .inr (2, [.ref t1, .int (nI len)])), (t1, .inl (cB, 400, .inl (aB tp)))] → va_S A s.heap H locs → W p l e rm_c_walkNumber_ok s m ([.ref r0, .int (nI ct)] : List Value).toArray below meth c H locs 0 0 Q (F0 m 17 ls []) := by
    intro fu
    induction fu with
    | zero => intro k acc hk hi hms; exact absurd hms (Nat.not_lt_zero _)
    | succ fu ih17 =>
      intro k acc hk hi hms H locs ls hl hP hD hS
      refine lv_iload_n hx hb dR_walkNumber_17 rfl (lv_at hl 2 rfl) ?_
      refine lv_iload_n hx hb dR_walkNumber_18 rfl (lv_at hl 1 rfl) ?_
      refine zi_ge (tgt := 46) hx hb (by omega) (by omega) dR_walkNumber_19 (by decide) (fun c_19 => ?_) (fun c_19 => ?_)
      · rw [show ct - k = 0 by omega] at hi
        have hi : acc = nmA tp nx ct ct 0 0 := hi
        subst hi
        refine lv_aload_n hx hb dR_walkNumber_46 rfl (lv_at hl 0 rfl) ?_
        refine lv_dup hx hb dR_walkNumber_47 rfl ?_
        refine va_get (D := (dC, dI)) (ci := 1) (v := .int (nI nx)) (C := RR) (T := TR) (N := 6) hx hb hw inR hown hK hP 0 rfl rfl 4 (by decide) (hw _ w_fl_R_25) (fun _ h9 => h9) rfl dR_walkNumber_48 ?_
        refine lv_iload_n hx hb dR_walkNumber_51 rfl (lv_at hl 1 rfl) ?_
        refine zc_Ri (va_runSN (As := [.int (nI ct)]) (rest := [.int (nI nx), .ref r0]) ⟨hx, hb, hml, hown, hw⟩ (c_C_bytesOfDigits l dC dI cI cB ct (by omega) H) ⟨va_cnB 1 hw (gC w_co_C_bytesOfDigits) rfl rfl rfl (hG.nm (RR, 110, yC_bytesOfDigits) (List.mem_of_getElem? (i := 6) rfl)) (hw _ w_in_C) (by decide +kernel) ⟨Nat.le_of_ble_eq_true rfl, Nat.le_of_ble_eq_true rfl⟩, hw _ w_st_C_bytesOfDigits, trivial⟩ (zR_S hG hS (hP.sub (ws' := []) [] rfl) hK) rfl rfl hl.1 rfl (lv_room (Nat.le_of_ble_eq_true rfl)) dR_walkNumber_52 ⟨Nat.le_of_ble_eq_true rfl, Nat.le_of_ble_eq_true rfl⟩) hS (fun r_2 locs h_52 hS => ?_)
        subst h_52
        refine zi_add hx hb dR_walkNumber_55 ?_
        refine va_put (D := (dC, dI)) (ci := 1) (v := .int (nI (nx + ((ct + 1) / 2)))) (ty := .int) (C := RR) (T := TR) (N := 6) hx hb hw inR tyR tyR_ok nmR hown hK hP hD hS 0 rfl rfl 4 (by decide) (hw _ w_fl_R_25) (fun _ h9 => h9) rfl (by decide +kernel) rfl rfl (Nat.le_of_ble_eq_true rfl) dR_walkNumber_56 (fun H locs hP hD hS => ?_)
        have hP : va_P (dC, dI) vwCl [(r0, .inr (1, [.ref f0, .int (nI fk), .int fp, .ref t0, .int (nI (nx + ((ct + 1) / 2))), .int (nI (nmA tp nx ct ct 0 0))])), (t0, .inr (2, [.ref t1, .int (nI len)])), (t1, .inl (cB, 400, .inl (aB tp)))] H := hP
        have hD : va_D A [(r0, .inr (1, [.ref f0, .int (nI fk), .int fp, .ref t0, .int (nI (nx + ((ct + 1) / 2))), .int (nI (nmA tp nx ct ct 0 0))])), (t0, .inr (2, [.ref t1, .int (nI len)])), (t1, .inl (cB, 400, .inl (aB tp)))] := hD
        refine lv_iconst (v := nI 1) hx hb dR_walkNumber_59 (by decide) ?_
        subst hAe
        subst hQ
        exact W.zret (v := nI 1) hx hb hr (by decide) (fun t ht hW => ⟨⟨nI 1, (), rfl, rfl, by rw [ht]; exact hP.sub [0, 1, 2] rfl, hD.sub [0, 1, 2] (by decide) rfl⟩, hS.F ht⟩) hS.2.2 dR_walkNumber_60
      · refine lv_aload_n hx hb dR_walkNumber_22 rfl (lv_at hl 0 rfl) ?_
        refine lv_aload_n hx hb dR_walkNumber_23 rfl (lv_at hl 0 rfl) ?_
        refine va_get (D := (dC, dI)) (ci := 1) (v := .int (nI acc)) (C := RR) (T := TR) (N := 6) hx hb hw inR hown hK hP 0 rfl rfl 5 (by decide) (hw _ w_fl_R_28) (fun _ h9 => h9) rfl dR_walkNumber_24 ?_
        refine lv_bipush (v := nI 10) hx hb dR_walkNumber_27 (by decide) ?_
        refine zi_mul hx hb dR_walkNumber_29 ?_
        refine lv_aload_n hx hb dR_walkNumber_30 rfl (lv_at hl 0 rfl) ?_
        refine lv_iload_n hx hb dR_walkNumber_31 rfl (lv_at hl 2 rfl) ?_
        refine lv_iload_n hx hb dR_walkNumber_32 rfl (lv_at hl 1 rfl) ?_
        refine zc_Ri (va_runV (As := [.int (nI k), .int (nI ct)]) (rest := [.int (nI (acc * 10)), .ref r0]) ⟨hx, hb, hml, hown, hw⟩ (c_R_digitAhead l dC dI r0 f0 fk fp t0 nx acc t1 len cI cB tp k ct htp (by omega) (by omega) (by omega) H) (cwV 2 hw (gV w_ml_R_106 w_im_R_digitAhead w_se_R_digitAhead w_in_R w_co_R_digitAhead) rfl rfl rfl (by decide +kernel) ⟨Nat.le_of_ble_eq_true rfl, Nat.le_of_ble_eq_true rfl⟩) (zR_V hG hS (hP.sub (ws' := [(r0, .inr (1, [.ref f0, .int (nI fk), .int fp, .ref t0, .int (nI nx), .int (nI acc)])), (t0, .inr (2, [.ref t1, .int (nI len)])), (t1, .inl (cB, 400, .inl (aB tp)))]) [0, 1, 2] rfl) hK 0 rfl rfl) rfl rfl hl.1 rfl (lv_room (Nat.le_of_ble_eq_true rfl)) dR_walkNumber_33 ⟨Nat.le_of_ble_eq_true rfl, Nat.le_of_ble_eq_true rfl⟩) hS (fun r_3 locs h_33 hS => ?_)
        subst h_33
        refine zi_add hx hb dR_walkNumber_36 ?_
        refine va_put (D := (dC, dI)) (ci := 1) (v := .int (nI ((acc * 10) + (hf tp nx (ct % 2 + k))))) (ty := .int) (C := RR) (T := TR) (N := 6) hx hb hw inR tyR tyR_ok nmR hown hK hP hD hS 0 rfl rfl 5 (by decide) (hw _ w_fl_R_28) (fun _ h9 => h9) rfl (by decide +kernel) rfl rfl (Nat.le_of_ble_eq_true rfl) dR_walkNumber_37 (fun H locs hP hD hS => ?_)
        have hP : va_P (dC, dI) vwCl [(r0, .inr (1, [.ref f0, .int (nI fk), .int fp, .ref t0, .int (nI nx), .int (nI ((acc * 10) + (hf tp nx (ct % 2 + k))))])), (t0, .inr (2, [.ref t1, .int (nI len)])), (t1, .inl (cB, 400, .inl (aB tp)))] H := hP
        have hD : va_D A [(r0, .inr (1, [.ref f0, .int (nI fk), .int fp, .ref t0, .int (nI nx), .int (nI ((acc * 10) + (hf tp nx (ct % 2 + k))))])), (t0, .inr (2, [.ref t1, .int (nI len)])), (t1, .inl (cB, 400, .inl (aB tp)))] := hD
        refine lv_iinc (v := nI (k + 1)) (lv' := [(2, .int (nI (k + 1))), (0, .ref r0), (1, .int (nI ct))]) hx hb dR_walkNumber_40 hl (k := 2) rfl (zi_incr k 1) (by decide) rfl (fun ls hl => ?_)
        refine lv_goto (tgt := 17) hx hb dR_walkNumber_43 (by decide) ?_
        exact ih17 (k + 1) ((acc * 10) + (hf tp nx (ct % 2 + k))) (by omega) (by have h9 := hi; rw [show ct - k = ct - (k + 1) + 1 by omega] at h9; exact h9) (by omega) _ _ _ (lv_sub hl [1, 2, 0] rfl) (hP.sub [0, 1, 2] rfl) (hD.sub [0, 1, 2] (by decide) rfl) hS
  exact lp_17 ((ct - 0) + 1) 0 0 (by omega) rfl (Nat.lt_succ_self _) _ _ _ (lv_sub hl [1, 2, 0] rfl) (hP.sub [0, 1, 2] rfl) (hD.sub [0, 1, 2] (by decide) rfl) hS
def rm_c_walkNumber_no : Room := ({ frames := 3, cells := 0, slots := 0, locals := 66 } : Room)
set_option maxHeartbeats 4000000 in
set_option maxRecDepth 100000 in
theorem c_walkNumber_no (l : Launch) (dC : Nat → ClassId) (dI : Nat → Nat → Nat) (r0 : Nat) (f0 : Nat) (fk : Nat) (fp : Int32) (t0 : Nat) (nx : Nat) (lnb : Nat) (t1 : Nat) (len : Nat) (cI : ClassId) (cB : ClassId) (tp : Nat → Nat) (ct : Nat) (k2 : Nat) (p2 : Nat) (hln : len ≤ 400) (hnl : nx ≤ len) (htp : ∀ j, tp j < 256) (hc : ct ≤ 4) (hd : dgF tp len nx ct = some (k2, p2)) (sz : Nat) : Met l yR_walkNumber wsR_walkNumber rm_c_walkNumber_no (zM (dC, dI) [(cI, .int), (cB, .byte)] [.ref r0, .int (nI ct)] [(r0, .inr (1, [.ref f0, .int (nI fk), .int fp, .ref t0, .int (nI nx), .int (nI lnb)])), (t0, .inr (2, [.ref t1, .int (nI len)])), (t1, .inl (cB, 400, .inl (aB tp)))] sz) (zMi (dC, dI) [(r0, .inr (1, [.ref f0, .int (nI fk), .int fp, .ref t0, .int (nI nx), .int (nI lnb)])), (t0, .inr (2, [.ref t1, .int (nI len)])), (t1, .inl (cB, 400, .inl (aB tp)))] [(r0, .inr (1, [.ref f0, .int (nI k2), .int (nI p2), .ref t0, .int (nI nx), .int (nI lnb)])), (t0, .inr (2, [.ref t1, .int (nI len)])), (t1, .inl (cB, 400, .inl (aB tp)))] sz (fun r => r = nI 0)) 0 0 (va_A [(r0, .inr (1, [.ref f0, .int (nI fk), .int fp, .ref t0, .int (nI nx), .int (nI lnb)])), (t0, .inr (2, [.ref t1, .int (nI len)])), (t1, .inl (cB, 400, .inl (aB tp)))] sz) := by
  refine Met.ofW (cc := cR_walkNumber) (maxL := 3) (ret := (some .boolean)) (by decide) rfl ?_
  intro p e s m args below meth c s₁ Bd hml hv
  obtain ⟨rfl, hsz, hG, hP, hK, hD0⟩ := hv
  subst hsz
  have hx := Bd.exec
  have hb := Bd.bytes
  have hr := Bd.returns
  have hts := atoms_spec (ws := wsR_walkNumber) Bd.pre
  have hw : ∀ w ∈ BIG, w.before _ s = true := fun w h => hts w (List.mem_cons_of_mem _ h)
  have hown : s.vm.findClass RR = some m.cls := findClass_of_methodNamed Bd.named
  have hlocks := Bd.notSynchronized
  have hD := hD0.self (sz := s.heap.size)
  obtain ⟨A, hAe⟩ : ∃ A, A = va_A [(r0, .inr (1, [.ref f0, .int (nI fk), .int fp, .ref t0, .int (nI nx), .int (nI lnb)])), (t0, .inr (2, [.ref t1, .int (nI len)])), (t1, .inl (cB, 400, .inl (aB tp)))] s.heap.size := ⟨_, rfl⟩
  have hA : ∀ q : Nat, s.heap.size ≤ q → A q := fun q h => by rw [hAe]; exact Or.inr h
  rw [← hAe] at hG hD
  have hS : va_S A s.heap s.heap [] := va_S.rf
  have hl := lv_entry ([.ref r0, .int (nI ct)]) (n := 3) (Nat.le_of_ble_eq_true rfl)
  rw [lg_entry_eq]
  generalize (lg_sl ([.ref r0, .int (nI ct)]) ++ List.replicate (3 - (lg_sl ([.ref r0, .int (nI ct)])).length) Slot.unset).toArray = ls at hl ⊢
  have hl : lv_has ls 3 [(0, .ref r0), (1, .int (nI ct))] := hl
  refine zq_name (fun Q hQ => ?_)
  change W p l e rm_c_walkNumber_no s m _ below meth c _ _ _ _ Q _
  refine lv_aload_n hx hb dR_walkNumber_0 rfl (lv_at hl 0 rfl) ?_
  refine lv_iload_n hx hb dR_walkNumber_1 rfl (lv_at hl 1 rfl) ?_
  have hPc := hP.sub (ws' := [(r0, .inr (1, [.ref f0, .int (nI fk), .int fp, .ref t0, .int (nI nx), .int (nI lnb)])), (t0, .inr (2, [.ref t1, .int (nI len)])), (t1, .inl (cB, 400, .inl (aB tp)))]) [0, 1, 2] rfl
  have hDc := hD.sub (ws' := [(r0, .inr (1, [.ref f0, .int (nI fk), .int fp, .ref t0, .int (nI nx), .int (nI lnb)])), (t0, .inr (2, [.ref t1, .int (nI len)])), (t1, .inl (cB, 400, .inl (aB tp)))]) [0, 1, 2] (by decide) rfl
  have hFc := va_free (wc := [(r0, .inr (1, [.ref f0, .int (nI fk), .int fp, .ref t0, .int (nI nx), .int (nI lnb)])), (t0, .inr (2, [.ref t1, .int (nI len)])), (t1, .inl (cB, 400, .inl (aB tp)))]) hD hS hA [0, 1, 2] rfl
  refine zc_Mi (va_runV (As := [.int (nI ct)]) (rest := []) ⟨hx, hb, hml, hown, hw⟩ (c_areDigits_no l dC dI r0 f0 fk fp t0 nx lnb t1 len cI cB tp ct k2 p2 (by omega) (by omega) htp (by omega) hd s.heap.size) (cwV 1 hw (gV w_ml_R_103 w_im_R_areDigits w_se_R_areDigits w_in_R w_co_R_areDigits) rfl rfl rfl (by decide +kernel) ⟨Nat.le_of_ble_eq_true rfl, Nat.le_of_ble_eq_true rfl⟩) (zM_V hG hS hFc hPc hDc hK 0 rfl rfl) rfl rfl hl.1 rfl (lv_room (Nat.le_of_ble_eq_true rfl)) dR_walkNumber_2 ⟨Nat.le_of_ble_eq_true rfl, Nat.le_of_ble_eq_true rfl⟩) hS hFc (fun r_1 H locs h_2 hP1 hD1 hk1 hS => ?_)
  obtain ⟨hP, hD⟩ := va_join (wr := []) (w1 := [(r0, .inr (1, [.ref f0, .int (nI k2), .int (nI p2), .ref t0, .int (nI nx), .int (nI lnb)])), (t0, .inr (2, [.ref t1, .int (nI len)])), (t1, .inl (cB, 400, .inl (aB tp)))]) hP hD [0, 1, 2] [] rfl rfl (by decide) (by decide) hk1 hFc hP1 hD1
  have hP : va_P (dC, dI) vwCl [(r0, .inr (1, [.ref f0, .int (nI k2), .int (nI p2), .ref t0, .int (nI nx), .int (nI lnb)])), (t0, .inr (2, [.ref t1, .int (nI len)])), (t1, .inl (cB, 400, .inl (aB tp)))] H := hP
  have hD : va_D A [(r0, .inr (1, [.ref f0, .int (nI k2), .int (nI p2), .ref t0, .int (nI nx), .int (nI lnb)])), (t0, .inr (2, [.ref t1, .int (nI len)])), (t1, .inl (cB, 400, .inl (aB tp)))] := hD
  subst h_2
  refine lv_if_ne (tgt := 10) hx hb dR_walkNumber_5 (by decide) (fun q => False.elim (absurd q (by decide))) (fun c_5 => ?_)
  refine lv_iconst (v := nI 0) hx hb dR_walkNumber_8 (by decide) ?_
  subst hAe
  subst hQ
  exact W.zret (v := nI 0) hx hb hr (by decide) (fun t ht hW => ⟨⟨nI 0, (), rfl, rfl, by rw [ht]; exact hP.sub [0, 1, 2] rfl, hD.sub [0, 1, 2] (by decide) rfl⟩, hS.F ht⟩) hS.2.2 dR_walkNumber_9
def rm_c_walkDigits_ok : Room := ({ frames := 3, cells := 0, slots := 0, locals := 66 } : Room)
set_option maxHeartbeats 4000000 in
set_option maxRecDepth 100000 in
theorem c_walkDigits_ok (l : Launch) (dC : Nat → ClassId) (dI : Nat → Nat → Nat) (r0 : Nat) (f0 : Nat) (fk : Nat) (fp : Int32) (t0 : Nat) (nx : Nat) (lnb : Nat) (t1 : Nat) (len : Nat) (cI : ClassId) (cB : ClassId) (tp : Nat → Nat) (f1 : Nat) (f2 : Nat) (ty : Nat) (cnt : Nat → Nat) (mk : Nat → Nat) (sl : Nat) (ct : Nat) (hln : len ≤ 400) (hnl : nx ≤ len) (htp : ∀ j, tp j < 256) (hs : sl < 16) (hb : fFM sl + ct ≤ 208) (hc : ct < 100) (hd : dgF tp len nx ct = none) (sz : Nat) : Met l yR_walkDigits wsR_walkDigits rm_c_walkDigits_ok (zM (dC, dI) [(cI, .int), (cB, .byte)] [.ref r0, .int (nI sl), .int (nI ct)] [(r0, .inr (1, [.ref f0, .int (nI fk), .int fp, .ref t0, .int (nI nx), .int (nI lnb)])), (t0, .inr (2, [.ref t1, .int (nI len)])), (t1, .inl (cB, 400, .inl (aB tp))), (f0, .inr (0, [.int (nI ty), .ref f1, .ref f2])), (f1, .inl (cI, 16, .inl (aN cnt))), (f2, .inl (cB, 208, .inl (aN mk)))] sz) (zMi (dC, dI) [(r0, .inr (1, [.ref f0, .int (nI fk), .int fp, .ref t0, .int (nI nx), .int (nI lnb)])), (t0, .inr (2, [.ref t1, .int (nI len)])), (t1, .inl (cB, 400, .inl (aB tp))), (f0, .inr (0, [.int (nI ty), .ref f1, .ref f2])), (f1, .inl (cI, 16, .inl (aN cnt))), (f2, .inl (cB, 208, .inl (aN mk)))] [(r0, .inr (1, [.ref f0, .int (nI fk), .int fp, .ref t0, .int (nI (nx + (ct + 1) / 2)), .int (nI lnb)])), (t0, .inr (2, [.ref t1, .int (nI len)])), (t1, .inl (cB, 400, .inl (aB tp))), (f0, .inr (0, [.int (nI ty), .ref f1, .ref f2])), (f1, .inl (cI, 16, .inl (aN (nup cnt sl ct)))), (f2, .inl (cB, 208, .inl (aN (dgC tp nx ct (fFM sl) ct 0 mk))))] sz (fun r => r = nI 1)) 0 0 (va_A [(r0, .inr (1, [.ref f0, .int (nI fk), .int fp, .ref t0, .int (nI nx), .int (nI lnb)])), (t0, .inr (2, [.ref t1, .int (nI len)])), (t1, .inl (cB, 400, .inl (aB tp))), (f0, .inr (0, [.int (nI ty), .ref f1, .ref f2])), (f1, .inl (cI, 16, .inl (aN cnt))), (f2, .inl (cB, 208, .inl (aN mk)))] sz) := by
  refine Met.ofW (cc := cR_walkDigits) (maxL := 4) (ret := (some .boolean)) (by decide) rfl ?_
  intro p e s m args below meth c s₁ Bd hml hv
  obtain ⟨rfl, hsz, hG, hP, hK, hD0⟩ := hv
  subst hsz
  have hx := Bd.exec
  have hb := Bd.bytes
  have hr := Bd.returns
  have hts := atoms_spec (ws := wsR_walkDigits) Bd.pre
  have hw : ∀ w ∈ BIG, w.before _ s = true := fun w h => hts w (List.mem_cons_of_mem _ h)
  have hown : s.vm.findClass RR = some m.cls := findClass_of_methodNamed Bd.named
  have hlocks := Bd.notSynchronized
  have hD := hD0.self (sz := s.heap.size)
  obtain ⟨A, hAe⟩ : ∃ A, A = va_A [(r0, .inr (1, [.ref f0, .int (nI fk), .int fp, .ref t0, .int (nI nx), .int (nI lnb)])), (t0, .inr (2, [.ref t1, .int (nI len)])), (t1, .inl (cB, 400, .inl (aB tp))), (f0, .inr (0, [.int (nI ty), .ref f1, .ref f2])), (f1, .inl (cI, 16, .inl (aN cnt))), (f2, .inl (cB, 208, .inl (aN mk)))] s.heap.size := ⟨_, rfl⟩
  have hA : ∀ q : Nat, s.heap.size ≤ q → A q := fun q h => by rw [hAe]; exact Or.inr h
  rw [← hAe] at hG hD
  have hS : va_S A s.heap s.heap [] := va_S.rf
  have hl := lv_entry ([.ref r0, .int (nI sl), .int (nI ct)]) (n := 4) (Nat.le_of_ble_eq_true rfl)
  rw [lg_entry_eq]
  generalize (lg_sl ([.ref r0, .int (nI sl), .int (nI ct)]) ++ List.replicate (4 - (lg_sl ([.ref r0, .int (nI sl), .int (nI ct)])).length) Slot.unset).toArray = ls at hl ⊢
  have hl : lv_has ls 4 [(0, .ref r0), (1, .int (nI sl)), (2, .int (nI ct))] := hl
  refine zq_name (fun Q hQ => ?_)
  change W p l e rm_c_walkDigits_ok s m _ below meth c _ _ _ _ Q _
  have hs9 := dgF_fit hd
  have hb9 : ∀ j, hf tp nx j < 16 := hf_lt htp nx
  refine lv_aload_n hx hb dR_walkDigits_0 rfl (lv_at hl 0 rfl) ?_
  refine lv_iload_n hx hb dR_walkDigits_1 rfl (lv_at hl 2 rfl) ?_
  refine zc_Ri (va_runV (As := [.int (nI ct)]) (rest := []) ⟨hx, hb, hml, hown, hw⟩ (c_areDigits_ok l dC dI r0 f0 fk fp t0 nx lnb t1 len cI cB tp ct (by omega) (by omega) htp (by omega) hd s.heap) (cwV 1 hw (gV w_ml_R_103 w_im_R_areDigits w_se_R_areDigits w_in_R w_co_R_areDigits) rfl rfl rfl (by decide +kernel) ⟨Nat.le_of_ble_eq_true rfl, Nat.le_of_ble_eq_true rfl⟩) (zR_V hG hS (hP.sub (ws' := [(r0, .inr (1, [.ref f0, .int (nI fk), .int fp, .ref t0, .int (nI nx), .int (nI lnb)])), (t0, .inr (2, [.ref t1, .int (nI len)])), (t1, .inl (cB, 400, .inl (aB tp)))]) [0, 1, 2] rfl) hK 0 rfl rfl) rfl rfl hl.1 rfl (lv_room (Nat.le_of_ble_eq_true rfl)) dR_walkDigits_2 ⟨Nat.le_of_ble_eq_true rfl, Nat.le_of_ble_eq_true rfl⟩) hS (fun r_1 locs h_2 hS => ?_)
  subst h_2
  refine lv_if_ne (tgt := 10) hx hb dR_walkDigits_5 (by decide) (fun c_5 => ?_) (fun q => False.elim (absurd q (by decide)))
  refine lv_iconst (v := nI 0) hx hb dR_walkDigits_10 (by decide) ?_
  refine lv_istore_n (lv' := [(3, .int (nI 0)), (0, .ref r0), (1, .int (nI sl)), (2, .int (nI ct))]) hx hb dR_walkDigits_11 rfl hl (by decide) rfl (fun ls hl => ?_)
  have lp_12 : ∀ (fu : Nat) (k : Nat) (f : Nat → Nat) (hk : k ≤ ct) (hi : dgC tp nx ct (fFM sl) (ct - k) k f = dgC tp nx ct (fFM sl) ct 0 mk) (hms : ct - k < fu) (H : Heap) (locs : List Loc) (ls : Array Slot), lv_has ls 4 [(0, .ref r0), (1, .int (nI sl)), (2, .int (nI ct)), (3, .int (nI k))] → va_P (dC, dI) vwCl [(r0, .inr (1, [.ref f0, .int (nI fk), .int fp, .ref t0, .int (nI nx), .int (nI lnb)])), (t0, .inr (2, [.ref t1, .int (nI len)])), (t1, .inl (cB, 400, .inl (aB tp))), (f0, .inr (0, [.int (nI ty), .ref f1, .ref f2])), (f1, .inl (cI, 16, .inl (aN cnt))), (f2, .inl (cB, 208, .inl (aN f)))] H → va_D A [(r0, .inr (1, [.ref f0, .int (nI fk), .int fp, .ref t0, .int (nI nx), .int (nI lnb)])), (t0, .inr (2, [.ref t1, .int (nI len)])), (t1, .inl (cB, 400, .inl (aB tp))), (f0, .inr (0, [.int (nI ty), .ref f1, .ref f2])), (f1, .inl (cI, 16, .inl (aN cnt))), (f2, .inl (cB, 208, .inl (aN f)))] → va_S A s.heap H locs → W p l e rm_c_walkDigits_ok s m ([.ref r0, .int (nI sl), .int (nI ct)] : List Value).toArray below meth c H locs 0 0 Q (F0 m 12 ls []) := by
    intro fu
    induction fu with
    | zero => intro k f hk hi hms; exact absurd hms (Nat.not_lt_zero _)
    | succ fu ih12 =>
      intro k f hk hi hms H locs ls hl hP hD hS
      refine lv_iload_n hx hb dR_walkDigits_12 rfl (lv_at hl 3 rfl) ?_
      refine lv_iload_n hx hb dR_walkDigits_13 rfl (lv_at hl 2 rfl) ?_
      refine zi_ge (tgt := 38) hx hb (by omega) (by omega) dR_walkDigits_14 (by decide) (fun c_14 => ?_) (fun c_14 => ?_)
      · rw [show ct - k = 0 by omega] at hi
        have hi : f = dgC tp nx ct (fFM sl) ct 0 mk := hi
        subst hi
        refine lv_aload_n hx hb dR_walkDigits_38 rfl (lv_at hl 0 rfl) ?_
        refine va_get (D := (dC, dI)) (ci := 1) (v := .ref f0) (C := RR) (T := TR) (N := 6) hx hb hw inR hown hK hP 0 rfl rfl 0 (by decide) (hw _ w_fl_R_12) (fun _ h9 => h9) rfl dR_walkDigits_39 ?_
        refine va_get (D := (dC, dI)) (ci := 0) (v := .ref f1) (C := RD) (T := TD) (N := 3) hx hb hw inD hown hK hP 3 rfl rfl 1 (by decide) (hw _ w_fl_R_117) (fun _ h9 => h9) rfl dR_walkDigits_42 ?_
        refine lv_iload_n hx hb dR_walkDigits_45 rfl (lv_at hl 1 rfl) ?_
        refine lv_iload_n hx hb dR_walkDigits_46 rfl (lv_at hl 2 rfl) ?_
        refine za_ist hx hb hK hP hD hS 4 0 rfl rfl (by omega) (by decide) dR_walkDigits_47 (fun H locs hP hD hS => ?_)
        have hP : va_P (dC, dI) vwCl [(r0, .inr (1, [.ref f0, .int (nI fk), .int fp, .ref t0, .int (nI nx), .int (nI lnb)])), (t0, .inr (2, [.ref t1, .int (nI len)])), (t1, .inl (cB, 400, .inl (aB tp))), (f0, .inr (0, [.int (nI ty), .ref f1, .ref f2])), (f1, .inl (cI, 16, .inl (aN (nup cnt sl ct)))), (f2, .inl (cB, 208, .inl (aN (dgC tp nx ct (fFM sl) ct 0 mk))))] H := hP
        have hD : va_D A [(r0, .inr (1, [.ref f0, .int (nI fk), .int fp, .ref t0, .int (nI nx), .int (nI lnb)])), (t0, .inr (2, [.ref t1, .int (nI len)])), (t1, .inl (cB, 400, .inl (aB tp))), (f0, .inr (0, [.int (nI ty), .ref f1, .ref f2])), (f1, .inl (cI, 16, .inl (aN (nup cnt sl ct)))), (f2, .inl (cB, 208, .inl (aN (dgC tp nx ct (fFM sl) ct 0 mk))))] := hD
        refine lv_aload_n hx hb dR_walkDigits_48 rfl (lv_at hl 0 rfl) ?_
        refine lv_dup hx hb dR_walkDigits_49 rfl ?_
        refine va_get (D := (dC, dI)) (ci := 1) (v := .int (nI nx)) (C := RR) (T := TR) (N := 6) hx hb hw inR hown hK hP 0 rfl rfl 4 (by decide) (hw _ w_fl_R_25) (fun _ h9 => h9) rfl dR_walkDigits_50 ?_
        refine lv_iload_n hx hb dR_walkDigits_53 rfl (lv_at hl 2 rfl) ?_
        refine zc_Ri (va_runSN (As := [.int (nI ct)]) (rest := [.int (nI nx), .ref r0]) ⟨hx, hb, hml, hown, hw⟩ (c_C_bytesOfDigits l dC dI cI cB ct (by omega) H) ⟨va_cnB 1 hw (gC w_co_C_bytesOfDigits) rfl rfl rfl (hG.nm (RR, 110, yC_bytesOfDigits) (List.mem_of_getElem? (i := 6) rfl)) (hw _ w_in_C) (by decide +kernel) ⟨Nat.le_of_ble_eq_true rfl, Nat.le_of_ble_eq_true rfl⟩, hw _ w_st_C_bytesOfDigits, trivial⟩ (zR_S hG hS (hP.sub (ws' := []) [] rfl) hK) rfl rfl hl.1 rfl (lv_room (Nat.le_of_ble_eq_true rfl)) dR_walkDigits_54 ⟨Nat.le_of_ble_eq_true rfl, Nat.le_of_ble_eq_true rfl⟩) hS (fun r_2 locs h_54 hS => ?_)
        subst h_54
        refine zi_add hx hb dR_walkDigits_57 ?_
        refine va_put (D := (dC, dI)) (ci := 1) (v := .int (nI (nx + ((ct + 1) / 2)))) (ty := .int) (C := RR) (T := TR) (N := 6) hx hb hw inR tyR tyR_ok nmR hown hK hP hD hS 0 rfl rfl 4 (by decide) (hw _ w_fl_R_25) (fun _ h9 => h9) rfl (by decide +kernel) rfl rfl (Nat.le_of_ble_eq_true rfl) dR_walkDigits_58 (fun H locs hP hD hS => ?_)
        have hP : va_P (dC, dI) vwCl [(r0, .inr (1, [.ref f0, .int (nI fk), .int fp, .ref t0, .int (nI (nx + ((ct + 1) / 2))), .int (nI lnb)])), (t0, .inr (2, [.ref t1, .int (nI len)])), (t1, .inl (cB, 400, .inl (aB tp))), (f0, .inr (0, [.int (nI ty), .ref f1, .ref f2])), (f1, .inl (cI, 16, .inl (aN (nup cnt sl ct)))), (f2, .inl (cB, 208, .inl (aN (dgC tp nx ct (fFM sl) ct 0 mk))))] H := hP
        have hD : va_D A [(r0, .inr (1, [.ref f0, .int (nI fk), .int fp, .ref t0, .int (nI (nx + ((ct + 1) / 2))), .int (nI lnb)])), (t0, .inr (2, [.ref t1, .int (nI len)])), (t1, .inl (cB, 400, .inl (aB tp))), (f0, .inr (0, [.int (nI ty), .ref f1, .ref f2])), (f1, .inl (cI, 16, .inl (aN (nup cnt sl ct)))), (f2, .inl (cB, 208, .inl (aN (dgC tp nx ct (fFM sl) ct 0 mk))))] := hD
        refine lv_iconst (v := nI 1) hx hb dR_walkDigits_61 (by decide) ?_
        subst hAe
        subst hQ
        exact W.zret (v := nI 1) hx hb hr (by decide) (fun t ht hW => ⟨⟨nI 1, (), rfl, rfl, by rw [ht]; exact hP.sub [0, 1, 2, 3, 4, 5] rfl, hD.sub [0, 1, 2, 3, 4, 5] (by decide) rfl⟩, hS.F ht⟩) hS.2.2 dR_walkDigits_62
      · refine lv_aload_n hx hb dR_walkDigits_17 rfl (lv_at hl 0 rfl) ?_
        refine va_get (D := (dC, dI)) (ci := 1) (v := .ref f0) (C := RR) (T := TR) (N := 6) hx hb hw inR hown hK hP 0 rfl rfl 0 (by decide) (hw _ w_fl_R_12) (fun _ h9 => h9) rfl dR_walkDigits_18 ?_
        refine lv_iload_n hx hb dR_walkDigits_21 rfl (lv_at hl 1 rfl) ?_
        refine lv_iload_n hx hb dR_walkDigits_22 rfl (lv_at hl 3 rfl) ?_
        refine lv_aload_n hx hb dR_walkDigits_23 rfl (lv_at hl 0 rfl) ?_
        refine lv_iload_n hx hb dR_walkDigits_24 rfl (lv_at hl 3 rfl) ?_
        refine lv_iload_n hx hb dR_walkDigits_25 rfl (lv_at hl 2 rfl) ?_
        refine zc_Ri (va_runV (As := [.int (nI k), .int (nI ct)]) (rest := [.int (nI k), .int (nI sl), .ref f0]) ⟨hx, hb, hml, hown, hw⟩ (c_R_digitAhead l dC dI r0 f0 fk fp t0 nx lnb t1 len cI cB tp k ct htp (by omega) (by omega) (by omega) H) (cwV 2 hw (gV w_ml_R_106 w_im_R_digitAhead w_se_R_digitAhead w_in_R w_co_R_digitAhead) rfl rfl rfl (by decide +kernel) ⟨Nat.le_of_ble_eq_true rfl, Nat.le_of_ble_eq_true rfl⟩) (zR_V hG hS (hP.sub (ws' := [(r0, .inr (1, [.ref f0, .int (nI fk), .int fp, .ref t0, .int (nI nx), .int (nI lnb)])), (t0, .inr (2, [.ref t1, .int (nI len)])), (t1, .inl (cB, 400, .inl (aB tp)))]) [0, 1, 2] rfl) hK 0 rfl rfl) rfl rfl hl.1 rfl (lv_room (Nat.le_of_ble_eq_true rfl)) dR_walkDigits_26 ⟨Nat.le_of_ble_eq_true rfl, Nat.le_of_ble_eq_true rfl⟩) hS (fun r_3 locs h_26 hS => ?_)
        subst h_26
        have hPc := hP.sub (ws' := [(f0, .inr (0, [.int (nI ty), .ref f1, .ref f2])), (f2, .inl (cB, 208, .inl (aN f)))]) [3, 5] rfl
        have hDc := hD.sub (ws' := [(f0, .inr (0, [.int (nI ty), .ref f1, .ref f2])), (f2, .inl (cB, 208, .inl (aN f)))]) [3, 5] (by decide) rfl
        have hFc := va_free (wc := [(f0, .inr (0, [.int (nI ty), .ref f1, .ref f2])), (f2, .inl (cB, 208, .inl (aN f)))]) hD hS hA [3, 5] rfl
        refine zc_Mv (va_runV (As := [.int (nI sl), .int (nI k), .int (nI (hf tp nx (ct % 2 + k)))]) (rest := []) ⟨hx, hb, hml, hown, hw⟩ (c_D_setMark l dC dI f0 f1 f2 cI cB ty f sl k (hf tp nx (ct % 2 + k)) (by omega) (by omega) (Nat.lt_trans (hb9 _) (by decide)) H.size) (cwV 3 hw (gV w_ml_R_113 w_im_D_setMark w_se_D_setMark w_in_D w_co_D_setMark) rfl rfl rfl (by decide +kernel) ⟨Nat.le_of_ble_eq_true rfl, Nat.le_of_ble_eq_true rfl⟩) (zM_V hG hS hFc hPc hDc hK 0 rfl rfl) rfl rfl hl.1 rfl (lv_room (Nat.le_of_ble_eq_true rfl)) dR_walkDigits_29 ⟨Nat.le_of_ble_eq_true rfl, Nat.le_of_ble_eq_true rfl⟩) hS hFc (fun H locs h_29 hP1 hD1 hk1 hS => ?_)
        obtain ⟨hP, hD⟩ := va_join (wr := [(r0, .inr (1, [.ref f0, .int (nI fk), .int fp, .ref t0, .int (nI nx), .int (nI lnb)])), (t0, .inr (2, [.ref t1, .int (nI len)])), (t1, .inl (cB, 400, .inl (aB tp))), (f1, .inl (cI, 16, .inl (aN cnt)))]) (w1 := [(f0, .inr (0, [.int (nI ty), .ref f1, .ref f2])), (f2, .inl (cB, 208, .inl (aN (nup f (fFM sl + k) (hf tp nx (ct % 2 + k))))))]) hP hD [3, 5] [0, 1, 2, 4] rfl rfl (by decide) (by decide) hk1 hFc hP1 hD1
        have hP : va_P (dC, dI) vwCl [(r0, .inr (1, [.ref f0, .int (nI fk), .int fp, .ref t0, .int (nI nx), .int (nI lnb)])), (t0, .inr (2, [.ref t1, .int (nI len)])), (t1, .inl (cB, 400, .inl (aB tp))), (f1, .inl (cI, 16, .inl (aN cnt))), (f0, .inr (0, [.int (nI ty), .ref f1, .ref f2])), (f2, .inl (cB, 208, .inl (aN (nup f (fFM sl + k) (hf tp nx (ct % 2 + k))))))] H := hP
        have hD : va_D A [(r0, .inr (1, [.ref f0, .int (nI fk), .int fp, .ref t0, .int (nI nx), .int (nI lnb)])), (t0, .inr (2, [.ref t1, .int (nI len)])), (t1, .inl (cB, 400, .inl (aB tp))), (f1, .inl (cI, 16, .inl (aN cnt))), (f0, .inr (0, [.int (nI ty), .ref f1, .ref f2])), (f2, .inl (cB, 208, .inl (aN (nup f (fFM sl + k) (hf tp nx (ct % 2 + k))))))] := hD
        refine lv_iinc (v := nI (k + 1)) (lv' := [(3, .int (nI (k + 1))), (0, .ref r0), (1, .int (nI sl)), (2, .int (nI ct))]) hx hb dR_walkDigits_32 hl (k := 3) rfl (zi_incr k 1) (by decide) rfl (fun ls hl => ?_)
        refine lv_goto (tgt := 12) hx hb dR_walkDigits_35 (by decide) ?_
        exact ih12 (k + 1) (nup f (fFM sl + k) (hf tp nx (ct % 2 + k))) (by omega) (by have h9 := hi; rw [show ct - k = ct - (k + 1) + 1 by omega] at h9; exact h9) (by omega) _ _ _ (lv_sub hl [1, 2, 3, 0] rfl) (hP.sub [0, 1, 2, 4, 3, 5] rfl) (hD.sub [0, 1, 2, 4, 3, 5] (by decide) rfl) hS
  exact lp_12 ((ct - 0) + 1) 0 mk (by omega) rfl (Nat.lt_succ_self _) _ _ _ (lv_sub hl [1, 2, 3, 0] rfl) (hP.sub [0, 1, 2, 3, 4, 5] rfl) (hD.sub [0, 1, 2, 3, 4, 5] (by decide) rfl) hS
def rm_c_walkDigits_no : Room := ({ frames := 3, cells := 0, slots := 0, locals := 66 } : Room)
set_option maxHeartbeats 4000000 in
set_option maxRecDepth 100000 in
theorem c_walkDigits_no (l : Launch) (dC : Nat → ClassId) (dI : Nat → Nat → Nat) (r0 : Nat) (f0 : Nat) (fk : Nat) (fp : Int32) (t0 : Nat) (nx : Nat) (lnb : Nat) (t1 : Nat) (len : Nat) (cI : ClassId) (cB : ClassId) (tp : Nat → Nat) (sl : Nat) (ct : Nat) (k2 : Nat) (p2 : Nat) (hln : len ≤ 400) (hnl : nx ≤ len) (htp : ∀ j, tp j < 256) (hc : ct < 100) (hd : dgF tp len nx ct = some (k2, p2)) (sz : Nat) : Met l yR_walkDigits wsR_walkDigits rm_c_walkDigits_no (zM (dC, dI) [(cI, .int), (cB, .byte)] [.ref r0, .int (nI sl), .int (nI ct)] [(r0, .inr (1, [.ref f0, .int (nI fk), .int fp, .ref t0, .int (nI nx), .int (nI lnb)])), (t0, .inr (2, [.ref t1, .int (nI len)])), (t1, .inl (cB, 400, .inl (aB tp)))] sz) (zMi (dC, dI) [(r0, .inr (1, [.ref f0, .int (nI fk), .int fp, .ref t0, .int (nI nx), .int (nI lnb)])), (t0, .inr (2, [.ref t1, .int (nI len)])), (t1, .inl (cB, 400, .inl (aB tp)))] [(r0, .inr (1, [.ref f0, .int (nI k2), .int (nI p2), .ref t0, .int (nI nx), .int (nI lnb)])), (t0, .inr (2, [.ref t1, .int (nI len)])), (t1, .inl (cB, 400, .inl (aB tp)))] sz (fun r => r = nI 0)) 0 0 (va_A [(r0, .inr (1, [.ref f0, .int (nI fk), .int fp, .ref t0, .int (nI nx), .int (nI lnb)])), (t0, .inr (2, [.ref t1, .int (nI len)])), (t1, .inl (cB, 400, .inl (aB tp)))] sz) := by
  refine Met.ofW (cc := cR_walkDigits) (maxL := 4) (ret := (some .boolean)) (by decide) rfl ?_
  intro p e s m args below meth c s₁ Bd hml hv
  obtain ⟨rfl, hsz, hG, hP, hK, hD0⟩ := hv
  subst hsz
  have hx := Bd.exec
  have hb := Bd.bytes
  have hr := Bd.returns
  have hts := atoms_spec (ws := wsR_walkDigits) Bd.pre
  have hw : ∀ w ∈ BIG, w.before _ s = true := fun w h => hts w (List.mem_cons_of_mem _ h)
  have hown : s.vm.findClass RR = some m.cls := findClass_of_methodNamed Bd.named
  have hlocks := Bd.notSynchronized
  have hD := hD0.self (sz := s.heap.size)
  obtain ⟨A, hAe⟩ : ∃ A, A = va_A [(r0, .inr (1, [.ref f0, .int (nI fk), .int fp, .ref t0, .int (nI nx), .int (nI lnb)])), (t0, .inr (2, [.ref t1, .int (nI len)])), (t1, .inl (cB, 400, .inl (aB tp)))] s.heap.size := ⟨_, rfl⟩
  have hA : ∀ q : Nat, s.heap.size ≤ q → A q := fun q h => by rw [hAe]; exact Or.inr h
  rw [← hAe] at hG hD
  have hS : va_S A s.heap s.heap [] := va_S.rf
  have hl := lv_entry ([.ref r0, .int (nI sl), .int (nI ct)]) (n := 4) (Nat.le_of_ble_eq_true rfl)
  rw [lg_entry_eq]
  generalize (lg_sl ([.ref r0, .int (nI sl), .int (nI ct)]) ++ List.replicate (4 - (lg_sl ([.ref r0, .int (nI sl), .int (nI ct)])).length) Slot.unset).toArray = ls at hl ⊢
  have hl : lv_has ls 4 [(0, .ref r0), (1, .int (nI sl)), (2, .int (nI ct))] := hl
  refine zq_name (fun Q hQ => ?_)
  change W p l e rm_c_walkDigits_no s m _ below meth c _ _ _ _ Q _
  refine lv_aload_n hx hb dR_walkDigits_0 rfl (lv_at hl 0 rfl) ?_
  refine lv_iload_n hx hb dR_walkDigits_1 rfl (lv_at hl 2 rfl) ?_
  have hPc := hP.sub (ws' := [(r0, .inr (1, [.ref f0, .int (nI fk), .int fp, .ref t0, .int (nI nx), .int (nI lnb)])), (t0, .inr (2, [.ref t1, .int (nI len)])), (t1, .inl (cB, 400, .inl (aB tp)))]) [0, 1, 2] rfl
  have hDc := hD.sub (ws' := [(r0, .inr (1, [.ref f0, .int (nI fk), .int fp, .ref t0, .int (nI nx), .int (nI lnb)])), (t0, .inr (2, [.ref t1, .int (nI len)])), (t1, .inl (cB, 400, .inl (aB tp)))]) [0, 1, 2] (by decide) rfl
  have hFc := va_free (wc := [(r0, .inr (1, [.ref f0, .int (nI fk), .int fp, .ref t0, .int (nI nx), .int (nI lnb)])), (t0, .inr (2, [.ref t1, .int (nI len)])), (t1, .inl (cB, 400, .inl (aB tp)))]) hD hS hA [0, 1, 2] rfl
  refine zc_Mi (va_runV (As := [.int (nI ct)]) (rest := []) ⟨hx, hb, hml, hown, hw⟩ (c_areDigits_no l dC dI r0 f0 fk fp t0 nx lnb t1 len cI cB tp ct k2 p2 (by omega) (by omega) htp (by omega) hd s.heap.size) (cwV 1 hw (gV w_ml_R_103 w_im_R_areDigits w_se_R_areDigits w_in_R w_co_R_areDigits) rfl rfl rfl (by decide +kernel) ⟨Nat.le_of_ble_eq_true rfl, Nat.le_of_ble_eq_true rfl⟩) (zM_V hG hS hFc hPc hDc hK 0 rfl rfl) rfl rfl hl.1 rfl (lv_room (Nat.le_of_ble_eq_true rfl)) dR_walkDigits_2 ⟨Nat.le_of_ble_eq_true rfl, Nat.le_of_ble_eq_true rfl⟩) hS hFc (fun r_1 H locs h_2 hP1 hD1 hk1 hS => ?_)
  obtain ⟨hP, hD⟩ := va_join (wr := []) (w1 := [(r0, .inr (1, [.ref f0, .int (nI k2), .int (nI p2), .ref t0, .int (nI nx), .int (nI lnb)])), (t0, .inr (2, [.ref t1, .int (nI len)])), (t1, .inl (cB, 400, .inl (aB tp)))]) hP hD [0, 1, 2] [] rfl rfl (by decide) (by decide) hk1 hFc hP1 hD1
  have hP : va_P (dC, dI) vwCl [(r0, .inr (1, [.ref f0, .int (nI k2), .int (nI p2), .ref t0, .int (nI nx), .int (nI lnb)])), (t0, .inr (2, [.ref t1, .int (nI len)])), (t1, .inl (cB, 400, .inl (aB tp)))] H := hP
  have hD : va_D A [(r0, .inr (1, [.ref f0, .int (nI k2), .int (nI p2), .ref t0, .int (nI nx), .int (nI lnb)])), (t0, .inr (2, [.ref t1, .int (nI len)])), (t1, .inl (cB, 400, .inl (aB tp)))] := hD
  subst h_2
  refine lv_if_ne (tgt := 10) hx hb dR_walkDigits_5 (by decide) (fun q => False.elim (absurd q (by decide))) (fun c_5 => ?_)
  refine lv_iconst (v := nI 0) hx hb dR_walkDigits_8 (by decide) ?_
  subst hAe
  subst hQ
  exact W.zret (v := nI 0) hx hb hr (by decide) (fun t ht hW => ⟨⟨nI 0, (), rfl, rfl, by rw [ht]; exact hP.sub [0, 1, 2] rfl, hD.sub [0, 1, 2] (by decide) rfl⟩, hS.F ht⟩) hS.2.2 dR_walkDigits_9
def rm_c_isLetter_ok : Room := ({ frames := 0, cells := 0, slots := 0, locals := 0 } : Room)
set_option maxHeartbeats 4000000 in
set_option maxRecDepth 100000 in
theorem c_isLetter_ok (l : Launch) (dC : Nat → ClassId) (dI : Nat → Nat → Nat) (cI : ClassId) (cB : ClassId) (v : Nat) (hv : v < 256) (hL : isL v = true) (Hc : Heap) : Met l yR_isLetter wsR_isLetter rm_c_isLetter_ok (zR (dC, dI) [(cI, .int), (cB, .byte)] [.int (nI v)] [] Hc) (zRi Hc (fun r => r = nI 1)) 0 0 zNo := by
  refine Met.ofW (cc := cR_isLetter) (maxL := 1) (ret := (some .boolean)) (by decide) rfl ?_
  intro p e s m args below meth c s₁ Bd hml hv
  obtain ⟨rfl, hH, hG, hP, hK⟩ := hv
  subst hH
  have hx := Bd.exec
  have hb := Bd.bytes
  have hr := Bd.returns
  have hts := atoms_spec (ws := wsR_isLetter) Bd.pre
  have hw : ∀ w ∈ BIG, w.before _ s = true := fun w h => hts w (List.mem_cons_of_mem _ h)
  have hown : s.vm.findClass RR = some m.cls := findClass_of_methodNamed Bd.named
  have hlocks := Bd.notSynchronized
  have hS : va_S zNo s.heap s.heap [] := va_S.rf
  have hl := lv_entry ([.int (nI v)]) (n := 1) (Nat.le_of_ble_eq_true rfl)
  rw [lg_entry_eq]
  generalize (lg_sl ([.int (nI v)]) ++ List.replicate (1 - (lg_sl ([.int (nI v)])).length) Slot.unset).toArray = ls at hl ⊢
  have hl : lv_has ls 1 [(0, .int (nI v))] := hl
  refine zq_name (fun Q hQ => ?_)
  change W p l e rm_c_isLetter_ok s m _ below meth c _ _ _ _ Q _
  simp only [isL, Bool.or_eq_true, Bool.and_eq_true, decide_eq_true_eq] at hL
  refine lv_iload_n hx hb dR_isLetter_0 rfl (lv_at hl 0 rfl) ?_
  refine lv_bipush (v := nI 48) hx hb dR_isLetter_1 (by decide) ?_
  refine zi_lt (tgt := 12) hx hb (by omega) (by omega) dR_isLetter_3 (by decide) (fun c_3 => ?_) (fun c_3 => ?_)
  · refine lv_iload_n hx hb dR_isLetter_12 rfl (lv_at hl 0 rfl) ?_
    refine lv_bipush (v := nI 65) hx hb dR_isLetter_13 (by decide) ?_
    refine zi_lt (tgt := 28) hx hb (by omega) (by omega) dR_isLetter_15 (by decide) (fun c_15 => ?_) (fun c_15 => ?_)
    · refine lv_iconst (v := nI 0) hx hb dR_isLetter_28 (by decide) ?_
      subst hQ
      exact W.zret (v := nI 0) hx hb hr (by decide) (fun t ht hW => ⟨⟨nI 0, (), rfl, (by exfalso; omega), ht⟩, hS.F ht⟩) hS.2.2 dR_isLetter_29
    · refine lv_iload_n hx hb dR_isLetter_18 rfl (lv_at hl 0 rfl) ?_
      refine lv_bipush (v := nI 90) hx hb dR_isLetter_19 (by decide) ?_
      refine zi_gt (tgt := 28) hx hb (by omega) (by omega) dR_isLetter_21 (by decide) (fun c_21 => ?_) (fun c_21 => ?_)
      · refine lv_iconst (v := nI 0) hx hb dR_isLetter_28 (by decide) ?_
        subst hQ
        exact W.zret (v := nI 0) hx hb hr (by decide) (fun t ht hW => ⟨⟨nI 0, (), rfl, (by exfalso; omega), ht⟩, hS.F ht⟩) hS.2.2 dR_isLetter_29
      · refine lv_iconst (v := nI 1) hx hb dR_isLetter_24 (by decide) ?_
        refine lv_goto (tgt := 29) hx hb dR_isLetter_25 (by decide) ?_
        subst hQ
        exact W.zret (v := nI 1) hx hb hr (by decide) (fun t ht hW => ⟨⟨nI 1, (), rfl, rfl, ht⟩, hS.F ht⟩) hS.2.2 dR_isLetter_29
  · refine lv_iload_n hx hb dR_isLetter_6 rfl (lv_at hl 0 rfl) ?_
    refine lv_bipush (v := nI 57) hx hb dR_isLetter_7 (by decide) ?_
    refine zi_le (tgt := 24) hx hb (by omega) (by omega) dR_isLetter_9 (by decide) (fun c_9 => ?_) (fun c_9 => ?_)
    · refine lv_iconst (v := nI 1) hx hb dR_isLetter_24 (by decide) ?_
      refine lv_goto (tgt := 29) hx hb dR_isLetter_25 (by decide) ?_
      subst hQ
      exact W.zret (v := nI 1) hx hb hr (by decide) (fun t ht hW => ⟨⟨nI 1, (), rfl, rfl, ht⟩, hS.F ht⟩) hS.2.2 dR_isLetter_29
    · refine lv_iload_n hx hb dR_isLetter_12 rfl (lv_at hl 0 rfl) ?_
      refine lv_bipush (v := nI 65) hx hb dR_isLetter_13 (by decide) ?_
      refine zi_lt (tgt := 28) hx hb (by omega) (by omega) dR_isLetter_15 (by decide) (fun c_15 => ?_) (fun c_15 => ?_)
      · refine lv_iconst (v := nI 0) hx hb dR_isLetter_28 (by decide) ?_
        subst hQ
        exact W.zret (v := nI 0) hx hb hr (by decide) (fun t ht hW => ⟨⟨nI 0, (), rfl, (by exfalso; omega), ht⟩, hS.F ht⟩) hS.2.2 dR_isLetter_29
      · refine lv_iload_n hx hb dR_isLetter_18 rfl (lv_at hl 0 rfl) ?_
        refine lv_bipush (v := nI 90) hx hb dR_isLetter_19 (by decide) ?_
        refine zi_gt (tgt := 28) hx hb (by omega) (by omega) dR_isLetter_21 (by decide) (fun c_21 => ?_) (fun c_21 => ?_)
        · refine lv_iconst (v := nI 0) hx hb dR_isLetter_28 (by decide) ?_
          subst hQ
          exact W.zret (v := nI 0) hx hb hr (by decide) (fun t ht hW => ⟨⟨nI 0, (), rfl, (by exfalso; omega), ht⟩, hS.F ht⟩) hS.2.2 dR_isLetter_29
        · refine lv_iconst (v := nI 1) hx hb dR_isLetter_24 (by decide) ?_
          refine lv_goto (tgt := 29) hx hb dR_isLetter_25 (by decide) ?_
          subst hQ
          exact W.zret (v := nI 1) hx hb hr (by decide) (fun t ht hW => ⟨⟨nI 1, (), rfl, rfl, ht⟩, hS.F ht⟩) hS.2.2 dR_isLetter_29
def rm_c_isLetter_no : Room := ({ frames := 0, cells := 0, slots := 0, locals := 0 } : Room)
set_option maxHeartbeats 4000000 in
set_option maxRecDepth 100000 in
theorem c_isLetter_no (l : Launch) (dC : Nat → ClassId) (dI : Nat → Nat → Nat) (cI : ClassId) (cB : ClassId) (v : Nat) (hv : v < 256) (hL : isL v = false) (Hc : Heap) : Met l yR_isLetter wsR_isLetter rm_c_isLetter_no (zR (dC, dI) [(cI, .int), (cB, .byte)] [.int (nI v)] [] Hc) (zRi Hc (fun r => r = nI 0)) 0 0 zNo := by
  refine Met.ofW (cc := cR_isLetter) (maxL := 1) (ret := (some .boolean)) (by decide) rfl ?_
  intro p e s m args below meth c s₁ Bd hml hv
  obtain ⟨rfl, hH, hG, hP, hK⟩ := hv
  subst hH
  have hx := Bd.exec
  have hb := Bd.bytes
  have hr := Bd.returns
  have hts := atoms_spec (ws := wsR_isLetter) Bd.pre
  have hw : ∀ w ∈ BIG, w.before _ s = true := fun w h => hts w (List.mem_cons_of_mem _ h)
  have hown : s.vm.findClass RR = some m.cls := findClass_of_methodNamed Bd.named
  have hlocks := Bd.notSynchronized
  have hS : va_S zNo s.heap s.heap [] := va_S.rf
  have hl := lv_entry ([.int (nI v)]) (n := 1) (Nat.le_of_ble_eq_true rfl)
  rw [lg_entry_eq]
  generalize (lg_sl ([.int (nI v)]) ++ List.replicate (1 - (lg_sl ([.int (nI v)])).length) Slot.unset).toArray = ls at hl ⊢
  have hl : lv_has ls 1 [(0, .int (nI v))] := hl
  refine zq_name (fun Q hQ => ?_)
  change W p l e rm_c_isLetter_no s m _ below meth c _ _ _ _ Q _
  simp only [isL, Bool.or_eq_false_iff, Bool.and_eq_false_iff, decide_eq_false_iff_not] at hL
  refine lv_iload_n hx hb dR_isLetter_0 rfl (lv_at hl 0 rfl) ?_
  refine lv_bipush (v := nI 48) hx hb dR_isLetter_1 (by decide) ?_
  refine zi_lt (tgt := 12) hx hb (by omega) (by omega) dR_isLetter_3 (by decide) (fun c_3 => ?_) (fun c_3 => ?_)
  · refine lv_iload_n hx hb dR_isLetter_12 rfl (lv_at hl 0 rfl) ?_
    refine lv_bipush (v := nI 65) hx hb dR_isLetter_13 (by decide) ?_
    refine zi_lt (tgt := 28) hx hb (by omega) (by omega) dR_isLetter_15 (by decide) (fun c_15 => ?_) (fun c_15 => ?_)
    · refine lv_iconst (v := nI 0) hx hb dR_isLetter_28 (by decide) ?_
      subst hQ
      exact W.zret (v := nI 0) hx hb hr (by decide) (fun t ht hW => ⟨⟨nI 0, (), rfl, rfl, ht⟩, hS.F ht⟩) hS.2.2 dR_isLetter_29
    · refine lv_iload_n hx hb dR_isLetter_18 rfl (lv_at hl 0 rfl) ?_
      refine lv_bipush (v := nI 90) hx hb dR_isLetter_19 (by decide) ?_
      refine zi_gt (tgt := 28) hx hb (by omega) (by omega) dR_isLetter_21 (by decide) (fun c_21 => ?_) (fun c_21 => ?_)
      · refine lv_iconst (v := nI 0) hx hb dR_isLetter_28 (by decide) ?_
        subst hQ
        exact W.zret (v := nI 0) hx hb hr (by decide) (fun t ht hW => ⟨⟨nI 0, (), rfl, rfl, ht⟩, hS.F ht⟩) hS.2.2 dR_isLetter_29
      · refine lv_iconst (v := nI 1) hx hb dR_isLetter_24 (by decide) ?_
        refine lv_goto (tgt := 29) hx hb dR_isLetter_25 (by decide) ?_
        subst hQ
        exact W.zret (v := nI 1) hx hb hr (by decide) (fun t ht hW => ⟨⟨nI 1, (), rfl, (by exfalso; omega), ht⟩, hS.F ht⟩) hS.2.2 dR_isLetter_29
  · refine lv_iload_n hx hb dR_isLetter_6 rfl (lv_at hl 0 rfl) ?_
    refine lv_bipush (v := nI 57) hx hb dR_isLetter_7 (by decide) ?_
    refine zi_le (tgt := 24) hx hb (by omega) (by omega) dR_isLetter_9 (by decide) (fun c_9 => ?_) (fun c_9 => ?_)
    · refine lv_iconst (v := nI 1) hx hb dR_isLetter_24 (by decide) ?_
      refine lv_goto (tgt := 29) hx hb dR_isLetter_25 (by decide) ?_
      subst hQ
      exact W.zret (v := nI 1) hx hb hr (by decide) (fun t ht hW => ⟨⟨nI 1, (), rfl, (by exfalso; omega), ht⟩, hS.F ht⟩) hS.2.2 dR_isLetter_29
    · refine lv_iload_n hx hb dR_isLetter_12 rfl (lv_at hl 0 rfl) ?_
      refine lv_bipush (v := nI 65) hx hb dR_isLetter_13 (by decide) ?_
      refine zi_lt (tgt := 28) hx hb (by omega) (by omega) dR_isLetter_15 (by decide) (fun c_15 => ?_) (fun c_15 => ?_)
      · refine lv_iconst (v := nI 0) hx hb dR_isLetter_28 (by decide) ?_
        subst hQ
        exact W.zret (v := nI 0) hx hb hr (by decide) (fun t ht hW => ⟨⟨nI 0, (), rfl, rfl, ht⟩, hS.F ht⟩) hS.2.2 dR_isLetter_29
      · refine lv_iload_n hx hb dR_isLetter_18 rfl (lv_at hl 0 rfl) ?_
        refine lv_bipush (v := nI 90) hx hb dR_isLetter_19 (by decide) ?_
        refine zi_gt (tgt := 28) hx hb (by omega) (by omega) dR_isLetter_21 (by decide) (fun c_21 => ?_) (fun c_21 => ?_)
        · refine lv_iconst (v := nI 0) hx hb dR_isLetter_28 (by decide) ?_
          subst hQ
          exact W.zret (v := nI 0) hx hb hr (by decide) (fun t ht hW => ⟨⟨nI 0, (), rfl, rfl, ht⟩, hS.F ht⟩) hS.2.2 dR_isLetter_29
        · refine lv_iconst (v := nI 1) hx hb dR_isLetter_24 (by decide) ?_
          refine lv_goto (tgt := 29) hx hb dR_isLetter_25 (by decide) ?_
          subst hQ
          exact W.zret (v := nI 1) hx hb hr (by decide) (fun t ht hW => ⟨⟨nI 1, (), rfl, (by exfalso; omega), ht⟩, hS.F ht⟩) hS.2.2 dR_isLetter_29
def rm_c_walkLetters_ok : Room := ({ frames := 2, cells := 0, slots := 0, locals := 43 } : Room)
set_option maxHeartbeats 4000000 in
set_option maxRecDepth 100000 in
theorem c_walkLetters_ok (l : Launch) (dC : Nat → ClassId) (dI : Nat → Nat → Nat) (r0 : Nat) (f0 : Nat) (fk : Nat) (fp : Int32) (t0 : Nat) (nx : Nat) (lnb : Nat) (t1 : Nat) (len : Nat) (cI : ClassId) (cB : ClassId) (tp : Nat → Nat) (f1 : Nat) (f2 : Nat) (ty : Nat) (cnt : Nat → Nat) (mk : Nat → Nat) (sl : Nat) (ct : Nat) (hln : len ≤ 400) (hnl : nx ≤ len) (htp : ∀ j, tp j < 256) (hs : sl < 16) (hb : fFM sl + ct ≤ 208) (hc : ct < 100) (hd : ltF tp len nx ct = none) (sz : Nat) : Met l yR_walkLetters wsR_walkLetters rm_c_walkLetters_ok (zM (dC, dI) [(cI, .int), (cB, .byte)] [.ref r0, .int (nI sl), .int (nI ct)] [(r0, .inr (1, [.ref f0, .int (nI fk), .int fp, .ref t0, .int (nI nx), .int (nI lnb)])), (t0, .inr (2, [.ref t1, .int (nI len)])), (t1, .inl (cB, 400, .inl (aB tp))), (f0, .inr (0, [.int (nI ty), .ref f1, .ref f2])), (f1, .inl (cI, 16, .inl (aN cnt))), (f2, .inl (cB, 208, .inl (aN mk)))] sz) (zMi (dC, dI) [(r0, .inr (1, [.ref f0, .int (nI fk), .int fp, .ref t0, .int (nI nx), .int (nI lnb)])), (t0, .inr (2, [.ref t1, .int (nI len)])), (t1, .inl (cB, 400, .inl (aB tp))), (f0, .inr (0, [.int (nI ty), .ref f1, .ref f2])), (f1, .inl (cI, 16, .inl (aN cnt))), (f2, .inl (cB, 208, .inl (aN mk)))] [(r0, .inr (1, [.ref f0, .int (nI fk), .int fp, .ref t0, .int (nI (nx + ct)), .int (nI lnb)])), (t0, .inr (2, [.ref t1, .int (nI len)])), (t1, .inl (cB, 400, .inl (aB tp))), (f0, .inr (0, [.int (nI ty), .ref f1, .ref f2])), (f1, .inl (cI, 16, .inl (aN (nup cnt sl ct)))), (f2, .inl (cB, 208, .inl (aN (ltC tp nx (fFM sl) ct 0 mk))))] sz (fun r => r = nI 1)) 0 0 (va_A [(r0, .inr (1, [.ref f0, .int (nI fk), .int fp, .ref t0, .int (nI nx), .int (nI lnb)])), (t0, .inr (2, [.ref t1, .int (nI len)])), (t1, .inl (cB, 400, .inl (aB tp))), (f0, .inr (0, [.int (nI ty), .ref f1, .ref f2])), (f1, .inl (cI, 16, .inl (aN cnt))), (f2, .inl (cB, 208, .inl (aN mk)))] sz) := by
  refine Met.ofW (cc := cR_walkLetters) (maxL := 5) (ret := (some .boolean)) (by decide) rfl ?_
  intro p e s m args below meth c s₁ Bd hml hv
  obtain ⟨rfl, hsz, hG, hP, hK, hD0⟩ := hv
  subst hsz
  have hx := Bd.exec
  have hb := Bd.bytes
  have hr := Bd.returns
  have hts := atoms_spec (ws := wsR_walkLetters) Bd.pre
  have hw : ∀ w ∈ BIG, w.before _ s = true := fun w h => hts w (List.mem_cons_of_mem _ h)
  have hown : s.vm.findClass RR = some m.cls := findClass_of_methodNamed Bd.named
  have hlocks := Bd.notSynchronized
  have hD := hD0.self (sz := s.heap.size)
  obtain ⟨A, hAe⟩ : ∃ A, A = va_A [(r0, .inr (1, [.ref f0, .int (nI fk), .int fp, .ref t0, .int (nI nx), .int (nI lnb)])), (t0, .inr (2, [.ref t1, .int (nI len)])), (t1, .inl (cB, 400, .inl (aB tp))), (f0, .inr (0, [.int (nI ty), .ref f1, .ref f2])), (f1, .inl (cI, 16, .inl (aN cnt))), (f2, .inl (cB, 208, .inl (aN mk)))] s.heap.size := ⟨_, rfl⟩
  have hA : ∀ q : Nat, s.heap.size ≤ q → A q := fun q h => by rw [hAe]; exact Or.inr h
  rw [← hAe] at hG hD
  have hS : va_S A s.heap s.heap [] := va_S.rf
  have hl := lv_entry ([.ref r0, .int (nI sl), .int (nI ct)]) (n := 5) (Nat.le_of_ble_eq_true rfl)
  rw [lg_entry_eq]
  generalize (lg_sl ([.ref r0, .int (nI sl), .int (nI ct)]) ++ List.replicate (5 - (lg_sl ([.ref r0, .int (nI sl), .int (nI ct)])).length) Slot.unset).toArray = ls at hl ⊢
  have hl : lv_has ls 5 [(0, .ref r0), (1, .int (nI sl)), (2, .int (nI ct))] := hl
  refine zq_name (fun Q hQ => ?_)
  change W p l e rm_c_walkLetters_ok s m _ below meth c _ _ _ _ Q _
  have hs9 := ltF_fit hd
  have hd := ltF_ok hd
  refine lv_aload_n hx hb dR_walkLetters_0 rfl (lv_at hl 0 rfl) ?_
  refine lv_iload_n hx hb dR_walkLetters_1 rfl (lv_at hl 2 rfl) ?_
  refine zc_Ri (va_runV (As := [.int (nI ct)]) (rest := []) ⟨hx, hb, hml, hown, hw⟩ (c_reaches_ok l dC dI r0 f0 fk fp t0 nx lnb t1 len cI cB ct (by omega) (by omega) (by omega) s.heap) (cwV 1 hw (gV w_ml_R_79 w_im_R_reaches w_se_R_reaches w_in_R w_co_R_reaches) rfl rfl rfl (by decide +kernel) ⟨Nat.le_of_ble_eq_true rfl, Nat.le_of_ble_eq_true rfl⟩) (zR_V hG hS (hP.sub (ws' := [(r0, .inr (1, [.ref f0, .int (nI fk), .int fp, .ref t0, .int (nI nx), .int (nI lnb)])), (t0, .inr (2, [.ref t1, .int (nI len)]))]) [0, 1] rfl) hK 0 rfl rfl) rfl rfl hl.1 rfl (lv_room (Nat.le_of_ble_eq_true rfl)) dR_walkLetters_2 ⟨Nat.le_of_ble_eq_true rfl, Nat.le_of_ble_eq_true rfl⟩) hS (fun r_1 locs h_2 hS => ?_)
  subst h_2
  refine lv_if_ne (tgt := 10) hx hb dR_walkLetters_5 (by decide) (fun c_5 => ?_) (fun q => False.elim (absurd q (by decide)))
  refine lv_iconst (v := nI 0) hx hb dR_walkLetters_10 (by decide) ?_
  refine lv_istore_n (lv' := [(3, .int (nI 0)), (0, .ref r0), (1, .int (nI sl)), (2, .int (nI ct))]) hx hb dR_walkLetters_11 rfl hl (by decide) rfl (fun ls hl => ?_)
  have lp_12 : ∀ (fu : Nat) (k : Nat) (f : Nat → Nat) (hk : k ≤ ct) (hi : ltL tp (ct - k) (nx + k) = none) (hj : ltC tp nx (fFM sl) (ct - k) k f = ltC tp nx (fFM sl) ct 0 mk) (hms : ct - k < fu) (H : Heap) (locs : List Loc) (ls : Array Slot), lv_has ls 5 [(0, .ref r0), (1, .int (nI sl)), (2, .int (nI ct)), (3, .int (nI k))] → va_P (dC, dI) vwCl [(r0, .inr (1, [.ref f0, .int (nI fk), .int fp, .ref t0, .int (nI nx), .int (nI lnb)])), (t0, .inr (2, [.ref t1, .int (nI len)])), (t1, .inl (cB, 400, .inl (aB tp))), (f0, .inr (0, [.int (nI ty), .ref f1, .ref f2])), (f1, .inl (cI, 16, .inl (aN cnt))), (f2, .inl (cB, 208, .inl (aN f)))] H → va_D A [(r0, .inr (1, [.ref f0, .int (nI fk), .int fp, .ref t0, .int (nI nx), .int (nI lnb)])), (t0, .inr (2, [.ref t1, .int (nI len)])), (t1, .inl (cB, 400, .inl (aB tp))), (f0, .inr (0, [.int (nI ty), .ref f1, .ref f2])), (f1, .inl (cI, 16, .inl (aN cnt))), (f2, .inl (cB, 208, .inl (aN f)))] → va_S A s.heap H locs → W p l e rm_c_walkLetters_ok s m ([.ref r0, .int (nI sl), .int (nI ct)] : List Value).toArray below meth c H locs 0 0 Q (F0 m 12 ls []) := by
    intro fu
    induction fu with
    | zero => intro k f hk hi hj hms; exact absurd hms (Nat.not_lt_zero _)
    | succ fu ih12 =>
      intro k f hk hi hj hms H locs ls hl hP hD hS
      refine lv_iload_n hx hb dR_walkLetters_12 rfl (lv_at hl 3 rfl) ?_
      refine lv_iload_n hx hb dR_walkLetters_13 rfl (lv_at hl 2 rfl) ?_
      refine zi_ge (tgt := 70) hx hb (by omega) (by omega) dR_walkLetters_14 (by decide) (fun c_14 => ?_) (fun c_14 => ?_)
      · rw [show ct - k = 0 by omega] at hj
        have hj : f = ltC tp nx (fFM sl) ct 0 mk := hj
        subst hj
        refine lv_aload_n hx hb dR_walkLetters_70 rfl (lv_at hl 0 rfl) ?_
        refine va_get (D := (dC, dI)) (ci := 1) (v := .ref f0) (C := RR) (T := TR) (N := 6) hx hb hw inR hown hK hP 0 rfl rfl 0 (by decide) (hw _ w_fl_R_12) (fun _ h9 => h9) rfl dR_walkLetters_71 ?_
        refine va_get (D := (dC, dI)) (ci := 0) (v := .ref f1) (C := RD) (T := TD) (N := 3) hx hb hw inD hown hK hP 3 rfl rfl 1 (by decide) (hw _ w_fl_R_117) (fun _ h9 => h9) rfl dR_walkLetters_74 ?_
        refine lv_iload_n hx hb dR_walkLetters_77 rfl (lv_at hl 1 rfl) ?_
        refine lv_iload_n hx hb dR_walkLetters_78 rfl (lv_at hl 2 rfl) ?_
        refine za_ist hx hb hK hP hD hS 4 0 rfl rfl (by omega) (by decide) dR_walkLetters_79 (fun H locs hP hD hS => ?_)
        have hP : va_P (dC, dI) vwCl [(r0, .inr (1, [.ref f0, .int (nI fk), .int fp, .ref t0, .int (nI nx), .int (nI lnb)])), (t0, .inr (2, [.ref t1, .int (nI len)])), (t1, .inl (cB, 400, .inl (aB tp))), (f0, .inr (0, [.int (nI ty), .ref f1, .ref f2])), (f1, .inl (cI, 16, .inl (aN (nup cnt sl ct)))), (f2, .inl (cB, 208, .inl (aN (ltC tp nx (fFM sl) ct 0 mk))))] H := hP
        have hD : va_D A [(r0, .inr (1, [.ref f0, .int (nI fk), .int fp, .ref t0, .int (nI nx), .int (nI lnb)])), (t0, .inr (2, [.ref t1, .int (nI len)])), (t1, .inl (cB, 400, .inl (aB tp))), (f0, .inr (0, [.int (nI ty), .ref f1, .ref f2])), (f1, .inl (cI, 16, .inl (aN (nup cnt sl ct)))), (f2, .inl (cB, 208, .inl (aN (ltC tp nx (fFM sl) ct 0 mk))))] := hD
        refine lv_aload_n hx hb dR_walkLetters_80 rfl (lv_at hl 0 rfl) ?_
        refine lv_dup hx hb dR_walkLetters_81 rfl ?_
        refine va_get (D := (dC, dI)) (ci := 1) (v := .int (nI nx)) (C := RR) (T := TR) (N := 6) hx hb hw inR hown hK hP 0 rfl rfl 4 (by decide) (hw _ w_fl_R_25) (fun _ h9 => h9) rfl dR_walkLetters_82 ?_
        refine lv_iload_n hx hb dR_walkLetters_85 rfl (lv_at hl 2 rfl) ?_
        refine zi_add hx hb dR_walkLetters_86 ?_
        refine va_put (D := (dC, dI)) (ci := 1) (v := .int (nI (nx + ct))) (ty := .int) (C := RR) (T := TR) (N := 6) hx hb hw inR tyR tyR_ok nmR hown hK hP hD hS 0 rfl rfl 4 (by decide) (hw _ w_fl_R_25) (fun _ h9 => h9) rfl (by decide +kernel) rfl rfl (Nat.le_of_ble_eq_true rfl) dR_walkLetters_87 (fun H locs hP hD hS => ?_)
        have hP : va_P (dC, dI) vwCl [(r0, .inr (1, [.ref f0, .int (nI fk), .int fp, .ref t0, .int (nI (nx + ct)), .int (nI lnb)])), (t0, .inr (2, [.ref t1, .int (nI len)])), (t1, .inl (cB, 400, .inl (aB tp))), (f0, .inr (0, [.int (nI ty), .ref f1, .ref f2])), (f1, .inl (cI, 16, .inl (aN (nup cnt sl ct)))), (f2, .inl (cB, 208, .inl (aN (ltC tp nx (fFM sl) ct 0 mk))))] H := hP
        have hD : va_D A [(r0, .inr (1, [.ref f0, .int (nI fk), .int fp, .ref t0, .int (nI (nx + ct)), .int (nI lnb)])), (t0, .inr (2, [.ref t1, .int (nI len)])), (t1, .inl (cB, 400, .inl (aB tp))), (f0, .inr (0, [.int (nI ty), .ref f1, .ref f2])), (f1, .inl (cI, 16, .inl (aN (nup cnt sl ct)))), (f2, .inl (cB, 208, .inl (aN (ltC tp nx (fFM sl) ct 0 mk))))] := hD
        refine lv_iconst (v := nI 1) hx hb dR_walkLetters_90 (by decide) ?_
        subst hAe
        subst hQ
        exact W.zret (v := nI 1) hx hb hr (by decide) (fun t ht hW => ⟨⟨nI 1, (), rfl, rfl, by rw [ht]; exact hP.sub [0, 1, 2, 3, 4, 5] rfl, hD.sub [0, 1, 2, 3, 4, 5] (by decide) rfl⟩, hS.F ht⟩) hS.2.2 dR_walkLetters_91
      · have hL : isL (tp (nx + k)) = true := by
          have h9 := hi; rw [show ct - k = ct - (k + 1) + 1 by omega] at h9; unfold ltL at h9
          cases hq : isL (tp (nx + k)) with
          | true => rfl
          | false => rw [hq] at h9; cases h9
        have ht9 := htp (nx + k)
        have hL9 := isL_lt hL
        refine lv_aload_n hx hb dR_walkLetters_17 rfl (lv_at hl 0 rfl) ?_
        refine va_get (D := (dC, dI)) (ci := 1) (v := .ref t0) (C := RR) (T := TR) (N := 6) hx hb hw inR hown hK hP 0 rfl rfl 3 (by decide) (hw _ w_fl_R_31) (fun _ h9 => h9) rfl dR_walkLetters_18 ?_
        refine lv_aload_n hx hb dR_walkLetters_21 rfl (lv_at hl 0 rfl) ?_
        refine va_get (D := (dC, dI)) (ci := 1) (v := .int (nI nx)) (C := RR) (T := TR) (N := 6) hx hb hw inR hown hK hP 0 rfl rfl 4 (by decide) (hw _ w_fl_R_25) (fun _ h9 => h9) rfl dR_walkLetters_22 ?_
        refine lv_iload_n hx hb dR_walkLetters_25 rfl (lv_at hl 3 rfl) ?_
        refine zi_add hx hb dR_walkLetters_26 ?_
        refine zc_Ri (va_runV (As := [.int (nI (nx + k))]) (rest := []) ⟨hx, hb, hml, hown, hw⟩ (c_T_byteAt l dC dI t0 t1 len cI cB tp (nx + k) (by omega) (htp _) H) (cwV 1 hw (gV w_ml_R_50 w_im_T_byteAt w_se_T_byteAt w_in_T w_co_T_byteAt) rfl rfl rfl (by decide +kernel) ⟨Nat.le_of_ble_eq_true rfl, Nat.le_of_ble_eq_true rfl⟩) (zR_V hG hS (hP.sub (ws' := [(t0, .inr (2, [.ref t1, .int (nI len)])), (t1, .inl (cB, 400, .inl (aB tp)))]) [1, 2] rfl) hK 0 rfl rfl) rfl rfl hl.1 rfl (lv_room (Nat.le_of_ble_eq_true rfl)) dR_walkLetters_27 ⟨Nat.le_of_ble_eq_true rfl, Nat.le_of_ble_eq_true rfl⟩) hS (fun r_2 locs h_27 hS => ?_)
        subst h_27
        refine lv_istore (lv' := [(4, .int (nI (tp (nx + k)))), (0, .ref r0), (1, .int (nI sl)), (2, .int (nI ct)), (3, .int (nI k))]) hx hb dR_walkLetters_30 hl (by decide) rfl (fun ls hl => ?_)
        refine lv_iload hx hb dR_walkLetters_32 (lv_at hl 0 rfl) ?_
        refine zc_Ri (va_runS (As := [.int (nI (tp (nx + k)))]) (rest := []) ⟨hx, hb, hml, hown, hw⟩ (c_isLetter_ok l dC dI cI cB (tp (nx + k)) (htp _) hL H) (va_cwS 1 hw (gSt w_ml_R_120 w_st_R_isLetter w_in_R w_co_R_isLetter) rfl rfl rfl (by decide +kernel) ⟨Nat.le_of_ble_eq_true rfl, Nat.le_of_ble_eq_true rfl⟩) (zR_S hG hS (hP.sub (ws' := []) [] rfl) hK) rfl rfl hl.1 rfl (lv_room (Nat.le_of_ble_eq_true rfl)) dR_walkLetters_34 ⟨Nat.le_of_ble_eq_true rfl, Nat.le_of_ble_eq_true rfl⟩) hS (fun r_3 locs h_34 hS => ?_)
        subst h_34
        refine lv_if_ne (tgt := 53) hx hb dR_walkLetters_37 (by decide) (fun c_37 => ?_) (fun q => False.elim (absurd q (by decide)))
        refine lv_aload_n hx hb dR_walkLetters_53 rfl (lv_at hl 1 rfl) ?_
        refine va_get (D := (dC, dI)) (ci := 1) (v := .ref f0) (C := RR) (T := TR) (N := 6) hx hb hw inR hown hK hP 0 rfl rfl 0 (by decide) (hw _ w_fl_R_12) (fun _ h9 => h9) rfl dR_walkLetters_54 ?_
        refine lv_iload_n hx hb dR_walkLetters_57 rfl (lv_at hl 2 rfl) ?_
        refine lv_iload_n hx hb dR_walkLetters_58 rfl (lv_at hl 4 rfl) ?_
        refine lv_iload hx hb dR_walkLetters_59 (lv_at hl 0 rfl) ?_
        have hPc := hP.sub (ws' := [(f0, .inr (0, [.int (nI ty), .ref f1, .ref f2])), (f2, .inl (cB, 208, .inl (aN f)))]) [3, 5] rfl
        have hDc := hD.sub (ws' := [(f0, .inr (0, [.int (nI ty), .ref f1, .ref f2])), (f2, .inl (cB, 208, .inl (aN f)))]) [3, 5] (by decide) rfl
        have hFc := va_free (wc := [(f0, .inr (0, [.int (nI ty), .ref f1, .ref f2])), (f2, .inl (cB, 208, .inl (aN f)))]) hD hS hA [3, 5] rfl
        refine zc_Mv (va_runV (As := [.int (nI sl), .int (nI k), .int (nI (tp (nx + k)))]) (rest := []) ⟨hx, hb, hml, hown, hw⟩ (c_D_setMark l dC dI f0 f1 f2 cI cB ty f sl k (tp (nx + k)) (by omega) (by omega) (by omega) H.size) (cwV 3 hw (gV w_ml_R_113 w_im_D_setMark w_se_D_setMark w_in_D w_co_D_setMark) rfl rfl rfl (by decide +kernel) ⟨Nat.le_of_ble_eq_true rfl, Nat.le_of_ble_eq_true rfl⟩) (zM_V hG hS hFc hPc hDc hK 0 rfl rfl) rfl rfl hl.1 rfl (lv_room (Nat.le_of_ble_eq_true rfl)) dR_walkLetters_61 ⟨Nat.le_of_ble_eq_true rfl, Nat.le_of_ble_eq_true rfl⟩) hS hFc (fun H locs h_61 hP1 hD1 hk1 hS => ?_)
        obtain ⟨hP, hD⟩ := va_join (wr := [(r0, .inr (1, [.ref f0, .int (nI fk), .int fp, .ref t0, .int (nI nx), .int (nI lnb)])), (t0, .inr (2, [.ref t1, .int (nI len)])), (t1, .inl (cB, 400, .inl (aB tp))), (f1, .inl (cI, 16, .inl (aN cnt)))]) (w1 := [(f0, .inr (0, [.int (nI ty), .ref f1, .ref f2])), (f2, .inl (cB, 208, .inl (aN (nup f (fFM sl + k) (tp (nx + k))))))]) hP hD [3, 5] [0, 1, 2, 4] rfl rfl (by decide) (by decide) hk1 hFc hP1 hD1
        have hP : va_P (dC, dI) vwCl [(r0, .inr (1, [.ref f0, .int (nI fk), .int fp, .ref t0, .int (nI nx), .int (nI lnb)])), (t0, .inr (2, [.ref t1, .int (nI len)])), (t1, .inl (cB, 400, .inl (aB tp))), (f1, .inl (cI, 16, .inl (aN cnt))), (f0, .inr (0, [.int (nI ty), .ref f1, .ref f2])), (f2, .inl (cB, 208, .inl (aN (nup f (fFM sl + k) (tp (nx + k))))))] H := hP
        have hD : va_D A [(r0, .inr (1, [.ref f0, .int (nI fk), .int fp, .ref t0, .int (nI nx), .int (nI lnb)])), (t0, .inr (2, [.ref t1, .int (nI len)])), (t1, .inl (cB, 400, .inl (aB tp))), (f1, .inl (cI, 16, .inl (aN cnt))), (f0, .inr (0, [.int (nI ty), .ref f1, .ref f2])), (f2, .inl (cB, 208, .inl (aN (nup f (fFM sl + k) (tp (nx + k))))))] := hD
        refine lv_iinc (v := nI (k + 1)) (lv' := [(3, .int (nI (k + 1))), (4, .int (nI (tp (nx + k)))), (0, .ref r0), (1, .int (nI sl)), (2, .int (nI ct))]) hx hb dR_walkLetters_64 hl (k := 4) rfl (zi_incr k 1) (by decide) rfl (fun ls hl => ?_)
        refine lv_goto (tgt := 12) hx hb dR_walkLetters_67 (by decide) ?_
        exact ih12 (k + 1) (nup f (fFM sl + k) (tp (nx + k))) (by omega) (by have h9 := hi; rw [show ct - k = ct - (k + 1) + 1 by omega] at h9; unfold ltL at h9; rw [if_pos hL] at h9; exact h9) (by have h9 := hj; rw [show ct - k = ct - (k + 1) + 1 by omega] at h9; exact h9) (by omega) _ _ _ (lv_sub hl [2, 3, 4, 0] rfl) (hP.sub [0, 1, 2, 4, 3, 5] rfl) (hD.sub [0, 1, 2, 4, 3, 5] (by decide) rfl) hS
  exact lp_12 ((ct - 0) + 1) 0 mk (by omega) hd rfl (Nat.lt_succ_self _) _ _ _ (lv_sub hl [1, 2, 3, 0] rfl) (hP.sub [0, 1, 2, 3, 4, 5] rfl) (hD.sub [0, 1, 2, 3, 4, 5] (by decide) rfl) hS
def rm_c_walkLetters_no : Room := ({ frames := 2, cells := 0, slots := 0, locals := 43 } : Room)
set_option maxHeartbeats 4000000 in
set_option maxRecDepth 100000 in
theorem c_walkLetters_no (l : Launch) (dC : Nat → ClassId) (dI : Nat → Nat → Nat) (r0 : Nat) (f0 : Nat) (fk : Nat) (fp : Int32) (t0 : Nat) (nx : Nat) (lnb : Nat) (t1 : Nat) (len : Nat) (cI : ClassId) (cB : ClassId) (tp : Nat → Nat) (f1 : Nat) (f2 : Nat) (ty : Nat) (cnt : Nat → Nat) (mk : Nat → Nat) (sl : Nat) (ct : Nat) (k2 : Nat) (p2 : Nat) (hln : len ≤ 400) (hnl : nx ≤ len) (htp : ∀ j, tp j < 256) (hs : sl < 16) (hb : fFM sl + ct ≤ 208) (hc : ct < 100) (hm : ∀ j, mk j < 128) (hd : ltF tp len nx ct = some (k2, p2)) (sz : Nat) : Met l yR_walkLetters wsR_walkLetters rm_c_walkLetters_no (zM (dC, dI) [(cI, .int), (cB, .byte)] [.ref r0, .int (nI sl), .int (nI ct)] [(r0, .inr (1, [.ref f0, .int (nI fk), .int fp, .ref t0, .int (nI nx), .int (nI lnb)])), (t0, .inr (2, [.ref t1, .int (nI len)])), (t1, .inl (cB, 400, .inl (aB tp))), (f0, .inr (0, [.int (nI ty), .ref f1, .ref f2])), (f1, .inl (cI, 16, .inl (aN cnt))), (f2, .inl (cB, 208, .inl (aN mk)))] sz) (zSi (dC, dI) [(r0, .inr (1, [.ref f0, .int (nI fk), .int fp, .ref t0, .int (nI nx), .int (nI lnb)])), (t0, .inr (2, [.ref t1, .int (nI len)])), (t1, .inl (cB, 400, .inl (aB tp))), (f0, .inr (0, [.int (nI ty), .ref f1, .ref f2])), (f1, .inl (cI, 16, .inl (aN cnt))), (f2, .inl (cB, 208, .inl (aN mk)))] sz (fun r (u : Nat → Nat) => r = nI 0 ∧ ∀ j, u j < 128) (fun u => [(r0, .inr (1, [.ref f0, .int (nI k2), .int (nI p2), .ref t0, .int (nI nx), .int (nI lnb)])), (t0, .inr (2, [.ref t1, .int (nI len)])), (t1, .inl (cB, 400, .inl (aB tp))), (f0, .inr (0, [.int (nI ty), .ref f1, .ref f2])), (f1, .inl (cI, 16, .inl (aN cnt))), (f2, .inl (cB, 208, .inl (aN u)))])) 0 0 (va_A [(r0, .inr (1, [.ref f0, .int (nI fk), .int fp, .ref t0, .int (nI nx), .int (nI lnb)])), (t0, .inr (2, [.ref t1, .int (nI len)])), (t1, .inl (cB, 400, .inl (aB tp))), (f0, .inr (0, [.int (nI ty), .ref f1, .ref f2])), (f1, .inl (cI, 16, .inl (aN cnt))), (f2, .inl (cB, 208, .inl (aN mk)))] sz) := by
  refine Met.ofW (cc := cR_walkLetters) (maxL := 5) (ret := (some .boolean)) (by decide) rfl ?_
  intro p e s m args below meth c s₁ Bd hml hv
  obtain ⟨rfl, hsz, hG, hP, hK, hD0⟩ := hv
  subst hsz
  have hx := Bd.exec
  have hb := Bd.bytes
  have hr := Bd.returns
  have hts := atoms_spec (ws := wsR_walkLetters) Bd.pre
  have hw : ∀ w ∈ BIG, w.before _ s = true := fun w h => hts w (List.mem_cons_of_mem _ h)
  have hown : s.vm.findClass RR = some m.cls := findClass_of_methodNamed Bd.named
  have hlocks := Bd.notSynchronized
  have hD := hD0.self (sz := s.heap.size)
  obtain ⟨A, hAe⟩ : ∃ A, A = va_A [(r0, .inr (1, [.ref f0, .int (nI fk), .int fp, .ref t0, .int (nI nx), .int (nI lnb)])), (t0, .inr (2, [.ref t1, .int (nI len)])), (t1, .inl (cB, 400, .inl (aB tp))), (f0, .inr (0, [.int (nI ty), .ref f1, .ref f2])), (f1, .inl (cI, 16, .inl (aN cnt))), (f2, .inl (cB, 208, .inl (aN mk)))] s.heap.size := ⟨_, rfl⟩
  have hA : ∀ q : Nat, s.heap.size ≤ q → A q := fun q h => by rw [hAe]; exact Or.inr h
  rw [← hAe] at hG hD
  have hS : va_S A s.heap s.heap [] := va_S.rf
  have hl := lv_entry ([.ref r0, .int (nI sl), .int (nI ct)]) (n := 5) (Nat.le_of_ble_eq_true rfl)
  rw [lg_entry_eq]
  generalize (lg_sl ([.ref r0, .int (nI sl), .int (nI ct)]) ++ List.replicate (5 - (lg_sl ([.ref r0, .int (nI sl), .int (nI ct)])).length) Slot.unset).toArray = ls at hl ⊢
  have hl : lv_has ls 5 [(0, .ref r0), (1, .int (nI sl)), (2, .int (nI ct))] := hl
  refine zq_name (fun Q hQ => ?_)
  change W p l e rm_c_walkLetters_no s m _ below meth c _ _ _ _ Q _
  by_cases hq : len < nx + ct
  · unfold ltF at hd
    rw [if_pos hq] at hd
    cases hd
    refine lv_aload_n hx hb dR_walkLetters_0 rfl (lv_at hl 0 rfl) ?_
    refine lv_iload_n hx hb dR_walkLetters_1 rfl (lv_at hl 2 rfl) ?_
    have hPc := hP.sub (ws' := [(r0, .inr (1, [.ref f0, .int (nI fk), .int fp, .ref t0, .int (nI nx), .int (nI lnb)])), (t0, .inr (2, [.ref t1, .int (nI len)]))]) [0, 1] rfl
    have hDc := hD.sub (ws' := [(r0, .inr (1, [.ref f0, .int (nI fk), .int fp, .ref t0, .int (nI nx), .int (nI lnb)])), (t0, .inr (2, [.ref t1, .int (nI len)]))]) [0, 1] (by decide) rfl
    have hFc := va_free (wc := [(r0, .inr (1, [.ref f0, .int (nI fk), .int fp, .ref t0, .int (nI nx), .int (nI lnb)])), (t0, .inr (2, [.ref t1, .int (nI len)]))]) hD hS hA [0, 1] rfl
    refine zc_Mi (va_runV (As := [.int (nI ct)]) (rest := []) ⟨hx, hb, hml, hown, hw⟩ (c_reaches_no l dC dI r0 f0 fk fp t0 nx lnb t1 len cI cB ct (by omega) (by omega) (by omega) (by omega) s.heap.size) (cwV 1 hw (gV w_ml_R_79 w_im_R_reaches w_se_R_reaches w_in_R w_co_R_reaches) rfl rfl rfl (by decide +kernel) ⟨Nat.le_of_ble_eq_true rfl, Nat.le_of_ble_eq_true rfl⟩) (zM_V hG hS hFc hPc hDc hK 0 rfl rfl) rfl rfl hl.1 rfl (lv_room (Nat.le_of_ble_eq_true rfl)) dR_walkLetters_2 ⟨Nat.le_of_ble_eq_true rfl, Nat.le_of_ble_eq_true rfl⟩) hS hFc (fun r_1 H locs h_2 hP1 hD1 hk1 hS => ?_)
    obtain ⟨hP, hD⟩ := va_join (wr := [(t1, .inl (cB, 400, .inl (aB tp))), (f0, .inr (0, [.int (nI ty), .ref f1, .ref f2])), (f1, .inl (cI, 16, .inl (aN cnt))), (f2, .inl (cB, 208, .inl (aN mk)))]) (w1 := [(r0, .inr (1, [.ref f0, .int (nI 1), .int (nI len), .ref t0, .int (nI nx), .int (nI lnb)])), (t0, .inr (2, [.ref t1, .int (nI len)]))]) hP hD [0, 1] [2, 3, 4, 5] rfl rfl (by decide) (by decide) hk1 hFc hP1 hD1
    have hP : va_P (dC, dI) vwCl [(t1, .inl (cB, 400, .inl (aB tp))), (f0, .inr (0, [.int (nI ty), .ref f1, .ref f2])), (f1, .inl (cI, 16, .inl (aN cnt))), (f2, .inl (cB, 208, .inl (aN mk))), (r0, .inr (1, [.ref f0, .int (nI 1), .int (nI len), .ref t0, .int (nI nx), .int (nI lnb)])), (t0, .inr (2, [.ref t1, .int (nI len)]))] H := hP
    have hD : va_D A [(t1, .inl (cB, 400, .inl (aB tp))), (f0, .inr (0, [.int (nI ty), .ref f1, .ref f2])), (f1, .inl (cI, 16, .inl (aN cnt))), (f2, .inl (cB, 208, .inl (aN mk))), (r0, .inr (1, [.ref f0, .int (nI 1), .int (nI len), .ref t0, .int (nI nx), .int (nI lnb)])), (t0, .inr (2, [.ref t1, .int (nI len)]))] := hD
    subst h_2
    refine lv_if_ne (tgt := 10) hx hb dR_walkLetters_5 (by decide) (fun q => False.elim (absurd q (by decide))) (fun c_5 => ?_)
    refine lv_iconst (v := nI 0) hx hb dR_walkLetters_8 (by decide) ?_
    subst hAe
    subst hQ
    exact W.zret (v := nI 0) hx hb hr (by decide) (fun t ht hW => ⟨⟨nI 0, mk, rfl, ⟨rfl, hm⟩, by rw [ht]; exact hP.sub [4, 5, 0, 1, 2, 3] rfl, hD.sub [4, 5, 0, 1, 2, 3] (by decide) rfl⟩, hS.F ht⟩) hS.2.2 dR_walkLetters_9
  · unfold ltF at hd
    rw [if_neg hq] at hd
    refine lv_aload_n hx hb dR_walkLetters_0 rfl (lv_at hl 0 rfl) ?_
    refine lv_iload_n hx hb dR_walkLetters_1 rfl (lv_at hl 2 rfl) ?_
    refine zc_Ri (va_runV (As := [.int (nI ct)]) (rest := []) ⟨hx, hb, hml, hown, hw⟩ (c_reaches_ok l dC dI r0 f0 fk fp t0 nx lnb t1 len cI cB ct (by omega) (by omega) (by omega) s.heap) (cwV 1 hw (gV w_ml_R_79 w_im_R_reaches w_se_R_reaches w_in_R w_co_R_reaches) rfl rfl rfl (by decide +kernel) ⟨Nat.le_of_ble_eq_true rfl, Nat.le_of_ble_eq_true rfl⟩) (zR_V hG hS (hP.sub (ws' := [(r0, .inr (1, [.ref f0, .int (nI fk), .int fp, .ref t0, .int (nI nx), .int (nI lnb)])), (t0, .inr (2, [.ref t1, .int (nI len)]))]) [0, 1] rfl) hK 0 rfl rfl) rfl rfl hl.1 rfl (lv_room (Nat.le_of_ble_eq_true rfl)) dR_walkLetters_2 ⟨Nat.le_of_ble_eq_true rfl, Nat.le_of_ble_eq_true rfl⟩) hS (fun r_2 locs h_2 hS => ?_)
    subst h_2
    refine lv_if_ne (tgt := 10) hx hb dR_walkLetters_5 (by decide) (fun c_5 => ?_) (fun q => False.elim (absurd q (by decide)))
    refine lv_iconst (v := nI 0) hx hb dR_walkLetters_10 (by decide) ?_
    refine lv_istore_n (lv' := [(3, .int (nI 0)), (0, .ref r0), (1, .int (nI sl)), (2, .int (nI ct))]) hx hb dR_walkLetters_11 rfl hl (by decide) rfl (fun ls hl => ?_)
    have lp_12 : ∀ (fu : Nat) (k : Nat) (f : Nat → Nat) (hk : k ≤ ct) (hi : ltL tp (ct - k) (nx + k) = some (k2, p2)) (hf9 : ∀ j, f j < 128) (hms : ct - k < fu) (H : Heap) (locs : List Loc) (ls : Array Slot), lv_has ls 5 [(0, .ref r0), (1, .int (nI sl)), (2, .int (nI ct)), (3, .int (nI k))] → va_P (dC, dI) vwCl [(r0, .inr (1, [.ref f0, .int (nI fk), .int fp, .ref t0, .int (nI nx), .int (nI lnb)])), (t0, .inr (2, [.ref t1, .int (nI len)])), (t1, .inl (cB, 400, .inl (aB tp))), (f0, .inr (0, [.int (nI ty), .ref f1, .ref f2])), (f1, .inl (cI, 16, .inl (aN cnt))), (f2, .inl (cB, 208, .inl (aN f)))] H → va_D A [(r0, .inr (1, [.ref f0, .int (nI fk), .int fp, .ref t0, .int (nI nx), .int (nI lnb)])), (t0, .inr (2, [.ref t1, .int (nI len)])), (t1, .inl (cB, 400, .inl (aB tp))), (f0, .inr (0, [.int (nI ty), .ref f1, .ref f2])), (f1, .inl (cI, 16, .inl (aN cnt))), (f2, .inl (cB, 208, .inl (aN f)))] → va_S A s.heap H locs → W p l e rm_c_walkLetters_no s m ([.ref r0, .int (nI sl), .int (nI ct)] : List Value).toArray below meth c H locs 0 0 Q (F0 m 12 ls []) := by
      intro fu
      induction fu with
      | zero => intro k f hk hi hf9 hms; exact absurd hms (Nat.not_lt_zero _)
      | succ fu ih12 =>
        intro k f hk hi hf9 hms H locs ls hl hP hD hS
        refine lv_iload_n hx hb dR_walkLetters_12 rfl (lv_at hl 3 rfl) ?_
        refine lv_iload_n hx hb dR_walkLetters_13 rfl (lv_at hl 2 rfl) ?_
        refine zi_ge (tgt := 70) hx hb (by omega) (by omega) dR_walkLetters_14 (by decide) (fun q => False.elim ((by have h9 := hi; rw [show ct - k = 0 by omega] at h9; cases h9))) (fun c_14 => ?_)
        by_cases hL : isL (tp (nx + k)) = true
        · have h9 := hi; rw [show ct - k = ct - (k + 1) + 1 by omega] at h9; unfold ltL at h9
          rw [if_pos hL] at h9
          have ht9 := htp (nx + k)
          have hL9 := isL_lt hL
          refine lv_aload_n hx hb dR_walkLetters_17 rfl (lv_at hl 0 rfl) ?_
          refine va_get (D := (dC, dI)) (ci := 1) (v := .ref t0) (C := RR) (T := TR) (N := 6) hx hb hw inR hown hK hP 0 rfl rfl 3 (by decide) (hw _ w_fl_R_31) (fun _ h9 => h9) rfl dR_walkLetters_18 ?_
          refine lv_aload_n hx hb dR_walkLetters_21 rfl (lv_at hl 0 rfl) ?_
          refine va_get (D := (dC, dI)) (ci := 1) (v := .int (nI nx)) (C := RR) (T := TR) (N := 6) hx hb hw inR hown hK hP 0 rfl rfl 4 (by decide) (hw _ w_fl_R_25) (fun _ h9 => h9) rfl dR_walkLetters_22 ?_
          refine lv_iload_n hx hb dR_walkLetters_25 rfl (lv_at hl 3 rfl) ?_
          refine zi_add hx hb dR_walkLetters_26 ?_
          refine zc_Ri (va_runV (As := [.int (nI (nx + k))]) (rest := []) ⟨hx, hb, hml, hown, hw⟩ (c_T_byteAt l dC dI t0 t1 len cI cB tp (nx + k) (by omega) (htp _) H) (cwV 1 hw (gV w_ml_R_50 w_im_T_byteAt w_se_T_byteAt w_in_T w_co_T_byteAt) rfl rfl rfl (by decide +kernel) ⟨Nat.le_of_ble_eq_true rfl, Nat.le_of_ble_eq_true rfl⟩) (zR_V hG hS (hP.sub (ws' := [(t0, .inr (2, [.ref t1, .int (nI len)])), (t1, .inl (cB, 400, .inl (aB tp)))]) [1, 2] rfl) hK 0 rfl rfl) rfl rfl hl.1 rfl (lv_room (Nat.le_of_ble_eq_true rfl)) dR_walkLetters_27 ⟨Nat.le_of_ble_eq_true rfl, Nat.le_of_ble_eq_true rfl⟩) hS (fun r_3 locs h_27 hS => ?_)
          subst h_27
          refine lv_istore (lv' := [(4, .int (nI (tp (nx + k)))), (0, .ref r0), (1, .int (nI sl)), (2, .int (nI ct)), (3, .int (nI k))]) hx hb dR_walkLetters_30 hl (by decide) rfl (fun ls hl => ?_)
          refine lv_iload hx hb dR_walkLetters_32 (lv_at hl 0 rfl) ?_
          refine zc_Ri (va_runS (As := [.int (nI (tp (nx + k)))]) (rest := []) ⟨hx, hb, hml, hown, hw⟩ (c_isLetter_ok l dC dI cI cB (tp (nx + k)) (htp _) hL H) (va_cwS 1 hw (gSt w_ml_R_120 w_st_R_isLetter w_in_R w_co_R_isLetter) rfl rfl rfl (by decide +kernel) ⟨Nat.le_of_ble_eq_true rfl, Nat.le_of_ble_eq_true rfl⟩) (zR_S hG hS (hP.sub (ws' := []) [] rfl) hK) rfl rfl hl.1 rfl (lv_room (Nat.le_of_ble_eq_true rfl)) dR_walkLetters_34 ⟨Nat.le_of_ble_eq_true rfl, Nat.le_of_ble_eq_true rfl⟩) hS (fun r_4 locs h_34 hS => ?_)
          subst h_34
          refine lv_if_ne (tgt := 53) hx hb dR_walkLetters_37 (by decide) (fun c_37 => ?_) (fun q => False.elim (absurd q (by decide)))
          refine lv_aload_n hx hb dR_walkLetters_53 rfl (lv_at hl 1 rfl) ?_
          refine va_get (D := (dC, dI)) (ci := 1) (v := .ref f0) (C := RR) (T := TR) (N := 6) hx hb hw inR hown hK hP 0 rfl rfl 0 (by decide) (hw _ w_fl_R_12) (fun _ h9 => h9) rfl dR_walkLetters_54 ?_
          refine lv_iload_n hx hb dR_walkLetters_57 rfl (lv_at hl 2 rfl) ?_
          refine lv_iload_n hx hb dR_walkLetters_58 rfl (lv_at hl 4 rfl) ?_
          refine lv_iload hx hb dR_walkLetters_59 (lv_at hl 0 rfl) ?_
          have hPc := hP.sub (ws' := [(f0, .inr (0, [.int (nI ty), .ref f1, .ref f2])), (f2, .inl (cB, 208, .inl (aN f)))]) [3, 5] rfl
          have hDc := hD.sub (ws' := [(f0, .inr (0, [.int (nI ty), .ref f1, .ref f2])), (f2, .inl (cB, 208, .inl (aN f)))]) [3, 5] (by decide) rfl
          have hFc := va_free (wc := [(f0, .inr (0, [.int (nI ty), .ref f1, .ref f2])), (f2, .inl (cB, 208, .inl (aN f)))]) hD hS hA [3, 5] rfl
          refine zc_Mv (va_runV (As := [.int (nI sl), .int (nI k), .int (nI (tp (nx + k)))]) (rest := []) ⟨hx, hb, hml, hown, hw⟩ (c_D_setMark l dC dI f0 f1 f2 cI cB ty f sl k (tp (nx + k)) (by omega) (by omega) (by omega) H.size) (cwV 3 hw (gV w_ml_R_113 w_im_D_setMark w_se_D_setMark w_in_D w_co_D_setMark) rfl rfl rfl (by decide +kernel) ⟨Nat.le_of_ble_eq_true rfl, Nat.le_of_ble_eq_true rfl⟩) (zM_V hG hS hFc hPc hDc hK 0 rfl rfl) rfl rfl hl.1 rfl (lv_room (Nat.le_of_ble_eq_true rfl)) dR_walkLetters_61 ⟨Nat.le_of_ble_eq_true rfl, Nat.le_of_ble_eq_true rfl⟩) hS hFc (fun H locs h_61 hP1 hD1 hk1 hS => ?_)
          obtain ⟨hP, hD⟩ := va_join (wr := [(r0, .inr (1, [.ref f0, .int (nI fk), .int fp, .ref t0, .int (nI nx), .int (nI lnb)])), (t0, .inr (2, [.ref t1, .int (nI len)])), (t1, .inl (cB, 400, .inl (aB tp))), (f1, .inl (cI, 16, .inl (aN cnt)))]) (w1 := [(f0, .inr (0, [.int (nI ty), .ref f1, .ref f2])), (f2, .inl (cB, 208, .inl (aN (nup f (fFM sl + k) (tp (nx + k))))))]) hP hD [3, 5] [0, 1, 2, 4] rfl rfl (by decide) (by decide) hk1 hFc hP1 hD1
          have hP : va_P (dC, dI) vwCl [(r0, .inr (1, [.ref f0, .int (nI fk), .int fp, .ref t0, .int (nI nx), .int (nI lnb)])), (t0, .inr (2, [.ref t1, .int (nI len)])), (t1, .inl (cB, 400, .inl (aB tp))), (f1, .inl (cI, 16, .inl (aN cnt))), (f0, .inr (0, [.int (nI ty), .ref f1, .ref f2])), (f2, .inl (cB, 208, .inl (aN (nup f (fFM sl + k) (tp (nx + k))))))] H := hP
          have hD : va_D A [(r0, .inr (1, [.ref f0, .int (nI fk), .int fp, .ref t0, .int (nI nx), .int (nI lnb)])), (t0, .inr (2, [.ref t1, .int (nI len)])), (t1, .inl (cB, 400, .inl (aB tp))), (f1, .inl (cI, 16, .inl (aN cnt))), (f0, .inr (0, [.int (nI ty), .ref f1, .ref f2])), (f2, .inl (cB, 208, .inl (aN (nup f (fFM sl + k) (tp (nx + k))))))] := hD
          refine lv_iinc (v := nI (k + 1)) (lv' := [(3, .int (nI (k + 1))), (4, .int (nI (tp (nx + k)))), (0, .ref r0), (1, .int (nI sl)), (2, .int (nI ct))]) hx hb dR_walkLetters_64 hl (k := 4) rfl (zi_incr k 1) (by decide) rfl (fun ls hl => ?_)
          refine lv_goto (tgt := 12) hx hb dR_walkLetters_67 (by decide) ?_
          exact ih12 (k + 1) (nup f (fFM sl + k) (tp (nx + k))) (by omega) h9 (nup_lt hf9 (by omega)) (by omega) _ _ _ (lv_sub hl [2, 3, 4, 0] rfl) (hP.sub [0, 1, 2, 4, 3, 5] rfl) (hD.sub [0, 1, 2, 4, 3, 5] (by decide) rfl) hS
        · have h9 := hi; rw [show ct - k = ct - (k + 1) + 1 by omega] at h9; unfold ltL at h9
          rw [if_neg hL] at h9
          cases h9
          have hL := Bool.eq_false_iff.mpr hL
          refine lv_aload_n hx hb dR_walkLetters_17 rfl (lv_at hl 0 rfl) ?_
          refine va_get (D := (dC, dI)) (ci := 1) (v := .ref t0) (C := RR) (T := TR) (N := 6) hx hb hw inR hown hK hP 0 rfl rfl 3 (by decide) (hw _ w_fl_R_31) (fun _ h9 => h9) rfl dR_walkLetters_18 ?_
          refine lv_aload_n hx hb dR_walkLetters_21 rfl (lv_at hl 0 rfl) ?_
          refine va_get (D := (dC, dI)) (ci := 1) (v := .int (nI nx)) (C := RR) (T := TR) (N := 6) hx hb hw inR hown hK hP 0 rfl rfl 4 (by decide) (hw _ w_fl_R_25) (fun _ h9 => h9) rfl dR_walkLetters_22 ?_
          refine lv_iload_n hx hb dR_walkLetters_25 rfl (lv_at hl 3 rfl) ?_
          refine zi_add hx hb dR_walkLetters_26 ?_
          refine zc_Ri (va_runV (As := [.int (nI (nx + k))]) (rest := []) ⟨hx, hb, hml, hown, hw⟩ (c_T_byteAt l dC dI t0 t1 len cI cB tp (nx + k) (by omega) (htp _) H) (cwV 1 hw (gV w_ml_R_50 w_im_T_byteAt w_se_T_byteAt w_in_T w_co_T_byteAt) rfl rfl rfl (by decide +kernel) ⟨Nat.le_of_ble_eq_true rfl, Nat.le_of_ble_eq_true rfl⟩) (zR_V hG hS (hP.sub (ws' := [(t0, .inr (2, [.ref t1, .int (nI len)])), (t1, .inl (cB, 400, .inl (aB tp)))]) [1, 2] rfl) hK 0 rfl rfl) rfl rfl hl.1 rfl (lv_room (Nat.le_of_ble_eq_true rfl)) dR_walkLetters_27 ⟨Nat.le_of_ble_eq_true rfl, Nat.le_of_ble_eq_true rfl⟩) hS (fun r_6 locs h_27 hS => ?_)
          subst h_27
          refine lv_istore (lv' := [(4, .int (nI (tp (nx + k)))), (0, .ref r0), (1, .int (nI sl)), (2, .int (nI ct)), (3, .int (nI k))]) hx hb dR_walkLetters_30 hl (by decide) rfl (fun ls hl => ?_)
          refine lv_iload hx hb dR_walkLetters_32 (lv_at hl 0 rfl) ?_
          refine zc_Ri (va_runS (As := [.int (nI (tp (nx + k)))]) (rest := []) ⟨hx, hb, hml, hown, hw⟩ (c_isLetter_no l dC dI cI cB (tp (nx + k)) (htp _) hL H) (va_cwS 1 hw (gSt w_ml_R_120 w_st_R_isLetter w_in_R w_co_R_isLetter) rfl rfl rfl (by decide +kernel) ⟨Nat.le_of_ble_eq_true rfl, Nat.le_of_ble_eq_true rfl⟩) (zR_S hG hS (hP.sub (ws' := []) [] rfl) hK) rfl rfl hl.1 rfl (lv_room (Nat.le_of_ble_eq_true rfl)) dR_walkLetters_34 ⟨Nat.le_of_ble_eq_true rfl, Nat.le_of_ble_eq_true rfl⟩) hS (fun r_7 locs h_34 hS => ?_)
          subst h_34
          refine lv_if_ne (tgt := 53) hx hb dR_walkLetters_37 (by decide) (fun q => False.elim (absurd q (by decide))) (fun c_37 => ?_)
          refine lv_aload_n hx hb dR_walkLetters_40 rfl (lv_at hl 1 rfl) ?_
          refine lv_bipush (v := nI 6) hx hb dR_walkLetters_41 (by decide) ?_
          refine lv_aload_n hx hb dR_walkLetters_43 rfl (lv_at hl 1 rfl) ?_
          refine va_get (D := (dC, dI)) (ci := 1) (v := .int (nI nx)) (C := RR) (T := TR) (N := 6) hx hb hw inR hown hK hP 0 rfl rfl 4 (by decide) (hw _ w_fl_R_25) (fun _ h9 => h9) rfl dR_walkLetters_44 ?_
          refine lv_iload_n hx hb dR_walkLetters_47 rfl (lv_at hl 4 rfl) ?_
          refine zi_add hx hb dR_walkLetters_48 ?_
          have hPc := hP.sub (ws' := [(r0, .inr (1, [.ref f0, .int (nI fk), .int fp, .ref t0, .int (nI nx), .int (nI lnb)]))]) [0] rfl
          have hDc := hD.sub (ws' := [(r0, .inr (1, [.ref f0, .int (nI fk), .int fp, .ref t0, .int (nI nx), .int (nI lnb)]))]) [0] (by decide) rfl
          have hFc := va_free (wc := [(r0, .inr (1, [.ref f0, .int (nI fk), .int fp, .ref t0, .int (nI nx), .int (nI lnb)]))]) hD hS hA [0] rfl
          refine zc_Mi (va_runV (As := [.int (nI 6), .int (nI (nx + k))]) (rest := []) ⟨hx, hb, hml, hown, hw⟩ (c_R_fail l dC dI r0 f0 fk fp t0 nx lnb cI cB 6 (nI (nx + k)) H.size) (cwV 2 hw (gV w_ml_R_65 w_im_R_fail w_se_R_fail w_in_R w_co_R_fail) rfl rfl rfl (by decide +kernel) ⟨Nat.le_of_ble_eq_true rfl, Nat.le_of_ble_eq_true rfl⟩) (zM_V hG hS hFc hPc hDc hK 0 rfl rfl) rfl rfl hl.1 rfl (lv_room (Nat.le_of_ble_eq_true rfl)) dR_walkLetters_49 ⟨Nat.le_of_ble_eq_true rfl, Nat.le_of_ble_eq_true rfl⟩) hS hFc (fun r_8 H locs h_49 hP1 hD1 hk1 hS => ?_)
          obtain ⟨hP, hD⟩ := va_join (wr := [(t0, .inr (2, [.ref t1, .int (nI len)])), (t1, .inl (cB, 400, .inl (aB tp))), (f0, .inr (0, [.int (nI ty), .ref f1, .ref f2])), (f1, .inl (cI, 16, .inl (aN cnt))), (f2, .inl (cB, 208, .inl (aN f)))]) (w1 := [(r0, .inr (1, [.ref f0, .int (nI 6), .int (nI (nx + k)), .ref t0, .int (nI nx), .int (nI lnb)]))]) hP hD [0] [1, 2, 3, 4, 5] rfl rfl (by decide) (by decide) hk1 hFc hP1 hD1
          have hP : va_P (dC, dI) vwCl [(t0, .inr (2, [.ref t1, .int (nI len)])), (t1, .inl (cB, 400, .inl (aB tp))), (f0, .inr (0, [.int (nI ty), .ref f1, .ref f2])), (f1, .inl (cI, 16, .inl (aN cnt))), (f2, .inl (cB, 208, .inl (aN f))), (r0, .inr (1, [.ref f0, .int (nI 6), .int (nI (nx + k)), .ref t0, .int (nI nx), .int (nI lnb)]))] H := hP
          have hD : va_D A [(t0, .inr (2, [.ref t1, .int (nI len)])), (t1, .inl (cB, 400, .inl (aB tp))), (f0, .inr (0, [.int (nI ty), .ref f1, .ref f2])), (f1, .inl (cI, 16, .inl (aN cnt))), (f2, .inl (cB, 208, .inl (aN f))), (r0, .inr (1, [.ref f0, .int (nI 6), .int (nI (nx + k)), .ref t0, .int (nI nx), .int (nI lnb)]))] := hD
          subst h_49
          subst hAe
          subst hQ
          exact W.zret (v := nI 0) hx hb hr (by decide) (fun t ht hW => ⟨⟨nI 0, f, rfl, ⟨rfl, hf9⟩, by rw [ht]; exact hP.sub [5, 0, 1, 2, 3, 4] rfl, hD.sub [5, 0, 1, 2, 3, 4] (by decide) rfl⟩, hS.F ht⟩) hS.2.2 dR_walkLetters_52
    exact lp_12 ((ct - 0) + 1) 0 mk (by omega) hd hm (Nat.lt_succ_self _) _ _ _ (lv_sub hl [1, 2, 3, 0] rfl) (hP.sub [0, 1, 2, 3, 4, 5] rfl) (hD.sub [0, 1, 2, 3, 4, 5] (by decide) rfl) hS
end
section
def rm_c_walkField_ok : Room := ({ frames := 4, cells := 0, slots := 0, locals := 89 } : Room)
set_option maxHeartbeats 4000000 in
set_option maxRecDepth 100000 in
theorem c_walkField_ok (l : Launch) (dC : Nat → ClassId) (dI : Nat → Nat → Nat) (r0 : Nat) (f0 : Nat) (fk : Nat) (fp : Int32) (t0 : Nat) (nx : Nat) (lnb : Nat) (t1 : Nat) (len : Nat) (cI : ClassId) (cB : ClassId) (tp : Nat → Nat) (f1 : Nat) (f2 : Nat) (ty : Nat) (cnt : Nat → Nat) (mk : Nat → Nat) (sl : Nat) (hln : len ≤ 400) (hnl : nx ≤ len) (htp : ∀ j, tp j < 256) (hs : sl < 16) (hd : fieldF tp len nx sl = none) (sz : Nat) : Met l yR_walkField wsR_walkField rm_c_walkField_ok (zM (dC, dI) [(cI, .int), (cB, .byte)] [.ref r0, .int (nI sl)] [(r0, .inr (1, [.ref f0, .int (nI fk), .int fp, .ref t0, .int (nI nx), .int (nI lnb)])), (t0, .inr (2, [.ref t1, .int (nI len)])), (t1, .inl (cB, 400, .inl (aB tp))), (f0, .inr (0, [.int (nI ty), .ref f1, .ref f2])), (f1, .inl (cI, 16, .inl (aN cnt))), (f2, .inl (cB, 208, .inl (aN mk)))] sz) (zMi (dC, dI) [(r0, .inr (1, [.ref f0, .int (nI fk), .int fp, .ref t0, .int (nI nx), .int (nI lnb)])), (t0, .inr (2, [.ref t1, .int (nI len)])), (t1, .inl (cB, 400, .inl (aB tp))), (f0, .inr (0, [.int (nI ty), .ref f1, .ref f2])), (f1, .inl (cI, 16, .inl (aN cnt))), (f2, .inl (cB, 208, .inl (aN mk)))] [(r0, .inr (1, [.ref f0, .int (nI fk), .int fp, .ref t0, .int (nI (fNx tp nx sl)), .int (nI (fLn tp nx sl lnb))])), (t0, .inr (2, [.ref t1, .int (nI len)])), (t1, .inl (cB, 400, .inl (aB tp))), (f0, .inr (0, [.int (nI ty), .ref f1, .ref f2])), (f1, .inl (cI, 16, .inl (aN (nup cnt sl (fCt tp nx sl))))), (f2, .inl (cB, 208, .inl (aN (fMk tp nx sl mk))))] sz (fun r => r = nI 1)) 0 0 (va_A [(r0, .inr (1, [.ref f0, .int (nI fk), .int fp, .ref t0, .int (nI nx), .int (nI lnb)])), (t0, .inr (2, [.ref t1, .int (nI len)])), (t1, .inl (cB, 400, .inl (aB tp))), (f0, .inr (0, [.int (nI ty), .ref f1, .ref f2])), (f1, .inl (cI, 16, .inl (aN cnt))), (f2, .inl (cB, 208, .inl (aN mk)))] sz) := by
  refine Met.ofW (cc := cR_walkField) (maxL := 4) (ret := (some .boolean)) (by decide) rfl ?_
  intro p e s m args below meth c s₁ Bd hml hv
  obtain ⟨rfl, hsz, hG, hP, hK, hD0⟩ := hv
  subst hsz
  have hx := Bd.exec
  have hb := Bd.bytes
  have hr := Bd.returns
  have hts := atoms_spec (ws := wsR_walkField) Bd.pre
  have hw : ∀ w ∈ BIG, w.before _ s = true := fun w h => hts w (List.mem_cons_of_mem _ h)
  have hown : s.vm.findClass RR = some m.cls := findClass_of_methodNamed Bd.named
  have hlocks := Bd.notSynchronized
  have hD := hD0.self (sz := s.heap.size)
  obtain ⟨A, hAe⟩ : ∃ A, A = va_A [(r0, .inr (1, [.ref f0, .int (nI fk), .int fp, .ref t0, .int (nI nx), .int (nI lnb)])), (t0, .inr (2, [.ref t1, .int (nI len)])), (t1, .inl (cB, 400, .inl (aB tp))), (f0, .inr (0, [.int (nI ty), .ref f1, .ref f2])), (f1, .inl (cI, 16, .inl (aN cnt))), (f2, .inl (cB, 208, .inl (aN mk)))] s.heap.size := ⟨_, rfl⟩
  have hA : ∀ q : Nat, s.heap.size ≤ q → A q := fun q h => by rw [hAe]; exact Or.inr h
  rw [← hAe] at hG hD
  have hS : va_S A s.heap s.heap [] := va_S.rf
  have hl := lv_entry ([.ref r0, .int (nI sl)]) (n := 4) (Nat.le_of_ble_eq_true rfl)
  rw [lg_entry_eq]
  generalize (lg_sl ([.ref r0, .int (nI sl)]) ++ List.replicate (4 - (lg_sl ([.ref r0, .int (nI sl)])).length) Slot.unset).toArray = ls at hl ⊢
  have hl : lv_has ls 4 [(0, .ref r0), (1, .int (nI sl))] := hl
  refine zq_name (fun Q hQ => ?_)
  change W p l e rm_c_walkField_ok s m _ below meth c _ _ _ _ Q _
  obtain ⟨tfMM, zfMM, afMM⟩ := hG.MOST_MARKS
  obtain ⟨tfCD, zfCD, afCD⟩ := hG.COUNT_DIGITS
  obtain ⟨tfHL, zfHL, afHL⟩ := hG.HAS_LETTERS
  have hcd := fCD_b sl hs
  have hmm := fMM_b sl hs
  have hfm := fFM_b sl hs
  have hhl := fHL_b sl hs
  refine va_getsN hx hb zfMM hS hown (va_Nw.use rfl (hG.nf (RR, 88, "MOST_MARKS") (List.mem_of_getElem? (i := 8) rfl))) (fun _ h9 => h9) dR_walkField_0 ?_
  refine lv_iload_n hx hb dR_walkField_3 rfl (lv_at hl 1 rfl) ?_
  refine za_tab hx hb afMM hS (by omega) (by decide) dR_walkField_4 ?_
  refine lv_istore_n (lv' := [(2, .int (nI (fMM sl))), (0, .ref r0), (1, .int (nI sl))]) hx hb dR_walkField_5 rfl hl (by decide) rfl (fun ls hl => ?_)
  refine va_getsN hx hb zfCD hS hown (va_Nw.use rfl (hG.nf (RR, 91, "COUNT_DIGITS") (List.mem_of_getElem? (i := 9) rfl))) (fun _ h9 => h9) dR_walkField_6 ?_
  refine lv_iload_n hx hb dR_walkField_9 rfl (lv_at hl 2 rfl) ?_
  refine za_tab hx hb afCD hS (by omega) (by decide) dR_walkField_10 ?_
  refine zi_eq0 (tgt := 59) hx hb (by omega) dR_walkField_11 (by decide) (fun c_11 => ?_) (fun c_11 => ?_)
  · have hv : valF tp len nx sl (fMM sl) = none := by have h9 := hd; unfold fieldF at h9; rw [if_pos c_11] at h9; exact h9
    refine va_getsN hx hb zfHL hS hown (va_Nw.use rfl (hG.nf (RR, 94, "HAS_LETTERS") (List.mem_of_getElem? (i := 10) rfl))) (fun _ h9 => h9) dR_walkField_59 ?_
    refine lv_iload_n hx hb dR_walkField_62 rfl (lv_at hl 2 rfl) ?_
    refine za_tab hx hb afHL hS (by omega) (by decide) dR_walkField_63 ?_
    refine zi_eq0 (tgt := 76) hx hb (by omega) dR_walkField_64 (by decide) (fun c_64 => ?_) (fun c_64 => ?_)
    · unfold valF at hv
      rw [if_pos c_64] at hv
      refine lv_aload_n hx hb dR_walkField_76 rfl (lv_at hl 1 rfl) ?_
      refine lv_iload_n hx hb dR_walkField_77 rfl (lv_at hl 2 rfl) ?_
      refine lv_iload_n hx hb dR_walkField_78 rfl (lv_at hl 0 rfl) ?_
      have hPc := hP.sub (ws' := [(r0, .inr (1, [.ref f0, .int (nI fk), .int fp, .ref t0, .int (nI nx), .int (nI lnb)])), (t0, .inr (2, [.ref t1, .int (nI len)])), (t1, .inl (cB, 400, .inl (aB tp))), (f0, .inr (0, [.int (nI ty), .ref f1, .ref f2])), (f1, .inl (cI, 16, .inl (aN cnt))), (f2, .inl (cB, 208, .inl (aN mk)))]) [0, 1, 2, 3, 4, 5] rfl
      have hDc := hD.sub (ws' := [(r0, .inr (1, [.ref f0, .int (nI fk), .int fp, .ref t0, .int (nI nx), .int (nI lnb)])), (t0, .inr (2, [.ref t1, .int (nI len)])), (t1, .inl (cB, 400, .inl (aB tp))), (f0, .inr (0, [.int (nI ty), .ref f1, .ref f2])), (f1, .inl (cI, 16, .inl (aN cnt))), (f2, .inl (cB, 208, .inl (aN mk)))]) [0, 1, 2, 3, 4, 5] (by decide) rfl
      have hFc := va_free (wc := [(r0, .inr (1, [.ref f0, .int (nI fk), .int fp, .ref t0, .int (nI nx), .int (nI lnb)])), (t0, .inr (2, [.ref t1, .int (nI len)])), (t1, .inl (cB, 400, .inl (aB tp))), (f0, .inr (0, [.int (nI ty), .ref f1, .ref f2])), (f1, .inl (cI, 16, .inl (aN cnt))), (f2, .inl (cB, 208, .inl (aN mk)))]) hD hS hA [0, 1, 2, 3, 4, 5] rfl
      refine zc_Mi (va_runV (As := [.int (nI sl), .int (nI (fMM sl))]) (rest := []) ⟨hx, hb, hml, hown, hw⟩ (c_walkDigits_ok l dC dI r0 f0 fk fp t0 nx lnb t1 len cI cB tp f1 f2 ty cnt mk sl (fMM sl) (by omega) (by omega) htp (by omega) (by omega) (by omega) hv s.heap.size) (cwV 2 hw (gV w_ml_R_100 w_im_R_walkDigits w_se_R_walkDigits w_in_R w_co_R_walkDigits) rfl rfl rfl (by decide +kernel) ⟨Nat.le_of_ble_eq_true rfl, Nat.le_of_ble_eq_true rfl⟩) (zM_V hG hS hFc hPc hDc hK 0 rfl rfl) rfl rfl hl.1 rfl (lv_room (Nat.le_of_ble_eq_true rfl)) dR_walkField_79 ⟨Nat.le_of_ble_eq_true rfl, Nat.le_of_ble_eq_true rfl⟩) hS hFc (fun r_1 H locs h_79 hP1 hD1 hk1 hS => ?_)
      obtain ⟨hP, hD⟩ := va_join (wr := []) (w1 := [(r0, .inr (1, [.ref f0, .int (nI fk), .int fp, .ref t0, .int (nI (nx + ((fMM sl) + 1) / 2)), .int (nI lnb)])), (t0, .inr (2, [.ref t1, .int (nI len)])), (t1, .inl (cB, 400, .inl (aB tp))), (f0, .inr (0, [.int (nI ty), .ref f1, .ref f2])), (f1, .inl (cI, 16, .inl (aN (nup cnt sl (fMM sl))))), (f2, .inl (cB, 208, .inl (aN (dgC tp nx (fMM sl) (fFM sl) (fMM sl) 0 mk))))]) hP hD [0, 1, 2, 3, 4, 5] [] rfl rfl (by decide) (by decide) hk1 hFc hP1 hD1
      have hP : va_P (dC, dI) vwCl [(r0, .inr (1, [.ref f0, .int (nI fk), .int fp, .ref t0, .int (nI (nx + ((fMM sl) + 1) / 2)), .int (nI lnb)])), (t0, .inr (2, [.ref t1, .int (nI len)])), (t1, .inl (cB, 400, .inl (aB tp))), (f0, .inr (0, [.int (nI ty), .ref f1, .ref f2])), (f1, .inl (cI, 16, .inl (aN (nup cnt sl (fMM sl))))), (f2, .inl (cB, 208, .inl (aN (dgC tp nx (fMM sl) (fFM sl) (fMM sl) 0 mk))))] H := hP
      have hD : va_D A [(r0, .inr (1, [.ref f0, .int (nI fk), .int fp, .ref t0, .int (nI (nx + ((fMM sl) + 1) / 2)), .int (nI lnb)])), (t0, .inr (2, [.ref t1, .int (nI len)])), (t1, .inl (cB, 400, .inl (aB tp))), (f0, .inr (0, [.int (nI ty), .ref f1, .ref f2])), (f1, .inl (cI, 16, .inl (aN (nup cnt sl (fMM sl))))), (f2, .inl (cB, 208, .inl (aN (dgC tp nx (fMM sl) (fFM sl) (fMM sl) 0 mk))))] := hD
      subst h_79
      have eC : fCt tp nx sl = fMM sl := if_pos c_11
      have eV : fVp nx sl = nx := fVp_0 c_11
      have eL : fLn tp nx sl lnb = lnb := if_pos c_11
      have eN : fNx tp nx sl = (nx) + (fMM sl + 1) / 2 := by unfold fNx vNx; rw [if_pos c_64, eV, eC]
      have eM : fMk tp nx sl mk = dgC tp (nx) (fMM sl) (fFM sl) (fMM sl) 0 mk := by unfold fMk vMk; rw [if_pos c_64, eV, eC]
      rw [eN, eM, eL, eC] at hQ
      subst hAe
      subst hQ
      exact W.zret (v := nI 1) hx hb hr (by decide) (fun t ht hW => ⟨⟨nI 1, (), rfl, rfl, by rw [ht]; exact hP.sub [0, 1, 2, 3, 4, 5] rfl, hD.sub [0, 1, 2, 3, 4, 5] (by decide) rfl⟩, hS.F ht⟩) hS.2.2 dR_walkField_82
    · unfold valF at hv
      rw [if_neg c_64] at hv
      refine lv_aload_n hx hb dR_walkField_67 rfl (lv_at hl 1 rfl) ?_
      refine lv_iload_n hx hb dR_walkField_68 rfl (lv_at hl 2 rfl) ?_
      refine lv_iload_n hx hb dR_walkField_69 rfl (lv_at hl 0 rfl) ?_
      have hPc := hP.sub (ws' := [(r0, .inr (1, [.ref f0, .int (nI fk), .int fp, .ref t0, .int (nI nx), .int (nI lnb)])), (t0, .inr (2, [.ref t1, .int (nI len)])), (t1, .inl (cB, 400, .inl (aB tp))), (f0, .inr (0, [.int (nI ty), .ref f1, .ref f2])), (f1, .inl (cI, 16, .inl (aN cnt))), (f2, .inl (cB, 208, .inl (aN mk)))]) [0, 1, 2, 3, 4, 5] rfl
      have hDc := hD.sub (ws' := [(r0, .inr (1, [.ref f0, .int (nI fk), .int fp, .ref t0, .int (nI nx), .int (nI lnb)])), (t0, .inr (2, [.ref t1, .int (nI len)])), (t1, .inl (cB, 400, .inl (aB tp))), (f0, .inr (0, [.int (nI ty), .ref f1, .ref f2])), (f1, .inl (cI, 16, .inl (aN cnt))), (f2, .inl (cB, 208, .inl (aN mk)))]) [0, 1, 2, 3, 4, 5] (by decide) rfl
      have hFc := va_free (wc := [(r0, .inr (1, [.ref f0, .int (nI fk), .int fp, .ref t0, .int (nI nx), .int (nI lnb)])), (t0, .inr (2, [.ref t1, .int (nI len)])), (t1, .inl (cB, 400, .inl (aB tp))), (f0, .inr (0, [.int (nI ty), .ref f1, .ref f2])), (f1, .inl (cI, 16, .inl (aN cnt))), (f2, .inl (cB, 208, .inl (aN mk)))]) hD hS hA [0, 1, 2, 3, 4, 5] rfl
      refine zc_Mi (va_runV (As := [.int (nI sl), .int (nI (fMM sl))]) (rest := []) ⟨hx, hb, hml, hown, hw⟩ (c_walkLetters_ok l dC dI r0 f0 fk fp t0 nx lnb t1 len cI cB tp f1 f2 ty cnt mk sl (fMM sl) (by omega) (by omega) htp (by omega) (by omega) (by omega) hv s.heap.size) (cwV 2 hw (gV w_ml_R_97 w_im_R_walkLetters w_se_R_walkLetters w_in_R w_co_R_walkLetters) rfl rfl rfl (by decide +kernel) ⟨Nat.le_of_ble_eq_true rfl, Nat.le_of_ble_eq_true rfl⟩) (zM_V hG hS hFc hPc hDc hK 0 rfl rfl) rfl rfl hl.1 rfl (lv_room (Nat.le_of_ble_eq_true rfl)) dR_walkField_70 ⟨Nat.le_of_ble_eq_true rfl, Nat.le_of_ble_eq_true rfl⟩) hS hFc (fun r_2 H locs h_70 hP1 hD1 hk1 hS => ?_)
      obtain ⟨hP, hD⟩ := va_join (wr := []) (w1 := [(r0, .inr (1, [.ref f0, .int (nI fk), .int fp, .ref t0, .int (nI (nx + (fMM sl))), .int (nI lnb)])), (t0, .inr (2, [.ref t1, .int (nI len)])), (t1, .inl (cB, 400, .inl (aB tp))), (f0, .inr (0, [.int (nI ty), .ref f1, .ref f2])), (f1, .inl (cI, 16, .inl (aN (nup cnt sl (fMM sl))))), (f2, .inl (cB, 208, .inl (aN (ltC tp nx (fFM sl) (fMM sl) 0 mk))))]) hP hD [0, 1, 2, 3, 4, 5] [] rfl rfl (by decide) (by decide) hk1 hFc hP1 hD1
      have hP : va_P (dC, dI) vwCl [(r0, .inr (1, [.ref f0, .int (nI fk), .int fp, .ref t0, .int (nI (nx + (fMM sl))), .int (nI lnb)])), (t0, .inr (2, [.ref t1, .int (nI len)])), (t1, .inl (cB, 400, .inl (aB tp))), (f0, .inr (0, [.int (nI ty), .ref f1, .ref f2])), (f1, .inl (cI, 16, .inl (aN (nup cnt sl (fMM sl))))), (f2, .inl (cB, 208, .inl (aN (ltC tp nx (fFM sl) (fMM sl) 0 mk))))] H := hP
      have hD : va_D A [(r0, .inr (1, [.ref f0, .int (nI fk), .int fp, .ref t0, .int (nI (nx + (fMM sl))), .int (nI lnb)])), (t0, .inr (2, [.ref t1, .int (nI len)])), (t1, .inl (cB, 400, .inl (aB tp))), (f0, .inr (0, [.int (nI ty), .ref f1, .ref f2])), (f1, .inl (cI, 16, .inl (aN (nup cnt sl (fMM sl))))), (f2, .inl (cB, 208, .inl (aN (ltC tp nx (fFM sl) (fMM sl) 0 mk))))] := hD
      subst h_70
      refine lv_goto (tgt := 82) hx hb dR_walkField_73 (by decide) ?_
      have eC : fCt tp nx sl = fMM sl := if_pos c_11
      have eV : fVp nx sl = nx := fVp_0 c_11
      have eL : fLn tp nx sl lnb = lnb := if_pos c_11
      have eN : fNx tp nx sl = (nx) + (fMM sl) := by unfold fNx vNx; rw [if_neg c_64, eV, eC]
      have eM : fMk tp nx sl mk = ltC tp (nx) (fFM sl) (fMM sl) 0 mk := by unfold fMk vMk; rw [if_neg c_64, eV, eC]
      rw [eN, eM, eL, eC] at hQ
      subst hAe
      subst hQ
      exact W.zret (v := nI 1) hx hb hr (by decide) (fun t ht hW => ⟨⟨nI 1, (), rfl, rfl, by rw [ht]; exact hP.sub [0, 1, 2, 3, 4, 5] rfl, hD.sub [0, 1, 2, 3, 4, 5] (by decide) rfl⟩, hS.F ht⟩) hS.2.2 dR_walkField_82
  · have hnb := nmA_b htp (nx := nx) (ct := fCD sl) (by omega)
    obtain ⟨hd9, hct1, hct2⟩ := fieldF_num hd c_11
    have hs9 := dgF_fit hd9
    have hv : valF tp len (nx + (fCD sl + 1) / 2) sl (nmA tp nx (fCD sl) (fCD sl) 0 0) = none := by
      have h9 := fieldF_val hd; unfold fVp fCt at h9; rw [if_neg c_11] at h9; exact h9
    refine lv_aload_n hx hb dR_walkField_14 rfl (lv_at hl 1 rfl) ?_
    refine va_get (D := (dC, dI)) (ci := 1) (v := .int (nI nx)) (C := RR) (T := TR) (N := 6) hx hb hw inR hown hK hP 0 rfl rfl 4 (by decide) (hw _ w_fl_R_25) (fun _ h9 => h9) rfl dR_walkField_15 ?_
    refine lv_istore_n (lv' := [(3, .int (nI nx)), (2, .int (nI (fMM sl))), (0, .ref r0), (1, .int (nI sl))]) hx hb dR_walkField_18 rfl hl (by decide) rfl (fun ls hl => ?_)
    refine lv_aload_n hx hb dR_walkField_19 rfl (lv_at hl 2 rfl) ?_
    refine va_getsN hx hb zfCD hS hown (va_Nw.use rfl (hG.nf (RR, 91, "COUNT_DIGITS") (List.mem_of_getElem? (i := 9) rfl))) (fun _ h9 => h9) dR_walkField_20 ?_
    refine lv_iload_n hx hb dR_walkField_23 rfl (lv_at hl 3 rfl) ?_
    refine za_tab hx hb afCD hS (by omega) (by decide) dR_walkField_24 ?_
    have hPc := hP.sub (ws' := [(r0, .inr (1, [.ref f0, .int (nI fk), .int fp, .ref t0, .int (nI nx), .int (nI lnb)])), (t0, .inr (2, [.ref t1, .int (nI len)])), (t1, .inl (cB, 400, .inl (aB tp)))]) [0, 1, 2] rfl
    have hDc := hD.sub (ws' := [(r0, .inr (1, [.ref f0, .int (nI fk), .int fp, .ref t0, .int (nI nx), .int (nI lnb)])), (t0, .inr (2, [.ref t1, .int (nI len)])), (t1, .inl (cB, 400, .inl (aB tp)))]) [0, 1, 2] (by decide) rfl
    have hFc := va_free (wc := [(r0, .inr (1, [.ref f0, .int (nI fk), .int fp, .ref t0, .int (nI nx), .int (nI lnb)])), (t0, .inr (2, [.ref t1, .int (nI len)])), (t1, .inl (cB, 400, .inl (aB tp)))]) hD hS hA [0, 1, 2] rfl
    refine zc_Mi (va_runV (As := [.int (nI (fCD sl))]) (rest := []) ⟨hx, hb, hml, hown, hw⟩ (c_walkNumber_ok l dC dI r0 f0 fk fp t0 nx lnb t1 len cI cB tp (fCD sl) (by omega) (by omega) htp (by omega) hd9 s.heap.size) (cwV 1 hw (gV w_ml_R_69 w_im_R_walkNumber w_se_R_walkNumber w_in_R w_co_R_walkNumber) rfl rfl rfl (by decide +kernel) ⟨Nat.le_of_ble_eq_true rfl, Nat.le_of_ble_eq_true rfl⟩) (zM_V hG hS hFc hPc hDc hK 0 rfl rfl) rfl rfl hl.1 rfl (lv_room (Nat.le_of_ble_eq_true rfl)) dR_walkField_25 ⟨Nat.le_of_ble_eq_true rfl, Nat.le_of_ble_eq_true rfl⟩) hS hFc (fun r_3 H locs h_25 hP1 hD1 hk1 hS => ?_)
    obtain ⟨hP, hD⟩ := va_join (wr := [(f0, .inr (0, [.int (nI ty), .ref f1, .ref f2])), (f1, .inl (cI, 16, .inl (aN cnt))), (f2, .inl (cB, 208, .inl (aN mk)))]) (w1 := [(r0, .inr (1, [.ref f0, .int (nI fk), .int fp, .ref t0, .int (nI (nx + ((fCD sl) + 1) / 2)), .int (nI (nmA tp nx (fCD sl) (fCD sl) 0 0))])), (t0, .inr (2, [.ref t1, .int (nI len)])), (t1, .inl (cB, 400, .inl (aB tp)))]) hP hD [0, 1, 2] [3, 4, 5] rfl rfl (by decide) (by decide) hk1 hFc hP1 hD1
    have hP : va_P (dC, dI) vwCl [(f0, .inr (0, [.int (nI ty), .ref f1, .ref f2])), (f1, .inl (cI, 16, .inl (aN cnt))), (f2, .inl (cB, 208, .inl (aN mk))), (r0, .inr (1, [.ref f0, .int (nI fk), .int fp, .ref t0, .int (nI (nx + ((fCD sl) + 1) / 2)), .int (nI (nmA tp nx (fCD sl) (fCD sl) 0 0))])), (t0, .inr (2, [.ref t1, .int (nI len)])), (t1, .inl (cB, 400, .inl (aB tp)))] H := hP
    have hD : va_D A [(f0, .inr (0, [.int (nI ty), .ref f1, .ref f2])), (f1, .inl (cI, 16, .inl (aN cnt))), (f2, .inl (cB, 208, .inl (aN mk))), (r0, .inr (1, [.ref f0, .int (nI fk), .int fp, .ref t0, .int (nI (nx + ((fCD sl) + 1) / 2)), .int (nI (nmA tp nx (fCD sl) (fCD sl) 0 0))])), (t0, .inr (2, [.ref t1, .int (nI len)])), (t1, .inl (cB, 400, .inl (aB tp)))] := hD
    subst h_25
    refine lv_if_ne (tgt := 33) hx hb dR_walkField_28 (by decide) (fun c_28 => ?_) (fun q => False.elim (absurd q (by decide)))
    refine lv_aload_n hx hb dR_walkField_33 rfl (lv_at hl 2 rfl) ?_
    refine va_get (D := (dC, dI)) (ci := 1) (v := .int (nI (nmA tp nx (fCD sl) (fCD sl) 0 0))) (C := RR) (T := TR) (N := 6) hx hb hw inR hown hK hP 3 rfl rfl 5 (by decide) (hw _ w_fl_R_28) (fun _ h9 => h9) rfl dR_walkField_34 ?_
    refine lv_istore_n (lv' := [(2, .int (nI (nmA tp nx (fCD sl) (fCD sl) 0 0))), (3, .int (nI nx)), (0, .ref r0), (1, .int (nI sl))]) hx hb dR_walkField_37 rfl hl (by decide) rfl (fun ls hl => ?_)
    refine lv_iload_n hx hb dR_walkField_38 rfl (lv_at hl 0 rfl) ?_
    refine lv_iconst (v := nI 1) hx hb dR_walkField_39 (by decide) ?_
    refine zi_lt (tgt := 52) hx hb (by omega) (by omega) dR_walkField_40 (by decide) (fun q => False.elim ((by omega))) (fun c_40 => ?_)
    refine lv_iload_n hx hb dR_walkField_43 rfl (lv_at hl 0 rfl) ?_
    refine va_getsN hx hb zfMM hS hown (va_Nw.use rfl (hG.nf (RR, 88, "MOST_MARKS") (List.mem_of_getElem? (i := 8) rfl))) (fun _ h9 => h9) dR_walkField_44 ?_
    refine lv_iload_n hx hb dR_walkField_47 rfl (lv_at hl 3 rfl) ?_
    refine za_tab hx hb afMM hS (by omega) (by decide) dR_walkField_48 ?_
    refine zi_le (tgt := 59) hx hb (by omega) (by omega) dR_walkField_49 (by decide) (fun c_49 => ?_) (fun q => False.elim ((by omega)))
    refine va_getsN hx hb zfHL hS hown (va_Nw.use rfl (hG.nf (RR, 94, "HAS_LETTERS") (List.mem_of_getElem? (i := 10) rfl))) (fun _ h9 => h9) dR_walkField_59 ?_
    refine lv_iload_n hx hb dR_walkField_62 rfl (lv_at hl 3 rfl) ?_
    refine za_tab hx hb afHL hS (by omega) (by decide) dR_walkField_63 ?_
    refine zi_eq0 (tgt := 76) hx hb (by omega) dR_walkField_64 (by decide) (fun c_64 => ?_) (fun c_64 => ?_)
    · unfold valF at hv
      rw [if_pos c_64] at hv
      refine lv_aload_n hx hb dR_walkField_76 rfl (lv_at hl 2 rfl) ?_
      refine lv_iload_n hx hb dR_walkField_77 rfl (lv_at hl 3 rfl) ?_
      refine lv_iload_n hx hb dR_walkField_78 rfl (lv_at hl 0 rfl) ?_
      have hPc := hP.sub (ws' := [(r0, .inr (1, [.ref f0, .int (nI fk), .int fp, .ref t0, .int (nI (nx + ((fCD sl) + 1) / 2)), .int (nI (nmA tp nx (fCD sl) (fCD sl) 0 0))])), (t0, .inr (2, [.ref t1, .int (nI len)])), (t1, .inl (cB, 400, .inl (aB tp))), (f0, .inr (0, [.int (nI ty), .ref f1, .ref f2])), (f1, .inl (cI, 16, .inl (aN cnt))), (f2, .inl (cB, 208, .inl (aN mk)))]) [3, 4, 5, 0, 1, 2] rfl
      have hDc := hD.sub (ws' := [(r0, .inr (1, [.ref f0, .int (nI fk), .int fp, .ref t0, .int (nI (nx + ((fCD sl) + 1) / 2)), .int (nI (nmA tp nx (fCD sl) (fCD sl) 0 0))])), (t0, .inr (2, [.ref t1, .int (nI len)])), (t1, .inl (cB, 400, .inl (aB tp))), (f0, .inr (0, [.int (nI ty), .ref f1, .ref f2])), (f1, .inl (cI, 16, .inl (aN cnt))), (f2, .inl (cB, 208, .inl (aN mk)))]) [3, 4, 5, 0, 1, 2] (by decide) rfl
      have hFc := va_free (wc := [(r0, .inr (1, [.ref f0, .int (nI fk), .int fp, .ref t0, .int (nI (nx + ((fCD sl) + 1) / 2)), .int (nI (nmA tp nx (fCD sl) (fCD sl) 0 0))])), (t0, .inr (2, [.ref t1, .int (nI len)])), (t1, .inl (cB, 400, .inl (aB tp))), (f0, .inr (0, [.int (nI ty), .ref f1, .ref f2])), (f1, .inl (cI, 16, .inl (aN cnt))), (f2, .inl (cB, 208, .inl (aN mk)))]) hD hS hA [3, 4, 5, 0, 1, 2] rfl
      refine zc_Mi (va_runV (As := [.int (nI sl), .int (nI (nmA tp nx (fCD sl) (fCD sl) 0 0))]) (rest := []) ⟨hx, hb, hml, hown, hw⟩ (c_walkDigits_ok l dC dI r0 f0 fk fp t0 (nx + ((fCD sl) + 1) / 2) (nmA tp nx (fCD sl) (fCD sl) 0 0) t1 len cI cB tp f1 f2 ty cnt mk sl (nmA tp nx (fCD sl) (fCD sl) 0 0) (by omega) (by omega) htp (by omega) (by omega) (by omega) hv H.size) (cwV 2 hw (gV w_ml_R_100 w_im_R_walkDigits w_se_R_walkDigits w_in_R w_co_R_walkDigits) rfl rfl rfl (by decide +kernel) ⟨Nat.le_of_ble_eq_true rfl, Nat.le_of_ble_eq_true rfl⟩) (zM_V hG hS hFc hPc hDc hK 0 rfl rfl) rfl rfl hl.1 rfl (lv_room (Nat.le_of_ble_eq_true rfl)) dR_walkField_79 ⟨Nat.le_of_ble_eq_true rfl, Nat.le_of_ble_eq_true rfl⟩) hS hFc (fun r_4 H locs h_79 hP1 hD1 hk1 hS => ?_)
      obtain ⟨hP, hD⟩ := va_join (wr := []) (w1 := [(r0, .inr (1, [.ref f0, .int (nI fk), .int fp, .ref t0, .int (nI ((nx + ((fCD sl) + 1) / 2) + ((nmA tp nx (fCD sl) (fCD sl) 0 0) + 1) / 2)), .int (nI (nmA tp nx (fCD sl) (fCD sl) 0 0))])), (t0, .inr (2, [.ref t1, .int (nI len)])), (t1, .inl (cB, 400, .inl (aB tp))), (f0, .inr (0, [.int (nI ty), .ref f1, .ref f2])), (f1, .inl (cI, 16, .inl (aN (nup cnt sl (nmA tp nx (fCD sl) (fCD sl) 0 0))))), (f2, .inl (cB, 208, .inl (aN (dgC tp (nx + ((fCD sl) + 1) / 2) (nmA tp nx (fCD sl) (fCD sl) 0 0) (fFM sl) (nmA tp nx (fCD sl) (fCD sl) 0 0) 0 mk))))]) hP hD [3, 4, 5, 0, 1, 2] [] rfl rfl (by decide) (by decide) hk1 hFc hP1 hD1
      have hP : va_P (dC, dI) vwCl [(r0, .inr (1, [.ref f0, .int (nI fk), .int fp, .ref t0, .int (nI ((nx + ((fCD sl) + 1) / 2) + ((nmA tp nx (fCD sl) (fCD sl) 0 0) + 1) / 2)), .int (nI (nmA tp nx (fCD sl) (fCD sl) 0 0))])), (t0, .inr (2, [.ref t1, .int (nI len)])), (t1, .inl (cB, 400, .inl (aB tp))), (f0, .inr (0, [.int (nI ty), .ref f1, .ref f2])), (f1, .inl (cI, 16, .inl (aN (nup cnt sl (nmA tp nx (fCD sl) (fCD sl) 0 0))))), (f2, .inl (cB, 208, .inl (aN (dgC tp (nx + ((fCD sl) + 1) / 2) (nmA tp nx (fCD sl) (fCD sl) 0 0) (fFM sl) (nmA tp nx (fCD sl) (fCD sl) 0 0) 0 mk))))] H := hP
      have hD : va_D A [(r0, .inr (1, [.ref f0, .int (nI fk), .int fp, .ref t0, .int (nI ((nx + ((fCD sl) + 1) / 2) + ((nmA tp nx (fCD sl) (fCD sl) 0 0) + 1) / 2)), .int (nI (nmA tp nx (fCD sl) (fCD sl) 0 0))])), (t0, .inr (2, [.ref t1, .int (nI len)])), (t1, .inl (cB, 400, .inl (aB tp))), (f0, .inr (0, [.int (nI ty), .ref f1, .ref f2])), (f1, .inl (cI, 16, .inl (aN (nup cnt sl (nmA tp nx (fCD sl) (fCD sl) 0 0))))), (f2, .inl (cB, 208, .inl (aN (dgC tp (nx + ((fCD sl) + 1) / 2) (nmA tp nx (fCD sl) (fCD sl) 0 0) (fFM sl) (nmA tp nx (fCD sl) (fCD sl) 0 0) 0 mk))))] := hD
      subst h_79
      have eC : fCt tp nx sl = nmA tp nx (fCD sl) (fCD sl) 0 0 := if_neg c_11
      have eV : fVp nx sl = nx + (fCD sl + 1) / 2 := rfl
      have eL : fLn tp nx sl lnb = nmA tp nx (fCD sl) (fCD sl) 0 0 := if_neg c_11
      have eN : fNx tp nx sl = (nx + (fCD sl + 1) / 2) + (nmA tp nx (fCD sl) (fCD sl) 0 0 + 1) / 2 := by unfold fNx vNx; rw [if_pos c_64, eV, eC]
      have eM : fMk tp nx sl mk = dgC tp (nx + (fCD sl + 1) / 2) (nmA tp nx (fCD sl) (fCD sl) 0 0) (fFM sl) (nmA tp nx (fCD sl) (fCD sl) 0 0) 0 mk := by unfold fMk vMk; rw [if_pos c_64, eV, eC]
      rw [eN, eM, eL, eC] at hQ
      subst hAe
      subst hQ
      exact W.zret (v := nI 1) hx hb hr (by decide) (fun t ht hW => ⟨⟨nI 1, (), rfl, rfl, by rw [ht]; exact hP.sub [0, 1, 2, 3, 4, 5] rfl, hD.sub [0, 1, 2, 3, 4, 5] (by decide) rfl⟩, hS.F ht⟩) hS.2.2 dR_walkField_82
    · unfold valF at hv
      rw [if_neg c_64] at hv
      refine lv_aload_n hx hb dR_walkField_67 rfl (lv_at hl 2 rfl) ?_
      refine lv_iload_n hx hb dR_walkField_68 rfl (lv_at hl 3 rfl) ?_
      refine lv_iload_n hx hb dR_walkField_69 rfl (lv_at hl 0 rfl) ?_
      have hPc := hP.sub (ws' := [(r0, .inr (1, [.ref f0, .int (nI fk), .int fp, .ref t0, .int (nI (nx + ((fCD sl) + 1) / 2)), .int (nI (nmA tp nx (fCD sl) (fCD sl) 0 0))])), (t0, .inr (2, [.ref t1, .int (nI len)])), (t1, .inl (cB, 400, .inl (aB tp))), (f0, .inr (0, [.int (nI ty), .ref f1, .ref f2])), (f1, .inl (cI, 16, .inl (aN cnt))), (f2, .inl (cB, 208, .inl (aN mk)))]) [3, 4, 5, 0, 1, 2] rfl
      have hDc := hD.sub (ws' := [(r0, .inr (1, [.ref f0, .int (nI fk), .int fp, .ref t0, .int (nI (nx + ((fCD sl) + 1) / 2)), .int (nI (nmA tp nx (fCD sl) (fCD sl) 0 0))])), (t0, .inr (2, [.ref t1, .int (nI len)])), (t1, .inl (cB, 400, .inl (aB tp))), (f0, .inr (0, [.int (nI ty), .ref f1, .ref f2])), (f1, .inl (cI, 16, .inl (aN cnt))), (f2, .inl (cB, 208, .inl (aN mk)))]) [3, 4, 5, 0, 1, 2] (by decide) rfl
      have hFc := va_free (wc := [(r0, .inr (1, [.ref f0, .int (nI fk), .int fp, .ref t0, .int (nI (nx + ((fCD sl) + 1) / 2)), .int (nI (nmA tp nx (fCD sl) (fCD sl) 0 0))])), (t0, .inr (2, [.ref t1, .int (nI len)])), (t1, .inl (cB, 400, .inl (aB tp))), (f0, .inr (0, [.int (nI ty), .ref f1, .ref f2])), (f1, .inl (cI, 16, .inl (aN cnt))), (f2, .inl (cB, 208, .inl (aN mk)))]) hD hS hA [3, 4, 5, 0, 1, 2] rfl
      refine zc_Mi (va_runV (As := [.int (nI sl), .int (nI (nmA tp nx (fCD sl) (fCD sl) 0 0))]) (rest := []) ⟨hx, hb, hml, hown, hw⟩ (c_walkLetters_ok l dC dI r0 f0 fk fp t0 (nx + ((fCD sl) + 1) / 2) (nmA tp nx (fCD sl) (fCD sl) 0 0) t1 len cI cB tp f1 f2 ty cnt mk sl (nmA tp nx (fCD sl) (fCD sl) 0 0) (by omega) (by omega) htp (by omega) (by omega) (by omega) hv H.size) (cwV 2 hw (gV w_ml_R_97 w_im_R_walkLetters w_se_R_walkLetters w_in_R w_co_R_walkLetters) rfl rfl rfl (by decide +kernel) ⟨Nat.le_of_ble_eq_true rfl, Nat.le_of_ble_eq_true rfl⟩) (zM_V hG hS hFc hPc hDc hK 0 rfl rfl) rfl rfl hl.1 rfl (lv_room (Nat.le_of_ble_eq_true rfl)) dR_walkField_70 ⟨Nat.le_of_ble_eq_true rfl, Nat.le_of_ble_eq_true rfl⟩) hS hFc (fun r_5 H locs h_70 hP1 hD1 hk1 hS => ?_)
      obtain ⟨hP, hD⟩ := va_join (wr := []) (w1 := [(r0, .inr (1, [.ref f0, .int (nI fk), .int fp, .ref t0, .int (nI ((nx + ((fCD sl) + 1) / 2) + (nmA tp nx (fCD sl) (fCD sl) 0 0))), .int (nI (nmA tp nx (fCD sl) (fCD sl) 0 0))])), (t0, .inr (2, [.ref t1, .int (nI len)])), (t1, .inl (cB, 400, .inl (aB tp))), (f0, .inr (0, [.int (nI ty), .ref f1, .ref f2])), (f1, .inl (cI, 16, .inl (aN (nup cnt sl (nmA tp nx (fCD sl) (fCD sl) 0 0))))), (f2, .inl (cB, 208, .inl (aN (ltC tp (nx + ((fCD sl) + 1) / 2) (fFM sl) (nmA tp nx (fCD sl) (fCD sl) 0 0) 0 mk))))]) hP hD [3, 4, 5, 0, 1, 2] [] rfl rfl (by decide) (by decide) hk1 hFc hP1 hD1
      have hP : va_P (dC, dI) vwCl [(r0, .inr (1, [.ref f0, .int (nI fk), .int fp, .ref t0, .int (nI ((nx + ((fCD sl) + 1) / 2) + (nmA tp nx (fCD sl) (fCD sl) 0 0))), .int (nI (nmA tp nx (fCD sl) (fCD sl) 0 0))])), (t0, .inr (2, [.ref t1, .int (nI len)])), (t1, .inl (cB, 400, .inl (aB tp))), (f0, .inr (0, [.int (nI ty), .ref f1, .ref f2])), (f1, .inl (cI, 16, .inl (aN (nup cnt sl (nmA tp nx (fCD sl) (fCD sl) 0 0))))), (f2, .inl (cB, 208, .inl (aN (ltC tp (nx + ((fCD sl) + 1) / 2) (fFM sl) (nmA tp nx (fCD sl) (fCD sl) 0 0) 0 mk))))] H := hP
      have hD : va_D A [(r0, .inr (1, [.ref f0, .int (nI fk), .int fp, .ref t0, .int (nI ((nx + ((fCD sl) + 1) / 2) + (nmA tp nx (fCD sl) (fCD sl) 0 0))), .int (nI (nmA tp nx (fCD sl) (fCD sl) 0 0))])), (t0, .inr (2, [.ref t1, .int (nI len)])), (t1, .inl (cB, 400, .inl (aB tp))), (f0, .inr (0, [.int (nI ty), .ref f1, .ref f2])), (f1, .inl (cI, 16, .inl (aN (nup cnt sl (nmA tp nx (fCD sl) (fCD sl) 0 0))))), (f2, .inl (cB, 208, .inl (aN (ltC tp (nx + ((fCD sl) + 1) / 2) (fFM sl) (nmA tp nx (fCD sl) (fCD sl) 0 0) 0 mk))))] := hD
      subst h_70
      refine lv_goto (tgt := 82) hx hb dR_walkField_73 (by decide) ?_
      have eC : fCt tp nx sl = nmA tp nx (fCD sl) (fCD sl) 0 0 := if_neg c_11
      have eV : fVp nx sl = nx + (fCD sl + 1) / 2 := rfl
      have eL : fLn tp nx sl lnb = nmA tp nx (fCD sl) (fCD sl) 0 0 := if_neg c_11
      have eN : fNx tp nx sl = (nx + (fCD sl + 1) / 2) + (nmA tp nx (fCD sl) (fCD sl) 0 0) := by unfold fNx vNx; rw [if_neg c_64, eV, eC]
      have eM : fMk tp nx sl mk = ltC tp (nx + (fCD sl + 1) / 2) (fFM sl) (nmA tp nx (fCD sl) (fCD sl) 0 0) 0 mk := by unfold fMk vMk; rw [if_neg c_64, eV, eC]
      rw [eN, eM, eL, eC] at hQ
      subst hAe
      subst hQ
      exact W.zret (v := nI 1) hx hb hr (by decide) (fun t ht hW => ⟨⟨nI 1, (), rfl, rfl, by rw [ht]; exact hP.sub [0, 1, 2, 3, 4, 5] rfl, hD.sub [0, 1, 2, 3, 4, 5] (by decide) rfl⟩, hS.F ht⟩) hS.2.2 dR_walkField_82
def rm_c_walkField_no : Room := ({ frames := 4, cells := 0, slots := 0, locals := 89 } : Room)
set_option maxHeartbeats 4000000 in
set_option maxRecDepth 100000 in
theorem c_walkField_no (l : Launch) (dC : Nat → ClassId) (dI : Nat → Nat → Nat) (r0 : Nat) (f0 : Nat) (fk : Nat) (fp : Int32) (t0 : Nat) (nx : Nat) (lnb : Nat) (t1 : Nat) (len : Nat) (cI : ClassId) (cB : ClassId) (tp : Nat → Nat) (f1 : Nat) (f2 : Nat) (ty : Nat) (cnt : Nat → Nat) (mk : Nat → Nat) (sl : Nat) (k2 : Nat) (p2 : Nat) (hln : len ≤ 400) (hnl : nx ≤ len) (htp : ∀ j, tp j < 256) (hs : sl < 16) (hm : ∀ j, mk j < 128) (hd : fieldF tp len nx sl = some (k2, p2)) (sz : Nat) : Met l yR_walkField wsR_walkField rm_c_walkField_no (zM (dC, dI) [(cI, .int), (cB, .byte)] [.ref r0, .int (nI sl)] [(r0, .inr (1, [.ref f0, .int (nI fk), .int fp, .ref t0, .int (nI nx), .int (nI lnb)])), (t0, .inr (2, [.ref t1, .int (nI len)])), (t1, .inl (cB, 400, .inl (aB tp))), (f0, .inr (0, [.int (nI ty), .ref f1, .ref f2])), (f1, .inl (cI, 16, .inl (aN cnt))), (f2, .inl (cB, 208, .inl (aN mk)))] sz) (zSi (dC, dI) [(r0, .inr (1, [.ref f0, .int (nI fk), .int fp, .ref t0, .int (nI nx), .int (nI lnb)])), (t0, .inr (2, [.ref t1, .int (nI len)])), (t1, .inl (cB, 400, .inl (aB tp))), (f0, .inr (0, [.int (nI ty), .ref f1, .ref f2])), (f1, .inl (cI, 16, .inl (aN cnt))), (f2, .inl (cB, 208, .inl (aN mk)))] sz (fun r (u : Nat × Nat × (Nat → Nat)) => r = nI 0 ∧ ∀ j, u.2.2 j < 128) (fun u => [(r0, .inr (1, [.ref f0, .int (nI k2), .int (nI p2), .ref t0, .int (nI u.1), .int (nI u.2.1)])), (t0, .inr (2, [.ref t1, .int (nI len)])), (t1, .inl (cB, 400, .inl (aB tp))), (f0, .inr (0, [.int (nI ty), .ref f1, .ref f2])), (f1, .inl (cI, 16, .inl (aN cnt))), (f2, .inl (cB, 208, .inl (aN u.2.2)))])) 0 0 (va_A [(r0, .inr (1, [.ref f0, .int (nI fk), .int fp, .ref t0, .int (nI nx), .int (nI lnb)])), (t0, .inr (2, [.ref t1, .int (nI len)])), (t1, .inl (cB, 400, .inl (aB tp))), (f0, .inr (0, [.int (nI ty), .ref f1, .ref f2])), (f1, .inl (cI, 16, .inl (aN cnt))), (f2, .inl (cB, 208, .inl (aN mk)))] sz) := by
  refine Met.ofW (cc := cR_walkField) (maxL := 4) (ret := (some .boolean)) (by decide) rfl ?_
  intro p e s m args below meth c s₁ Bd hml hv
  obtain ⟨rfl, hsz, hG, hP, hK, hD0⟩ := hv
  subst hsz
  have hx := Bd.exec
  have hb := Bd.bytes
  have hr := Bd.returns
  have hts := atoms_spec (ws := wsR_walkField) Bd.pre
  have hw : ∀ w ∈ BIG, w.before _ s = true := fun w h => hts w (List.mem_cons_of_mem _ h)
  have hown : s.vm.findClass RR = some m.cls := findClass_of_methodNamed Bd.named
  have hlocks := Bd.notSynchronized
  have hD := hD0.self (sz := s.heap.size)
  obtain ⟨A, hAe⟩ : ∃ A, A = va_A [(r0, .inr (1, [.ref f0, .int (nI fk), .int fp, .ref t0, .int (nI nx), .int (nI lnb)])), (t0, .inr (2, [.ref t1, .int (nI len)])), (t1, .inl (cB, 400, .inl (aB tp))), (f0, .inr (0, [.int (nI ty), .ref f1, .ref f2])), (f1, .inl (cI, 16, .inl (aN cnt))), (f2, .inl (cB, 208, .inl (aN mk)))] s.heap.size := ⟨_, rfl⟩
  have hA : ∀ q : Nat, s.heap.size ≤ q → A q := fun q h => by rw [hAe]; exact Or.inr h
  rw [← hAe] at hG hD
  have hS : va_S A s.heap s.heap [] := va_S.rf
  have hl := lv_entry ([.ref r0, .int (nI sl)]) (n := 4) (Nat.le_of_ble_eq_true rfl)
  rw [lg_entry_eq]
  generalize (lg_sl ([.ref r0, .int (nI sl)]) ++ List.replicate (4 - (lg_sl ([.ref r0, .int (nI sl)])).length) Slot.unset).toArray = ls at hl ⊢
  have hl : lv_has ls 4 [(0, .ref r0), (1, .int (nI sl))] := hl
  refine zq_name (fun Q hQ => ?_)
  change W p l e rm_c_walkField_no s m _ below meth c _ _ _ _ Q _
  obtain ⟨tfMM, zfMM, afMM⟩ := hG.MOST_MARKS
  obtain ⟨tfCD, zfCD, afCD⟩ := hG.COUNT_DIGITS
  obtain ⟨tfHL, zfHL, afHL⟩ := hG.HAS_LETTERS
  have hcd := fCD_b sl hs
  have hmm := fMM_b sl hs
  have hfm := fFM_b sl hs
  have hhl := fHL_b sl hs
  refine va_getsN hx hb zfMM hS hown (va_Nw.use rfl (hG.nf (RR, 88, "MOST_MARKS") (List.mem_of_getElem? (i := 8) rfl))) (fun _ h9 => h9) dR_walkField_0 ?_
  refine lv_iload_n hx hb dR_walkField_3 rfl (lv_at hl 1 rfl) ?_
  refine za_tab hx hb afMM hS (by omega) (by decide) dR_walkField_4 ?_
  refine lv_istore_n (lv' := [(2, .int (nI (fMM sl))), (0, .ref r0), (1, .int (nI sl))]) hx hb dR_walkField_5 rfl hl (by decide) rfl (fun ls hl => ?_)
  refine va_getsN hx hb zfCD hS hown (va_Nw.use rfl (hG.nf (RR, 91, "COUNT_DIGITS") (List.mem_of_getElem? (i := 9) rfl))) (fun _ h9 => h9) dR_walkField_6 ?_
  refine lv_iload_n hx hb dR_walkField_9 rfl (lv_at hl 2 rfl) ?_
  refine za_tab hx hb afCD hS (by omega) (by decide) dR_walkField_10 ?_
  refine zi_eq0 (tgt := 59) hx hb (by omega) dR_walkField_11 (by decide) (fun c_11 => ?_) (fun c_11 => ?_)
  · have hv : valF tp len nx sl (fMM sl) = some (k2, p2) := by have h9 := hd; unfold fieldF at h9; rw [if_pos c_11] at h9; exact h9
    refine va_getsN hx hb zfHL hS hown (va_Nw.use rfl (hG.nf (RR, 94, "HAS_LETTERS") (List.mem_of_getElem? (i := 10) rfl))) (fun _ h9 => h9) dR_walkField_59 ?_
    refine lv_iload_n hx hb dR_walkField_62 rfl (lv_at hl 2 rfl) ?_
    refine za_tab hx hb afHL hS (by omega) (by decide) dR_walkField_63 ?_
    refine zi_eq0 (tgt := 76) hx hb (by omega) dR_walkField_64 (by decide) (fun c_64 => ?_) (fun c_64 => ?_)
    · unfold valF at hv
      rw [if_pos c_64] at hv
      refine lv_aload_n hx hb dR_walkField_76 rfl (lv_at hl 1 rfl) ?_
      refine lv_iload_n hx hb dR_walkField_77 rfl (lv_at hl 2 rfl) ?_
      refine lv_iload_n hx hb dR_walkField_78 rfl (lv_at hl 0 rfl) ?_
      have hPc := hP.sub (ws' := [(r0, .inr (1, [.ref f0, .int (nI fk), .int fp, .ref t0, .int (nI nx), .int (nI lnb)])), (t0, .inr (2, [.ref t1, .int (nI len)])), (t1, .inl (cB, 400, .inl (aB tp)))]) [0, 1, 2] rfl
      have hDc := hD.sub (ws' := [(r0, .inr (1, [.ref f0, .int (nI fk), .int fp, .ref t0, .int (nI nx), .int (nI lnb)])), (t0, .inr (2, [.ref t1, .int (nI len)])), (t1, .inl (cB, 400, .inl (aB tp)))]) [0, 1, 2] (by decide) rfl
      have hFc := va_free (wc := [(r0, .inr (1, [.ref f0, .int (nI fk), .int fp, .ref t0, .int (nI nx), .int (nI lnb)])), (t0, .inr (2, [.ref t1, .int (nI len)])), (t1, .inl (cB, 400, .inl (aB tp)))]) hD hS hA [0, 1, 2] rfl
      refine zc_Mi (va_runV (As := [.int (nI sl), .int (nI (fMM sl))]) (rest := []) ⟨hx, hb, hml, hown, hw⟩ (c_walkDigits_no l dC dI r0 f0 fk fp t0 nx lnb t1 len cI cB tp sl (fMM sl) k2 p2 (by omega) (by omega) htp (by omega) hv s.heap.size) (cwV 2 hw (gV w_ml_R_100 w_im_R_walkDigits w_se_R_walkDigits w_in_R w_co_R_walkDigits) rfl rfl rfl (by decide +kernel) ⟨Nat.le_of_ble_eq_true rfl, Nat.le_of_ble_eq_true rfl⟩) (zM_V hG hS hFc hPc hDc hK 0 rfl rfl) rfl rfl hl.1 rfl (lv_room (Nat.le_of_ble_eq_true rfl)) dR_walkField_79 ⟨Nat.le_of_ble_eq_true rfl, Nat.le_of_ble_eq_true rfl⟩) hS hFc (fun r_1 H locs h_79 hP1 hD1 hk1 hS => ?_)
      obtain ⟨hP, hD⟩ := va_join (wr := [(f0, .inr (0, [.int (nI ty), .ref f1, .ref f2])), (f1, .inl (cI, 16, .inl (aN cnt))), (f2, .inl (cB, 208, .inl (aN mk)))]) (w1 := [(r0, .inr (1, [.ref f0, .int (nI k2), .int (nI p2), .ref t0, .int (nI nx), .int (nI lnb)])), (t0, .inr (2, [.ref t1, .int (nI len)])), (t1, .inl (cB, 400, .inl (aB tp)))]) hP hD [0, 1, 2] [3, 4, 5] rfl rfl (by decide) (by decide) hk1 hFc hP1 hD1
      have hP : va_P (dC, dI) vwCl [(f0, .inr (0, [.int (nI ty), .ref f1, .ref f2])), (f1, .inl (cI, 16, .inl (aN cnt))), (f2, .inl (cB, 208, .inl (aN mk))), (r0, .inr (1, [.ref f0, .int (nI k2), .int (nI p2), .ref t0, .int (nI nx), .int (nI lnb)])), (t0, .inr (2, [.ref t1, .int (nI len)])), (t1, .inl (cB, 400, .inl (aB tp)))] H := hP
      have hD : va_D A [(f0, .inr (0, [.int (nI ty), .ref f1, .ref f2])), (f1, .inl (cI, 16, .inl (aN cnt))), (f2, .inl (cB, 208, .inl (aN mk))), (r0, .inr (1, [.ref f0, .int (nI k2), .int (nI p2), .ref t0, .int (nI nx), .int (nI lnb)])), (t0, .inr (2, [.ref t1, .int (nI len)])), (t1, .inl (cB, 400, .inl (aB tp)))] := hD
      subst h_79
      subst hAe
      subst hQ
      exact W.zret (v := nI 0) hx hb hr (by decide) (fun t ht hW => ⟨⟨nI 0, (nx, lnb, mk), rfl, ⟨rfl, hm⟩, by rw [ht]; exact hP.sub [3, 4, 5, 0, 1, 2] rfl, hD.sub [3, 4, 5, 0, 1, 2] (by decide) rfl⟩, hS.F ht⟩) hS.2.2 dR_walkField_82
    · unfold valF at hv
      rw [if_neg c_64] at hv
      refine lv_aload_n hx hb dR_walkField_67 rfl (lv_at hl 1 rfl) ?_
      refine lv_iload_n hx hb dR_walkField_68 rfl (lv_at hl 2 rfl) ?_
      refine lv_iload_n hx hb dR_walkField_69 rfl (lv_at hl 0 rfl) ?_
      have hPc := hP.sub (ws' := [(r0, .inr (1, [.ref f0, .int (nI fk), .int fp, .ref t0, .int (nI nx), .int (nI lnb)])), (t0, .inr (2, [.ref t1, .int (nI len)])), (t1, .inl (cB, 400, .inl (aB tp))), (f0, .inr (0, [.int (nI ty), .ref f1, .ref f2])), (f1, .inl (cI, 16, .inl (aN cnt))), (f2, .inl (cB, 208, .inl (aN mk)))]) [0, 1, 2, 3, 4, 5] rfl
      have hDc := hD.sub (ws' := [(r0, .inr (1, [.ref f0, .int (nI fk), .int fp, .ref t0, .int (nI nx), .int (nI lnb)])), (t0, .inr (2, [.ref t1, .int (nI len)])), (t1, .inl (cB, 400, .inl (aB tp))), (f0, .inr (0, [.int (nI ty), .ref f1, .ref f2])), (f1, .inl (cI, 16, .inl (aN cnt))), (f2, .inl (cB, 208, .inl (aN mk)))]) [0, 1, 2, 3, 4, 5] (by decide) rfl
      have hFc := va_free (wc := [(r0, .inr (1, [.ref f0, .int (nI fk), .int fp, .ref t0, .int (nI nx), .int (nI lnb)])), (t0, .inr (2, [.ref t1, .int (nI len)])), (t1, .inl (cB, 400, .inl (aB tp))), (f0, .inr (0, [.int (nI ty), .ref f1, .ref f2])), (f1, .inl (cI, 16, .inl (aN cnt))), (f2, .inl (cB, 208, .inl (aN mk)))]) hD hS hA [0, 1, 2, 3, 4, 5] rfl
      refine zc_Si (va_runV (As := [.int (nI sl), .int (nI (fMM sl))]) (rest := []) ⟨hx, hb, hml, hown, hw⟩ (c_walkLetters_no l dC dI r0 f0 fk fp t0 nx lnb t1 len cI cB tp f1 f2 ty cnt mk sl (fMM sl) k2 p2 (by omega) (by omega) htp (by omega) (by omega) (by omega) hm hv s.heap.size) (cwV 2 hw (gV w_ml_R_97 w_im_R_walkLetters w_se_R_walkLetters w_in_R w_co_R_walkLetters) rfl rfl rfl (by decide +kernel) ⟨Nat.le_of_ble_eq_true rfl, Nat.le_of_ble_eq_true rfl⟩) (zM_V hG hS hFc hPc hDc hK 0 rfl rfl) rfl rfl hl.1 rfl (lv_room (Nat.le_of_ble_eq_true rfl)) dR_walkField_70 ⟨Nat.le_of_ble_eq_true rfl, Nat.le_of_ble_eq_true rfl⟩) hS hFc (fun r_2 u_70 H locs h_70 hP1 hD1 hk1 hS => ?_)
      obtain ⟨hP, hD⟩ := va_join (wr := []) (w1 := [(r0, .inr (1, [.ref f0, .int (nI k2), .int (nI p2), .ref t0, .int (nI nx), .int (nI lnb)])), (t0, .inr (2, [.ref t1, .int (nI len)])), (t1, .inl (cB, 400, .inl (aB tp))), (f0, .inr (0, [.int (nI ty), .ref f1, .ref f2])), (f1, .inl (cI, 16, .inl (aN cnt))), (f2, .inl (cB, 208, .inl (aN u_70)))]) hP hD [0, 1, 2, 3, 4, 5] [] rfl rfl (by decide) (by decide) hk1 hFc hP1 hD1
      have hP : va_P (dC, dI) vwCl [(r0, .inr (1, [.ref f0, .int (nI k2), .int (nI p2), .ref t0, .int (nI nx), .int (nI lnb)])), (t0, .inr (2, [.ref t1, .int (nI len)])), (t1, .inl (cB, 400, .inl (aB tp))), (f0, .inr (0, [.int (nI ty), .ref f1, .ref f2])), (f1, .inl (cI, 16, .inl (aN cnt))), (f2, .inl (cB, 208, .inl (aN u_70)))] H := hP
      have hD : va_D A [(r0, .inr (1, [.ref f0, .int (nI k2), .int (nI p2), .ref t0, .int (nI nx), .int (nI lnb)])), (t0, .inr (2, [.ref t1, .int (nI len)])), (t1, .inl (cB, 400, .inl (aB tp))), (f0, .inr (0, [.int (nI ty), .ref f1, .ref f2])), (f1, .inl (cI, 16, .inl (aN cnt))), (f2, .inl (cB, 208, .inl (aN u_70)))] := hD
      obtain ⟨rfl, hu_h_70⟩ := h_70
      refine lv_goto (tgt := 82) hx hb dR_walkField_73 (by decide) ?_
      subst hAe
      subst hQ
      exact W.zret (v := nI 0) hx hb hr (by decide) (fun t ht hW => ⟨⟨nI 0, (nx, lnb, u_70), rfl, ⟨rfl, hu_h_70⟩, by rw [ht]; exact hP.sub [0, 1, 2, 3, 4, 5] rfl, hD.sub [0, 1, 2, 3, 4, 5] (by decide) rfl⟩, hS.F ht⟩) hS.2.2 dR_walkField_82
  · rcases fieldF_no hd c_11 with hd9 | ⟨hd9, hct, rfl, rfl⟩ | ⟨hd9, hct1, hct2, hv⟩
    · have hnb := nmA_b htp (nx := nx) (ct := fCD sl) (by omega)
      refine lv_aload_n hx hb dR_walkField_14 rfl (lv_at hl 1 rfl) ?_
      refine va_get (D := (dC, dI)) (ci := 1) (v := .int (nI nx)) (C := RR) (T := TR) (N := 6) hx hb hw inR hown hK hP 0 rfl rfl 4 (by decide) (hw _ w_fl_R_25) (fun _ h9 => h9) rfl dR_walkField_15 ?_
      refine lv_istore_n (lv' := [(3, .int (nI nx)), (2, .int (nI (fMM sl))), (0, .ref r0), (1, .int (nI sl))]) hx hb dR_walkField_18 rfl hl (by decide) rfl (fun ls hl => ?_)
      refine lv_aload_n hx hb dR_walkField_19 rfl (lv_at hl 2 rfl) ?_
      refine va_getsN hx hb zfCD hS hown (va_Nw.use rfl (hG.nf (RR, 91, "COUNT_DIGITS") (List.mem_of_getElem? (i := 9) rfl))) (fun _ h9 => h9) dR_walkField_20 ?_
      refine lv_iload_n hx hb dR_walkField_23 rfl (lv_at hl 3 rfl) ?_
      refine za_tab hx hb afCD hS (by omega) (by decide) dR_walkField_24 ?_
      have hPc := hP.sub (ws' := [(r0, .inr (1, [.ref f0, .int (nI fk), .int fp, .ref t0, .int (nI nx), .int (nI lnb)])), (t0, .inr (2, [.ref t1, .int (nI len)])), (t1, .inl (cB, 400, .inl (aB tp)))]) [0, 1, 2] rfl
      have hDc := hD.sub (ws' := [(r0, .inr (1, [.ref f0, .int (nI fk), .int fp, .ref t0, .int (nI nx), .int (nI lnb)])), (t0, .inr (2, [.ref t1, .int (nI len)])), (t1, .inl (cB, 400, .inl (aB tp)))]) [0, 1, 2] (by decide) rfl
      have hFc := va_free (wc := [(r0, .inr (1, [.ref f0, .int (nI fk), .int fp, .ref t0, .int (nI nx), .int (nI lnb)])), (t0, .inr (2, [.ref t1, .int (nI len)])), (t1, .inl (cB, 400, .inl (aB tp)))]) hD hS hA [0, 1, 2] rfl
      refine zc_Mi (va_runV (As := [.int (nI (fCD sl))]) (rest := []) ⟨hx, hb, hml, hown, hw⟩ (c_walkNumber_no l dC dI r0 f0 fk fp t0 nx lnb t1 len cI cB tp (fCD sl) k2 p2 (by omega) (by omega) htp (by omega) hd9 s.heap.size) (cwV 1 hw (gV w_ml_R_69 w_im_R_walkNumber w_se_R_walkNumber w_in_R w_co_R_walkNumber) rfl rfl rfl (by decide +kernel) ⟨Nat.le_of_ble_eq_true rfl, Nat.le_of_ble_eq_true rfl⟩) (zM_V hG hS hFc hPc hDc hK 0 rfl rfl) rfl rfl hl.1 rfl (lv_room (Nat.le_of_ble_eq_true rfl)) dR_walkField_25 ⟨Nat.le_of_ble_eq_true rfl, Nat.le_of_ble_eq_true rfl⟩) hS hFc (fun r_3 H locs h_25 hP1 hD1 hk1 hS => ?_)
      obtain ⟨hP, hD⟩ := va_join (wr := [(f0, .inr (0, [.int (nI ty), .ref f1, .ref f2])), (f1, .inl (cI, 16, .inl (aN cnt))), (f2, .inl (cB, 208, .inl (aN mk)))]) (w1 := [(r0, .inr (1, [.ref f0, .int (nI k2), .int (nI p2), .ref t0, .int (nI nx), .int (nI lnb)])), (t0, .inr (2, [.ref t1, .int (nI len)])), (t1, .inl (cB, 400, .inl (aB tp)))]) hP hD [0, 1, 2] [3, 4, 5] rfl rfl (by decide) (by decide) hk1 hFc hP1 hD1
      have hP : va_P (dC, dI) vwCl [(f0, .inr (0, [.int (nI ty), .ref f1, .ref f2])), (f1, .inl (cI, 16, .inl (aN cnt))), (f2, .inl (cB, 208, .inl (aN mk))), (r0, .inr (1, [.ref f0, .int (nI k2), .int (nI p2), .ref t0, .int (nI nx), .int (nI lnb)])), (t0, .inr (2, [.ref t1, .int (nI len)])), (t1, .inl (cB, 400, .inl (aB tp)))] H := hP
      have hD : va_D A [(f0, .inr (0, [.int (nI ty), .ref f1, .ref f2])), (f1, .inl (cI, 16, .inl (aN cnt))), (f2, .inl (cB, 208, .inl (aN mk))), (r0, .inr (1, [.ref f0, .int (nI k2), .int (nI p2), .ref t0, .int (nI nx), .int (nI lnb)])), (t0, .inr (2, [.ref t1, .int (nI len)])), (t1, .inl (cB, 400, .inl (aB tp)))] := hD
      subst h_25
      refine lv_if_ne (tgt := 33) hx hb dR_walkField_28 (by decide) (fun q => False.elim (absurd q (by decide))) (fun c_28 => ?_)
      refine lv_iconst (v := nI 0) hx hb dR_walkField_31 (by decide) ?_
      subst hAe
      subst hQ
      exact W.zret (v := nI 0) hx hb hr (by decide) (fun t ht hW => ⟨⟨nI 0, (nx, lnb, mk), rfl, ⟨rfl, hm⟩, by rw [ht]; exact hP.sub [3, 4, 5, 0, 1, 2] rfl, hD.sub [3, 4, 5, 0, 1, 2] (by decide) rfl⟩, hS.F ht⟩) hS.2.2 dR_walkField_32
    · have hnb := nmA_b htp (nx := nx) (ct := fCD sl) (by omega)
      have hs9 := dgF_fit hd9
      refine lv_aload_n hx hb dR_walkField_14 rfl (lv_at hl 1 rfl) ?_
      refine va_get (D := (dC, dI)) (ci := 1) (v := .int (nI nx)) (C := RR) (T := TR) (N := 6) hx hb hw inR hown hK hP 0 rfl rfl 4 (by decide) (hw _ w_fl_R_25) (fun _ h9 => h9) rfl dR_walkField_15 ?_
      refine lv_istore_n (lv' := [(3, .int (nI nx)), (2, .int (nI (fMM sl))), (0, .ref r0), (1, .int (nI sl))]) hx hb dR_walkField_18 rfl hl (by decide) rfl (fun ls hl => ?_)
      refine lv_aload_n hx hb dR_walkField_19 rfl (lv_at hl 2 rfl) ?_
      refine va_getsN hx hb zfCD hS hown (va_Nw.use rfl (hG.nf (RR, 91, "COUNT_DIGITS") (List.mem_of_getElem? (i := 9) rfl))) (fun _ h9 => h9) dR_walkField_20 ?_
      refine lv_iload_n hx hb dR_walkField_23 rfl (lv_at hl 3 rfl) ?_
      refine za_tab hx hb afCD hS (by omega) (by decide) dR_walkField_24 ?_
      have hPc := hP.sub (ws' := [(r0, .inr (1, [.ref f0, .int (nI fk), .int fp, .ref t0, .int (nI nx), .int (nI lnb)])), (t0, .inr (2, [.ref t1, .int (nI len)])), (t1, .inl (cB, 400, .inl (aB tp)))]) [0, 1, 2] rfl
      have hDc := hD.sub (ws' := [(r0, .inr (1, [.ref f0, .int (nI fk), .int fp, .ref t0, .int (nI nx), .int (nI lnb)])), (t0, .inr (2, [.ref t1, .int (nI len)])), (t1, .inl (cB, 400, .inl (aB tp)))]) [0, 1, 2] (by decide) rfl
      have hFc := va_free (wc := [(r0, .inr (1, [.ref f0, .int (nI fk), .int fp, .ref t0, .int (nI nx), .int (nI lnb)])), (t0, .inr (2, [.ref t1, .int (nI len)])), (t1, .inl (cB, 400, .inl (aB tp)))]) hD hS hA [0, 1, 2] rfl
      refine zc_Mi (va_runV (As := [.int (nI (fCD sl))]) (rest := []) ⟨hx, hb, hml, hown, hw⟩ (c_walkNumber_ok l dC dI r0 f0 fk fp t0 nx lnb t1 len cI cB tp (fCD sl) (by omega) (by omega) htp (by omega) hd9 s.heap.size) (cwV 1 hw (gV w_ml_R_69 w_im_R_walkNumber w_se_R_walkNumber w_in_R w_co_R_walkNumber) rfl rfl rfl (by decide +kernel) ⟨Nat.le_of_ble_eq_true rfl, Nat.le_of_ble_eq_true rfl⟩) (zM_V hG hS hFc hPc hDc hK 0 rfl rfl) rfl rfl hl.1 rfl (lv_room (Nat.le_of_ble_eq_true rfl)) dR_walkField_25 ⟨Nat.le_of_ble_eq_true rfl, Nat.le_of_ble_eq_true rfl⟩) hS hFc (fun r_4 H locs h_25 hP1 hD1 hk1 hS => ?_)
      obtain ⟨hP, hD⟩ := va_join (wr := [(f0, .inr (0, [.int (nI ty), .ref f1, .ref f2])), (f1, .inl (cI, 16, .inl (aN cnt))), (f2, .inl (cB, 208, .inl (aN mk)))]) (w1 := [(r0, .inr (1, [.ref f0, .int (nI fk), .int fp, .ref t0, .int (nI (nx + ((fCD sl) + 1) / 2)), .int (nI (nmA tp nx (fCD sl) (fCD sl) 0 0))])), (t0, .inr (2, [.ref t1, .int (nI len)])), (t1, .inl (cB, 400, .inl (aB tp)))]) hP hD [0, 1, 2] [3, 4, 5] rfl rfl (by decide) (by decide) hk1 hFc hP1 hD1
      have hP : va_P (dC, dI) vwCl [(f0, .inr (0, [.int (nI ty), .ref f1, .ref f2])), (f1, .inl (cI, 16, .inl (aN cnt))), (f2, .inl (cB, 208, .inl (aN mk))), (r0, .inr (1, [.ref f0, .int (nI fk), .int fp, .ref t0, .int (nI (nx + ((fCD sl) + 1) / 2)), .int (nI (nmA tp nx (fCD sl) (fCD sl) 0 0))])), (t0, .inr (2, [.ref t1, .int (nI len)])), (t1, .inl (cB, 400, .inl (aB tp)))] H := hP
      have hD : va_D A [(f0, .inr (0, [.int (nI ty), .ref f1, .ref f2])), (f1, .inl (cI, 16, .inl (aN cnt))), (f2, .inl (cB, 208, .inl (aN mk))), (r0, .inr (1, [.ref f0, .int (nI fk), .int fp, .ref t0, .int (nI (nx + ((fCD sl) + 1) / 2)), .int (nI (nmA tp nx (fCD sl) (fCD sl) 0 0))])), (t0, .inr (2, [.ref t1, .int (nI len)])), (t1, .inl (cB, 400, .inl (aB tp)))] := hD
      subst h_25
      refine lv_if_ne (tgt := 33) hx hb dR_walkField_28 (by decide) (fun c_28 => ?_) (fun q => False.elim (absurd q (by decide)))
      refine lv_aload_n hx hb dR_walkField_33 rfl (lv_at hl 2 rfl) ?_
      refine va_get (D := (dC, dI)) (ci := 1) (v := .int (nI (nmA tp nx (fCD sl) (fCD sl) 0 0))) (C := RR) (T := TR) (N := 6) hx hb hw inR hown hK hP 3 rfl rfl 5 (by decide) (hw _ w_fl_R_28) (fun _ h9 => h9) rfl dR_walkField_34 ?_
      refine lv_istore_n (lv' := [(2, .int (nI (nmA tp nx (fCD sl) (fCD sl) 0 0))), (3, .int (nI nx)), (0, .ref r0), (1, .int (nI sl))]) hx hb dR_walkField_37 rfl hl (by decide) rfl (fun ls hl => ?_)
      refine lv_iload_n hx hb dR_walkField_38 rfl (lv_at hl 0 rfl) ?_
      refine lv_iconst (v := nI 1) hx hb dR_walkField_39 (by decide) ?_
      refine zi_lt (tgt := 52) hx hb (by omega) (by omega) dR_walkField_40 (by decide) (fun c_40 => ?_) (fun c_40 => ?_)
      · refine lv_aload_n hx hb dR_walkField_52 rfl (lv_at hl 2 rfl) ?_
        refine lv_iconst (v := nI 5) hx hb dR_walkField_53 (by decide) ?_
        refine lv_iload_n hx hb dR_walkField_54 rfl (lv_at hl 1 rfl) ?_
        have hPc := hP.sub (ws' := [(r0, .inr (1, [.ref f0, .int (nI fk), .int fp, .ref t0, .int (nI (nx + ((fCD sl) + 1) / 2)), .int (nI (nmA tp nx (fCD sl) (fCD sl) 0 0))]))]) [3] rfl
        have hDc := hD.sub (ws' := [(r0, .inr (1, [.ref f0, .int (nI fk), .int fp, .ref t0, .int (nI (nx + ((fCD sl) + 1) / 2)), .int (nI (nmA tp nx (fCD sl) (fCD sl) 0 0))]))]) [3] (by decide) rfl
        have hFc := va_free (wc := [(r0, .inr (1, [.ref f0, .int (nI fk), .int fp, .ref t0, .int (nI (nx + ((fCD sl) + 1) / 2)), .int (nI (nmA tp nx (fCD sl) (fCD sl) 0 0))]))]) hD hS hA [3] rfl
        refine zc_Mi (va_runV (As := [.int (nI 5), .int (nI nx)]) (rest := []) ⟨hx, hb, hml, hown, hw⟩ (c_R_fail l dC dI r0 f0 fk fp t0 (nx + ((fCD sl) + 1) / 2) (nmA tp nx (fCD sl) (fCD sl) 0 0) cI cB 5 (nI nx) H.size) (cwV 2 hw (gV w_ml_R_65 w_im_R_fail w_se_R_fail w_in_R w_co_R_fail) rfl rfl rfl (by decide +kernel) ⟨Nat.le_of_ble_eq_true rfl, Nat.le_of_ble_eq_true rfl⟩) (zM_V hG hS hFc hPc hDc hK 0 rfl rfl) rfl rfl hl.1 rfl (lv_room (Nat.le_of_ble_eq_true rfl)) dR_walkField_55 ⟨Nat.le_of_ble_eq_true rfl, Nat.le_of_ble_eq_true rfl⟩) hS hFc (fun r_5 H locs h_55 hP1 hD1 hk1 hS => ?_)
        obtain ⟨hP, hD⟩ := va_join (wr := [(f0, .inr (0, [.int (nI ty), .ref f1, .ref f2])), (f1, .inl (cI, 16, .inl (aN cnt))), (f2, .inl (cB, 208, .inl (aN mk))), (t0, .inr (2, [.ref t1, .int (nI len)])), (t1, .inl (cB, 400, .inl (aB tp)))]) (w1 := [(r0, .inr (1, [.ref f0, .int (nI 5), .int (nI nx), .ref t0, .int (nI (nx + ((fCD sl) + 1) / 2)), .int (nI (nmA tp nx (fCD sl) (fCD sl) 0 0))]))]) hP hD [3] [0, 1, 2, 4, 5] rfl rfl (by decide) (by decide) hk1 hFc hP1 hD1
        have hP : va_P (dC, dI) vwCl [(f0, .inr (0, [.int (nI ty), .ref f1, .ref f2])), (f1, .inl (cI, 16, .inl (aN cnt))), (f2, .inl (cB, 208, .inl (aN mk))), (t0, .inr (2, [.ref t1, .int (nI len)])), (t1, .inl (cB, 400, .inl (aB tp))), (r0, .inr (1, [.ref f0, .int (nI 5), .int (nI nx), .ref t0, .int (nI (nx + ((fCD sl) + 1) / 2)), .int (nI (nmA tp nx (fCD sl) (fCD sl) 0 0))]))] H := hP
        have hD : va_D A [(f0, .inr (0, [.int (nI ty), .ref f1, .ref f2])), (f1, .inl (cI, 16, .inl (aN cnt))), (f2, .inl (cB, 208, .inl (aN mk))), (t0, .inr (2, [.ref t1, .int (nI len)])), (t1, .inl (cB, 400, .inl (aB tp))), (r0, .inr (1, [.ref f0, .int (nI 5), .int (nI nx), .ref t0, .int (nI (nx + ((fCD sl) + 1) / 2)), .int (nI (nmA tp nx (fCD sl) (fCD sl) 0 0))]))] := hD
        subst h_55
        subst hAe
        subst hQ
        exact W.zret (v := nI 0) hx hb hr (by decide) (fun t ht hW => ⟨⟨nI 0, ((nx + ((fCD sl) + 1) / 2), (nmA tp nx (fCD sl) (fCD sl) 0 0), mk), rfl, ⟨rfl, hm⟩, by rw [ht]; exact hP.sub [5, 3, 4, 0, 1, 2] rfl, hD.sub [5, 3, 4, 0, 1, 2] (by decide) rfl⟩, hS.F ht⟩) hS.2.2 dR_walkField_58
      · refine lv_iload_n hx hb dR_walkField_43 rfl (lv_at hl 0 rfl) ?_
        refine va_getsN hx hb zfMM hS hown (va_Nw.use rfl (hG.nf (RR, 88, "MOST_MARKS") (List.mem_of_getElem? (i := 8) rfl))) (fun _ h9 => h9) dR_walkField_44 ?_
        refine lv_iload_n hx hb dR_walkField_47 rfl (lv_at hl 3 rfl) ?_
        refine za_tab hx hb afMM hS (by omega) (by decide) dR_walkField_48 ?_
        refine zi_le (tgt := 59) hx hb (by omega) (by omega) dR_walkField_49 (by decide) (fun q => False.elim ((by omega))) (fun c_49 => ?_)
        refine lv_aload_n hx hb dR_walkField_52 rfl (lv_at hl 2 rfl) ?_
        refine lv_iconst (v := nI 5) hx hb dR_walkField_53 (by decide) ?_
        refine lv_iload_n hx hb dR_walkField_54 rfl (lv_at hl 1 rfl) ?_
        have hPc := hP.sub (ws' := [(r0, .inr (1, [.ref f0, .int (nI fk), .int fp, .ref t0, .int (nI (nx + ((fCD sl) + 1) / 2)), .int (nI (nmA tp nx (fCD sl) (fCD sl) 0 0))]))]) [3] rfl
        have hDc := hD.sub (ws' := [(r0, .inr (1, [.ref f0, .int (nI fk), .int fp, .ref t0, .int (nI (nx + ((fCD sl) + 1) / 2)), .int (nI (nmA tp nx (fCD sl) (fCD sl) 0 0))]))]) [3] (by decide) rfl
        have hFc := va_free (wc := [(r0, .inr (1, [.ref f0, .int (nI fk), .int fp, .ref t0, .int (nI (nx + ((fCD sl) + 1) / 2)), .int (nI (nmA tp nx (fCD sl) (fCD sl) 0 0))]))]) hD hS hA [3] rfl
        refine zc_Mi (va_runV (As := [.int (nI 5), .int (nI nx)]) (rest := []) ⟨hx, hb, hml, hown, hw⟩ (c_R_fail l dC dI r0 f0 fk fp t0 (nx + ((fCD sl) + 1) / 2) (nmA tp nx (fCD sl) (fCD sl) 0 0) cI cB 5 (nI nx) H.size) (cwV 2 hw (gV w_ml_R_65 w_im_R_fail w_se_R_fail w_in_R w_co_R_fail) rfl rfl rfl (by decide +kernel) ⟨Nat.le_of_ble_eq_true rfl, Nat.le_of_ble_eq_true rfl⟩) (zM_V hG hS hFc hPc hDc hK 0 rfl rfl) rfl rfl hl.1 rfl (lv_room (Nat.le_of_ble_eq_true rfl)) dR_walkField_55 ⟨Nat.le_of_ble_eq_true rfl, Nat.le_of_ble_eq_true rfl⟩) hS hFc (fun r_6 H locs h_55 hP1 hD1 hk1 hS => ?_)
        obtain ⟨hP, hD⟩ := va_join (wr := [(f0, .inr (0, [.int (nI ty), .ref f1, .ref f2])), (f1, .inl (cI, 16, .inl (aN cnt))), (f2, .inl (cB, 208, .inl (aN mk))), (t0, .inr (2, [.ref t1, .int (nI len)])), (t1, .inl (cB, 400, .inl (aB tp)))]) (w1 := [(r0, .inr (1, [.ref f0, .int (nI 5), .int (nI nx), .ref t0, .int (nI (nx + ((fCD sl) + 1) / 2)), .int (nI (nmA tp nx (fCD sl) (fCD sl) 0 0))]))]) hP hD [3] [0, 1, 2, 4, 5] rfl rfl (by decide) (by decide) hk1 hFc hP1 hD1
        have hP : va_P (dC, dI) vwCl [(f0, .inr (0, [.int (nI ty), .ref f1, .ref f2])), (f1, .inl (cI, 16, .inl (aN cnt))), (f2, .inl (cB, 208, .inl (aN mk))), (t0, .inr (2, [.ref t1, .int (nI len)])), (t1, .inl (cB, 400, .inl (aB tp))), (r0, .inr (1, [.ref f0, .int (nI 5), .int (nI nx), .ref t0, .int (nI (nx + ((fCD sl) + 1) / 2)), .int (nI (nmA tp nx (fCD sl) (fCD sl) 0 0))]))] H := hP
        have hD : va_D A [(f0, .inr (0, [.int (nI ty), .ref f1, .ref f2])), (f1, .inl (cI, 16, .inl (aN cnt))), (f2, .inl (cB, 208, .inl (aN mk))), (t0, .inr (2, [.ref t1, .int (nI len)])), (t1, .inl (cB, 400, .inl (aB tp))), (r0, .inr (1, [.ref f0, .int (nI 5), .int (nI nx), .ref t0, .int (nI (nx + ((fCD sl) + 1) / 2)), .int (nI (nmA tp nx (fCD sl) (fCD sl) 0 0))]))] := hD
        subst h_55
        subst hAe
        subst hQ
        exact W.zret (v := nI 0) hx hb hr (by decide) (fun t ht hW => ⟨⟨nI 0, ((nx + ((fCD sl) + 1) / 2), (nmA tp nx (fCD sl) (fCD sl) 0 0), mk), rfl, ⟨rfl, hm⟩, by rw [ht]; exact hP.sub [5, 3, 4, 0, 1, 2] rfl, hD.sub [5, 3, 4, 0, 1, 2] (by decide) rfl⟩, hS.F ht⟩) hS.2.2 dR_walkField_58
    · have hnb := nmA_b htp (nx := nx) (ct := fCD sl) (by omega)
      have hs9 := dgF_fit hd9
      refine lv_aload_n hx hb dR_walkField_14 rfl (lv_at hl 1 rfl) ?_
      refine va_get (D := (dC, dI)) (ci := 1) (v := .int (nI nx)) (C := RR) (T := TR) (N := 6) hx hb hw inR hown hK hP 0 rfl rfl 4 (by decide) (hw _ w_fl_R_25) (fun _ h9 => h9) rfl dR_walkField_15 ?_
      refine lv_istore_n (lv' := [(3, .int (nI nx)), (2, .int (nI (fMM sl))), (0, .ref r0), (1, .int (nI sl))]) hx hb dR_walkField_18 rfl hl (by decide) rfl (fun ls hl => ?_)
      refine lv_aload_n hx hb dR_walkField_19 rfl (lv_at hl 2 rfl) ?_
      refine va_getsN hx hb zfCD hS hown (va_Nw.use rfl (hG.nf (RR, 91, "COUNT_DIGITS") (List.mem_of_getElem? (i := 9) rfl))) (fun _ h9 => h9) dR_walkField_20 ?_
      refine lv_iload_n hx hb dR_walkField_23 rfl (lv_at hl 3 rfl) ?_
      refine za_tab hx hb afCD hS (by omega) (by decide) dR_walkField_24 ?_
      have hPc := hP.sub (ws' := [(r0, .inr (1, [.ref f0, .int (nI fk), .int fp, .ref t0, .int (nI nx), .int (nI lnb)])), (t0, .inr (2, [.ref t1, .int (nI len)])), (t1, .inl (cB, 400, .inl (aB tp)))]) [0, 1, 2] rfl
      have hDc := hD.sub (ws' := [(r0, .inr (1, [.ref f0, .int (nI fk), .int fp, .ref t0, .int (nI nx), .int (nI lnb)])), (t0, .inr (2, [.ref t1, .int (nI len)])), (t1, .inl (cB, 400, .inl (aB tp)))]) [0, 1, 2] (by decide) rfl
      have hFc := va_free (wc := [(r0, .inr (1, [.ref f0, .int (nI fk), .int fp, .ref t0, .int (nI nx), .int (nI lnb)])), (t0, .inr (2, [.ref t1, .int (nI len)])), (t1, .inl (cB, 400, .inl (aB tp)))]) hD hS hA [0, 1, 2] rfl
      refine zc_Mi (va_runV (As := [.int (nI (fCD sl))]) (rest := []) ⟨hx, hb, hml, hown, hw⟩ (c_walkNumber_ok l dC dI r0 f0 fk fp t0 nx lnb t1 len cI cB tp (fCD sl) (by omega) (by omega) htp (by omega) hd9 s.heap.size) (cwV 1 hw (gV w_ml_R_69 w_im_R_walkNumber w_se_R_walkNumber w_in_R w_co_R_walkNumber) rfl rfl rfl (by decide +kernel) ⟨Nat.le_of_ble_eq_true rfl, Nat.le_of_ble_eq_true rfl⟩) (zM_V hG hS hFc hPc hDc hK 0 rfl rfl) rfl rfl hl.1 rfl (lv_room (Nat.le_of_ble_eq_true rfl)) dR_walkField_25 ⟨Nat.le_of_ble_eq_true rfl, Nat.le_of_ble_eq_true rfl⟩) hS hFc (fun r_7 H locs h_25 hP1 hD1 hk1 hS => ?_)
      obtain ⟨hP, hD⟩ := va_join (wr := [(f0, .inr (0, [.int (nI ty), .ref f1, .ref f2])), (f1, .inl (cI, 16, .inl (aN cnt))), (f2, .inl (cB, 208, .inl (aN mk)))]) (w1 := [(r0, .inr (1, [.ref f0, .int (nI fk), .int fp, .ref t0, .int (nI (nx + ((fCD sl) + 1) / 2)), .int (nI (nmA tp nx (fCD sl) (fCD sl) 0 0))])), (t0, .inr (2, [.ref t1, .int (nI len)])), (t1, .inl (cB, 400, .inl (aB tp)))]) hP hD [0, 1, 2] [3, 4, 5] rfl rfl (by decide) (by decide) hk1 hFc hP1 hD1
      have hP : va_P (dC, dI) vwCl [(f0, .inr (0, [.int (nI ty), .ref f1, .ref f2])), (f1, .inl (cI, 16, .inl (aN cnt))), (f2, .inl (cB, 208, .inl (aN mk))), (r0, .inr (1, [.ref f0, .int (nI fk), .int fp, .ref t0, .int (nI (nx + ((fCD sl) + 1) / 2)), .int (nI (nmA tp nx (fCD sl) (fCD sl) 0 0))])), (t0, .inr (2, [.ref t1, .int (nI len)])), (t1, .inl (cB, 400, .inl (aB tp)))] H := hP
      have hD : va_D A [(f0, .inr (0, [.int (nI ty), .ref f1, .ref f2])), (f1, .inl (cI, 16, .inl (aN cnt))), (f2, .inl (cB, 208, .inl (aN mk))), (r0, .inr (1, [.ref f0, .int (nI fk), .int fp, .ref t0, .int (nI (nx + ((fCD sl) + 1) / 2)), .int (nI (nmA tp nx (fCD sl) (fCD sl) 0 0))])), (t0, .inr (2, [.ref t1, .int (nI len)])), (t1, .inl (cB, 400, .inl (aB tp)))] := hD
      subst h_25
      refine lv_if_ne (tgt := 33) hx hb dR_walkField_28 (by decide) (fun c_28 => ?_) (fun q => False.elim (absurd q (by decide)))
      refine lv_aload_n hx hb dR_walkField_33 rfl (lv_at hl 2 rfl) ?_
      refine va_get (D := (dC, dI)) (ci := 1) (v := .int (nI (nmA tp nx (fCD sl) (fCD sl) 0 0))) (C := RR) (T := TR) (N := 6) hx hb hw inR hown hK hP 3 rfl rfl 5 (by decide) (hw _ w_fl_R_28) (fun _ h9 => h9) rfl dR_walkField_34 ?_
      refine lv_istore_n (lv' := [(2, .int (nI (nmA tp nx (fCD sl) (fCD sl) 0 0))), (3, .int (nI nx)), (0, .ref r0), (1, .int (nI sl))]) hx hb dR_walkField_37 rfl hl (by decide) rfl (fun ls hl => ?_)
      refine lv_iload_n hx hb dR_walkField_38 rfl (lv_at hl 0 rfl) ?_
      refine lv_iconst (v := nI 1) hx hb dR_walkField_39 (by decide) ?_
      refine zi_lt (tgt := 52) hx hb (by omega) (by omega) dR_walkField_40 (by decide) (fun q => False.elim ((by omega))) (fun c_40 => ?_)
      refine lv_iload_n hx hb dR_walkField_43 rfl (lv_at hl 0 rfl) ?_
      refine va_getsN hx hb zfMM hS hown (va_Nw.use rfl (hG.nf (RR, 88, "MOST_MARKS") (List.mem_of_getElem? (i := 8) rfl))) (fun _ h9 => h9) dR_walkField_44 ?_
      refine lv_iload_n hx hb dR_walkField_47 rfl (lv_at hl 3 rfl) ?_
      refine za_tab hx hb afMM hS (by omega) (by decide) dR_walkField_48 ?_
      refine zi_le (tgt := 59) hx hb (by omega) (by omega) dR_walkField_49 (by decide) (fun c_49 => ?_) (fun q => False.elim ((by omega)))
      refine va_getsN hx hb zfHL hS hown (va_Nw.use rfl (hG.nf (RR, 94, "HAS_LETTERS") (List.mem_of_getElem? (i := 10) rfl))) (fun _ h9 => h9) dR_walkField_59 ?_
      refine lv_iload_n hx hb dR_walkField_62 rfl (lv_at hl 3 rfl) ?_
      refine za_tab hx hb afHL hS (by omega) (by decide) dR_walkField_63 ?_
      refine zi_eq0 (tgt := 76) hx hb (by omega) dR_walkField_64 (by decide) (fun c_64 => ?_) (fun c_64 => ?_)
      · unfold valF at hv
        rw [if_pos c_64] at hv
        refine lv_aload_n hx hb dR_walkField_76 rfl (lv_at hl 2 rfl) ?_
        refine lv_iload_n hx hb dR_walkField_77 rfl (lv_at hl 3 rfl) ?_
        refine lv_iload_n hx hb dR_walkField_78 rfl (lv_at hl 0 rfl) ?_
        have hPc := hP.sub (ws' := [(r0, .inr (1, [.ref f0, .int (nI fk), .int fp, .ref t0, .int (nI (nx + ((fCD sl) + 1) / 2)), .int (nI (nmA tp nx (fCD sl) (fCD sl) 0 0))])), (t0, .inr (2, [.ref t1, .int (nI len)])), (t1, .inl (cB, 400, .inl (aB tp)))]) [3, 4, 5] rfl
        have hDc := hD.sub (ws' := [(r0, .inr (1, [.ref f0, .int (nI fk), .int fp, .ref t0, .int (nI (nx + ((fCD sl) + 1) / 2)), .int (nI (nmA tp nx (fCD sl) (fCD sl) 0 0))])), (t0, .inr (2, [.ref t1, .int (nI len)])), (t1, .inl (cB, 400, .inl (aB tp)))]) [3, 4, 5] (by decide) rfl
        have hFc := va_free (wc := [(r0, .inr (1, [.ref f0, .int (nI fk), .int fp, .ref t0, .int (nI (nx + ((fCD sl) + 1) / 2)), .int (nI (nmA tp nx (fCD sl) (fCD sl) 0 0))])), (t0, .inr (2, [.ref t1, .int (nI len)])), (t1, .inl (cB, 400, .inl (aB tp)))]) hD hS hA [3, 4, 5] rfl
        refine zc_Mi (va_runV (As := [.int (nI sl), .int (nI (nmA tp nx (fCD sl) (fCD sl) 0 0))]) (rest := []) ⟨hx, hb, hml, hown, hw⟩ (c_walkDigits_no l dC dI r0 f0 fk fp t0 (nx + ((fCD sl) + 1) / 2) (nmA tp nx (fCD sl) (fCD sl) 0 0) t1 len cI cB tp sl (nmA tp nx (fCD sl) (fCD sl) 0 0) k2 p2 (by omega) (by omega) htp (by omega) hv H.size) (cwV 2 hw (gV w_ml_R_100 w_im_R_walkDigits w_se_R_walkDigits w_in_R w_co_R_walkDigits) rfl rfl rfl (by decide +kernel) ⟨Nat.le_of_ble_eq_true rfl, Nat.le_of_ble_eq_true rfl⟩) (zM_V hG hS hFc hPc hDc hK 0 rfl rfl) rfl rfl hl.1 rfl (lv_room (Nat.le_of_ble_eq_true rfl)) dR_walkField_79 ⟨Nat.le_of_ble_eq_true rfl, Nat.le_of_ble_eq_true rfl⟩) hS hFc (fun r_8 H locs h_79 hP1 hD1 hk1 hS => ?_)
        obtain ⟨hP, hD⟩ := va_join (wr := [(f0, .inr (0, [.int (nI ty), .ref f1, .ref f2])), (f1, .inl (cI, 16, .inl (aN cnt))), (f2, .inl (cB, 208, .inl (aN mk)))]) (w1 := [(r0, .inr (1, [.ref f0, .int (nI k2), .int (nI p2), .ref t0, .int (nI (nx + ((fCD sl) + 1) / 2)), .int (nI (nmA tp nx (fCD sl) (fCD sl) 0 0))])), (t0, .inr (2, [.ref t1, .int (nI len)])), (t1, .inl (cB, 400, .inl (aB tp)))]) hP hD [3, 4, 5] [0, 1, 2] rfl rfl (by decide) (by decide) hk1 hFc hP1 hD1
        have hP : va_P (dC, dI) vwCl [(f0, .inr (0, [.int (nI ty), .ref f1, .ref f2])), (f1, .inl (cI, 16, .inl (aN cnt))), (f2, .inl (cB, 208, .inl (aN mk))), (r0, .inr (1, [.ref f0, .int (nI k2), .int (nI p2), .ref t0, .int (nI (nx + ((fCD sl) + 1) / 2)), .int (nI (nmA tp nx (fCD sl) (fCD sl) 0 0))])), (t0, .inr (2, [.ref t1, .int (nI len)])), (t1, .inl (cB, 400, .inl (aB tp)))] H := hP
        have hD : va_D A [(f0, .inr (0, [.int (nI ty), .ref f1, .ref f2])), (f1, .inl (cI, 16, .inl (aN cnt))), (f2, .inl (cB, 208, .inl (aN mk))), (r0, .inr (1, [.ref f0, .int (nI k2), .int (nI p2), .ref t0, .int (nI (nx + ((fCD sl) + 1) / 2)), .int (nI (nmA tp nx (fCD sl) (fCD sl) 0 0))])), (t0, .inr (2, [.ref t1, .int (nI len)])), (t1, .inl (cB, 400, .inl (aB tp)))] := hD
        subst h_79
        subst hAe
        subst hQ
        exact W.zret (v := nI 0) hx hb hr (by decide) (fun t ht hW => ⟨⟨nI 0, ((nx + ((fCD sl) + 1) / 2), (nmA tp nx (fCD sl) (fCD sl) 0 0), mk), rfl, ⟨rfl, hm⟩, by rw [ht]; exact hP.sub [3, 4, 5, 0, 1, 2] rfl, hD.sub [3, 4, 5, 0, 1, 2] (by decide) rfl⟩, hS.F ht⟩) hS.2.2 dR_walkField_82
      · unfold valF at hv
        rw [if_neg c_64] at hv
        refine lv_aload_n hx hb dR_walkField_67 rfl (lv_at hl 2 rfl) ?_
        refine lv_iload_n hx hb dR_walkField_68 rfl (lv_at hl 3 rfl) ?_
        refine lv_iload_n hx hb dR_walkField_69 rfl (lv_at hl 0 rfl) ?_
        have hPc := hP.sub (ws' := [(r0, .inr (1, [.ref f0, .int (nI fk), .int fp, .ref t0, .int (nI (nx + ((fCD sl) + 1) / 2)), .int (nI (nmA tp nx (fCD sl) (fCD sl) 0 0))])), (t0, .inr (2, [.ref t1, .int (nI len)])), (t1, .inl (cB, 400, .inl (aB tp))), (f0, .inr (0, [.int (nI ty), .ref f1, .ref f2])), (f1, .inl (cI, 16, .inl (aN cnt))), (f2, .inl (cB, 208, .inl (aN mk)))]) [3, 4, 5, 0, 1, 2] rfl
        have hDc := hD.sub (ws' := [(r0, .inr (1, [.ref f0, .int (nI fk), .int fp, .ref t0, .int (nI (nx + ((fCD sl) + 1) / 2)), .int (nI (nmA tp nx (fCD sl) (fCD sl) 0 0))])), (t0, .inr (2, [.ref t1, .int (nI len)])), (t1, .inl (cB, 400, .inl (aB tp))), (f0, .inr (0, [.int (nI ty), .ref f1, .ref f2])), (f1, .inl (cI, 16, .inl (aN cnt))), (f2, .inl (cB, 208, .inl (aN mk)))]) [3, 4, 5, 0, 1, 2] (by decide) rfl
        have hFc := va_free (wc := [(r0, .inr (1, [.ref f0, .int (nI fk), .int fp, .ref t0, .int (nI (nx + ((fCD sl) + 1) / 2)), .int (nI (nmA tp nx (fCD sl) (fCD sl) 0 0))])), (t0, .inr (2, [.ref t1, .int (nI len)])), (t1, .inl (cB, 400, .inl (aB tp))), (f0, .inr (0, [.int (nI ty), .ref f1, .ref f2])), (f1, .inl (cI, 16, .inl (aN cnt))), (f2, .inl (cB, 208, .inl (aN mk)))]) hD hS hA [3, 4, 5, 0, 1, 2] rfl
        refine zc_Si (va_runV (As := [.int (nI sl), .int (nI (nmA tp nx (fCD sl) (fCD sl) 0 0))]) (rest := []) ⟨hx, hb, hml, hown, hw⟩ (c_walkLetters_no l dC dI r0 f0 fk fp t0 (nx + ((fCD sl) + 1) / 2) (nmA tp nx (fCD sl) (fCD sl) 0 0) t1 len cI cB tp f1 f2 ty cnt mk sl (nmA tp nx (fCD sl) (fCD sl) 0 0) k2 p2 (by omega) (by omega) htp (by omega) (by omega) (by omega) hm hv H.size) (cwV 2 hw (gV w_ml_R_97 w_im_R_walkLetters w_se_R_walkLetters w_in_R w_co_R_walkLetters) rfl rfl rfl (by decide +kernel) ⟨Nat.le_of_ble_eq_true rfl, Nat.le_of_ble_eq_true rfl⟩) (zM_V hG hS hFc hPc hDc hK 0 rfl rfl) rfl rfl hl.1 rfl (lv_room (Nat.le_of_ble_eq_true rfl)) dR_walkField_70 ⟨Nat.le_of_ble_eq_true rfl, Nat.le_of_ble_eq_true rfl⟩) hS hFc (fun r_9 u_70 H locs h_70 hP1 hD1 hk1 hS => ?_)
        obtain ⟨hP, hD⟩ := va_join (wr := []) (w1 := [(r0, .inr (1, [.ref f0, .int (nI k2), .int (nI p2), .ref t0, .int (nI (nx + ((fCD sl) + 1) / 2)), .int (nI (nmA tp nx (fCD sl) (fCD sl) 0 0))])), (t0, .inr (2, [.ref t1, .int (nI len)])), (t1, .inl (cB, 400, .inl (aB tp))), (f0, .inr (0, [.int (nI ty), .ref f1, .ref f2])), (f1, .inl (cI, 16, .inl (aN cnt))), (f2, .inl (cB, 208, .inl (aN u_70)))]) hP hD [3, 4, 5, 0, 1, 2] [] rfl rfl (by decide) (by decide) hk1 hFc hP1 hD1
        have hP : va_P (dC, dI) vwCl [(r0, .inr (1, [.ref f0, .int (nI k2), .int (nI p2), .ref t0, .int (nI (nx + ((fCD sl) + 1) / 2)), .int (nI (nmA tp nx (fCD sl) (fCD sl) 0 0))])), (t0, .inr (2, [.ref t1, .int (nI len)])), (t1, .inl (cB, 400, .inl (aB tp))), (f0, .inr (0, [.int (nI ty), .ref f1, .ref f2])), (f1, .inl (cI, 16, .inl (aN cnt))), (f2, .inl (cB, 208, .inl (aN u_70)))] H := hP
        have hD : va_D A [(r0, .inr (1, [.ref f0, .int (nI k2), .int (nI p2), .ref t0, .int (nI (nx + ((fCD sl) + 1) / 2)), .int (nI (nmA tp nx (fCD sl) (fCD sl) 0 0))])), (t0, .inr (2, [.ref t1, .int (nI len)])), (t1, .inl (cB, 400, .inl (aB tp))), (f0, .inr (0, [.int (nI ty), .ref f1, .ref f2])), (f1, .inl (cI, 16, .inl (aN cnt))), (f2, .inl (cB, 208, .inl (aN u_70)))] := hD
        obtain ⟨rfl, hu_h_70⟩ := h_70
        refine lv_goto (tgt := 82) hx hb dR_walkField_73 (by decide) ?_
        subst hAe
        subst hQ
        exact W.zret (v := nI 0) hx hb hr (by decide) (fun t ht hW => ⟨⟨nI 0, ((nx + ((fCD sl) + 1) / 2), (nmA tp nx (fCD sl) (fCD sl) 0 0), u_70), rfl, ⟨rfl, hu_h_70⟩, by rw [ht]; exact hP.sub [0, 1, 2, 3, 4, 5] rfl, hD.sub [0, 1, 2, 3, 4, 5] (by decide) rfl⟩, hS.F ht⟩) hS.2.2 dR_walkField_82
def rm_c_walkType_ok : Room := ({ frames := 4, cells := 0, slots := 0, locals := 88 } : Room)
set_option maxHeartbeats 4000000 in
set_option maxRecDepth 100000 in
theorem c_walkType_ok (l : Launch) (dC : Nat → ClassId) (dI : Nat → Nat → Nat) (r0 : Nat) (f0 : Nat) (fk : Nat) (fp : Int32) (t0 : Nat) (nx : Nat) (lnb : Nat) (t1 : Nat) (len : Nat) (cI : ClassId) (cB : ClassId) (tp : Nat → Nat) (f1 : Nat) (f2 : Nat) (ty : Nat) (cnt : Nat → Nat) (mk : Nat → Nat) (hln : len ≤ 400) (hnl : nx ≤ len) (htp : ∀ j, tp j < 256) (hd : dgF tp len nx 4 = none) (hty : ∃ i, i < 17 ∧ fTY i = nmA tp nx 4 4 0 0) (sz : Nat) : Met l yR_walkType wsR_walkType rm_c_walkType_ok (zM (dC, dI) [(cI, .int), (cB, .byte)] [.ref r0] [(r0, .inr (1, [.ref f0, .int (nI fk), .int fp, .ref t0, .int (nI nx), .int (nI lnb)])), (t0, .inr (2, [.ref t1, .int (nI len)])), (t1, .inl (cB, 400, .inl (aB tp))), (f0, .inr (0, [.int (nI ty), .ref f1, .ref f2])), (f1, .inl (cI, 16, .inl (aN cnt))), (f2, .inl (cB, 208, .inl (aN mk)))] sz) (zMi (dC, dI) [(r0, .inr (1, [.ref f0, .int (nI fk), .int fp, .ref t0, .int (nI nx), .int (nI lnb)])), (t0, .inr (2, [.ref t1, .int (nI len)])), (t1, .inl (cB, 400, .inl (aB tp))), (f0, .inr (0, [.int (nI ty), .ref f1, .ref f2])), (f1, .inl (cI, 16, .inl (aN cnt))), (f2, .inl (cB, 208, .inl (aN mk)))] [(r0, .inr (1, [.ref f0, .int (nI fk), .int fp, .ref t0, .int (nI (nx + 2)), .int (nI (nmA tp nx 4 4 0 0))])), (t0, .inr (2, [.ref t1, .int (nI len)])), (t1, .inl (cB, 400, .inl (aB tp))), (f0, .inr (0, [.int (nI (nmA tp nx 4 4 0 0)), .ref f1, .ref f2])), (f1, .inl (cI, 16, .inl (aN (zc cnt 16)))), (f2, .inl (cB, 208, .inl (aN mk)))] sz (fun r => r = nI 1)) 0 0 (va_A [(r0, .inr (1, [.ref f0, .int (nI fk), .int fp, .ref t0, .int (nI nx), .int (nI lnb)])), (t0, .inr (2, [.ref t1, .int (nI len)])), (t1, .inl (cB, 400, .inl (aB tp))), (f0, .inr (0, [.int (nI ty), .ref f1, .ref f2])), (f1, .inl (cI, 16, .inl (aN cnt))), (f2, .inl (cB, 208, .inl (aN mk)))] sz) := by
  refine Met.ofW (cc := cR_walkType) (maxL := 2) (ret := (some .boolean)) (by decide) rfl ?_
  intro p e s m args below meth c s₁ Bd hml hv
  obtain ⟨rfl, hsz, hG, hP, hK, hD0⟩ := hv
  subst hsz
  have hx := Bd.exec
  have hb := Bd.bytes
  have hr := Bd.returns
  have hts := atoms_spec (ws := wsR_walkType) Bd.pre
  have hw : ∀ w ∈ BIG, w.before _ s = true := fun w h => hts w (List.mem_cons_of_mem _ h)
  have hown : s.vm.findClass RR = some m.cls := findClass_of_methodNamed Bd.named
  have hlocks := Bd.notSynchronized
  have hD := hD0.self (sz := s.heap.size)
  obtain ⟨A, hAe⟩ : ∃ A, A = va_A [(r0, .inr (1, [.ref f0, .int (nI fk), .int fp, .ref t0, .int (nI nx), .int (nI lnb)])), (t0, .inr (2, [.ref t1, .int (nI len)])), (t1, .inl (cB, 400, .inl (aB tp))), (f0, .inr (0, [.int (nI ty), .ref f1, .ref f2])), (f1, .inl (cI, 16, .inl (aN cnt))), (f2, .inl (cB, 208, .inl (aN mk)))] s.heap.size := ⟨_, rfl⟩
  have hA : ∀ q : Nat, s.heap.size ≤ q → A q := fun q h => by rw [hAe]; exact Or.inr h
  rw [← hAe] at hG hD
  have hS : va_S A s.heap s.heap [] := va_S.rf
  have hl := lv_entry ([.ref r0]) (n := 2) (Nat.le_of_ble_eq_true rfl)
  rw [lg_entry_eq]
  generalize (lg_sl ([.ref r0]) ++ List.replicate (2 - (lg_sl ([.ref r0])).length) Slot.unset).toArray = ls at hl ⊢
  have hl : lv_has ls 2 [(0, .ref r0)] := hl
  refine zq_name (fun Q hQ => ?_)
  change W p l e rm_c_walkType_ok s m _ below meth c _ _ _ _ Q _
  obtain ⟨tfTY, zfTY, afTY⟩ := hG.TYPES
  have hnb : nmA tp nx 4 4 0 0 < 65536 := nmA_b htp (by decide)
  refine lv_aload_n hx hb dR_walkType_0 rfl (lv_at hl 0 rfl) ?_
  refine lv_iconst (v := nI 4) hx hb dR_walkType_1 (by decide) ?_
  have hPc := hP.sub (ws' := [(r0, .inr (1, [.ref f0, .int (nI fk), .int fp, .ref t0, .int (nI nx), .int (nI lnb)])), (t0, .inr (2, [.ref t1, .int (nI len)])), (t1, .inl (cB, 400, .inl (aB tp)))]) [0, 1, 2] rfl
  have hDc := hD.sub (ws' := [(r0, .inr (1, [.ref f0, .int (nI fk), .int fp, .ref t0, .int (nI nx), .int (nI lnb)])), (t0, .inr (2, [.ref t1, .int (nI len)])), (t1, .inl (cB, 400, .inl (aB tp)))]) [0, 1, 2] (by decide) rfl
  have hFc := va_free (wc := [(r0, .inr (1, [.ref f0, .int (nI fk), .int fp, .ref t0, .int (nI nx), .int (nI lnb)])), (t0, .inr (2, [.ref t1, .int (nI len)])), (t1, .inl (cB, 400, .inl (aB tp)))]) hD hS hA [0, 1, 2] rfl
  refine zc_Mi (va_runV (As := [.int (nI 4)]) (rest := []) ⟨hx, hb, hml, hown, hw⟩ (c_walkNumber_ok l dC dI r0 f0 fk fp t0 nx lnb t1 len cI cB tp 4 (by omega) (by omega) htp (by omega) hd s.heap.size) (cwV 1 hw (gV w_ml_R_69 w_im_R_walkNumber w_se_R_walkNumber w_in_R w_co_R_walkNumber) rfl rfl rfl (by decide +kernel) ⟨Nat.le_of_ble_eq_true rfl, Nat.le_of_ble_eq_true rfl⟩) (zM_V hG hS hFc hPc hDc hK 0 rfl rfl) rfl rfl hl.1 rfl (lv_room (Nat.le_of_ble_eq_true rfl)) dR_walkType_2 ⟨Nat.le_of_ble_eq_true rfl, Nat.le_of_ble_eq_true rfl⟩) hS hFc (fun r_1 H locs h_2 hP1 hD1 hk1 hS => ?_)
  obtain ⟨hP, hD⟩ := va_join (wr := [(f0, .inr (0, [.int (nI ty), .ref f1, .ref f2])), (f1, .inl (cI, 16, .inl (aN cnt))), (f2, .inl (cB, 208, .inl (aN mk)))]) (w1 := [(r0, .inr (1, [.ref f0, .int (nI fk), .int fp, .ref t0, .int (nI (nx + (4 + 1) / 2)), .int (nI (nmA tp nx 4 4 0 0))])), (t0, .inr (2, [.ref t1, .int (nI len)])), (t1, .inl (cB, 400, .inl (aB tp)))]) hP hD [0, 1, 2] [3, 4, 5] rfl rfl (by decide) (by decide) hk1 hFc hP1 hD1
  have hP : va_P (dC, dI) vwCl [(f0, .inr (0, [.int (nI ty), .ref f1, .ref f2])), (f1, .inl (cI, 16, .inl (aN cnt))), (f2, .inl (cB, 208, .inl (aN mk))), (r0, .inr (1, [.ref f0, .int (nI fk), .int fp, .ref t0, .int (nI (nx + (4 + 1) / 2)), .int (nI (nmA tp nx 4 4 0 0))])), (t0, .inr (2, [.ref t1, .int (nI len)])), (t1, .inl (cB, 400, .inl (aB tp)))] H := hP
  have hD : va_D A [(f0, .inr (0, [.int (nI ty), .ref f1, .ref f2])), (f1, .inl (cI, 16, .inl (aN cnt))), (f2, .inl (cB, 208, .inl (aN mk))), (r0, .inr (1, [.ref f0, .int (nI fk), .int fp, .ref t0, .int (nI (nx + (4 + 1) / 2)), .int (nI (nmA tp nx 4 4 0 0))])), (t0, .inr (2, [.ref t1, .int (nI len)])), (t1, .inl (cB, 400, .inl (aB tp)))] := hD
  subst h_2
  refine lv_if_ne (tgt := 10) hx hb dR_walkType_5 (by decide) (fun c_5 => ?_) (fun q => False.elim (absurd q (by decide)))
  refine lv_iconst (v := nI 0) hx hb dR_walkType_10 (by decide) ?_
  refine lv_istore_n (lv' := [(1, .int (nI 0)), (0, .ref r0)]) hx hb dR_walkType_11 rfl hl (by decide) rfl (fun ls hl => ?_)
  have lp_12 : ∀ (fu : Nat) (i : Nat) (hi : i ≤ 17) (hj : ∀ j, j < i → fTY j ≠ nmA tp nx 4 4 0 0) (hms : 17 - i < fu) (H : Heap) (locs : List Loc) (ls : Array Slot), lv_has ls 2 [(0, .ref r0), (1, .int (nI i))] → va_P (dC, dI) vwCl [(f0, .inr (0, [.int (nI ty), .ref f1, .ref f2])), (f1, .inl (cI, 16, .inl (aN cnt))), (f2, .inl (cB, 208, .inl (aN mk))), (r0, .inr (1, [.ref f0, .int (nI fk), .int fp, .ref t0, .int (nI (nx + (4 + 1) / 2)), .int (nI (nmA tp nx 4 4 0 0))])), (t0, .inr (2, [.ref t1, .int (nI len)])), (t1, .inl (cB, 400, .inl (aB tp)))] H → va_D A [(f0, .inr (0, [.int (nI ty), .ref f1, .ref f2])), (f1, .inl (cI, 16, .inl (aN cnt))), (f2, .inl (cB, 208, .inl (aN mk))), (r0, .inr (1, [.ref f0, .int (nI fk), .int fp, .ref t0, .int (nI (nx + (4 + 1) / 2)), .int (nI (nmA tp nx 4 4 0 0))])), (t0, .inr (2, [.ref t1, .int (nI len)])), (t1, .inl (cB, 400, .inl (aB tp)))] → va_S A s.heap H locs → W p l e rm_c_walkType_ok s m ([.ref r0] : List Value).toArray below meth c H locs 0 0 Q (F0 m 12 ls []) := by
    intro fu
    induction fu with
    | zero => intro i hi hj hms; exact absurd hms (Nat.not_lt_zero _)
    | succ fu ih12 =>
      intro i hi hj hms H locs ls hl hP hD hS
      refine lv_iload_n hx hb dR_walkType_12 rfl (lv_at hl 1 rfl) ?_
      refine va_getsN hx hb zfTY hS hown (va_Nw.use rfl (hG.nf (RR, 72, "TYPES") (List.mem_of_getElem? (i := 5) rfl))) (fun _ h9 => h9) dR_walkType_13 ?_
      refine va_tlen (v := nI 17) hx hb afTY hS rfl dR_walkType_16 ?_
      refine zi_ge (tgt := 51) hx hb (by omega) (by omega) dR_walkType_17 (by decide) (fun q => False.elim ((by obtain ⟨i9, h1, h2⟩ := hty; exact hj i9 (by omega) h2))) (fun c_17 => ?_)
      have hty9 := fTY_b i (by omega)
      refine va_getsN hx hb zfTY hS hown (va_Nw.use rfl (hG.nf (RR, 72, "TYPES") (List.mem_of_getElem? (i := 5) rfl))) (fun _ h9 => h9) dR_walkType_20 ?_
      refine lv_iload_n hx hb dR_walkType_23 rfl (lv_at hl 1 rfl) ?_
      refine za_tab hx hb afTY hS (by omega) (by decide) dR_walkType_24 ?_
      refine lv_aload_n hx hb dR_walkType_25 rfl (lv_at hl 0 rfl) ?_
      refine va_get (D := (dC, dI)) (ci := 1) (v := .int (nI (nmA tp nx 4 4 0 0))) (C := RR) (T := TR) (N := 6) hx hb hw inR hown hK hP 3 rfl rfl 5 (by decide) (hw _ w_fl_R_28) (fun _ h9 => h9) rfl dR_walkType_26 ?_
      refine zi_ne (tgt := 45) hx hb (by omega) (by omega) dR_walkType_29 (by decide) (fun c_29 => ?_) (fun c_29 => ?_)
      · refine lv_iinc (v := nI (i + 1)) (lv' := [(1, .int (nI (i + 1))), (0, .ref r0)]) hx hb dR_walkType_45 hl (k := 1) rfl (zi_incr i 1) (by decide) rfl (fun ls hl => ?_)
        refine lv_goto (tgt := 12) hx hb dR_walkType_48 (by decide) ?_
        exact ih12 (i + 1) (by omega) (lt_s hj c_29) (by omega) _ _ _ (lv_sub hl [1, 0] rfl) (hP.sub [0, 1, 2, 3, 4, 5] rfl) (hD.sub [0, 1, 2, 3, 4, 5] (by decide) rfl) hS
      · refine lv_aload_n hx hb dR_walkType_32 rfl (lv_at hl 0 rfl) ?_
        refine va_get (D := (dC, dI)) (ci := 1) (v := .ref f0) (C := RR) (T := TR) (N := 6) hx hb hw inR hown hK hP 3 rfl rfl 0 (by decide) (hw _ w_fl_R_12) (fun _ h9 => h9) rfl dR_walkType_33 ?_
        refine lv_aload_n hx hb dR_walkType_36 rfl (lv_at hl 0 rfl) ?_
        refine va_get (D := (dC, dI)) (ci := 1) (v := .int (nI (nmA tp nx 4 4 0 0))) (C := RR) (T := TR) (N := 6) hx hb hw inR hown hK hP 3 rfl rfl 5 (by decide) (hw _ w_fl_R_28) (fun _ h9 => h9) rfl dR_walkType_37 ?_
        have hPc := hP.sub (ws' := [(f0, .inr (0, [.int (nI ty), .ref f1, .ref f2])), (f1, .inl (cI, 16, .inl (aN cnt))), (f2, .inl (cB, 208, .inl (aN mk)))]) [0, 1, 2] rfl
        have hDc := hD.sub (ws' := [(f0, .inr (0, [.int (nI ty), .ref f1, .ref f2])), (f1, .inl (cI, 16, .inl (aN cnt))), (f2, .inl (cB, 208, .inl (aN mk)))]) [0, 1, 2] (by decide) rfl
        have hFc := va_free (wc := [(f0, .inr (0, [.int (nI ty), .ref f1, .ref f2])), (f1, .inl (cI, 16, .inl (aN cnt))), (f2, .inl (cB, 208, .inl (aN mk)))]) hD hS hA [0, 1, 2] rfl
        refine zc_Mv (va_runV (As := [.int (nI (nmA tp nx 4 4 0 0))]) (rest := []) ⟨hx, hb, hml, hown, hw⟩ (c_D_restart l dC dI f0 f1 f2 cI cB ty cnt mk (nmA tp nx 4 4 0 0) H.size) (cwV 1 hw (gV w_ml_R_75 w_im_D_restart w_se_D_restart w_in_D w_co_D_restart) rfl rfl rfl (by decide +kernel) ⟨Nat.le_of_ble_eq_true rfl, Nat.le_of_ble_eq_true rfl⟩) (zM_V hG hS hFc hPc hDc hK 0 rfl rfl) rfl rfl hl.1 rfl (lv_room (Nat.le_of_ble_eq_true rfl)) dR_walkType_40 ⟨Nat.le_of_ble_eq_true rfl, Nat.le_of_ble_eq_true rfl⟩) hS hFc (fun H locs h_40 hP1 hD1 hk1 hS => ?_)
        obtain ⟨hP, hD⟩ := va_join (wr := [(r0, .inr (1, [.ref f0, .int (nI fk), .int fp, .ref t0, .int (nI (nx + (4 + 1) / 2)), .int (nI (nmA tp nx 4 4 0 0))])), (t0, .inr (2, [.ref t1, .int (nI len)])), (t1, .inl (cB, 400, .inl (aB tp)))]) (w1 := [(f0, .inr (0, [.int (nI (nmA tp nx 4 4 0 0)), .ref f1, .ref f2])), (f1, .inl (cI, 16, .inl (aN (zc cnt 16)))), (f2, .inl (cB, 208, .inl (aN mk)))]) hP hD [0, 1, 2] [3, 4, 5] rfl rfl (by decide) (by decide) hk1 hFc hP1 hD1
        have hP : va_P (dC, dI) vwCl [(r0, .inr (1, [.ref f0, .int (nI fk), .int fp, .ref t0, .int (nI (nx + (4 + 1) / 2)), .int (nI (nmA tp nx 4 4 0 0))])), (t0, .inr (2, [.ref t1, .int (nI len)])), (t1, .inl (cB, 400, .inl (aB tp))), (f0, .inr (0, [.int (nI (nmA tp nx 4 4 0 0)), .ref f1, .ref f2])), (f1, .inl (cI, 16, .inl (aN (zc cnt 16)))), (f2, .inl (cB, 208, .inl (aN mk)))] H := hP
        have hD : va_D A [(r0, .inr (1, [.ref f0, .int (nI fk), .int fp, .ref t0, .int (nI (nx + (4 + 1) / 2)), .int (nI (nmA tp nx 4 4 0 0))])), (t0, .inr (2, [.ref t1, .int (nI len)])), (t1, .inl (cB, 400, .inl (aB tp))), (f0, .inr (0, [.int (nI (nmA tp nx 4 4 0 0)), .ref f1, .ref f2])), (f1, .inl (cI, 16, .inl (aN (zc cnt 16)))), (f2, .inl (cB, 208, .inl (aN mk)))] := hD
        refine lv_iconst (v := nI 1) hx hb dR_walkType_43 (by decide) ?_
        subst hAe
        subst hQ
        exact W.zret (v := nI 1) hx hb hr (by decide) (fun t ht hW => ⟨⟨nI 1, (), rfl, rfl, by rw [ht]; exact hP.sub [0, 1, 2, 3, 4, 5] rfl, hD.sub [0, 1, 2, 3, 4, 5] (by decide) rfl⟩, hS.F ht⟩) hS.2.2 dR_walkType_44
  exact lp_12 ((17 - 0) + 1) 0 (by omega) (fun j hj => absurd hj (Nat.not_lt_zero j)) (Nat.lt_succ_self _) _ _ _ (lv_sub hl [1, 0] rfl) (hP.sub [0, 1, 2, 3, 4, 5] rfl) (hD.sub [0, 1, 2, 3, 4, 5] (by decide) rfl) hS
def rm_c_walkType_no1 : Room := ({ frames := 4, cells := 0, slots := 0, locals := 88 } : Room)
set_option maxHeartbeats 4000000 in
set_option maxRecDepth 100000 in
theorem c_walkType_no1 (l : Launch) (dC : Nat → ClassId) (dI : Nat → Nat → Nat) (r0 : Nat) (f0 : Nat) (fk : Nat) (fp : Int32) (t0 : Nat) (nx : Nat) (lnb : Nat) (t1 : Nat) (len : Nat) (cI : ClassId) (cB : ClassId) (tp : Nat → Nat) (k2 : Nat) (p2 : Nat) (hln : len ≤ 400) (hnl : nx ≤ len) (htp : ∀ j, tp j < 256) (hd : dgF tp len nx 4 = some (k2, p2)) (sz : Nat) : Met l yR_walkType wsR_walkType rm_c_walkType_no1 (zM (dC, dI) [(cI, .int), (cB, .byte)] [.ref r0] [(r0, .inr (1, [.ref f0, .int (nI fk), .int fp, .ref t0, .int (nI nx), .int (nI lnb)])), (t0, .inr (2, [.ref t1, .int (nI len)])), (t1, .inl (cB, 400, .inl (aB tp)))] sz) (zMi (dC, dI) [(r0, .inr (1, [.ref f0, .int (nI fk), .int fp, .ref t0, .int (nI nx), .int (nI lnb)])), (t0, .inr (2, [.ref t1, .int (nI len)])), (t1, .inl (cB, 400, .inl (aB tp)))] [(r0, .inr (1, [.ref f0, .int (nI k2), .int (nI p2), .ref t0, .int (nI nx), .int (nI lnb)])), (t0, .inr (2, [.ref t1, .int (nI len)])), (t1, .inl (cB, 400, .inl (aB tp)))] sz (fun r => r = nI 0)) 0 0 (va_A [(r0, .inr (1, [.ref f0, .int (nI fk), .int fp, .ref t0, .int (nI nx), .int (nI lnb)])), (t0, .inr (2, [.ref t1, .int (nI len)])), (t1, .inl (cB, 400, .inl (aB tp)))] sz) := by
  refine Met.ofW (cc := cR_walkType) (maxL := 2) (ret := (some .boolean)) (by decide) rfl ?_
  intro p e s m args below meth c s₁ Bd hml hv
  obtain ⟨rfl, hsz, hG, hP, hK, hD0⟩ := hv
  subst hsz
  have hx := Bd.exec
  have hb := Bd.bytes
  have hr := Bd.returns
  have hts := atoms_spec (ws := wsR_walkType) Bd.pre
  have hw : ∀ w ∈ BIG, w.before _ s = true := fun w h => hts w (List.mem_cons_of_mem _ h)
  have hown : s.vm.findClass RR = some m.cls := findClass_of_methodNamed Bd.named
  have hlocks := Bd.notSynchronized
  have hD := hD0.self (sz := s.heap.size)
  obtain ⟨A, hAe⟩ : ∃ A, A = va_A [(r0, .inr (1, [.ref f0, .int (nI fk), .int fp, .ref t0, .int (nI nx), .int (nI lnb)])), (t0, .inr (2, [.ref t1, .int (nI len)])), (t1, .inl (cB, 400, .inl (aB tp)))] s.heap.size := ⟨_, rfl⟩
  have hA : ∀ q : Nat, s.heap.size ≤ q → A q := fun q h => by rw [hAe]; exact Or.inr h
  rw [← hAe] at hG hD
  have hS : va_S A s.heap s.heap [] := va_S.rf
  have hl := lv_entry ([.ref r0]) (n := 2) (Nat.le_of_ble_eq_true rfl)
  rw [lg_entry_eq]
  generalize (lg_sl ([.ref r0]) ++ List.replicate (2 - (lg_sl ([.ref r0])).length) Slot.unset).toArray = ls at hl ⊢
  have hl : lv_has ls 2 [(0, .ref r0)] := hl
  refine zq_name (fun Q hQ => ?_)
  change W p l e rm_c_walkType_no1 s m _ below meth c _ _ _ _ Q _
  obtain ⟨tfTY, zfTY, afTY⟩ := hG.TYPES
  refine lv_aload_n hx hb dR_walkType_0 rfl (lv_at hl 0 rfl) ?_
  refine lv_iconst (v := nI 4) hx hb dR_walkType_1 (by decide) ?_
  have hPc := hP.sub (ws' := [(r0, .inr (1, [.ref f0, .int (nI fk), .int fp, .ref t0, .int (nI nx), .int (nI lnb)])), (t0, .inr (2, [.ref t1, .int (nI len)])), (t1, .inl (cB, 400, .inl (aB tp)))]) [0, 1, 2] rfl
  have hDc := hD.sub (ws' := [(r0, .inr (1, [.ref f0, .int (nI fk), .int fp, .ref t0, .int (nI nx), .int (nI lnb)])), (t0, .inr (2, [.ref t1, .int (nI len)])), (t1, .inl (cB, 400, .inl (aB tp)))]) [0, 1, 2] (by decide) rfl
  have hFc := va_free (wc := [(r0, .inr (1, [.ref f0, .int (nI fk), .int fp, .ref t0, .int (nI nx), .int (nI lnb)])), (t0, .inr (2, [.ref t1, .int (nI len)])), (t1, .inl (cB, 400, .inl (aB tp)))]) hD hS hA [0, 1, 2] rfl
  refine zc_Mi (va_runV (As := [.int (nI 4)]) (rest := []) ⟨hx, hb, hml, hown, hw⟩ (c_walkNumber_no l dC dI r0 f0 fk fp t0 nx lnb t1 len cI cB tp 4 k2 p2 (by omega) (by omega) htp (by omega) hd s.heap.size) (cwV 1 hw (gV w_ml_R_69 w_im_R_walkNumber w_se_R_walkNumber w_in_R w_co_R_walkNumber) rfl rfl rfl (by decide +kernel) ⟨Nat.le_of_ble_eq_true rfl, Nat.le_of_ble_eq_true rfl⟩) (zM_V hG hS hFc hPc hDc hK 0 rfl rfl) rfl rfl hl.1 rfl (lv_room (Nat.le_of_ble_eq_true rfl)) dR_walkType_2 ⟨Nat.le_of_ble_eq_true rfl, Nat.le_of_ble_eq_true rfl⟩) hS hFc (fun r_1 H locs h_2 hP1 hD1 hk1 hS => ?_)
  obtain ⟨hP, hD⟩ := va_join (wr := []) (w1 := [(r0, .inr (1, [.ref f0, .int (nI k2), .int (nI p2), .ref t0, .int (nI nx), .int (nI lnb)])), (t0, .inr (2, [.ref t1, .int (nI len)])), (t1, .inl (cB, 400, .inl (aB tp)))]) hP hD [0, 1, 2] [] rfl rfl (by decide) (by decide) hk1 hFc hP1 hD1
  have hP : va_P (dC, dI) vwCl [(r0, .inr (1, [.ref f0, .int (nI k2), .int (nI p2), .ref t0, .int (nI nx), .int (nI lnb)])), (t0, .inr (2, [.ref t1, .int (nI len)])), (t1, .inl (cB, 400, .inl (aB tp)))] H := hP
  have hD : va_D A [(r0, .inr (1, [.ref f0, .int (nI k2), .int (nI p2), .ref t0, .int (nI nx), .int (nI lnb)])), (t0, .inr (2, [.ref t1, .int (nI len)])), (t1, .inl (cB, 400, .inl (aB tp)))] := hD
  subst h_2
  refine lv_if_ne (tgt := 10) hx hb dR_walkType_5 (by decide) (fun q => False.elim (absurd q (by decide))) (fun c_5 => ?_)
  refine lv_iconst (v := nI 0) hx hb dR_walkType_8 (by decide) ?_
  subst hAe
  subst hQ
  exact W.zret (v := nI 0) hx hb hr (by decide) (fun t ht hW => ⟨⟨nI 0, (), rfl, rfl, by rw [ht]; exact hP.sub [0, 1, 2] rfl, hD.sub [0, 1, 2] (by decide) rfl⟩, hS.F ht⟩) hS.2.2 dR_walkType_9
def rm_c_walkType_no2 : Room := ({ frames := 4, cells := 0, slots := 0, locals := 88 } : Room)
set_option maxHeartbeats 4000000 in
set_option maxRecDepth 100000 in
theorem c_walkType_no2 (l : Launch) (dC : Nat → ClassId) (dI : Nat → Nat → Nat) (r0 : Nat) (f0 : Nat) (fk : Nat) (fp : Int32) (t0 : Nat) (nx : Nat) (lnb : Nat) (t1 : Nat) (len : Nat) (cI : ClassId) (cB : ClassId) (tp : Nat → Nat) (hln : len ≤ 400) (hnl : nx ≤ len) (htp : ∀ j, tp j < 256) (hd : dgF tp len nx 4 = none) (hty : ∀ i, i < 17 → fTY i ≠ nmA tp nx 4 4 0 0) (sz : Nat) : Met l yR_walkType wsR_walkType rm_c_walkType_no2 (zM (dC, dI) [(cI, .int), (cB, .byte)] [.ref r0] [(r0, .inr (1, [.ref f0, .int (nI fk), .int fp, .ref t0, .int (nI nx), .int (nI lnb)])), (t0, .inr (2, [.ref t1, .int (nI len)])), (t1, .inl (cB, 400, .inl (aB tp)))] sz) (zMi (dC, dI) [(r0, .inr (1, [.ref f0, .int (nI fk), .int fp, .ref t0, .int (nI nx), .int (nI lnb)])), (t0, .inr (2, [.ref t1, .int (nI len)])), (t1, .inl (cB, 400, .inl (aB tp)))] [(r0, .inr (1, [.ref f0, .int (nI 3), .int (nI 0), .ref t0, .int (nI (nx + 2)), .int (nI (nmA tp nx 4 4 0 0))])), (t0, .inr (2, [.ref t1, .int (nI len)])), (t1, .inl (cB, 400, .inl (aB tp)))] sz (fun r => r = nI 0)) 0 0 (va_A [(r0, .inr (1, [.ref f0, .int (nI fk), .int fp, .ref t0, .int (nI nx), .int (nI lnb)])), (t0, .inr (2, [.ref t1, .int (nI len)])), (t1, .inl (cB, 400, .inl (aB tp)))] sz) := by
  refine Met.ofW (cc := cR_walkType) (maxL := 2) (ret := (some .boolean)) (by decide) rfl ?_
  intro p e s m args below meth c s₁ Bd hml hv
  obtain ⟨rfl, hsz, hG, hP, hK, hD0⟩ := hv
  subst hsz
  have hx := Bd.exec
  have hb := Bd.bytes
  have hr := Bd.returns
  have hts := atoms_spec (ws := wsR_walkType) Bd.pre
  have hw : ∀ w ∈ BIG, w.before _ s = true := fun w h => hts w (List.mem_cons_of_mem _ h)
  have hown : s.vm.findClass RR = some m.cls := findClass_of_methodNamed Bd.named
  have hlocks := Bd.notSynchronized
  have hD := hD0.self (sz := s.heap.size)
  obtain ⟨A, hAe⟩ : ∃ A, A = va_A [(r0, .inr (1, [.ref f0, .int (nI fk), .int fp, .ref t0, .int (nI nx), .int (nI lnb)])), (t0, .inr (2, [.ref t1, .int (nI len)])), (t1, .inl (cB, 400, .inl (aB tp)))] s.heap.size := ⟨_, rfl⟩
  have hA : ∀ q : Nat, s.heap.size ≤ q → A q := fun q h => by rw [hAe]; exact Or.inr h
  rw [← hAe] at hG hD
  have hS : va_S A s.heap s.heap [] := va_S.rf
  have hl := lv_entry ([.ref r0]) (n := 2) (Nat.le_of_ble_eq_true rfl)
  rw [lg_entry_eq]
  generalize (lg_sl ([.ref r0]) ++ List.replicate (2 - (lg_sl ([.ref r0])).length) Slot.unset).toArray = ls at hl ⊢
  have hl : lv_has ls 2 [(0, .ref r0)] := hl
  refine zq_name (fun Q hQ => ?_)
  change W p l e rm_c_walkType_no2 s m _ below meth c _ _ _ _ Q _
  obtain ⟨tfTY, zfTY, afTY⟩ := hG.TYPES
  have hnb : nmA tp nx 4 4 0 0 < 65536 := nmA_b htp (by decide)
  refine lv_aload_n hx hb dR_walkType_0 rfl (lv_at hl 0 rfl) ?_
  refine lv_iconst (v := nI 4) hx hb dR_walkType_1 (by decide) ?_
  have hPc := hP.sub (ws' := [(r0, .inr (1, [.ref f0, .int (nI fk), .int fp, .ref t0, .int (nI nx), .int (nI lnb)])), (t0, .inr (2, [.ref t1, .int (nI len)])), (t1, .inl (cB, 400, .inl (aB tp)))]) [0, 1, 2] rfl
  have hDc := hD.sub (ws' := [(r0, .inr (1, [.ref f0, .int (nI fk), .int fp, .ref t0, .int (nI nx), .int (nI lnb)])), (t0, .inr (2, [.ref t1, .int (nI len)])), (t1, .inl (cB, 400, .inl (aB tp)))]) [0, 1, 2] (by decide) rfl
  have hFc := va_free (wc := [(r0, .inr (1, [.ref f0, .int (nI fk), .int fp, .ref t0, .int (nI nx), .int (nI lnb)])), (t0, .inr (2, [.ref t1, .int (nI len)])), (t1, .inl (cB, 400, .inl (aB tp)))]) hD hS hA [0, 1, 2] rfl
  refine zc_Mi (va_runV (As := [.int (nI 4)]) (rest := []) ⟨hx, hb, hml, hown, hw⟩ (c_walkNumber_ok l dC dI r0 f0 fk fp t0 nx lnb t1 len cI cB tp 4 (by omega) (by omega) htp (by omega) hd s.heap.size) (cwV 1 hw (gV w_ml_R_69 w_im_R_walkNumber w_se_R_walkNumber w_in_R w_co_R_walkNumber) rfl rfl rfl (by decide +kernel) ⟨Nat.le_of_ble_eq_true rfl, Nat.le_of_ble_eq_true rfl⟩) (zM_V hG hS hFc hPc hDc hK 0 rfl rfl) rfl rfl hl.1 rfl (lv_room (Nat.le_of_ble_eq_true rfl)) dR_walkType_2 ⟨Nat.le_of_ble_eq_true rfl, Nat.le_of_ble_eq_true rfl⟩) hS hFc (fun r_1 H locs h_2 hP1 hD1 hk1 hS => ?_)
  obtain ⟨hP, hD⟩ := va_join (wr := []) (w1 := [(r0, .inr (1, [.ref f0, .int (nI fk), .int fp, .ref t0, .int (nI (nx + (4 + 1) / 2)), .int (nI (nmA tp nx 4 4 0 0))])), (t0, .inr (2, [.ref t1, .int (nI len)])), (t1, .inl (cB, 400, .inl (aB tp)))]) hP hD [0, 1, 2] [] rfl rfl (by decide) (by decide) hk1 hFc hP1 hD1
  have hP : va_P (dC, dI) vwCl [(r0, .inr (1, [.ref f0, .int (nI fk), .int fp, .ref t0, .int (nI (nx + (4 + 1) / 2)), .int (nI (nmA tp nx 4 4 0 0))])), (t0, .inr (2, [.ref t1, .int (nI len)])), (t1, .inl (cB, 400, .inl (aB tp)))] H := hP
  have hD : va_D A [(r0, .inr (1, [.ref f0, .int (nI fk), .int fp, .ref t0, .int (nI (nx + (4 + 1) / 2)), .int (nI (nmA tp nx 4 4 0 0))])), (t0, .inr (2, [.ref t1, .int (nI len)])), (t1, .inl (cB, 400, .inl (aB tp)))] := hD
  subst h_2
  refine lv_if_ne (tgt := 10) hx hb dR_walkType_5 (by decide) (fun c_5 => ?_) (fun q => False.elim (absurd q (by decide)))
  refine lv_iconst (v := nI 0) hx hb dR_walkType_10 (by decide) ?_
  refine lv_istore_n (lv' := [(1, .int (nI 0)), (0, .ref r0)]) hx hb dR_walkType_11 rfl hl (by decide) rfl (fun ls hl => ?_)
  have lp_12 : ∀ (fu : Nat) (i : Nat) (hi : i ≤ 17) (hj : ∀ j, j < i → fTY j ≠ nmA tp nx 4 4 0 0) (hms : 17 - i < fu) (H : Heap) (locs : List Loc) (ls : Array Slot), lv_has ls 2 [(0, .ref r0), (1, .int (nI i))] → va_P (dC, dI) vwCl [(r0, .inr (1, [.ref f0, .int (nI fk), .int fp, .ref t0, .int (nI (nx + (4 + 1) / 2)), .int (nI (nmA tp nx 4 4 0 0))])), (t0, .inr (2, [.ref t1, .int (nI len)])), (t1, .inl (cB, 400, .inl (aB tp)))] H → va_D A [(r0, .inr (1, [.ref f0, .int (nI fk), .int fp, .ref t0, .int (nI (nx + (4 + 1) / 2)), .int (nI (nmA tp nx 4 4 0 0))])), (t0, .inr (2, [.ref t1, .int (nI len)])), (t1, .inl (cB, 400, .inl (aB tp)))] → va_S A s.heap H locs → W p l e rm_c_walkType_no2 s m ([.ref r0] : List Value).toArray below meth c H locs 0 0 Q (F0 m 12 ls []) := by
    intro fu
    induction fu with
    | zero => intro i hi hj hms; exact absurd hms (Nat.not_lt_zero _)
    | succ fu ih12 =>
      intro i hi hj hms H locs ls hl hP hD hS
      refine lv_iload_n hx hb dR_walkType_12 rfl (lv_at hl 1 rfl) ?_
      refine va_getsN hx hb zfTY hS hown (va_Nw.use rfl (hG.nf (RR, 72, "TYPES") (List.mem_of_getElem? (i := 5) rfl))) (fun _ h9 => h9) dR_walkType_13 ?_
      refine va_tlen (v := nI 17) hx hb afTY hS rfl dR_walkType_16 ?_
      refine zi_ge (tgt := 51) hx hb (by omega) (by omega) dR_walkType_17 (by decide) (fun c_17 => ?_) (fun c_17 => ?_)
      · refine lv_aload_n hx hb dR_walkType_51 rfl (lv_at hl 0 rfl) ?_
        refine lv_iconst (v := nI 3) hx hb dR_walkType_52 (by decide) ?_
        refine lv_iconst (v := nI 0) hx hb dR_walkType_53 (by decide) ?_
        have hPc := hP.sub (ws' := [(r0, .inr (1, [.ref f0, .int (nI fk), .int fp, .ref t0, .int (nI (nx + (4 + 1) / 2)), .int (nI (nmA tp nx 4 4 0 0))]))]) [0] rfl
        have hDc := hD.sub (ws' := [(r0, .inr (1, [.ref f0, .int (nI fk), .int fp, .ref t0, .int (nI (nx + (4 + 1) / 2)), .int (nI (nmA tp nx 4 4 0 0))]))]) [0] (by decide) rfl
        have hFc := va_free (wc := [(r0, .inr (1, [.ref f0, .int (nI fk), .int fp, .ref t0, .int (nI (nx + (4 + 1) / 2)), .int (nI (nmA tp nx 4 4 0 0))]))]) hD hS hA [0] rfl
        refine zc_Mi (va_runV (As := [.int (nI 3), .int (nI 0)]) (rest := []) ⟨hx, hb, hml, hown, hw⟩ (c_R_fail l dC dI r0 f0 fk fp t0 (nx + (4 + 1) / 2) (nmA tp nx 4 4 0 0) cI cB 3 (nI 0) H.size) (cwV 2 hw (gV w_ml_R_65 w_im_R_fail w_se_R_fail w_in_R w_co_R_fail) rfl rfl rfl (by decide +kernel) ⟨Nat.le_of_ble_eq_true rfl, Nat.le_of_ble_eq_true rfl⟩) (zM_V hG hS hFc hPc hDc hK 0 rfl rfl) rfl rfl hl.1 rfl (lv_room (Nat.le_of_ble_eq_true rfl)) dR_walkType_54 ⟨Nat.le_of_ble_eq_true rfl, Nat.le_of_ble_eq_true rfl⟩) hS hFc (fun r_2 H locs h_54 hP1 hD1 hk1 hS => ?_)
        obtain ⟨hP, hD⟩ := va_join (wr := [(t0, .inr (2, [.ref t1, .int (nI len)])), (t1, .inl (cB, 400, .inl (aB tp)))]) (w1 := [(r0, .inr (1, [.ref f0, .int (nI 3), .int (nI 0), .ref t0, .int (nI (nx + (4 + 1) / 2)), .int (nI (nmA tp nx 4 4 0 0))]))]) hP hD [0] [1, 2] rfl rfl (by decide) (by decide) hk1 hFc hP1 hD1
        have hP : va_P (dC, dI) vwCl [(t0, .inr (2, [.ref t1, .int (nI len)])), (t1, .inl (cB, 400, .inl (aB tp))), (r0, .inr (1, [.ref f0, .int (nI 3), .int (nI 0), .ref t0, .int (nI (nx + (4 + 1) / 2)), .int (nI (nmA tp nx 4 4 0 0))]))] H := hP
        have hD : va_D A [(t0, .inr (2, [.ref t1, .int (nI len)])), (t1, .inl (cB, 400, .inl (aB tp))), (r0, .inr (1, [.ref f0, .int (nI 3), .int (nI 0), .ref t0, .int (nI (nx + (4 + 1) / 2)), .int (nI (nmA tp nx 4 4 0 0))]))] := hD
        subst h_54
        subst hAe
        subst hQ
        exact W.zret (v := nI 0) hx hb hr (by decide) (fun t ht hW => ⟨⟨nI 0, (), rfl, rfl, by rw [ht]; exact hP.sub [2, 0, 1] rfl, hD.sub [2, 0, 1] (by decide) rfl⟩, hS.F ht⟩) hS.2.2 dR_walkType_57
      · have hty9 := fTY_b i (by omega)
        refine va_getsN hx hb zfTY hS hown (va_Nw.use rfl (hG.nf (RR, 72, "TYPES") (List.mem_of_getElem? (i := 5) rfl))) (fun _ h9 => h9) dR_walkType_20 ?_
        refine lv_iload_n hx hb dR_walkType_23 rfl (lv_at hl 1 rfl) ?_
        refine za_tab hx hb afTY hS (by omega) (by decide) dR_walkType_24 ?_
        refine lv_aload_n hx hb dR_walkType_25 rfl (lv_at hl 0 rfl) ?_
        refine va_get (D := (dC, dI)) (ci := 1) (v := .int (nI (nmA tp nx 4 4 0 0))) (C := RR) (T := TR) (N := 6) hx hb hw inR hown hK hP 0 rfl rfl 5 (by decide) (hw _ w_fl_R_28) (fun _ h9 => h9) rfl dR_walkType_26 ?_
        refine zi_ne (tgt := 45) hx hb (by omega) (by omega) dR_walkType_29 (by decide) (fun c_29 => ?_) (fun q => False.elim ((hty i (by omega) q)))
        refine lv_iinc (v := nI (i + 1)) (lv' := [(1, .int (nI (i + 1))), (0, .ref r0)]) hx hb dR_walkType_45 hl (k := 1) rfl (zi_incr i 1) (by decide) rfl (fun ls hl => ?_)
        refine lv_goto (tgt := 12) hx hb dR_walkType_48 (by decide) ?_
        exact ih12 (i + 1) (by omega) (lt_s hj c_29) (by omega) _ _ _ (lv_sub hl [1, 0] rfl) (hP.sub [0, 1, 2] rfl) (hD.sub [0, 1, 2] (by decide) rfl) hS
  exact lp_12 ((17 - 0) + 1) 0 (by omega) (fun j hj => absurd hj (Nat.not_lt_zero j)) (Nat.lt_succ_self _) _ _ _ (lv_sub hl [1, 0] rfl) (hP.sub [0, 1, 2] rfl) (hD.sub [0, 1, 2] (by decide) rfl) hS
def rm_c_hasBit_ok : Room := ({ frames := 1, cells := 0, slots := 0, locals := 21 } : Room)
set_option maxHeartbeats 4000000 in
set_option maxRecDepth 100000 in
theorem c_hasBit_ok (l : Launch) (dC : Nat → ClassId) (dI : Nat → Nat → Nat) (r0 : Nat) (f0 : Nat) (fk : Nat) (fp : Int32) (t0 : Nat) (nx : Nat) (lnb : Nat) (t1 : Nat) (len : Nat) (cI : ClassId) (cB : ClassId) (tp : Nat → Nat) (a : Nat) (htp : ∀ j, tp j < 256) (ha : a + 8 ≤ 400) (hd : anyB tp 8 a = true) (Hc : Heap) : Met l yR_hasBit wsR_hasBit rm_c_hasBit_ok (zR (dC, dI) [(cI, .int), (cB, .byte)] [.ref r0, .int (nI a)] [(r0, .inr (1, [.ref f0, .int (nI fk), .int fp, .ref t0, .int (nI nx), .int (nI lnb)])), (t0, .inr (2, [.ref t1, .int (nI len)])), (t1, .inl (cB, 400, .inl (aB tp)))] Hc) (zRi Hc (fun r => r = nI 1)) 0 0 zNo := by
  refine Met.ofW (cc := cR_hasBit) (maxL := 3) (ret := (some .boolean)) (by decide) rfl ?_
  intro p e s m args below meth c s₁ Bd hml hv
  obtain ⟨rfl, hH, hG, hP, hK⟩ := hv
  subst hH
  have hx := Bd.exec
  have hb := Bd.bytes
  have hr := Bd.returns
  have hts := atoms_spec (ws := wsR_hasBit) Bd.pre
  have hw : ∀ w ∈ BIG, w.before _ s = true := fun w h => hts w (List.mem_cons_of_mem _ h)
  have hown : s.vm.findClass RR = some m.cls := findClass_of_methodNamed Bd.named
  have hlocks := Bd.notSynchronized
  have hS : va_S zNo s.heap s.heap [] := va_S.rf
  have hl := lv_entry ([.ref r0, .int (nI a)]) (n := 3) (Nat.le_of_ble_eq_true rfl)
  rw [lg_entry_eq]
  generalize (lg_sl ([.ref r0, .int (nI a)]) ++ List.replicate (3 - (lg_sl ([.ref r0, .int (nI a)])).length) Slot.unset).toArray = ls at hl ⊢
  have hl : lv_has ls 3 [(0, .ref r0), (1, .int (nI a))] := hl
  refine zq_name (fun Q hQ => ?_)
  change W p l e rm_c_hasBit_ok s m _ below meth c _ _ _ _ Q _
  refine lv_iload_n hx hb dR_hasBit_0 rfl (lv_at hl 1 rfl) ?_
  refine lv_istore_n (lv' := [(2, .int (nI a)), (0, .ref r0), (1, .int (nI a))]) hx hb dR_hasBit_1 rfl hl (by decide) rfl (fun ls hl => ?_)
  have lp_2 : ∀ (fu : Nat) (j : Nat) (hj : j ≤ 8) (hi : anyB tp (8 - j) (a + j) = true) (hms : 8 - j < fu) (locs : List Loc) (ls : Array Slot), lv_has ls 3 [(0, .ref r0), (1, .int (nI a)), (2, .int (nI (a + j)))] → va_S zNo s.heap s.heap locs → W p l e rm_c_hasBit_ok s m ([.ref r0, .int (nI a)] : List Value).toArray below meth c s.heap locs 0 0 Q (F0 m 2 ls []) := by
    intro fu
    induction fu with
    | zero => intro j hj hi hms; exact absurd hms (Nat.not_lt_zero _)
    | succ fu ih2 =>
      intro j hj hi hms locs ls hl hS
      refine lv_iload_n hx hb dR_hasBit_2 rfl (lv_at hl 2 rfl) ?_
      refine lv_iload_n hx hb dR_hasBit_3 rfl (lv_at hl 1 rfl) ?_
      refine lv_bipush (v := nI 8) hx hb dR_hasBit_4 (by decide) ?_
      refine zi_add hx hb dR_hasBit_6 ?_
      refine zi_ge (tgt := 29) hx hb (by omega) (by omega) dR_hasBit_7 (by decide) (fun q => False.elim ((by have h9 := hi; rw [show 8 - j = 0 by omega] at h9; cases h9))) (fun c_7 => ?_)
      have ht9 := htp (a + j)
      refine lv_aload_n hx hb dR_hasBit_10 rfl (lv_at hl 0 rfl) ?_
      refine va_get (D := (dC, dI)) (ci := 1) (v := .ref t0) (C := RR) (T := TR) (N := 6) hx hb hw inR hown hK hP 0 rfl rfl 3 (by decide) (hw _ w_fl_R_31) (fun _ h9 => h9) rfl dR_hasBit_11 ?_
      refine lv_iload_n hx hb dR_hasBit_14 rfl (lv_at hl 2 rfl) ?_
      refine zc_Ri (va_runV (As := [.int (nI (a + j))]) (rest := []) ⟨hx, hb, hml, hown, hw⟩ (c_T_byteAt l dC dI t0 t1 len cI cB tp (a + j) (by omega) (htp _) s.heap) (cwV 1 hw (gV w_ml_R_50 w_im_T_byteAt w_se_T_byteAt w_in_T w_co_T_byteAt) rfl rfl rfl (by decide +kernel) ⟨Nat.le_of_ble_eq_true rfl, Nat.le_of_ble_eq_true rfl⟩) (zR_V hG hS (hP.sub (ws' := [(t0, .inr (2, [.ref t1, .int (nI len)])), (t1, .inl (cB, 400, .inl (aB tp)))]) [1, 2] rfl) hK 0 rfl rfl) rfl rfl hl.1 rfl (lv_room (Nat.le_of_ble_eq_true rfl)) dR_hasBit_15 ⟨Nat.le_of_ble_eq_true rfl, Nat.le_of_ble_eq_true rfl⟩) hS (fun r_1 locs h_15 hS => ?_)
      subst h_15
      refine zi_eq0 (tgt := 23) hx hb (by omega) dR_hasBit_18 (by decide) (fun c_18 => ?_) (fun c_18 => ?_)
      · refine lv_iinc (v := nI ((a + j) + 1)) (lv' := [(2, .int (nI ((a + j) + 1))), (0, .ref r0), (1, .int (nI a))]) hx hb dR_hasBit_23 hl (k := 2) rfl (zi_incr (a + j) 1) (by decide) rfl (fun ls hl => ?_)
        refine lv_goto (tgt := 2) hx hb dR_hasBit_26 (by decide) ?_
        exact ih2 (j + 1) (by omega) (by have h9 := hi; rw [show 8 - j = 8 - (j + 1) + 1 by omega] at h9; unfold anyB at h9; rw [if_pos c_18] at h9; exact h9) (by omega) _ _ (lv_sub hl [1, 2, 0] rfl) hS
      · refine lv_iconst (v := nI 1) hx hb dR_hasBit_21 (by decide) ?_
        subst hQ
        exact W.zret (v := nI 1) hx hb hr (by decide) (fun t ht hW => ⟨⟨nI 1, (), rfl, rfl, ht⟩, hS.F ht⟩) hS.2.2 dR_hasBit_22
  exact lp_2 ((8 - 0) + 1) 0 (by omega) hd (Nat.lt_succ_self _) _ _ (lv_sub hl [1, 2, 0] rfl) hS
def rm_c_hasBit_no : Room := ({ frames := 1, cells := 0, slots := 0, locals := 21 } : Room)
set_option maxHeartbeats 4000000 in
set_option maxRecDepth 100000 in
theorem c_hasBit_no (l : Launch) (dC : Nat → ClassId) (dI : Nat → Nat → Nat) (r0 : Nat) (f0 : Nat) (fk : Nat) (fp : Int32) (t0 : Nat) (nx : Nat) (lnb : Nat) (t1 : Nat) (len : Nat) (cI : ClassId) (cB : ClassId) (tp : Nat → Nat) (a : Nat) (htp : ∀ j, tp j < 256) (ha : a + 8 ≤ 400) (hd : anyB tp 8 a = false) (Hc : Heap) : Met l yR_hasBit wsR_hasBit rm_c_hasBit_no (zR (dC, dI) [(cI, .int), (cB, .byte)] [.ref r0, .int (nI a)] [(r0, .inr (1, [.ref f0, .int (nI fk), .int fp, .ref t0, .int (nI nx), .int (nI lnb)])), (t0, .inr (2, [.ref t1, .int (nI len)])), (t1, .inl (cB, 400, .inl (aB tp)))] Hc) (zRi Hc (fun r => r = nI 0)) 0 0 zNo := by
  refine Met.ofW (cc := cR_hasBit) (maxL := 3) (ret := (some .boolean)) (by decide) rfl ?_
  intro p e s m args below meth c s₁ Bd hml hv
  obtain ⟨rfl, hH, hG, hP, hK⟩ := hv
  subst hH
  have hx := Bd.exec
  have hb := Bd.bytes
  have hr := Bd.returns
  have hts := atoms_spec (ws := wsR_hasBit) Bd.pre
  have hw : ∀ w ∈ BIG, w.before _ s = true := fun w h => hts w (List.mem_cons_of_mem _ h)
  have hown : s.vm.findClass RR = some m.cls := findClass_of_methodNamed Bd.named
  have hlocks := Bd.notSynchronized
  have hS : va_S zNo s.heap s.heap [] := va_S.rf
  have hl := lv_entry ([.ref r0, .int (nI a)]) (n := 3) (Nat.le_of_ble_eq_true rfl)
  rw [lg_entry_eq]
  generalize (lg_sl ([.ref r0, .int (nI a)]) ++ List.replicate (3 - (lg_sl ([.ref r0, .int (nI a)])).length) Slot.unset).toArray = ls at hl ⊢
  have hl : lv_has ls 3 [(0, .ref r0), (1, .int (nI a))] := hl
  refine zq_name (fun Q hQ => ?_)
  change W p l e rm_c_hasBit_no s m _ below meth c _ _ _ _ Q _
  refine lv_iload_n hx hb dR_hasBit_0 rfl (lv_at hl 1 rfl) ?_
  refine lv_istore_n (lv' := [(2, .int (nI a)), (0, .ref r0), (1, .int (nI a))]) hx hb dR_hasBit_1 rfl hl (by decide) rfl (fun ls hl => ?_)
  have lp_2 : ∀ (fu : Nat) (j : Nat) (hj : j ≤ 8) (hi : anyB tp (8 - j) (a + j) = false) (hms : 8 - j < fu) (locs : List Loc) (ls : Array Slot), lv_has ls 3 [(0, .ref r0), (1, .int (nI a)), (2, .int (nI (a + j)))] → va_S zNo s.heap s.heap locs → W p l e rm_c_hasBit_no s m ([.ref r0, .int (nI a)] : List Value).toArray below meth c s.heap locs 0 0 Q (F0 m 2 ls []) := by
    intro fu
    induction fu with
    | zero => intro j hj hi hms; exact absurd hms (Nat.not_lt_zero _)
    | succ fu ih2 =>
      intro j hj hi hms locs ls hl hS
      refine lv_iload_n hx hb dR_hasBit_2 rfl (lv_at hl 2 rfl) ?_
      refine lv_iload_n hx hb dR_hasBit_3 rfl (lv_at hl 1 rfl) ?_
      refine lv_bipush (v := nI 8) hx hb dR_hasBit_4 (by decide) ?_
      refine zi_add hx hb dR_hasBit_6 ?_
      refine zi_ge (tgt := 29) hx hb (by omega) (by omega) dR_hasBit_7 (by decide) (fun c_7 => ?_) (fun c_7 => ?_)
      · refine lv_iconst (v := nI 0) hx hb dR_hasBit_29 (by decide) ?_
        subst hQ
        exact W.zret (v := nI 0) hx hb hr (by decide) (fun t ht hW => ⟨⟨nI 0, (), rfl, rfl, ht⟩, hS.F ht⟩) hS.2.2 dR_hasBit_30
      · have ht9 := htp (a + j)
        refine lv_aload_n hx hb dR_hasBit_10 rfl (lv_at hl 0 rfl) ?_
        refine va_get (D := (dC, dI)) (ci := 1) (v := .ref t0) (C := RR) (T := TR) (N := 6) hx hb hw inR hown hK hP 0 rfl rfl 3 (by decide) (hw _ w_fl_R_31) (fun _ h9 => h9) rfl dR_hasBit_11 ?_
        refine lv_iload_n hx hb dR_hasBit_14 rfl (lv_at hl 2 rfl) ?_
        refine zc_Ri (va_runV (As := [.int (nI (a + j))]) (rest := []) ⟨hx, hb, hml, hown, hw⟩ (c_T_byteAt l dC dI t0 t1 len cI cB tp (a + j) (by omega) (htp _) s.heap) (cwV 1 hw (gV w_ml_R_50 w_im_T_byteAt w_se_T_byteAt w_in_T w_co_T_byteAt) rfl rfl rfl (by decide +kernel) ⟨Nat.le_of_ble_eq_true rfl, Nat.le_of_ble_eq_true rfl⟩) (zR_V hG hS (hP.sub (ws' := [(t0, .inr (2, [.ref t1, .int (nI len)])), (t1, .inl (cB, 400, .inl (aB tp)))]) [1, 2] rfl) hK 0 rfl rfl) rfl rfl hl.1 rfl (lv_room (Nat.le_of_ble_eq_true rfl)) dR_hasBit_15 ⟨Nat.le_of_ble_eq_true rfl, Nat.le_of_ble_eq_true rfl⟩) hS (fun r_1 locs h_15 hS => ?_)
        subst h_15
        refine zi_eq0 (tgt := 23) hx hb (by omega) dR_hasBit_18 (by decide) (fun c_18 => ?_) (fun q => False.elim ((by have h9 := hi; rw [show 8 - j = 8 - (j + 1) + 1 by omega] at h9; unfold anyB at h9; rw [if_neg q] at h9; cases h9)))
        refine lv_iinc (v := nI ((a + j) + 1)) (lv' := [(2, .int (nI ((a + j) + 1))), (0, .ref r0), (1, .int (nI a))]) hx hb dR_hasBit_23 hl (k := 2) rfl (zi_incr (a + j) 1) (by decide) rfl (fun ls hl => ?_)
        refine lv_goto (tgt := 2) hx hb dR_hasBit_26 (by decide) ?_
        exact ih2 (j + 1) (by omega) (by have h9 := hi; rw [show 8 - j = 8 - (j + 1) + 1 by omega] at h9; unfold anyB at h9; rw [if_pos c_18] at h9; exact h9) (by omega) _ _ (lv_sub hl [1, 2, 0] rfl) hS
  exact lp_2 ((8 - 0) + 1) 0 (by omega) hd (Nat.lt_succ_self _) _ _ (lv_sub hl [1, 2, 0] rfl) hS
end
section
theorem mapsF_ok {tp : Nat → Nat} {len a : Nat} (h : mapsF tp len a = none) : a + 8 ≤ len ∧ ((tp a < 128 ∧ mpL tp a 8 0 = none) ∨ (¬ tp a < 128 ∧ a + 16 ≤ len ∧ mpL tp a 16 0 = none ∧ anyB tp 8 (a + 8) = true)) := by
  unfold mapsF at h
  split at h
  · cases h
  · rename_i q1
    split at h
    · rename_i q2; exact ⟨by omega, Or.inl ⟨q2, h⟩⟩
    · rename_i q2
      split at h
      · cases h
      · rename_i q3
        split at h
        · cases h
        · rename_i q4
          split at h
          · rename_i q5; exact ⟨by omega, Or.inr ⟨q2, by omega, q4, q5⟩⟩
          · cases h
theorem mapsF_no {tp : Nat → Nat} {len a k p : Nat} (h : mapsF tp len a = some (k, p)) :
    (len < a + 8 ∧ 1 = k ∧ len = p) ∨ (a + 8 ≤ len ∧ tp a < 128 ∧ mpL tp a 8 0 = some (k, p)) ∨ (a + 8 ≤ len ∧ ¬ tp a < 128 ∧ len < a + 16 ∧ 1 = k ∧ len = p) ∨
    (¬ tp a < 128 ∧ a + 16 ≤ len ∧ mpL tp a 16 0 = some (k, p)) ∨ (¬ tp a < 128 ∧ a + 16 ≤ len ∧ mpL tp a 16 0 = none ∧ anyB tp 8 (a + 8) = false ∧ 4 = k ∧ a + 8 = p) := by
  unfold mapsF at h
  split at h
  · rename_i q1; cases h; exact Or.inl ⟨q1, rfl, rfl⟩
  · rename_i q1
    split at h
    · rename_i q2; exact Or.inr (Or.inl ⟨by omega, q2, h⟩)
    · rename_i q2
      split at h
      · rename_i q3; cases h; exact Or.inr (Or.inr (Or.inl ⟨by omega, q2, q3, rfl, rfl⟩))
      · rename_i q3
        split at h
        · rename_i q4; cases h; exact Or.inr (Or.inr (Or.inr (Or.inl ⟨q2, by omega, q4⟩)))
        · rename_i q4
          split at h
          · cases h
          · rename_i q5; cases h; exact Or.inr (Or.inr (Or.inr (Or.inr ⟨q2, by omega, q4, Bool.eq_false_iff.mpr q5, rfl, rfl⟩)))
theorem lt_and {a b : Nat} (h : b < 2 ^ 31) : a &&& b < 2 ^ 31 := Nat.lt_of_le_of_lt Nat.and_le_right h
def isTy (t : Nat) : Bool := (List.range 17).any (fun i => fTY i == t)
theorem isTy_t {t : Nat} (h : isTy t = true) : ∃ i, i < 17 ∧ fTY i = t := by
  obtain ⟨i, h1, h2⟩ := List.any_eq_true.mp h
  exact ⟨i, List.mem_range.mp h1, beq_iff_eq.mp h2⟩
theorem isTy_f {t : Nat} (h : isTy t = false) : ∀ i, i < 17 → fTY i ≠ t := fun i h1 h2 => by
  have : isTy t = true := List.any_eq_true.mpr ⟨i, List.mem_range.mpr h1, beq_iff_eq.mpr h2⟩
  rw [h] at this
  cases this
/-- the tape's fault -/
def pF (tp : Nat → Nat) (len : Nat) : Option (Nat × Nat) :=
  match dgF tp len 0 4 with
  | some q => some q
  | none => if isTy (nmA tp 0 4 4 0 0) = true then (match mapsF tp len 2 with
      | some q => some q
      | none => wkF tp len (wid tp 2) 16 0 (2 + wid tp 2)) else some (3, 0)
theorem pF_ok {tp : Nat → Nat} {len : Nat} (h : pF tp len = none) : dgF tp len 0 4 = none ∧ isTy (nmA tp 0 4 4 0 0) = true ∧ mapsF tp len 2 = none ∧ wkF tp len (wid tp 2) 16 0 (2 + wid tp 2) = none := by
  unfold pF at h
  split at h
  · cases h
  · rename_i q1
    split at h
    · rename_i q2
      split at h
      · cases h
      · rename_i q3; exact ⟨q1, q2, q3, h⟩
    · cases h
theorem pF_no {tp : Nat → Nat} {len k p : Nat} (h : pF tp len = some (k, p)) : dgF tp len 0 4 = some (k, p) ∨ (dgF tp len 0 4 = none ∧ isTy (nmA tp 0 4 4 0 0) = false ∧ 3 = k ∧ 0 = p) ∨
    (dgF tp len 0 4 = none ∧ isTy (nmA tp 0 4 4 0 0) = true ∧ mapsF tp len 2 = some (k, p)) ∨ (dgF tp len 0 4 = none ∧ isTy (nmA tp 0 4 4 0 0) = true ∧ mapsF tp len 2 = none ∧ wkF tp len (wid tp 2) 16 0 (2 + wid tp 2) = some (k, p)) := by
  unfold pF at h
  split at h
  · rename_i q1; cases h; exact Or.inl q1
  · rename_i q1
    split at h
    · rename_i q2
      split at h
      · rename_i q3; cases h; exact Or.inr (Or.inr (Or.inl ⟨q1, q2, q3⟩))
      · rename_i q3; exact Or.inr (Or.inr (Or.inr ⟨q1, q2, q3, h⟩))
    · rename_i q2; cases h; exact Or.inr (Or.inl ⟨q1, Bool.eq_false_iff.mpr q2, rfl, rfl⟩)
theorem mapsF_fit {tp : Nat → Nat} {len a : Nat} (h : mapsF tp len a = none) : a + wid tp a ≤ len := by
  obtain ⟨h1, ⟨h2, -⟩ | ⟨h2, h3, -⟩⟩ := mapsF_ok h
  · unfold wid; rw [if_pos h2]; omega
  · unfold wid; rw [if_neg h2]; omega
theorem wid_le (tp : Nat → Nat) (a : Nat) : wid tp a ≤ 16 := by unfold wid; split <;> omega
theorem wkF_in {tp : Nat → Nat} {len w n sl nx : Nat} (h : wkF tp len w (n + 1) sl nx = none) (hp : prs tp w sl = true) : fieldF tp len nx sl = none ∧ wkF tp len w n (sl + 1) (fNx tp nx sl) = none := by
  unfold wkF at h
  rw [if_pos hp] at h
  split at h
  · cases h
  · rename_i q; exact ⟨q, h⟩
theorem wkF_inN {tp : Nat → Nat} {len w n sl nx k p : Nat} (h : wkF tp len w (n + 1) sl nx = some (k, p)) (hp : prs tp w sl = true) : fieldF tp len nx sl = some (k, p) ∨ (fieldF tp len nx sl = none ∧ wkF tp len w n (sl + 1) (fNx tp nx sl) = some (k, p)) := by
  unfold wkF at h
  rw [if_pos hp] at h
  split at h
  · rename_i q; cases h; exact Or.inl q
  · rename_i q; exact Or.inr ⟨q, h⟩
theorem wkF_out {tp : Nat → Nat} {len w n sl nx : Nat} (hp : prs tp w sl = false) : wkF tp len w (n + 1) sl nx = wkF tp len w n (sl + 1) nx := by
  show (if prs tp w sl = true then _ else _) = _
  rw [hp]
  rfl
theorem wkC_in {tp : Nat → Nat} {w n sl nx : Nat} {c9 : Nat → Nat} (hp : prs tp w sl = true) : wkC tp w (n + 1) sl nx c9 = wkC tp w n (sl + 1) (fNx tp nx sl) (nup c9 sl (fCt tp nx sl)) := by
  show (if prs tp w sl = true then _ else _) = _
  rw [if_pos hp]
theorem wkC_out {tp : Nat → Nat} {w n sl nx : Nat} {c9 : Nat → Nat} (hp : prs tp w sl = false) : wkC tp w (n + 1) sl nx c9 = wkC tp w n (sl + 1) nx c9 := by
  show (if prs tp w sl = true then _ else _) = _
  rw [hp]
  rfl
theorem wkM_in {tp : Nat → Nat} {w n sl nx : Nat} {m9 : Nat → Nat} (hp : prs tp w sl = true) : wkM tp w (n + 1) sl nx m9 = wkM tp w n (sl + 1) (fNx tp nx sl) (fMk tp nx sl m9) := by
  show (if prs tp w sl = true then _ else _) = _
  rw [if_pos hp]
theorem wkM_out {tp : Nat → Nat} {w n sl nx : Nat} {m9 : Nat → Nat} (hp : prs tp w sl = false) : wkM tp w (n + 1) sl nx m9 = wkM tp w n (sl + 1) nx m9 := by
  show (if prs tp w sl = true then _ else _) = _
  rw [hp]
  rfl
theorem bit_lt (x : Nat) : 128 / 2 ^ x < 2 ^ 31 := Nat.lt_of_le_of_lt (Nat.div_le_self _ _) (by decide)
end
section
def rm_c_walkMaps_ok : Room := ({ frames := 2, cells := 0, slots := 0, locals := 43 } : Room)
set_option maxHeartbeats 4000000 in
set_option maxRecDepth 100000 in
theorem c_walkMaps_ok (l : Launch) (dC : Nat → ClassId) (dI : Nat → Nat → Nat) (r0 : Nat) (f0 : Nat) (fk : Nat) (fp : Int32) (t0 : Nat) (nx : Nat) (lnb : Nat) (t1 : Nat) (len : Nat) (cI : ClassId) (cB : ClassId) (tp : Nat → Nat) (hln : len ≤ 400) (hnl : nx ≤ len) (htp : ∀ j, tp j < 256) (hd : mapsF tp len nx = none) (sz : Nat) : Met l yR_walkMaps wsR_walkMaps rm_c_walkMaps_ok (zM (dC, dI) [(cI, .int), (cB, .byte)] [.ref r0] [(r0, .inr (1, [.ref f0, .int (nI fk), .int fp, .ref t0, .int (nI nx), .int (nI lnb)])), (t0, .inr (2, [.ref t1, .int (nI len)])), (t1, .inl (cB, 400, .inl (aB tp)))] sz) (zMi (dC, dI) [(r0, .inr (1, [.ref f0, .int (nI fk), .int fp, .ref t0, .int (nI nx), .int (nI lnb)])), (t0, .inr (2, [.ref t1, .int (nI len)])), (t1, .inl (cB, 400, .inl (aB tp)))] [(r0, .inr (1, [.ref f0, .int (nI fk), .int fp, .ref t0, .int (nI (nx + wid tp nx)), .int (nI lnb)])), (t0, .inr (2, [.ref t1, .int (nI len)])), (t1, .inl (cB, 400, .inl (aB tp)))] sz (fun r => r = nI 1)) 0 0 (va_A [(r0, .inr (1, [.ref f0, .int (nI fk), .int fp, .ref t0, .int (nI nx), .int (nI lnb)])), (t0, .inr (2, [.ref t1, .int (nI len)])), (t1, .inl (cB, 400, .inl (aB tp)))] sz) := by
  refine Met.ofW (cc := cR_walkMaps) (maxL := 4) (ret := (some .boolean)) (by decide) rfl ?_
  intro p e s m args below meth c s₁ Bd hml hv
  obtain ⟨rfl, hsz, hG, hP, hK, hD0⟩ := hv
  subst hsz
  have hx := Bd.exec
  have hb := Bd.bytes
  have hr := Bd.returns
  have hts := atoms_spec (ws := wsR_walkMaps) Bd.pre
  have hw : ∀ w ∈ BIG, w.before _ s = true := fun w h => hts w (List.mem_cons_of_mem _ h)
  have hown : s.vm.findClass RR = some m.cls := findClass_of_methodNamed Bd.named
  have hlocks := Bd.notSynchronized
  have hD := hD0.self (sz := s.heap.size)
  obtain ⟨A, hAe⟩ : ∃ A, A = va_A [(r0, .inr (1, [.ref f0, .int (nI fk), .int fp, .ref t0, .int (nI nx), .int (nI lnb)])), (t0, .inr (2, [.ref t1, .int (nI len)])), (t1, .inl (cB, 400, .inl (aB tp)))] s.heap.size := ⟨_, rfl⟩
  have hA : ∀ q : Nat, s.heap.size ≤ q → A q := fun q h => by rw [hAe]; exact Or.inr h
  rw [← hAe] at hG hD
  have hS : va_S A s.heap s.heap [] := va_S.rf
  have hl := lv_entry ([.ref r0]) (n := 4) (Nat.le_of_ble_eq_true rfl)
  rw [lg_entry_eq]
  generalize (lg_sl ([.ref r0]) ++ List.replicate (4 - (lg_sl ([.ref r0])).length) Slot.unset).toArray = ls at hl ⊢
  have hl : lv_has ls 4 [(0, .ref r0)] := hl
  refine zq_name (fun Q hQ => ?_)
  change W p l e rm_c_walkMaps_ok s m _ below meth c _ _ _ _ Q _
  obtain ⟨tfKB, zfKB, afKB⟩ := hG.KNOWN_BITS
  obtain ⟨hl8, ⟨h8, hmp⟩ | ⟨h8, hl16, hmp, hany⟩⟩ := mapsF_ok hd
  · refine lv_aload_n hx hb dR_walkMaps_0 rfl (lv_at hl 0 rfl) ?_
    refine va_get (D := (dC, dI)) (ci := 1) (v := .int (nI nx)) (C := RR) (T := TR) (N := 6) hx hb hw inR hown hK hP 0 rfl rfl 4 (by decide) (hw _ w_fl_R_25) (fun _ h9 => h9) rfl dR_walkMaps_1 ?_
    refine lv_istore_n (lv' := [(1, .int (nI nx)), (0, .ref r0)]) hx hb dR_walkMaps_4 rfl hl (by decide) rfl (fun ls hl => ?_)
    refine lv_aload_n hx hb dR_walkMaps_5 rfl (lv_at hl 1 rfl) ?_
    refine lv_bipush (v := nI 8) hx hb dR_walkMaps_6 (by decide) ?_
    refine zc_Ri (va_runV (As := [.int (nI 8)]) (rest := []) ⟨hx, hb, hml, hown, hw⟩ (c_reaches_ok l dC dI r0 f0 fk fp t0 nx lnb t1 len cI cB 8 (by omega) (by omega) (by omega) s.heap) (cwV 1 hw (gV w_ml_R_79 w_im_R_reaches w_se_R_reaches w_in_R w_co_R_reaches) rfl rfl rfl (by decide +kernel) ⟨Nat.le_of_ble_eq_true rfl, Nat.le_of_ble_eq_true rfl⟩) (zR_V hG hS (hP.sub (ws' := [(r0, .inr (1, [.ref f0, .int (nI fk), .int fp, .ref t0, .int (nI nx), .int (nI lnb)])), (t0, .inr (2, [.ref t1, .int (nI len)]))]) [0, 1] rfl) hK 0 rfl rfl) rfl rfl hl.1 rfl (lv_room (Nat.le_of_ble_eq_true rfl)) dR_walkMaps_8 ⟨Nat.le_of_ble_eq_true rfl, Nat.le_of_ble_eq_true rfl⟩) hS (fun r_1 locs h_8 hS => ?_)
    subst h_8
    refine lv_if_ne (tgt := 16) hx hb dR_walkMaps_11 (by decide) (fun c_11 => ?_) (fun q => False.elim (absurd q (by decide)))
    refine lv_aload_n hx hb dR_walkMaps_16 rfl (lv_at hl 1 rfl) ?_
    refine lv_dup hx hb dR_walkMaps_17 rfl ?_
    refine va_get (D := (dC, dI)) (ci := 1) (v := .int (nI nx)) (C := RR) (T := TR) (N := 6) hx hb hw inR hown hK hP 0 rfl rfl 4 (by decide) (hw _ w_fl_R_25) (fun _ h9 => h9) rfl dR_walkMaps_18 ?_
    refine lv_bipush (v := nI 8) hx hb dR_walkMaps_21 (by decide) ?_
    refine zi_add hx hb dR_walkMaps_23 ?_
    refine va_put (D := (dC, dI)) (ci := 1) (v := .int (nI (nx + 8))) (ty := .int) (C := RR) (T := TR) (N := 6) hx hb hw inR tyR tyR_ok nmR hown hK hP hD hS 0 rfl rfl 4 (by decide) (hw _ w_fl_R_25) (fun _ h9 => h9) rfl (by decide +kernel) rfl rfl (Nat.le_of_ble_eq_true rfl) dR_walkMaps_24 (fun H locs hP hD hS => ?_)
    have hP : va_P (dC, dI) vwCl [(r0, .inr (1, [.ref f0, .int (nI fk), .int fp, .ref t0, .int (nI (nx + 8)), .int (nI lnb)])), (t0, .inr (2, [.ref t1, .int (nI len)])), (t1, .inl (cB, 400, .inl (aB tp)))] H := hP
    have hD : va_D A [(r0, .inr (1, [.ref f0, .int (nI fk), .int fp, .ref t0, .int (nI (nx + 8)), .int (nI lnb)])), (t0, .inr (2, [.ref t1, .int (nI len)])), (t1, .inl (cB, 400, .inl (aB tp)))] := hD
    refine lv_aload_n hx hb dR_walkMaps_27 rfl (lv_at hl 1 rfl) ?_
    refine va_get (D := (dC, dI)) (ci := 1) (v := .ref t0) (C := RR) (T := TR) (N := 6) hx hb hw inR hown hK hP 0 rfl rfl 3 (by decide) (hw _ w_fl_R_31) (fun _ h9 => h9) rfl dR_walkMaps_28 ?_
    refine lv_iload_n hx hb dR_walkMaps_31 rfl (lv_at hl 0 rfl) ?_
    refine zc_Ri (va_runV (As := [.int (nI nx)]) (rest := []) ⟨hx, hb, hml, hown, hw⟩ (c_T_byteAt l dC dI t0 t1 len cI cB tp nx (by omega) (htp _) H) (cwV 1 hw (gV w_ml_R_50 w_im_T_byteAt w_se_T_byteAt w_in_T w_co_T_byteAt) rfl rfl rfl (by decide +kernel) ⟨Nat.le_of_ble_eq_true rfl, Nat.le_of_ble_eq_true rfl⟩) (zR_V hG hS (hP.sub (ws' := [(t0, .inr (2, [.ref t1, .int (nI len)])), (t1, .inl (cB, 400, .inl (aB tp)))]) [1, 2] rfl) hK 0 rfl rfl) rfl rfl hl.1 rfl (lv_room (Nat.le_of_ble_eq_true rfl)) dR_walkMaps_32 ⟨Nat.le_of_ble_eq_true rfl, Nat.le_of_ble_eq_true rfl⟩) hS (fun r_2 locs h_32 hS => ?_)
    subst h_32
    refine lv_sipush (v := nI 128) hx hb dR_walkMaps_35 (by decide) ?_
    refine lv_iand hx hb dR_walkMaps_38 ?_
    refine zi_v (b := nI ((tp nx) &&& 128)) (nI_and _ _) ?_
    refine zi_eq0 (tgt := 46) hx hb (lt_and (by decide)) dR_walkMaps_39 (by decide) (fun c_39 => ?_) (fun q => False.elim ((q ((and_128 _ (htp _)).mpr h8))))
    refine lv_iconst (v := nI 0) hx hb dR_walkMaps_46 (by decide) ?_
    refine lv_istore_n (lv' := [(2, .int (nI 0)), (1, .int (nI nx)), (0, .ref r0)]) hx hb dR_walkMaps_47 rfl hl (by decide) rfl (fun ls hl => ?_)
    refine lv_iload_n hx hb dR_walkMaps_48 rfl (lv_at hl 0 rfl) ?_
    refine lv_if_eq (tgt := 74) hx hb dR_walkMaps_49 (by decide) (fun c_49 => ?_) (fun q => False.elim (absurd q (by decide)))
    refine lv_iload_n hx hb dR_walkMaps_74 rfl (lv_at hl 1 rfl) ?_
    refine lv_istore_n (lv' := [(3, .int (nI nx)), (2, .int (nI 0)), (1, .int (nI nx)), (0, .ref r0)]) hx hb dR_walkMaps_75 rfl hl (by decide) rfl (fun ls hl => ?_)
    have lp_76 : ∀ (fu : Nat) (j : Nat) (hj : j ≤ 8) (hi : mpL tp nx (8 - j) j = none) (hms : 8 - j < fu) (H : Heap) (locs : List Loc) (ls : Array Slot), lv_has ls 4 [(0, .ref r0), (1, .int (nI nx)), (2, .int (nI 0)), (3, .int (nI (nx + j)))] → va_P (dC, dI) vwCl [(r0, .inr (1, [.ref f0, .int (nI fk), .int fp, .ref t0, .int (nI (nx + 8)), .int (nI lnb)])), (t0, .inr (2, [.ref t1, .int (nI len)])), (t1, .inl (cB, 400, .inl (aB tp)))] H → va_D A [(r0, .inr (1, [.ref f0, .int (nI fk), .int fp, .ref t0, .int (nI (nx + 8)), .int (nI lnb)])), (t0, .inr (2, [.ref t1, .int (nI len)])), (t1, .inl (cB, 400, .inl (aB tp)))] → va_S A s.heap H locs → W p l e rm_c_walkMaps_ok s m ([.ref r0] : List Value).toArray below meth c H locs 0 0 Q (F0 m 76 ls []) := by
      intro fu
      induction fu with
      | zero => intro j hj hi hms; exact absurd hms (Nat.not_lt_zero _)
      | succ fu ih76 =>
        intro j hj hi hms H locs ls hl hP hD hS
        refine lv_iload_n hx hb dR_walkMaps_76 rfl (lv_at hl 3 rfl) ?_
        refine lv_aload_n hx hb dR_walkMaps_77 rfl (lv_at hl 0 rfl) ?_
        refine va_get (D := (dC, dI)) (ci := 1) (v := .int (nI (nx + 8))) (C := RR) (T := TR) (N := 6) hx hb hw inR hown hK hP 0 rfl rfl 4 (by decide) (hw _ w_fl_R_25) (fun _ h9 => h9) rfl dR_walkMaps_78 ?_
        refine zi_ge (tgt := 118) hx hb (by omega) (by omega) dR_walkMaps_81 (by decide) (fun c_81 => ?_) (fun c_81 => ?_)
        · refine lv_iload_n hx hb dR_walkMaps_118 rfl (lv_at hl 2 rfl) ?_
          refine lv_if_eq (tgt := 145) hx hb dR_walkMaps_119 (by decide) (fun c_119 => ?_) (fun q => False.elim (absurd q (by decide)))
          refine lv_iconst (v := nI 1) hx hb dR_walkMaps_145 (by decide) ?_
          refine lv_goto (tgt := 150) hx hb dR_walkMaps_146 (by decide) ?_
          have e9 : wid tp nx = 8 := if_pos h8
          rw [e9] at hQ
          subst hAe
          subst hQ
          exact W.zret (v := nI 1) hx hb hr (by decide) (fun t ht hW => ⟨⟨nI 1, (), rfl, rfl, by rw [ht]; exact hP.sub [0, 1, 2] rfl, hD.sub [0, 1, 2] (by decide) rfl⟩, hS.F ht⟩) hS.2.2 dR_walkMaps_150
        · have ht9 := htp (nx + j)
          refine lv_aload_n hx hb dR_walkMaps_84 rfl (lv_at hl 0 rfl) ?_
          refine va_get (D := (dC, dI)) (ci := 1) (v := .ref t0) (C := RR) (T := TR) (N := 6) hx hb hw inR hown hK hP 0 rfl rfl 3 (by decide) (hw _ w_fl_R_31) (fun _ h9 => h9) rfl dR_walkMaps_85 ?_
          refine lv_iload_n hx hb dR_walkMaps_88 rfl (lv_at hl 3 rfl) ?_
          refine zc_Ri (va_runV (As := [.int (nI (nx + j))]) (rest := []) ⟨hx, hb, hml, hown, hw⟩ (c_T_byteAt l dC dI t0 t1 len cI cB tp (nx + j) (by omega) (htp _) H) (cwV 1 hw (gV w_ml_R_50 w_im_T_byteAt w_se_T_byteAt w_in_T w_co_T_byteAt) rfl rfl rfl (by decide +kernel) ⟨Nat.le_of_ble_eq_true rfl, Nat.le_of_ble_eq_true rfl⟩) (zR_V hG hS (hP.sub (ws' := [(t0, .inr (2, [.ref t1, .int (nI len)])), (t1, .inl (cB, 400, .inl (aB tp)))]) [1, 2] rfl) hK 0 rfl rfl) rfl rfl hl.1 rfl (lv_room (Nat.le_of_ble_eq_true rfl)) dR_walkMaps_89 ⟨Nat.le_of_ble_eq_true rfl, Nat.le_of_ble_eq_true rfl⟩) hS (fun r_3 locs h_89 hS => ?_)
          subst h_89
          refine va_getsN hx hb zfKB hS hown (va_Nw.use rfl (hG.nf (RR, 82, "KNOWN_BITS") (List.mem_of_getElem? (i := 6) rfl))) (fun _ h9 => h9) dR_walkMaps_92 ?_
          refine lv_iload_n hx hb dR_walkMaps_95 rfl (lv_at hl 3 rfl) ?_
          refine lv_iload_n hx hb dR_walkMaps_96 rfl (lv_at hl 1 rfl) ?_
          refine zi_sub hx hb (by omega) dR_walkMaps_97 ?_
          refine zi_v (b := nI j) (by rw [Nat.add_sub_cancel_left]) ?_
          refine za_tab hx hb afKB hS (by omega) (by decide) dR_walkMaps_98 ?_
          refine lv_iconst (v := (-1)) hx hb dR_walkMaps_99 (by decide) ?_
          refine lv_ixor hx hb dR_walkMaps_100 ?_
          refine lv_iand hx hb dR_walkMaps_101 ?_
          refine lv_if_eq (tgt := 112) hx hb dR_walkMaps_102 (by decide) (fun c_102 => ?_) (fun q => False.elim ((by have h9 := hi; rw [show 8 - j = 8 - (j + 1) + 1 by omega] at h9; unfold mpL at h9; rw [if_neg (fun z => q ((kb_iff j (by omega) _ (htp (nx + j))).mpr z))] at h9; cases h9)))
          have c9 := (kb_iff j (by omega) _ (htp (nx + j))).mp c_102
          refine lv_iinc (v := nI ((nx + j) + 1)) (lv' := [(3, .int (nI ((nx + j) + 1))), (0, .ref r0), (1, .int (nI nx)), (2, .int (nI 0))]) hx hb dR_walkMaps_112 hl (k := 3) rfl (zi_incr (nx + j) 1) (by decide) rfl (fun ls hl => ?_)
          refine lv_goto (tgt := 76) hx hb dR_walkMaps_115 (by decide) ?_
          exact ih76 (j + 1) (by omega) (by have h9 := hi; rw [show 8 - j = 8 - (j + 1) + 1 by omega] at h9; unfold mpL at h9; rw [if_pos c9] at h9; exact h9) (by omega) _ _ _ (lv_sub hl [1, 2, 3, 0] rfl) (hP.sub [0, 1, 2] rfl) (hD.sub [0, 1, 2] (by decide) rfl) hS
    exact lp_76 ((8 - 0) + 1) 0 (by omega) hmp (Nat.lt_succ_self _) _ _ _ (lv_sub hl [3, 2, 1, 0] rfl) (hP.sub [0, 1, 2] rfl) (hD.sub [0, 1, 2] (by decide) rfl) hS
  · refine lv_aload_n hx hb dR_walkMaps_0 rfl (lv_at hl 0 rfl) ?_
    refine va_get (D := (dC, dI)) (ci := 1) (v := .int (nI nx)) (C := RR) (T := TR) (N := 6) hx hb hw inR hown hK hP 0 rfl rfl 4 (by decide) (hw _ w_fl_R_25) (fun _ h9 => h9) rfl dR_walkMaps_1 ?_
    refine lv_istore_n (lv' := [(1, .int (nI nx)), (0, .ref r0)]) hx hb dR_walkMaps_4 rfl hl (by decide) rfl (fun ls hl => ?_)
    refine lv_aload_n hx hb dR_walkMaps_5 rfl (lv_at hl 1 rfl) ?_
    refine lv_bipush (v := nI 8) hx hb dR_walkMaps_6 (by decide) ?_
    refine zc_Ri (va_runV (As := [.int (nI 8)]) (rest := []) ⟨hx, hb, hml, hown, hw⟩ (c_reaches_ok l dC dI r0 f0 fk fp t0 nx lnb t1 len cI cB 8 (by omega) (by omega) (by omega) s.heap) (cwV 1 hw (gV w_ml_R_79 w_im_R_reaches w_se_R_reaches w_in_R w_co_R_reaches) rfl rfl rfl (by decide +kernel) ⟨Nat.le_of_ble_eq_true rfl, Nat.le_of_ble_eq_true rfl⟩) (zR_V hG hS (hP.sub (ws' := [(r0, .inr (1, [.ref f0, .int (nI fk), .int fp, .ref t0, .int (nI nx), .int (nI lnb)])), (t0, .inr (2, [.ref t1, .int (nI len)]))]) [0, 1] rfl) hK 0 rfl rfl) rfl rfl hl.1 rfl (lv_room (Nat.le_of_ble_eq_true rfl)) dR_walkMaps_8 ⟨Nat.le_of_ble_eq_true rfl, Nat.le_of_ble_eq_true rfl⟩) hS (fun r_4 locs h_8 hS => ?_)
    subst h_8
    refine lv_if_ne (tgt := 16) hx hb dR_walkMaps_11 (by decide) (fun c_11 => ?_) (fun q => False.elim (absurd q (by decide)))
    refine lv_aload_n hx hb dR_walkMaps_16 rfl (lv_at hl 1 rfl) ?_
    refine lv_dup hx hb dR_walkMaps_17 rfl ?_
    refine va_get (D := (dC, dI)) (ci := 1) (v := .int (nI nx)) (C := RR) (T := TR) (N := 6) hx hb hw inR hown hK hP 0 rfl rfl 4 (by decide) (hw _ w_fl_R_25) (fun _ h9 => h9) rfl dR_walkMaps_18 ?_
    refine lv_bipush (v := nI 8) hx hb dR_walkMaps_21 (by decide) ?_
    refine zi_add hx hb dR_walkMaps_23 ?_
    refine va_put (D := (dC, dI)) (ci := 1) (v := .int (nI (nx + 8))) (ty := .int) (C := RR) (T := TR) (N := 6) hx hb hw inR tyR tyR_ok nmR hown hK hP hD hS 0 rfl rfl 4 (by decide) (hw _ w_fl_R_25) (fun _ h9 => h9) rfl (by decide +kernel) rfl rfl (Nat.le_of_ble_eq_true rfl) dR_walkMaps_24 (fun H locs hP hD hS => ?_)
    have hP : va_P (dC, dI) vwCl [(r0, .inr (1, [.ref f0, .int (nI fk), .int fp, .ref t0, .int (nI (nx + 8)), .int (nI lnb)])), (t0, .inr (2, [.ref t1, .int (nI len)])), (t1, .inl (cB, 400, .inl (aB tp)))] H := hP
    have hD : va_D A [(r0, .inr (1, [.ref f0, .int (nI fk), .int fp, .ref t0, .int (nI (nx + 8)), .int (nI lnb)])), (t0, .inr (2, [.ref t1, .int (nI len)])), (t1, .inl (cB, 400, .inl (aB tp)))] := hD
    refine lv_aload_n hx hb dR_walkMaps_27 rfl (lv_at hl 1 rfl) ?_
    refine va_get (D := (dC, dI)) (ci := 1) (v := .ref t0) (C := RR) (T := TR) (N := 6) hx hb hw inR hown hK hP 0 rfl rfl 3 (by decide) (hw _ w_fl_R_31) (fun _ h9 => h9) rfl dR_walkMaps_28 ?_
    refine lv_iload_n hx hb dR_walkMaps_31 rfl (lv_at hl 0 rfl) ?_
    refine zc_Ri (va_runV (As := [.int (nI nx)]) (rest := []) ⟨hx, hb, hml, hown, hw⟩ (c_T_byteAt l dC dI t0 t1 len cI cB tp nx (by omega) (htp _) H) (cwV 1 hw (gV w_ml_R_50 w_im_T_byteAt w_se_T_byteAt w_in_T w_co_T_byteAt) rfl rfl rfl (by decide +kernel) ⟨Nat.le_of_ble_eq_true rfl, Nat.le_of_ble_eq_true rfl⟩) (zR_V hG hS (hP.sub (ws' := [(t0, .inr (2, [.ref t1, .int (nI len)])), (t1, .inl (cB, 400, .inl (aB tp)))]) [1, 2] rfl) hK 0 rfl rfl) rfl rfl hl.1 rfl (lv_room (Nat.le_of_ble_eq_true rfl)) dR_walkMaps_32 ⟨Nat.le_of_ble_eq_true rfl, Nat.le_of_ble_eq_true rfl⟩) hS (fun r_5 locs h_32 hS => ?_)
    subst h_32
    refine lv_sipush (v := nI 128) hx hb dR_walkMaps_35 (by decide) ?_
    refine lv_iand hx hb dR_walkMaps_38 ?_
    refine zi_v (b := nI ((tp nx) &&& 128)) (nI_and _ _) ?_
    refine zi_eq0 (tgt := 46) hx hb (lt_and (by decide)) dR_walkMaps_39 (by decide) (fun q => False.elim ((h8 ((and_128 _ (htp _)).mp q)))) (fun c_39 => ?_)
    refine lv_iconst (v := nI 1) hx hb dR_walkMaps_42 (by decide) ?_
    refine lv_goto (tgt := 47) hx hb dR_walkMaps_43 (by decide) ?_
    refine lv_istore_n (lv' := [(2, .int (nI 1)), (1, .int (nI nx)), (0, .ref r0)]) hx hb dR_walkMaps_47 rfl hl (by decide) rfl (fun ls hl => ?_)
    refine lv_iload_n hx hb dR_walkMaps_48 rfl (lv_at hl 0 rfl) ?_
    refine lv_if_eq (tgt := 74) hx hb dR_walkMaps_49 (by decide) (fun q => False.elim (absurd q (by decide))) (fun c_49 => ?_)
    refine lv_aload_n hx hb dR_walkMaps_52 rfl (lv_at hl 2 rfl) ?_
    refine lv_bipush (v := nI 8) hx hb dR_walkMaps_53 (by decide) ?_
    refine zc_Ri (va_runV (As := [.int (nI 8)]) (rest := []) ⟨hx, hb, hml, hown, hw⟩ (c_reaches_ok l dC dI r0 f0 fk fp t0 (nx + 8) lnb t1 len cI cB 8 (by omega) (by omega) (by omega) H) (cwV 1 hw (gV w_ml_R_79 w_im_R_reaches w_se_R_reaches w_in_R w_co_R_reaches) rfl rfl rfl (by decide +kernel) ⟨Nat.le_of_ble_eq_true rfl, Nat.le_of_ble_eq_true rfl⟩) (zR_V hG hS (hP.sub (ws' := [(r0, .inr (1, [.ref f0, .int (nI fk), .int fp, .ref t0, .int (nI (nx + 8)), .int (nI lnb)])), (t0, .inr (2, [.ref t1, .int (nI len)]))]) [0, 1] rfl) hK 0 rfl rfl) rfl rfl hl.1 rfl (lv_room (Nat.le_of_ble_eq_true rfl)) dR_walkMaps_55 ⟨Nat.le_of_ble_eq_true rfl, Nat.le_of_ble_eq_true rfl⟩) hS (fun r_6 locs h_55 hS => ?_)
    subst h_55
    refine lv_if_ne (tgt := 63) hx hb dR_walkMaps_58 (by decide) (fun c_58 => ?_) (fun q => False.elim (absurd q (by decide)))
    refine lv_aload_n hx hb dR_walkMaps_63 rfl (lv_at hl 2 rfl) ?_
    refine lv_dup hx hb dR_walkMaps_64 rfl ?_
    refine va_get (D := (dC, dI)) (ci := 1) (v := .int (nI (nx + 8))) (C := RR) (T := TR) (N := 6) hx hb hw inR hown hK hP 0 rfl rfl 4 (by decide) (hw _ w_fl_R_25) (fun _ h9 => h9) rfl dR_walkMaps_65 ?_
    refine lv_bipush (v := nI 8) hx hb dR_walkMaps_68 (by decide) ?_
    refine zi_add hx hb dR_walkMaps_70 ?_
    refine va_put (D := (dC, dI)) (ci := 1) (v := .int (nI ((nx + 8) + 8))) (ty := .int) (C := RR) (T := TR) (N := 6) hx hb hw inR tyR tyR_ok nmR hown hK hP hD hS 0 rfl rfl 4 (by decide) (hw _ w_fl_R_25) (fun _ h9 => h9) rfl (by decide +kernel) rfl rfl (Nat.le_of_ble_eq_true rfl) dR_walkMaps_71 (fun H locs hP hD hS => ?_)
    have hP : va_P (dC, dI) vwCl [(r0, .inr (1, [.ref f0, .int (nI fk), .int fp, .ref t0, .int (nI ((nx + 8) + 8)), .int (nI lnb)])), (t0, .inr (2, [.ref t1, .int (nI len)])), (t1, .inl (cB, 400, .inl (aB tp)))] H := hP
    have hD : va_D A [(r0, .inr (1, [.ref f0, .int (nI fk), .int fp, .ref t0, .int (nI ((nx + 8) + 8)), .int (nI lnb)])), (t0, .inr (2, [.ref t1, .int (nI len)])), (t1, .inl (cB, 400, .inl (aB tp)))] := hD
    refine lv_iload_n hx hb dR_walkMaps_74 rfl (lv_at hl 1 rfl) ?_
    refine lv_istore_n (lv' := [(3, .int (nI nx)), (2, .int (nI 1)), (1, .int (nI nx)), (0, .ref r0)]) hx hb dR_walkMaps_75 rfl hl (by decide) rfl (fun ls hl => ?_)
    have lp_76 : ∀ (fu : Nat) (j : Nat) (hj : j ≤ 16) (hi : mpL tp nx (16 - j) j = none) (hms : 16 - j < fu) (H : Heap) (locs : List Loc) (ls : Array Slot), lv_has ls 4 [(0, .ref r0), (1, .int (nI nx)), (2, .int (nI 1)), (3, .int (nI (nx + j)))] → va_P (dC, dI) vwCl [(r0, .inr (1, [.ref f0, .int (nI fk), .int fp, .ref t0, .int (nI ((nx + 8) + 8)), .int (nI lnb)])), (t0, .inr (2, [.ref t1, .int (nI len)])), (t1, .inl (cB, 400, .inl (aB tp)))] H → va_D A [(r0, .inr (1, [.ref f0, .int (nI fk), .int fp, .ref t0, .int (nI ((nx + 8) + 8)), .int (nI lnb)])), (t0, .inr (2, [.ref t1, .int (nI len)])), (t1, .inl (cB, 400, .inl (aB tp)))] → va_S A s.heap H locs → W p l e rm_c_walkMaps_ok s m ([.ref r0] : List Value).toArray below meth c H locs 0 0 Q (F0 m 76 ls []) := by
      intro fu
      induction fu with
      | zero => intro j hj hi hms; exact absurd hms (Nat.not_lt_zero _)
      | succ fu ih76 =>
        intro j hj hi hms H locs ls hl hP hD hS
        refine lv_iload_n hx hb dR_walkMaps_76 rfl (lv_at hl 3 rfl) ?_
        refine lv_aload_n hx hb dR_walkMaps_77 rfl (lv_at hl 0 rfl) ?_
        refine va_get (D := (dC, dI)) (ci := 1) (v := .int (nI ((nx + 8) + 8))) (C := RR) (T := TR) (N := 6) hx hb hw inR hown hK hP 0 rfl rfl 4 (by decide) (hw _ w_fl_R_25) (fun _ h9 => h9) rfl dR_walkMaps_78 ?_
        refine zi_ge (tgt := 118) hx hb (by omega) (by omega) dR_walkMaps_81 (by decide) (fun c_81 => ?_) (fun c_81 => ?_)
        · refine lv_iload_n hx hb dR_walkMaps_118 rfl (lv_at hl 2 rfl) ?_
          refine lv_if_eq (tgt := 145) hx hb dR_walkMaps_119 (by decide) (fun q => False.elim (absurd q (by decide))) (fun c_119 => ?_)
          refine lv_aload_n hx hb dR_walkMaps_122 rfl (lv_at hl 0 rfl) ?_
          refine lv_iload_n hx hb dR_walkMaps_123 rfl (lv_at hl 1 rfl) ?_
          refine lv_bipush (v := nI 8) hx hb dR_walkMaps_124 (by decide) ?_
          refine zi_add hx hb dR_walkMaps_126 ?_
          refine zc_Ri (va_runV (As := [.int (nI (nx + 8))]) (rest := []) ⟨hx, hb, hml, hown, hw⟩ (c_hasBit_ok l dC dI r0 f0 fk fp t0 ((nx + 8) + 8) lnb t1 len cI cB tp (nx + 8) htp (by omega) hany H) (cwV 1 hw (gV w_ml_R_85 w_im_R_hasBit w_se_R_hasBit w_in_R w_co_R_hasBit) rfl rfl rfl (by decide +kernel) ⟨Nat.le_of_ble_eq_true rfl, Nat.le_of_ble_eq_true rfl⟩) (zR_V hG hS (hP.sub (ws' := [(r0, .inr (1, [.ref f0, .int (nI fk), .int fp, .ref t0, .int (nI ((nx + 8) + 8)), .int (nI lnb)])), (t0, .inr (2, [.ref t1, .int (nI len)])), (t1, .inl (cB, 400, .inl (aB tp)))]) [0, 1, 2] rfl) hK 0 rfl rfl) rfl rfl hl.1 rfl (lv_room (Nat.le_of_ble_eq_true rfl)) dR_walkMaps_127 ⟨Nat.le_of_ble_eq_true rfl, Nat.le_of_ble_eq_true rfl⟩) hS (fun r_7 locs h_127 hS => ?_)
          subst h_127
          refine lv_if_ne (tgt := 145) hx hb dR_walkMaps_130 (by decide) (fun c_130 => ?_) (fun q => False.elim (absurd q (by decide)))
          refine lv_iconst (v := nI 1) hx hb dR_walkMaps_145 (by decide) ?_
          refine lv_goto (tgt := 150) hx hb dR_walkMaps_146 (by decide) ?_
          have e9 : wid tp nx = 16 := if_neg h8
          rw [e9] at hQ
          subst hAe
          subst hQ
          exact W.zret (v := nI 1) hx hb hr (by decide) (fun t ht hW => ⟨⟨nI 1, (), rfl, rfl, by rw [ht]; exact hP.sub [0, 1, 2] rfl, hD.sub [0, 1, 2] (by decide) rfl⟩, hS.F ht⟩) hS.2.2 dR_walkMaps_150
        · have ht9 := htp (nx + j)
          refine lv_aload_n hx hb dR_walkMaps_84 rfl (lv_at hl 0 rfl) ?_
          refine va_get (D := (dC, dI)) (ci := 1) (v := .ref t0) (C := RR) (T := TR) (N := 6) hx hb hw inR hown hK hP 0 rfl rfl 3 (by decide) (hw _ w_fl_R_31) (fun _ h9 => h9) rfl dR_walkMaps_85 ?_
          refine lv_iload_n hx hb dR_walkMaps_88 rfl (lv_at hl 3 rfl) ?_
          refine zc_Ri (va_runV (As := [.int (nI (nx + j))]) (rest := []) ⟨hx, hb, hml, hown, hw⟩ (c_T_byteAt l dC dI t0 t1 len cI cB tp (nx + j) (by omega) (htp _) H) (cwV 1 hw (gV w_ml_R_50 w_im_T_byteAt w_se_T_byteAt w_in_T w_co_T_byteAt) rfl rfl rfl (by decide +kernel) ⟨Nat.le_of_ble_eq_true rfl, Nat.le_of_ble_eq_true rfl⟩) (zR_V hG hS (hP.sub (ws' := [(t0, .inr (2, [.ref t1, .int (nI len)])), (t1, .inl (cB, 400, .inl (aB tp)))]) [1, 2] rfl) hK 0 rfl rfl) rfl rfl hl.1 rfl (lv_room (Nat.le_of_ble_eq_true rfl)) dR_walkMaps_89 ⟨Nat.le_of_ble_eq_true rfl, Nat.le_of_ble_eq_true rfl⟩) hS (fun r_8 locs h_89 hS => ?_)
          subst h_89
          refine va_getsN hx hb zfKB hS hown (va_Nw.use rfl (hG.nf (RR, 82, "KNOWN_BITS") (List.mem_of_getElem? (i := 6) rfl))) (fun _ h9 => h9) dR_walkMaps_92 ?_
          refine lv_iload_n hx hb dR_walkMaps_95 rfl (lv_at hl 3 rfl) ?_
          refine lv_iload_n hx hb dR_walkMaps_96 rfl (lv_at hl 1 rfl) ?_
          refine zi_sub hx hb (by omega) dR_walkMaps_97 ?_
          refine zi_v (b := nI j) (by rw [Nat.add_sub_cancel_left]) ?_
          refine za_tab hx hb afKB hS (by omega) (by decide) dR_walkMaps_98 ?_
          refine lv_iconst (v := (-1)) hx hb dR_walkMaps_99 (by decide) ?_
          refine lv_ixor hx hb dR_walkMaps_100 ?_
          refine lv_iand hx hb dR_walkMaps_101 ?_
          refine lv_if_eq (tgt := 112) hx hb dR_walkMaps_102 (by decide) (fun c_102 => ?_) (fun q => False.elim ((by have h9 := hi; rw [show 16 - j = 16 - (j + 1) + 1 by omega] at h9; unfold mpL at h9; rw [if_neg (fun z => q ((kb_iff j (by omega) _ (htp (nx + j))).mpr z))] at h9; cases h9)))
          have c9 := (kb_iff j (by omega) _ (htp (nx + j))).mp c_102
          refine lv_iinc (v := nI ((nx + j) + 1)) (lv' := [(3, .int (nI ((nx + j) + 1))), (0, .ref r0), (1, .int (nI nx)), (2, .int (nI 1))]) hx hb dR_walkMaps_112 hl (k := 3) rfl (zi_incr (nx + j) 1) (by decide) rfl (fun ls hl => ?_)
          refine lv_goto (tgt := 76) hx hb dR_walkMaps_115 (by decide) ?_
          exact ih76 (j + 1) (by omega) (by have h9 := hi; rw [show 16 - j = 16 - (j + 1) + 1 by omega] at h9; unfold mpL at h9; rw [if_pos c9] at h9; exact h9) (by omega) _ _ _ (lv_sub hl [1, 2, 3, 0] rfl) (hP.sub [0, 1, 2] rfl) (hD.sub [0, 1, 2] (by decide) rfl) hS
    exact lp_76 ((16 - 0) + 1) 0 (by omega) hmp (Nat.lt_succ_self _) _ _ _ (lv_sub hl [3, 2, 1, 0] rfl) (hP.sub [0, 1, 2] rfl) (hD.sub [0, 1, 2] (by decide) rfl) hS
def rm_c_walkMaps_no : Room := ({ frames := 2, cells := 0, slots := 0, locals := 43 } : Room)
set_option maxHeartbeats 4000000 in
set_option maxRecDepth 100000 in
theorem c_walkMaps_no (l : Launch) (dC : Nat → ClassId) (dI : Nat → Nat → Nat) (r0 : Nat) (f0 : Nat) (fk : Nat) (fp : Int32) (t0 : Nat) (nx : Nat) (lnb : Nat) (t1 : Nat) (len : Nat) (cI : ClassId) (cB : ClassId) (tp : Nat → Nat) (k2 : Nat) (p2 : Nat) (hln : len ≤ 400) (hnl : nx ≤ len) (htp : ∀ j, tp j < 256) (hd : mapsF tp len nx = some (k2, p2)) (sz : Nat) : Met l yR_walkMaps wsR_walkMaps rm_c_walkMaps_no (zM (dC, dI) [(cI, .int), (cB, .byte)] [.ref r0] [(r0, .inr (1, [.ref f0, .int (nI fk), .int fp, .ref t0, .int (nI nx), .int (nI lnb)])), (t0, .inr (2, [.ref t1, .int (nI len)])), (t1, .inl (cB, 400, .inl (aB tp)))] sz) (zSi (dC, dI) [(r0, .inr (1, [.ref f0, .int (nI fk), .int fp, .ref t0, .int (nI nx), .int (nI lnb)])), (t0, .inr (2, [.ref t1, .int (nI len)])), (t1, .inl (cB, 400, .inl (aB tp)))] sz (fun r (u : Nat) => r = nI 0) (fun u => [(r0, .inr (1, [.ref f0, .int (nI k2), .int (nI p2), .ref t0, .int (nI u), .int (nI lnb)])), (t0, .inr (2, [.ref t1, .int (nI len)])), (t1, .inl (cB, 400, .inl (aB tp)))])) 0 0 (va_A [(r0, .inr (1, [.ref f0, .int (nI fk), .int fp, .ref t0, .int (nI nx), .int (nI lnb)])), (t0, .inr (2, [.ref t1, .int (nI len)])), (t1, .inl (cB, 400, .inl (aB tp)))] sz) := by
  refine Met.ofW (cc := cR_walkMaps) (maxL := 4) (ret := (some .boolean)) (by decide) rfl ?_
  intro p e s m args below meth c s₁ Bd hml hv
  obtain ⟨rfl, hsz, hG, hP, hK, hD0⟩ := hv
  subst hsz
  have hx := Bd.exec
  have hb := Bd.bytes
  have hr := Bd.returns
  have hts := atoms_spec (ws := wsR_walkMaps) Bd.pre
  have hw : ∀ w ∈ BIG, w.before _ s = true := fun w h => hts w (List.mem_cons_of_mem _ h)
  have hown : s.vm.findClass RR = some m.cls := findClass_of_methodNamed Bd.named
  have hlocks := Bd.notSynchronized
  have hD := hD0.self (sz := s.heap.size)
  obtain ⟨A, hAe⟩ : ∃ A, A = va_A [(r0, .inr (1, [.ref f0, .int (nI fk), .int fp, .ref t0, .int (nI nx), .int (nI lnb)])), (t0, .inr (2, [.ref t1, .int (nI len)])), (t1, .inl (cB, 400, .inl (aB tp)))] s.heap.size := ⟨_, rfl⟩
  have hA : ∀ q : Nat, s.heap.size ≤ q → A q := fun q h => by rw [hAe]; exact Or.inr h
  rw [← hAe] at hG hD
  have hS : va_S A s.heap s.heap [] := va_S.rf
  have hl := lv_entry ([.ref r0]) (n := 4) (Nat.le_of_ble_eq_true rfl)
  rw [lg_entry_eq]
  generalize (lg_sl ([.ref r0]) ++ List.replicate (4 - (lg_sl ([.ref r0])).length) Slot.unset).toArray = ls at hl ⊢
  have hl : lv_has ls 4 [(0, .ref r0)] := hl
  refine zq_name (fun Q hQ => ?_)
  change W p l e rm_c_walkMaps_no s m _ below meth c _ _ _ _ Q _
  obtain ⟨tfKB, zfKB, afKB⟩ := hG.KNOWN_BITS
  rcases mapsF_no hd with ⟨hl8, rfl, rfl⟩ | ⟨hl8, h8, hmp⟩ | ⟨hl8, h8, hl16, rfl, rfl⟩ | ⟨h8, hl16, hmp⟩ | ⟨h8, hl16, hmp, hany, rfl, rfl⟩
  · refine lv_aload_n hx hb dR_walkMaps_0 rfl (lv_at hl 0 rfl) ?_
    refine va_get (D := (dC, dI)) (ci := 1) (v := .int (nI nx)) (C := RR) (T := TR) (N := 6) hx hb hw inR hown hK hP 0 rfl rfl 4 (by decide) (hw _ w_fl_R_25) (fun _ h9 => h9) rfl dR_walkMaps_1 ?_
    refine lv_istore_n (lv' := [(1, .int (nI nx)), (0, .ref r0)]) hx hb dR_walkMaps_4 rfl hl (by decide) rfl (fun ls hl => ?_)
    refine lv_aload_n hx hb dR_walkMaps_5 rfl (lv_at hl 1 rfl) ?_
    refine lv_bipush (v := nI 8) hx hb dR_walkMaps_6 (by decide) ?_
    have hPc := hP.sub (ws' := [(r0, .inr (1, [.ref f0, .int (nI fk), .int fp, .ref t0, .int (nI nx), .int (nI lnb)])), (t0, .inr (2, [.ref t1, .int (nI len)]))]) [0, 1] rfl
    have hDc := hD.sub (ws' := [(r0, .inr (1, [.ref f0, .int (nI fk), .int fp, .ref t0, .int (nI nx), .int (nI lnb)])), (t0, .inr (2, [.ref t1, .int (nI len)]))]) [0, 1] (by decide) rfl
    have hFc := va_free (wc := [(r0, .inr (1, [.ref f0, .int (nI fk), .int fp, .ref t0, .int (nI nx), .int (nI lnb)])), (t0, .inr (2, [.ref t1, .int (nI len)]))]) hD hS hA [0, 1] rfl
    refine zc_Mi (va_runV (As := [.int (nI 8)]) (rest := []) ⟨hx, hb, hml, hown, hw⟩ (c_reaches_no l dC dI r0 f0 fk fp t0 nx lnb t1 len cI cB 8 (by omega) (by omega) (by omega) (by omega) s.heap.size) (cwV 1 hw (gV w_ml_R_79 w_im_R_reaches w_se_R_reaches w_in_R w_co_R_reaches) rfl rfl rfl (by decide +kernel) ⟨Nat.le_of_ble_eq_true rfl, Nat.le_of_ble_eq_true rfl⟩) (zM_V hG hS hFc hPc hDc hK 0 rfl rfl) rfl rfl hl.1 rfl (lv_room (Nat.le_of_ble_eq_true rfl)) dR_walkMaps_8 ⟨Nat.le_of_ble_eq_true rfl, Nat.le_of_ble_eq_true rfl⟩) hS hFc (fun r_1 H locs h_8 hP1 hD1 hk1 hS => ?_)
    obtain ⟨hP, hD⟩ := va_join (wr := [(t1, .inl (cB, 400, .inl (aB tp)))]) (w1 := [(r0, .inr (1, [.ref f0, .int (nI 1), .int (nI len), .ref t0, .int (nI nx), .int (nI lnb)])), (t0, .inr (2, [.ref t1, .int (nI len)]))]) hP hD [0, 1] [2] rfl rfl (by decide) (by decide) hk1 hFc hP1 hD1
    have hP : va_P (dC, dI) vwCl [(t1, .inl (cB, 400, .inl (aB tp))), (r0, .inr (1, [.ref f0, .int (nI 1), .int (nI len), .ref t0, .int (nI nx), .int (nI lnb)])), (t0, .inr (2, [.ref t1, .int (nI len)]))] H := hP
    have hD : va_D A [(t1, .inl (cB, 400, .inl (aB tp))), (r0, .inr (1, [.ref f0, .int (nI 1), .int (nI len), .ref t0, .int (nI nx), .int (nI lnb)])), (t0, .inr (2, [.ref t1, .int (nI len)]))] := hD
    subst h_8
    refine lv_if_ne (tgt := 16) hx hb dR_walkMaps_11 (by decide) (fun q => False.elim (absurd q (by decide))) (fun c_11 => ?_)
    refine lv_iconst (v := nI 0) hx hb dR_walkMaps_14 (by decide) ?_
    subst hAe
    subst hQ
    exact W.zret (v := nI 0) hx hb hr (by decide) (fun t ht hW => ⟨⟨nI 0, nx, rfl, rfl, by rw [ht]; exact hP.sub [1, 2, 0] rfl, hD.sub [1, 2, 0] (by decide) rfl⟩, hS.F ht⟩) hS.2.2 dR_walkMaps_15
  · refine lv_aload_n hx hb dR_walkMaps_0 rfl (lv_at hl 0 rfl) ?_
    refine va_get (D := (dC, dI)) (ci := 1) (v := .int (nI nx)) (C := RR) (T := TR) (N := 6) hx hb hw inR hown hK hP 0 rfl rfl 4 (by decide) (hw _ w_fl_R_25) (fun _ h9 => h9) rfl dR_walkMaps_1 ?_
    refine lv_istore_n (lv' := [(1, .int (nI nx)), (0, .ref r0)]) hx hb dR_walkMaps_4 rfl hl (by decide) rfl (fun ls hl => ?_)
    refine lv_aload_n hx hb dR_walkMaps_5 rfl (lv_at hl 1 rfl) ?_
    refine lv_bipush (v := nI 8) hx hb dR_walkMaps_6 (by decide) ?_
    refine zc_Ri (va_runV (As := [.int (nI 8)]) (rest := []) ⟨hx, hb, hml, hown, hw⟩ (c_reaches_ok l dC dI r0 f0 fk fp t0 nx lnb t1 len cI cB 8 (by omega) (by omega) (by omega) s.heap) (cwV 1 hw (gV w_ml_R_79 w_im_R_reaches w_se_R_reaches w_in_R w_co_R_reaches) rfl rfl rfl (by decide +kernel) ⟨Nat.le_of_ble_eq_true rfl, Nat.le_of_ble_eq_true rfl⟩) (zR_V hG hS (hP.sub (ws' := [(r0, .inr (1, [.ref f0, .int (nI fk), .int fp, .ref t0, .int (nI nx), .int (nI lnb)])), (t0, .inr (2, [.ref t1, .int (nI len)]))]) [0, 1] rfl) hK 0 rfl rfl) rfl rfl hl.1 rfl (lv_room (Nat.le_of_ble_eq_true rfl)) dR_walkMaps_8 ⟨Nat.le_of_ble_eq_true rfl, Nat.le_of_ble_eq_true rfl⟩) hS (fun r_2 locs h_8 hS => ?_)
    subst h_8
    refine lv_if_ne (tgt := 16) hx hb dR_walkMaps_11 (by decide) (fun c_11 => ?_) (fun q => False.elim (absurd q (by decide)))
    refine lv_aload_n hx hb dR_walkMaps_16 rfl (lv_at hl 1 rfl) ?_
    refine lv_dup hx hb dR_walkMaps_17 rfl ?_
    refine va_get (D := (dC, dI)) (ci := 1) (v := .int (nI nx)) (C := RR) (T := TR) (N := 6) hx hb hw inR hown hK hP 0 rfl rfl 4 (by decide) (hw _ w_fl_R_25) (fun _ h9 => h9) rfl dR_walkMaps_18 ?_
    refine lv_bipush (v := nI 8) hx hb dR_walkMaps_21 (by decide) ?_
    refine zi_add hx hb dR_walkMaps_23 ?_
    refine va_put (D := (dC, dI)) (ci := 1) (v := .int (nI (nx + 8))) (ty := .int) (C := RR) (T := TR) (N := 6) hx hb hw inR tyR tyR_ok nmR hown hK hP hD hS 0 rfl rfl 4 (by decide) (hw _ w_fl_R_25) (fun _ h9 => h9) rfl (by decide +kernel) rfl rfl (Nat.le_of_ble_eq_true rfl) dR_walkMaps_24 (fun H locs hP hD hS => ?_)
    have hP : va_P (dC, dI) vwCl [(r0, .inr (1, [.ref f0, .int (nI fk), .int fp, .ref t0, .int (nI (nx + 8)), .int (nI lnb)])), (t0, .inr (2, [.ref t1, .int (nI len)])), (t1, .inl (cB, 400, .inl (aB tp)))] H := hP
    have hD : va_D A [(r0, .inr (1, [.ref f0, .int (nI fk), .int fp, .ref t0, .int (nI (nx + 8)), .int (nI lnb)])), (t0, .inr (2, [.ref t1, .int (nI len)])), (t1, .inl (cB, 400, .inl (aB tp)))] := hD
    refine lv_aload_n hx hb dR_walkMaps_27 rfl (lv_at hl 1 rfl) ?_
    refine va_get (D := (dC, dI)) (ci := 1) (v := .ref t0) (C := RR) (T := TR) (N := 6) hx hb hw inR hown hK hP 0 rfl rfl 3 (by decide) (hw _ w_fl_R_31) (fun _ h9 => h9) rfl dR_walkMaps_28 ?_
    refine lv_iload_n hx hb dR_walkMaps_31 rfl (lv_at hl 0 rfl) ?_
    refine zc_Ri (va_runV (As := [.int (nI nx)]) (rest := []) ⟨hx, hb, hml, hown, hw⟩ (c_T_byteAt l dC dI t0 t1 len cI cB tp nx (by omega) (htp _) H) (cwV 1 hw (gV w_ml_R_50 w_im_T_byteAt w_se_T_byteAt w_in_T w_co_T_byteAt) rfl rfl rfl (by decide +kernel) ⟨Nat.le_of_ble_eq_true rfl, Nat.le_of_ble_eq_true rfl⟩) (zR_V hG hS (hP.sub (ws' := [(t0, .inr (2, [.ref t1, .int (nI len)])), (t1, .inl (cB, 400, .inl (aB tp)))]) [1, 2] rfl) hK 0 rfl rfl) rfl rfl hl.1 rfl (lv_room (Nat.le_of_ble_eq_true rfl)) dR_walkMaps_32 ⟨Nat.le_of_ble_eq_true rfl, Nat.le_of_ble_eq_true rfl⟩) hS (fun r_3 locs h_32 hS => ?_)
    subst h_32
    refine lv_sipush (v := nI 128) hx hb dR_walkMaps_35 (by decide) ?_
    refine lv_iand hx hb dR_walkMaps_38 ?_
    refine zi_v (b := nI ((tp nx) &&& 128)) (nI_and _ _) ?_
    refine zi_eq0 (tgt := 46) hx hb (lt_and (by decide)) dR_walkMaps_39 (by decide) (fun c_39 => ?_) (fun q => False.elim ((q ((and_128 _ (htp _)).mpr h8))))
    refine lv_iconst (v := nI 0) hx hb dR_walkMaps_46 (by decide) ?_
    refine lv_istore_n (lv' := [(2, .int (nI 0)), (1, .int (nI nx)), (0, .ref r0)]) hx hb dR_walkMaps_47 rfl hl (by decide) rfl (fun ls hl => ?_)
    refine lv_iload_n hx hb dR_walkMaps_48 rfl (lv_at hl 0 rfl) ?_
    refine lv_if_eq (tgt := 74) hx hb dR_walkMaps_49 (by decide) (fun c_49 => ?_) (fun q => False.elim (absurd q (by decide)))
    refine lv_iload_n hx hb dR_walkMaps_74 rfl (lv_at hl 1 rfl) ?_
    refine lv_istore_n (lv' := [(3, .int (nI nx)), (2, .int (nI 0)), (1, .int (nI nx)), (0, .ref r0)]) hx hb dR_walkMaps_75 rfl hl (by decide) rfl (fun ls hl => ?_)
    have lp_76 : ∀ (fu : Nat) (j : Nat) (hj : j ≤ 8) (hi : mpL tp nx (8 - j) j = some (k2, p2)) (hms : 8 - j < fu) (H : Heap) (locs : List Loc) (ls : Array Slot), lv_has ls 4 [(0, .ref r0), (1, .int (nI nx)), (2, .int (nI 0)), (3, .int (nI (nx + j)))] → va_P (dC, dI) vwCl [(r0, .inr (1, [.ref f0, .int (nI fk), .int fp, .ref t0, .int (nI (nx + 8)), .int (nI lnb)])), (t0, .inr (2, [.ref t1, .int (nI len)])), (t1, .inl (cB, 400, .inl (aB tp)))] H → va_D A [(r0, .inr (1, [.ref f0, .int (nI fk), .int fp, .ref t0, .int (nI (nx + 8)), .int (nI lnb)])), (t0, .inr (2, [.ref t1, .int (nI len)])), (t1, .inl (cB, 400, .inl (aB tp)))] → va_S A s.heap H locs → W p l e rm_c_walkMaps_no s m ([.ref r0] : List Value).toArray below meth c H locs 0 0 Q (F0 m 76 ls []) := by
      intro fu
      induction fu with
      | zero => intro j hj hi hms; exact absurd hms (Nat.not_lt_zero _)
      | succ fu ih76 =>
        intro j hj hi hms H locs ls hl hP hD hS
        refine lv_iload_n hx hb dR_walkMaps_76 rfl (lv_at hl 3 rfl) ?_
        refine lv_aload_n hx hb dR_walkMaps_77 rfl (lv_at hl 0 rfl) ?_
        refine va_get (D := (dC, dI)) (ci := 1) (v := .int (nI (nx + 8))) (C := RR) (T := TR) (N := 6) hx hb hw inR hown hK hP 0 rfl rfl 4 (by decide) (hw _ w_fl_R_25) (fun _ h9 => h9) rfl dR_walkMaps_78 ?_
        refine zi_ge (tgt := 118) hx hb (by omega) (by omega) dR_walkMaps_81 (by decide) (fun q => False.elim ((by have h9 := hi; rw [show 8 - j = 0 by omega] at h9; cases h9))) (fun c_81 => ?_)
        have ht9 := htp (nx + j)
        refine lv_aload_n hx hb dR_walkMaps_84 rfl (lv_at hl 0 rfl) ?_
        refine va_get (D := (dC, dI)) (ci := 1) (v := .ref t0) (C := RR) (T := TR) (N := 6) hx hb hw inR hown hK hP 0 rfl rfl 3 (by decide) (hw _ w_fl_R_31) (fun _ h9 => h9) rfl dR_walkMaps_85 ?_
        refine lv_iload_n hx hb dR_walkMaps_88 rfl (lv_at hl 3 rfl) ?_
        refine zc_Ri (va_runV (As := [.int (nI (nx + j))]) (rest := []) ⟨hx, hb, hml, hown, hw⟩ (c_T_byteAt l dC dI t0 t1 len cI cB tp (nx + j) (by omega) (htp _) H) (cwV 1 hw (gV w_ml_R_50 w_im_T_byteAt w_se_T_byteAt w_in_T w_co_T_byteAt) rfl rfl rfl (by decide +kernel) ⟨Nat.le_of_ble_eq_true rfl, Nat.le_of_ble_eq_true rfl⟩) (zR_V hG hS (hP.sub (ws' := [(t0, .inr (2, [.ref t1, .int (nI len)])), (t1, .inl (cB, 400, .inl (aB tp)))]) [1, 2] rfl) hK 0 rfl rfl) rfl rfl hl.1 rfl (lv_room (Nat.le_of_ble_eq_true rfl)) dR_walkMaps_89 ⟨Nat.le_of_ble_eq_true rfl, Nat.le_of_ble_eq_true rfl⟩) hS (fun r_4 locs h_89 hS => ?_)
        subst h_89
        refine va_getsN hx hb zfKB hS hown (va_Nw.use rfl (hG.nf (RR, 82, "KNOWN_BITS") (List.mem_of_getElem? (i := 6) rfl))) (fun _ h9 => h9) dR_walkMaps_92 ?_
        refine lv_iload_n hx hb dR_walkMaps_95 rfl (lv_at hl 3 rfl) ?_
        refine lv_iload_n hx hb dR_walkMaps_96 rfl (lv_at hl 1 rfl) ?_
        refine zi_sub hx hb (by omega) dR_walkMaps_97 ?_
        refine zi_v (b := nI j) (by rw [Nat.add_sub_cancel_left]) ?_
        refine za_tab hx hb afKB hS (by omega) (by decide) dR_walkMaps_98 ?_
        refine lv_iconst (v := (-1)) hx hb dR_walkMaps_99 (by decide) ?_
        refine lv_ixor hx hb dR_walkMaps_100 ?_
        refine lv_iand hx hb dR_walkMaps_101 ?_
        refine lv_if_eq (tgt := 112) hx hb dR_walkMaps_102 (by decide) (fun c_102 => ?_) (fun c_102 => ?_)
        · have c9 := (kb_iff j (by omega) _ (htp (nx + j))).mp c_102
          refine lv_iinc (v := nI ((nx + j) + 1)) (lv' := [(3, .int (nI ((nx + j) + 1))), (0, .ref r0), (1, .int (nI nx)), (2, .int (nI 0))]) hx hb dR_walkMaps_112 hl (k := 3) rfl (zi_incr (nx + j) 1) (by decide) rfl (fun ls hl => ?_)
          refine lv_goto (tgt := 76) hx hb dR_walkMaps_115 (by decide) ?_
          exact ih76 (j + 1) (by omega) (by have h9 := hi; rw [show 8 - j = 8 - (j + 1) + 1 by omega] at h9; unfold mpL at h9; rw [if_pos c9] at h9; exact h9) (by omega) _ _ _ (lv_sub hl [1, 2, 3, 0] rfl) (hP.sub [0, 1, 2] rfl) (hD.sub [0, 1, 2] (by decide) rfl) hS
        · have h9 := hi
          rw [show 8 - j = 8 - (j + 1) + 1 by omega] at h9
          unfold mpL at h9
          rw [if_neg (fun z => c_102 ((kb_iff j (by omega) _ (htp (nx + j))).mpr z))] at h9
          cases h9
          refine lv_aload_n hx hb dR_walkMaps_105 rfl (lv_at hl 0 rfl) ?_
          refine lv_iconst (v := nI 4) hx hb dR_walkMaps_106 (by decide) ?_
          refine lv_iload_n hx hb dR_walkMaps_107 rfl (lv_at hl 3 rfl) ?_
          have hPc := hP.sub (ws' := [(r0, .inr (1, [.ref f0, .int (nI fk), .int fp, .ref t0, .int (nI (nx + 8)), .int (nI lnb)]))]) [0] rfl
          have hDc := hD.sub (ws' := [(r0, .inr (1, [.ref f0, .int (nI fk), .int fp, .ref t0, .int (nI (nx + 8)), .int (nI lnb)]))]) [0] (by decide) rfl
          have hFc := va_free (wc := [(r0, .inr (1, [.ref f0, .int (nI fk), .int fp, .ref t0, .int (nI (nx + 8)), .int (nI lnb)]))]) hD hS hA [0] rfl
          refine zc_Mi (va_runV (As := [.int (nI 4), .int (nI (nx + j))]) (rest := []) ⟨hx, hb, hml, hown, hw⟩ (c_R_fail l dC dI r0 f0 fk fp t0 (nx + 8) lnb cI cB 4 (nI (nx + j)) H.size) (cwV 2 hw (gV w_ml_R_65 w_im_R_fail w_se_R_fail w_in_R w_co_R_fail) rfl rfl rfl (by decide +kernel) ⟨Nat.le_of_ble_eq_true rfl, Nat.le_of_ble_eq_true rfl⟩) (zM_V hG hS hFc hPc hDc hK 0 rfl rfl) rfl rfl hl.1 rfl (lv_room (Nat.le_of_ble_eq_true rfl)) dR_walkMaps_108 ⟨Nat.le_of_ble_eq_true rfl, Nat.le_of_ble_eq_true rfl⟩) hS hFc (fun r_5 H locs h_108 hP1 hD1 hk1 hS => ?_)
          obtain ⟨hP, hD⟩ := va_join (wr := [(t0, .inr (2, [.ref t1, .int (nI len)])), (t1, .inl (cB, 400, .inl (aB tp)))]) (w1 := [(r0, .inr (1, [.ref f0, .int (nI 4), .int (nI (nx + j)), .ref t0, .int (nI (nx + 8)), .int (nI lnb)]))]) hP hD [0] [1, 2] rfl rfl (by decide) (by decide) hk1 hFc hP1 hD1
          have hP : va_P (dC, dI) vwCl [(t0, .inr (2, [.ref t1, .int (nI len)])), (t1, .inl (cB, 400, .inl (aB tp))), (r0, .inr (1, [.ref f0, .int (nI 4), .int (nI (nx + j)), .ref t0, .int (nI (nx + 8)), .int (nI lnb)]))] H := hP
          have hD : va_D A [(t0, .inr (2, [.ref t1, .int (nI len)])), (t1, .inl (cB, 400, .inl (aB tp))), (r0, .inr (1, [.ref f0, .int (nI 4), .int (nI (nx + j)), .ref t0, .int (nI (nx + 8)), .int (nI lnb)]))] := hD
          subst h_108
          subst hAe
          subst hQ
          exact W.zret (v := nI 0) hx hb hr (by decide) (fun t ht hW => ⟨⟨nI 0, (nx + 8), rfl, rfl, by rw [ht]; exact hP.sub [2, 0, 1] rfl, hD.sub [2, 0, 1] (by decide) rfl⟩, hS.F ht⟩) hS.2.2 dR_walkMaps_111
    exact lp_76 ((8 - 0) + 1) 0 (by omega) hmp (Nat.lt_succ_self _) _ _ _ (lv_sub hl [3, 2, 1, 0] rfl) (hP.sub [0, 1, 2] rfl) (hD.sub [0, 1, 2] (by decide) rfl) hS
  · refine lv_aload_n hx hb dR_walkMaps_0 rfl (lv_at hl 0 rfl) ?_
    refine va_get (D := (dC, dI)) (ci := 1) (v := .int (nI nx)) (C := RR) (T := TR) (N := 6) hx hb hw inR hown hK hP 0 rfl rfl 4 (by decide) (hw _ w_fl_R_25) (fun _ h9 => h9) rfl dR_walkMaps_1 ?_
    refine lv_istore_n (lv' := [(1, .int (nI nx)), (0, .ref r0)]) hx hb dR_walkMaps_4 rfl hl (by decide) rfl (fun ls hl => ?_)
    refine lv_aload_n hx hb dR_walkMaps_5 rfl (lv_at hl 1 rfl) ?_
    refine lv_bipush (v := nI 8) hx hb dR_walkMaps_6 (by decide) ?_
    refine zc_Ri (va_runV (As := [.int (nI 8)]) (rest := []) ⟨hx, hb, hml, hown, hw⟩ (c_reaches_ok l dC dI r0 f0 fk fp t0 nx lnb t1 len cI cB 8 (by omega) (by omega) (by omega) s.heap) (cwV 1 hw (gV w_ml_R_79 w_im_R_reaches w_se_R_reaches w_in_R w_co_R_reaches) rfl rfl rfl (by decide +kernel) ⟨Nat.le_of_ble_eq_true rfl, Nat.le_of_ble_eq_true rfl⟩) (zR_V hG hS (hP.sub (ws' := [(r0, .inr (1, [.ref f0, .int (nI fk), .int fp, .ref t0, .int (nI nx), .int (nI lnb)])), (t0, .inr (2, [.ref t1, .int (nI len)]))]) [0, 1] rfl) hK 0 rfl rfl) rfl rfl hl.1 rfl (lv_room (Nat.le_of_ble_eq_true rfl)) dR_walkMaps_8 ⟨Nat.le_of_ble_eq_true rfl, Nat.le_of_ble_eq_true rfl⟩) hS (fun r_6 locs h_8 hS => ?_)
    subst h_8
    refine lv_if_ne (tgt := 16) hx hb dR_walkMaps_11 (by decide) (fun c_11 => ?_) (fun q => False.elim (absurd q (by decide)))
    refine lv_aload_n hx hb dR_walkMaps_16 rfl (lv_at hl 1 rfl) ?_
    refine lv_dup hx hb dR_walkMaps_17 rfl ?_
    refine va_get (D := (dC, dI)) (ci := 1) (v := .int (nI nx)) (C := RR) (T := TR) (N := 6) hx hb hw inR hown hK hP 0 rfl rfl 4 (by decide) (hw _ w_fl_R_25) (fun _ h9 => h9) rfl dR_walkMaps_18 ?_
    refine lv_bipush (v := nI 8) hx hb dR_walkMaps_21 (by decide) ?_
    refine zi_add hx hb dR_walkMaps_23 ?_
    refine va_put (D := (dC, dI)) (ci := 1) (v := .int (nI (nx + 8))) (ty := .int) (C := RR) (T := TR) (N := 6) hx hb hw inR tyR tyR_ok nmR hown hK hP hD hS 0 rfl rfl 4 (by decide) (hw _ w_fl_R_25) (fun _ h9 => h9) rfl (by decide +kernel) rfl rfl (Nat.le_of_ble_eq_true rfl) dR_walkMaps_24 (fun H locs hP hD hS => ?_)
    have hP : va_P (dC, dI) vwCl [(r0, .inr (1, [.ref f0, .int (nI fk), .int fp, .ref t0, .int (nI (nx + 8)), .int (nI lnb)])), (t0, .inr (2, [.ref t1, .int (nI len)])), (t1, .inl (cB, 400, .inl (aB tp)))] H := hP
    have hD : va_D A [(r0, .inr (1, [.ref f0, .int (nI fk), .int fp, .ref t0, .int (nI (nx + 8)), .int (nI lnb)])), (t0, .inr (2, [.ref t1, .int (nI len)])), (t1, .inl (cB, 400, .inl (aB tp)))] := hD
    refine lv_aload_n hx hb dR_walkMaps_27 rfl (lv_at hl 1 rfl) ?_
    refine va_get (D := (dC, dI)) (ci := 1) (v := .ref t0) (C := RR) (T := TR) (N := 6) hx hb hw inR hown hK hP 0 rfl rfl 3 (by decide) (hw _ w_fl_R_31) (fun _ h9 => h9) rfl dR_walkMaps_28 ?_
    refine lv_iload_n hx hb dR_walkMaps_31 rfl (lv_at hl 0 rfl) ?_
    refine zc_Ri (va_runV (As := [.int (nI nx)]) (rest := []) ⟨hx, hb, hml, hown, hw⟩ (c_T_byteAt l dC dI t0 t1 len cI cB tp nx (by omega) (htp _) H) (cwV 1 hw (gV w_ml_R_50 w_im_T_byteAt w_se_T_byteAt w_in_T w_co_T_byteAt) rfl rfl rfl (by decide +kernel) ⟨Nat.le_of_ble_eq_true rfl, Nat.le_of_ble_eq_true rfl⟩) (zR_V hG hS (hP.sub (ws' := [(t0, .inr (2, [.ref t1, .int (nI len)])), (t1, .inl (cB, 400, .inl (aB tp)))]) [1, 2] rfl) hK 0 rfl rfl) rfl rfl hl.1 rfl (lv_room (Nat.le_of_ble_eq_true rfl)) dR_walkMaps_32 ⟨Nat.le_of_ble_eq_true rfl, Nat.le_of_ble_eq_true rfl⟩) hS (fun r_7 locs h_32 hS => ?_)
    subst h_32
    refine lv_sipush (v := nI 128) hx hb dR_walkMaps_35 (by decide) ?_
    refine lv_iand hx hb dR_walkMaps_38 ?_
    refine zi_v (b := nI ((tp nx) &&& 128)) (nI_and _ _) ?_
    refine zi_eq0 (tgt := 46) hx hb (lt_and (by decide)) dR_walkMaps_39 (by decide) (fun q => False.elim ((h8 ((and_128 _ (htp _)).mp q)))) (fun c_39 => ?_)
    refine lv_iconst (v := nI 1) hx hb dR_walkMaps_42 (by decide) ?_
    refine lv_goto (tgt := 47) hx hb dR_walkMaps_43 (by decide) ?_
    refine lv_istore_n (lv' := [(2, .int (nI 1)), (1, .int (nI nx)), (0, .ref r0)]) hx hb dR_walkMaps_47 rfl hl (by decide) rfl (fun ls hl => ?_)
    refine lv_iload_n hx hb dR_walkMaps_48 rfl (lv_at hl 0 rfl) ?_
    refine lv_if_eq (tgt := 74) hx hb dR_walkMaps_49 (by decide) (fun q => False.elim (absurd q (by decide))) (fun c_49 => ?_)
    refine lv_aload_n hx hb dR_walkMaps_52 rfl (lv_at hl 2 rfl) ?_
    refine lv_bipush (v := nI 8) hx hb dR_walkMaps_53 (by decide) ?_
    have hPc := hP.sub (ws' := [(r0, .inr (1, [.ref f0, .int (nI fk), .int fp, .ref t0, .int (nI (nx + 8)), .int (nI lnb)])), (t0, .inr (2, [.ref t1, .int (nI len)]))]) [0, 1] rfl
    have hDc := hD.sub (ws' := [(r0, .inr (1, [.ref f0, .int (nI fk), .int fp, .ref t0, .int (nI (nx + 8)), .int (nI lnb)])), (t0, .inr (2, [.ref t1, .int (nI len)]))]) [0, 1] (by decide) rfl
    have hFc := va_free (wc := [(r0, .inr (1, [.ref f0, .int (nI fk), .int fp, .ref t0, .int (nI (nx + 8)), .int (nI lnb)])), (t0, .inr (2, [.ref t1, .int (nI len)]))]) hD hS hA [0, 1] rfl
    refine zc_Mi (va_runV (As := [.int (nI 8)]) (rest := []) ⟨hx, hb, hml, hown, hw⟩ (c_reaches_no l dC dI r0 f0 fk fp t0 (nx + 8) lnb t1 len cI cB 8 (by omega) (by omega) (by omega) (by omega) H.size) (cwV 1 hw (gV w_ml_R_79 w_im_R_reaches w_se_R_reaches w_in_R w_co_R_reaches) rfl rfl rfl (by decide +kernel) ⟨Nat.le_of_ble_eq_true rfl, Nat.le_of_ble_eq_true rfl⟩) (zM_V hG hS hFc hPc hDc hK 0 rfl rfl) rfl rfl hl.1 rfl (lv_room (Nat.le_of_ble_eq_true rfl)) dR_walkMaps_55 ⟨Nat.le_of_ble_eq_true rfl, Nat.le_of_ble_eq_true rfl⟩) hS hFc (fun r_8 H locs h_55 hP1 hD1 hk1 hS => ?_)
    obtain ⟨hP, hD⟩ := va_join (wr := [(t1, .inl (cB, 400, .inl (aB tp)))]) (w1 := [(r0, .inr (1, [.ref f0, .int (nI 1), .int (nI len), .ref t0, .int (nI (nx + 8)), .int (nI lnb)])), (t0, .inr (2, [.ref t1, .int (nI len)]))]) hP hD [0, 1] [2] rfl rfl (by decide) (by decide) hk1 hFc hP1 hD1
    have hP : va_P (dC, dI) vwCl [(t1, .inl (cB, 400, .inl (aB tp))), (r0, .inr (1, [.ref f0, .int (nI 1), .int (nI len), .ref t0, .int (nI (nx + 8)), .int (nI lnb)])), (t0, .inr (2, [.ref t1, .int (nI len)]))] H := hP
    have hD : va_D A [(t1, .inl (cB, 400, .inl (aB tp))), (r0, .inr (1, [.ref f0, .int (nI 1), .int (nI len), .ref t0, .int (nI (nx + 8)), .int (nI lnb)])), (t0, .inr (2, [.ref t1, .int (nI len)]))] := hD
    subst h_55
    refine lv_if_ne (tgt := 63) hx hb dR_walkMaps_58 (by decide) (fun q => False.elim (absurd q (by decide))) (fun c_58 => ?_)
    refine lv_iconst (v := nI 0) hx hb dR_walkMaps_61 (by decide) ?_
    subst hAe
    subst hQ
    exact W.zret (v := nI 0) hx hb hr (by decide) (fun t ht hW => ⟨⟨nI 0, (nx + 8), rfl, rfl, by rw [ht]; exact hP.sub [1, 2, 0] rfl, hD.sub [1, 2, 0] (by decide) rfl⟩, hS.F ht⟩) hS.2.2 dR_walkMaps_62
  · refine lv_aload_n hx hb dR_walkMaps_0 rfl (lv_at hl 0 rfl) ?_
    refine va_get (D := (dC, dI)) (ci := 1) (v := .int (nI nx)) (C := RR) (T := TR) (N := 6) hx hb hw inR hown hK hP 0 rfl rfl 4 (by decide) (hw _ w_fl_R_25) (fun _ h9 => h9) rfl dR_walkMaps_1 ?_
    refine lv_istore_n (lv' := [(1, .int (nI nx)), (0, .ref r0)]) hx hb dR_walkMaps_4 rfl hl (by decide) rfl (fun ls hl => ?_)
    refine lv_aload_n hx hb dR_walkMaps_5 rfl (lv_at hl 1 rfl) ?_
    refine lv_bipush (v := nI 8) hx hb dR_walkMaps_6 (by decide) ?_
    refine zc_Ri (va_runV (As := [.int (nI 8)]) (rest := []) ⟨hx, hb, hml, hown, hw⟩ (c_reaches_ok l dC dI r0 f0 fk fp t0 nx lnb t1 len cI cB 8 (by omega) (by omega) (by omega) s.heap) (cwV 1 hw (gV w_ml_R_79 w_im_R_reaches w_se_R_reaches w_in_R w_co_R_reaches) rfl rfl rfl (by decide +kernel) ⟨Nat.le_of_ble_eq_true rfl, Nat.le_of_ble_eq_true rfl⟩) (zR_V hG hS (hP.sub (ws' := [(r0, .inr (1, [.ref f0, .int (nI fk), .int fp, .ref t0, .int (nI nx), .int (nI lnb)])), (t0, .inr (2, [.ref t1, .int (nI len)]))]) [0, 1] rfl) hK 0 rfl rfl) rfl rfl hl.1 rfl (lv_room (Nat.le_of_ble_eq_true rfl)) dR_walkMaps_8 ⟨Nat.le_of_ble_eq_true rfl, Nat.le_of_ble_eq_true rfl⟩) hS (fun r_9 locs h_8 hS => ?_)
    subst h_8
    refine lv_if_ne (tgt := 16) hx hb dR_walkMaps_11 (by decide) (fun c_11 => ?_) (fun q => False.elim (absurd q (by decide)))
    refine lv_aload_n hx hb dR_walkMaps_16 rfl (lv_at hl 1 rfl) ?_
    refine lv_dup hx hb dR_walkMaps_17 rfl ?_
    refine va_get (D := (dC, dI)) (ci := 1) (v := .int (nI nx)) (C := RR) (T := TR) (N := 6) hx hb hw inR hown hK hP 0 rfl rfl 4 (by decide) (hw _ w_fl_R_25) (fun _ h9 => h9) rfl dR_walkMaps_18 ?_
    refine lv_bipush (v := nI 8) hx hb dR_walkMaps_21 (by decide) ?_
    refine zi_add hx hb dR_walkMaps_23 ?_
    refine va_put (D := (dC, dI)) (ci := 1) (v := .int (nI (nx + 8))) (ty := .int) (C := RR) (T := TR) (N := 6) hx hb hw inR tyR tyR_ok nmR hown hK hP hD hS 0 rfl rfl 4 (by decide) (hw _ w_fl_R_25) (fun _ h9 => h9) rfl (by decide +kernel) rfl rfl (Nat.le_of_ble_eq_true rfl) dR_walkMaps_24 (fun H locs hP hD hS => ?_)
    have hP : va_P (dC, dI) vwCl [(r0, .inr (1, [.ref f0, .int (nI fk), .int fp, .ref t0, .int (nI (nx + 8)), .int (nI lnb)])), (t0, .inr (2, [.ref t1, .int (nI len)])), (t1, .inl (cB, 400, .inl (aB tp)))] H := hP
    have hD : va_D A [(r0, .inr (1, [.ref f0, .int (nI fk), .int fp, .ref t0, .int (nI (nx + 8)), .int (nI lnb)])), (t0, .inr (2, [.ref t1, .int (nI len)])), (t1, .inl (cB, 400, .inl (aB tp)))] := hD
    refine lv_aload_n hx hb dR_walkMaps_27 rfl (lv_at hl 1 rfl) ?_
    refine va_get (D := (dC, dI)) (ci := 1) (v := .ref t0) (C := RR) (T := TR) (N := 6) hx hb hw inR hown hK hP 0 rfl rfl 3 (by decide) (hw _ w_fl_R_31) (fun _ h9 => h9) rfl dR_walkMaps_28 ?_
    refine lv_iload_n hx hb dR_walkMaps_31 rfl (lv_at hl 0 rfl) ?_
    refine zc_Ri (va_runV (As := [.int (nI nx)]) (rest := []) ⟨hx, hb, hml, hown, hw⟩ (c_T_byteAt l dC dI t0 t1 len cI cB tp nx (by omega) (htp _) H) (cwV 1 hw (gV w_ml_R_50 w_im_T_byteAt w_se_T_byteAt w_in_T w_co_T_byteAt) rfl rfl rfl (by decide +kernel) ⟨Nat.le_of_ble_eq_true rfl, Nat.le_of_ble_eq_true rfl⟩) (zR_V hG hS (hP.sub (ws' := [(t0, .inr (2, [.ref t1, .int (nI len)])), (t1, .inl (cB, 400, .inl (aB tp)))]) [1, 2] rfl) hK 0 rfl rfl) rfl rfl hl.1 rfl (lv_room (Nat.le_of_ble_eq_true rfl)) dR_walkMaps_32 ⟨Nat.le_of_ble_eq_true rfl, Nat.le_of_ble_eq_true rfl⟩) hS (fun r_10 locs h_32 hS => ?_)
    subst h_32
    refine lv_sipush (v := nI 128) hx hb dR_walkMaps_35 (by decide) ?_
    refine lv_iand hx hb dR_walkMaps_38 ?_
    refine zi_v (b := nI ((tp nx) &&& 128)) (nI_and _ _) ?_
    refine zi_eq0 (tgt := 46) hx hb (lt_and (by decide)) dR_walkMaps_39 (by decide) (fun q => False.elim ((h8 ((and_128 _ (htp _)).mp q)))) (fun c_39 => ?_)
    refine lv_iconst (v := nI 1) hx hb dR_walkMaps_42 (by decide) ?_
    refine lv_goto (tgt := 47) hx hb dR_walkMaps_43 (by decide) ?_
    refine lv_istore_n (lv' := [(2, .int (nI 1)), (1, .int (nI nx)), (0, .ref r0)]) hx hb dR_walkMaps_47 rfl hl (by decide) rfl (fun ls hl => ?_)
    refine lv_iload_n hx hb dR_walkMaps_48 rfl (lv_at hl 0 rfl) ?_
    refine lv_if_eq (tgt := 74) hx hb dR_walkMaps_49 (by decide) (fun q => False.elim (absurd q (by decide))) (fun c_49 => ?_)
    refine lv_aload_n hx hb dR_walkMaps_52 rfl (lv_at hl 2 rfl) ?_
    refine lv_bipush (v := nI 8) hx hb dR_walkMaps_53 (by decide) ?_
    refine zc_Ri (va_runV (As := [.int (nI 8)]) (rest := []) ⟨hx, hb, hml, hown, hw⟩ (c_reaches_ok l dC dI r0 f0 fk fp t0 (nx + 8) lnb t1 len cI cB 8 (by omega) (by omega) (by omega) H) (cwV 1 hw (gV w_ml_R_79 w_im_R_reaches w_se_R_reaches w_in_R w_co_R_reaches) rfl rfl rfl (by decide +kernel) ⟨Nat.le_of_ble_eq_true rfl, Nat.le_of_ble_eq_true rfl⟩) (zR_V hG hS (hP.sub (ws' := [(r0, .inr (1, [.ref f0, .int (nI fk), .int fp, .ref t0, .int (nI (nx + 8)), .int (nI lnb)])), (t0, .inr (2, [.ref t1, .int (nI len)]))]) [0, 1] rfl) hK 0 rfl rfl) rfl rfl hl.1 rfl (lv_room (Nat.le_of_ble_eq_true rfl)) dR_walkMaps_55 ⟨Nat.le_of_ble_eq_true rfl, Nat.le_of_ble_eq_true rfl⟩) hS (fun r_11 locs h_55 hS => ?_)
    subst h_55
    refine lv_if_ne (tgt := 63) hx hb dR_walkMaps_58 (by decide) (fun c_58 => ?_) (fun q => False.elim (absurd q (by decide)))
    refine lv_aload_n hx hb dR_walkMaps_63 rfl (lv_at hl 2 rfl) ?_
    refine lv_dup hx hb dR_walkMaps_64 rfl ?_
    refine va_get (D := (dC, dI)) (ci := 1) (v := .int (nI (nx + 8))) (C := RR) (T := TR) (N := 6) hx hb hw inR hown hK hP 0 rfl rfl 4 (by decide) (hw _ w_fl_R_25) (fun _ h9 => h9) rfl dR_walkMaps_65 ?_
    refine lv_bipush (v := nI 8) hx hb dR_walkMaps_68 (by decide) ?_
    refine zi_add hx hb dR_walkMaps_70 ?_
    refine va_put (D := (dC, dI)) (ci := 1) (v := .int (nI ((nx + 8) + 8))) (ty := .int) (C := RR) (T := TR) (N := 6) hx hb hw inR tyR tyR_ok nmR hown hK hP hD hS 0 rfl rfl 4 (by decide) (hw _ w_fl_R_25) (fun _ h9 => h9) rfl (by decide +kernel) rfl rfl (Nat.le_of_ble_eq_true rfl) dR_walkMaps_71 (fun H locs hP hD hS => ?_)
    have hP : va_P (dC, dI) vwCl [(r0, .inr (1, [.ref f0, .int (nI fk), .int fp, .ref t0, .int (nI ((nx + 8) + 8)), .int (nI lnb)])), (t0, .inr (2, [.ref t1, .int (nI len)])), (t1, .inl (cB, 400, .inl (aB tp)))] H := hP
    have hD : va_D A [(r0, .inr (1, [.ref f0, .int (nI fk), .int fp, .ref t0, .int (nI ((nx + 8) + 8)), .int (nI lnb)])), (t0, .inr (2, [.ref t1, .int (nI len)])), (t1, .inl (cB, 400, .inl (aB tp)))] := hD
    refine lv_iload_n hx hb dR_walkMaps_74 rfl (lv_at hl 1 rfl) ?_
    refine lv_istore_n (lv' := [(3, .int (nI nx)), (2, .int (nI 1)), (1, .int (nI nx)), (0, .ref r0)]) hx hb dR_walkMaps_75 rfl hl (by decide) rfl (fun ls hl => ?_)
    have lp_76 : ∀ (fu : Nat) (j : Nat) (hj : j ≤ 16) (hi : mpL tp nx (16 - j) j = some (k2, p2)) (hms : 16 - j < fu) (H : Heap) (locs : List Loc) (ls : Array Slot), lv_has ls 4 [(0, .ref r0), (1, .int (nI nx)), (2, .int (nI 1)), (3, .int (nI (nx + j)))] → va_P (dC, dI) vwCl [(r0, .inr (1, [.ref f0, .int (nI fk), .int fp, .ref t0, .int (nI ((nx + 8) + 8)), .int (nI lnb)])), (t0, .inr (2, [.ref t1, .int (nI len)])), (t1, .inl (cB, 400, .inl (aB tp)))] H → va_D A [(r0, .inr (1, [.ref f0, .int (nI fk), .int fp, .ref t0, .int (nI ((nx + 8) + 8)), .int (nI lnb)])), (t0, .inr (2, [.ref t1, .int (nI len)])), (t1, .inl (cB, 400, .inl (aB tp)))] → va_S A s.heap H locs → W p l e rm_c_walkMaps_no s m ([.ref r0] : List Value).toArray below meth c H locs 0 0 Q (F0 m 76 ls []) := by
      intro fu
      induction fu with
      | zero => intro j hj hi hms; exact absurd hms (Nat.not_lt_zero _)
      | succ fu ih76 =>
        intro j hj hi hms H locs ls hl hP hD hS
        refine lv_iload_n hx hb dR_walkMaps_76 rfl (lv_at hl 3 rfl) ?_
        refine lv_aload_n hx hb dR_walkMaps_77 rfl (lv_at hl 0 rfl) ?_
        refine va_get (D := (dC, dI)) (ci := 1) (v := .int (nI ((nx + 8) + 8))) (C := RR) (T := TR) (N := 6) hx hb hw inR hown hK hP 0 rfl rfl 4 (by decide) (hw _ w_fl_R_25) (fun _ h9 => h9) rfl dR_walkMaps_78 ?_
        refine zi_ge (tgt := 118) hx hb (by omega) (by omega) dR_walkMaps_81 (by decide) (fun q => False.elim ((by have h9 := hi; rw [show 16 - j = 0 by omega] at h9; cases h9))) (fun c_81 => ?_)
        have ht9 := htp (nx + j)
        refine lv_aload_n hx hb dR_walkMaps_84 rfl (lv_at hl 0 rfl) ?_
        refine va_get (D := (dC, dI)) (ci := 1) (v := .ref t0) (C := RR) (T := TR) (N := 6) hx hb hw inR hown hK hP 0 rfl rfl 3 (by decide) (hw _ w_fl_R_31) (fun _ h9 => h9) rfl dR_walkMaps_85 ?_
        refine lv_iload_n hx hb dR_walkMaps_88 rfl (lv_at hl 3 rfl) ?_
        refine zc_Ri (va_runV (As := [.int (nI (nx + j))]) (rest := []) ⟨hx, hb, hml, hown, hw⟩ (c_T_byteAt l dC dI t0 t1 len cI cB tp (nx + j) (by omega) (htp _) H) (cwV 1 hw (gV w_ml_R_50 w_im_T_byteAt w_se_T_byteAt w_in_T w_co_T_byteAt) rfl rfl rfl (by decide +kernel) ⟨Nat.le_of_ble_eq_true rfl, Nat.le_of_ble_eq_true rfl⟩) (zR_V hG hS (hP.sub (ws' := [(t0, .inr (2, [.ref t1, .int (nI len)])), (t1, .inl (cB, 400, .inl (aB tp)))]) [1, 2] rfl) hK 0 rfl rfl) rfl rfl hl.1 rfl (lv_room (Nat.le_of_ble_eq_true rfl)) dR_walkMaps_89 ⟨Nat.le_of_ble_eq_true rfl, Nat.le_of_ble_eq_true rfl⟩) hS (fun r_12 locs h_89 hS => ?_)
        subst h_89
        refine va_getsN hx hb zfKB hS hown (va_Nw.use rfl (hG.nf (RR, 82, "KNOWN_BITS") (List.mem_of_getElem? (i := 6) rfl))) (fun _ h9 => h9) dR_walkMaps_92 ?_
        refine lv_iload_n hx hb dR_walkMaps_95 rfl (lv_at hl 3 rfl) ?_
        refine lv_iload_n hx hb dR_walkMaps_96 rfl (lv_at hl 1 rfl) ?_
        refine zi_sub hx hb (by omega) dR_walkMaps_97 ?_
        refine zi_v (b := nI j) (by rw [Nat.add_sub_cancel_left]) ?_
        refine za_tab hx hb afKB hS (by omega) (by decide) dR_walkMaps_98 ?_
        refine lv_iconst (v := (-1)) hx hb dR_walkMaps_99 (by decide) ?_
        refine lv_ixor hx hb dR_walkMaps_100 ?_
        refine lv_iand hx hb dR_walkMaps_101 ?_
        refine lv_if_eq (tgt := 112) hx hb dR_walkMaps_102 (by decide) (fun c_102 => ?_) (fun c_102 => ?_)
        · have c9 := (kb_iff j (by omega) _ (htp (nx + j))).mp c_102
          refine lv_iinc (v := nI ((nx + j) + 1)) (lv' := [(3, .int (nI ((nx + j) + 1))), (0, .ref r0), (1, .int (nI nx)), (2, .int (nI 1))]) hx hb dR_walkMaps_112 hl (k := 3) rfl (zi_incr (nx + j) 1) (by decide) rfl (fun ls hl => ?_)
          refine lv_goto (tgt := 76) hx hb dR_walkMaps_115 (by decide) ?_
          exact ih76 (j + 1) (by omega) (by have h9 := hi; rw [show 16 - j = 16 - (j + 1) + 1 by omega] at h9; unfold mpL at h9; rw [if_pos c9] at h9; exact h9) (by omega) _ _ _ (lv_sub hl [1, 2, 3, 0] rfl) (hP.sub [0, 1, 2] rfl) (hD.sub [0, 1, 2] (by decide) rfl) hS
        · have h9 := hi
          rw [show 16 - j = 16 - (j + 1) + 1 by omega] at h9
          unfold mpL at h9
          rw [if_neg (fun z => c_102 ((kb_iff j (by omega) _ (htp (nx + j))).mpr z))] at h9
          cases h9
          refine lv_aload_n hx hb dR_walkMaps_105 rfl (lv_at hl 0 rfl) ?_
          refine lv_iconst (v := nI 4) hx hb dR_walkMaps_106 (by decide) ?_
          refine lv_iload_n hx hb dR_walkMaps_107 rfl (lv_at hl 3 rfl) ?_
          have hPc := hP.sub (ws' := [(r0, .inr (1, [.ref f0, .int (nI fk), .int fp, .ref t0, .int (nI ((nx + 8) + 8)), .int (nI lnb)]))]) [0] rfl
          have hDc := hD.sub (ws' := [(r0, .inr (1, [.ref f0, .int (nI fk), .int fp, .ref t0, .int (nI ((nx + 8) + 8)), .int (nI lnb)]))]) [0] (by decide) rfl
          have hFc := va_free (wc := [(r0, .inr (1, [.ref f0, .int (nI fk), .int fp, .ref t0, .int (nI ((nx + 8) + 8)), .int (nI lnb)]))]) hD hS hA [0] rfl
          refine zc_Mi (va_runV (As := [.int (nI 4), .int (nI (nx + j))]) (rest := []) ⟨hx, hb, hml, hown, hw⟩ (c_R_fail l dC dI r0 f0 fk fp t0 ((nx + 8) + 8) lnb cI cB 4 (nI (nx + j)) H.size) (cwV 2 hw (gV w_ml_R_65 w_im_R_fail w_se_R_fail w_in_R w_co_R_fail) rfl rfl rfl (by decide +kernel) ⟨Nat.le_of_ble_eq_true rfl, Nat.le_of_ble_eq_true rfl⟩) (zM_V hG hS hFc hPc hDc hK 0 rfl rfl) rfl rfl hl.1 rfl (lv_room (Nat.le_of_ble_eq_true rfl)) dR_walkMaps_108 ⟨Nat.le_of_ble_eq_true rfl, Nat.le_of_ble_eq_true rfl⟩) hS hFc (fun r_13 H locs h_108 hP1 hD1 hk1 hS => ?_)
          obtain ⟨hP, hD⟩ := va_join (wr := [(t0, .inr (2, [.ref t1, .int (nI len)])), (t1, .inl (cB, 400, .inl (aB tp)))]) (w1 := [(r0, .inr (1, [.ref f0, .int (nI 4), .int (nI (nx + j)), .ref t0, .int (nI ((nx + 8) + 8)), .int (nI lnb)]))]) hP hD [0] [1, 2] rfl rfl (by decide) (by decide) hk1 hFc hP1 hD1
          have hP : va_P (dC, dI) vwCl [(t0, .inr (2, [.ref t1, .int (nI len)])), (t1, .inl (cB, 400, .inl (aB tp))), (r0, .inr (1, [.ref f0, .int (nI 4), .int (nI (nx + j)), .ref t0, .int (nI ((nx + 8) + 8)), .int (nI lnb)]))] H := hP
          have hD : va_D A [(t0, .inr (2, [.ref t1, .int (nI len)])), (t1, .inl (cB, 400, .inl (aB tp))), (r0, .inr (1, [.ref f0, .int (nI 4), .int (nI (nx + j)), .ref t0, .int (nI ((nx + 8) + 8)), .int (nI lnb)]))] := hD
          subst h_108
          subst hAe
          subst hQ
          exact W.zret (v := nI 0) hx hb hr (by decide) (fun t ht hW => ⟨⟨nI 0, ((nx + 8) + 8), rfl, rfl, by rw [ht]; exact hP.sub [2, 0, 1] rfl, hD.sub [2, 0, 1] (by decide) rfl⟩, hS.F ht⟩) hS.2.2 dR_walkMaps_111
    exact lp_76 ((16 - 0) + 1) 0 (by omega) hmp (Nat.lt_succ_self _) _ _ _ (lv_sub hl [3, 2, 1, 0] rfl) (hP.sub [0, 1, 2] rfl) (hD.sub [0, 1, 2] (by decide) rfl) hS
  · refine lv_aload_n hx hb dR_walkMaps_0 rfl (lv_at hl 0 rfl) ?_
    refine va_get (D := (dC, dI)) (ci := 1) (v := .int (nI nx)) (C := RR) (T := TR) (N := 6) hx hb hw inR hown hK hP 0 rfl rfl 4 (by decide) (hw _ w_fl_R_25) (fun _ h9 => h9) rfl dR_walkMaps_1 ?_
    refine lv_istore_n (lv' := [(1, .int (nI nx)), (0, .ref r0)]) hx hb dR_walkMaps_4 rfl hl (by decide) rfl (fun ls hl => ?_)
    refine lv_aload_n hx hb dR_walkMaps_5 rfl (lv_at hl 1 rfl) ?_
    refine lv_bipush (v := nI 8) hx hb dR_walkMaps_6 (by decide) ?_
    refine zc_Ri (va_runV (As := [.int (nI 8)]) (rest := []) ⟨hx, hb, hml, hown, hw⟩ (c_reaches_ok l dC dI r0 f0 fk fp t0 nx lnb t1 len cI cB 8 (by omega) (by omega) (by omega) s.heap) (cwV 1 hw (gV w_ml_R_79 w_im_R_reaches w_se_R_reaches w_in_R w_co_R_reaches) rfl rfl rfl (by decide +kernel) ⟨Nat.le_of_ble_eq_true rfl, Nat.le_of_ble_eq_true rfl⟩) (zR_V hG hS (hP.sub (ws' := [(r0, .inr (1, [.ref f0, .int (nI fk), .int fp, .ref t0, .int (nI nx), .int (nI lnb)])), (t0, .inr (2, [.ref t1, .int (nI len)]))]) [0, 1] rfl) hK 0 rfl rfl) rfl rfl hl.1 rfl (lv_room (Nat.le_of_ble_eq_true rfl)) dR_walkMaps_8 ⟨Nat.le_of_ble_eq_true rfl, Nat.le_of_ble_eq_true rfl⟩) hS (fun r_14 locs h_8 hS => ?_)
    subst h_8
    refine lv_if_ne (tgt := 16) hx hb dR_walkMaps_11 (by decide) (fun c_11 => ?_) (fun q => False.elim (absurd q (by decide)))
    refine lv_aload_n hx hb dR_walkMaps_16 rfl (lv_at hl 1 rfl) ?_
    refine lv_dup hx hb dR_walkMaps_17 rfl ?_
    refine va_get (D := (dC, dI)) (ci := 1) (v := .int (nI nx)) (C := RR) (T := TR) (N := 6) hx hb hw inR hown hK hP 0 rfl rfl 4 (by decide) (hw _ w_fl_R_25) (fun _ h9 => h9) rfl dR_walkMaps_18 ?_
    refine lv_bipush (v := nI 8) hx hb dR_walkMaps_21 (by decide) ?_
    refine zi_add hx hb dR_walkMaps_23 ?_
    refine va_put (D := (dC, dI)) (ci := 1) (v := .int (nI (nx + 8))) (ty := .int) (C := RR) (T := TR) (N := 6) hx hb hw inR tyR tyR_ok nmR hown hK hP hD hS 0 rfl rfl 4 (by decide) (hw _ w_fl_R_25) (fun _ h9 => h9) rfl (by decide +kernel) rfl rfl (Nat.le_of_ble_eq_true rfl) dR_walkMaps_24 (fun H locs hP hD hS => ?_)
    have hP : va_P (dC, dI) vwCl [(r0, .inr (1, [.ref f0, .int (nI fk), .int fp, .ref t0, .int (nI (nx + 8)), .int (nI lnb)])), (t0, .inr (2, [.ref t1, .int (nI len)])), (t1, .inl (cB, 400, .inl (aB tp)))] H := hP
    have hD : va_D A [(r0, .inr (1, [.ref f0, .int (nI fk), .int fp, .ref t0, .int (nI (nx + 8)), .int (nI lnb)])), (t0, .inr (2, [.ref t1, .int (nI len)])), (t1, .inl (cB, 400, .inl (aB tp)))] := hD
    refine lv_aload_n hx hb dR_walkMaps_27 rfl (lv_at hl 1 rfl) ?_
    refine va_get (D := (dC, dI)) (ci := 1) (v := .ref t0) (C := RR) (T := TR) (N := 6) hx hb hw inR hown hK hP 0 rfl rfl 3 (by decide) (hw _ w_fl_R_31) (fun _ h9 => h9) rfl dR_walkMaps_28 ?_
    refine lv_iload_n hx hb dR_walkMaps_31 rfl (lv_at hl 0 rfl) ?_
    refine zc_Ri (va_runV (As := [.int (nI nx)]) (rest := []) ⟨hx, hb, hml, hown, hw⟩ (c_T_byteAt l dC dI t0 t1 len cI cB tp nx (by omega) (htp _) H) (cwV 1 hw (gV w_ml_R_50 w_im_T_byteAt w_se_T_byteAt w_in_T w_co_T_byteAt) rfl rfl rfl (by decide +kernel) ⟨Nat.le_of_ble_eq_true rfl, Nat.le_of_ble_eq_true rfl⟩) (zR_V hG hS (hP.sub (ws' := [(t0, .inr (2, [.ref t1, .int (nI len)])), (t1, .inl (cB, 400, .inl (aB tp)))]) [1, 2] rfl) hK 0 rfl rfl) rfl rfl hl.1 rfl (lv_room (Nat.le_of_ble_eq_true rfl)) dR_walkMaps_32 ⟨Nat.le_of_ble_eq_true rfl, Nat.le_of_ble_eq_true rfl⟩) hS (fun r_15 locs h_32 hS => ?_)
    subst h_32
    refine lv_sipush (v := nI 128) hx hb dR_walkMaps_35 (by decide) ?_
    refine lv_iand hx hb dR_walkMaps_38 ?_
    refine zi_v (b := nI ((tp nx) &&& 128)) (nI_and _ _) ?_
    refine zi_eq0 (tgt := 46) hx hb (lt_and (by decide)) dR_walkMaps_39 (by decide) (fun q => False.elim ((h8 ((and_128 _ (htp _)).mp q)))) (fun c_39 => ?_)
    refine lv_iconst (v := nI 1) hx hb dR_walkMaps_42 (by decide) ?_
    refine lv_goto (tgt := 47) hx hb dR_walkMaps_43 (by decide) ?_
    refine lv_istore_n (lv' := [(2, .int (nI 1)), (1, .int (nI nx)), (0, .ref r0)]) hx hb dR_walkMaps_47 rfl hl (by decide) rfl (fun ls hl => ?_)
    refine lv_iload_n hx hb dR_walkMaps_48 rfl (lv_at hl 0 rfl) ?_
    refine lv_if_eq (tgt := 74) hx hb dR_walkMaps_49 (by decide) (fun q => False.elim (absurd q (by decide))) (fun c_49 => ?_)
    refine lv_aload_n hx hb dR_walkMaps_52 rfl (lv_at hl 2 rfl) ?_
    refine lv_bipush (v := nI 8) hx hb dR_walkMaps_53 (by decide) ?_
    refine zc_Ri (va_runV (As := [.int (nI 8)]) (rest := []) ⟨hx, hb, hml, hown, hw⟩ (c_reaches_ok l dC dI r0 f0 fk fp t0 (nx + 8) lnb t1 len cI cB 8 (by omega) (by omega) (by omega) H) (cwV 1 hw (gV w_ml_R_79 w_im_R_reaches w_se_R_reaches w_in_R w_co_R_reaches) rfl rfl rfl (by decide +kernel) ⟨Nat.le_of_ble_eq_true rfl, Nat.le_of_ble_eq_true rfl⟩) (zR_V hG hS (hP.sub (ws' := [(r0, .inr (1, [.ref f0, .int (nI fk), .int fp, .ref t0, .int (nI (nx + 8)), .int (nI lnb)])), (t0, .inr (2, [.ref t1, .int (nI len)]))]) [0, 1] rfl) hK 0 rfl rfl) rfl rfl hl.1 rfl (lv_room (Nat.le_of_ble_eq_true rfl)) dR_walkMaps_55 ⟨Nat.le_of_ble_eq_true rfl, Nat.le_of_ble_eq_true rfl⟩) hS (fun r_16 locs h_55 hS => ?_)
    subst h_55
    refine lv_if_ne (tgt := 63) hx hb dR_walkMaps_58 (by decide) (fun c_58 => ?_) (fun q => False.elim (absurd q (by decide)))
    refine lv_aload_n hx hb dR_walkMaps_63 rfl (lv_at hl 2 rfl) ?_
    refine lv_dup hx hb dR_walkMaps_64 rfl ?_
    refine va_get (D := (dC, dI)) (ci := 1) (v := .int (nI (nx + 8))) (C := RR) (T := TR) (N := 6) hx hb hw inR hown hK hP 0 rfl rfl 4 (by decide) (hw _ w_fl_R_25) (fun _ h9 => h9) rfl dR_walkMaps_65 ?_
    refine lv_bipush (v := nI 8) hx hb dR_walkMaps_68 (by decide) ?_
    refine zi_add hx hb dR_walkMaps_70 ?_
    refine va_put (D := (dC, dI)) (ci := 1) (v := .int (nI ((nx + 8) + 8))) (ty := .int) (C := RR) (T := TR) (N := 6) hx hb hw inR tyR tyR_ok nmR hown hK hP hD hS 0 rfl rfl 4 (by decide) (hw _ w_fl_R_25) (fun _ h9 => h9) rfl (by decide +kernel) rfl rfl (Nat.le_of_ble_eq_true rfl) dR_walkMaps_71 (fun H locs hP hD hS => ?_)
    have hP : va_P (dC, dI) vwCl [(r0, .inr (1, [.ref f0, .int (nI fk), .int fp, .ref t0, .int (nI ((nx + 8) + 8)), .int (nI lnb)])), (t0, .inr (2, [.ref t1, .int (nI len)])), (t1, .inl (cB, 400, .inl (aB tp)))] H := hP
    have hD : va_D A [(r0, .inr (1, [.ref f0, .int (nI fk), .int fp, .ref t0, .int (nI ((nx + 8) + 8)), .int (nI lnb)])), (t0, .inr (2, [.ref t1, .int (nI len)])), (t1, .inl (cB, 400, .inl (aB tp)))] := hD
    refine lv_iload_n hx hb dR_walkMaps_74 rfl (lv_at hl 1 rfl) ?_
    refine lv_istore_n (lv' := [(3, .int (nI nx)), (2, .int (nI 1)), (1, .int (nI nx)), (0, .ref r0)]) hx hb dR_walkMaps_75 rfl hl (by decide) rfl (fun ls hl => ?_)
    have lp_76 : ∀ (fu : Nat) (j : Nat) (hj : j ≤ 16) (hi : mpL tp nx (16 - j) j = none) (hms : 16 - j < fu) (H : Heap) (locs : List Loc) (ls : Array Slot), lv_has ls 4 [(0, .ref r0), (1, .int (nI nx)), (2, .int (nI 1)), (3, .int (nI (nx + j)))] → va_P (dC, dI) vwCl [(r0, .inr (1, [.ref f0, .int (nI fk), .int fp, .ref t0, .int (nI ((nx + 8) + 8)), .int (nI lnb)])), (t0, .inr (2, [.ref t1, .int (nI len)])), (t1, .inl (cB, 400, .inl (aB tp)))] H → va_D A [(r0, .inr (1, [.ref f0, .int (nI fk), .int fp, .ref t0, .int (nI ((nx + 8) + 8)), .int (nI lnb)])), (t0, .inr (2, [.ref t1, .int (nI len)])), (t1, .inl (cB, 400, .inl (aB tp)))] → va_S A s.heap H locs → W p l e rm_c_walkMaps_no s m ([.ref r0] : List Value).toArray below meth c H locs 0 0 Q (F0 m 76 ls []) := by
      intro fu
      induction fu with
      | zero => intro j hj hi hms; exact absurd hms (Nat.not_lt_zero _)
      | succ fu ih76 =>
        intro j hj hi hms H locs ls hl hP hD hS
        refine lv_iload_n hx hb dR_walkMaps_76 rfl (lv_at hl 3 rfl) ?_
        refine lv_aload_n hx hb dR_walkMaps_77 rfl (lv_at hl 0 rfl) ?_
        refine va_get (D := (dC, dI)) (ci := 1) (v := .int (nI ((nx + 8) + 8))) (C := RR) (T := TR) (N := 6) hx hb hw inR hown hK hP 0 rfl rfl 4 (by decide) (hw _ w_fl_R_25) (fun _ h9 => h9) rfl dR_walkMaps_78 ?_
        refine zi_ge (tgt := 118) hx hb (by omega) (by omega) dR_walkMaps_81 (by decide) (fun c_81 => ?_) (fun c_81 => ?_)
        · refine lv_iload_n hx hb dR_walkMaps_118 rfl (lv_at hl 2 rfl) ?_
          refine lv_if_eq (tgt := 145) hx hb dR_walkMaps_119 (by decide) (fun q => False.elim (absurd q (by decide))) (fun c_119 => ?_)
          refine lv_aload_n hx hb dR_walkMaps_122 rfl (lv_at hl 0 rfl) ?_
          refine lv_iload_n hx hb dR_walkMaps_123 rfl (lv_at hl 1 rfl) ?_
          refine lv_bipush (v := nI 8) hx hb dR_walkMaps_124 (by decide) ?_
          refine zi_add hx hb dR_walkMaps_126 ?_
          refine zc_Ri (va_runV (As := [.int (nI (nx + 8))]) (rest := []) ⟨hx, hb, hml, hown, hw⟩ (c_hasBit_no l dC dI r0 f0 fk fp t0 ((nx + 8) + 8) lnb t1 len cI cB tp (nx + 8) htp (by omega) hany H) (cwV 1 hw (gV w_ml_R_85 w_im_R_hasBit w_se_R_hasBit w_in_R w_co_R_hasBit) rfl rfl rfl (by decide +kernel) ⟨Nat.le_of_ble_eq_true rfl, Nat.le_of_ble_eq_true rfl⟩) (zR_V hG hS (hP.sub (ws' := [(r0, .inr (1, [.ref f0, .int (nI fk), .int fp, .ref t0, .int (nI ((nx + 8) + 8)), .int (nI lnb)])), (t0, .inr (2, [.ref t1, .int (nI len)])), (t1, .inl (cB, 400, .inl (aB tp)))]) [0, 1, 2] rfl) hK 0 rfl rfl) rfl rfl hl.1 rfl (lv_room (Nat.le_of_ble_eq_true rfl)) dR_walkMaps_127 ⟨Nat.le_of_ble_eq_true rfl, Nat.le_of_ble_eq_true rfl⟩) hS (fun r_17 locs h_127 hS => ?_)
          subst h_127
          refine lv_if_ne (tgt := 145) hx hb dR_walkMaps_130 (by decide) (fun q => False.elim (absurd q (by decide))) (fun c_130 => ?_)
          refine lv_aload_n hx hb dR_walkMaps_133 rfl (lv_at hl 0 rfl) ?_
          refine lv_iconst (v := nI 4) hx hb dR_walkMaps_134 (by decide) ?_
          refine lv_iload_n hx hb dR_walkMaps_135 rfl (lv_at hl 1 rfl) ?_
          refine lv_bipush (v := nI 8) hx hb dR_walkMaps_136 (by decide) ?_
          refine zi_add hx hb dR_walkMaps_138 ?_
          have hPc := hP.sub (ws' := [(r0, .inr (1, [.ref f0, .int (nI fk), .int fp, .ref t0, .int (nI ((nx + 8) + 8)), .int (nI lnb)]))]) [0] rfl
          have hDc := hD.sub (ws' := [(r0, .inr (1, [.ref f0, .int (nI fk), .int fp, .ref t0, .int (nI ((nx + 8) + 8)), .int (nI lnb)]))]) [0] (by decide) rfl
          have hFc := va_free (wc := [(r0, .inr (1, [.ref f0, .int (nI fk), .int fp, .ref t0, .int (nI ((nx + 8) + 8)), .int (nI lnb)]))]) hD hS hA [0] rfl
          refine zc_Mi (va_runV (As := [.int (nI 4), .int (nI (nx + 8))]) (rest := []) ⟨hx, hb, hml, hown, hw⟩ (c_R_fail l dC dI r0 f0 fk fp t0 ((nx + 8) + 8) lnb cI cB 4 (nI (nx + 8)) H.size) (cwV 2 hw (gV w_ml_R_65 w_im_R_fail w_se_R_fail w_in_R w_co_R_fail) rfl rfl rfl (by decide +kernel) ⟨Nat.le_of_ble_eq_true rfl, Nat.le_of_ble_eq_true rfl⟩) (zM_V hG hS hFc hPc hDc hK 0 rfl rfl) rfl rfl hl.1 rfl (lv_room (Nat.le_of_ble_eq_true rfl)) dR_walkMaps_139 ⟨Nat.le_of_ble_eq_true rfl, Nat.le_of_ble_eq_true rfl⟩) hS hFc (fun r_18 H locs h_139 hP1 hD1 hk1 hS => ?_)
          obtain ⟨hP, hD⟩ := va_join (wr := [(t0, .inr (2, [.ref t1, .int (nI len)])), (t1, .inl (cB, 400, .inl (aB tp)))]) (w1 := [(r0, .inr (1, [.ref f0, .int (nI 4), .int (nI (nx + 8)), .ref t0, .int (nI ((nx + 8) + 8)), .int (nI lnb)]))]) hP hD [0] [1, 2] rfl rfl (by decide) (by decide) hk1 hFc hP1 hD1
          have hP : va_P (dC, dI) vwCl [(t0, .inr (2, [.ref t1, .int (nI len)])), (t1, .inl (cB, 400, .inl (aB tp))), (r0, .inr (1, [.ref f0, .int (nI 4), .int (nI (nx + 8)), .ref t0, .int (nI ((nx + 8) + 8)), .int (nI lnb)]))] H := hP
          have hD : va_D A [(t0, .inr (2, [.ref t1, .int (nI len)])), (t1, .inl (cB, 400, .inl (aB tp))), (r0, .inr (1, [.ref f0, .int (nI 4), .int (nI (nx + 8)), .ref t0, .int (nI ((nx + 8) + 8)), .int (nI lnb)]))] := hD
          subst h_139
          refine lv_if_eq (tgt := 149) hx hb dR_walkMaps_142 (by decide) (fun c_142 => ?_) (fun q => False.elim (absurd q (by decide)))
          refine lv_iconst (v := nI 0) hx hb dR_walkMaps_149 (by decide) ?_
          subst hAe
          subst hQ
          exact W.zret (v := nI 0) hx hb hr (by decide) (fun t ht hW => ⟨⟨nI 0, ((nx + 8) + 8), rfl, rfl, by rw [ht]; exact hP.sub [2, 0, 1] rfl, hD.sub [2, 0, 1] (by decide) rfl⟩, hS.F ht⟩) hS.2.2 dR_walkMaps_150
        · have ht9 := htp (nx + j)
          refine lv_aload_n hx hb dR_walkMaps_84 rfl (lv_at hl 0 rfl) ?_
          refine va_get (D := (dC, dI)) (ci := 1) (v := .ref t0) (C := RR) (T := TR) (N := 6) hx hb hw inR hown hK hP 0 rfl rfl 3 (by decide) (hw _ w_fl_R_31) (fun _ h9 => h9) rfl dR_walkMaps_85 ?_
          refine lv_iload_n hx hb dR_walkMaps_88 rfl (lv_at hl 3 rfl) ?_
          refine zc_Ri (va_runV (As := [.int (nI (nx + j))]) (rest := []) ⟨hx, hb, hml, hown, hw⟩ (c_T_byteAt l dC dI t0 t1 len cI cB tp (nx + j) (by omega) (htp _) H) (cwV 1 hw (gV w_ml_R_50 w_im_T_byteAt w_se_T_byteAt w_in_T w_co_T_byteAt) rfl rfl rfl (by decide +kernel) ⟨Nat.le_of_ble_eq_true rfl, Nat.le_of_ble_eq_true rfl⟩) (zR_V hG hS (hP.sub (ws' := [(t0, .inr (2, [.ref t1, .int (nI len)])), (t1, .inl (cB, 400, .inl (aB tp)))]) [1, 2] rfl) hK 0 rfl rfl) rfl rfl hl.1 rfl (lv_room (Nat.le_of_ble_eq_true rfl)) dR_walkMaps_89 ⟨Nat.le_of_ble_eq_true rfl, Nat.le_of_ble_eq_true rfl⟩) hS (fun r_19 locs h_89 hS => ?_)
          subst h_89
          refine va_getsN hx hb zfKB hS hown (va_Nw.use rfl (hG.nf (RR, 82, "KNOWN_BITS") (List.mem_of_getElem? (i := 6) rfl))) (fun _ h9 => h9) dR_walkMaps_92 ?_
          refine lv_iload_n hx hb dR_walkMaps_95 rfl (lv_at hl 3 rfl) ?_
          refine lv_iload_n hx hb dR_walkMaps_96 rfl (lv_at hl 1 rfl) ?_
          refine zi_sub hx hb (by omega) dR_walkMaps_97 ?_
          refine zi_v (b := nI j) (by rw [Nat.add_sub_cancel_left]) ?_
          refine za_tab hx hb afKB hS (by omega) (by decide) dR_walkMaps_98 ?_
          refine lv_iconst (v := (-1)) hx hb dR_walkMaps_99 (by decide) ?_
          refine lv_ixor hx hb dR_walkMaps_100 ?_
          refine lv_iand hx hb dR_walkMaps_101 ?_
          refine lv_if_eq (tgt := 112) hx hb dR_walkMaps_102 (by decide) (fun c_102 => ?_) (fun q => False.elim ((by have h9 := hi; rw [show 16 - j = 16 - (j + 1) + 1 by omega] at h9; unfold mpL at h9; rw [if_neg (fun z => q ((kb_iff j (by omega) _ (htp (nx + j))).mpr z))] at h9; cases h9)))
          have c9 := (kb_iff j (by omega) _ (htp (nx + j))).mp c_102
          refine lv_iinc (v := nI ((nx + j) + 1)) (lv' := [(3, .int (nI ((nx + j) + 1))), (0, .ref r0), (1, .int (nI nx)), (2, .int (nI 1))]) hx hb dR_walkMaps_112 hl (k := 3) rfl (zi_incr (nx + j) 1) (by decide) rfl (fun ls hl => ?_)
          refine lv_goto (tgt := 76) hx hb dR_walkMaps_115 (by decide) ?_
          exact ih76 (j + 1) (by omega) (by have h9 := hi; rw [show 16 - j = 16 - (j + 1) + 1 by omega] at h9; unfold mpL at h9; rw [if_pos c9] at h9; exact h9) (by omega) _ _ _ (lv_sub hl [1, 2, 3, 0] rfl) (hP.sub [0, 1, 2] rfl) (hD.sub [0, 1, 2] (by decide) rfl) hS
    exact lp_76 ((16 - 0) + 1) 0 (by omega) hmp (Nat.lt_succ_self _) _ _ _ (lv_sub hl [3, 2, 1, 0] rfl) (hP.sub [0, 1, 2] rfl) (hD.sub [0, 1, 2] (by decide) rfl) hS
def rm_c_walk_ok : Room := ({ frames := 5, cells := 0, slots := 0, locals := 112 } : Room)
set_option maxHeartbeats 4000000 in
set_option maxRecDepth 100000 in
theorem c_walk_ok (l : Launch) (dC : Nat → ClassId) (dI : Nat → Nat → Nat) (r0 : Nat) (f0 : Nat) (fk : Nat) (fp : Int32) (t0 : Nat) (nx : Nat) (lnb : Nat) (t1 : Nat) (len : Nat) (cI : ClassId) (cB : ClassId) (tp : Nat → Nat) (f1 : Nat) (f2 : Nat) (ty : Nat) (cnt : Nat → Nat) (mk : Nat → Nat) (hln : len ≤ 400) (htp : ∀ j, tp j < 256) (hm : ∀ j, mk j < 128) (hd : pF tp len = none) (sz : Nat) : Met l yR_walk wsR_walk rm_c_walk_ok (zM (dC, dI) [(cI, .int), (cB, .byte)] [.ref r0] [(r0, .inr (1, [.ref f0, .int (nI fk), .int fp, .ref t0, .int (nI nx), .int (nI lnb)])), (t0, .inr (2, [.ref t1, .int (nI len)])), (t1, .inl (cB, 400, .inl (aB tp))), (f0, .inr (0, [.int (nI ty), .ref f1, .ref f2])), (f1, .inl (cI, 16, .inl (aN cnt))), (f2, .inl (cB, 208, .inl (aN mk)))] sz) (zSi (dC, dI) [(r0, .inr (1, [.ref f0, .int (nI fk), .int fp, .ref t0, .int (nI nx), .int (nI lnb)])), (t0, .inr (2, [.ref t1, .int (nI len)])), (t1, .inl (cB, 400, .inl (aB tp))), (f0, .inr (0, [.int (nI ty), .ref f1, .ref f2])), (f1, .inl (cI, 16, .inl (aN cnt))), (f2, .inl (cB, 208, .inl (aN mk)))] sz (fun r (u : Nat × Nat) => r = nI 1) (fun u => [(r0, .inr (1, [.ref f0, .int (nI 0), .int (-1), .ref t0, .int (nI u.1), .int (nI u.2)])), (t0, .inr (2, [.ref t1, .int (nI len)])), (t1, .inl (cB, 400, .inl (aB tp))), (f0, .inr (0, [.int (nI (nmA tp 0 4 4 0 0)), .ref f1, .ref f2])), (f1, .inl (cI, 16, .inl (aN (wkC tp (wid tp 2) 16 0 (2 + wid tp 2) (zc cnt 16))))), (f2, .inl (cB, 208, .inl (aN (wkM tp (wid tp 2) 16 0 (2 + wid tp 2) mk))))])) 0 0 (va_A [(r0, .inr (1, [.ref f0, .int (nI fk), .int fp, .ref t0, .int (nI nx), .int (nI lnb)])), (t0, .inr (2, [.ref t1, .int (nI len)])), (t1, .inl (cB, 400, .inl (aB tp))), (f0, .inr (0, [.int (nI ty), .ref f1, .ref f2])), (f1, .inl (cI, 16, .inl (aN cnt))), (f2, .inl (cB, 208, .inl (aN mk)))] sz) := by
  refine Met.ofW (cc := cR_walk) (maxL := 5) (ret := (some .boolean)) (by decide) rfl ?_
  intro p e s m args below meth c s₁ Bd hml hv
  obtain ⟨rfl, hsz, hG, hP, hK, hD0⟩ := hv
  subst hsz
  have hx := Bd.exec
  have hb := Bd.bytes
  have hr := Bd.returns
  have hts := atoms_spec (ws := wsR_walk) Bd.pre
  have hw : ∀ w ∈ BIG, w.before _ s = true := fun w h => hts w (List.mem_cons_of_mem _ h)
  have hown : s.vm.findClass RR = some m.cls := findClass_of_methodNamed Bd.named
  have hlocks := Bd.notSynchronized
  have hD := hD0.self (sz := s.heap.size)
  obtain ⟨A, hAe⟩ : ∃ A, A = va_A [(r0, .inr (1, [.ref f0, .int (nI fk), .int fp, .ref t0, .int (nI nx), .int (nI lnb)])), (t0, .inr (2, [.ref t1, .int (nI len)])), (t1, .inl (cB, 400, .inl (aB tp))), (f0, .inr (0, [.int (nI ty), .ref f1, .ref f2])), (f1, .inl (cI, 16, .inl (aN cnt))), (f2, .inl (cB, 208, .inl (aN mk)))] s.heap.size := ⟨_, rfl⟩
  have hA : ∀ q : Nat, s.heap.size ≤ q → A q := fun q h => by rw [hAe]; exact Or.inr h
  rw [← hAe] at hG hD
  have hS : va_S A s.heap s.heap [] := va_S.rf
  have hl := lv_entry ([.ref r0]) (n := 5) (Nat.le_of_ble_eq_true rfl)
  rw [lg_entry_eq]
  generalize (lg_sl ([.ref r0]) ++ List.replicate (5 - (lg_sl ([.ref r0])).length) Slot.unset).toArray = ls at hl ⊢
  have hl : lv_has ls 5 [(0, .ref r0)] := hl
  refine zq_name (fun Q hQ => ?_)
  change W p l e rm_c_walk_ok s m _ below meth c _ _ _ _ Q _
  obtain ⟨tfFI, zfFI, afFI⟩ := hG.FIELDS
  obtain ⟨hd1, hty, hmp, hwk⟩ := pF_ok hd
  have hmf := mapsF_fit hmp
  have hs9 := dgF_fit hd1
  refine lv_aload_n hx hb dR_walk_0 rfl (lv_at hl 0 rfl) ?_
  refine lv_iconst (v := nI 0) hx hb dR_walk_1 (by decide) ?_
  refine va_put (D := (dC, dI)) (ci := 1) (v := .int (nI 0)) (ty := .int) (C := RR) (T := TR) (N := 6) hx hb hw inR tyR tyR_ok nmR hown hK hP hD hS 0 rfl rfl 1 (by decide) (hw _ w_fl_R_18) (fun _ h9 => h9) rfl (by decide +kernel) rfl rfl (Nat.le_of_ble_eq_true rfl) dR_walk_2 (fun H locs hP hD hS => ?_)
  have hP : va_P (dC, dI) vwCl [(r0, .inr (1, [.ref f0, .int (nI 0), .int fp, .ref t0, .int (nI nx), .int (nI lnb)])), (t0, .inr (2, [.ref t1, .int (nI len)])), (t1, .inl (cB, 400, .inl (aB tp))), (f0, .inr (0, [.int (nI ty), .ref f1, .ref f2])), (f1, .inl (cI, 16, .inl (aN cnt))), (f2, .inl (cB, 208, .inl (aN mk)))] H := hP
  have hD : va_D A [(r0, .inr (1, [.ref f0, .int (nI 0), .int fp, .ref t0, .int (nI nx), .int (nI lnb)])), (t0, .inr (2, [.ref t1, .int (nI len)])), (t1, .inl (cB, 400, .inl (aB tp))), (f0, .inr (0, [.int (nI ty), .ref f1, .ref f2])), (f1, .inl (cI, 16, .inl (aN cnt))), (f2, .inl (cB, 208, .inl (aN mk)))] := hD
  refine lv_aload_n hx hb dR_walk_5 rfl (lv_at hl 0 rfl) ?_
  refine lv_iconst (v := (-1)) hx hb dR_walk_6 (by decide) ?_
  refine va_put (D := (dC, dI)) (ci := 1) (v := .int (-1)) (ty := .int) (C := RR) (T := TR) (N := 6) hx hb hw inR tyR tyR_ok nmR hown hK hP hD hS 0 rfl rfl 2 (by decide) (hw _ w_fl_R_22) (fun _ h9 => h9) rfl (by decide +kernel) rfl rfl (Nat.le_of_ble_eq_true rfl) dR_walk_7 (fun H locs hP hD hS => ?_)
  have hP : va_P (dC, dI) vwCl [(r0, .inr (1, [.ref f0, .int (nI 0), .int (-1), .ref t0, .int (nI nx), .int (nI lnb)])), (t0, .inr (2, [.ref t1, .int (nI len)])), (t1, .inl (cB, 400, .inl (aB tp))), (f0, .inr (0, [.int (nI ty), .ref f1, .ref f2])), (f1, .inl (cI, 16, .inl (aN cnt))), (f2, .inl (cB, 208, .inl (aN mk)))] H := hP
  have hD : va_D A [(r0, .inr (1, [.ref f0, .int (nI 0), .int (-1), .ref t0, .int (nI nx), .int (nI lnb)])), (t0, .inr (2, [.ref t1, .int (nI len)])), (t1, .inl (cB, 400, .inl (aB tp))), (f0, .inr (0, [.int (nI ty), .ref f1, .ref f2])), (f1, .inl (cI, 16, .inl (aN cnt))), (f2, .inl (cB, 208, .inl (aN mk)))] := hD
  refine lv_aload_n hx hb dR_walk_10 rfl (lv_at hl 0 rfl) ?_
  refine lv_iconst (v := nI 0) hx hb dR_walk_11 (by decide) ?_
  refine va_put (D := (dC, dI)) (ci := 1) (v := .int (nI 0)) (ty := .int) (C := RR) (T := TR) (N := 6) hx hb hw inR tyR tyR_ok nmR hown hK hP hD hS 0 rfl rfl 4 (by decide) (hw _ w_fl_R_25) (fun _ h9 => h9) rfl (by decide +kernel) rfl rfl (Nat.le_of_ble_eq_true rfl) dR_walk_12 (fun H locs hP hD hS => ?_)
  have hP : va_P (dC, dI) vwCl [(r0, .inr (1, [.ref f0, .int (nI 0), .int (-1), .ref t0, .int (nI 0), .int (nI lnb)])), (t0, .inr (2, [.ref t1, .int (nI len)])), (t1, .inl (cB, 400, .inl (aB tp))), (f0, .inr (0, [.int (nI ty), .ref f1, .ref f2])), (f1, .inl (cI, 16, .inl (aN cnt))), (f2, .inl (cB, 208, .inl (aN mk)))] H := hP
  have hD : va_D A [(r0, .inr (1, [.ref f0, .int (nI 0), .int (-1), .ref t0, .int (nI 0), .int (nI lnb)])), (t0, .inr (2, [.ref t1, .int (nI len)])), (t1, .inl (cB, 400, .inl (aB tp))), (f0, .inr (0, [.int (nI ty), .ref f1, .ref f2])), (f1, .inl (cI, 16, .inl (aN cnt))), (f2, .inl (cB, 208, .inl (aN mk)))] := hD
  refine lv_aload_n hx hb dR_walk_15 rfl (lv_at hl 0 rfl) ?_
  have hPc := hP.sub (ws' := [(r0, .inr (1, [.ref f0, .int (nI 0), .int (-1), .ref t0, .int (nI 0), .int (nI lnb)])), (t0, .inr (2, [.ref t1, .int (nI len)])), (t1, .inl (cB, 400, .inl (aB tp))), (f0, .inr (0, [.int (nI ty), .ref f1, .ref f2])), (f1, .inl (cI, 16, .inl (aN cnt))), (f2, .inl (cB, 208, .inl (aN mk)))]) [0, 1, 2, 3, 4, 5] rfl
  have hDc := hD.sub (ws' := [(r0, .inr (1, [.ref f0, .int (nI 0), .int (-1), .ref t0, .int (nI 0), .int (nI lnb)])), (t0, .inr (2, [.ref t1, .int (nI len)])), (t1, .inl (cB, 400, .inl (aB tp))), (f0, .inr (0, [.int (nI ty), .ref f1, .ref f2])), (f1, .inl (cI, 16, .inl (aN cnt))), (f2, .inl (cB, 208, .inl (aN mk)))]) [0, 1, 2, 3, 4, 5] (by decide) rfl
  have hFc := va_free (wc := [(r0, .inr (1, [.ref f0, .int (nI 0), .int (-1), .ref t0, .int (nI 0), .int (nI lnb)])), (t0, .inr (2, [.ref t1, .int (nI len)])), (t1, .inl (cB, 400, .inl (aB tp))), (f0, .inr (0, [.int (nI ty), .ref f1, .ref f2])), (f1, .inl (cI, 16, .inl (aN cnt))), (f2, .inl (cB, 208, .inl (aN mk)))]) hD hS hA [0, 1, 2, 3, 4, 5] rfl
  refine zc_Mi (va_runV (As := []) (rest := []) ⟨hx, hb, hml, hown, hw⟩ (c_walkType_ok l dC dI r0 f0 0 (-1) t0 0 lnb t1 len cI cB tp f1 f2 ty cnt mk (by omega) (by omega) htp hd1 (isTy_t hty) H.size) (cwV 0 hw (gV w_ml_R_35 w_im_R_walkType w_se_R_walkType w_in_R w_co_R_walkType) rfl rfl rfl (by decide +kernel) ⟨Nat.le_of_ble_eq_true rfl, Nat.le_of_ble_eq_true rfl⟩) (zM_V hG hS hFc hPc hDc hK 0 rfl rfl) rfl rfl hl.1 rfl (lv_room (Nat.le_of_ble_eq_true rfl)) dR_walk_16 ⟨Nat.le_of_ble_eq_true rfl, Nat.le_of_ble_eq_true rfl⟩) hS hFc (fun r_1 H locs h_16 hP1 hD1 hk1 hS => ?_)
  obtain ⟨hP, hD⟩ := va_join (wr := []) (w1 := [(r0, .inr (1, [.ref f0, .int (nI 0), .int (-1), .ref t0, .int (nI (0 + 2)), .int (nI (nmA tp 0 4 4 0 0))])), (t0, .inr (2, [.ref t1, .int (nI len)])), (t1, .inl (cB, 400, .inl (aB tp))), (f0, .inr (0, [.int (nI (nmA tp 0 4 4 0 0)), .ref f1, .ref f2])), (f1, .inl (cI, 16, .inl (aN (zc cnt 16)))), (f2, .inl (cB, 208, .inl (aN mk)))]) hP hD [0, 1, 2, 3, 4, 5] [] rfl rfl (by decide) (by decide) hk1 hFc hP1 hD1
  have hP : va_P (dC, dI) vwCl [(r0, .inr (1, [.ref f0, .int (nI 0), .int (-1), .ref t0, .int (nI (0 + 2)), .int (nI (nmA tp 0 4 4 0 0))])), (t0, .inr (2, [.ref t1, .int (nI len)])), (t1, .inl (cB, 400, .inl (aB tp))), (f0, .inr (0, [.int (nI (nmA tp 0 4 4 0 0)), .ref f1, .ref f2])), (f1, .inl (cI, 16, .inl (aN (zc cnt 16)))), (f2, .inl (cB, 208, .inl (aN mk)))] H := hP
  have hD : va_D A [(r0, .inr (1, [.ref f0, .int (nI 0), .int (-1), .ref t0, .int (nI (0 + 2)), .int (nI (nmA tp 0 4 4 0 0))])), (t0, .inr (2, [.ref t1, .int (nI len)])), (t1, .inl (cB, 400, .inl (aB tp))), (f0, .inr (0, [.int (nI (nmA tp 0 4 4 0 0)), .ref f1, .ref f2])), (f1, .inl (cI, 16, .inl (aN (zc cnt 16)))), (f2, .inl (cB, 208, .inl (aN mk)))] := hD
  subst h_16
  refine lv_if_ne (tgt := 24) hx hb dR_walk_19 (by decide) (fun c_19 => ?_) (fun q => False.elim (absurd q (by decide)))
  have hP : va_P (dC, dI) vwCl [(r0, .inr (1, [.ref f0, .int (nI 0), .int (-1), .ref t0, .int (nI 2), .int (nI (nmA tp 0 4 4 0 0))])), (t0, .inr (2, [.ref t1, .int (nI len)])), (t1, .inl (cB, 400, .inl (aB tp))), (f0, .inr (0, [.int (nI (nmA tp 0 4 4 0 0)), .ref f1, .ref f2])), (f1, .inl (cI, 16, .inl (aN (zc cnt 16)))), (f2, .inl (cB, 208, .inl (aN mk)))] H := hP
  have hD : va_D A [(r0, .inr (1, [.ref f0, .int (nI 0), .int (-1), .ref t0, .int (nI 2), .int (nI (nmA tp 0 4 4 0 0))])), (t0, .inr (2, [.ref t1, .int (nI len)])), (t1, .inl (cB, 400, .inl (aB tp))), (f0, .inr (0, [.int (nI (nmA tp 0 4 4 0 0)), .ref f1, .ref f2])), (f1, .inl (cI, 16, .inl (aN (zc cnt 16)))), (f2, .inl (cB, 208, .inl (aN mk)))] := hD
  refine lv_aload_n hx hb dR_walk_24 rfl (lv_at hl 0 rfl) ?_
  refine va_get (D := (dC, dI)) (ci := 1) (v := .int (nI 2)) (C := RR) (T := TR) (N := 6) hx hb hw inR hown hK hP 0 rfl rfl 4 (by decide) (hw _ w_fl_R_25) (fun _ h9 => h9) rfl dR_walk_25 ?_
  refine lv_istore_n (lv' := [(1, .int (nI 2)), (0, .ref r0)]) hx hb dR_walk_28 rfl hl (by decide) rfl (fun ls hl => ?_)
  refine lv_aload_n hx hb dR_walk_29 rfl (lv_at hl 1 rfl) ?_
  have hPc := hP.sub (ws' := [(r0, .inr (1, [.ref f0, .int (nI 0), .int (-1), .ref t0, .int (nI 2), .int (nI (nmA tp 0 4 4 0 0))])), (t0, .inr (2, [.ref t1, .int (nI len)])), (t1, .inl (cB, 400, .inl (aB tp)))]) [0, 1, 2] rfl
  have hDc := hD.sub (ws' := [(r0, .inr (1, [.ref f0, .int (nI 0), .int (-1), .ref t0, .int (nI 2), .int (nI (nmA tp 0 4 4 0 0))])), (t0, .inr (2, [.ref t1, .int (nI len)])), (t1, .inl (cB, 400, .inl (aB tp)))]) [0, 1, 2] (by decide) rfl
  have hFc := va_free (wc := [(r0, .inr (1, [.ref f0, .int (nI 0), .int (-1), .ref t0, .int (nI 2), .int (nI (nmA tp 0 4 4 0 0))])), (t0, .inr (2, [.ref t1, .int (nI len)])), (t1, .inl (cB, 400, .inl (aB tp)))]) hD hS hA [0, 1, 2] rfl
  refine zc_Mi (va_runV (As := []) (rest := []) ⟨hx, hb, hml, hown, hw⟩ (c_walkMaps_ok l dC dI r0 f0 0 (-1) t0 2 (nmA tp 0 4 4 0 0) t1 len cI cB tp (by omega) (by omega) htp hmp H.size) (cwV 0 hw (gV w_ml_R_39 w_im_R_walkMaps w_se_R_walkMaps w_in_R w_co_R_walkMaps) rfl rfl rfl (by decide +kernel) ⟨Nat.le_of_ble_eq_true rfl, Nat.le_of_ble_eq_true rfl⟩) (zM_V hG hS hFc hPc hDc hK 0 rfl rfl) rfl rfl hl.1 rfl (lv_room (Nat.le_of_ble_eq_true rfl)) dR_walk_30 ⟨Nat.le_of_ble_eq_true rfl, Nat.le_of_ble_eq_true rfl⟩) hS hFc (fun r_2 H locs h_30 hP1 hD1 hk1 hS => ?_)
  obtain ⟨hP, hD⟩ := va_join (wr := [(f0, .inr (0, [.int (nI (nmA tp 0 4 4 0 0)), .ref f1, .ref f2])), (f1, .inl (cI, 16, .inl (aN (zc cnt 16)))), (f2, .inl (cB, 208, .inl (aN mk)))]) (w1 := [(r0, .inr (1, [.ref f0, .int (nI 0), .int (-1), .ref t0, .int (nI (2 + wid tp 2)), .int (nI (nmA tp 0 4 4 0 0))])), (t0, .inr (2, [.ref t1, .int (nI len)])), (t1, .inl (cB, 400, .inl (aB tp)))]) hP hD [0, 1, 2] [3, 4, 5] rfl rfl (by decide) (by decide) hk1 hFc hP1 hD1
  have hP : va_P (dC, dI) vwCl [(f0, .inr (0, [.int (nI (nmA tp 0 4 4 0 0)), .ref f1, .ref f2])), (f1, .inl (cI, 16, .inl (aN (zc cnt 16)))), (f2, .inl (cB, 208, .inl (aN mk))), (r0, .inr (1, [.ref f0, .int (nI 0), .int (-1), .ref t0, .int (nI (2 + wid tp 2)), .int (nI (nmA tp 0 4 4 0 0))])), (t0, .inr (2, [.ref t1, .int (nI len)])), (t1, .inl (cB, 400, .inl (aB tp)))] H := hP
  have hD : va_D A [(f0, .inr (0, [.int (nI (nmA tp 0 4 4 0 0)), .ref f1, .ref f2])), (f1, .inl (cI, 16, .inl (aN (zc cnt 16)))), (f2, .inl (cB, 208, .inl (aN mk))), (r0, .inr (1, [.ref f0, .int (nI 0), .int (-1), .ref t0, .int (nI (2 + wid tp 2)), .int (nI (nmA tp 0 4 4 0 0))])), (t0, .inr (2, [.ref t1, .int (nI len)])), (t1, .inl (cB, 400, .inl (aB tp)))] := hD
  subst h_30
  refine lv_if_ne (tgt := 38) hx hb dR_walk_33 (by decide) (fun c_33 => ?_) (fun q => False.elim (absurd q (by decide)))
  refine lv_aload_n hx hb dR_walk_38 rfl (lv_at hl 1 rfl) ?_
  refine va_get (D := (dC, dI)) (ci := 1) (v := .int (nI (2 + wid tp 2))) (C := RR) (T := TR) (N := 6) hx hb hw inR hown hK hP 3 rfl rfl 4 (by decide) (hw _ w_fl_R_25) (fun _ h9 => h9) rfl dR_walk_39 ?_
  refine lv_istore_n (lv' := [(2, .int (nI (2 + wid tp 2))), (1, .int (nI 2)), (0, .ref r0)]) hx hb dR_walk_42 rfl hl (by decide) rfl (fun ls hl => ?_)
  refine lv_iconst (v := nI 0) hx hb dR_walk_43 (by decide) ?_
  refine lv_istore_n (lv' := [(3, .int (nI 0)), (2, .int (nI (2 + wid tp 2))), (1, .int (nI 2)), (0, .ref r0)]) hx hb dR_walk_44 rfl hl (by decide) rfl (fun ls hl => ?_)
  have lp_45 : ∀ (fu : Nat) (sl : Nat) (q : Nat) (g9 : Nat) (c9 : Nat → Nat) (m9 : Nat → Nat) (hsl : sl ≤ 16) (hq : q ≤ len) (hi : wkF tp len (wid tp 2) (16 - sl) sl q = none) (hm9 : ∀ j, m9 j < 128) (hC : wkC tp (wid tp 2) (16 - sl) sl q c9 = wkC tp (wid tp 2) 16 0 (2 + wid tp 2) (zc cnt 16)) (hM : wkM tp (wid tp 2) (16 - sl) sl q m9 = wkM tp (wid tp 2) 16 0 (2 + wid tp 2) mk) (hms : 16 - sl < fu) (H : Heap) (locs : List Loc) (ls : Array Slot), lv_has ls 5 [(0, .ref r0), (1, .int (nI 2)), (2, .int (nI (2 + wid tp 2))), (3, .int (nI sl))] → va_P (dC, dI) vwCl [(f0, .inr (0, [.int (nI (nmA tp 0 4 4 0 0)), .ref f1, .ref f2])), (f1, .inl (cI, 16, .inl (aN c9))), (f2, .inl (cB, 208, .inl (aN m9))), (r0, .inr (1, [.ref f0, .int (nI 0), .int (-1), .ref t0, .int (nI q), .int (nI g9)])), (t0, .inr (2, [.ref t1, .int (nI len)])), (t1, .inl (cB, 400, .inl (aB tp)))] H → va_D A [(f0, .inr (0, [.int (nI (nmA tp 0 4 4 0 0)), .ref f1, .ref f2])), (f1, .inl (cI, 16, .inl (aN c9))), (f2, .inl (cB, 208, .inl (aN m9))), (r0, .inr (1, [.ref f0, .int (nI 0), .int (-1), .ref t0, .int (nI q), .int (nI g9)])), (t0, .inr (2, [.ref t1, .int (nI len)])), (t1, .inl (cB, 400, .inl (aB tp)))] → va_S A s.heap H locs → W p l e rm_c_walk_ok s m ([.ref r0] : List Value).toArray below meth c H locs 0 0 Q (F0 m 45 ls []) := by
    intro fu
    induction fu with
    | zero => intro sl q g9 c9 m9 hsl hq hi hm9 hC hM hms; exact absurd hms (Nat.not_lt_zero _)
    | succ fu ih45 =>
      intro sl q g9 c9 m9 hsl hq hi hm9 hC hM hms H locs ls hl hP hD hS
      refine lv_iload_n hx hb dR_walk_45 rfl (lv_at hl 3 rfl) ?_
      refine lv_bipush (v := nI 16) hx hb dR_walk_46 (by decide) ?_
      refine zi_ge (tgt := 106) hx hb (by omega) (by omega) dR_walk_48 (by decide) (fun c_48 => ?_) (fun c_48 => ?_)
      · have hi9 := hi
        rw [show 16 - sl = 0 by omega] at hi9
        have hql : q = len := by
          unfold wkF at hi9
          split at hi9
          · assumption
          · cases hi9
        have hC9 := hC
        rw [show 16 - sl = 0 by omega] at hC9
        have hM9 := hM
        rw [show 16 - sl = 0 by omega] at hM9
        have hC9 : c9 = wkC tp (wid tp 2) 16 0 (2 + wid tp 2) (zc cnt 16) := hC9
        have hM9 : m9 = wkM tp (wid tp 2) 16 0 (2 + wid tp 2) mk := hM9
        subst hC9
        subst hM9
        refine lv_aload_n hx hb dR_walk_106 rfl (lv_at hl 0 rfl) ?_
        refine va_get (D := (dC, dI)) (ci := 1) (v := .int (nI q)) (C := RR) (T := TR) (N := 6) hx hb hw inR hown hK hP 3 rfl rfl 4 (by decide) (hw _ w_fl_R_25) (fun _ h9 => h9) rfl dR_walk_107 ?_
        refine lv_aload_n hx hb dR_walk_110 rfl (lv_at hl 0 rfl) ?_
        refine va_get (D := (dC, dI)) (ci := 1) (v := .ref t0) (C := RR) (T := TR) (N := 6) hx hb hw inR hown hK hP 3 rfl rfl 3 (by decide) (hw _ w_fl_R_31) (fun _ h9 => h9) rfl dR_walk_111 ?_
        refine va_get (D := (dC, dI)) (ci := 2) (v := .int (nI len)) (C := RT) (T := TT) (N := 2) hx hb hw inT hown hK hP 4 rfl rfl 1 (by decide) (hw _ w_fl_R_62) (fun _ h9 => h9) rfl dR_walk_114 ?_
        refine zi_eq (tgt := 133) hx hb (by omega) (by omega) dR_walk_117 (by decide) (fun c_117 => ?_) (fun q => False.elim ((q hql)))
        refine lv_iconst (v := nI 1) hx hb dR_walk_133 (by decide) ?_
        refine lv_goto (tgt := 138) hx hb dR_walk_134 (by decide) ?_
        subst hAe
        subst hQ
        exact W.zret (v := nI 1) hx hb hr (by decide) (fun t ht hW => ⟨⟨nI 1, (q, g9), rfl, rfl, by rw [ht]; exact hP.sub [3, 4, 5, 0, 1, 2] rfl, hD.sub [3, 4, 5, 0, 1, 2] (by decide) rfl⟩, hS.F ht⟩) hS.2.2 dR_walk_138
      · have hfi := fFI_b sl (by omega)
        have hwd := wid_le tp 2
        have ht9 := htp (2 + (fFI sl - 1) / 8)
        refine lv_iload_n hx hb dR_walk_51 rfl (lv_at hl 1 rfl) ?_
        refine va_getsN hx hb zfFI hS hown (va_Nw.use rfl (hG.nf (RR, 42, "FIELDS") (List.mem_of_getElem? (i := 7) rfl))) (fun _ h9 => h9) dR_walk_52 ?_
        refine lv_iload_n hx hb dR_walk_55 rfl (lv_at hl 3 rfl) ?_
        refine za_tab hx hb afFI hS (by omega) (by decide) dR_walk_56 ?_
        refine zc_Ri (va_runSN (As := [.int (nI (fFI sl))]) (rest := [.int (nI 2)]) ⟨hx, hb, hml, hown, hw⟩ (c_C_mapByte l dC dI cI cB (fFI sl) (by omega) (by omega) H) ⟨va_cnB 1 hw (gC w_co_C_mapByte) rfl rfl rfl (hG.nm (RR, 46, yC_mapByte) (List.mem_of_getElem? (i := 7) rfl)) (hw _ w_in_C) (by decide +kernel) ⟨Nat.le_of_ble_eq_true rfl, Nat.le_of_ble_eq_true rfl⟩, hw _ w_st_C_mapByte, trivial⟩ (zR_S hG hS (hP.sub (ws' := []) [] rfl) hK) rfl rfl hl.1 rfl (lv_room (Nat.le_of_ble_eq_true rfl)) dR_walk_57 ⟨Nat.le_of_ble_eq_true rfl, Nat.le_of_ble_eq_true rfl⟩) hS (fun r_3 locs h_57 hS => ?_)
        subst h_57
        refine zi_add hx hb dR_walk_60 ?_
        refine lv_istore (lv' := [(4, .int (nI (2 + (((fFI sl) - 1) / 8)))), (0, .ref r0), (1, .int (nI 2)), (2, .int (nI (2 + wid tp 2))), (3, .int (nI sl))]) hx hb dR_walk_61 hl (by decide) rfl (fun ls hl => ?_)
        refine lv_iload hx hb dR_walk_63 (lv_at hl 0 rfl) ?_
        refine lv_iload_n hx hb dR_walk_65 rfl (lv_at hl 3 rfl) ?_
        refine zi_ge (tgt := 100) hx hb (by omega) (by omega) dR_walk_66 (by decide) (fun c_66 => ?_) (fun c_66 => ?_)
        · have hp9 : prs tp (wid tp 2) sl = false := decide_eq_false (fun h => by first | exact absurd h.1 (Nat.not_lt.mpr c_66) | exact h.2 c_87)
          have hi2 := hi
          rw [show 16 - sl = 16 - (sl + 1) + 1 by omega] at hi2
          rw [wkF_out hp9] at hi2
          have hfit := hq
          have hm2 := hm9
          have hC2 := hC
          rw [show 16 - sl = 16 - (sl + 1) + 1 by omega] at hC2
          rw [wkC_out hp9] at hC2
          have hM2 := hM
          rw [show 16 - sl = 16 - (sl + 1) + 1 by omega] at hM2
          rw [wkM_out hp9] at hM2
          refine lv_iinc (v := nI (sl + 1)) (lv' := [(3, .int (nI (sl + 1))), (4, .int (nI (2 + (((fFI sl) - 1) / 8)))), (0, .ref r0), (1, .int (nI 2)), (2, .int (nI (2 + wid tp 2)))]) hx hb dR_walk_100 hl (k := 4) rfl (zi_incr sl 1) (by decide) rfl (fun ls hl => ?_)
          refine lv_goto (tgt := 45) hx hb dR_walk_103 (by decide) ?_
          exact ih45 (sl + 1) q g9 c9 m9 (by omega) hfit hi2 hm2 hC2 hM2 (by omega) _ _ _ (lv_sub hl [2, 3, 4, 0] rfl) (hP.sub [0, 1, 2, 3, 4, 5] rfl) (hD.sub [0, 1, 2, 3, 4, 5] (by decide) rfl) hS
        · refine lv_aload_n hx hb dR_walk_69 rfl (lv_at hl 1 rfl) ?_
          refine va_get (D := (dC, dI)) (ci := 1) (v := .ref t0) (C := RR) (T := TR) (N := 6) hx hb hw inR hown hK hP 3 rfl rfl 3 (by decide) (hw _ w_fl_R_31) (fun _ h9 => h9) rfl dR_walk_70 ?_
          refine lv_iload hx hb dR_walk_73 (lv_at hl 0 rfl) ?_
          refine zc_Ri (va_runV (As := [.int (nI (2 + (((fFI sl) - 1) / 8)))]) (rest := []) ⟨hx, hb, hml, hown, hw⟩ (c_T_byteAt l dC dI t0 t1 len cI cB tp (2 + (((fFI sl) - 1) / 8)) (by omega) (htp _) H) (cwV 1 hw (gV w_ml_R_50 w_im_T_byteAt w_se_T_byteAt w_in_T w_co_T_byteAt) rfl rfl rfl (by decide +kernel) ⟨Nat.le_of_ble_eq_true rfl, Nat.le_of_ble_eq_true rfl⟩) (zR_V hG hS (hP.sub (ws' := [(t0, .inr (2, [.ref t1, .int (nI len)])), (t1, .inl (cB, 400, .inl (aB tp)))]) [4, 5] rfl) hK 0 rfl rfl) rfl rfl hl.1 rfl (lv_room (Nat.le_of_ble_eq_true rfl)) dR_walk_75 ⟨Nat.le_of_ble_eq_true rfl, Nat.le_of_ble_eq_true rfl⟩) hS (fun r_4 locs h_75 hS => ?_)
          subst h_75
          refine va_getsN hx hb zfFI hS hown (va_Nw.use rfl (hG.nf (RR, 42, "FIELDS") (List.mem_of_getElem? (i := 7) rfl))) (fun _ h9 => h9) dR_walk_78 ?_
          refine lv_iload_n hx hb dR_walk_81 rfl (lv_at hl 4 rfl) ?_
          refine za_tab hx hb afFI hS (by omega) (by decide) dR_walk_82 ?_
          refine zc_Ri (va_runSN (As := [.int (nI (fFI sl))]) (rest := [.int (nI (tp (2 + (((fFI sl) - 1) / 8))))]) ⟨hx, hb, hml, hown, hw⟩ (c_C_mapBit l dC dI cI cB (fFI sl) (by omega) (by omega) H) ⟨va_cnB 1 hw (gC w_co_C_mapBit) rfl rfl rfl (hG.nm (RR, 55, yC_mapBit) (List.mem_of_getElem? (i := 8) rfl)) (hw _ w_in_C) (by decide +kernel) ⟨Nat.le_of_ble_eq_true rfl, Nat.le_of_ble_eq_true rfl⟩, hw _ w_st_C_mapBit, trivial⟩ (zR_S hG hS (hP.sub (ws' := []) [] rfl) hK) rfl rfl hl.1 rfl (lv_room (Nat.le_of_ble_eq_true rfl)) dR_walk_83 ⟨Nat.le_of_ble_eq_true rfl, Nat.le_of_ble_eq_true rfl⟩) hS (fun r_5 locs h_83 hS => ?_)
          subst h_83
          refine lv_iand hx hb dR_walk_86 ?_
          refine zi_v (b := nI ((tp (2 + (((fFI sl) - 1) / 8))) &&& (128 / 2 ^ (((fFI sl) - 1) % 8)))) (nI_and _ _) ?_
          refine zi_eq0 (tgt := 100) hx hb (lt_and (bit_lt _)) dR_walk_87 (by decide) (fun c_87 => ?_) (fun c_87 => ?_)
          · have hp9 : prs tp (wid tp 2) sl = false := decide_eq_false (fun h => by first | exact absurd h.1 (Nat.not_lt.mpr c_66) | exact h.2 c_87)
            have hi2 := hi
            rw [show 16 - sl = 16 - (sl + 1) + 1 by omega] at hi2
            rw [wkF_out hp9] at hi2
            have hfit := hq
            have hm2 := hm9
            have hC2 := hC
            rw [show 16 - sl = 16 - (sl + 1) + 1 by omega] at hC2
            rw [wkC_out hp9] at hC2
            have hM2 := hM
            rw [show 16 - sl = 16 - (sl + 1) + 1 by omega] at hM2
            rw [wkM_out hp9] at hM2
            refine lv_iinc (v := nI (sl + 1)) (lv' := [(3, .int (nI (sl + 1))), (4, .int (nI (2 + (((fFI sl) - 1) / 8)))), (0, .ref r0), (1, .int (nI 2)), (2, .int (nI (2 + wid tp 2)))]) hx hb dR_walk_100 hl (k := 4) rfl (zi_incr sl 1) (by decide) rfl (fun ls hl => ?_)
            refine lv_goto (tgt := 45) hx hb dR_walk_103 (by decide) ?_
            exact ih45 (sl + 1) q g9 c9 m9 (by omega) hfit hi2 hm2 hC2 hM2 (by omega) _ _ _ (lv_sub hl [2, 3, 4, 0] rfl) (hP.sub [0, 1, 2, 3, 4, 5] rfl) (hD.sub [0, 1, 2, 3, 4, 5] (by decide) rfl) hS
          · have hp9 : prs tp (wid tp 2) sl = true := decide_eq_true ⟨c_66, c_87⟩
            have hi9 := hi
            rw [show 16 - sl = 16 - (sl + 1) + 1 by omega] at hi9
            obtain ⟨hfd, hi2⟩ := wkF_in hi9 hp9
            have hfit := fieldF_fit hfd
            have hm2 := fMk_lt htp hfd hm9
            refine lv_aload_n hx hb dR_walk_90 rfl (lv_at hl 1 rfl) ?_
            refine lv_iload_n hx hb dR_walk_91 rfl (lv_at hl 4 rfl) ?_
            have hPc := hP.sub (ws' := [(r0, .inr (1, [.ref f0, .int (nI 0), .int (-1), .ref t0, .int (nI q), .int (nI g9)])), (t0, .inr (2, [.ref t1, .int (nI len)])), (t1, .inl (cB, 400, .inl (aB tp))), (f0, .inr (0, [.int (nI (nmA tp 0 4 4 0 0)), .ref f1, .ref f2])), (f1, .inl (cI, 16, .inl (aN c9))), (f2, .inl (cB, 208, .inl (aN m9)))]) [3, 4, 5, 0, 1, 2] rfl
            have hDc := hD.sub (ws' := [(r0, .inr (1, [.ref f0, .int (nI 0), .int (-1), .ref t0, .int (nI q), .int (nI g9)])), (t0, .inr (2, [.ref t1, .int (nI len)])), (t1, .inl (cB, 400, .inl (aB tp))), (f0, .inr (0, [.int (nI (nmA tp 0 4 4 0 0)), .ref f1, .ref f2])), (f1, .inl (cI, 16, .inl (aN c9))), (f2, .inl (cB, 208, .inl (aN m9)))]) [3, 4, 5, 0, 1, 2] (by decide) rfl
            have hFc := va_free (wc := [(r0, .inr (1, [.ref f0, .int (nI 0), .int (-1), .ref t0, .int (nI q), .int (nI g9)])), (t0, .inr (2, [.ref t1, .int (nI len)])), (t1, .inl (cB, 400, .inl (aB tp))), (f0, .inr (0, [.int (nI (nmA tp 0 4 4 0 0)), .ref f1, .ref f2])), (f1, .inl (cI, 16, .inl (aN c9))), (f2, .inl (cB, 208, .inl (aN m9)))]) hD hS hA [3, 4, 5, 0, 1, 2] rfl
            refine zc_Mi (va_runV (As := [.int (nI sl)]) (rest := []) ⟨hx, hb, hml, hown, hw⟩ (c_walkField_ok l dC dI r0 f0 0 (-1) t0 q g9 t1 len cI cB tp f1 f2 (nmA tp 0 4 4 0 0) c9 m9 sl (by omega) (by omega) htp (by omega) hfd H.size) (cwV 1 hw (gV w_ml_R_58 w_im_R_walkField w_se_R_walkField w_in_R w_co_R_walkField) rfl rfl rfl (by decide +kernel) ⟨Nat.le_of_ble_eq_true rfl, Nat.le_of_ble_eq_true rfl⟩) (zM_V hG hS hFc hPc hDc hK 0 rfl rfl) rfl rfl hl.1 rfl (lv_room (Nat.le_of_ble_eq_true rfl)) dR_walk_92 ⟨Nat.le_of_ble_eq_true rfl, Nat.le_of_ble_eq_true rfl⟩) hS hFc (fun r_6 H locs h_92 hP1 hD1 hk1 hS => ?_)
            obtain ⟨hP, hD⟩ := va_join (wr := []) (w1 := [(r0, .inr (1, [.ref f0, .int (nI 0), .int (-1), .ref t0, .int (nI (fNx tp q sl)), .int (nI (fLn tp q sl g9))])), (t0, .inr (2, [.ref t1, .int (nI len)])), (t1, .inl (cB, 400, .inl (aB tp))), (f0, .inr (0, [.int (nI (nmA tp 0 4 4 0 0)), .ref f1, .ref f2])), (f1, .inl (cI, 16, .inl (aN (nup c9 sl (fCt tp q sl))))), (f2, .inl (cB, 208, .inl (aN (fMk tp q sl m9))))]) hP hD [3, 4, 5, 0, 1, 2] [] rfl rfl (by decide) (by decide) hk1 hFc hP1 hD1
            have hP : va_P (dC, dI) vwCl [(r0, .inr (1, [.ref f0, .int (nI 0), .int (-1), .ref t0, .int (nI (fNx tp q sl)), .int (nI (fLn tp q sl g9))])), (t0, .inr (2, [.ref t1, .int (nI len)])), (t1, .inl (cB, 400, .inl (aB tp))), (f0, .inr (0, [.int (nI (nmA tp 0 4 4 0 0)), .ref f1, .ref f2])), (f1, .inl (cI, 16, .inl (aN (nup c9 sl (fCt tp q sl))))), (f2, .inl (cB, 208, .inl (aN (fMk tp q sl m9))))] H := hP
            have hD : va_D A [(r0, .inr (1, [.ref f0, .int (nI 0), .int (-1), .ref t0, .int (nI (fNx tp q sl)), .int (nI (fLn tp q sl g9))])), (t0, .inr (2, [.ref t1, .int (nI len)])), (t1, .inl (cB, 400, .inl (aB tp))), (f0, .inr (0, [.int (nI (nmA tp 0 4 4 0 0)), .ref f1, .ref f2])), (f1, .inl (cI, 16, .inl (aN (nup c9 sl (fCt tp q sl))))), (f2, .inl (cB, 208, .inl (aN (fMk tp q sl m9))))] := hD
            subst h_92
            refine lv_if_ne (tgt := 100) hx hb dR_walk_95 (by decide) (fun c_95 => ?_) (fun q => False.elim (absurd q (by decide)))
            have hC2 := hC
            rw [show 16 - sl = 16 - (sl + 1) + 1 by omega] at hC2
            rw [wkC_in hp9] at hC2
            have hM2 := hM
            rw [show 16 - sl = 16 - (sl + 1) + 1 by omega] at hM2
            rw [wkM_in hp9] at hM2
            refine lv_iinc (v := nI (sl + 1)) (lv' := [(3, .int (nI (sl + 1))), (4, .int (nI (2 + (((fFI sl) - 1) / 8)))), (0, .ref r0), (1, .int (nI 2)), (2, .int (nI (2 + wid tp 2)))]) hx hb dR_walk_100 hl (k := 4) rfl (zi_incr sl 1) (by decide) rfl (fun ls hl => ?_)
            refine lv_goto (tgt := 45) hx hb dR_walk_103 (by decide) ?_
            exact ih45 (sl + 1) (fNx tp q sl) (fLn tp q sl g9) (nup c9 sl (fCt tp q sl)) (fMk tp q sl m9) (by omega) hfit hi2 hm2 hC2 hM2 (by omega) _ _ _ (lv_sub hl [2, 3, 4, 0] rfl) (hP.sub [3, 4, 5, 0, 1, 2] rfl) (hD.sub [3, 4, 5, 0, 1, 2] (by decide) rfl) hS
  exact lp_45 ((16 - 0) + 1) 0 (2 + wid tp 2) (nmA tp 0 4 4 0 0) (zc cnt 16) mk (by omega) hmf hwk hm rfl rfl (Nat.lt_succ_self _) _ _ _ (lv_sub hl [3, 2, 1, 0] rfl) (hP.sub [0, 1, 2, 3, 4, 5] rfl) (hD.sub [0, 1, 2, 3, 4, 5] (by decide) rfl) hS
def rm_c_walk_no : Room := ({ frames := 5, cells := 0, slots := 0, locals := 112 } : Room)
set_option maxHeartbeats 4000000 in
set_option maxRecDepth 100000 in
theorem c_walk_no (l : Launch) (dC : Nat → ClassId) (dI : Nat → Nat → Nat) (r0 : Nat) (f0 : Nat) (fk : Nat) (fp : Int32) (t0 : Nat) (nx : Nat) (lnb : Nat) (t1 : Nat) (len : Nat) (cI : ClassId) (cB : ClassId) (tp : Nat → Nat) (f1 : Nat) (f2 : Nat) (ty : Nat) (cnt : Nat → Nat) (mk : Nat → Nat) (k2 : Nat) (p2 : Nat) (hln : len ≤ 400) (htp : ∀ j, tp j < 256) (hm : ∀ j, mk j < 128) (hd : pF tp len = some (k2, p2)) (sz : Nat) : Met l yR_walk wsR_walk rm_c_walk_no (zM (dC, dI) [(cI, .int), (cB, .byte)] [.ref r0] [(r0, .inr (1, [.ref f0, .int (nI fk), .int fp, .ref t0, .int (nI nx), .int (nI lnb)])), (t0, .inr (2, [.ref t1, .int (nI len)])), (t1, .inl (cB, 400, .inl (aB tp))), (f0, .inr (0, [.int (nI ty), .ref f1, .ref f2])), (f1, .inl (cI, 16, .inl (aN cnt))), (f2, .inl (cB, 208, .inl (aN mk)))] sz) (zSi (dC, dI) [(r0, .inr (1, [.ref f0, .int (nI fk), .int fp, .ref t0, .int (nI nx), .int (nI lnb)])), (t0, .inr (2, [.ref t1, .int (nI len)])), (t1, .inl (cB, 400, .inl (aB tp))), (f0, .inr (0, [.int (nI ty), .ref f1, .ref f2])), (f1, .inl (cI, 16, .inl (aN cnt))), (f2, .inl (cB, 208, .inl (aN mk)))] sz (fun r (u : Nat × Nat × Nat × (Nat → Nat) × (Nat → Nat)) => r = nI 0 ∧ ∀ j, u.2.2.2.2 j < 128) (fun u => [(r0, .inr (1, [.ref f0, .int (nI k2), .int (nI p2), .ref t0, .int (nI u.1), .int (nI u.2.1)])), (t0, .inr (2, [.ref t1, .int (nI len)])), (t1, .inl (cB, 400, .inl (aB tp))), (f0, .inr (0, [.int (nI u.2.2.1), .ref f1, .ref f2])), (f1, .inl (cI, 16, .inl (aN u.2.2.2.1))), (f2, .inl (cB, 208, .inl (aN u.2.2.2.2)))])) 0 0 (va_A [(r0, .inr (1, [.ref f0, .int (nI fk), .int fp, .ref t0, .int (nI nx), .int (nI lnb)])), (t0, .inr (2, [.ref t1, .int (nI len)])), (t1, .inl (cB, 400, .inl (aB tp))), (f0, .inr (0, [.int (nI ty), .ref f1, .ref f2])), (f1, .inl (cI, 16, .inl (aN cnt))), (f2, .inl (cB, 208, .inl (aN mk)))] sz) := by
  refine Met.ofW (cc := cR_walk) (maxL := 5) (ret := (some .boolean)) (by decide) rfl ?_
  intro p e s m args below meth c s₁ Bd hml hv
  obtain ⟨rfl, hsz, hG, hP, hK, hD0⟩ := hv
  subst hsz
  have hx := Bd.exec
  have hb := Bd.bytes
  have hr := Bd.returns
  have hts := atoms_spec (ws := wsR_walk) Bd.pre
  have hw : ∀ w ∈ BIG, w.before _ s = true := fun w h => hts w (List.mem_cons_of_mem _ h)
  have hown : s.vm.findClass RR = some m.cls := findClass_of_methodNamed Bd.named
  have hlocks := Bd.notSynchronized
  have hD := hD0.self (sz := s.heap.size)
  obtain ⟨A, hAe⟩ : ∃ A, A = va_A [(r0, .inr (1, [.ref f0, .int (nI fk), .int fp, .ref t0, .int (nI nx), .int (nI lnb)])), (t0, .inr (2, [.ref t1, .int (nI len)])), (t1, .inl (cB, 400, .inl (aB tp))), (f0, .inr (0, [.int (nI ty), .ref f1, .ref f2])), (f1, .inl (cI, 16, .inl (aN cnt))), (f2, .inl (cB, 208, .inl (aN mk)))] s.heap.size := ⟨_, rfl⟩
  have hA : ∀ q : Nat, s.heap.size ≤ q → A q := fun q h => by rw [hAe]; exact Or.inr h
  rw [← hAe] at hG hD
  have hS : va_S A s.heap s.heap [] := va_S.rf
  have hl := lv_entry ([.ref r0]) (n := 5) (Nat.le_of_ble_eq_true rfl)
  rw [lg_entry_eq]
  generalize (lg_sl ([.ref r0]) ++ List.replicate (5 - (lg_sl ([.ref r0])).length) Slot.unset).toArray = ls at hl ⊢
  have hl : lv_has ls 5 [(0, .ref r0)] := hl
  refine zq_name (fun Q hQ => ?_)
  change W p l e rm_c_walk_no s m _ below meth c _ _ _ _ Q _
  obtain ⟨tfFI, zfFI, afFI⟩ := hG.FIELDS
  rcases pF_no hd with hd1 | ⟨hd1, hty, rfl, rfl⟩ | ⟨hd1, hty, hmp⟩ | ⟨hd1, hty, hmp, hwk⟩
  · refine lv_aload_n hx hb dR_walk_0 rfl (lv_at hl 0 rfl) ?_
    refine lv_iconst (v := nI 0) hx hb dR_walk_1 (by decide) ?_
    refine va_put (D := (dC, dI)) (ci := 1) (v := .int (nI 0)) (ty := .int) (C := RR) (T := TR) (N := 6) hx hb hw inR tyR tyR_ok nmR hown hK hP hD hS 0 rfl rfl 1 (by decide) (hw _ w_fl_R_18) (fun _ h9 => h9) rfl (by decide +kernel) rfl rfl (Nat.le_of_ble_eq_true rfl) dR_walk_2 (fun H locs hP hD hS => ?_)
    have hP : va_P (dC, dI) vwCl [(r0, .inr (1, [.ref f0, .int (nI 0), .int fp, .ref t0, .int (nI nx), .int (nI lnb)])), (t0, .inr (2, [.ref t1, .int (nI len)])), (t1, .inl (cB, 400, .inl (aB tp))), (f0, .inr (0, [.int (nI ty), .ref f1, .ref f2])), (f1, .inl (cI, 16, .inl (aN cnt))), (f2, .inl (cB, 208, .inl (aN mk)))] H := hP
    have hD : va_D A [(r0, .inr (1, [.ref f0, .int (nI 0), .int fp, .ref t0, .int (nI nx), .int (nI lnb)])), (t0, .inr (2, [.ref t1, .int (nI len)])), (t1, .inl (cB, 400, .inl (aB tp))), (f0, .inr (0, [.int (nI ty), .ref f1, .ref f2])), (f1, .inl (cI, 16, .inl (aN cnt))), (f2, .inl (cB, 208, .inl (aN mk)))] := hD
    refine lv_aload_n hx hb dR_walk_5 rfl (lv_at hl 0 rfl) ?_
    refine lv_iconst (v := (-1)) hx hb dR_walk_6 (by decide) ?_
    refine va_put (D := (dC, dI)) (ci := 1) (v := .int (-1)) (ty := .int) (C := RR) (T := TR) (N := 6) hx hb hw inR tyR tyR_ok nmR hown hK hP hD hS 0 rfl rfl 2 (by decide) (hw _ w_fl_R_22) (fun _ h9 => h9) rfl (by decide +kernel) rfl rfl (Nat.le_of_ble_eq_true rfl) dR_walk_7 (fun H locs hP hD hS => ?_)
    have hP : va_P (dC, dI) vwCl [(r0, .inr (1, [.ref f0, .int (nI 0), .int (-1), .ref t0, .int (nI nx), .int (nI lnb)])), (t0, .inr (2, [.ref t1, .int (nI len)])), (t1, .inl (cB, 400, .inl (aB tp))), (f0, .inr (0, [.int (nI ty), .ref f1, .ref f2])), (f1, .inl (cI, 16, .inl (aN cnt))), (f2, .inl (cB, 208, .inl (aN mk)))] H := hP
    have hD : va_D A [(r0, .inr (1, [.ref f0, .int (nI 0), .int (-1), .ref t0, .int (nI nx), .int (nI lnb)])), (t0, .inr (2, [.ref t1, .int (nI len)])), (t1, .inl (cB, 400, .inl (aB tp))), (f0, .inr (0, [.int (nI ty), .ref f1, .ref f2])), (f1, .inl (cI, 16, .inl (aN cnt))), (f2, .inl (cB, 208, .inl (aN mk)))] := hD
    refine lv_aload_n hx hb dR_walk_10 rfl (lv_at hl 0 rfl) ?_
    refine lv_iconst (v := nI 0) hx hb dR_walk_11 (by decide) ?_
    refine va_put (D := (dC, dI)) (ci := 1) (v := .int (nI 0)) (ty := .int) (C := RR) (T := TR) (N := 6) hx hb hw inR tyR tyR_ok nmR hown hK hP hD hS 0 rfl rfl 4 (by decide) (hw _ w_fl_R_25) (fun _ h9 => h9) rfl (by decide +kernel) rfl rfl (Nat.le_of_ble_eq_true rfl) dR_walk_12 (fun H locs hP hD hS => ?_)
    have hP : va_P (dC, dI) vwCl [(r0, .inr (1, [.ref f0, .int (nI 0), .int (-1), .ref t0, .int (nI 0), .int (nI lnb)])), (t0, .inr (2, [.ref t1, .int (nI len)])), (t1, .inl (cB, 400, .inl (aB tp))), (f0, .inr (0, [.int (nI ty), .ref f1, .ref f2])), (f1, .inl (cI, 16, .inl (aN cnt))), (f2, .inl (cB, 208, .inl (aN mk)))] H := hP
    have hD : va_D A [(r0, .inr (1, [.ref f0, .int (nI 0), .int (-1), .ref t0, .int (nI 0), .int (nI lnb)])), (t0, .inr (2, [.ref t1, .int (nI len)])), (t1, .inl (cB, 400, .inl (aB tp))), (f0, .inr (0, [.int (nI ty), .ref f1, .ref f2])), (f1, .inl (cI, 16, .inl (aN cnt))), (f2, .inl (cB, 208, .inl (aN mk)))] := hD
    refine lv_aload_n hx hb dR_walk_15 rfl (lv_at hl 0 rfl) ?_
    have hPc := hP.sub (ws' := [(r0, .inr (1, [.ref f0, .int (nI 0), .int (-1), .ref t0, .int (nI 0), .int (nI lnb)])), (t0, .inr (2, [.ref t1, .int (nI len)])), (t1, .inl (cB, 400, .inl (aB tp)))]) [0, 1, 2] rfl
    have hDc := hD.sub (ws' := [(r0, .inr (1, [.ref f0, .int (nI 0), .int (-1), .ref t0, .int (nI 0), .int (nI lnb)])), (t0, .inr (2, [.ref t1, .int (nI len)])), (t1, .inl (cB, 400, .inl (aB tp)))]) [0, 1, 2] (by decide) rfl
    have hFc := va_free (wc := [(r0, .inr (1, [.ref f0, .int (nI 0), .int (-1), .ref t0, .int (nI 0), .int (nI lnb)])), (t0, .inr (2, [.ref t1, .int (nI len)])), (t1, .inl (cB, 400, .inl (aB tp)))]) hD hS hA [0, 1, 2] rfl
    refine zc_Mi (va_runV (As := []) (rest := []) ⟨hx, hb, hml, hown, hw⟩ (c_walkType_no1 l dC dI r0 f0 0 (-1) t0 0 lnb t1 len cI cB tp k2 p2 (by omega) (by omega) htp hd1 H.size) (cwV 0 hw (gV w_ml_R_35 w_im_R_walkType w_se_R_walkType w_in_R w_co_R_walkType) rfl rfl rfl (by decide +kernel) ⟨Nat.le_of_ble_eq_true rfl, Nat.le_of_ble_eq_true rfl⟩) (zM_V hG hS hFc hPc hDc hK 0 rfl rfl) rfl rfl hl.1 rfl (lv_room (Nat.le_of_ble_eq_true rfl)) dR_walk_16 ⟨Nat.le_of_ble_eq_true rfl, Nat.le_of_ble_eq_true rfl⟩) hS hFc (fun r_1 H locs h_16 hP1 hD1 hk1 hS => ?_)
    obtain ⟨hP, hD⟩ := va_join (wr := [(f0, .inr (0, [.int (nI ty), .ref f1, .ref f2])), (f1, .inl (cI, 16, .inl (aN cnt))), (f2, .inl (cB, 208, .inl (aN mk)))]) (w1 := [(r0, .inr (1, [.ref f0, .int (nI k2), .int (nI p2), .ref t0, .int (nI 0), .int (nI lnb)])), (t0, .inr (2, [.ref t1, .int (nI len)])), (t1, .inl (cB, 400, .inl (aB tp)))]) hP hD [0, 1, 2] [3, 4, 5] rfl rfl (by decide) (by decide) hk1 hFc hP1 hD1
    have hP : va_P (dC, dI) vwCl [(f0, .inr (0, [.int (nI ty), .ref f1, .ref f2])), (f1, .inl (cI, 16, .inl (aN cnt))), (f2, .inl (cB, 208, .inl (aN mk))), (r0, .inr (1, [.ref f0, .int (nI k2), .int (nI p2), .ref t0, .int (nI 0), .int (nI lnb)])), (t0, .inr (2, [.ref t1, .int (nI len)])), (t1, .inl (cB, 400, .inl (aB tp)))] H := hP
    have hD : va_D A [(f0, .inr (0, [.int (nI ty), .ref f1, .ref f2])), (f1, .inl (cI, 16, .inl (aN cnt))), (f2, .inl (cB, 208, .inl (aN mk))), (r0, .inr (1, [.ref f0, .int (nI k2), .int (nI p2), .ref t0, .int (nI 0), .int (nI lnb)])), (t0, .inr (2, [.ref t1, .int (nI len)])), (t1, .inl (cB, 400, .inl (aB tp)))] := hD
    subst h_16
    refine lv_if_ne (tgt := 24) hx hb dR_walk_19 (by decide) (fun q => False.elim (absurd q (by decide))) (fun c_19 => ?_)
    refine lv_iconst (v := nI 0) hx hb dR_walk_22 (by decide) ?_
    subst hAe
    subst hQ
    exact W.zret (v := nI 0) hx hb hr (by decide) (fun t ht hW => ⟨⟨nI 0, (0, lnb, ty, cnt, mk), rfl, ⟨rfl, hm⟩, by rw [ht]; exact hP.sub [3, 4, 5, 0, 1, 2] rfl, hD.sub [3, 4, 5, 0, 1, 2] (by decide) rfl⟩, hS.F ht⟩) hS.2.2 dR_walk_23
  · have hs9 := dgF_fit hd1
    refine lv_aload_n hx hb dR_walk_0 rfl (lv_at hl 0 rfl) ?_
    refine lv_iconst (v := nI 0) hx hb dR_walk_1 (by decide) ?_
    refine va_put (D := (dC, dI)) (ci := 1) (v := .int (nI 0)) (ty := .int) (C := RR) (T := TR) (N := 6) hx hb hw inR tyR tyR_ok nmR hown hK hP hD hS 0 rfl rfl 1 (by decide) (hw _ w_fl_R_18) (fun _ h9 => h9) rfl (by decide +kernel) rfl rfl (Nat.le_of_ble_eq_true rfl) dR_walk_2 (fun H locs hP hD hS => ?_)
    have hP : va_P (dC, dI) vwCl [(r0, .inr (1, [.ref f0, .int (nI 0), .int fp, .ref t0, .int (nI nx), .int (nI lnb)])), (t0, .inr (2, [.ref t1, .int (nI len)])), (t1, .inl (cB, 400, .inl (aB tp))), (f0, .inr (0, [.int (nI ty), .ref f1, .ref f2])), (f1, .inl (cI, 16, .inl (aN cnt))), (f2, .inl (cB, 208, .inl (aN mk)))] H := hP
    have hD : va_D A [(r0, .inr (1, [.ref f0, .int (nI 0), .int fp, .ref t0, .int (nI nx), .int (nI lnb)])), (t0, .inr (2, [.ref t1, .int (nI len)])), (t1, .inl (cB, 400, .inl (aB tp))), (f0, .inr (0, [.int (nI ty), .ref f1, .ref f2])), (f1, .inl (cI, 16, .inl (aN cnt))), (f2, .inl (cB, 208, .inl (aN mk)))] := hD
    refine lv_aload_n hx hb dR_walk_5 rfl (lv_at hl 0 rfl) ?_
    refine lv_iconst (v := (-1)) hx hb dR_walk_6 (by decide) ?_
    refine va_put (D := (dC, dI)) (ci := 1) (v := .int (-1)) (ty := .int) (C := RR) (T := TR) (N := 6) hx hb hw inR tyR tyR_ok nmR hown hK hP hD hS 0 rfl rfl 2 (by decide) (hw _ w_fl_R_22) (fun _ h9 => h9) rfl (by decide +kernel) rfl rfl (Nat.le_of_ble_eq_true rfl) dR_walk_7 (fun H locs hP hD hS => ?_)
    have hP : va_P (dC, dI) vwCl [(r0, .inr (1, [.ref f0, .int (nI 0), .int (-1), .ref t0, .int (nI nx), .int (nI lnb)])), (t0, .inr (2, [.ref t1, .int (nI len)])), (t1, .inl (cB, 400, .inl (aB tp))), (f0, .inr (0, [.int (nI ty), .ref f1, .ref f2])), (f1, .inl (cI, 16, .inl (aN cnt))), (f2, .inl (cB, 208, .inl (aN mk)))] H := hP
    have hD : va_D A [(r0, .inr (1, [.ref f0, .int (nI 0), .int (-1), .ref t0, .int (nI nx), .int (nI lnb)])), (t0, .inr (2, [.ref t1, .int (nI len)])), (t1, .inl (cB, 400, .inl (aB tp))), (f0, .inr (0, [.int (nI ty), .ref f1, .ref f2])), (f1, .inl (cI, 16, .inl (aN cnt))), (f2, .inl (cB, 208, .inl (aN mk)))] := hD
    refine lv_aload_n hx hb dR_walk_10 rfl (lv_at hl 0 rfl) ?_
    refine lv_iconst (v := nI 0) hx hb dR_walk_11 (by decide) ?_
    refine va_put (D := (dC, dI)) (ci := 1) (v := .int (nI 0)) (ty := .int) (C := RR) (T := TR) (N := 6) hx hb hw inR tyR tyR_ok nmR hown hK hP hD hS 0 rfl rfl 4 (by decide) (hw _ w_fl_R_25) (fun _ h9 => h9) rfl (by decide +kernel) rfl rfl (Nat.le_of_ble_eq_true rfl) dR_walk_12 (fun H locs hP hD hS => ?_)
    have hP : va_P (dC, dI) vwCl [(r0, .inr (1, [.ref f0, .int (nI 0), .int (-1), .ref t0, .int (nI 0), .int (nI lnb)])), (t0, .inr (2, [.ref t1, .int (nI len)])), (t1, .inl (cB, 400, .inl (aB tp))), (f0, .inr (0, [.int (nI ty), .ref f1, .ref f2])), (f1, .inl (cI, 16, .inl (aN cnt))), (f2, .inl (cB, 208, .inl (aN mk)))] H := hP
    have hD : va_D A [(r0, .inr (1, [.ref f0, .int (nI 0), .int (-1), .ref t0, .int (nI 0), .int (nI lnb)])), (t0, .inr (2, [.ref t1, .int (nI len)])), (t1, .inl (cB, 400, .inl (aB tp))), (f0, .inr (0, [.int (nI ty), .ref f1, .ref f2])), (f1, .inl (cI, 16, .inl (aN cnt))), (f2, .inl (cB, 208, .inl (aN mk)))] := hD
    refine lv_aload_n hx hb dR_walk_15 rfl (lv_at hl 0 rfl) ?_
    have hPc := hP.sub (ws' := [(r0, .inr (1, [.ref f0, .int (nI 0), .int (-1), .ref t0, .int (nI 0), .int (nI lnb)])), (t0, .inr (2, [.ref t1, .int (nI len)])), (t1, .inl (cB, 400, .inl (aB tp)))]) [0, 1, 2] rfl
    have hDc := hD.sub (ws' := [(r0, .inr (1, [.ref f0, .int (nI 0), .int (-1), .ref t0, .int (nI 0), .int (nI lnb)])), (t0, .inr (2, [.ref t1, .int (nI len)])), (t1, .inl (cB, 400, .inl (aB tp)))]) [0, 1, 2] (by decide) rfl
    have hFc := va_free (wc := [(r0, .inr (1, [.ref f0, .int (nI 0), .int (-1), .ref t0, .int (nI 0), .int (nI lnb)])), (t0, .inr (2, [.ref t1, .int (nI len)])), (t1, .inl (cB, 400, .inl (aB tp)))]) hD hS hA [0, 1, 2] rfl
    refine zc_Mi (va_runV (As := []) (rest := []) ⟨hx, hb, hml, hown, hw⟩ (c_walkType_no2 l dC dI r0 f0 0 (-1) t0 0 lnb t1 len cI cB tp (by omega) (by omega) htp hd1 (isTy_f hty) H.size) (cwV 0 hw (gV w_ml_R_35 w_im_R_walkType w_se_R_walkType w_in_R w_co_R_walkType) rfl rfl rfl (by decide +kernel) ⟨Nat.le_of_ble_eq_true rfl, Nat.le_of_ble_eq_true rfl⟩) (zM_V hG hS hFc hPc hDc hK 0 rfl rfl) rfl rfl hl.1 rfl (lv_room (Nat.le_of_ble_eq_true rfl)) dR_walk_16 ⟨Nat.le_of_ble_eq_true rfl, Nat.le_of_ble_eq_true rfl⟩) hS hFc (fun r_2 H locs h_16 hP1 hD1 hk1 hS => ?_)
    obtain ⟨hP, hD⟩ := va_join (wr := [(f0, .inr (0, [.int (nI ty), .ref f1, .ref f2])), (f1, .inl (cI, 16, .inl (aN cnt))), (f2, .inl (cB, 208, .inl (aN mk)))]) (w1 := [(r0, .inr (1, [.ref f0, .int (nI 3), .int (nI 0), .ref t0, .int (nI (0 + 2)), .int (nI (nmA tp 0 4 4 0 0))])), (t0, .inr (2, [.ref t1, .int (nI len)])), (t1, .inl (cB, 400, .inl (aB tp)))]) hP hD [0, 1, 2] [3, 4, 5] rfl rfl (by decide) (by decide) hk1 hFc hP1 hD1
    have hP : va_P (dC, dI) vwCl [(f0, .inr (0, [.int (nI ty), .ref f1, .ref f2])), (f1, .inl (cI, 16, .inl (aN cnt))), (f2, .inl (cB, 208, .inl (aN mk))), (r0, .inr (1, [.ref f0, .int (nI 3), .int (nI 0), .ref t0, .int (nI (0 + 2)), .int (nI (nmA tp 0 4 4 0 0))])), (t0, .inr (2, [.ref t1, .int (nI len)])), (t1, .inl (cB, 400, .inl (aB tp)))] H := hP
    have hD : va_D A [(f0, .inr (0, [.int (nI ty), .ref f1, .ref f2])), (f1, .inl (cI, 16, .inl (aN cnt))), (f2, .inl (cB, 208, .inl (aN mk))), (r0, .inr (1, [.ref f0, .int (nI 3), .int (nI 0), .ref t0, .int (nI (0 + 2)), .int (nI (nmA tp 0 4 4 0 0))])), (t0, .inr (2, [.ref t1, .int (nI len)])), (t1, .inl (cB, 400, .inl (aB tp)))] := hD
    subst h_16
    refine lv_if_ne (tgt := 24) hx hb dR_walk_19 (by decide) (fun q => False.elim (absurd q (by decide))) (fun c_19 => ?_)
    refine lv_iconst (v := nI 0) hx hb dR_walk_22 (by decide) ?_
    subst hAe
    subst hQ
    exact W.zret (v := nI 0) hx hb hr (by decide) (fun t ht hW => ⟨⟨nI 0, (0 + 2, nmA tp 0 4 4 0 0, ty, cnt, mk), rfl, ⟨rfl, hm⟩, by rw [ht]; exact hP.sub [3, 4, 5, 0, 1, 2] rfl, hD.sub [3, 4, 5, 0, 1, 2] (by decide) rfl⟩, hS.F ht⟩) hS.2.2 dR_walk_23
  · have hs9 := dgF_fit hd1
    refine lv_aload_n hx hb dR_walk_0 rfl (lv_at hl 0 rfl) ?_
    refine lv_iconst (v := nI 0) hx hb dR_walk_1 (by decide) ?_
    refine va_put (D := (dC, dI)) (ci := 1) (v := .int (nI 0)) (ty := .int) (C := RR) (T := TR) (N := 6) hx hb hw inR tyR tyR_ok nmR hown hK hP hD hS 0 rfl rfl 1 (by decide) (hw _ w_fl_R_18) (fun _ h9 => h9) rfl (by decide +kernel) rfl rfl (Nat.le_of_ble_eq_true rfl) dR_walk_2 (fun H locs hP hD hS => ?_)
    have hP : va_P (dC, dI) vwCl [(r0, .inr (1, [.ref f0, .int (nI 0), .int fp, .ref t0, .int (nI nx), .int (nI lnb)])), (t0, .inr (2, [.ref t1, .int (nI len)])), (t1, .inl (cB, 400, .inl (aB tp))), (f0, .inr (0, [.int (nI ty), .ref f1, .ref f2])), (f1, .inl (cI, 16, .inl (aN cnt))), (f2, .inl (cB, 208, .inl (aN mk)))] H := hP
    have hD : va_D A [(r0, .inr (1, [.ref f0, .int (nI 0), .int fp, .ref t0, .int (nI nx), .int (nI lnb)])), (t0, .inr (2, [.ref t1, .int (nI len)])), (t1, .inl (cB, 400, .inl (aB tp))), (f0, .inr (0, [.int (nI ty), .ref f1, .ref f2])), (f1, .inl (cI, 16, .inl (aN cnt))), (f2, .inl (cB, 208, .inl (aN mk)))] := hD
    refine lv_aload_n hx hb dR_walk_5 rfl (lv_at hl 0 rfl) ?_
    refine lv_iconst (v := (-1)) hx hb dR_walk_6 (by decide) ?_
    refine va_put (D := (dC, dI)) (ci := 1) (v := .int (-1)) (ty := .int) (C := RR) (T := TR) (N := 6) hx hb hw inR tyR tyR_ok nmR hown hK hP hD hS 0 rfl rfl 2 (by decide) (hw _ w_fl_R_22) (fun _ h9 => h9) rfl (by decide +kernel) rfl rfl (Nat.le_of_ble_eq_true rfl) dR_walk_7 (fun H locs hP hD hS => ?_)
    have hP : va_P (dC, dI) vwCl [(r0, .inr (1, [.ref f0, .int (nI 0), .int (-1), .ref t0, .int (nI nx), .int (nI lnb)])), (t0, .inr (2, [.ref t1, .int (nI len)])), (t1, .inl (cB, 400, .inl (aB tp))), (f0, .inr (0, [.int (nI ty), .ref f1, .ref f2])), (f1, .inl (cI, 16, .inl (aN cnt))), (f2, .inl (cB, 208, .inl (aN mk)))] H := hP
    have hD : va_D A [(r0, .inr (1, [.ref f0, .int (nI 0), .int (-1), .ref t0, .int (nI nx), .int (nI lnb)])), (t0, .inr (2, [.ref t1, .int (nI len)])), (t1, .inl (cB, 400, .inl (aB tp))), (f0, .inr (0, [.int (nI ty), .ref f1, .ref f2])), (f1, .inl (cI, 16, .inl (aN cnt))), (f2, .inl (cB, 208, .inl (aN mk)))] := hD
    refine lv_aload_n hx hb dR_walk_10 rfl (lv_at hl 0 rfl) ?_
    refine lv_iconst (v := nI 0) hx hb dR_walk_11 (by decide) ?_
    refine va_put (D := (dC, dI)) (ci := 1) (v := .int (nI 0)) (ty := .int) (C := RR) (T := TR) (N := 6) hx hb hw inR tyR tyR_ok nmR hown hK hP hD hS 0 rfl rfl 4 (by decide) (hw _ w_fl_R_25) (fun _ h9 => h9) rfl (by decide +kernel) rfl rfl (Nat.le_of_ble_eq_true rfl) dR_walk_12 (fun H locs hP hD hS => ?_)
    have hP : va_P (dC, dI) vwCl [(r0, .inr (1, [.ref f0, .int (nI 0), .int (-1), .ref t0, .int (nI 0), .int (nI lnb)])), (t0, .inr (2, [.ref t1, .int (nI len)])), (t1, .inl (cB, 400, .inl (aB tp))), (f0, .inr (0, [.int (nI ty), .ref f1, .ref f2])), (f1, .inl (cI, 16, .inl (aN cnt))), (f2, .inl (cB, 208, .inl (aN mk)))] H := hP
    have hD : va_D A [(r0, .inr (1, [.ref f0, .int (nI 0), .int (-1), .ref t0, .int (nI 0), .int (nI lnb)])), (t0, .inr (2, [.ref t1, .int (nI len)])), (t1, .inl (cB, 400, .inl (aB tp))), (f0, .inr (0, [.int (nI ty), .ref f1, .ref f2])), (f1, .inl (cI, 16, .inl (aN cnt))), (f2, .inl (cB, 208, .inl (aN mk)))] := hD
    refine lv_aload_n hx hb dR_walk_15 rfl (lv_at hl 0 rfl) ?_
    have hPc := hP.sub (ws' := [(r0, .inr (1, [.ref f0, .int (nI 0), .int (-1), .ref t0, .int (nI 0), .int (nI lnb)])), (t0, .inr (2, [.ref t1, .int (nI len)])), (t1, .inl (cB, 400, .inl (aB tp))), (f0, .inr (0, [.int (nI ty), .ref f1, .ref f2])), (f1, .inl (cI, 16, .inl (aN cnt))), (f2, .inl (cB, 208, .inl (aN mk)))]) [0, 1, 2, 3, 4, 5] rfl
    have hDc := hD.sub (ws' := [(r0, .inr (1, [.ref f0, .int (nI 0), .int (-1), .ref t0, .int (nI 0), .int (nI lnb)])), (t0, .inr (2, [.ref t1, .int (nI len)])), (t1, .inl (cB, 400, .inl (aB tp))), (f0, .inr (0, [.int (nI ty), .ref f1, .ref f2])), (f1, .inl (cI, 16, .inl (aN cnt))), (f2, .inl (cB, 208, .inl (aN mk)))]) [0, 1, 2, 3, 4, 5] (by decide) rfl
    have hFc := va_free (wc := [(r0, .inr (1, [.ref f0, .int (nI 0), .int (-1), .ref t0, .int (nI 0), .int (nI lnb)])), (t0, .inr (2, [.ref t1, .int (nI len)])), (t1, .inl (cB, 400, .inl (aB tp))), (f0, .inr (0, [.int (nI ty), .ref f1, .ref f2])), (f1, .inl (cI, 16, .inl (aN cnt))), (f2, .inl (cB, 208, .inl (aN mk)))]) hD hS hA [0, 1, 2, 3, 4, 5] rfl
    refine zc_Mi (va_runV (As := []) (rest := []) ⟨hx, hb, hml, hown, hw⟩ (c_walkType_ok l dC dI r0 f0 0 (-1) t0 0 lnb t1 len cI cB tp f1 f2 ty cnt mk (by omega) (by omega) htp hd1 (isTy_t hty) H.size) (cwV 0 hw (gV w_ml_R_35 w_im_R_walkType w_se_R_walkType w_in_R w_co_R_walkType) rfl rfl rfl (by decide +kernel) ⟨Nat.le_of_ble_eq_true rfl, Nat.le_of_ble_eq_true rfl⟩) (zM_V hG hS hFc hPc hDc hK 0 rfl rfl) rfl rfl hl.1 rfl (lv_room (Nat.le_of_ble_eq_true rfl)) dR_walk_16 ⟨Nat.le_of_ble_eq_true rfl, Nat.le_of_ble_eq_true rfl⟩) hS hFc (fun r_3 H locs h_16 hP1 hD1 hk1 hS => ?_)
    obtain ⟨hP, hD⟩ := va_join (wr := []) (w1 := [(r0, .inr (1, [.ref f0, .int (nI 0), .int (-1), .ref t0, .int (nI (0 + 2)), .int (nI (nmA tp 0 4 4 0 0))])), (t0, .inr (2, [.ref t1, .int (nI len)])), (t1, .inl (cB, 400, .inl (aB tp))), (f0, .inr (0, [.int (nI (nmA tp 0 4 4 0 0)), .ref f1, .ref f2])), (f1, .inl (cI, 16, .inl (aN (zc cnt 16)))), (f2, .inl (cB, 208, .inl (aN mk)))]) hP hD [0, 1, 2, 3, 4, 5] [] rfl rfl (by decide) (by decide) hk1 hFc hP1 hD1
    have hP : va_P (dC, dI) vwCl [(r0, .inr (1, [.ref f0, .int (nI 0), .int (-1), .ref t0, .int (nI (0 + 2)), .int (nI (nmA tp 0 4 4 0 0))])), (t0, .inr (2, [.ref t1, .int (nI len)])), (t1, .inl (cB, 400, .inl (aB tp))), (f0, .inr (0, [.int (nI (nmA tp 0 4 4 0 0)), .ref f1, .ref f2])), (f1, .inl (cI, 16, .inl (aN (zc cnt 16)))), (f2, .inl (cB, 208, .inl (aN mk)))] H := hP
    have hD : va_D A [(r0, .inr (1, [.ref f0, .int (nI 0), .int (-1), .ref t0, .int (nI (0 + 2)), .int (nI (nmA tp 0 4 4 0 0))])), (t0, .inr (2, [.ref t1, .int (nI len)])), (t1, .inl (cB, 400, .inl (aB tp))), (f0, .inr (0, [.int (nI (nmA tp 0 4 4 0 0)), .ref f1, .ref f2])), (f1, .inl (cI, 16, .inl (aN (zc cnt 16)))), (f2, .inl (cB, 208, .inl (aN mk)))] := hD
    subst h_16
    refine lv_if_ne (tgt := 24) hx hb dR_walk_19 (by decide) (fun c_19 => ?_) (fun q => False.elim (absurd q (by decide)))
    have hP : va_P (dC, dI) vwCl [(r0, .inr (1, [.ref f0, .int (nI 0), .int (-1), .ref t0, .int (nI 2), .int (nI (nmA tp 0 4 4 0 0))])), (t0, .inr (2, [.ref t1, .int (nI len)])), (t1, .inl (cB, 400, .inl (aB tp))), (f0, .inr (0, [.int (nI (nmA tp 0 4 4 0 0)), .ref f1, .ref f2])), (f1, .inl (cI, 16, .inl (aN (zc cnt 16)))), (f2, .inl (cB, 208, .inl (aN mk)))] H := hP
    have hD : va_D A [(r0, .inr (1, [.ref f0, .int (nI 0), .int (-1), .ref t0, .int (nI 2), .int (nI (nmA tp 0 4 4 0 0))])), (t0, .inr (2, [.ref t1, .int (nI len)])), (t1, .inl (cB, 400, .inl (aB tp))), (f0, .inr (0, [.int (nI (nmA tp 0 4 4 0 0)), .ref f1, .ref f2])), (f1, .inl (cI, 16, .inl (aN (zc cnt 16)))), (f2, .inl (cB, 208, .inl (aN mk)))] := hD
    refine lv_aload_n hx hb dR_walk_24 rfl (lv_at hl 0 rfl) ?_
    refine va_get (D := (dC, dI)) (ci := 1) (v := .int (nI 2)) (C := RR) (T := TR) (N := 6) hx hb hw inR hown hK hP 0 rfl rfl 4 (by decide) (hw _ w_fl_R_25) (fun _ h9 => h9) rfl dR_walk_25 ?_
    refine lv_istore_n (lv' := [(1, .int (nI 2)), (0, .ref r0)]) hx hb dR_walk_28 rfl hl (by decide) rfl (fun ls hl => ?_)
    refine lv_aload_n hx hb dR_walk_29 rfl (lv_at hl 1 rfl) ?_
    have hPc := hP.sub (ws' := [(r0, .inr (1, [.ref f0, .int (nI 0), .int (-1), .ref t0, .int (nI 2), .int (nI (nmA tp 0 4 4 0 0))])), (t0, .inr (2, [.ref t1, .int (nI len)])), (t1, .inl (cB, 400, .inl (aB tp)))]) [0, 1, 2] rfl
    have hDc := hD.sub (ws' := [(r0, .inr (1, [.ref f0, .int (nI 0), .int (-1), .ref t0, .int (nI 2), .int (nI (nmA tp 0 4 4 0 0))])), (t0, .inr (2, [.ref t1, .int (nI len)])), (t1, .inl (cB, 400, .inl (aB tp)))]) [0, 1, 2] (by decide) rfl
    have hFc := va_free (wc := [(r0, .inr (1, [.ref f0, .int (nI 0), .int (-1), .ref t0, .int (nI 2), .int (nI (nmA tp 0 4 4 0 0))])), (t0, .inr (2, [.ref t1, .int (nI len)])), (t1, .inl (cB, 400, .inl (aB tp)))]) hD hS hA [0, 1, 2] rfl
    refine zc_Si (va_runV (As := []) (rest := []) ⟨hx, hb, hml, hown, hw⟩ (c_walkMaps_no l dC dI r0 f0 0 (-1) t0 2 (nmA tp 0 4 4 0 0) t1 len cI cB tp k2 p2 (by omega) (by omega) htp hmp H.size) (cwV 0 hw (gV w_ml_R_39 w_im_R_walkMaps w_se_R_walkMaps w_in_R w_co_R_walkMaps) rfl rfl rfl (by decide +kernel) ⟨Nat.le_of_ble_eq_true rfl, Nat.le_of_ble_eq_true rfl⟩) (zM_V hG hS hFc hPc hDc hK 0 rfl rfl) rfl rfl hl.1 rfl (lv_room (Nat.le_of_ble_eq_true rfl)) dR_walk_30 ⟨Nat.le_of_ble_eq_true rfl, Nat.le_of_ble_eq_true rfl⟩) hS hFc (fun r_4 u_30 H locs h_30 hP1 hD1 hk1 hS => ?_)
    obtain ⟨hP, hD⟩ := va_join (wr := [(f0, .inr (0, [.int (nI (nmA tp 0 4 4 0 0)), .ref f1, .ref f2])), (f1, .inl (cI, 16, .inl (aN (zc cnt 16)))), (f2, .inl (cB, 208, .inl (aN mk)))]) (w1 := [(r0, .inr (1, [.ref f0, .int (nI k2), .int (nI p2), .ref t0, .int (nI u_30), .int (nI (nmA tp 0 4 4 0 0))])), (t0, .inr (2, [.ref t1, .int (nI len)])), (t1, .inl (cB, 400, .inl (aB tp)))]) hP hD [0, 1, 2] [3, 4, 5] rfl rfl (by decide) (by decide) hk1 hFc hP1 hD1
    have hP : va_P (dC, dI) vwCl [(f0, .inr (0, [.int (nI (nmA tp 0 4 4 0 0)), .ref f1, .ref f2])), (f1, .inl (cI, 16, .inl (aN (zc cnt 16)))), (f2, .inl (cB, 208, .inl (aN mk))), (r0, .inr (1, [.ref f0, .int (nI k2), .int (nI p2), .ref t0, .int (nI u_30), .int (nI (nmA tp 0 4 4 0 0))])), (t0, .inr (2, [.ref t1, .int (nI len)])), (t1, .inl (cB, 400, .inl (aB tp)))] H := hP
    have hD : va_D A [(f0, .inr (0, [.int (nI (nmA tp 0 4 4 0 0)), .ref f1, .ref f2])), (f1, .inl (cI, 16, .inl (aN (zc cnt 16)))), (f2, .inl (cB, 208, .inl (aN mk))), (r0, .inr (1, [.ref f0, .int (nI k2), .int (nI p2), .ref t0, .int (nI u_30), .int (nI (nmA tp 0 4 4 0 0))])), (t0, .inr (2, [.ref t1, .int (nI len)])), (t1, .inl (cB, 400, .inl (aB tp)))] := hD
    subst h_30
    refine lv_if_ne (tgt := 38) hx hb dR_walk_33 (by decide) (fun q => False.elim (absurd q (by decide))) (fun c_33 => ?_)
    refine lv_iconst (v := nI 0) hx hb dR_walk_36 (by decide) ?_
    subst hAe
    subst hQ
    exact W.zret (v := nI 0) hx hb hr (by decide) (fun t ht hW => ⟨⟨nI 0, (u_30, (nmA tp 0 4 4 0 0), nmA tp 0 4 4 0 0, zc cnt 16, mk), rfl, ⟨rfl, hm⟩, by rw [ht]; exact hP.sub [3, 4, 5, 0, 1, 2] rfl, hD.sub [3, 4, 5, 0, 1, 2] (by decide) rfl⟩, hS.F ht⟩) hS.2.2 dR_walk_37
  · have hs9 := dgF_fit hd1
    refine lv_aload_n hx hb dR_walk_0 rfl (lv_at hl 0 rfl) ?_
    refine lv_iconst (v := nI 0) hx hb dR_walk_1 (by decide) ?_
    refine va_put (D := (dC, dI)) (ci := 1) (v := .int (nI 0)) (ty := .int) (C := RR) (T := TR) (N := 6) hx hb hw inR tyR tyR_ok nmR hown hK hP hD hS 0 rfl rfl 1 (by decide) (hw _ w_fl_R_18) (fun _ h9 => h9) rfl (by decide +kernel) rfl rfl (Nat.le_of_ble_eq_true rfl) dR_walk_2 (fun H locs hP hD hS => ?_)
    have hP : va_P (dC, dI) vwCl [(r0, .inr (1, [.ref f0, .int (nI 0), .int fp, .ref t0, .int (nI nx), .int (nI lnb)])), (t0, .inr (2, [.ref t1, .int (nI len)])), (t1, .inl (cB, 400, .inl (aB tp))), (f0, .inr (0, [.int (nI ty), .ref f1, .ref f2])), (f1, .inl (cI, 16, .inl (aN cnt))), (f2, .inl (cB, 208, .inl (aN mk)))] H := hP
    have hD : va_D A [(r0, .inr (1, [.ref f0, .int (nI 0), .int fp, .ref t0, .int (nI nx), .int (nI lnb)])), (t0, .inr (2, [.ref t1, .int (nI len)])), (t1, .inl (cB, 400, .inl (aB tp))), (f0, .inr (0, [.int (nI ty), .ref f1, .ref f2])), (f1, .inl (cI, 16, .inl (aN cnt))), (f2, .inl (cB, 208, .inl (aN mk)))] := hD
    refine lv_aload_n hx hb dR_walk_5 rfl (lv_at hl 0 rfl) ?_
    refine lv_iconst (v := (-1)) hx hb dR_walk_6 (by decide) ?_
    refine va_put (D := (dC, dI)) (ci := 1) (v := .int (-1)) (ty := .int) (C := RR) (T := TR) (N := 6) hx hb hw inR tyR tyR_ok nmR hown hK hP hD hS 0 rfl rfl 2 (by decide) (hw _ w_fl_R_22) (fun _ h9 => h9) rfl (by decide +kernel) rfl rfl (Nat.le_of_ble_eq_true rfl) dR_walk_7 (fun H locs hP hD hS => ?_)
    have hP : va_P (dC, dI) vwCl [(r0, .inr (1, [.ref f0, .int (nI 0), .int (-1), .ref t0, .int (nI nx), .int (nI lnb)])), (t0, .inr (2, [.ref t1, .int (nI len)])), (t1, .inl (cB, 400, .inl (aB tp))), (f0, .inr (0, [.int (nI ty), .ref f1, .ref f2])), (f1, .inl (cI, 16, .inl (aN cnt))), (f2, .inl (cB, 208, .inl (aN mk)))] H := hP
    have hD : va_D A [(r0, .inr (1, [.ref f0, .int (nI 0), .int (-1), .ref t0, .int (nI nx), .int (nI lnb)])), (t0, .inr (2, [.ref t1, .int (nI len)])), (t1, .inl (cB, 400, .inl (aB tp))), (f0, .inr (0, [.int (nI ty), .ref f1, .ref f2])), (f1, .inl (cI, 16, .inl (aN cnt))), (f2, .inl (cB, 208, .inl (aN mk)))] := hD
    refine lv_aload_n hx hb dR_walk_10 rfl (lv_at hl 0 rfl) ?_
    refine lv_iconst (v := nI 0) hx hb dR_walk_11 (by decide) ?_
    refine va_put (D := (dC, dI)) (ci := 1) (v := .int (nI 0)) (ty := .int) (C := RR) (T := TR) (N := 6) hx hb hw inR tyR tyR_ok nmR hown hK hP hD hS 0 rfl rfl 4 (by decide) (hw _ w_fl_R_25) (fun _ h9 => h9) rfl (by decide +kernel) rfl rfl (Nat.le_of_ble_eq_true rfl) dR_walk_12 (fun H locs hP hD hS => ?_)
    have hP : va_P (dC, dI) vwCl [(r0, .inr (1, [.ref f0, .int (nI 0), .int (-1), .ref t0, .int (nI 0), .int (nI lnb)])), (t0, .inr (2, [.ref t1, .int (nI len)])), (t1, .inl (cB, 400, .inl (aB tp))), (f0, .inr (0, [.int (nI ty), .ref f1, .ref f2])), (f1, .inl (cI, 16, .inl (aN cnt))), (f2, .inl (cB, 208, .inl (aN mk)))] H := hP
    have hD : va_D A [(r0, .inr (1, [.ref f0, .int (nI 0), .int (-1), .ref t0, .int (nI 0), .int (nI lnb)])), (t0, .inr (2, [.ref t1, .int (nI len)])), (t1, .inl (cB, 400, .inl (aB tp))), (f0, .inr (0, [.int (nI ty), .ref f1, .ref f2])), (f1, .inl (cI, 16, .inl (aN cnt))), (f2, .inl (cB, 208, .inl (aN mk)))] := hD
    refine lv_aload_n hx hb dR_walk_15 rfl (lv_at hl 0 rfl) ?_
    have hPc := hP.sub (ws' := [(r0, .inr (1, [.ref f0, .int (nI 0), .int (-1), .ref t0, .int (nI 0), .int (nI lnb)])), (t0, .inr (2, [.ref t1, .int (nI len)])), (t1, .inl (cB, 400, .inl (aB tp))), (f0, .inr (0, [.int (nI ty), .ref f1, .ref f2])), (f1, .inl (cI, 16, .inl (aN cnt))), (f2, .inl (cB, 208, .inl (aN mk)))]) [0, 1, 2, 3, 4, 5] rfl
    have hDc := hD.sub (ws' := [(r0, .inr (1, [.ref f0, .int (nI 0), .int (-1), .ref t0, .int (nI 0), .int (nI lnb)])), (t0, .inr (2, [.ref t1, .int (nI len)])), (t1, .inl (cB, 400, .inl (aB tp))), (f0, .inr (0, [.int (nI ty), .ref f1, .ref f2])), (f1, .inl (cI, 16, .inl (aN cnt))), (f2, .inl (cB, 208, .inl (aN mk)))]) [0, 1, 2, 3, 4, 5] (by decide) rfl
    have hFc := va_free (wc := [(r0, .inr (1, [.ref f0, .int (nI 0), .int (-1), .ref t0, .int (nI 0), .int (nI lnb)])), (t0, .inr (2, [.ref t1, .int (nI len)])), (t1, .inl (cB, 400, .inl (aB tp))), (f0, .inr (0, [.int (nI ty), .ref f1, .ref f2])), (f1, .inl (cI, 16, .inl (aN cnt))), (f2, .inl (cB, 208, .inl (aN mk)))]) hD hS hA [0, 1, 2, 3, 4, 5] rfl
    refine zc_Mi (va_runV (As := []) (rest := []) ⟨hx, hb, hml, hown, hw⟩ (c_walkType_ok l dC dI r0 f0 0 (-1) t0 0 lnb t1 len cI cB tp f1 f2 ty cnt mk (by omega) (by omega) htp hd1 (isTy_t hty) H.size) (cwV 0 hw (gV w_ml_R_35 w_im_R_walkType w_se_R_walkType w_in_R w_co_R_walkType) rfl rfl rfl (by decide +kernel) ⟨Nat.le_of_ble_eq_true rfl, Nat.le_of_ble_eq_true rfl⟩) (zM_V hG hS hFc hPc hDc hK 0 rfl rfl) rfl rfl hl.1 rfl (lv_room (Nat.le_of_ble_eq_true rfl)) dR_walk_16 ⟨Nat.le_of_ble_eq_true rfl, Nat.le_of_ble_eq_true rfl⟩) hS hFc (fun r_5 H locs h_16 hP1 hD1 hk1 hS => ?_)
    obtain ⟨hP, hD⟩ := va_join (wr := []) (w1 := [(r0, .inr (1, [.ref f0, .int (nI 0), .int (-1), .ref t0, .int (nI (0 + 2)), .int (nI (nmA tp 0 4 4 0 0))])), (t0, .inr (2, [.ref t1, .int (nI len)])), (t1, .inl (cB, 400, .inl (aB tp))), (f0, .inr (0, [.int (nI (nmA tp 0 4 4 0 0)), .ref f1, .ref f2])), (f1, .inl (cI, 16, .inl (aN (zc cnt 16)))), (f2, .inl (cB, 208, .inl (aN mk)))]) hP hD [0, 1, 2, 3, 4, 5] [] rfl rfl (by decide) (by decide) hk1 hFc hP1 hD1
    have hP : va_P (dC, dI) vwCl [(r0, .inr (1, [.ref f0, .int (nI 0), .int (-1), .ref t0, .int (nI (0 + 2)), .int (nI (nmA tp 0 4 4 0 0))])), (t0, .inr (2, [.ref t1, .int (nI len)])), (t1, .inl (cB, 400, .inl (aB tp))), (f0, .inr (0, [.int (nI (nmA tp 0 4 4 0 0)), .ref f1, .ref f2])), (f1, .inl (cI, 16, .inl (aN (zc cnt 16)))), (f2, .inl (cB, 208, .inl (aN mk)))] H := hP
    have hD : va_D A [(r0, .inr (1, [.ref f0, .int (nI 0), .int (-1), .ref t0, .int (nI (0 + 2)), .int (nI (nmA tp 0 4 4 0 0))])), (t0, .inr (2, [.ref t1, .int (nI len)])), (t1, .inl (cB, 400, .inl (aB tp))), (f0, .inr (0, [.int (nI (nmA tp 0 4 4 0 0)), .ref f1, .ref f2])), (f1, .inl (cI, 16, .inl (aN (zc cnt 16)))), (f2, .inl (cB, 208, .inl (aN mk)))] := hD
    subst h_16
    refine lv_if_ne (tgt := 24) hx hb dR_walk_19 (by decide) (fun c_19 => ?_) (fun q => False.elim (absurd q (by decide)))
    have hP : va_P (dC, dI) vwCl [(r0, .inr (1, [.ref f0, .int (nI 0), .int (-1), .ref t0, .int (nI 2), .int (nI (nmA tp 0 4 4 0 0))])), (t0, .inr (2, [.ref t1, .int (nI len)])), (t1, .inl (cB, 400, .inl (aB tp))), (f0, .inr (0, [.int (nI (nmA tp 0 4 4 0 0)), .ref f1, .ref f2])), (f1, .inl (cI, 16, .inl (aN (zc cnt 16)))), (f2, .inl (cB, 208, .inl (aN mk)))] H := hP
    have hD : va_D A [(r0, .inr (1, [.ref f0, .int (nI 0), .int (-1), .ref t0, .int (nI 2), .int (nI (nmA tp 0 4 4 0 0))])), (t0, .inr (2, [.ref t1, .int (nI len)])), (t1, .inl (cB, 400, .inl (aB tp))), (f0, .inr (0, [.int (nI (nmA tp 0 4 4 0 0)), .ref f1, .ref f2])), (f1, .inl (cI, 16, .inl (aN (zc cnt 16)))), (f2, .inl (cB, 208, .inl (aN mk)))] := hD
    have hmf := mapsF_fit hmp
    refine lv_aload_n hx hb dR_walk_24 rfl (lv_at hl 0 rfl) ?_
    refine va_get (D := (dC, dI)) (ci := 1) (v := .int (nI 2)) (C := RR) (T := TR) (N := 6) hx hb hw inR hown hK hP 0 rfl rfl 4 (by decide) (hw _ w_fl_R_25) (fun _ h9 => h9) rfl dR_walk_25 ?_
    refine lv_istore_n (lv' := [(1, .int (nI 2)), (0, .ref r0)]) hx hb dR_walk_28 rfl hl (by decide) rfl (fun ls hl => ?_)
    refine lv_aload_n hx hb dR_walk_29 rfl (lv_at hl 1 rfl) ?_
    have hPc := hP.sub (ws' := [(r0, .inr (1, [.ref f0, .int (nI 0), .int (-1), .ref t0, .int (nI 2), .int (nI (nmA tp 0 4 4 0 0))])), (t0, .inr (2, [.ref t1, .int (nI len)])), (t1, .inl (cB, 400, .inl (aB tp)))]) [0, 1, 2] rfl
    have hDc := hD.sub (ws' := [(r0, .inr (1, [.ref f0, .int (nI 0), .int (-1), .ref t0, .int (nI 2), .int (nI (nmA tp 0 4 4 0 0))])), (t0, .inr (2, [.ref t1, .int (nI len)])), (t1, .inl (cB, 400, .inl (aB tp)))]) [0, 1, 2] (by decide) rfl
    have hFc := va_free (wc := [(r0, .inr (1, [.ref f0, .int (nI 0), .int (-1), .ref t0, .int (nI 2), .int (nI (nmA tp 0 4 4 0 0))])), (t0, .inr (2, [.ref t1, .int (nI len)])), (t1, .inl (cB, 400, .inl (aB tp)))]) hD hS hA [0, 1, 2] rfl
    refine zc_Mi (va_runV (As := []) (rest := []) ⟨hx, hb, hml, hown, hw⟩ (c_walkMaps_ok l dC dI r0 f0 0 (-1) t0 2 (nmA tp 0 4 4 0 0) t1 len cI cB tp (by omega) (by omega) htp hmp H.size) (cwV 0 hw (gV w_ml_R_39 w_im_R_walkMaps w_se_R_walkMaps w_in_R w_co_R_walkMaps) rfl rfl rfl (by decide +kernel) ⟨Nat.le_of_ble_eq_true rfl, Nat.le_of_ble_eq_true rfl⟩) (zM_V hG hS hFc hPc hDc hK 0 rfl rfl) rfl rfl hl.1 rfl (lv_room (Nat.le_of_ble_eq_true rfl)) dR_walk_30 ⟨Nat.le_of_ble_eq_true rfl, Nat.le_of_ble_eq_true rfl⟩) hS hFc (fun r_6 H locs h_30 hP1 hD1 hk1 hS => ?_)
    obtain ⟨hP, hD⟩ := va_join (wr := [(f0, .inr (0, [.int (nI (nmA tp 0 4 4 0 0)), .ref f1, .ref f2])), (f1, .inl (cI, 16, .inl (aN (zc cnt 16)))), (f2, .inl (cB, 208, .inl (aN mk)))]) (w1 := [(r0, .inr (1, [.ref f0, .int (nI 0), .int (-1), .ref t0, .int (nI (2 + wid tp 2)), .int (nI (nmA tp 0 4 4 0 0))])), (t0, .inr (2, [.ref t1, .int (nI len)])), (t1, .inl (cB, 400, .inl (aB tp)))]) hP hD [0, 1, 2] [3, 4, 5] rfl rfl (by decide) (by decide) hk1 hFc hP1 hD1
    have hP : va_P (dC, dI) vwCl [(f0, .inr (0, [.int (nI (nmA tp 0 4 4 0 0)), .ref f1, .ref f2])), (f1, .inl (cI, 16, .inl (aN (zc cnt 16)))), (f2, .inl (cB, 208, .inl (aN mk))), (r0, .inr (1, [.ref f0, .int (nI 0), .int (-1), .ref t0, .int (nI (2 + wid tp 2)), .int (nI (nmA tp 0 4 4 0 0))])), (t0, .inr (2, [.ref t1, .int (nI len)])), (t1, .inl (cB, 400, .inl (aB tp)))] H := hP
    have hD : va_D A [(f0, .inr (0, [.int (nI (nmA tp 0 4 4 0 0)), .ref f1, .ref f2])), (f1, .inl (cI, 16, .inl (aN (zc cnt 16)))), (f2, .inl (cB, 208, .inl (aN mk))), (r0, .inr (1, [.ref f0, .int (nI 0), .int (-1), .ref t0, .int (nI (2 + wid tp 2)), .int (nI (nmA tp 0 4 4 0 0))])), (t0, .inr (2, [.ref t1, .int (nI len)])), (t1, .inl (cB, 400, .inl (aB tp)))] := hD
    subst h_30
    refine lv_if_ne (tgt := 38) hx hb dR_walk_33 (by decide) (fun c_33 => ?_) (fun q => False.elim (absurd q (by decide)))
    refine lv_aload_n hx hb dR_walk_38 rfl (lv_at hl 1 rfl) ?_
    refine va_get (D := (dC, dI)) (ci := 1) (v := .int (nI (2 + wid tp 2))) (C := RR) (T := TR) (N := 6) hx hb hw inR hown hK hP 3 rfl rfl 4 (by decide) (hw _ w_fl_R_25) (fun _ h9 => h9) rfl dR_walk_39 ?_
    refine lv_istore_n (lv' := [(2, .int (nI (2 + wid tp 2))), (1, .int (nI 2)), (0, .ref r0)]) hx hb dR_walk_42 rfl hl (by decide) rfl (fun ls hl => ?_)
    refine lv_iconst (v := nI 0) hx hb dR_walk_43 (by decide) ?_
    refine lv_istore_n (lv' := [(3, .int (nI 0)), (2, .int (nI (2 + wid tp 2))), (1, .int (nI 2)), (0, .ref r0)]) hx hb dR_walk_44 rfl hl (by decide) rfl (fun ls hl => ?_)
    have lp_45 : ∀ (fu : Nat) (sl : Nat) (q : Nat) (g9 : Nat) (c9 : Nat → Nat) (m9 : Nat → Nat) (hsl : sl ≤ 16) (hq : q ≤ len) (hi : wkF tp len (wid tp 2) (16 - sl) sl q = some (k2, p2)) (hm9 : ∀ j, m9 j < 128) (hms : 16 - sl < fu) (H : Heap) (locs : List Loc) (ls : Array Slot), lv_has ls 5 [(0, .ref r0), (1, .int (nI 2)), (2, .int (nI (2 + wid tp 2))), (3, .int (nI sl))] → va_P (dC, dI) vwCl [(f0, .inr (0, [.int (nI (nmA tp 0 4 4 0 0)), .ref f1, .ref f2])), (f1, .inl (cI, 16, .inl (aN c9))), (f2, .inl (cB, 208, .inl (aN m9))), (r0, .inr (1, [.ref f0, .int (nI 0), .int (-1), .ref t0, .int (nI q), .int (nI g9)])), (t0, .inr (2, [.ref t1, .int (nI len)])), (t1, .inl (cB, 400, .inl (aB tp)))] H → va_D A [(f0, .inr (0, [.int (nI (nmA tp 0 4 4 0 0)), .ref f1, .ref f2])), (f1, .inl (cI, 16, .inl (aN c9))), (f2, .inl (cB, 208, .inl (aN m9))), (r0, .inr (1, [.ref f0, .int (nI 0), .int (-1), .ref t0, .int (nI q), .int (nI g9)])), (t0, .inr (2, [.ref t1, .int (nI len)])), (t1, .inl (cB, 400, .inl (aB tp)))] → va_S A s.heap H locs → W p l e rm_c_walk_no s m ([.ref r0] : List Value).toArray below meth c H locs 0 0 Q (F0 m 45 ls []) := by
      intro fu
      induction fu with
      | zero => intro sl q g9 c9 m9 hsl hq hi hm9 hms; exact absurd hms (Nat.not_lt_zero _)
      | succ fu ih45 =>
        intro sl q g9 c9 m9 hsl hq hi hm9 hms H locs ls hl hP hD hS
        refine lv_iload_n hx hb dR_walk_45 rfl (lv_at hl 3 rfl) ?_
        refine lv_bipush (v := nI 16) hx hb dR_walk_46 (by decide) ?_
        refine zi_ge (tgt := 106) hx hb (by omega) (by omega) dR_walk_48 (by decide) (fun c_48 => ?_) (fun c_48 => ?_)
        · have hi9 := hi
          rw [show 16 - sl = 0 by omega] at hi9
          have hql : q ≠ len := by
            intro h9; unfold wkF at hi9; rw [if_pos h9] at hi9; cases hi9
          unfold wkF at hi9
          rw [if_neg hql] at hi9
          obtain ⟨rfl, rfl⟩ : 7 = k2 ∧ q = p2 := by injection hi9 with h9; injection h9 with h1 h2; exact ⟨h1, h2⟩
          refine lv_aload_n hx hb dR_walk_106 rfl (lv_at hl 0 rfl) ?_
          refine va_get (D := (dC, dI)) (ci := 1) (v := .int (nI q)) (C := RR) (T := TR) (N := 6) hx hb hw inR hown hK hP 3 rfl rfl 4 (by decide) (hw _ w_fl_R_25) (fun _ h9 => h9) rfl dR_walk_107 ?_
          refine lv_aload_n hx hb dR_walk_110 rfl (lv_at hl 0 rfl) ?_
          refine va_get (D := (dC, dI)) (ci := 1) (v := .ref t0) (C := RR) (T := TR) (N := 6) hx hb hw inR hown hK hP 3 rfl rfl 3 (by decide) (hw _ w_fl_R_31) (fun _ h9 => h9) rfl dR_walk_111 ?_
          refine va_get (D := (dC, dI)) (ci := 2) (v := .int (nI len)) (C := RT) (T := TT) (N := 2) hx hb hw inT hown hK hP 4 rfl rfl 1 (by decide) (hw _ w_fl_R_62) (fun _ h9 => h9) rfl dR_walk_114 ?_
          refine zi_eq (tgt := 133) hx hb (by omega) (by omega) dR_walk_117 (by decide) (fun q => False.elim ((hql q))) (fun c_117 => ?_)
          refine lv_aload_n hx hb dR_walk_120 rfl (lv_at hl 0 rfl) ?_
          refine lv_bipush (v := nI 7) hx hb dR_walk_121 (by decide) ?_
          refine lv_aload_n hx hb dR_walk_123 rfl (lv_at hl 0 rfl) ?_
          refine va_get (D := (dC, dI)) (ci := 1) (v := .int (nI q)) (C := RR) (T := TR) (N := 6) hx hb hw inR hown hK hP 3 rfl rfl 4 (by decide) (hw _ w_fl_R_25) (fun _ h9 => h9) rfl dR_walk_124 ?_
          have hPc := hP.sub (ws' := [(r0, .inr (1, [.ref f0, .int (nI 0), .int (-1), .ref t0, .int (nI q), .int (nI g9)]))]) [3] rfl
          have hDc := hD.sub (ws' := [(r0, .inr (1, [.ref f0, .int (nI 0), .int (-1), .ref t0, .int (nI q), .int (nI g9)]))]) [3] (by decide) rfl
          have hFc := va_free (wc := [(r0, .inr (1, [.ref f0, .int (nI 0), .int (-1), .ref t0, .int (nI q), .int (nI g9)]))]) hD hS hA [3] rfl
          refine zc_Mi (va_runV (As := [.int (nI 7), .int (nI q)]) (rest := []) ⟨hx, hb, hml, hown, hw⟩ (c_R_fail l dC dI r0 f0 0 (-1) t0 q g9 cI cB 7 (nI q) H.size) (cwV 2 hw (gV w_ml_R_65 w_im_R_fail w_se_R_fail w_in_R w_co_R_fail) rfl rfl rfl (by decide +kernel) ⟨Nat.le_of_ble_eq_true rfl, Nat.le_of_ble_eq_true rfl⟩) (zM_V hG hS hFc hPc hDc hK 0 rfl rfl) rfl rfl hl.1 rfl (lv_room (Nat.le_of_ble_eq_true rfl)) dR_walk_127 ⟨Nat.le_of_ble_eq_true rfl, Nat.le_of_ble_eq_true rfl⟩) hS hFc (fun r_7 H locs h_127 hP1 hD1 hk1 hS => ?_)
          obtain ⟨hP, hD⟩ := va_join (wr := [(f0, .inr (0, [.int (nI (nmA tp 0 4 4 0 0)), .ref f1, .ref f2])), (f1, .inl (cI, 16, .inl (aN c9))), (f2, .inl (cB, 208, .inl (aN m9))), (t0, .inr (2, [.ref t1, .int (nI len)])), (t1, .inl (cB, 400, .inl (aB tp)))]) (w1 := [(r0, .inr (1, [.ref f0, .int (nI 7), .int (nI q), .ref t0, .int (nI q), .int (nI g9)]))]) hP hD [3] [0, 1, 2, 4, 5] rfl rfl (by decide) (by decide) hk1 hFc hP1 hD1
          have hP : va_P (dC, dI) vwCl [(f0, .inr (0, [.int (nI (nmA tp 0 4 4 0 0)), .ref f1, .ref f2])), (f1, .inl (cI, 16, .inl (aN c9))), (f2, .inl (cB, 208, .inl (aN m9))), (t0, .inr (2, [.ref t1, .int (nI len)])), (t1, .inl (cB, 400, .inl (aB tp))), (r0, .inr (1, [.ref f0, .int (nI 7), .int (nI q), .ref t0, .int (nI q), .int (nI g9)]))] H := hP
          have hD : va_D A [(f0, .inr (0, [.int (nI (nmA tp 0 4 4 0 0)), .ref f1, .ref f2])), (f1, .inl (cI, 16, .inl (aN c9))), (f2, .inl (cB, 208, .inl (aN m9))), (t0, .inr (2, [.ref t1, .int (nI len)])), (t1, .inl (cB, 400, .inl (aB tp))), (r0, .inr (1, [.ref f0, .int (nI 7), .int (nI q), .ref t0, .int (nI q), .int (nI g9)]))] := hD
          subst h_127
          refine lv_if_eq (tgt := 137) hx hb dR_walk_130 (by decide) (fun c_130 => ?_) (fun q => False.elim (absurd q (by decide)))
          refine lv_iconst (v := nI 0) hx hb dR_walk_137 (by decide) ?_
          subst hAe
          subst hQ
          exact W.zret (v := nI 0) hx hb hr (by decide) (fun t ht hW => ⟨⟨nI 0, (q, g9, nmA tp 0 4 4 0 0, c9, m9), rfl, ⟨rfl, hm9⟩, by rw [ht]; exact hP.sub [5, 3, 4, 0, 1, 2] rfl, hD.sub [5, 3, 4, 0, 1, 2] (by decide) rfl⟩, hS.F ht⟩) hS.2.2 dR_walk_138
        · have hfi := fFI_b sl (by omega)
          have hwd := wid_le tp 2
          have ht9 := htp (2 + (fFI sl - 1) / 8)
          refine lv_iload_n hx hb dR_walk_51 rfl (lv_at hl 1 rfl) ?_
          refine va_getsN hx hb zfFI hS hown (va_Nw.use rfl (hG.nf (RR, 42, "FIELDS") (List.mem_of_getElem? (i := 7) rfl))) (fun _ h9 => h9) dR_walk_52 ?_
          refine lv_iload_n hx hb dR_walk_55 rfl (lv_at hl 3 rfl) ?_
          refine za_tab hx hb afFI hS (by omega) (by decide) dR_walk_56 ?_
          refine zc_Ri (va_runSN (As := [.int (nI (fFI sl))]) (rest := [.int (nI 2)]) ⟨hx, hb, hml, hown, hw⟩ (c_C_mapByte l dC dI cI cB (fFI sl) (by omega) (by omega) H) ⟨va_cnB 1 hw (gC w_co_C_mapByte) rfl rfl rfl (hG.nm (RR, 46, yC_mapByte) (List.mem_of_getElem? (i := 7) rfl)) (hw _ w_in_C) (by decide +kernel) ⟨Nat.le_of_ble_eq_true rfl, Nat.le_of_ble_eq_true rfl⟩, hw _ w_st_C_mapByte, trivial⟩ (zR_S hG hS (hP.sub (ws' := []) [] rfl) hK) rfl rfl hl.1 rfl (lv_room (Nat.le_of_ble_eq_true rfl)) dR_walk_57 ⟨Nat.le_of_ble_eq_true rfl, Nat.le_of_ble_eq_true rfl⟩) hS (fun r_8 locs h_57 hS => ?_)
          subst h_57
          refine zi_add hx hb dR_walk_60 ?_
          refine lv_istore (lv' := [(4, .int (nI (2 + (((fFI sl) - 1) / 8)))), (0, .ref r0), (1, .int (nI 2)), (2, .int (nI (2 + wid tp 2))), (3, .int (nI sl))]) hx hb dR_walk_61 hl (by decide) rfl (fun ls hl => ?_)
          refine lv_iload hx hb dR_walk_63 (lv_at hl 0 rfl) ?_
          refine lv_iload_n hx hb dR_walk_65 rfl (lv_at hl 3 rfl) ?_
          refine zi_ge (tgt := 100) hx hb (by omega) (by omega) dR_walk_66 (by decide) (fun c_66 => ?_) (fun c_66 => ?_)
          · have hp9 : prs tp (wid tp 2) sl = false := decide_eq_false (fun h => by first | exact absurd h.1 (Nat.not_lt.mpr c_66) | exact h.2 c_87)
            have hi2 := hi
            rw [show 16 - sl = 16 - (sl + 1) + 1 by omega] at hi2
            rw [wkF_out hp9] at hi2
            have hfit := hq
            have hm2 := hm9
            refine lv_iinc (v := nI (sl + 1)) (lv' := [(3, .int (nI (sl + 1))), (4, .int (nI (2 + (((fFI sl) - 1) / 8)))), (0, .ref r0), (1, .int (nI 2)), (2, .int (nI (2 + wid tp 2)))]) hx hb dR_walk_100 hl (k := 4) rfl (zi_incr sl 1) (by decide) rfl (fun ls hl => ?_)
            refine lv_goto (tgt := 45) hx hb dR_walk_103 (by decide) ?_
            exact ih45 (sl + 1) q g9 c9 m9 (by omega) hfit hi2 hm2 (by omega) _ _ _ (lv_sub hl [2, 3, 4, 0] rfl) (hP.sub [0, 1, 2, 3, 4, 5] rfl) (hD.sub [0, 1, 2, 3, 4, 5] (by decide) rfl) hS
          · refine lv_aload_n hx hb dR_walk_69 rfl (lv_at hl 1 rfl) ?_
            refine va_get (D := (dC, dI)) (ci := 1) (v := .ref t0) (C := RR) (T := TR) (N := 6) hx hb hw inR hown hK hP 3 rfl rfl 3 (by decide) (hw _ w_fl_R_31) (fun _ h9 => h9) rfl dR_walk_70 ?_
            refine lv_iload hx hb dR_walk_73 (lv_at hl 0 rfl) ?_
            refine zc_Ri (va_runV (As := [.int (nI (2 + (((fFI sl) - 1) / 8)))]) (rest := []) ⟨hx, hb, hml, hown, hw⟩ (c_T_byteAt l dC dI t0 t1 len cI cB tp (2 + (((fFI sl) - 1) / 8)) (by omega) (htp _) H) (cwV 1 hw (gV w_ml_R_50 w_im_T_byteAt w_se_T_byteAt w_in_T w_co_T_byteAt) rfl rfl rfl (by decide +kernel) ⟨Nat.le_of_ble_eq_true rfl, Nat.le_of_ble_eq_true rfl⟩) (zR_V hG hS (hP.sub (ws' := [(t0, .inr (2, [.ref t1, .int (nI len)])), (t1, .inl (cB, 400, .inl (aB tp)))]) [4, 5] rfl) hK 0 rfl rfl) rfl rfl hl.1 rfl (lv_room (Nat.le_of_ble_eq_true rfl)) dR_walk_75 ⟨Nat.le_of_ble_eq_true rfl, Nat.le_of_ble_eq_true rfl⟩) hS (fun r_9 locs h_75 hS => ?_)
            subst h_75
            refine va_getsN hx hb zfFI hS hown (va_Nw.use rfl (hG.nf (RR, 42, "FIELDS") (List.mem_of_getElem? (i := 7) rfl))) (fun _ h9 => h9) dR_walk_78 ?_
            refine lv_iload_n hx hb dR_walk_81 rfl (lv_at hl 4 rfl) ?_
            refine za_tab hx hb afFI hS (by omega) (by decide) dR_walk_82 ?_
            refine zc_Ri (va_runSN (As := [.int (nI (fFI sl))]) (rest := [.int (nI (tp (2 + (((fFI sl) - 1) / 8))))]) ⟨hx, hb, hml, hown, hw⟩ (c_C_mapBit l dC dI cI cB (fFI sl) (by omega) (by omega) H) ⟨va_cnB 1 hw (gC w_co_C_mapBit) rfl rfl rfl (hG.nm (RR, 55, yC_mapBit) (List.mem_of_getElem? (i := 8) rfl)) (hw _ w_in_C) (by decide +kernel) ⟨Nat.le_of_ble_eq_true rfl, Nat.le_of_ble_eq_true rfl⟩, hw _ w_st_C_mapBit, trivial⟩ (zR_S hG hS (hP.sub (ws' := []) [] rfl) hK) rfl rfl hl.1 rfl (lv_room (Nat.le_of_ble_eq_true rfl)) dR_walk_83 ⟨Nat.le_of_ble_eq_true rfl, Nat.le_of_ble_eq_true rfl⟩) hS (fun r_10 locs h_83 hS => ?_)
            subst h_83
            refine lv_iand hx hb dR_walk_86 ?_
            refine zi_v (b := nI ((tp (2 + (((fFI sl) - 1) / 8))) &&& (128 / 2 ^ (((fFI sl) - 1) % 8)))) (nI_and _ _) ?_
            refine zi_eq0 (tgt := 100) hx hb (lt_and (bit_lt _)) dR_walk_87 (by decide) (fun c_87 => ?_) (fun c_87 => ?_)
            · have hp9 : prs tp (wid tp 2) sl = false := decide_eq_false (fun h => by first | exact absurd h.1 (Nat.not_lt.mpr c_66) | exact h.2 c_87)
              have hi2 := hi
              rw [show 16 - sl = 16 - (sl + 1) + 1 by omega] at hi2
              rw [wkF_out hp9] at hi2
              have hfit := hq
              have hm2 := hm9
              refine lv_iinc (v := nI (sl + 1)) (lv' := [(3, .int (nI (sl + 1))), (4, .int (nI (2 + (((fFI sl) - 1) / 8)))), (0, .ref r0), (1, .int (nI 2)), (2, .int (nI (2 + wid tp 2)))]) hx hb dR_walk_100 hl (k := 4) rfl (zi_incr sl 1) (by decide) rfl (fun ls hl => ?_)
              refine lv_goto (tgt := 45) hx hb dR_walk_103 (by decide) ?_
              exact ih45 (sl + 1) q g9 c9 m9 (by omega) hfit hi2 hm2 (by omega) _ _ _ (lv_sub hl [2, 3, 4, 0] rfl) (hP.sub [0, 1, 2, 3, 4, 5] rfl) (hD.sub [0, 1, 2, 3, 4, 5] (by decide) rfl) hS
            · have hp9 : prs tp (wid tp 2) sl = true := decide_eq_true ⟨c_66, c_87⟩
              have hi9 := hi
              rw [show 16 - sl = 16 - (sl + 1) + 1 by omega] at hi9
              rcases wkF_inN hi9 hp9 with hfd | ⟨hfd, hi2⟩
              · refine lv_aload_n hx hb dR_walk_90 rfl (lv_at hl 1 rfl) ?_
                refine lv_iload_n hx hb dR_walk_91 rfl (lv_at hl 4 rfl) ?_
                have hPc := hP.sub (ws' := [(r0, .inr (1, [.ref f0, .int (nI 0), .int (-1), .ref t0, .int (nI q), .int (nI g9)])), (t0, .inr (2, [.ref t1, .int (nI len)])), (t1, .inl (cB, 400, .inl (aB tp))), (f0, .inr (0, [.int (nI (nmA tp 0 4 4 0 0)), .ref f1, .ref f2])), (f1, .inl (cI, 16, .inl (aN c9))), (f2, .inl (cB, 208, .inl (aN m9)))]) [3, 4, 5, 0, 1, 2] rfl
                have hDc := hD.sub (ws' := [(r0, .inr (1, [.ref f0, .int (nI 0), .int (-1), .ref t0, .int (nI q), .int (nI g9)])), (t0, .inr (2, [.ref t1, .int (nI len)])), (t1, .inl (cB, 400, .inl (aB tp))), (f0, .inr (0, [.int (nI (nmA tp 0 4 4 0 0)), .ref f1, .ref f2])), (f1, .inl (cI, 16, .inl (aN c9))), (f2, .inl (cB, 208, .inl (aN m9)))]) [3, 4, 5, 0, 1, 2] (by decide) rfl
                have hFc := va_free (wc := [(r0, .inr (1, [.ref f0, .int (nI 0), .int (-1), .ref t0, .int (nI q), .int (nI g9)])), (t0, .inr (2, [.ref t1, .int (nI len)])), (t1, .inl (cB, 400, .inl (aB tp))), (f0, .inr (0, [.int (nI (nmA tp 0 4 4 0 0)), .ref f1, .ref f2])), (f1, .inl (cI, 16, .inl (aN c9))), (f2, .inl (cB, 208, .inl (aN m9)))]) hD hS hA [3, 4, 5, 0, 1, 2] rfl
                refine zc_Si (va_runV (As := [.int (nI sl)]) (rest := []) ⟨hx, hb, hml, hown, hw⟩ (c_walkField_no l dC dI r0 f0 0 (-1) t0 q g9 t1 len cI cB tp f1 f2 (nmA tp 0 4 4 0 0) c9 m9 sl k2 p2 (by omega) (by omega) htp (by omega) hm9 hfd H.size) (cwV 1 hw (gV w_ml_R_58 w_im_R_walkField w_se_R_walkField w_in_R w_co_R_walkField) rfl rfl rfl (by decide +kernel) ⟨Nat.le_of_ble_eq_true rfl, Nat.le_of_ble_eq_true rfl⟩) (zM_V hG hS hFc hPc hDc hK 0 rfl rfl) rfl rfl hl.1 rfl (lv_room (Nat.le_of_ble_eq_true rfl)) dR_walk_92 ⟨Nat.le_of_ble_eq_true rfl, Nat.le_of_ble_eq_true rfl⟩) hS hFc (fun r_11 u_92 H locs h_92 hP1 hD1 hk1 hS => ?_)
                obtain ⟨n9_92, l9_92, m9_92⟩ := u_92
                obtain ⟨hP, hD⟩ := va_join (wr := []) (w1 := [(r0, .inr (1, [.ref f0, .int (nI k2), .int (nI p2), .ref t0, .int (nI n9_92), .int (nI l9_92)])), (t0, .inr (2, [.ref t1, .int (nI len)])), (t1, .inl (cB, 400, .inl (aB tp))), (f0, .inr (0, [.int (nI (nmA tp 0 4 4 0 0)), .ref f1, .ref f2])), (f1, .inl (cI, 16, .inl (aN c9))), (f2, .inl (cB, 208, .inl (aN m9_92)))]) hP hD [3, 4, 5, 0, 1, 2] [] rfl rfl (by decide) (by decide) hk1 hFc hP1 hD1
                have hP : va_P (dC, dI) vwCl [(r0, .inr (1, [.ref f0, .int (nI k2), .int (nI p2), .ref t0, .int (nI n9_92), .int (nI l9_92)])), (t0, .inr (2, [.ref t1, .int (nI len)])), (t1, .inl (cB, 400, .inl (aB tp))), (f0, .inr (0, [.int (nI (nmA tp 0 4 4 0 0)), .ref f1, .ref f2])), (f1, .inl (cI, 16, .inl (aN c9))), (f2, .inl (cB, 208, .inl (aN m9_92)))] H := hP
                have hD : va_D A [(r0, .inr (1, [.ref f0, .int (nI k2), .int (nI p2), .ref t0, .int (nI n9_92), .int (nI l9_92)])), (t0, .inr (2, [.ref t1, .int (nI len)])), (t1, .inl (cB, 400, .inl (aB tp))), (f0, .inr (0, [.int (nI (nmA tp 0 4 4 0 0)), .ref f1, .ref f2])), (f1, .inl (cI, 16, .inl (aN c9))), (f2, .inl (cB, 208, .inl (aN m9_92)))] := hD
                obtain ⟨rfl, hu_h_92⟩ := h_92
                refine lv_if_ne (tgt := 100) hx hb dR_walk_95 (by decide) (fun q => False.elim (absurd q (by decide))) (fun c_95 => ?_)
                refine lv_iconst (v := nI 0) hx hb dR_walk_98 (by decide) ?_
                subst hAe
                subst hQ
                exact W.zret (v := nI 0) hx hb hr (by decide) (fun t ht hW => ⟨⟨nI 0, (n9_92, l9_92, (nmA tp 0 4 4 0 0), c9, m9_92), rfl, ⟨rfl, hu_h_92⟩, by rw [ht]; exact hP.sub [0, 1, 2, 3, 4, 5] rfl, hD.sub [0, 1, 2, 3, 4, 5] (by decide) rfl⟩, hS.F ht⟩) hS.2.2 dR_walk_99
              · have hfit := fieldF_fit hfd
                have hm2 := fMk_lt htp hfd hm9
                refine lv_aload_n hx hb dR_walk_90 rfl (lv_at hl 1 rfl) ?_
                refine lv_iload_n hx hb dR_walk_91 rfl (lv_at hl 4 rfl) ?_
                have hPc := hP.sub (ws' := [(r0, .inr (1, [.ref f0, .int (nI 0), .int (-1), .ref t0, .int (nI q), .int (nI g9)])), (t0, .inr (2, [.ref t1, .int (nI len)])), (t1, .inl (cB, 400, .inl (aB tp))), (f0, .inr (0, [.int (nI (nmA tp 0 4 4 0 0)), .ref f1, .ref f2])), (f1, .inl (cI, 16, .inl (aN c9))), (f2, .inl (cB, 208, .inl (aN m9)))]) [3, 4, 5, 0, 1, 2] rfl
                have hDc := hD.sub (ws' := [(r0, .inr (1, [.ref f0, .int (nI 0), .int (-1), .ref t0, .int (nI q), .int (nI g9)])), (t0, .inr (2, [.ref t1, .int (nI len)])), (t1, .inl (cB, 400, .inl (aB tp))), (f0, .inr (0, [.int (nI (nmA tp 0 4 4 0 0)), .ref f1, .ref f2])), (f1, .inl (cI, 16, .inl (aN c9))), (f2, .inl (cB, 208, .inl (aN m9)))]) [3, 4, 5, 0, 1, 2] (by decide) rfl
                have hFc := va_free (wc := [(r0, .inr (1, [.ref f0, .int (nI 0), .int (-1), .ref t0, .int (nI q), .int (nI g9)])), (t0, .inr (2, [.ref t1, .int (nI len)])), (t1, .inl (cB, 400, .inl (aB tp))), (f0, .inr (0, [.int (nI (nmA tp 0 4 4 0 0)), .ref f1, .ref f2])), (f1, .inl (cI, 16, .inl (aN c9))), (f2, .inl (cB, 208, .inl (aN m9)))]) hD hS hA [3, 4, 5, 0, 1, 2] rfl
                refine zc_Mi (va_runV (As := [.int (nI sl)]) (rest := []) ⟨hx, hb, hml, hown, hw⟩ (c_walkField_ok l dC dI r0 f0 0 (-1) t0 q g9 t1 len cI cB tp f1 f2 (nmA tp 0 4 4 0 0) c9 m9 sl (by omega) (by omega) htp (by omega) hfd H.size) (cwV 1 hw (gV w_ml_R_58 w_im_R_walkField w_se_R_walkField w_in_R w_co_R_walkField) rfl rfl rfl (by decide +kernel) ⟨Nat.le_of_ble_eq_true rfl, Nat.le_of_ble_eq_true rfl⟩) (zM_V hG hS hFc hPc hDc hK 0 rfl rfl) rfl rfl hl.1 rfl (lv_room (Nat.le_of_ble_eq_true rfl)) dR_walk_92 ⟨Nat.le_of_ble_eq_true rfl, Nat.le_of_ble_eq_true rfl⟩) hS hFc (fun r_12 H locs h_92 hP1 hD1 hk1 hS => ?_)
                obtain ⟨hP, hD⟩ := va_join (wr := []) (w1 := [(r0, .inr (1, [.ref f0, .int (nI 0), .int (-1), .ref t0, .int (nI (fNx tp q sl)), .int (nI (fLn tp q sl g9))])), (t0, .inr (2, [.ref t1, .int (nI len)])), (t1, .inl (cB, 400, .inl (aB tp))), (f0, .inr (0, [.int (nI (nmA tp 0 4 4 0 0)), .ref f1, .ref f2])), (f1, .inl (cI, 16, .inl (aN (nup c9 sl (fCt tp q sl))))), (f2, .inl (cB, 208, .inl (aN (fMk tp q sl m9))))]) hP hD [3, 4, 5, 0, 1, 2] [] rfl rfl (by decide) (by decide) hk1 hFc hP1 hD1
                have hP : va_P (dC, dI) vwCl [(r0, .inr (1, [.ref f0, .int (nI 0), .int (-1), .ref t0, .int (nI (fNx tp q sl)), .int (nI (fLn tp q sl g9))])), (t0, .inr (2, [.ref t1, .int (nI len)])), (t1, .inl (cB, 400, .inl (aB tp))), (f0, .inr (0, [.int (nI (nmA tp 0 4 4 0 0)), .ref f1, .ref f2])), (f1, .inl (cI, 16, .inl (aN (nup c9 sl (fCt tp q sl))))), (f2, .inl (cB, 208, .inl (aN (fMk tp q sl m9))))] H := hP
                have hD : va_D A [(r0, .inr (1, [.ref f0, .int (nI 0), .int (-1), .ref t0, .int (nI (fNx tp q sl)), .int (nI (fLn tp q sl g9))])), (t0, .inr (2, [.ref t1, .int (nI len)])), (t1, .inl (cB, 400, .inl (aB tp))), (f0, .inr (0, [.int (nI (nmA tp 0 4 4 0 0)), .ref f1, .ref f2])), (f1, .inl (cI, 16, .inl (aN (nup c9 sl (fCt tp q sl))))), (f2, .inl (cB, 208, .inl (aN (fMk tp q sl m9))))] := hD
                subst h_92
                refine lv_if_ne (tgt := 100) hx hb dR_walk_95 (by decide) (fun c_95 => ?_) (fun q => False.elim (absurd q (by decide)))
                refine lv_iinc (v := nI (sl + 1)) (lv' := [(3, .int (nI (sl + 1))), (4, .int (nI (2 + (((fFI sl) - 1) / 8)))), (0, .ref r0), (1, .int (nI 2)), (2, .int (nI (2 + wid tp 2)))]) hx hb dR_walk_100 hl (k := 4) rfl (zi_incr sl 1) (by decide) rfl (fun ls hl => ?_)
                refine lv_goto (tgt := 45) hx hb dR_walk_103 (by decide) ?_
                exact ih45 (sl + 1) (fNx tp q sl) (fLn tp q sl g9) (nup c9 sl (fCt tp q sl)) (fMk tp q sl m9) (by omega) hfit hi2 hm2 (by omega) _ _ _ (lv_sub hl [2, 3, 4, 0] rfl) (hP.sub [3, 4, 5, 0, 1, 2] rfl) (hD.sub [3, 4, 5, 0, 1, 2] (by decide) rfl) hS
    exact lp_45 ((16 - 0) + 1) 0 (2 + wid tp 2) (nmA tp 0 4 4 0 0) (zc cnt 16) mk (by omega) hmf hwk hm (Nat.lt_succ_self _) _ _ _ (lv_sub hl [3, 2, 1, 0] rfl) (hP.sub [0, 1, 2, 3, 4, 5] rfl) (hD.sub [0, 1, 2, 3, 4, 5] (by decide) rfl) hS
end
section
theorem pB_len (mk : Nat → Nat) (b : Nat) : ∀ n k, (pB mk b n k).length = n
  | 0, _ => rfl
  | n + 1, k => by
    show (pB mk b n (k + 2)).length + 1 = n + 1
    rw [pB_len mk b n (k + 2)]
theorem dgB_len (mk : Nat → Nat) (b ct : Nat) : (dgB mk b ct).length = (ct + 1) / 2 := by
  unfold dgB
  rw [List.length_append, pB_len]
  split
  · show 0 + _ = _; omega
  · show 1 + _ = _; omega
theorem anb_len (v dc : Nat) : (anb v dc).length = if (dc + 1) / 2 = 2 then 2 else 1 := by
  unfold anb
  split <;> rfl
theorem anb_le (v dc : Nat) : (anb v dc).length ≤ 2 := by rw [anb_len]; split <;> omega
def mxl (sl : Nat) : Nat := (if fCD sl = 0 then 0 else (if (fCD sl + 1) / 2 = 2 then 2 else 1)) + (if fHL sl = 0 then (fMM sl + 1) / 2 else fMM sl)
/-- how many bytes the fields from sl on have at most -/
def fRM : Nat → Nat := tl [144, 133, 130, 124, 121, 114, 102, 96, 94, 86, 84, 42, 40, 35, 27, 6, 0]
theorem fRM_s : ∀ sl, sl < 16 → mxl sl + fRM (sl + 1) = fRM sl := by decide
theorem fldB_le {cnt mk : Nat → Nat} {sl : Nat} (h : cnt sl ≤ fMM sl) : (fldB cnt mk sl).length ≤ mxl sl := by
  unfold fldB mxl
  rw [List.length_append]
  have h1 : (if fCD sl = 0 then [] else anb (cnt sl) (fCD sl)).length = if fCD sl = 0 then 0 else (if (fCD sl + 1) / 2 = 2 then 2 else 1) := by
    split
    · rfl
    · exact anb_len _ _
  have h2 : (if fHL sl = 0 then dgB mk (fFM sl) (cnt sl) else lB mk (fFM sl) (cnt sl) 0).length ≤ if fHL sl = 0 then (fMM sl + 1) / 2 else fMM sl := by
    split
    · rw [dgB_len]; omega
    · rw [lB_len]; exact h
  omega
def flB (cnt mk : Nat → Nat) : Nat → Nat → List Nat
  | 0, _ => []
  | n + 1, sl => (if cnt sl = 0 then [] else fldB cnt mk sl) ++ flB cnt mk n (sl + 1)
def s2L (cnt : Nat → Nat) : Nat → Nat → Bool
  | 0, _ => false
  | n + 1, sl => if 64 < fFI sl ∧ cnt sl ≠ 0 then true else s2L cnt n (sl + 1)
def mpS (b : Nat) (cnt : Nat → Nat) : Nat → Nat → (Nat → Nat) → (Nat → Nat)
  | 0, _, f => f
  | n + 1, sl, f => mpS b cnt n (sl + 1) (if cnt sl = 0 then f else nup f (b + (fFI sl - 1) / 8) (f (b + (fFI sl - 1) / 8) ^^^ 128 / 2 ^ ((fFI sl - 1) % 8)))
theorem bit_s (x : Nat) : 128 / 2 ^ x ≤ 128 := Nat.div_le_self _ _
end
section
def rm_c_T_append : Room := ({ frames := 0, cells := 0, slots := 0, locals := 0 } : Room)
set_option maxHeartbeats 4000000 in
set_option maxRecDepth 100000 in
theorem c_T_append (l : Launch) (dC : Nat → ClassId) (dI : Nat → Nat → Nat) (t0 : Nat) (t1 : Nat) (cI : ClassId) (cB : ClassId) (len : Nat) (tp : Nat → Nat) (a1 : Nat) (hl9 : len < 400) (sz : Nat) : Met l yT_append wsT_append rm_c_T_append (zM (dC, dI) [(cI, .int), (cB, .byte)] [.ref t0, .int (nI a1)] [(t0, .inr (2, [.ref t1, .int (nI len)])), (t1, .inl (cB, 400, .inl (aB tp)))] sz) (zMv (dC, dI) [(t0, .inr (2, [.ref t1, .int (nI len)])), (t1, .inl (cB, 400, .inl (aB tp)))] [(t0, .inr (2, [.ref t1, .int (nI (len + 1))])), (t1, .inl (cB, 400, .inl (aB (nup tp len a1))))] sz (True)) 0 0 (va_A [(t0, .inr (2, [.ref t1, .int (nI len)])), (t1, .inl (cB, 400, .inl (aB tp)))] sz) := by
  refine Met.ofW (cc := cT_append) (maxL := 2) (ret := none) (by decide) rfl ?_
  intro p e s m args below meth c s₁ Bd hml hv
  obtain ⟨rfl, hsz, hG, hP, hK, hD0⟩ := hv
  subst hsz
  have hx := Bd.exec
  have hb := Bd.bytes
  have hr := Bd.returns
  have hts := atoms_spec (ws := wsT_append) Bd.pre
  have hw : ∀ w ∈ BIG, w.before _ s = true := fun w h => hts w (List.mem_cons_of_mem _ h)
  have hown : s.vm.findClass RT = some m.cls := findClass_of_methodNamed Bd.named
  have hlocks := Bd.notSynchronized
  have hD := hD0.self (sz := s.heap.size)
  obtain ⟨A, hAe⟩ : ∃ A, A = va_A [(t0, .inr (2, [.ref t1, .int (nI len)])), (t1, .inl (cB, 400, .inl (aB tp)))] s.heap.size := ⟨_, rfl⟩
  have hA : ∀ q : Nat, s.heap.size ≤ q → A q := fun q h => by rw [hAe]; exact Or.inr h
  rw [← hAe] at hG hD
  have hS : va_S A s.heap s.heap [] := va_S.rf
  have hl := lv_entry ([.ref t0, .int (nI a1)]) (n := 2) (Nat.le_of_ble_eq_true rfl)
  rw [lg_entry_eq]
  generalize (lg_sl ([.ref t0, .int (nI a1)]) ++ List.replicate (2 - (lg_sl ([.ref t0, .int (nI a1)])).length) Slot.unset).toArray = ls at hl ⊢
  have hl : lv_has ls 2 [(0, .ref t0), (1, .int (nI a1))] := hl
  refine zq_name (fun Q hQ => ?_)
  change W p l e rm_c_T_append s m _ below meth c _ _ _ _ Q _
  refine lv_aload_n hx hb dT_append_0 rfl (lv_at hl 0 rfl) ?_
  refine va_get (D := (dC, dI)) (ci := 2) (v := .int (nI len)) (C := RT) (T := TT) (N := 2) hx hb hw inT hown hK hP 0 rfl rfl 1 (by decide) (hw _ w_fl_T_15) (fun _ h9 => h9) rfl dT_append_1 ?_
  refine lv_sipush (v := nI 400) hx hb dT_append_4 (by decide) ?_
  refine zi_ge (tgt := 31) hx hb (by omega) (by omega) dT_append_7 (by decide) (fun q => False.elim ((by omega : False))) (fun c_7 => ?_)
  refine lv_aload_n hx hb dT_append_10 rfl (lv_at hl 0 rfl) ?_
  refine va_get (D := (dC, dI)) (ci := 2) (v := .ref t1) (C := RT) (T := TT) (N := 2) hx hb hw inT hown hK hP 0 rfl rfl 0 (by decide) (hw _ w_fl_T_9) (fun _ h9 => h9) rfl dT_append_11 ?_
  refine lv_aload_n hx hb dT_append_14 rfl (lv_at hl 0 rfl) ?_
  refine va_get (D := (dC, dI)) (ci := 2) (v := .int (nI len)) (C := RT) (T := TT) (N := 2) hx hb hw inT hown hK hP 0 rfl rfl 1 (by decide) (hw _ w_fl_T_15) (fun _ h9 => h9) rfl dT_append_15 ?_
  refine lv_iload_n hx hb dT_append_18 rfl (lv_at hl 1 rfl) ?_
  refine zi_b hx hb dT_append_19 ?_
  refine za_Bst hx hb hK hP hD hS 1 1 rfl rfl (by omega) (by decide) dT_append_20 (fun H locs hP hD hS => ?_)
  have hP : va_P (dC, dI) vwCl [(t0, .inr (2, [.ref t1, .int (nI len)])), (t1, .inl (cB, 400, .inl (aB (nup tp len a1))))] H := hP
  have hD : va_D A [(t0, .inr (2, [.ref t1, .int (nI len)])), (t1, .inl (cB, 400, .inl (aB (nup tp len a1))))] := hD
  refine lv_aload_n hx hb dT_append_21 rfl (lv_at hl 0 rfl) ?_
  refine lv_dup hx hb dT_append_22 rfl ?_
  refine va_get (D := (dC, dI)) (ci := 2) (v := .int (nI len)) (C := RT) (T := TT) (N := 2) hx hb hw inT hown hK hP 0 rfl rfl 1 (by decide) (hw _ w_fl_T_15) (fun _ h9 => h9) rfl dT_append_23 ?_
  refine lv_iconst (v := nI 1) hx hb dT_append_26 (by decide) ?_
  refine zi_add hx hb dT_append_27 ?_
  refine va_put (D := (dC, dI)) (ci := 2) (v := .int (nI (len + 1))) (ty := .int) (C := RT) (T := TT) (N := 2) hx hb hw inT tyT tyT_ok nmT hown hK hP hD hS 0 rfl rfl 1 (by decide) (hw _ w_fl_T_15) (fun _ h9 => h9) rfl (by decide +kernel) rfl rfl (Nat.le_of_ble_eq_true rfl) dT_append_28 (fun H locs hP hD hS => ?_)
  have hP : va_P (dC, dI) vwCl [(t0, .inr (2, [.ref t1, .int (nI (len + 1))])), (t1, .inl (cB, 400, .inl (aB (nup tp len a1))))] H := hP
  have hD : va_D A [(t0, .inr (2, [.ref t1, .int (nI (len + 1))])), (t1, .inl (cB, 400, .inl (aB (nup tp len a1))))] := hD
  subst hAe
  subst hQ
  exact W.vret hx hb hr (fun t ht hW => ⟨⟨(), rfl, trivial, by rw [ht]; exact hP.sub [0, 1] rfl, hD.sub [0, 1] (by decide) rfl⟩, hS.F ht⟩) hS.2.2 dT_append_31
def rm_c_appendx : Room := ({ frames := 0, cells := 0, slots := 0, locals := 0 } : Room)
set_option maxHeartbeats 4000000 in
set_option maxRecDepth 100000 in
theorem c_appendx (l : Launch) (dC : Nat → ClassId) (dI : Nat → Nat → Nat) (t0 : Nat) (t1 : Nat) (cI : ClassId) (cB : ClassId) (len : Nat) (tp : Nat → Nat) (x1 : Int32) (hl9 : len < 400) (sz : Nat) : Met l yT_append wsT_append rm_c_appendx (zM (dC, dI) [(cI, .int), (cB, .byte)] [.ref t0, .int x1] [(t0, .inr (2, [.ref t1, .int (nI len)])), (t1, .inl (cB, 400, .inl (aB tp)))] sz) (zMv (dC, dI) [(t0, .inr (2, [.ref t1, .int (nI len)])), (t1, .inl (cB, 400, .inl (aB tp)))] [(t0, .inr (2, [.ref t1, .int (nI (len + 1))])), (t1, .inl (cB, 400, .inl (aB (nup tp len (x1.toBitVec.toNat % 256)))))] sz (True)) 0 0 (va_A [(t0, .inr (2, [.ref t1, .int (nI len)])), (t1, .inl (cB, 400, .inl (aB tp)))] sz) := by
  refine Met.ofW (cc := cT_append) (maxL := 2) (ret := none) (by decide) rfl ?_
  intro p e s m args below meth c s₁ Bd hml hv
  obtain ⟨rfl, hsz, hG, hP, hK, hD0⟩ := hv
  subst hsz
  have hx := Bd.exec
  have hb := Bd.bytes
  have hr := Bd.returns
  have hts := atoms_spec (ws := wsT_append) Bd.pre
  have hw : ∀ w ∈ BIG, w.before _ s = true := fun w h => hts w (List.mem_cons_of_mem _ h)
  have hown : s.vm.findClass RT = some m.cls := findClass_of_methodNamed Bd.named
  have hlocks := Bd.notSynchronized
  have hD := hD0.self (sz := s.heap.size)
  obtain ⟨A, hAe⟩ : ∃ A, A = va_A [(t0, .inr (2, [.ref t1, .int (nI len)])), (t1, .inl (cB, 400, .inl (aB tp)))] s.heap.size := ⟨_, rfl⟩
  have hA : ∀ q : Nat, s.heap.size ≤ q → A q := fun q h => by rw [hAe]; exact Or.inr h
  rw [← hAe] at hG hD
  have hS : va_S A s.heap s.heap [] := va_S.rf
  have hl := lv_entry ([.ref t0, .int x1]) (n := 2) (Nat.le_of_ble_eq_true rfl)
  rw [lg_entry_eq]
  generalize (lg_sl ([.ref t0, .int x1]) ++ List.replicate (2 - (lg_sl ([.ref t0, .int x1])).length) Slot.unset).toArray = ls at hl ⊢
  have hl : lv_has ls 2 [(0, .ref t0), (1, .int x1)] := hl
  refine zq_name (fun Q hQ => ?_)
  change W p l e rm_c_appendx s m _ below meth c _ _ _ _ Q _
  refine lv_aload_n hx hb dT_append_0 rfl (lv_at hl 0 rfl) ?_
  refine va_get (D := (dC, dI)) (ci := 2) (v := .int (nI len)) (C := RT) (T := TT) (N := 2) hx hb hw inT hown hK hP 0 rfl rfl 1 (by decide) (hw _ w_fl_T_15) (fun _ h9 => h9) rfl dT_append_1 ?_
  refine lv_sipush (v := nI 400) hx hb dT_append_4 (by decide) ?_
  refine zi_ge (tgt := 31) hx hb (by omega) (by omega) dT_append_7 (by decide) (fun q => False.elim ((by omega : False))) (fun c_7 => ?_)
  refine lv_aload_n hx hb dT_append_10 rfl (lv_at hl 0 rfl) ?_
  refine va_get (D := (dC, dI)) (ci := 2) (v := .ref t1) (C := RT) (T := TT) (N := 2) hx hb hw inT hown hK hP 0 rfl rfl 0 (by decide) (hw _ w_fl_T_9) (fun _ h9 => h9) rfl dT_append_11 ?_
  refine lv_aload_n hx hb dT_append_14 rfl (lv_at hl 0 rfl) ?_
  refine va_get (D := (dC, dI)) (ci := 2) (v := .int (nI len)) (C := RT) (T := TT) (N := 2) hx hb hw inT hown hK hP 0 rfl rfl 1 (by decide) (hw _ w_fl_T_15) (fun _ h9 => h9) rfl dT_append_15 ?_
  refine lv_iload_n hx hb dT_append_18 rfl (lv_at hl 1 rfl) ?_
  refine lv_i2b hx hb dT_append_19 rfl ?_
  refine zi_v (b := sB (x1.toBitVec.toNat % 256)) (sB_of x1) ?_
  refine za_Bst hx hb hK hP hD hS 1 1 rfl rfl (by omega) (by decide) dT_append_20 (fun H locs hP hD hS => ?_)
  have hP : va_P (dC, dI) vwCl [(t0, .inr (2, [.ref t1, .int (nI len)])), (t1, .inl (cB, 400, .inl (aB (nup tp len (x1.toBitVec.toNat % 256)))))] H := hP
  have hD : va_D A [(t0, .inr (2, [.ref t1, .int (nI len)])), (t1, .inl (cB, 400, .inl (aB (nup tp len (x1.toBitVec.toNat % 256)))))] := hD
  refine lv_aload_n hx hb dT_append_21 rfl (lv_at hl 0 rfl) ?_
  refine lv_dup hx hb dT_append_22 rfl ?_
  refine va_get (D := (dC, dI)) (ci := 2) (v := .int (nI len)) (C := RT) (T := TT) (N := 2) hx hb hw inT hown hK hP 0 rfl rfl 1 (by decide) (hw _ w_fl_T_15) (fun _ h9 => h9) rfl dT_append_23 ?_
  refine lv_iconst (v := nI 1) hx hb dT_append_26 (by decide) ?_
  refine zi_add hx hb dT_append_27 ?_
  refine va_put (D := (dC, dI)) (ci := 2) (v := .int (nI (len + 1))) (ty := .int) (C := RT) (T := TT) (N := 2) hx hb hw inT tyT tyT_ok nmT hown hK hP hD hS 0 rfl rfl 1 (by decide) (hw _ w_fl_T_15) (fun _ h9 => h9) rfl (by decide +kernel) rfl rfl (Nat.le_of_ble_eq_true rfl) dT_append_28 (fun H locs hP hD hS => ?_)
  have hP : va_P (dC, dI) vwCl [(t0, .inr (2, [.ref t1, .int (nI (len + 1))])), (t1, .inl (cB, 400, .inl (aB (nup tp len (x1.toBitVec.toNat % 256)))))] H := hP
  have hD : va_D A [(t0, .inr (2, [.ref t1, .int (nI (len + 1))])), (t1, .inl (cB, 400, .inl (aB (nup tp len (x1.toBitVec.toNat % 256)))))] := hD
  subst hAe
  subst hQ
  exact W.vret hx hb hr (fun t ht hW => ⟨⟨(), rfl, trivial, by rw [ht]; exact hP.sub [0, 1] rfl, hD.sub [0, 1] (by decide) rfl⟩, hS.F ht⟩) hS.2.2 dT_append_31
def rm_c_T_appendPair : Room := ({ frames := 1, cells := 0, slots := 0, locals := 21 } : Room)
set_option maxHeartbeats 4000000 in
set_option maxRecDepth 100000 in
theorem c_T_appendPair (l : Launch) (dC : Nat → ClassId) (dI : Nat → Nat → Nat) (t0 : Nat) (t1 : Nat) (cI : ClassId) (cB : ClassId) (len : Nat) (tp : Nat → Nat) (a1 : Nat) (a2 : Nat) (hl9 : len < 400) (ha1 : a1 < 16) (ha2 : a2 < 16) (sz : Nat) : Met l yT_appendPair wsT_appendPair rm_c_T_appendPair (zM (dC, dI) [(cI, .int), (cB, .byte)] [.ref t0, .int (nI a1), .int (nI a2)] [(t0, .inr (2, [.ref t1, .int (nI len)])), (t1, .inl (cB, 400, .inl (aB tp)))] sz) (zMv (dC, dI) [(t0, .inr (2, [.ref t1, .int (nI len)])), (t1, .inl (cB, 400, .inl (aB tp)))] [(t0, .inr (2, [.ref t1, .int (nI (len + 1))])), (t1, .inl (cB, 400, .inl (aB (nup tp len (a1 * 16 + a2)))))] sz (True)) 0 0 (va_A [(t0, .inr (2, [.ref t1, .int (nI len)])), (t1, .inl (cB, 400, .inl (aB tp)))] sz) := by
  refine Met.ofW (cc := cT_appendPair) (maxL := 3) (ret := none) (by decide) rfl ?_
  intro p e s m args below meth c s₁ Bd hml hv
  obtain ⟨rfl, hsz, hG, hP, hK, hD0⟩ := hv
  subst hsz
  have hx := Bd.exec
  have hb := Bd.bytes
  have hr := Bd.returns
  have hts := atoms_spec (ws := wsT_appendPair) Bd.pre
  have hw : ∀ w ∈ BIG, w.before _ s = true := fun w h => hts w (List.mem_cons_of_mem _ h)
  have hown : s.vm.findClass RT = some m.cls := findClass_of_methodNamed Bd.named
  have hlocks := Bd.notSynchronized
  have hD := hD0.self (sz := s.heap.size)
  obtain ⟨A, hAe⟩ : ∃ A, A = va_A [(t0, .inr (2, [.ref t1, .int (nI len)])), (t1, .inl (cB, 400, .inl (aB tp)))] s.heap.size := ⟨_, rfl⟩
  have hA : ∀ q : Nat, s.heap.size ≤ q → A q := fun q h => by rw [hAe]; exact Or.inr h
  rw [← hAe] at hG hD
  have hS : va_S A s.heap s.heap [] := va_S.rf
  have hl := lv_entry ([.ref t0, .int (nI a1), .int (nI a2)]) (n := 3) (Nat.le_of_ble_eq_true rfl)
  rw [lg_entry_eq]
  generalize (lg_sl ([.ref t0, .int (nI a1), .int (nI a2)]) ++ List.replicate (3 - (lg_sl ([.ref t0, .int (nI a1), .int (nI a2)])).length) Slot.unset).toArray = ls at hl ⊢
  have hl : lv_has ls 3 [(0, .ref t0), (1, .int (nI a1)), (2, .int (nI a2))] := hl
  refine zq_name (fun Q hQ => ?_)
  change W p l e rm_c_T_appendPair s m _ below meth c _ _ _ _ Q _
  refine lv_aload_n hx hb dT_appendPair_0 rfl (lv_at hl 0 rfl) ?_
  refine lv_iload_n hx hb dT_appendPair_1 rfl (lv_at hl 1 rfl) ?_
  refine lv_iconst (v := nI 4) hx hb dT_appendPair_2 (by decide) ?_
  refine zi_shl hx hb (by omega) (by decide) dT_appendPair_3 ?_
  refine zi_v (b := nI (a1 * 16)) rfl ?_
  refine lv_iload_n hx hb dT_appendPair_4 rfl (lv_at hl 2 rfl) ?_
  refine lv_ior hx hb dT_appendPair_5 ?_
  refine zi_v (b := nI (a1 * 16 + a2)) (or16 ha1 ha2) ?_
  have hPc := hP.sub (ws' := [(t0, .inr (2, [.ref t1, .int (nI len)])), (t1, .inl (cB, 400, .inl (aB tp)))]) [0, 1] rfl
  have hDc := hD.sub (ws' := [(t0, .inr (2, [.ref t1, .int (nI len)])), (t1, .inl (cB, 400, .inl (aB tp)))]) [0, 1] (by decide) rfl
  have hFc := va_free (wc := [(t0, .inr (2, [.ref t1, .int (nI len)])), (t1, .inl (cB, 400, .inl (aB tp)))]) hD hS hA [0, 1] rfl
  refine zc_Mv (va_runV (As := [.int (nI (a1 * 16 + a2))]) (rest := []) ⟨hx, hb, hml, hown, hw⟩ (c_T_append l dC dI t0 t1 cI cB len tp (a1 * 16 + a2) (by omega) s.heap.size) (cwV 1 hw (gV w_ml_T_44 w_im_T_append w_se_T_append w_in_T w_co_T_append) rfl rfl rfl (by decide +kernel) ⟨Nat.le_of_ble_eq_true rfl, Nat.le_of_ble_eq_true rfl⟩) (zM_V hG hS hFc hPc hDc hK 0 rfl rfl) rfl rfl hl.1 rfl (lv_room (Nat.le_of_ble_eq_true rfl)) dT_appendPair_6 ⟨Nat.le_of_ble_eq_true rfl, Nat.le_of_ble_eq_true rfl⟩) hS hFc (fun H locs h_6 hP1 hD1 hk1 hS => ?_)
  obtain ⟨hP, hD⟩ := va_join (wr := []) (w1 := [(t0, .inr (2, [.ref t1, .int (nI (len + 1))])), (t1, .inl (cB, 400, .inl (aB (nup tp len (a1 * 16 + a2)))))]) hP hD [0, 1] [] rfl rfl (by decide) (by decide) hk1 hFc hP1 hD1
  have hP : va_P (dC, dI) vwCl [(t0, .inr (2, [.ref t1, .int (nI (len + 1))])), (t1, .inl (cB, 400, .inl (aB (nup tp len (a1 * 16 + a2)))))] H := hP
  have hD : va_D A [(t0, .inr (2, [.ref t1, .int (nI (len + 1))])), (t1, .inl (cB, 400, .inl (aB (nup tp len (a1 * 16 + a2)))))] := hD
  subst hAe
  subst hQ
  exact W.vret hx hb hr (fun t ht hW => ⟨⟨(), rfl, trivial, by rw [ht]; exact hP.sub [0, 1] rfl, hD.sub [0, 1] (by decide) rfl⟩, hS.F ht⟩) hS.2.2 dT_appendPair_9
def rm_c_T_flip : Room := ({ frames := 0, cells := 0, slots := 0, locals := 0 } : Room)
set_option maxHeartbeats 4000000 in
set_option maxRecDepth 100000 in
theorem c_T_flip (l : Launch) (dC : Nat → ClassId) (dI : Nat → Nat → Nat) (t0 : Nat) (t1 : Nat) (cI : ClassId) (cB : ClassId) (len : Nat) (tp : Nat → Nat) (i : Nat) (x : Nat) (hi : i < 400) (sz : Nat) : Met l yT_flip wsT_flip rm_c_T_flip (zM (dC, dI) [(cI, .int), (cB, .byte)] [.ref t0, .int (nI i), .int (nI x)] [(t0, .inr (2, [.ref t1, .int (nI len)])), (t1, .inl (cB, 400, .inl (aB tp)))] sz) (zMv (dC, dI) [(t0, .inr (2, [.ref t1, .int (nI len)])), (t1, .inl (cB, 400, .inl (aB tp)))] [(t0, .inr (2, [.ref t1, .int (nI len)])), (t1, .inl (cB, 400, .inl (aB (nup tp i (tp i ^^^ x)))))] sz (True)) 0 0 (va_A [(t0, .inr (2, [.ref t1, .int (nI len)])), (t1, .inl (cB, 400, .inl (aB tp)))] sz) := by
  refine Met.ofW (cc := cT_flip) (maxL := 3) (ret := none) (by decide) rfl ?_
  intro p e s m args below meth c s₁ Bd hml hv
  obtain ⟨rfl, hsz, hG, hP, hK, hD0⟩ := hv
  subst hsz
  have hx := Bd.exec
  have hb := Bd.bytes
  have hr := Bd.returns
  have hts := atoms_spec (ws := wsT_flip) Bd.pre
  have hw : ∀ w ∈ BIG, w.before _ s = true := fun w h => hts w (List.mem_cons_of_mem _ h)
  have hown : s.vm.findClass RT = some m.cls := findClass_of_methodNamed Bd.named
  have hlocks := Bd.notSynchronized
  have hD := hD0.self (sz := s.heap.size)
  obtain ⟨A, hAe⟩ : ∃ A, A = va_A [(t0, .inr (2, [.ref t1, .int (nI len)])), (t1, .inl (cB, 400, .inl (aB tp)))] s.heap.size := ⟨_, rfl⟩
  have hA : ∀ q : Nat, s.heap.size ≤ q → A q := fun q h => by rw [hAe]; exact Or.inr h
  rw [← hAe] at hG hD
  have hS : va_S A s.heap s.heap [] := va_S.rf
  have hl := lv_entry ([.ref t0, .int (nI i), .int (nI x)]) (n := 3) (Nat.le_of_ble_eq_true rfl)
  rw [lg_entry_eq]
  generalize (lg_sl ([.ref t0, .int (nI i), .int (nI x)]) ++ List.replicate (3 - (lg_sl ([.ref t0, .int (nI i), .int (nI x)])).length) Slot.unset).toArray = ls at hl ⊢
  have hl : lv_has ls 3 [(0, .ref t0), (1, .int (nI i)), (2, .int (nI x))] := hl
  refine zq_name (fun Q hQ => ?_)
  change W p l e rm_c_T_flip s m _ below meth c _ _ _ _ Q _
  refine lv_aload_n hx hb dT_flip_0 rfl (lv_at hl 0 rfl) ?_
  refine va_get (D := (dC, dI)) (ci := 2) (v := .ref t1) (C := RT) (T := TT) (N := 2) hx hb hw inT hown hK hP 0 rfl rfl 0 (by decide) (hw _ w_fl_T_9) (fun _ h9 => h9) rfl dT_flip_1 ?_
  refine lv_iload_n hx hb dT_flip_4 rfl (lv_at hl 1 rfl) ?_
  refine lv_aload_n hx hb dT_flip_5 rfl (lv_at hl 0 rfl) ?_
  refine va_get (D := (dC, dI)) (ci := 2) (v := .ref t1) (C := RT) (T := TT) (N := 2) hx hb hw inT hown hK hP 0 rfl rfl 0 (by decide) (hw _ w_fl_T_9) (fun _ h9 => h9) rfl dT_flip_6 ?_
  refine lv_iload_n hx hb dT_flip_9 rfl (lv_at hl 1 rfl) ?_
  refine za_Bld hx hb hK hP 1 1 rfl rfl (by omega) (by decide) dT_flip_10 ?_
  refine lv_iload_n hx hb dT_flip_11 rfl (lv_at hl 2 rfl) ?_
  refine lv_ixor hx hb dT_flip_12 ?_
  refine lv_i2b hx hb dT_flip_13 rfl ?_
  refine zi_v (b := sB (tp i ^^^ x)) (sB_xor (tp i) x) ?_
  refine za_Bst hx hb hK hP hD hS 1 1 rfl rfl (by omega) (by decide) dT_flip_14 (fun H locs hP hD hS => ?_)
  have hP : va_P (dC, dI) vwCl [(t0, .inr (2, [.ref t1, .int (nI len)])), (t1, .inl (cB, 400, .inl (aB (nup tp i (tp i ^^^ x)))))] H := hP
  have hD : va_D A [(t0, .inr (2, [.ref t1, .int (nI len)])), (t1, .inl (cB, 400, .inl (aB (nup tp i (tp i ^^^ x)))))] := hD
  subst hAe
  subst hQ
  exact W.vret hx hb hr (fun t ht hW => ⟨⟨(), rfl, trivial, by rw [ht]; exact hP.sub [0, 1] rfl, hD.sub [0, 1] (by decide) rfl⟩, hS.F ht⟩) hS.2.2 dT_flip_15
def rm_c_T_appendNumber : Room := ({ frames := 2, cells := 0, slots := 0, locals := 43 } : Room)
set_option maxHeartbeats 4000000 in
set_option maxRecDepth 100000 in
theorem c_T_appendNumber (l : Launch) (dC : Nat → ClassId) (dI : Nat → Nat → Nat) (t0 : Nat) (t1 : Nat) (cI : ClassId) (cB : ClassId) (len : Nat) (tp : Nat → Nat) (v : Nat) (dc : Nat) (hl9 : len + 2 ≤ 400) (hv : v < 10000) (hdc : dc < 100) (sz : Nat) : Met l yT_appendNumber wsT_appendNumber rm_c_T_appendNumber (zM (dC, dI) [(cI, .int), (cB, .byte)] [.ref t0, .int (nI v), .int (nI dc)] [(t0, .inr (2, [.ref t1, .int (nI len)])), (t1, .inl (cB, 400, .inl (aB tp)))] sz) (zMv (dC, dI) [(t0, .inr (2, [.ref t1, .int (nI len)])), (t1, .inl (cB, 400, .inl (aB tp)))] [(t0, .inr (2, [.ref t1, .int (nI (len + (anb v dc).length))])), (t1, .inl (cB, 400, .inl (aB (apl tp len (anb v dc)))))] sz (True)) 0 0 (va_A [(t0, .inr (2, [.ref t1, .int (nI len)])), (t1, .inl (cB, 400, .inl (aB tp)))] sz) := by
  refine Met.ofW (cc := cT_appendNumber) (maxL := 3) (ret := none) (by decide) rfl ?_
  intro p e s m args below meth c s₁ Bd hml hv
  obtain ⟨rfl, hsz, hG, hP, hK, hD0⟩ := hv
  subst hsz
  have hx := Bd.exec
  have hb := Bd.bytes
  have hr := Bd.returns
  have hts := atoms_spec (ws := wsT_appendNumber) Bd.pre
  have hw : ∀ w ∈ BIG, w.before _ s = true := fun w h => hts w (List.mem_cons_of_mem _ h)
  have hown : s.vm.findClass RT = some m.cls := findClass_of_methodNamed Bd.named
  have hlocks := Bd.notSynchronized
  have hD := hD0.self (sz := s.heap.size)
  obtain ⟨A, hAe⟩ : ∃ A, A = va_A [(t0, .inr (2, [.ref t1, .int (nI len)])), (t1, .inl (cB, 400, .inl (aB tp)))] s.heap.size := ⟨_, rfl⟩
  have hA : ∀ q : Nat, s.heap.size ≤ q → A q := fun q h => by rw [hAe]; exact Or.inr h
  rw [← hAe] at hG hD
  have hS : va_S A s.heap s.heap [] := va_S.rf
  have hl := lv_entry ([.ref t0, .int (nI v), .int (nI dc)]) (n := 3) (Nat.le_of_ble_eq_true rfl)
  rw [lg_entry_eq]
  generalize (lg_sl ([.ref t0, .int (nI v), .int (nI dc)]) ++ List.replicate (3 - (lg_sl ([.ref t0, .int (nI v), .int (nI dc)])).length) Slot.unset).toArray = ls at hl ⊢
  have hl : lv_has ls 3 [(0, .ref t0), (1, .int (nI v)), (2, .int (nI dc))] := hl
  refine zq_name (fun Q hQ => ?_)
  change W p l e rm_c_T_appendNumber s m _ below meth c _ _ _ _ Q _
  by_cases hq : (dc + 1) / 2 = 2
  · refine lv_iload_n hx hb dT_appendNumber_0 rfl (lv_at hl 2 rfl) ?_
    refine zc_Ri (va_runSN (As := [.int (nI dc)]) (rest := []) ⟨hx, hb, hml, hown, hw⟩ (c_C_bytesOfDigits l dC dI cI cB dc (by omega) s.heap) ⟨va_cnB 1 hw (gC w_co_C_bytesOfDigits) rfl rfl rfl (hG.nm (RT, 78, yC_bytesOfDigits) (List.mem_of_getElem? (i := 3) rfl)) (hw _ w_in_C) (by decide +kernel) ⟨Nat.le_of_ble_eq_true rfl, Nat.le_of_ble_eq_true rfl⟩, hw _ w_st_C_bytesOfDigits, trivial⟩ (zR_S hG hS (hP.sub (ws' := []) [] rfl) hK) rfl rfl hl.1 rfl (lv_room (Nat.le_of_ble_eq_true rfl)) dT_appendNumber_1 ⟨Nat.le_of_ble_eq_true rfl, Nat.le_of_ble_eq_true rfl⟩) hS (fun r_1 locs h_1 hS => ?_)
    subst h_1
    refine lv_iconst (v := nI 2) hx hb dT_appendNumber_4 (by decide) ?_
    refine zi_ne (tgt := 27) hx hb (by omega) (by omega) dT_appendNumber_5 (by decide) (fun q => False.elim ((q hq : False))) (fun c_5 => ?_)
    refine lv_aload_n hx hb dT_appendNumber_8 rfl (lv_at hl 0 rfl) ?_
    refine lv_iload_n hx hb dT_appendNumber_9 rfl (lv_at hl 1 rfl) ?_
    refine lv_sipush (v := nI 1000) hx hb dT_appendNumber_10 (by decide) ?_
    refine zi_div hx hb (by omega) (by omega) (by omega) dT_appendNumber_13 ?_
    refine lv_bipush (v := nI 10) hx hb dT_appendNumber_14 (by decide) ?_
    refine zi_rem hx hb (by omega) (by omega) (by omega) dT_appendNumber_16 ?_
    refine lv_iload_n hx hb dT_appendNumber_17 rfl (lv_at hl 1 rfl) ?_
    refine lv_bipush (v := nI 100) hx hb dT_appendNumber_18 (by decide) ?_
    refine zi_div hx hb (by omega) (by omega) (by omega) dT_appendNumber_20 ?_
    refine lv_bipush (v := nI 10) hx hb dT_appendNumber_21 (by decide) ?_
    refine zi_rem hx hb (by omega) (by omega) (by omega) dT_appendNumber_23 ?_
    have hPc := hP.sub (ws' := [(t0, .inr (2, [.ref t1, .int (nI len)])), (t1, .inl (cB, 400, .inl (aB tp)))]) [0, 1] rfl
    have hDc := hD.sub (ws' := [(t0, .inr (2, [.ref t1, .int (nI len)])), (t1, .inl (cB, 400, .inl (aB tp)))]) [0, 1] (by decide) rfl
    have hFc := va_free (wc := [(t0, .inr (2, [.ref t1, .int (nI len)])), (t1, .inl (cB, 400, .inl (aB tp)))]) hD hS hA [0, 1] rfl
    refine zc_Mv (va_runV (As := [.int (nI ((v / 1000) % 10)), .int (nI ((v / 100) % 10))]) (rest := []) ⟨hx, hb, hml, hown, hw⟩ (c_T_appendPair l dC dI t0 t1 cI cB len tp ((v / 1000) % 10) ((v / 100) % 10) (by omega) (by omega) (by omega) s.heap.size) (cwV 2 hw (gV w_ml_T_81 w_im_T_appendPair w_se_T_appendPair w_in_T w_co_T_appendPair) rfl rfl rfl (by decide +kernel) ⟨Nat.le_of_ble_eq_true rfl, Nat.le_of_ble_eq_true rfl⟩) (zM_V hG hS hFc hPc hDc hK 0 rfl rfl) rfl rfl hl.1 rfl (lv_room (Nat.le_of_ble_eq_true rfl)) dT_appendNumber_24 ⟨Nat.le_of_ble_eq_true rfl, Nat.le_of_ble_eq_true rfl⟩) hS hFc (fun H locs h_24 hP1 hD1 hk1 hS => ?_)
    obtain ⟨hP, hD⟩ := va_join (wr := []) (w1 := [(t0, .inr (2, [.ref t1, .int (nI (len + 1))])), (t1, .inl (cB, 400, .inl (aB (nup tp len (((v / 1000) % 10) * 16 + ((v / 100) % 10))))))]) hP hD [0, 1] [] rfl rfl (by decide) (by decide) hk1 hFc hP1 hD1
    have hP : va_P (dC, dI) vwCl [(t0, .inr (2, [.ref t1, .int (nI (len + 1))])), (t1, .inl (cB, 400, .inl (aB (nup tp len (((v / 1000) % 10) * 16 + ((v / 100) % 10))))))] H := hP
    have hD : va_D A [(t0, .inr (2, [.ref t1, .int (nI (len + 1))])), (t1, .inl (cB, 400, .inl (aB (nup tp len (((v / 1000) % 10) * 16 + ((v / 100) % 10))))))] := hD
    refine lv_aload_n hx hb dT_appendNumber_27 rfl (lv_at hl 0 rfl) ?_
    refine lv_iload_n hx hb dT_appendNumber_28 rfl (lv_at hl 1 rfl) ?_
    refine lv_bipush (v := nI 10) hx hb dT_appendNumber_29 (by decide) ?_
    refine zi_div hx hb (by omega) (by omega) (by omega) dT_appendNumber_31 ?_
    refine lv_bipush (v := nI 10) hx hb dT_appendNumber_32 (by decide) ?_
    refine zi_rem hx hb (by omega) (by omega) (by omega) dT_appendNumber_34 ?_
    refine lv_iload_n hx hb dT_appendNumber_35 rfl (lv_at hl 1 rfl) ?_
    refine lv_bipush (v := nI 10) hx hb dT_appendNumber_36 (by decide) ?_
    refine zi_rem hx hb (by omega) (by omega) (by omega) dT_appendNumber_38 ?_
    have hPc := hP.sub (ws' := [(t0, .inr (2, [.ref t1, .int (nI (len + 1))])), (t1, .inl (cB, 400, .inl (aB (nup tp len (((v / 1000) % 10) * 16 + ((v / 100) % 10))))))]) [0, 1] rfl
    have hDc := hD.sub (ws' := [(t0, .inr (2, [.ref t1, .int (nI (len + 1))])), (t1, .inl (cB, 400, .inl (aB (nup tp len (((v / 1000) % 10) * 16 + ((v / 100) % 10))))))]) [0, 1] (by decide) rfl
    have hFc := va_free (wc := [(t0, .inr (2, [.ref t1, .int (nI (len + 1))])), (t1, .inl (cB, 400, .inl (aB (nup tp len (((v / 1000) % 10) * 16 + ((v / 100) % 10))))))]) hD hS hA [0, 1] rfl
    refine zc_Mv (va_runV (As := [.int (nI ((v / 10) % 10)), .int (nI (v % 10))]) (rest := []) ⟨hx, hb, hml, hown, hw⟩ (c_T_appendPair l dC dI t0 t1 cI cB (len + 1) (nup tp len (((v / 1000) % 10) * 16 + ((v / 100) % 10))) ((v / 10) % 10) (v % 10) (by omega) (by omega) (by omega) H.size) (cwV 2 hw (gV w_ml_T_81 w_im_T_appendPair w_se_T_appendPair w_in_T w_co_T_appendPair) rfl rfl rfl (by decide +kernel) ⟨Nat.le_of_ble_eq_true rfl, Nat.le_of_ble_eq_true rfl⟩) (zM_V hG hS hFc hPc hDc hK 0 rfl rfl) rfl rfl hl.1 rfl (lv_room (Nat.le_of_ble_eq_true rfl)) dT_appendNumber_39 ⟨Nat.le_of_ble_eq_true rfl, Nat.le_of_ble_eq_true rfl⟩) hS hFc (fun H locs h_39 hP1 hD1 hk1 hS => ?_)
    obtain ⟨hP, hD⟩ := va_join (wr := []) (w1 := [(t0, .inr (2, [.ref t1, .int (nI ((len + 1) + 1))])), (t1, .inl (cB, 400, .inl (aB (nup (nup tp len (((v / 1000) % 10) * 16 + ((v / 100) % 10))) (len + 1) (((v / 10) % 10) * 16 + (v % 10))))))]) hP hD [0, 1] [] rfl rfl (by decide) (by decide) hk1 hFc hP1 hD1
    have hP : va_P (dC, dI) vwCl [(t0, .inr (2, [.ref t1, .int (nI ((len + 1) + 1))])), (t1, .inl (cB, 400, .inl (aB (nup (nup tp len (((v / 1000) % 10) * 16 + ((v / 100) % 10))) (len + 1) (((v / 10) % 10) * 16 + (v % 10))))))] H := hP
    have hD : va_D A [(t0, .inr (2, [.ref t1, .int (nI ((len + 1) + 1))])), (t1, .inl (cB, 400, .inl (aB (nup (nup tp len (((v / 1000) % 10) * 16 + ((v / 100) % 10))) (len + 1) (((v / 10) % 10) * 16 + (v % 10))))))] := hD
    have e9 : anb v dc = [v / 1000 % 10 * 16 + v / 100 % 10, v / 10 % 10 * 16 + v % 10] := by unfold anb; rw [if_pos hq]; rfl
    rw [e9] at hQ
    subst hAe
    subst hQ
    exact W.vret hx hb hr (fun t ht hW => ⟨⟨(), rfl, trivial, by rw [ht]; exact hP.sub [0, 1] rfl, hD.sub [0, 1] (by decide) rfl⟩, hS.F ht⟩) hS.2.2 dT_appendNumber_42
  · refine lv_iload_n hx hb dT_appendNumber_0 rfl (lv_at hl 2 rfl) ?_
    refine zc_Ri (va_runSN (As := [.int (nI dc)]) (rest := []) ⟨hx, hb, hml, hown, hw⟩ (c_C_bytesOfDigits l dC dI cI cB dc (by omega) s.heap) ⟨va_cnB 1 hw (gC w_co_C_bytesOfDigits) rfl rfl rfl (hG.nm (RT, 78, yC_bytesOfDigits) (List.mem_of_getElem? (i := 3) rfl)) (hw _ w_in_C) (by decide +kernel) ⟨Nat.le_of_ble_eq_true rfl, Nat.le_of_ble_eq_true rfl⟩, hw _ w_st_C_bytesOfDigits, trivial⟩ (zR_S hG hS (hP.sub (ws' := []) [] rfl) hK) rfl rfl hl.1 rfl (lv_room (Nat.le_of_ble_eq_true rfl)) dT_appendNumber_1 ⟨Nat.le_of_ble_eq_true rfl, Nat.le_of_ble_eq_true rfl⟩) hS (fun r_4 locs h_1 hS => ?_)
    subst h_1
    refine lv_iconst (v := nI 2) hx hb dT_appendNumber_4 (by decide) ?_
    refine zi_ne (tgt := 27) hx hb (by omega) (by omega) dT_appendNumber_5 (by decide) (fun c_5 => ?_) (fun q => False.elim ((hq q : False)))
    refine lv_aload_n hx hb dT_appendNumber_27 rfl (lv_at hl 0 rfl) ?_
    refine lv_iload_n hx hb dT_appendNumber_28 rfl (lv_at hl 1 rfl) ?_
    refine lv_bipush (v := nI 10) hx hb dT_appendNumber_29 (by decide) ?_
    refine zi_div hx hb (by omega) (by omega) (by omega) dT_appendNumber_31 ?_
    refine lv_bipush (v := nI 10) hx hb dT_appendNumber_32 (by decide) ?_
    refine zi_rem hx hb (by omega) (by omega) (by omega) dT_appendNumber_34 ?_
    refine lv_iload_n hx hb dT_appendNumber_35 rfl (lv_at hl 1 rfl) ?_
    refine lv_bipush (v := nI 10) hx hb dT_appendNumber_36 (by decide) ?_
    refine zi_rem hx hb (by omega) (by omega) (by omega) dT_appendNumber_38 ?_
    have hPc := hP.sub (ws' := [(t0, .inr (2, [.ref t1, .int (nI len)])), (t1, .inl (cB, 400, .inl (aB tp)))]) [0, 1] rfl
    have hDc := hD.sub (ws' := [(t0, .inr (2, [.ref t1, .int (nI len)])), (t1, .inl (cB, 400, .inl (aB tp)))]) [0, 1] (by decide) rfl
    have hFc := va_free (wc := [(t0, .inr (2, [.ref t1, .int (nI len)])), (t1, .inl (cB, 400, .inl (aB tp)))]) hD hS hA [0, 1] rfl
    refine zc_Mv (va_runV (As := [.int (nI ((v / 10) % 10)), .int (nI (v % 10))]) (rest := []) ⟨hx, hb, hml, hown, hw⟩ (c_T_appendPair l dC dI t0 t1 cI cB len tp ((v / 10) % 10) (v % 10) (by omega) (by omega) (by omega) s.heap.size) (cwV 2 hw (gV w_ml_T_81 w_im_T_appendPair w_se_T_appendPair w_in_T w_co_T_appendPair) rfl rfl rfl (by decide +kernel) ⟨Nat.le_of_ble_eq_true rfl, Nat.le_of_ble_eq_true rfl⟩) (zM_V hG hS hFc hPc hDc hK 0 rfl rfl) rfl rfl hl.1 rfl (lv_room (Nat.le_of_ble_eq_true rfl)) dT_appendNumber_39 ⟨Nat.le_of_ble_eq_true rfl, Nat.le_of_ble_eq_true rfl⟩) hS hFc (fun H locs h_39 hP1 hD1 hk1 hS => ?_)
    obtain ⟨hP, hD⟩ := va_join (wr := []) (w1 := [(t0, .inr (2, [.ref t1, .int (nI (len + 1))])), (t1, .inl (cB, 400, .inl (aB (nup tp len (((v / 10) % 10) * 16 + (v % 10))))))]) hP hD [0, 1] [] rfl rfl (by decide) (by decide) hk1 hFc hP1 hD1
    have hP : va_P (dC, dI) vwCl [(t0, .inr (2, [.ref t1, .int (nI (len + 1))])), (t1, .inl (cB, 400, .inl (aB (nup tp len (((v / 10) % 10) * 16 + (v % 10))))))] H := hP
    have hD : va_D A [(t0, .inr (2, [.ref t1, .int (nI (len + 1))])), (t1, .inl (cB, 400, .inl (aB (nup tp len (((v / 10) % 10) * 16 + (v % 10))))))] := hD
    have e9 : anb v dc = [v / 10 % 10 * 16 + v % 10] := by unfold anb; rw [if_neg hq]; rfl
    rw [e9] at hQ
    subst hAe
    subst hQ
    exact W.vret hx hb hr (fun t ht hW => ⟨⟨(), rfl, trivial, by rw [ht]; exact hP.sub [0, 1] rfl, hD.sub [0, 1] (by decide) rfl⟩, hS.F ht⟩) hS.2.2 dT_appendNumber_42
def rm_c_T_appendLetters : Room := ({ frames := 1, cells := 0, slots := 0, locals := 22 } : Room)
set_option maxHeartbeats 4000000 in
set_option maxRecDepth 100000 in
theorem c_T_appendLetters (l : Launch) (dC : Nat → ClassId) (dI : Nat → Nat → Nat) (t0 : Nat) (t1 : Nat) (cI : ClassId) (cB : ClassId) (len : Nat) (tp : Nat → Nat) (h0 : Nat) (h1 : Nat) (h2 : Nat) (ty : Nat) (mk : Nat → Nat) (sl : Nat) (ct : Nat) (hl9 : len + ct ≤ 400) (hs : sl < 16) (hk : fFM sl + ct ≤ 208) (hm : ∀ j, mk j < 128) (sz : Nat) : Met l yT_appendLetters wsT_appendLetters rm_c_T_appendLetters (zM (dC, dI) [(cI, .int), (cB, .byte)] [.ref t0, .ref h0, .int (nI sl), .int (nI ct)] [(t0, .inr (2, [.ref t1, .int (nI len)])), (t1, .inl (cB, 400, .inl (aB tp))), (h0, .inr (0, [.int (nI ty), .ref h1, .ref h2])), (h2, .inl (cB, 208, .inl (aN mk)))] sz) (zMv (dC, dI) [(t0, .inr (2, [.ref t1, .int (nI len)])), (t1, .inl (cB, 400, .inl (aB tp))), (h0, .inr (0, [.int (nI ty), .ref h1, .ref h2])), (h2, .inl (cB, 208, .inl (aN mk)))] [(t0, .inr (2, [.ref t1, .int (nI (len + (lB mk (fFM sl) ct 0).length))])), (t1, .inl (cB, 400, .inl (aB (apl tp len (lB mk (fFM sl) ct 0))))), (h0, .inr (0, [.int (nI ty), .ref h1, .ref h2])), (h2, .inl (cB, 208, .inl (aN mk)))] sz (True)) 0 0 (va_A [(t0, .inr (2, [.ref t1, .int (nI len)])), (t1, .inl (cB, 400, .inl (aB tp))), (h0, .inr (0, [.int (nI ty), .ref h1, .ref h2])), (h2, .inl (cB, 208, .inl (aN mk)))] sz) := by
  refine Met.ofW (cc := cT_appendLetters) (maxL := 5) (ret := none) (by decide) rfl ?_
  intro p e s m args below meth c s₁ Bd hml hv
  obtain ⟨rfl, hsz, hG, hP, hK, hD0⟩ := hv
  subst hsz
  have hx := Bd.exec
  have hb := Bd.bytes
  have hr := Bd.returns
  have hts := atoms_spec (ws := wsT_appendLetters) Bd.pre
  have hw : ∀ w ∈ BIG, w.before _ s = true := fun w h => hts w (List.mem_cons_of_mem _ h)
  have hown : s.vm.findClass RT = some m.cls := findClass_of_methodNamed Bd.named
  have hlocks := Bd.notSynchronized
  have hD := hD0.self (sz := s.heap.size)
  obtain ⟨A, hAe⟩ : ∃ A, A = va_A [(t0, .inr (2, [.ref t1, .int (nI len)])), (t1, .inl (cB, 400, .inl (aB tp))), (h0, .inr (0, [.int (nI ty), .ref h1, .ref h2])), (h2, .inl (cB, 208, .inl (aN mk)))] s.heap.size := ⟨_, rfl⟩
  have hA : ∀ q : Nat, s.heap.size ≤ q → A q := fun q h => by rw [hAe]; exact Or.inr h
  rw [← hAe] at hG hD
  have hS : va_S A s.heap s.heap [] := va_S.rf
  have hl := lv_entry ([.ref t0, .ref h0, .int (nI sl), .int (nI ct)]) (n := 5) (Nat.le_of_ble_eq_true rfl)
  rw [lg_entry_eq]
  generalize (lg_sl ([.ref t0, .ref h0, .int (nI sl), .int (nI ct)]) ++ List.replicate (5 - (lg_sl ([.ref t0, .ref h0, .int (nI sl), .int (nI ct)])).length) Slot.unset).toArray = ls at hl ⊢
  have hl : lv_has ls 5 [(0, .ref t0), (1, .ref h0), (2, .int (nI sl)), (3, .int (nI ct))] := hl
  refine zq_name (fun Q hQ => ?_)
  change W p l e rm_c_T_appendLetters s m _ below meth c _ _ _ _ Q _
  refine lv_iconst (v := nI 0) hx hb dT_appendLetters_0 (by decide) ?_
  refine lv_istore (lv' := [(4, .int (nI 0)), (0, .ref t0), (1, .ref h0), (2, .int (nI sl)), (3, .int (nI ct))]) hx hb dT_appendLetters_1 hl (by decide) rfl (fun ls hl => ?_)
  have lp_3 : ∀ (fu : Nat) (k : Nat) (q : Nat) (f : Nat → Nat) (hkc : k ≤ ct) (hq : q = len + k) (hi : apl f q (lB mk (fFM sl) (ct - k) k) = apl tp len (lB mk (fFM sl) ct 0)) (hms : ct - k < fu) (H : Heap) (locs : List Loc) (ls : Array Slot), lv_has ls 5 [(0, .ref t0), (1, .ref h0), (2, .int (nI sl)), (3, .int (nI ct)), (4, .int (nI k))] → va_P (dC, dI) vwCl [(t0, .inr (2, [.ref t1, .int (nI q)])), (t1, .inl (cB, 400, .inl (aB f))), (h0, .inr (0, [.int (nI ty), .ref h1, .ref h2])), (h2, .inl (cB, 208, .inl (aN mk)))] H → va_D A [(t0, .inr (2, [.ref t1, .int (nI q)])), (t1, .inl (cB, 400, .inl (aB f))), (h0, .inr (0, [.int (nI ty), .ref h1, .ref h2])), (h2, .inl (cB, 208, .inl (aN mk)))] → va_S A s.heap H locs → W p l e rm_c_T_appendLetters s m ([.ref t0, .ref h0, .int (nI sl), .int (nI ct)] : List Value).toArray below meth c H locs 0 0 Q (F0 m 3 ls []) := by
    intro fu
    induction fu with
    | zero => intro k q f hkc hq hi hms; exact absurd hms (Nat.not_lt_zero _)
    | succ fu ih3 =>
      intro k q f hkc hq hi hms H locs ls hl hP hD hS
      refine lv_iload hx hb dT_appendLetters_3 (lv_at hl 4 rfl) ?_
      refine lv_iload_n hx hb dT_appendLetters_5 rfl (lv_at hl 3 rfl) ?_
      refine zi_ge (tgt := 26) hx hb (by omega) (by omega) dT_appendLetters_6 (by decide) (fun c_6 => ?_) (fun c_6 => ?_)
      · have hi : f = apl tp len (lB mk (fFM sl) ct 0) := by have h9 := hi; rw [show ct - k = 0 by omega] at h9; exact h9
        have hq : q = len + (lB mk (fFM sl) ct 0).length := by rw [lB_len]; omega
        subst hi
        subst hq
        subst hAe
        subst hQ
        exact W.vret hx hb hr (fun t ht hW => ⟨⟨(), rfl, trivial, by rw [ht]; exact hP.sub [0, 1, 2, 3] rfl, hD.sub [0, 1, 2, 3] (by decide) rfl⟩, hS.F ht⟩) hS.2.2 dT_appendLetters_26
      · refine lv_aload_n hx hb dT_appendLetters_9 rfl (lv_at hl 0 rfl) ?_
        refine lv_aload_n hx hb dT_appendLetters_10 rfl (lv_at hl 1 rfl) ?_
        refine lv_iload_n hx hb dT_appendLetters_11 rfl (lv_at hl 2 rfl) ?_
        refine lv_iload hx hb dT_appendLetters_12 (lv_at hl 4 rfl) ?_
        refine zc_Ri (va_runV (As := [.int (nI sl), .int (nI k)]) (rest := [.ref t0]) ⟨hx, hb, hml, hown, hw⟩ (c_D_mark l dC dI h0 h1 h2 cI cB ty mk sl k (by omega) (by omega) H) (cwV 2 hw (gV w_ml_T_84 w_im_D_mark w_se_D_mark w_in_D w_co_D_mark) rfl rfl rfl (by decide +kernel) ⟨Nat.le_of_ble_eq_true rfl, Nat.le_of_ble_eq_true rfl⟩) (zR_V hG hS (hP.sub (ws' := [(h0, .inr (0, [.int (nI ty), .ref h1, .ref h2])), (h2, .inl (cB, 208, .inl (aN mk)))]) [2, 3] rfl) hK 0 rfl rfl) rfl rfl hl.1 rfl (lv_room (Nat.le_of_ble_eq_true rfl)) dT_appendLetters_14 ⟨Nat.le_of_ble_eq_true rfl, Nat.le_of_ble_eq_true rfl⟩) hS (fun r_1 locs h_14 hS => ?_)
        subst h_14
        have hPc := hP.sub (ws' := [(t0, .inr (2, [.ref t1, .int (nI q)])), (t1, .inl (cB, 400, .inl (aB f)))]) [0, 1] rfl
        have hDc := hD.sub (ws' := [(t0, .inr (2, [.ref t1, .int (nI q)])), (t1, .inl (cB, 400, .inl (aB f)))]) [0, 1] (by decide) rfl
        have hFc := va_free (wc := [(t0, .inr (2, [.ref t1, .int (nI q)])), (t1, .inl (cB, 400, .inl (aB f)))]) hD hS hA [0, 1] rfl
        refine zc_Mv (va_runV (As := [.int (nI (mk (fFM sl + k)))]) (rest := []) ⟨hx, hb, hml, hown, hw⟩ (c_T_append l dC dI t0 t1 cI cB q f (mk (fFM sl + k)) (by omega) H.size) (cwV 1 hw (gV w_ml_T_44 w_im_T_append w_se_T_append w_in_T w_co_T_append) rfl rfl rfl (by decide +kernel) ⟨Nat.le_of_ble_eq_true rfl, Nat.le_of_ble_eq_true rfl⟩) (zM_V hG hS hFc hPc hDc hK 0 rfl rfl) rfl rfl hl.1 rfl (lv_room (Nat.le_of_ble_eq_true rfl)) dT_appendLetters_17 ⟨Nat.le_of_ble_eq_true rfl, Nat.le_of_ble_eq_true rfl⟩) hS hFc (fun H locs h_17 hP1 hD1 hk1 hS => ?_)
        obtain ⟨hP, hD⟩ := va_join (wr := [(h0, .inr (0, [.int (nI ty), .ref h1, .ref h2])), (h2, .inl (cB, 208, .inl (aN mk)))]) (w1 := [(t0, .inr (2, [.ref t1, .int (nI (q + 1))])), (t1, .inl (cB, 400, .inl (aB (nup f q (mk (fFM sl + k))))))]) hP hD [0, 1] [2, 3] rfl rfl (by decide) (by decide) hk1 hFc hP1 hD1
        have hP : va_P (dC, dI) vwCl [(h0, .inr (0, [.int (nI ty), .ref h1, .ref h2])), (h2, .inl (cB, 208, .inl (aN mk))), (t0, .inr (2, [.ref t1, .int (nI (q + 1))])), (t1, .inl (cB, 400, .inl (aB (nup f q (mk (fFM sl + k))))))] H := hP
        have hD : va_D A [(h0, .inr (0, [.int (nI ty), .ref h1, .ref h2])), (h2, .inl (cB, 208, .inl (aN mk))), (t0, .inr (2, [.ref t1, .int (nI (q + 1))])), (t1, .inl (cB, 400, .inl (aB (nup f q (mk (fFM sl + k))))))] := hD
        refine lv_iinc (v := nI (k + 1)) (lv' := [(4, .int (nI (k + 1))), (0, .ref t0), (1, .ref h0), (2, .int (nI sl)), (3, .int (nI ct))]) hx hb dT_appendLetters_20 hl (k := 4) rfl (zi_incr k 1) (by decide) rfl (fun ls hl => ?_)
        refine lv_goto (tgt := 3) hx hb dT_appendLetters_23 (by decide) ?_
        exact ih3 (k + 1) (q + 1) (nup f q (mk (fFM sl + k))) (by omega) (by omega) (by have h9 := hi; rw [show ct - k = ct - (k + 1) + 1 by omega] at h9; exact h9) (by omega) _ _ _ (lv_sub hl [1, 2, 3, 4, 0] rfl) (hP.sub [2, 3, 0, 1] rfl) (hD.sub [2, 3, 0, 1] (by decide) rfl) hS
  exact lp_3 ((ct - 0) + 1) 0 len tp (by omega) (by omega) rfl (Nat.lt_succ_self _) _ _ _ (lv_sub hl [1, 2, 3, 4, 0] rfl) (hP.sub [0, 1, 2, 3] rfl) (hD.sub [0, 1, 2, 3] (by decide) rfl) hS
def rm_c_T_appendDigits : Room := ({ frames := 2, cells := 0, slots := 0, locals := 43 } : Room)
set_option maxHeartbeats 4000000 in
set_option maxRecDepth 100000 in
theorem c_T_appendDigits (l : Launch) (dC : Nat → ClassId) (dI : Nat → Nat → Nat) (t0 : Nat) (t1 : Nat) (cI : ClassId) (cB : ClassId) (len : Nat) (tp : Nat → Nat) (h0 : Nat) (h1 : Nat) (h2 : Nat) (ty : Nat) (mk : Nat → Nat) (sl : Nat) (ct : Nat) (hl9 : len + (ct + 1) / 2 ≤ 400) (hs : sl < 16) (hk : fFM sl + ct ≤ 208) (hg : ∀ j, j < ct → mk (fFM sl + j) < 16) (sz : Nat) : Met l yT_appendDigits wsT_appendDigits rm_c_T_appendDigits (zM (dC, dI) [(cI, .int), (cB, .byte)] [.ref t0, .ref h0, .int (nI sl), .int (nI ct)] [(t0, .inr (2, [.ref t1, .int (nI len)])), (t1, .inl (cB, 400, .inl (aB tp))), (h0, .inr (0, [.int (nI ty), .ref h1, .ref h2])), (h2, .inl (cB, 208, .inl (aN mk)))] sz) (zMv (dC, dI) [(t0, .inr (2, [.ref t1, .int (nI len)])), (t1, .inl (cB, 400, .inl (aB tp))), (h0, .inr (0, [.int (nI ty), .ref h1, .ref h2])), (h2, .inl (cB, 208, .inl (aN mk)))] [(t0, .inr (2, [.ref t1, .int (nI (len + (dgB mk (fFM sl) ct).length))])), (t1, .inl (cB, 400, .inl (aB (apl tp len (dgB mk (fFM sl) ct))))), (h0, .inr (0, [.int (nI ty), .ref h1, .ref h2])), (h2, .inl (cB, 208, .inl (aN mk)))] sz (True)) 0 0 (va_A [(t0, .inr (2, [.ref t1, .int (nI len)])), (t1, .inl (cB, 400, .inl (aB tp))), (h0, .inr (0, [.int (nI ty), .ref h1, .ref h2])), (h2, .inl (cB, 208, .inl (aN mk)))] sz) := by
  refine Met.ofW (cc := cT_appendDigits) (maxL := 6) (ret := none) (by decide) rfl ?_
  intro p e s m args below meth c s₁ Bd hml hv
  obtain ⟨rfl, hsz, hG, hP, hK, hD0⟩ := hv
  subst hsz
  have hx := Bd.exec
  have hb := Bd.bytes
  have hr := Bd.returns
  have hts := atoms_spec (ws := wsT_appendDigits) Bd.pre
  have hw : ∀ w ∈ BIG, w.before _ s = true := fun w h => hts w (List.mem_cons_of_mem _ h)
  have hown : s.vm.findClass RT = some m.cls := findClass_of_methodNamed Bd.named
  have hlocks := Bd.notSynchronized
  have hD := hD0.self (sz := s.heap.size)
  obtain ⟨A, hAe⟩ : ∃ A, A = va_A [(t0, .inr (2, [.ref t1, .int (nI len)])), (t1, .inl (cB, 400, .inl (aB tp))), (h0, .inr (0, [.int (nI ty), .ref h1, .ref h2])), (h2, .inl (cB, 208, .inl (aN mk)))] s.heap.size := ⟨_, rfl⟩
  have hA : ∀ q : Nat, s.heap.size ≤ q → A q := fun q h => by rw [hAe]; exact Or.inr h
  rw [← hAe] at hG hD
  have hS : va_S A s.heap s.heap [] := va_S.rf
  have hl := lv_entry ([.ref t0, .ref h0, .int (nI sl), .int (nI ct)]) (n := 6) (Nat.le_of_ble_eq_true rfl)
  rw [lg_entry_eq]
  generalize (lg_sl ([.ref t0, .ref h0, .int (nI sl), .int (nI ct)]) ++ List.replicate (6 - (lg_sl ([.ref t0, .ref h0, .int (nI sl), .int (nI ct)])).length) Slot.unset).toArray = ls at hl ⊢
  have hl : lv_has ls 6 [(0, .ref t0), (1, .ref h0), (2, .int (nI sl)), (3, .int (nI ct))] := hl
  refine zq_name (fun Q hQ => ?_)
  change W p l e rm_c_T_appendDigits s m _ below meth c _ _ _ _ Q _
  refine lv_iload_n hx hb dT_appendDigits_0 rfl (lv_at hl 3 rfl) ?_
  refine lv_iconst (v := nI 2) hx hb dT_appendDigits_1 (by decide) ?_
  refine zi_rem hx hb (by omega) (by omega) (by omega) dT_appendDigits_2 ?_
  refine lv_istore (lv' := [(4, .int (nI (ct % 2))), (0, .ref t0), (1, .ref h0), (2, .int (nI sl)), (3, .int (nI ct))]) hx hb dT_appendDigits_3 hl (by decide) rfl (fun ls hl => ?_)
  refine lv_iload hx hb dT_appendDigits_5 (lv_at hl 0 rfl) ?_
  refine zi_eq0 (tgt := 21) hx hb (by omega) dT_appendDigits_7 (by decide) (fun c_7 => ?_) (fun c_7 => ?_)
  · refine lv_iload hx hb dT_appendDigits_21 (lv_at hl 0 rfl) ?_
    refine lv_istore (lv' := [(5, .int (nI (ct % 2))), (4, .int (nI (ct % 2))), (0, .ref t0), (1, .ref h0), (2, .int (nI sl)), (3, .int (nI ct))]) hx hb dT_appendDigits_23 hl (by decide) rfl (fun ls hl => ?_)
    have lp_25 : ∀ (fu : Nat) (n : Nat) (k : Nat) (q : Nat) (f : Nat → Nat) (hkn : k + 2 * n = ct) (hq : q + n = len + (dgB mk (fFM sl) ct).length) (hi : apl f q (pB mk (fFM sl) n k) = apl tp len (dgB mk (fFM sl) ct)) (hms : n < fu) (H : Heap) (locs : List Loc) (ls : Array Slot), lv_has ls 6 [(0, .ref t0), (1, .ref h0), (2, .int (nI sl)), (3, .int (nI ct)), (5, .int (nI k))] → va_P (dC, dI) vwCl [(t0, .inr (2, [.ref t1, .int (nI q)])), (t1, .inl (cB, 400, .inl (aB f))), (h0, .inr (0, [.int (nI ty), .ref h1, .ref h2])), (h2, .inl (cB, 208, .inl (aN mk)))] H → va_D A [(t0, .inr (2, [.ref t1, .int (nI q)])), (t1, .inl (cB, 400, .inl (aB f))), (h0, .inr (0, [.int (nI ty), .ref h1, .ref h2])), (h2, .inl (cB, 208, .inl (aN mk)))] → va_S A s.heap H locs → W p l e rm_c_T_appendDigits s m ([.ref t0, .ref h0, .int (nI sl), .int (nI ct)] : List Value).toArray below meth c H locs 0 0 Q (F0 m 25 ls []) := by
      intro fu
      induction fu with
      | zero => intro n k q f hkn hq hi hms; exact absurd hms (Nat.not_lt_zero _)
      | succ fu ih25 =>
        intro n k q f hkn hq hi hms H locs ls hl hP hD hS
        have hdl := dgB_len mk (fFM sl) ct
        refine lv_iload hx hb dT_appendDigits_25 (lv_at hl 4 rfl) ?_
        refine lv_iconst (v := nI 1) hx hb dT_appendDigits_27 (by decide) ?_
        refine zi_add hx hb dT_appendDigits_28 ?_
        refine lv_iload_n hx hb dT_appendDigits_29 rfl (lv_at hl 3 rfl) ?_
        refine zi_ge (tgt := 59) hx hb (by omega) (by omega) dT_appendDigits_30 (by decide) (fun c_30 => ?_) (fun c_30 => ?_)
        · obtain rfl : n = 0 := by omega
          have hi : f = apl tp len (dgB mk (fFM sl) ct) := hi
          have hq : q = len + (dgB mk (fFM sl) ct).length := hq
          subst hi
          subst hq
          subst hAe
          subst hQ
          exact W.vret hx hb hr (fun t ht hW => ⟨⟨(), rfl, trivial, by rw [ht]; exact hP.sub [0, 1, 2, 3] rfl, hD.sub [0, 1, 2, 3] (by decide) rfl⟩, hS.F ht⟩) hS.2.2 dT_appendDigits_59
        · obtain ⟨n1, rfl⟩ : ∃ n1, n = n1 + 1 := ⟨n - 1, by omega⟩
          have hg1 := hg k (by omega)
          have hg2 := hg (k + 1) (by omega)
          refine lv_aload_n hx hb dT_appendDigits_33 rfl (lv_at hl 0 rfl) ?_
          refine lv_aload_n hx hb dT_appendDigits_34 rfl (lv_at hl 1 rfl) ?_
          refine lv_iload_n hx hb dT_appendDigits_35 rfl (lv_at hl 2 rfl) ?_
          refine lv_iload hx hb dT_appendDigits_36 (lv_at hl 4 rfl) ?_
          refine zc_Ri (va_runV (As := [.int (nI sl), .int (nI k)]) (rest := [.ref t0]) ⟨hx, hb, hml, hown, hw⟩ (c_D_mark l dC dI h0 h1 h2 cI cB ty mk sl k (by omega) (by omega) H) (cwV 2 hw (gV w_ml_T_84 w_im_D_mark w_se_D_mark w_in_D w_co_D_mark) rfl rfl rfl (by decide +kernel) ⟨Nat.le_of_ble_eq_true rfl, Nat.le_of_ble_eq_true rfl⟩) (zR_V hG hS (hP.sub (ws' := [(h0, .inr (0, [.int (nI ty), .ref h1, .ref h2])), (h2, .inl (cB, 208, .inl (aN mk)))]) [2, 3] rfl) hK 0 rfl rfl) rfl rfl hl.1 rfl (lv_room (Nat.le_of_ble_eq_true rfl)) dT_appendDigits_38 ⟨Nat.le_of_ble_eq_true rfl, Nat.le_of_ble_eq_true rfl⟩) hS (fun r_1 locs h_38 hS => ?_)
          subst h_38
          refine lv_aload_n hx hb dT_appendDigits_41 rfl (lv_at hl 1 rfl) ?_
          refine lv_iload_n hx hb dT_appendDigits_42 rfl (lv_at hl 2 rfl) ?_
          refine lv_iload hx hb dT_appendDigits_43 (lv_at hl 4 rfl) ?_
          refine lv_iconst (v := nI 1) hx hb dT_appendDigits_45 (by decide) ?_
          refine zi_add hx hb dT_appendDigits_46 ?_
          refine zc_Ri (va_runV (As := [.int (nI sl), .int (nI (k + 1))]) (rest := [.int (nI (mk (fFM sl + k))), .ref t0]) ⟨hx, hb, hml, hown, hw⟩ (c_D_mark l dC dI h0 h1 h2 cI cB ty mk sl (k + 1) (by omega) (by omega) H) (cwV 2 hw (gV w_ml_T_84 w_im_D_mark w_se_D_mark w_in_D w_co_D_mark) rfl rfl rfl (by decide +kernel) ⟨Nat.le_of_ble_eq_true rfl, Nat.le_of_ble_eq_true rfl⟩) (zR_V hG hS (hP.sub (ws' := [(h0, .inr (0, [.int (nI ty), .ref h1, .ref h2])), (h2, .inl (cB, 208, .inl (aN mk)))]) [2, 3] rfl) hK 0 rfl rfl) rfl rfl hl.1 rfl (lv_room (Nat.le_of_ble_eq_true rfl)) dT_appendDigits_47 ⟨Nat.le_of_ble_eq_true rfl, Nat.le_of_ble_eq_true rfl⟩) hS (fun r_2 locs h_47 hS => ?_)
          subst h_47
          have hPc := hP.sub (ws' := [(t0, .inr (2, [.ref t1, .int (nI q)])), (t1, .inl (cB, 400, .inl (aB f)))]) [0, 1] rfl
          have hDc := hD.sub (ws' := [(t0, .inr (2, [.ref t1, .int (nI q)])), (t1, .inl (cB, 400, .inl (aB f)))]) [0, 1] (by decide) rfl
          have hFc := va_free (wc := [(t0, .inr (2, [.ref t1, .int (nI q)])), (t1, .inl (cB, 400, .inl (aB f)))]) hD hS hA [0, 1] rfl
          refine zc_Mv (va_runV (As := [.int (nI (mk (fFM sl + k))), .int (nI (mk (fFM sl + (k + 1))))]) (rest := []) ⟨hx, hb, hml, hown, hw⟩ (c_T_appendPair l dC dI t0 t1 cI cB q f (mk (fFM sl + k)) (mk (fFM sl + (k + 1))) (by omega) hg1 hg2 H.size) (cwV 2 hw (gV w_ml_T_81 w_im_T_appendPair w_se_T_appendPair w_in_T w_co_T_appendPair) rfl rfl rfl (by decide +kernel) ⟨Nat.le_of_ble_eq_true rfl, Nat.le_of_ble_eq_true rfl⟩) (zM_V hG hS hFc hPc hDc hK 0 rfl rfl) rfl rfl hl.1 rfl (lv_room (Nat.le_of_ble_eq_true rfl)) dT_appendDigits_50 ⟨Nat.le_of_ble_eq_true rfl, Nat.le_of_ble_eq_true rfl⟩) hS hFc (fun H locs h_50 hP1 hD1 hk1 hS => ?_)
          obtain ⟨hP, hD⟩ := va_join (wr := [(h0, .inr (0, [.int (nI ty), .ref h1, .ref h2])), (h2, .inl (cB, 208, .inl (aN mk)))]) (w1 := [(t0, .inr (2, [.ref t1, .int (nI (q + 1))])), (t1, .inl (cB, 400, .inl (aB (nup f q ((mk (fFM sl + k)) * 16 + (mk (fFM sl + (k + 1))))))))]) hP hD [0, 1] [2, 3] rfl rfl (by decide) (by decide) hk1 hFc hP1 hD1
          have hP : va_P (dC, dI) vwCl [(h0, .inr (0, [.int (nI ty), .ref h1, .ref h2])), (h2, .inl (cB, 208, .inl (aN mk))), (t0, .inr (2, [.ref t1, .int (nI (q + 1))])), (t1, .inl (cB, 400, .inl (aB (nup f q ((mk (fFM sl + k)) * 16 + (mk (fFM sl + (k + 1))))))))] H := hP
          have hD : va_D A [(h0, .inr (0, [.int (nI ty), .ref h1, .ref h2])), (h2, .inl (cB, 208, .inl (aN mk))), (t0, .inr (2, [.ref t1, .int (nI (q + 1))])), (t1, .inl (cB, 400, .inl (aB (nup f q ((mk (fFM sl + k)) * 16 + (mk (fFM sl + (k + 1))))))))] := hD
          refine lv_iinc (v := nI (k + 2)) (lv' := [(5, .int (nI (k + 2))), (0, .ref t0), (1, .ref h0), (2, .int (nI sl)), (3, .int (nI ct))]) hx hb dT_appendDigits_53 hl (k := 4) rfl (zi_incr k 2) (by decide) rfl (fun ls hl => ?_)
          refine lv_goto (tgt := 25) hx hb dT_appendDigits_56 (by decide) ?_
          exact ih25 n1 (k + 2) (q + 1) (nup f q ((mk (fFM sl + k)) * 16 + (mk (fFM sl + (k + 1))))) (by omega) (by omega) hi (by omega) _ _ _ (lv_sub hl [1, 2, 3, 4, 0] rfl) (hP.sub [2, 3, 0, 1] rfl) (hD.sub [2, 3, 0, 1] (by decide) rfl) hS
    exact lp_25 ((ct / 2) + 1) (ct / 2) (ct % 2) len tp (by omega) (by rw [dgB_len]; omega) (by unfold dgB; first | (rw [if_pos c_7]; rfl) | (rw [if_neg c_7]; rfl)) (Nat.lt_succ_self _) _ _ _ (lv_sub hl [2, 3, 4, 5, 0] rfl) (hP.sub [0, 1, 2, 3] rfl) (hD.sub [0, 1, 2, 3] (by decide) rfl) hS
  · have hg0 := hg 0 (by omega)
    refine lv_aload_n hx hb dT_appendDigits_10 rfl (lv_at hl 1 rfl) ?_
    refine lv_iconst (v := nI 0) hx hb dT_appendDigits_11 (by decide) ?_
    refine lv_aload_n hx hb dT_appendDigits_12 rfl (lv_at hl 2 rfl) ?_
    refine lv_iload_n hx hb dT_appendDigits_13 rfl (lv_at hl 3 rfl) ?_
    refine lv_iconst (v := nI 0) hx hb dT_appendDigits_14 (by decide) ?_
    refine zc_Ri (va_runV (As := [.int (nI sl), .int (nI 0)]) (rest := [.int (nI 0), .ref t0]) ⟨hx, hb, hml, hown, hw⟩ (c_D_mark l dC dI h0 h1 h2 cI cB ty mk sl 0 (by omega) (by omega) s.heap) (cwV 2 hw (gV w_ml_T_84 w_im_D_mark w_se_D_mark w_in_D w_co_D_mark) rfl rfl rfl (by decide +kernel) ⟨Nat.le_of_ble_eq_true rfl, Nat.le_of_ble_eq_true rfl⟩) (zR_V hG hS (hP.sub (ws' := [(h0, .inr (0, [.int (nI ty), .ref h1, .ref h2])), (h2, .inl (cB, 208, .inl (aN mk)))]) [2, 3] rfl) hK 0 rfl rfl) rfl rfl hl.1 rfl (lv_room (Nat.le_of_ble_eq_true rfl)) dT_appendDigits_15 ⟨Nat.le_of_ble_eq_true rfl, Nat.le_of_ble_eq_true rfl⟩) hS (fun r_4 locs h_15 hS => ?_)
    subst h_15
    have hPc := hP.sub (ws' := [(t0, .inr (2, [.ref t1, .int (nI len)])), (t1, .inl (cB, 400, .inl (aB tp)))]) [0, 1] rfl
    have hDc := hD.sub (ws' := [(t0, .inr (2, [.ref t1, .int (nI len)])), (t1, .inl (cB, 400, .inl (aB tp)))]) [0, 1] (by decide) rfl
    have hFc := va_free (wc := [(t0, .inr (2, [.ref t1, .int (nI len)])), (t1, .inl (cB, 400, .inl (aB tp)))]) hD hS hA [0, 1] rfl
    refine zc_Mv (va_runV (As := [.int (nI 0), .int (nI (mk (fFM sl + 0)))]) (rest := []) ⟨hx, hb, hml, hown, hw⟩ (c_T_appendPair l dC dI t0 t1 cI cB len tp 0 (mk (fFM sl + 0)) (by omega) (by omega) hg0 s.heap.size) (cwV 2 hw (gV w_ml_T_81 w_im_T_appendPair w_se_T_appendPair w_in_T w_co_T_appendPair) rfl rfl rfl (by decide +kernel) ⟨Nat.le_of_ble_eq_true rfl, Nat.le_of_ble_eq_true rfl⟩) (zM_V hG hS hFc hPc hDc hK 0 rfl rfl) rfl rfl hl.1 rfl (lv_room (Nat.le_of_ble_eq_true rfl)) dT_appendDigits_18 ⟨Nat.le_of_ble_eq_true rfl, Nat.le_of_ble_eq_true rfl⟩) hS hFc (fun H locs h_18 hP1 hD1 hk1 hS => ?_)
    obtain ⟨hP, hD⟩ := va_join (wr := [(h0, .inr (0, [.int (nI ty), .ref h1, .ref h2])), (h2, .inl (cB, 208, .inl (aN mk)))]) (w1 := [(t0, .inr (2, [.ref t1, .int (nI (len + 1))])), (t1, .inl (cB, 400, .inl (aB (nup tp len (0 * 16 + (mk (fFM sl + 0)))))))]) hP hD [0, 1] [2, 3] rfl rfl (by decide) (by decide) hk1 hFc hP1 hD1
    have hP : va_P (dC, dI) vwCl [(h0, .inr (0, [.int (nI ty), .ref h1, .ref h2])), (h2, .inl (cB, 208, .inl (aN mk))), (t0, .inr (2, [.ref t1, .int (nI (len + 1))])), (t1, .inl (cB, 400, .inl (aB (nup tp len (0 * 16 + (mk (fFM sl + 0)))))))] H := hP
    have hD : va_D A [(h0, .inr (0, [.int (nI ty), .ref h1, .ref h2])), (h2, .inl (cB, 208, .inl (aN mk))), (t0, .inr (2, [.ref t1, .int (nI (len + 1))])), (t1, .inl (cB, 400, .inl (aB (nup tp len (0 * 16 + (mk (fFM sl + 0)))))))] := hD
    refine lv_iload hx hb dT_appendDigits_21 (lv_at hl 0 rfl) ?_
    refine lv_istore (lv' := [(5, .int (nI (ct % 2))), (4, .int (nI (ct % 2))), (0, .ref t0), (1, .ref h0), (2, .int (nI sl)), (3, .int (nI ct))]) hx hb dT_appendDigits_23 hl (by decide) rfl (fun ls hl => ?_)
    have lp_25 : ∀ (fu : Nat) (n : Nat) (k : Nat) (q : Nat) (f : Nat → Nat) (hkn : k + 2 * n = ct) (hq : q + n = len + (dgB mk (fFM sl) ct).length) (hi : apl f q (pB mk (fFM sl) n k) = apl tp len (dgB mk (fFM sl) ct)) (hms : n < fu) (H : Heap) (locs : List Loc) (ls : Array Slot), lv_has ls 6 [(0, .ref t0), (1, .ref h0), (2, .int (nI sl)), (3, .int (nI ct)), (5, .int (nI k))] → va_P (dC, dI) vwCl [(h0, .inr (0, [.int (nI ty), .ref h1, .ref h2])), (h2, .inl (cB, 208, .inl (aN mk))), (t0, .inr (2, [.ref t1, .int (nI q)])), (t1, .inl (cB, 400, .inl (aB f)))] H → va_D A [(h0, .inr (0, [.int (nI ty), .ref h1, .ref h2])), (h2, .inl (cB, 208, .inl (aN mk))), (t0, .inr (2, [.ref t1, .int (nI q)])), (t1, .inl (cB, 400, .inl (aB f)))] → va_S A s.heap H locs → W p l e rm_c_T_appendDigits s m ([.ref t0, .ref h0, .int (nI sl), .int (nI ct)] : List Value).toArray below meth c H locs 0 0 Q (F0 m 25 ls []) := by
      intro fu
      induction fu with
      | zero => intro n k q f hkn hq hi hms; exact absurd hms (Nat.not_lt_zero _)
      | succ fu ih25 =>
        intro n k q f hkn hq hi hms H locs ls hl hP hD hS
        have hdl := dgB_len mk (fFM sl) ct
        refine lv_iload hx hb dT_appendDigits_25 (lv_at hl 4 rfl) ?_
        refine lv_iconst (v := nI 1) hx hb dT_appendDigits_27 (by decide) ?_
        refine zi_add hx hb dT_appendDigits_28 ?_
        refine lv_iload_n hx hb dT_appendDigits_29 rfl (lv_at hl 3 rfl) ?_
        refine zi_ge (tgt := 59) hx hb (by omega) (by omega) dT_appendDigits_30 (by decide) (fun c_30 => ?_) (fun c_30 => ?_)
        · obtain rfl : n = 0 := by omega
          have hi : f = apl tp len (dgB mk (fFM sl) ct) := hi
          have hq : q = len + (dgB mk (fFM sl) ct).length := hq
          subst hi
          subst hq
          subst hAe
          subst hQ
          exact W.vret hx hb hr (fun t ht hW => ⟨⟨(), rfl, trivial, by rw [ht]; exact hP.sub [2, 3, 0, 1] rfl, hD.sub [2, 3, 0, 1] (by decide) rfl⟩, hS.F ht⟩) hS.2.2 dT_appendDigits_59
        · obtain ⟨n1, rfl⟩ : ∃ n1, n = n1 + 1 := ⟨n - 1, by omega⟩
          have hg1 := hg k (by omega)
          have hg2 := hg (k + 1) (by omega)
          refine lv_aload_n hx hb dT_appendDigits_33 rfl (lv_at hl 0 rfl) ?_
          refine lv_aload_n hx hb dT_appendDigits_34 rfl (lv_at hl 1 rfl) ?_
          refine lv_iload_n hx hb dT_appendDigits_35 rfl (lv_at hl 2 rfl) ?_
          refine lv_iload hx hb dT_appendDigits_36 (lv_at hl 4 rfl) ?_
          refine zc_Ri (va_runV (As := [.int (nI sl), .int (nI k)]) (rest := [.ref t0]) ⟨hx, hb, hml, hown, hw⟩ (c_D_mark l dC dI h0 h1 h2 cI cB ty mk sl k (by omega) (by omega) H) (cwV 2 hw (gV w_ml_T_84 w_im_D_mark w_se_D_mark w_in_D w_co_D_mark) rfl rfl rfl (by decide +kernel) ⟨Nat.le_of_ble_eq_true rfl, Nat.le_of_ble_eq_true rfl⟩) (zR_V hG hS (hP.sub (ws' := [(h0, .inr (0, [.int (nI ty), .ref h1, .ref h2])), (h2, .inl (cB, 208, .inl (aN mk)))]) [0, 1] rfl) hK 0 rfl rfl) rfl rfl hl.1 rfl (lv_room (Nat.le_of_ble_eq_true rfl)) dT_appendDigits_38 ⟨Nat.le_of_ble_eq_true rfl, Nat.le_of_ble_eq_true rfl⟩) hS (fun r_6 locs h_38 hS => ?_)
          subst h_38
          refine lv_aload_n hx hb dT_appendDigits_41 rfl (lv_at hl 1 rfl) ?_
          refine lv_iload_n hx hb dT_appendDigits_42 rfl (lv_at hl 2 rfl) ?_
          refine lv_iload hx hb dT_appendDigits_43 (lv_at hl 4 rfl) ?_
          refine lv_iconst (v := nI 1) hx hb dT_appendDigits_45 (by decide) ?_
          refine zi_add hx hb dT_appendDigits_46 ?_
          refine zc_Ri (va_runV (As := [.int (nI sl), .int (nI (k + 1))]) (rest := [.int (nI (mk (fFM sl + k))), .ref t0]) ⟨hx, hb, hml, hown, hw⟩ (c_D_mark l dC dI h0 h1 h2 cI cB ty mk sl (k + 1) (by omega) (by omega) H) (cwV 2 hw (gV w_ml_T_84 w_im_D_mark w_se_D_mark w_in_D w_co_D_mark) rfl rfl rfl (by decide +kernel) ⟨Nat.le_of_ble_eq_true rfl, Nat.le_of_ble_eq_true rfl⟩) (zR_V hG hS (hP.sub (ws' := [(h0, .inr (0, [.int (nI ty), .ref h1, .ref h2])), (h2, .inl (cB, 208, .inl (aN mk)))]) [0, 1] rfl) hK 0 rfl rfl) rfl rfl hl.1 rfl (lv_room (Nat.le_of_ble_eq_true rfl)) dT_appendDigits_47 ⟨Nat.le_of_ble_eq_true rfl, Nat.le_of_ble_eq_true rfl⟩) hS (fun r_7 locs h_47 hS => ?_)
          subst h_47
          have hPc := hP.sub (ws' := [(t0, .inr (2, [.ref t1, .int (nI q)])), (t1, .inl (cB, 400, .inl (aB f)))]) [2, 3] rfl
          have hDc := hD.sub (ws' := [(t0, .inr (2, [.ref t1, .int (nI q)])), (t1, .inl (cB, 400, .inl (aB f)))]) [2, 3] (by decide) rfl
          have hFc := va_free (wc := [(t0, .inr (2, [.ref t1, .int (nI q)])), (t1, .inl (cB, 400, .inl (aB f)))]) hD hS hA [2, 3] rfl
          refine zc_Mv (va_runV (As := [.int (nI (mk (fFM sl + k))), .int (nI (mk (fFM sl + (k + 1))))]) (rest := []) ⟨hx, hb, hml, hown, hw⟩ (c_T_appendPair l dC dI t0 t1 cI cB q f (mk (fFM sl + k)) (mk (fFM sl + (k + 1))) (by omega) hg1 hg2 H.size) (cwV 2 hw (gV w_ml_T_81 w_im_T_appendPair w_se_T_appendPair w_in_T w_co_T_appendPair) rfl rfl rfl (by decide +kernel) ⟨Nat.le_of_ble_eq_true rfl, Nat.le_of_ble_eq_true rfl⟩) (zM_V hG hS hFc hPc hDc hK 0 rfl rfl) rfl rfl hl.1 rfl (lv_room (Nat.le_of_ble_eq_true rfl)) dT_appendDigits_50 ⟨Nat.le_of_ble_eq_true rfl, Nat.le_of_ble_eq_true rfl⟩) hS hFc (fun H locs h_50 hP1 hD1 hk1 hS => ?_)
          obtain ⟨hP, hD⟩ := va_join (wr := [(h0, .inr (0, [.int (nI ty), .ref h1, .ref h2])), (h2, .inl (cB, 208, .inl (aN mk)))]) (w1 := [(t0, .inr (2, [.ref t1, .int (nI (q + 1))])), (t1, .inl (cB, 400, .inl (aB (nup f q ((mk (fFM sl + k)) * 16 + (mk (fFM sl + (k + 1))))))))]) hP hD [2, 3] [0, 1] rfl rfl (by decide) (by decide) hk1 hFc hP1 hD1
          have hP : va_P (dC, dI) vwCl [(h0, .inr (0, [.int (nI ty), .ref h1, .ref h2])), (h2, .inl (cB, 208, .inl (aN mk))), (t0, .inr (2, [.ref t1, .int (nI (q + 1))])), (t1, .inl (cB, 400, .inl (aB (nup f q ((mk (fFM sl + k)) * 16 + (mk (fFM sl + (k + 1))))))))] H := hP
          have hD : va_D A [(h0, .inr (0, [.int (nI ty), .ref h1, .ref h2])), (h2, .inl (cB, 208, .inl (aN mk))), (t0, .inr (2, [.ref t1, .int (nI (q + 1))])), (t1, .inl (cB, 400, .inl (aB (nup f q ((mk (fFM sl + k)) * 16 + (mk (fFM sl + (k + 1))))))))] := hD
          refine lv_iinc (v := nI (k + 2)) (lv' := [(5, .int (nI (k + 2))), (0, .ref t0), (1, .ref h0), (2, .int (nI sl)), (3, .int (nI ct))]) hx hb dT_appendDigits_53 hl (k := 4) rfl (zi_incr k 2) (by decide) rfl (fun ls hl => ?_)
          refine lv_goto (tgt := 25) hx hb dT_appendDigits_56 (by decide) ?_
          exact ih25 n1 (k + 2) (q + 1) (nup f q ((mk (fFM sl + k)) * 16 + (mk (fFM sl + (k + 1))))) (by omega) (by omega) hi (by omega) _ _ _ (lv_sub hl [1, 2, 3, 4, 0] rfl) (hP.sub [0, 1, 2, 3] rfl) (hD.sub [0, 1, 2, 3] (by decide) rfl) hS
    exact lp_25 ((ct / 2) + 1) (ct / 2) (ct % 2) (len + 1) (nup tp len (0 * 16 + (mk (fFM sl + 0)))) (by omega) (by rw [dgB_len]; omega) (by unfold dgB; first | (rw [if_pos c_7]; rfl) | (rw [if_neg c_7]; rfl)) (Nat.lt_succ_self _) _ _ _ (lv_sub hl [2, 3, 4, 5, 0] rfl) (hP.sub [0, 1, 2, 3] rfl) (hD.sub [0, 1, 2, 3] (by decide) rfl) hS
def rm_c_T_appendField : Room := ({ frames := 3, cells := 0, slots := 0, locals := 68 } : Room)
set_option maxHeartbeats 4000000 in
set_option maxRecDepth 100000 in
theorem c_T_appendField (l : Launch) (dC : Nat → ClassId) (dI : Nat → Nat → Nat) (t0 : Nat) (t1 : Nat) (cI : ClassId) (cB : ClassId) (len : Nat) (tp : Nat → Nat) (h0 : Nat) (h1 : Nat) (h2 : Nat) (ty : Nat) (cnt : Nat → Nat) (mk : Nat → Nat) (sl : Nat) (hl9 : len + 44 ≤ 400) (hs : sl < 16) (hct : cnt sl ≤ fMM sl) (hm : ∀ j, mk j < 128) (hg : fHL sl = 0 → ∀ j, j < cnt sl → mk (fFM sl + j) < 16) (sz : Nat) : Met l yT_appendField wsT_appendField rm_c_T_appendField (zM (dC, dI) [(cI, .int), (cB, .byte)] [.ref t0, .ref h0, .int (nI sl)] [(t0, .inr (2, [.ref t1, .int (nI len)])), (t1, .inl (cB, 400, .inl (aB tp))), (h0, .inr (0, [.int (nI ty), .ref h1, .ref h2])), (h1, .inl (cI, 16, .inl (aN cnt))), (h2, .inl (cB, 208, .inl (aN mk)))] sz) (zMv (dC, dI) [(t0, .inr (2, [.ref t1, .int (nI len)])), (t1, .inl (cB, 400, .inl (aB tp))), (h0, .inr (0, [.int (nI ty), .ref h1, .ref h2])), (h1, .inl (cI, 16, .inl (aN cnt))), (h2, .inl (cB, 208, .inl (aN mk)))] [(t0, .inr (2, [.ref t1, .int (nI (len + (fldB cnt mk sl).length))])), (t1, .inl (cB, 400, .inl (aB (apl tp len (fldB cnt mk sl))))), (h0, .inr (0, [.int (nI ty), .ref h1, .ref h2])), (h1, .inl (cI, 16, .inl (aN cnt))), (h2, .inl (cB, 208, .inl (aN mk)))] sz (True)) 0 0 (va_A [(t0, .inr (2, [.ref t1, .int (nI len)])), (t1, .inl (cB, 400, .inl (aB tp))), (h0, .inr (0, [.int (nI ty), .ref h1, .ref h2])), (h1, .inl (cI, 16, .inl (aN cnt))), (h2, .inl (cB, 208, .inl (aN mk)))] sz) := by
  refine Met.ofW (cc := cT_appendField) (maxL := 4) (ret := none) (by decide) rfl ?_
  intro p e s m args below meth c s₁ Bd hml hv
  obtain ⟨rfl, hsz, hG, hP, hK, hD0⟩ := hv
  subst hsz
  have hx := Bd.exec
  have hb := Bd.bytes
  have hr := Bd.returns
  have hts := atoms_spec (ws := wsT_appendField) Bd.pre
  have hw : ∀ w ∈ BIG, w.before _ s = true := fun w h => hts w (List.mem_cons_of_mem _ h)
  have hown : s.vm.findClass RT = some m.cls := findClass_of_methodNamed Bd.named
  have hlocks := Bd.notSynchronized
  have hD := hD0.self (sz := s.heap.size)
  obtain ⟨A, hAe⟩ : ∃ A, A = va_A [(t0, .inr (2, [.ref t1, .int (nI len)])), (t1, .inl (cB, 400, .inl (aB tp))), (h0, .inr (0, [.int (nI ty), .ref h1, .ref h2])), (h1, .inl (cI, 16, .inl (aN cnt))), (h2, .inl (cB, 208, .inl (aN mk)))] s.heap.size := ⟨_, rfl⟩
  have hA : ∀ q : Nat, s.heap.size ≤ q → A q := fun q h => by rw [hAe]; exact Or.inr h
  rw [← hAe] at hG hD
  have hS : va_S A s.heap s.heap [] := va_S.rf
  have hl := lv_entry ([.ref t0, .ref h0, .int (nI sl)]) (n := 4) (Nat.le_of_ble_eq_true rfl)
  rw [lg_entry_eq]
  generalize (lg_sl ([.ref t0, .ref h0, .int (nI sl)]) ++ List.replicate (4 - (lg_sl ([.ref t0, .ref h0, .int (nI sl)])).length) Slot.unset).toArray = ls at hl ⊢
  have hl : lv_has ls 4 [(0, .ref t0), (1, .ref h0), (2, .int (nI sl))] := hl
  refine zq_name (fun Q hQ => ?_)
  change W p l e rm_c_T_appendField s m _ below meth c _ _ _ _ Q _
  obtain ⟨tfCD, zfCD, afCD⟩ := hG.COUNT_DIGITS
  obtain ⟨tfHL, zfHL, afHL⟩ := hG.HAS_LETTERS
  have hcd := fCD_b sl hs
  have hmm := fMM_b sl hs
  have hfm := fFM_b sl hs
  have hhl := fHL_b sl hs
  have hal := anb_le (cnt sl) (fCD sl)
  refine lv_aload_n hx hb dT_appendField_0 rfl (lv_at hl 1 rfl) ?_
  refine va_get (D := (dC, dI)) (ci := 0) (v := .ref h1) (C := RD) (T := TD) (N := 3) hx hb hw inD hown hK hP 2 rfl rfl 1 (by decide) (hw _ w_fl_T_62) (fun _ h9 => h9) rfl dT_appendField_1 ?_
  refine lv_iload_n hx hb dT_appendField_4 rfl (lv_at hl 2 rfl) ?_
  refine za_ild hx hb hK hP 3 0 rfl rfl (by omega) (by decide) dT_appendField_5 ?_
  refine lv_istore_n (lv' := [(3, .int (nI (cnt sl))), (0, .ref t0), (1, .ref h0), (2, .int (nI sl))]) hx hb dT_appendField_6 rfl hl (by decide) rfl (fun ls hl => ?_)
  refine va_getsN hx hb zfCD hS hown (va_Nw.use rfl (hG.nf (RT, 65, "COUNT_DIGITS") (List.mem_of_getElem? (i := 1) rfl))) (fun _ h9 => h9) dT_appendField_7 ?_
  refine lv_iload_n hx hb dT_appendField_10 rfl (lv_at hl 3 rfl) ?_
  refine za_tab hx hb afCD hS (by omega) (by decide) dT_appendField_11 ?_
  refine zi_eq0 (tgt := 25) hx hb (by omega) dT_appendField_12 (by decide) (fun c_12 => ?_) (fun c_12 => ?_)
  · refine va_getsN hx hb zfHL hS hown (va_Nw.use rfl (hG.nf (RT, 68, "HAS_LETTERS") (List.mem_of_getElem? (i := 2) rfl))) (fun _ h9 => h9) dT_appendField_25 ?_
    refine lv_iload_n hx hb dT_appendField_28 rfl (lv_at hl 3 rfl) ?_
    refine za_tab hx hb afHL hS (by omega) (by decide) dT_appendField_29 ?_
    refine zi_eq0 (tgt := 43) hx hb (by omega) dT_appendField_30 (by decide) (fun c_30 => ?_) (fun c_30 => ?_)
    · refine lv_aload_n hx hb dT_appendField_43 rfl (lv_at hl 1 rfl) ?_
      refine lv_aload_n hx hb dT_appendField_44 rfl (lv_at hl 2 rfl) ?_
      refine lv_iload_n hx hb dT_appendField_45 rfl (lv_at hl 3 rfl) ?_
      refine lv_iload_n hx hb dT_appendField_46 rfl (lv_at hl 0 rfl) ?_
      have hPc := hP.sub (ws' := [(t0, .inr (2, [.ref t1, .int (nI len)])), (t1, .inl (cB, 400, .inl (aB tp))), (h0, .inr (0, [.int (nI ty), .ref h1, .ref h2])), (h2, .inl (cB, 208, .inl (aN mk)))]) [0, 1, 2, 4] rfl
      have hDc := hD.sub (ws' := [(t0, .inr (2, [.ref t1, .int (nI len)])), (t1, .inl (cB, 400, .inl (aB tp))), (h0, .inr (0, [.int (nI ty), .ref h1, .ref h2])), (h2, .inl (cB, 208, .inl (aN mk)))]) [0, 1, 2, 4] (by decide) rfl
      have hFc := va_free (wc := [(t0, .inr (2, [.ref t1, .int (nI len)])), (t1, .inl (cB, 400, .inl (aB tp))), (h0, .inr (0, [.int (nI ty), .ref h1, .ref h2])), (h2, .inl (cB, 208, .inl (aN mk)))]) hD hS hA [0, 1, 2, 4] rfl
      refine zc_Mv (va_runV (As := [.ref h0, .int (nI sl), .int (nI (cnt sl))]) (rest := []) ⟨hx, hb, hml, hown, hw⟩ (c_T_appendDigits l dC dI t0 t1 cI cB len tp h0 h1 h2 ty mk sl (cnt sl) (by omega) (by omega) (by omega) (hg c_30) s.heap.size) (cwV 3 hw (gV w_ml_T_75 w_im_T_appendDigits w_se_T_appendDigits w_in_T w_co_T_appendDigits) rfl rfl rfl (by decide +kernel) ⟨Nat.le_of_ble_eq_true rfl, Nat.le_of_ble_eq_true rfl⟩) (zM_V hG hS hFc hPc hDc hK 0 rfl rfl) rfl rfl hl.1 rfl (lv_room (Nat.le_of_ble_eq_true rfl)) dT_appendField_47 ⟨Nat.le_of_ble_eq_true rfl, Nat.le_of_ble_eq_true rfl⟩) hS hFc (fun H locs h_47 hP1 hD1 hk1 hS => ?_)
      obtain ⟨hP, hD⟩ := va_join (wr := [(h1, .inl (cI, 16, .inl (aN cnt)))]) (w1 := [(t0, .inr (2, [.ref t1, .int (nI (len + (dgB mk (fFM sl) (cnt sl)).length))])), (t1, .inl (cB, 400, .inl (aB (apl tp len (dgB mk (fFM sl) (cnt sl)))))), (h0, .inr (0, [.int (nI ty), .ref h1, .ref h2])), (h2, .inl (cB, 208, .inl (aN mk)))]) hP hD [0, 1, 2, 4] [3] rfl rfl (by decide) (by decide) hk1 hFc hP1 hD1
      have hP : va_P (dC, dI) vwCl [(h1, .inl (cI, 16, .inl (aN cnt))), (t0, .inr (2, [.ref t1, .int (nI (len + (dgB mk (fFM sl) (cnt sl)).length))])), (t1, .inl (cB, 400, .inl (aB (apl tp len (dgB mk (fFM sl) (cnt sl)))))), (h0, .inr (0, [.int (nI ty), .ref h1, .ref h2])), (h2, .inl (cB, 208, .inl (aN mk)))] H := hP
      have hD : va_D A [(h1, .inl (cI, 16, .inl (aN cnt))), (t0, .inr (2, [.ref t1, .int (nI (len + (dgB mk (fFM sl) (cnt sl)).length))])), (t1, .inl (cB, 400, .inl (aB (apl tp len (dgB mk (fFM sl) (cnt sl)))))), (h0, .inr (0, [.int (nI ty), .ref h1, .ref h2])), (h2, .inl (cB, 208, .inl (aN mk)))] := hD
      have e9 : fldB cnt mk sl = dgB mk (fFM sl) (cnt sl) := by unfold fldB; rw [if_pos c_12, if_pos c_30]; rfl
      rw [e9] at hQ
      subst hAe
      subst hQ
      exact W.vret hx hb hr (fun t ht hW => ⟨⟨(), rfl, trivial, by rw [ht]; exact hP.sub [1, 2, 3, 0, 4] rfl, hD.sub [1, 2, 3, 0, 4] (by decide) rfl⟩, hS.F ht⟩) hS.2.2 dT_appendField_50
    · refine lv_aload_n hx hb dT_appendField_33 rfl (lv_at hl 1 rfl) ?_
      refine lv_aload_n hx hb dT_appendField_34 rfl (lv_at hl 2 rfl) ?_
      refine lv_iload_n hx hb dT_appendField_35 rfl (lv_at hl 3 rfl) ?_
      refine lv_iload_n hx hb dT_appendField_36 rfl (lv_at hl 0 rfl) ?_
      have hPc := hP.sub (ws' := [(t0, .inr (2, [.ref t1, .int (nI len)])), (t1, .inl (cB, 400, .inl (aB tp))), (h0, .inr (0, [.int (nI ty), .ref h1, .ref h2])), (h2, .inl (cB, 208, .inl (aN mk)))]) [0, 1, 2, 4] rfl
      have hDc := hD.sub (ws' := [(t0, .inr (2, [.ref t1, .int (nI len)])), (t1, .inl (cB, 400, .inl (aB tp))), (h0, .inr (0, [.int (nI ty), .ref h1, .ref h2])), (h2, .inl (cB, 208, .inl (aN mk)))]) [0, 1, 2, 4] (by decide) rfl
      have hFc := va_free (wc := [(t0, .inr (2, [.ref t1, .int (nI len)])), (t1, .inl (cB, 400, .inl (aB tp))), (h0, .inr (0, [.int (nI ty), .ref h1, .ref h2])), (h2, .inl (cB, 208, .inl (aN mk)))]) hD hS hA [0, 1, 2, 4] rfl
      refine zc_Mv (va_runV (As := [.ref h0, .int (nI sl), .int (nI (cnt sl))]) (rest := []) ⟨hx, hb, hml, hown, hw⟩ (c_T_appendLetters l dC dI t0 t1 cI cB len tp h0 h1 h2 ty mk sl (cnt sl) (by omega) (by omega) (by omega) hm s.heap.size) (cwV 3 hw (gV w_ml_T_71 w_im_T_appendLetters w_se_T_appendLetters w_in_T w_co_T_appendLetters) rfl rfl rfl (by decide +kernel) ⟨Nat.le_of_ble_eq_true rfl, Nat.le_of_ble_eq_true rfl⟩) (zM_V hG hS hFc hPc hDc hK 0 rfl rfl) rfl rfl hl.1 rfl (lv_room (Nat.le_of_ble_eq_true rfl)) dT_appendField_37 ⟨Nat.le_of_ble_eq_true rfl, Nat.le_of_ble_eq_true rfl⟩) hS hFc (fun H locs h_37 hP1 hD1 hk1 hS => ?_)
      obtain ⟨hP, hD⟩ := va_join (wr := [(h1, .inl (cI, 16, .inl (aN cnt)))]) (w1 := [(t0, .inr (2, [.ref t1, .int (nI (len + (lB mk (fFM sl) (cnt sl) 0).length))])), (t1, .inl (cB, 400, .inl (aB (apl tp len (lB mk (fFM sl) (cnt sl) 0))))), (h0, .inr (0, [.int (nI ty), .ref h1, .ref h2])), (h2, .inl (cB, 208, .inl (aN mk)))]) hP hD [0, 1, 2, 4] [3] rfl rfl (by decide) (by decide) hk1 hFc hP1 hD1
      have hP : va_P (dC, dI) vwCl [(h1, .inl (cI, 16, .inl (aN cnt))), (t0, .inr (2, [.ref t1, .int (nI (len + (lB mk (fFM sl) (cnt sl) 0).length))])), (t1, .inl (cB, 400, .inl (aB (apl tp len (lB mk (fFM sl) (cnt sl) 0))))), (h0, .inr (0, [.int (nI ty), .ref h1, .ref h2])), (h2, .inl (cB, 208, .inl (aN mk)))] H := hP
      have hD : va_D A [(h1, .inl (cI, 16, .inl (aN cnt))), (t0, .inr (2, [.ref t1, .int (nI (len + (lB mk (fFM sl) (cnt sl) 0).length))])), (t1, .inl (cB, 400, .inl (aB (apl tp len (lB mk (fFM sl) (cnt sl) 0))))), (h0, .inr (0, [.int (nI ty), .ref h1, .ref h2])), (h2, .inl (cB, 208, .inl (aN mk)))] := hD
      refine lv_goto (tgt := 50) hx hb dT_appendField_40 (by decide) ?_
      have e9 : fldB cnt mk sl = lB mk (fFM sl) (cnt sl) 0 := by unfold fldB; rw [if_pos c_12, if_neg c_30]; rfl
      rw [e9] at hQ
      subst hAe
      subst hQ
      exact W.vret hx hb hr (fun t ht hW => ⟨⟨(), rfl, trivial, by rw [ht]; exact hP.sub [1, 2, 3, 0, 4] rfl, hD.sub [1, 2, 3, 0, 4] (by decide) rfl⟩, hS.F ht⟩) hS.2.2 dT_appendField_50
  · refine lv_aload_n hx hb dT_appendField_15 rfl (lv_at hl 1 rfl) ?_
    refine lv_iload_n hx hb dT_appendField_16 rfl (lv_at hl 0 rfl) ?_
    refine va_getsN hx hb zfCD hS hown (va_Nw.use rfl (hG.nf (RT, 65, "COUNT_DIGITS") (List.mem_of_getElem? (i := 1) rfl))) (fun _ h9 => h9) dT_appendField_17 ?_
    refine lv_iload_n hx hb dT_appendField_20 rfl (lv_at hl 3 rfl) ?_
    refine za_tab hx hb afCD hS (by omega) (by decide) dT_appendField_21 ?_
    have hPc := hP.sub (ws' := [(t0, .inr (2, [.ref t1, .int (nI len)])), (t1, .inl (cB, 400, .inl (aB tp)))]) [0, 1] rfl
    have hDc := hD.sub (ws' := [(t0, .inr (2, [.ref t1, .int (nI len)])), (t1, .inl (cB, 400, .inl (aB tp)))]) [0, 1] (by decide) rfl
    have hFc := va_free (wc := [(t0, .inr (2, [.ref t1, .int (nI len)])), (t1, .inl (cB, 400, .inl (aB tp)))]) hD hS hA [0, 1] rfl
    refine zc_Mv (va_runV (As := [.int (nI (cnt sl)), .int (nI (fCD sl))]) (rest := []) ⟨hx, hb, hml, hown, hw⟩ (c_T_appendNumber l dC dI t0 t1 cI cB len tp (cnt sl) (fCD sl) (by omega) (by omega) (by omega) s.heap.size) (cwV 2 hw (gV w_ml_T_24 w_im_T_appendNumber w_se_T_appendNumber w_in_T w_co_T_appendNumber) rfl rfl rfl (by decide +kernel) ⟨Nat.le_of_ble_eq_true rfl, Nat.le_of_ble_eq_true rfl⟩) (zM_V hG hS hFc hPc hDc hK 0 rfl rfl) rfl rfl hl.1 rfl (lv_room (Nat.le_of_ble_eq_true rfl)) dT_appendField_22 ⟨Nat.le_of_ble_eq_true rfl, Nat.le_of_ble_eq_true rfl⟩) hS hFc (fun H locs h_22 hP1 hD1 hk1 hS => ?_)
    obtain ⟨hP, hD⟩ := va_join (wr := [(h0, .inr (0, [.int (nI ty), .ref h1, .ref h2])), (h1, .inl (cI, 16, .inl (aN cnt))), (h2, .inl (cB, 208, .inl (aN mk)))]) (w1 := [(t0, .inr (2, [.ref t1, .int (nI (len + (anb (cnt sl) (fCD sl)).length))])), (t1, .inl (cB, 400, .inl (aB (apl tp len (anb (cnt sl) (fCD sl))))))]) hP hD [0, 1] [2, 3, 4] rfl rfl (by decide) (by decide) hk1 hFc hP1 hD1
    have hP : va_P (dC, dI) vwCl [(h0, .inr (0, [.int (nI ty), .ref h1, .ref h2])), (h1, .inl (cI, 16, .inl (aN cnt))), (h2, .inl (cB, 208, .inl (aN mk))), (t0, .inr (2, [.ref t1, .int (nI (len + (anb (cnt sl) (fCD sl)).length))])), (t1, .inl (cB, 400, .inl (aB (apl tp len (anb (cnt sl) (fCD sl))))))] H := hP
    have hD : va_D A [(h0, .inr (0, [.int (nI ty), .ref h1, .ref h2])), (h1, .inl (cI, 16, .inl (aN cnt))), (h2, .inl (cB, 208, .inl (aN mk))), (t0, .inr (2, [.ref t1, .int (nI (len + (anb (cnt sl) (fCD sl)).length))])), (t1, .inl (cB, 400, .inl (aB (apl tp len (anb (cnt sl) (fCD sl))))))] := hD
    refine va_getsN hx hb zfHL hS hown (va_Nw.use rfl (hG.nf (RT, 68, "HAS_LETTERS") (List.mem_of_getElem? (i := 2) rfl))) (fun _ h9 => h9) dT_appendField_25 ?_
    refine lv_iload_n hx hb dT_appendField_28 rfl (lv_at hl 3 rfl) ?_
    refine za_tab hx hb afHL hS (by omega) (by decide) dT_appendField_29 ?_
    refine zi_eq0 (tgt := 43) hx hb (by omega) dT_appendField_30 (by decide) (fun c_30 => ?_) (fun c_30 => ?_)
    · refine lv_aload_n hx hb dT_appendField_43 rfl (lv_at hl 1 rfl) ?_
      refine lv_aload_n hx hb dT_appendField_44 rfl (lv_at hl 2 rfl) ?_
      refine lv_iload_n hx hb dT_appendField_45 rfl (lv_at hl 3 rfl) ?_
      refine lv_iload_n hx hb dT_appendField_46 rfl (lv_at hl 0 rfl) ?_
      have hPc := hP.sub (ws' := [(t0, .inr (2, [.ref t1, .int (nI (len + (anb (cnt sl) (fCD sl)).length))])), (t1, .inl (cB, 400, .inl (aB (apl tp len (anb (cnt sl) (fCD sl)))))), (h0, .inr (0, [.int (nI ty), .ref h1, .ref h2])), (h2, .inl (cB, 208, .inl (aN mk)))]) [3, 4, 0, 2] rfl
      have hDc := hD.sub (ws' := [(t0, .inr (2, [.ref t1, .int (nI (len + (anb (cnt sl) (fCD sl)).length))])), (t1, .inl (cB, 400, .inl (aB (apl tp len (anb (cnt sl) (fCD sl)))))), (h0, .inr (0, [.int (nI ty), .ref h1, .ref h2])), (h2, .inl (cB, 208, .inl (aN mk)))]) [3, 4, 0, 2] (by decide) rfl
      have hFc := va_free (wc := [(t0, .inr (2, [.ref t1, .int (nI (len + (anb (cnt sl) (fCD sl)).length))])), (t1, .inl (cB, 400, .inl (aB (apl tp len (anb (cnt sl) (fCD sl)))))), (h0, .inr (0, [.int (nI ty), .ref h1, .ref h2])), (h2, .inl (cB, 208, .inl (aN mk)))]) hD hS hA [3, 4, 0, 2] rfl
      refine zc_Mv (va_runV (As := [.ref h0, .int (nI sl), .int (nI (cnt sl))]) (rest := []) ⟨hx, hb, hml, hown, hw⟩ (c_T_appendDigits l dC dI t0 t1 cI cB (len + (anb (cnt sl) (fCD sl)).length) (apl tp len (anb (cnt sl) (fCD sl))) h0 h1 h2 ty mk sl (cnt sl) (by omega) (by omega) (by omega) (hg c_30) H.size) (cwV 3 hw (gV w_ml_T_75 w_im_T_appendDigits w_se_T_appendDigits w_in_T w_co_T_appendDigits) rfl rfl rfl (by decide +kernel) ⟨Nat.le_of_ble_eq_true rfl, Nat.le_of_ble_eq_true rfl⟩) (zM_V hG hS hFc hPc hDc hK 0 rfl rfl) rfl rfl hl.1 rfl (lv_room (Nat.le_of_ble_eq_true rfl)) dT_appendField_47 ⟨Nat.le_of_ble_eq_true rfl, Nat.le_of_ble_eq_true rfl⟩) hS hFc (fun H locs h_47 hP1 hD1 hk1 hS => ?_)
      obtain ⟨hP, hD⟩ := va_join (wr := [(h1, .inl (cI, 16, .inl (aN cnt)))]) (w1 := [(t0, .inr (2, [.ref t1, .int (nI ((len + (anb (cnt sl) (fCD sl)).length) + (dgB mk (fFM sl) (cnt sl)).length))])), (t1, .inl (cB, 400, .inl (aB (apl (apl tp len (anb (cnt sl) (fCD sl))) (len + (anb (cnt sl) (fCD sl)).length) (dgB mk (fFM sl) (cnt sl)))))), (h0, .inr (0, [.int (nI ty), .ref h1, .ref h2])), (h2, .inl (cB, 208, .inl (aN mk)))]) hP hD [3, 4, 0, 2] [1] rfl rfl (by decide) (by decide) hk1 hFc hP1 hD1
      have hP : va_P (dC, dI) vwCl [(h1, .inl (cI, 16, .inl (aN cnt))), (t0, .inr (2, [.ref t1, .int (nI ((len + (anb (cnt sl) (fCD sl)).length) + (dgB mk (fFM sl) (cnt sl)).length))])), (t1, .inl (cB, 400, .inl (aB (apl (apl tp len (anb (cnt sl) (fCD sl))) (len + (anb (cnt sl) (fCD sl)).length) (dgB mk (fFM sl) (cnt sl)))))), (h0, .inr (0, [.int (nI ty), .ref h1, .ref h2])), (h2, .inl (cB, 208, .inl (aN mk)))] H := hP
      have hD : va_D A [(h1, .inl (cI, 16, .inl (aN cnt))), (t0, .inr (2, [.ref t1, .int (nI ((len + (anb (cnt sl) (fCD sl)).length) + (dgB mk (fFM sl) (cnt sl)).length))])), (t1, .inl (cB, 400, .inl (aB (apl (apl tp len (anb (cnt sl) (fCD sl))) (len + (anb (cnt sl) (fCD sl)).length) (dgB mk (fFM sl) (cnt sl)))))), (h0, .inr (0, [.int (nI ty), .ref h1, .ref h2])), (h2, .inl (cB, 208, .inl (aN mk)))] := hD
      have e9 : fldB cnt mk sl = anb (cnt sl) (fCD sl) ++ dgB mk (fFM sl) (cnt sl) := by unfold fldB; rw [if_neg c_12, if_pos c_30]
      rw [e9, apl_app, List.length_append, ← Nat.add_assoc] at hQ
      subst hAe
      subst hQ
      exact W.vret hx hb hr (fun t ht hW => ⟨⟨(), rfl, trivial, by rw [ht]; exact hP.sub [1, 2, 3, 0, 4] rfl, hD.sub [1, 2, 3, 0, 4] (by decide) rfl⟩, hS.F ht⟩) hS.2.2 dT_appendField_50
    · refine lv_aload_n hx hb dT_appendField_33 rfl (lv_at hl 1 rfl) ?_
      refine lv_aload_n hx hb dT_appendField_34 rfl (lv_at hl 2 rfl) ?_
      refine lv_iload_n hx hb dT_appendField_35 rfl (lv_at hl 3 rfl) ?_
      refine lv_iload_n hx hb dT_appendField_36 rfl (lv_at hl 0 rfl) ?_
      have hPc := hP.sub (ws' := [(t0, .inr (2, [.ref t1, .int (nI (len + (anb (cnt sl) (fCD sl)).length))])), (t1, .inl (cB, 400, .inl (aB (apl tp len (anb (cnt sl) (fCD sl)))))), (h0, .inr (0, [.int (nI ty), .ref h1, .ref h2])), (h2, .inl (cB, 208, .inl (aN mk)))]) [3, 4, 0, 2] rfl
      have hDc := hD.sub (ws' := [(t0, .inr (2, [.ref t1, .int (nI (len + (anb (cnt sl) (fCD sl)).length))])), (t1, .inl (cB, 400, .inl (aB (apl tp len (anb (cnt sl) (fCD sl)))))), (h0, .inr (0, [.int (nI ty), .ref h1, .ref h2])), (h2, .inl (cB, 208, .inl (aN mk)))]) [3, 4, 0, 2] (by decide) rfl
      have hFc := va_free (wc := [(t0, .inr (2, [.ref t1, .int (nI (len + (anb (cnt sl) (fCD sl)).length))])), (t1, .inl (cB, 400, .inl (aB (apl tp len (anb (cnt sl) (fCD sl)))))), (h0, .inr (0, [.int (nI ty), .ref h1, .ref h2])), (h2, .inl (cB, 208, .inl (aN mk)))]) hD hS hA [3, 4, 0, 2] rfl
      refine zc_Mv (va_runV (As := [.ref h0, .int (nI sl), .int (nI (cnt sl))]) (rest := []) ⟨hx, hb, hml, hown, hw⟩ (c_T_appendLetters l dC dI t0 t1 cI cB (len + (anb (cnt sl) (fCD sl)).length) (apl tp len (anb (cnt sl) (fCD sl))) h0 h1 h2 ty mk sl (cnt sl) (by omega) (by omega) (by omega) hm H.size) (cwV 3 hw (gV w_ml_T_71 w_im_T_appendLetters w_se_T_appendLetters w_in_T w_co_T_appendLetters) rfl rfl rfl (by decide +kernel) ⟨Nat.le_of_ble_eq_true rfl, Nat.le_of_ble_eq_true rfl⟩) (zM_V hG hS hFc hPc hDc hK 0 rfl rfl) rfl rfl hl.1 rfl (lv_room (Nat.le_of_ble_eq_true rfl)) dT_appendField_37 ⟨Nat.le_of_ble_eq_true rfl, Nat.le_of_ble_eq_true rfl⟩) hS hFc (fun H locs h_37 hP1 hD1 hk1 hS => ?_)
      obtain ⟨hP, hD⟩ := va_join (wr := [(h1, .inl (cI, 16, .inl (aN cnt)))]) (w1 := [(t0, .inr (2, [.ref t1, .int (nI ((len + (anb (cnt sl) (fCD sl)).length) + (lB mk (fFM sl) (cnt sl) 0).length))])), (t1, .inl (cB, 400, .inl (aB (apl (apl tp len (anb (cnt sl) (fCD sl))) (len + (anb (cnt sl) (fCD sl)).length) (lB mk (fFM sl) (cnt sl) 0))))), (h0, .inr (0, [.int (nI ty), .ref h1, .ref h2])), (h2, .inl (cB, 208, .inl (aN mk)))]) hP hD [3, 4, 0, 2] [1] rfl rfl (by decide) (by decide) hk1 hFc hP1 hD1
      have hP : va_P (dC, dI) vwCl [(h1, .inl (cI, 16, .inl (aN cnt))), (t0, .inr (2, [.ref t1, .int (nI ((len + (anb (cnt sl) (fCD sl)).length) + (lB mk (fFM sl) (cnt sl) 0).length))])), (t1, .inl (cB, 400, .inl (aB (apl (apl tp len (anb (cnt sl) (fCD sl))) (len + (anb (cnt sl) (fCD sl)).length) (lB mk (fFM sl) (cnt sl) 0))))), (h0, .inr (0, [.int (nI ty), .ref h1, .ref h2])), (h2, .inl (cB, 208, .inl (aN mk)))] H := hP
      have hD : va_D A [(h1, .inl (cI, 16, .inl (aN cnt))), (t0, .inr (2, [.ref t1, .int (nI ((len + (anb (cnt sl) (fCD sl)).length) + (lB mk (fFM sl) (cnt sl) 0).length))])), (t1, .inl (cB, 400, .inl (aB (apl (apl tp len (anb (cnt sl) (fCD sl))) (len + (anb (cnt sl) (fCD sl)).length) (lB mk (fFM sl) (cnt sl) 0))))), (h0, .inr (0, [.int (nI ty), .ref h1, .ref h2])), (h2, .inl (cB, 208, .inl (aN mk)))] := hD
      refine lv_goto (tgt := 50) hx hb dT_appendField_40 (by decide) ?_
      have e9 : fldB cnt mk sl = anb (cnt sl) (fCD sl) ++ lB mk (fFM sl) (cnt sl) 0 := by unfold fldB; rw [if_neg c_12, if_neg c_30]
      rw [e9, apl_app, List.length_append, ← Nat.add_assoc] at hQ
      subst hAe
      subst hQ
      exact W.vret hx hb hr (fun t ht hW => ⟨⟨(), rfl, trivial, by rw [ht]; exact hP.sub [1, 2, 3, 0, 4] rfl, hD.sub [1, 2, 3, 0, 4] (by decide) rfl⟩, hS.F ht⟩) hS.2.2 dT_appendField_50
def rm_c_has2_ok : Room := ({ frames := 1, cells := 0, slots := 0, locals := 21 } : Room)
set_option maxHeartbeats 4000000 in
set_option maxRecDepth 100000 in
theorem c_has2_ok (l : Launch) (dC : Nat → ClassId) (dI : Nat → Nat → Nat) (h0 : Nat) (h1 : Nat) (h2 : Nat) (cI : ClassId) (cB : ClassId) (ty : Nat) (cnt : Nat → Nat) (hb9 : ∀ j, j < 16 → cnt j < 2 ^ 31) (hd : s2L cnt 16 0 = true) (Hc : Heap) : Met l yT_hasFieldOfSecondMap wsT_hasFieldOfSecondMap rm_c_has2_ok (zR (dC, dI) [(cI, .int), (cB, .byte)] [.ref h0] [(h0, .inr (0, [.int (nI ty), .ref h1, .ref h2])), (h1, .inl (cI, 16, .inl (aN cnt)))] Hc) (zRi Hc (fun r => r = nI 1)) 0 0 zNo := by
  refine Met.ofW (cc := cT_hasFieldOfSecondMap) (maxL := 2) (ret := (some .boolean)) (by decide) rfl ?_
  intro p e s m args below meth c s₁ Bd hml hv
  obtain ⟨rfl, hH, hG, hP, hK⟩ := hv
  subst hH
  have hx := Bd.exec
  have hb := Bd.bytes
  have hr := Bd.returns
  have hts := atoms_spec (ws := wsT_hasFieldOfSecondMap) Bd.pre
  have hw : ∀ w ∈ BIG, w.before _ s = true := fun w h => hts w (List.mem_cons_of_mem _ h)
  have hown : s.vm.findClass RT = some m.cls := findClass_of_methodNamed Bd.named
  have hlocks := Bd.notSynchronized
  have hS : va_S zNo s.heap s.heap [] := va_S.rf
  have hl := lv_entry ([.ref h0]) (n := 2) (Nat.le_of_ble_eq_true rfl)
  rw [lg_entry_eq]
  generalize (lg_sl ([.ref h0]) ++ List.replicate (2 - (lg_sl ([.ref h0])).length) Slot.unset).toArray = ls at hl ⊢
  have hl : lv_has ls 2 [(0, .ref h0)] := hl
  refine zq_name (fun Q hQ => ?_)
  change W p l e rm_c_has2_ok s m _ below meth c _ _ _ _ Q _
  obtain ⟨tfFI, zfFI, afFI⟩ := hG.FIELDS
  refine lv_iconst (v := nI 0) hx hb dT_hasFieldOfSecondMap_0 (by decide) ?_
  refine lv_istore_n (lv' := [(1, .int (nI 0)), (0, .ref h0)]) hx hb dT_hasFieldOfSecondMap_1 rfl hl (by decide) rfl (fun ls hl => ?_)
  have lp_2 : ∀ (fu : Nat) (k : Nat) (hk : k ≤ 16) (hi : s2L cnt (16 - k) k = true) (hms : 16 - k < fu) (locs : List Loc) (ls : Array Slot), lv_has ls 2 [(0, .ref h0), (1, .int (nI k))] → va_S zNo s.heap s.heap locs → W p l e rm_c_has2_ok s m ([.ref h0] : List Value).toArray below meth c s.heap locs 0 0 Q (F0 m 2 ls []) := by
    intro fu
    induction fu with
    | zero => intro k hk hi hms; exact absurd hms (Nat.not_lt_zero _)
    | succ fu ih2 =>
      intro k hk hi hms locs ls hl hS
      refine lv_iload_n hx hb dT_hasFieldOfSecondMap_2 rfl (lv_at hl 1 rfl) ?_
      refine lv_bipush (v := nI 16) hx hb dT_hasFieldOfSecondMap_3 (by decide) ?_
      refine zi_ge (tgt := 34) hx hb (by omega) (by omega) dT_hasFieldOfSecondMap_5 (by decide) (fun q => False.elim ((by have h9 := hi; rw [show 16 - k = 0 by omega] at h9; cases h9))) (fun c_5 => ?_)
      have hfi := fFI_b k (by omega)
      refine va_getsN hx hb zfFI hS hown (va_Nw.use rfl (hG.nf (RT, 51, "FIELDS") (List.mem_of_getElem? (i := 0) rfl))) (fun _ h9 => h9) dT_hasFieldOfSecondMap_8 ?_
      refine lv_iload_n hx hb dT_hasFieldOfSecondMap_11 rfl (lv_at hl 1 rfl) ?_
      refine za_tab hx hb afFI hS (by omega) (by decide) dT_hasFieldOfSecondMap_12 ?_
      refine lv_bipush (v := nI 64) hx hb dT_hasFieldOfSecondMap_13 (by decide) ?_
      refine zi_le (tgt := 28) hx hb (by omega) (by omega) dT_hasFieldOfSecondMap_15 (by decide) (fun c_15 => ?_) (fun c_15 => ?_)
      · have h8 : s2L cnt (16 - (k + 1)) (k + 1) = true := by have h9 := hi; rw [show 16 - k = 16 - (k + 1) + 1 by omega] at h9; unfold s2L at h9; rw [if_neg (fun z => by first | exact absurd z.1 (Nat.not_lt.mpr c_15) | exact z.2 (hz_0.mp c_23))] at h9; exact h9
        refine lv_iinc (v := nI (k + 1)) (lv' := [(1, .int (nI (k + 1))), (0, .ref h0)]) hx hb dT_hasFieldOfSecondMap_28 hl (k := 1) rfl (zi_incr k 1) (by decide) rfl (fun ls hl => ?_)
        refine lv_goto (tgt := 2) hx hb dT_hasFieldOfSecondMap_31 (by decide) ?_
        exact ih2 (k + 1) (by omega) h8 (by omega) _ _ (lv_sub hl [1, 0] rfl) hS
      · refine lv_aload_n hx hb dT_hasFieldOfSecondMap_18 rfl (lv_at hl 0 rfl) ?_
        refine lv_iload_n hx hb dT_hasFieldOfSecondMap_19 rfl (lv_at hl 1 rfl) ?_
        refine zc_Ri (va_runV (As := [.int (nI k)]) (rest := []) ⟨hx, hb, hml, hown, hw⟩ (c_D_has l dC dI h0 h1 h2 cI cB ty cnt k (by omega) (hb9 k (by omega)) s.heap) (cwV 1 hw (gV w_ml_T_32 w_im_D_has w_se_D_has w_in_D w_co_D_has) rfl rfl rfl (by decide +kernel) ⟨Nat.le_of_ble_eq_true rfl, Nat.le_of_ble_eq_true rfl⟩) (zR_V hG hS (hP.sub (ws' := [(h0, .inr (0, [.int (nI ty), .ref h1, .ref h2])), (h1, .inl (cI, 16, .inl (aN cnt)))]) [0, 1] rfl) hK 0 rfl rfl) rfl rfl hl.1 rfl (lv_room (Nat.le_of_ble_eq_true rfl)) dT_hasFieldOfSecondMap_20 ⟨Nat.le_of_ble_eq_true rfl, Nat.le_of_ble_eq_true rfl⟩) hS (fun r_1 locs h_20 hS => ?_)
        subst h_20
        refine zi_eq0 (tgt := 28) hx hb (hz_lt _) dT_hasFieldOfSecondMap_23 (by decide) (fun c_23 => ?_) (fun c_23 => ?_)
        · have h8 : s2L cnt (16 - (k + 1)) (k + 1) = true := by have h9 := hi; rw [show 16 - k = 16 - (k + 1) + 1 by omega] at h9; unfold s2L at h9; rw [if_neg (fun z => by first | exact absurd z.1 (Nat.not_lt.mpr c_15) | exact z.2 (hz_0.mp c_23))] at h9; exact h9
          refine lv_iinc (v := nI (k + 1)) (lv' := [(1, .int (nI (k + 1))), (0, .ref h0)]) hx hb dT_hasFieldOfSecondMap_28 hl (k := 1) rfl (zi_incr k 1) (by decide) rfl (fun ls hl => ?_)
          refine lv_goto (tgt := 2) hx hb dT_hasFieldOfSecondMap_31 (by decide) ?_
          exact ih2 (k + 1) (by omega) h8 (by omega) _ _ (lv_sub hl [1, 0] rfl) hS
        · refine lv_iconst (v := nI 1) hx hb dT_hasFieldOfSecondMap_26 (by decide) ?_
          subst hQ
          exact W.zret (v := nI 1) hx hb hr (by decide) (fun t ht hW => ⟨⟨nI 1, (), rfl, rfl, ht⟩, hS.F ht⟩) hS.2.2 dT_hasFieldOfSecondMap_27
  exact lp_2 ((16 - 0) + 1) 0 (by omega) hd (Nat.lt_succ_self _) _ _ (lv_sub hl [1, 0] rfl) hS
def rm_c_has2_no : Room := ({ frames := 1, cells := 0, slots := 0, locals := 21 } : Room)
set_option maxHeartbeats 4000000 in
set_option maxRecDepth 100000 in
theorem c_has2_no (l : Launch) (dC : Nat → ClassId) (dI : Nat → Nat → Nat) (h0 : Nat) (h1 : Nat) (h2 : Nat) (cI : ClassId) (cB : ClassId) (ty : Nat) (cnt : Nat → Nat) (hb9 : ∀ j, j < 16 → cnt j < 2 ^ 31) (hd : s2L cnt 16 0 = false) (Hc : Heap) : Met l yT_hasFieldOfSecondMap wsT_hasFieldOfSecondMap rm_c_has2_no (zR (dC, dI) [(cI, .int), (cB, .byte)] [.ref h0] [(h0, .inr (0, [.int (nI ty), .ref h1, .ref h2])), (h1, .inl (cI, 16, .inl (aN cnt)))] Hc) (zRi Hc (fun r => r = nI 0)) 0 0 zNo := by
  refine Met.ofW (cc := cT_hasFieldOfSecondMap) (maxL := 2) (ret := (some .boolean)) (by decide) rfl ?_
  intro p e s m args below meth c s₁ Bd hml hv
  obtain ⟨rfl, hH, hG, hP, hK⟩ := hv
  subst hH
  have hx := Bd.exec
  have hb := Bd.bytes
  have hr := Bd.returns
  have hts := atoms_spec (ws := wsT_hasFieldOfSecondMap) Bd.pre
  have hw : ∀ w ∈ BIG, w.before _ s = true := fun w h => hts w (List.mem_cons_of_mem _ h)
  have hown : s.vm.findClass RT = some m.cls := findClass_of_methodNamed Bd.named
  have hlocks := Bd.notSynchronized
  have hS : va_S zNo s.heap s.heap [] := va_S.rf
  have hl := lv_entry ([.ref h0]) (n := 2) (Nat.le_of_ble_eq_true rfl)
  rw [lg_entry_eq]
  generalize (lg_sl ([.ref h0]) ++ List.replicate (2 - (lg_sl ([.ref h0])).length) Slot.unset).toArray = ls at hl ⊢
  have hl : lv_has ls 2 [(0, .ref h0)] := hl
  refine zq_name (fun Q hQ => ?_)
  change W p l e rm_c_has2_no s m _ below meth c _ _ _ _ Q _
  obtain ⟨tfFI, zfFI, afFI⟩ := hG.FIELDS
  refine lv_iconst (v := nI 0) hx hb dT_hasFieldOfSecondMap_0 (by decide) ?_
  refine lv_istore_n (lv' := [(1, .int (nI 0)), (0, .ref h0)]) hx hb dT_hasFieldOfSecondMap_1 rfl hl (by decide) rfl (fun ls hl => ?_)
  have lp_2 : ∀ (fu : Nat) (k : Nat) (hk : k ≤ 16) (hi : s2L cnt (16 - k) k = false) (hms : 16 - k < fu) (locs : List Loc) (ls : Array Slot), lv_has ls 2 [(0, .ref h0), (1, .int (nI k))] → va_S zNo s.heap s.heap locs → W p l e rm_c_has2_no s m ([.ref h0] : List Value).toArray below meth c s.heap locs 0 0 Q (F0 m 2 ls []) := by
    intro fu
    induction fu with
    | zero => intro k hk hi hms; exact absurd hms (Nat.not_lt_zero _)
    | succ fu ih2 =>
      intro k hk hi hms locs ls hl hS
      refine lv_iload_n hx hb dT_hasFieldOfSecondMap_2 rfl (lv_at hl 1 rfl) ?_
      refine lv_bipush (v := nI 16) hx hb dT_hasFieldOfSecondMap_3 (by decide) ?_
      refine zi_ge (tgt := 34) hx hb (by omega) (by omega) dT_hasFieldOfSecondMap_5 (by decide) (fun c_5 => ?_) (fun c_5 => ?_)
      · refine lv_iconst (v := nI 0) hx hb dT_hasFieldOfSecondMap_34 (by decide) ?_
        subst hQ
        exact W.zret (v := nI 0) hx hb hr (by decide) (fun t ht hW => ⟨⟨nI 0, (), rfl, rfl, ht⟩, hS.F ht⟩) hS.2.2 dT_hasFieldOfSecondMap_35
      · have hfi := fFI_b k (by omega)
        refine va_getsN hx hb zfFI hS hown (va_Nw.use rfl (hG.nf (RT, 51, "FIELDS") (List.mem_of_getElem? (i := 0) rfl))) (fun _ h9 => h9) dT_hasFieldOfSecondMap_8 ?_
        refine lv_iload_n hx hb dT_hasFieldOfSecondMap_11 rfl (lv_at hl 1 rfl) ?_
        refine za_tab hx hb afFI hS (by omega) (by decide) dT_hasFieldOfSecondMap_12 ?_
        refine lv_bipush (v := nI 64) hx hb dT_hasFieldOfSecondMap_13 (by decide) ?_
        refine zi_le (tgt := 28) hx hb (by omega) (by omega) dT_hasFieldOfSecondMap_15 (by decide) (fun c_15 => ?_) (fun c_15 => ?_)
        · have h8 : s2L cnt (16 - (k + 1)) (k + 1) = false := by have h9 := hi; rw [show 16 - k = 16 - (k + 1) + 1 by omega] at h9; unfold s2L at h9; rw [if_neg (fun z => by first | exact absurd z.1 (Nat.not_lt.mpr c_15) | exact z.2 (hz_0.mp c_23))] at h9; exact h9
          refine lv_iinc (v := nI (k + 1)) (lv' := [(1, .int (nI (k + 1))), (0, .ref h0)]) hx hb dT_hasFieldOfSecondMap_28 hl (k := 1) rfl (zi_incr k 1) (by decide) rfl (fun ls hl => ?_)
          refine lv_goto (tgt := 2) hx hb dT_hasFieldOfSecondMap_31 (by decide) ?_
          exact ih2 (k + 1) (by omega) h8 (by omega) _ _ (lv_sub hl [1, 0] rfl) hS
        · refine lv_aload_n hx hb dT_hasFieldOfSecondMap_18 rfl (lv_at hl 0 rfl) ?_
          refine lv_iload_n hx hb dT_hasFieldOfSecondMap_19 rfl (lv_at hl 1 rfl) ?_
          refine zc_Ri (va_runV (As := [.int (nI k)]) (rest := []) ⟨hx, hb, hml, hown, hw⟩ (c_D_has l dC dI h0 h1 h2 cI cB ty cnt k (by omega) (hb9 k (by omega)) s.heap) (cwV 1 hw (gV w_ml_T_32 w_im_D_has w_se_D_has w_in_D w_co_D_has) rfl rfl rfl (by decide +kernel) ⟨Nat.le_of_ble_eq_true rfl, Nat.le_of_ble_eq_true rfl⟩) (zR_V hG hS (hP.sub (ws' := [(h0, .inr (0, [.int (nI ty), .ref h1, .ref h2])), (h1, .inl (cI, 16, .inl (aN cnt)))]) [0, 1] rfl) hK 0 rfl rfl) rfl rfl hl.1 rfl (lv_room (Nat.le_of_ble_eq_true rfl)) dT_hasFieldOfSecondMap_20 ⟨Nat.le_of_ble_eq_true rfl, Nat.le_of_ble_eq_true rfl⟩) hS (fun r_1 locs h_20 hS => ?_)
          subst h_20
          refine zi_eq0 (tgt := 28) hx hb (hz_lt _) dT_hasFieldOfSecondMap_23 (by decide) (fun c_23 => ?_) (fun q => False.elim ((by have h9 := hi; rw [show 16 - k = 16 - (k + 1) + 1 by omega] at h9; unfold s2L at h9; rw [if_pos ⟨c_15, fun z => q (hz_0.mpr z)⟩] at h9; cases h9)))
          have h8 : s2L cnt (16 - (k + 1)) (k + 1) = false := by have h9 := hi; rw [show 16 - k = 16 - (k + 1) + 1 by omega] at h9; unfold s2L at h9; rw [if_neg (fun z => by first | exact absurd z.1 (Nat.not_lt.mpr c_15) | exact z.2 (hz_0.mp c_23))] at h9; exact h9
          refine lv_iinc (v := nI (k + 1)) (lv' := [(1, .int (nI (k + 1))), (0, .ref h0)]) hx hb dT_hasFieldOfSecondMap_28 hl (k := 1) rfl (zi_incr k 1) (by decide) rfl (fun ls hl => ?_)
          refine lv_goto (tgt := 2) hx hb dT_hasFieldOfSecondMap_31 (by decide) ?_
          exact ih2 (k + 1) (by omega) h8 (by omega) _ _ (lv_sub hl [1, 0] rfl) hS
  exact lp_2 ((16 - 0) + 1) 0 (by omega) hd (Nat.lt_succ_self _) _ _ (lv_sub hl [1, 0] rfl) hS
def rm_c_appendMaps_two : Room := ({ frames := 2, cells := 0, slots := 0, locals := 42 } : Room)
set_option maxHeartbeats 4000000 in
set_option maxRecDepth 100000 in
theorem c_appendMaps_two (l : Launch) (dC : Nat → ClassId) (dI : Nat → Nat → Nat) (t0 : Nat) (t1 : Nat) (cI : ClassId) (cB : ClassId) (len : Nat) (tp : Nat → Nat) (h0 : Nat) (h1 : Nat) (h2 : Nat) (ty : Nat) (cnt : Nat → Nat) (mk : Nat → Nat) (hl9 : len + 16 ≤ 400) (hb9 : ∀ j, j < 16 → cnt j < 2 ^ 31) (hd : s2L cnt 16 0 = true) (sz : Nat) : Met l yT_appendMaps wsT_appendMaps rm_c_appendMaps_two (zM (dC, dI) [(cI, .int), (cB, .byte)] [.ref t0, .ref h0] [(t0, .inr (2, [.ref t1, .int (nI len)])), (t1, .inl (cB, 400, .inl (aB tp))), (h0, .inr (0, [.int (nI ty), .ref h1, .ref h2])), (h1, .inl (cI, 16, .inl (aN cnt))), (h2, .inl (cB, 208, .inl (aN mk)))] sz) (zMv (dC, dI) [(t0, .inr (2, [.ref t1, .int (nI len)])), (t1, .inl (cB, 400, .inl (aB tp))), (h0, .inr (0, [.int (nI ty), .ref h1, .ref h2])), (h1, .inl (cI, 16, .inl (aN cnt))), (h2, .inl (cB, 208, .inl (aN mk)))] [(t0, .inr (2, [.ref t1, .int (nI (len + 16))])), (t1, .inl (cB, 400, .inl (aB (mpS len cnt 16 0 (nup (apl tp len (List.replicate 16 0)) len ((apl tp len (List.replicate 16 0)) len ^^^ 128)))))), (h0, .inr (0, [.int (nI ty), .ref h1, .ref h2])), (h1, .inl (cI, 16, .inl (aN cnt))), (h2, .inl (cB, 208, .inl (aN mk)))] sz (True)) 0 0 (va_A [(t0, .inr (2, [.ref t1, .int (nI len)])), (t1, .inl (cB, 400, .inl (aB tp))), (h0, .inr (0, [.int (nI ty), .ref h1, .ref h2])), (h1, .inl (cI, 16, .inl (aN cnt))), (h2, .inl (cB, 208, .inl (aN mk)))] sz) := by
  refine Met.ofW (cc := cT_appendMaps) (maxL := 5) (ret := none) (by decide) rfl ?_
  intro p e s m args below meth c s₁ Bd hml hv
  obtain ⟨rfl, hsz, hG, hP, hK, hD0⟩ := hv
  subst hsz
  have hx := Bd.exec
  have hb := Bd.bytes
  have hr := Bd.returns
  have hts := atoms_spec (ws := wsT_appendMaps) Bd.pre
  have hw : ∀ w ∈ BIG, w.before _ s = true := fun w h => hts w (List.mem_cons_of_mem _ h)
  have hown : s.vm.findClass RT = some m.cls := findClass_of_methodNamed Bd.named
  have hlocks := Bd.notSynchronized
  have hD := hD0.self (sz := s.heap.size)
  obtain ⟨A, hAe⟩ : ∃ A, A = va_A [(t0, .inr (2, [.ref t1, .int (nI len)])), (t1, .inl (cB, 400, .inl (aB tp))), (h0, .inr (0, [.int (nI ty), .ref h1, .ref h2])), (h1, .inl (cI, 16, .inl (aN cnt))), (h2, .inl (cB, 208, .inl (aN mk)))] s.heap.size := ⟨_, rfl⟩
  have hA : ∀ q : Nat, s.heap.size ≤ q → A q := fun q h => by rw [hAe]; exact Or.inr h
  rw [← hAe] at hG hD
  have hS : va_S A s.heap s.heap [] := va_S.rf
  have hl := lv_entry ([.ref t0, .ref h0]) (n := 5) (Nat.le_of_ble_eq_true rfl)
  rw [lg_entry_eq]
  generalize (lg_sl ([.ref t0, .ref h0]) ++ List.replicate (5 - (lg_sl ([.ref t0, .ref h0])).length) Slot.unset).toArray = ls at hl ⊢
  have hl : lv_has ls 5 [(0, .ref t0), (1, .ref h0)] := hl
  refine zq_name (fun Q hQ => ?_)
  change W p l e rm_c_appendMaps_two s m _ below meth c _ _ _ _ Q _
  obtain ⟨tfFI, zfFI, afFI⟩ := hG.FIELDS
  refine lv_aload_n hx hb dT_appendMaps_0 rfl (lv_at hl 1 rfl) ?_
  refine zc_Ri (va_runS (As := [.ref h0]) (rest := []) ⟨hx, hb, hml, hown, hw⟩ (c_has2_ok l dC dI h0 h1 h2 cI cB ty cnt hb9 hd s.heap) (va_cwS 1 hw (gSt w_ml_T_40 w_st_T_hasFieldOfSecondMap w_in_T w_co_T_hasFieldOfSecondMap) rfl rfl rfl (by decide +kernel) ⟨Nat.le_of_ble_eq_true rfl, Nat.le_of_ble_eq_true rfl⟩) (zR_S hG hS (hP.sub (ws' := [(h0, .inr (0, [.int (nI ty), .ref h1, .ref h2])), (h1, .inl (cI, 16, .inl (aN cnt)))]) [2, 3] rfl) hK) rfl rfl hl.1 rfl (lv_room (Nat.le_of_ble_eq_true rfl)) dT_appendMaps_1 ⟨Nat.le_of_ble_eq_true rfl, Nat.le_of_ble_eq_true rfl⟩) hS (fun r_1 locs h_1 hS => ?_)
  subst h_1
  refine lv_istore_n (lv' := [(2, .int (nI 1)), (0, .ref t0), (1, .ref h0)]) hx hb dT_appendMaps_4 rfl hl (by decide) rfl (fun ls hl => ?_)
  refine lv_aload_n hx hb dT_appendMaps_5 rfl (lv_at hl 1 rfl) ?_
  refine va_get (D := (dC, dI)) (ci := 2) (v := .int (nI len)) (C := RT) (T := TT) (N := 2) hx hb hw inT hown hK hP 0 rfl rfl 1 (by decide) (hw _ w_fl_T_15) (fun _ h9 => h9) rfl dT_appendMaps_6 ?_
  refine lv_istore_n (lv' := [(3, .int (nI len)), (2, .int (nI 1)), (0, .ref t0), (1, .ref h0)]) hx hb dT_appendMaps_9 rfl hl (by decide) rfl (fun ls hl => ?_)
  refine lv_iconst (v := nI 0) hx hb dT_appendMaps_10 (by decide) ?_
  refine lv_istore (lv' := [(4, .int (nI 0)), (3, .int (nI len)), (2, .int (nI 1)), (0, .ref t0), (1, .ref h0)]) hx hb dT_appendMaps_11 hl (by decide) rfl (fun ls hl => ?_)
  have lp_13 : ∀ (fu : Nat) (k : Nat) (q : Nat) (f : Nat → Nat) (hk : k ≤ 16) (hq : q = len + k) (hi : apl f q (List.replicate (16 - k) 0) = apl tp len (List.replicate 16 0)) (hms : 16 - k < fu) (H : Heap) (locs : List Loc) (ls : Array Slot), lv_has ls 5 [(0, .ref t0), (1, .ref h0), (2, .int (nI 1)), (3, .int (nI len)), (4, .int (nI k))] → va_P (dC, dI) vwCl [(t0, .inr (2, [.ref t1, .int (nI q)])), (t1, .inl (cB, 400, .inl (aB f))), (h0, .inr (0, [.int (nI ty), .ref h1, .ref h2])), (h1, .inl (cI, 16, .inl (aN cnt))), (h2, .inl (cB, 208, .inl (aN mk)))] H → va_D A [(t0, .inr (2, [.ref t1, .int (nI q)])), (t1, .inl (cB, 400, .inl (aB f))), (h0, .inr (0, [.int (nI ty), .ref h1, .ref h2])), (h1, .inl (cI, 16, .inl (aN cnt))), (h2, .inl (cB, 208, .inl (aN mk)))] → va_S A s.heap H locs → W p l e rm_c_appendMaps_two s m ([.ref t0, .ref h0] : List Value).toArray below meth c H locs 0 0 Q (F0 m 13 ls []) := by
    intro fu
    induction fu with
    | zero => intro k q f hk hq hi hms; exact absurd hms (Nat.not_lt_zero _)
    | succ fu ih13 =>
      intro k q f hk hq hi hms H locs ls hl hP hD hS
      refine lv_iload hx hb dT_appendMaps_13 (lv_at hl 4 rfl) ?_
      refine lv_iload_n hx hb dT_appendMaps_15 rfl (lv_at hl 2 rfl) ?_
      refine lv_if_eq (tgt := 24) hx hb dT_appendMaps_16 (by decide) (fun q => False.elim (absurd q (by decide))) (fun c_16 => ?_)
      refine lv_bipush (v := nI 16) hx hb dT_appendMaps_19 (by decide) ?_
      refine lv_goto (tgt := 26) hx hb dT_appendMaps_21 (by decide) ?_
      refine zi_ge (tgt := 40) hx hb (by omega) (by omega) dT_appendMaps_26 (by decide) (fun c_26 => ?_) (fun c_26 => ?_)
      · have hi : f = apl tp len (List.replicate 16 0) := by have h9 := hi; rw [show 16 - k = 0 by omega] at h9; exact h9
        obtain rfl : k = 16 := by omega
        subst hi
        subst hq
        refine lv_iload_n hx hb dT_appendMaps_40 rfl (lv_at hl 2 rfl) ?_
        refine lv_if_eq (tgt := 52) hx hb dT_appendMaps_41 (by decide) (fun q => False.elim (absurd q (by decide))) (fun c_41 => ?_)
        refine lv_aload_n hx hb dT_appendMaps_44 rfl (lv_at hl 0 rfl) ?_
        refine lv_iload_n hx hb dT_appendMaps_45 rfl (lv_at hl 3 rfl) ?_
        refine lv_sipush (v := nI 128) hx hb dT_appendMaps_46 (by decide) ?_
        have hPc := hP.sub (ws' := [(t0, .inr (2, [.ref t1, .int (nI (len + 16))])), (t1, .inl (cB, 400, .inl (aB (apl tp len (List.replicate 16 0)))))]) [0, 1] rfl
        have hDc := hD.sub (ws' := [(t0, .inr (2, [.ref t1, .int (nI (len + 16))])), (t1, .inl (cB, 400, .inl (aB (apl tp len (List.replicate 16 0)))))]) [0, 1] (by decide) rfl
        have hFc := va_free (wc := [(t0, .inr (2, [.ref t1, .int (nI (len + 16))])), (t1, .inl (cB, 400, .inl (aB (apl tp len (List.replicate 16 0)))))]) hD hS hA [0, 1] rfl
        refine zc_Mv (va_runV (As := [.int (nI len), .int (nI 128)]) (rest := []) ⟨hx, hb, hml, hown, hw⟩ (c_T_flip l dC dI t0 t1 cI cB (len + 16) (apl tp len (List.replicate 16 0)) len 128 (by omega) H.size) (cwV 2 hw (gV w_ml_T_48 w_im_T_flip w_se_T_flip w_in_T w_co_T_flip) rfl rfl rfl (by decide +kernel) ⟨Nat.le_of_ble_eq_true rfl, Nat.le_of_ble_eq_true rfl⟩) (zM_V hG hS hFc hPc hDc hK 0 rfl rfl) rfl rfl hl.1 rfl (lv_room (Nat.le_of_ble_eq_true rfl)) dT_appendMaps_49 ⟨Nat.le_of_ble_eq_true rfl, Nat.le_of_ble_eq_true rfl⟩) hS hFc (fun H locs h_49 hP1 hD1 hk1 hS => ?_)
        obtain ⟨hP, hD⟩ := va_join (wr := [(h0, .inr (0, [.int (nI ty), .ref h1, .ref h2])), (h1, .inl (cI, 16, .inl (aN cnt))), (h2, .inl (cB, 208, .inl (aN mk)))]) (w1 := [(t0, .inr (2, [.ref t1, .int (nI (len + 16))])), (t1, .inl (cB, 400, .inl (aB (nup (apl tp len (List.replicate 16 0)) len ((apl tp len (List.replicate 16 0)) len ^^^ 128)))))]) hP hD [0, 1] [2, 3, 4] rfl rfl (by decide) (by decide) hk1 hFc hP1 hD1
        have hP : va_P (dC, dI) vwCl [(h0, .inr (0, [.int (nI ty), .ref h1, .ref h2])), (h1, .inl (cI, 16, .inl (aN cnt))), (h2, .inl (cB, 208, .inl (aN mk))), (t0, .inr (2, [.ref t1, .int (nI (len + 16))])), (t1, .inl (cB, 400, .inl (aB (nup (apl tp len (List.replicate 16 0)) len ((apl tp len (List.replicate 16 0)) len ^^^ 128)))))] H := hP
        have hD : va_D A [(h0, .inr (0, [.int (nI ty), .ref h1, .ref h2])), (h1, .inl (cI, 16, .inl (aN cnt))), (h2, .inl (cB, 208, .inl (aN mk))), (t0, .inr (2, [.ref t1, .int (nI (len + 16))])), (t1, .inl (cB, 400, .inl (aB (nup (apl tp len (List.replicate 16 0)) len ((apl tp len (List.replicate 16 0)) len ^^^ 128)))))] := hD
        refine lv_iconst (v := nI 0) hx hb dT_appendMaps_52 (by decide) ?_
        refine lv_istore (lv' := [(4, .int (nI 0)), (0, .ref t0), (1, .ref h0), (2, .int (nI 1)), (3, .int (nI len))]) hx hb dT_appendMaps_53 hl (by decide) rfl (fun ls hl => ?_)
        have lp_55 : ∀ (fu : Nat) (k : Nat) (f : Nat → Nat) (hk : k ≤ 16) (hi : mpS len cnt (16 - k) k f = mpS len cnt 16 0 (nup (apl tp len (List.replicate 16 0)) len ((apl tp len (List.replicate 16 0)) len ^^^ 128))) (hms : 16 - k < fu) (H : Heap) (locs : List Loc) (ls : Array Slot), lv_has ls 5 [(0, .ref t0), (1, .ref h0), (3, .int (nI len)), (4, .int (nI k))] → va_P (dC, dI) vwCl [(h0, .inr (0, [.int (nI ty), .ref h1, .ref h2])), (h1, .inl (cI, 16, .inl (aN cnt))), (h2, .inl (cB, 208, .inl (aN mk))), (t0, .inr (2, [.ref t1, .int (nI (len + 16))])), (t1, .inl (cB, 400, .inl (aB f)))] H → va_D A [(h0, .inr (0, [.int (nI ty), .ref h1, .ref h2])), (h1, .inl (cI, 16, .inl (aN cnt))), (h2, .inl (cB, 208, .inl (aN mk))), (t0, .inr (2, [.ref t1, .int (nI (len + 16))])), (t1, .inl (cB, 400, .inl (aB f)))] → va_S A s.heap H locs → W p l e rm_c_appendMaps_two s m ([.ref t0, .ref h0] : List Value).toArray below meth c H locs 0 0 Q (F0 m 55 ls []) := by
          intro fu
          induction fu with
          | zero => intro k f hk hi hms; exact absurd hms (Nat.not_lt_zero _)
          | succ fu ih55 =>
            intro k f hk hi hms H locs ls hl hP hD hS
            refine lv_iload hx hb dT_appendMaps_55 (lv_at hl 3 rfl) ?_
            refine lv_bipush (v := nI 16) hx hb dT_appendMaps_57 (by decide) ?_
            refine zi_ge (tgt := 101) hx hb (by omega) (by omega) dT_appendMaps_59 (by decide) (fun c_59 => ?_) (fun c_59 => ?_)
            · have hi : f = mpS len cnt 16 0 (nup (apl tp len (List.replicate 16 0)) len ((apl tp len (List.replicate 16 0)) len ^^^ 128)) := by have h9 := hi; rw [show 16 - k = 0 by omega] at h9; exact h9
              subst hi
              subst hAe
              subst hQ
              exact W.vret hx hb hr (fun t ht hW => ⟨⟨(), rfl, trivial, by rw [ht]; exact hP.sub [3, 4, 0, 1, 2] rfl, hD.sub [3, 4, 0, 1, 2] (by decide) rfl⟩, hS.F ht⟩) hS.2.2 dT_appendMaps_101
            · have hfi := fFI_b k (by omega)
              refine lv_aload_n hx hb dT_appendMaps_62 rfl (lv_at hl 1 rfl) ?_
              refine lv_iload hx hb dT_appendMaps_63 (lv_at hl 3 rfl) ?_
              refine zc_Ri (va_runV (As := [.int (nI k)]) (rest := []) ⟨hx, hb, hml, hown, hw⟩ (c_D_has l dC dI h0 h1 h2 cI cB ty cnt k (by omega) (hb9 k (by omega)) H) (cwV 1 hw (gV w_ml_T_32 w_im_D_has w_se_D_has w_in_D w_co_D_has) rfl rfl rfl (by decide +kernel) ⟨Nat.le_of_ble_eq_true rfl, Nat.le_of_ble_eq_true rfl⟩) (zR_V hG hS (hP.sub (ws' := [(h0, .inr (0, [.int (nI ty), .ref h1, .ref h2])), (h1, .inl (cI, 16, .inl (aN cnt)))]) [0, 1] rfl) hK 0 rfl rfl) rfl rfl hl.1 rfl (lv_room (Nat.le_of_ble_eq_true rfl)) dT_appendMaps_65 ⟨Nat.le_of_ble_eq_true rfl, Nat.le_of_ble_eq_true rfl⟩) hS (fun r_3 locs h_65 hS => ?_)
              subst h_65
              refine zi_eq0 (tgt := 95) hx hb (hz_lt _) dT_appendMaps_68 (by decide) (fun c_68 => ?_) (fun c_68 => ?_)
              · have h8 := hi
                rw [show 16 - k = 16 - (k + 1) + 1 by omega] at h8
                unfold mpS at h8
                rw [if_pos (hz_0.mp c_68)] at h8
                refine lv_iinc (v := nI (k + 1)) (lv' := [(4, .int (nI (k + 1))), (0, .ref t0), (1, .ref h0), (3, .int (nI len))]) hx hb dT_appendMaps_95 hl (k := 3) rfl (zi_incr k 1) (by decide) rfl (fun ls hl => ?_)
                refine lv_goto (tgt := 55) hx hb dT_appendMaps_98 (by decide) ?_
                exact ih55 (k + 1) f (by omega) h8 (by omega) _ _ _ (lv_sub hl [1, 2, 3, 0] rfl) (hP.sub [0, 1, 2, 3, 4] rfl) (hD.sub [0, 1, 2, 3, 4] (by decide) rfl) hS
              · refine lv_aload_n hx hb dT_appendMaps_71 rfl (lv_at hl 0 rfl) ?_
                refine lv_iload_n hx hb dT_appendMaps_72 rfl (lv_at hl 2 rfl) ?_
                refine va_getsN hx hb zfFI hS hown (va_Nw.use rfl (hG.nf (RT, 51, "FIELDS") (List.mem_of_getElem? (i := 0) rfl))) (fun _ h9 => h9) dT_appendMaps_73 ?_
                refine lv_iload hx hb dT_appendMaps_76 (lv_at hl 3 rfl) ?_
                refine za_tab hx hb afFI hS (by omega) (by decide) dT_appendMaps_78 ?_
                refine zc_Ri (va_runSN (As := [.int (nI (fFI k))]) (rest := [.int (nI len), .ref t0]) ⟨hx, hb, hml, hown, hw⟩ (c_C_mapByte l dC dI cI cB (fFI k) (by omega) (by omega) H) ⟨va_cnB 1 hw (gC w_co_C_mapByte) rfl rfl rfl (hG.nm (RT, 55, yC_mapByte) (List.mem_of_getElem? (i := 4) rfl)) (hw _ w_in_C) (by decide +kernel) ⟨Nat.le_of_ble_eq_true rfl, Nat.le_of_ble_eq_true rfl⟩, hw _ w_st_C_mapByte, trivial⟩ (zR_S hG hS (hP.sub (ws' := []) [] rfl) hK) rfl rfl hl.1 rfl (lv_room (Nat.le_of_ble_eq_true rfl)) dT_appendMaps_79 ⟨Nat.le_of_ble_eq_true rfl, Nat.le_of_ble_eq_true rfl⟩) hS (fun r_4 locs h_79 hS => ?_)
                subst h_79
                refine zi_add hx hb dT_appendMaps_82 ?_
                refine va_getsN hx hb zfFI hS hown (va_Nw.use rfl (hG.nf (RT, 51, "FIELDS") (List.mem_of_getElem? (i := 0) rfl))) (fun _ h9 => h9) dT_appendMaps_83 ?_
                refine lv_iload hx hb dT_appendMaps_86 (lv_at hl 3 rfl) ?_
                refine za_tab hx hb afFI hS (by omega) (by decide) dT_appendMaps_88 ?_
                refine zc_Ri (va_runSN (As := [.int (nI (fFI k))]) (rest := [.int (nI (len + (((fFI k) - 1) / 8))), .ref t0]) ⟨hx, hb, hml, hown, hw⟩ (c_C_mapBit l dC dI cI cB (fFI k) (by omega) (by omega) H) ⟨va_cnB 1 hw (gC w_co_C_mapBit) rfl rfl rfl (hG.nm (RT, 59, yC_mapBit) (List.mem_of_getElem? (i := 5) rfl)) (hw _ w_in_C) (by decide +kernel) ⟨Nat.le_of_ble_eq_true rfl, Nat.le_of_ble_eq_true rfl⟩, hw _ w_st_C_mapBit, trivial⟩ (zR_S hG hS (hP.sub (ws' := []) [] rfl) hK) rfl rfl hl.1 rfl (lv_room (Nat.le_of_ble_eq_true rfl)) dT_appendMaps_89 ⟨Nat.le_of_ble_eq_true rfl, Nat.le_of_ble_eq_true rfl⟩) hS (fun r_5 locs h_89 hS => ?_)
                subst h_89
                have hPc := hP.sub (ws' := [(t0, .inr (2, [.ref t1, .int (nI (len + 16))])), (t1, .inl (cB, 400, .inl (aB f)))]) [3, 4] rfl
                have hDc := hD.sub (ws' := [(t0, .inr (2, [.ref t1, .int (nI (len + 16))])), (t1, .inl (cB, 400, .inl (aB f)))]) [3, 4] (by decide) rfl
                have hFc := va_free (wc := [(t0, .inr (2, [.ref t1, .int (nI (len + 16))])), (t1, .inl (cB, 400, .inl (aB f)))]) hD hS hA [3, 4] rfl
                refine zc_Mv (va_runV (As := [.int (nI (len + (((fFI k) - 1) / 8))), .int (nI (128 / 2 ^ (((fFI k) - 1) % 8)))]) (rest := []) ⟨hx, hb, hml, hown, hw⟩ (c_T_flip l dC dI t0 t1 cI cB (len + 16) f (len + (((fFI k) - 1) / 8)) (128 / 2 ^ (((fFI k) - 1) % 8)) (by omega) H.size) (cwV 2 hw (gV w_ml_T_48 w_im_T_flip w_se_T_flip w_in_T w_co_T_flip) rfl rfl rfl (by decide +kernel) ⟨Nat.le_of_ble_eq_true rfl, Nat.le_of_ble_eq_true rfl⟩) (zM_V hG hS hFc hPc hDc hK 0 rfl rfl) rfl rfl hl.1 rfl (lv_room (Nat.le_of_ble_eq_true rfl)) dT_appendMaps_92 ⟨Nat.le_of_ble_eq_true rfl, Nat.le_of_ble_eq_true rfl⟩) hS hFc (fun H locs h_92 hP1 hD1 hk1 hS => ?_)
                obtain ⟨hP, hD⟩ := va_join (wr := [(h0, .inr (0, [.int (nI ty), .ref h1, .ref h2])), (h1, .inl (cI, 16, .inl (aN cnt))), (h2, .inl (cB, 208, .inl (aN mk)))]) (w1 := [(t0, .inr (2, [.ref t1, .int (nI (len + 16))])), (t1, .inl (cB, 400, .inl (aB (nup f (len + (((fFI k) - 1) / 8)) (f (len + (((fFI k) - 1) / 8)) ^^^ (128 / 2 ^ (((fFI k) - 1) % 8)))))))]) hP hD [3, 4] [0, 1, 2] rfl rfl (by decide) (by decide) hk1 hFc hP1 hD1
                have hP : va_P (dC, dI) vwCl [(h0, .inr (0, [.int (nI ty), .ref h1, .ref h2])), (h1, .inl (cI, 16, .inl (aN cnt))), (h2, .inl (cB, 208, .inl (aN mk))), (t0, .inr (2, [.ref t1, .int (nI (len + 16))])), (t1, .inl (cB, 400, .inl (aB (nup f (len + (((fFI k) - 1) / 8)) (f (len + (((fFI k) - 1) / 8)) ^^^ (128 / 2 ^ (((fFI k) - 1) % 8)))))))] H := hP
                have hD : va_D A [(h0, .inr (0, [.int (nI ty), .ref h1, .ref h2])), (h1, .inl (cI, 16, .inl (aN cnt))), (h2, .inl (cB, 208, .inl (aN mk))), (t0, .inr (2, [.ref t1, .int (nI (len + 16))])), (t1, .inl (cB, 400, .inl (aB (nup f (len + (((fFI k) - 1) / 8)) (f (len + (((fFI k) - 1) / 8)) ^^^ (128 / 2 ^ (((fFI k) - 1) % 8)))))))] := hD
                have h8 := hi
                rw [show 16 - k = 16 - (k + 1) + 1 by omega] at h8
                unfold mpS at h8
                rw [if_neg (fun z => c_68 (hz_0.mpr z))] at h8
                refine lv_iinc (v := nI (k + 1)) (lv' := [(4, .int (nI (k + 1))), (0, .ref t0), (1, .ref h0), (3, .int (nI len))]) hx hb dT_appendMaps_95 hl (k := 3) rfl (zi_incr k 1) (by decide) rfl (fun ls hl => ?_)
                refine lv_goto (tgt := 55) hx hb dT_appendMaps_98 (by decide) ?_
                exact ih55 (k + 1) (nup f (len + (((fFI k) - 1) / 8)) (f (len + (((fFI k) - 1) / 8)) ^^^ (128 / 2 ^ (((fFI k) - 1) % 8)))) (by omega) h8 (by omega) _ _ _ (lv_sub hl [1, 2, 3, 0] rfl) (hP.sub [0, 1, 2, 3, 4] rfl) (hD.sub [0, 1, 2, 3, 4] (by decide) rfl) hS
        exact lp_55 ((16 - 0) + 1) 0 (nup (apl tp len (List.replicate 16 0)) len ((apl tp len (List.replicate 16 0)) len ^^^ 128)) (by omega) rfl (Nat.lt_succ_self _) _ _ _ (lv_sub hl [1, 2, 4, 0] rfl) (hP.sub [0, 1, 2, 3, 4] rfl) (hD.sub [0, 1, 2, 3, 4] (by decide) rfl) hS
      · refine lv_aload_n hx hb dT_appendMaps_29 rfl (lv_at hl 0 rfl) ?_
        refine lv_iconst (v := nI 0) hx hb dT_appendMaps_30 (by decide) ?_
        have hPc := hP.sub (ws' := [(t0, .inr (2, [.ref t1, .int (nI q)])), (t1, .inl (cB, 400, .inl (aB f)))]) [0, 1] rfl
        have hDc := hD.sub (ws' := [(t0, .inr (2, [.ref t1, .int (nI q)])), (t1, .inl (cB, 400, .inl (aB f)))]) [0, 1] (by decide) rfl
        have hFc := va_free (wc := [(t0, .inr (2, [.ref t1, .int (nI q)])), (t1, .inl (cB, 400, .inl (aB f)))]) hD hS hA [0, 1] rfl
        refine zc_Mv (va_runV (As := [.int (nI 0)]) (rest := []) ⟨hx, hb, hml, hown, hw⟩ (c_T_append l dC dI t0 t1 cI cB q f 0 (by omega) H.size) (cwV 1 hw (gV w_ml_T_44 w_im_T_append w_se_T_append w_in_T w_co_T_append) rfl rfl rfl (by decide +kernel) ⟨Nat.le_of_ble_eq_true rfl, Nat.le_of_ble_eq_true rfl⟩) (zM_V hG hS hFc hPc hDc hK 0 rfl rfl) rfl rfl hl.1 rfl (lv_room (Nat.le_of_ble_eq_true rfl)) dT_appendMaps_31 ⟨Nat.le_of_ble_eq_true rfl, Nat.le_of_ble_eq_true rfl⟩) hS hFc (fun H locs h_31 hP1 hD1 hk1 hS => ?_)
        obtain ⟨hP, hD⟩ := va_join (wr := [(h0, .inr (0, [.int (nI ty), .ref h1, .ref h2])), (h1, .inl (cI, 16, .inl (aN cnt))), (h2, .inl (cB, 208, .inl (aN mk)))]) (w1 := [(t0, .inr (2, [.ref t1, .int (nI (q + 1))])), (t1, .inl (cB, 400, .inl (aB (nup f q 0))))]) hP hD [0, 1] [2, 3, 4] rfl rfl (by decide) (by decide) hk1 hFc hP1 hD1
        have hP : va_P (dC, dI) vwCl [(h0, .inr (0, [.int (nI ty), .ref h1, .ref h2])), (h1, .inl (cI, 16, .inl (aN cnt))), (h2, .inl (cB, 208, .inl (aN mk))), (t0, .inr (2, [.ref t1, .int (nI (q + 1))])), (t1, .inl (cB, 400, .inl (aB (nup f q 0))))] H := hP
        have hD : va_D A [(h0, .inr (0, [.int (nI ty), .ref h1, .ref h2])), (h1, .inl (cI, 16, .inl (aN cnt))), (h2, .inl (cB, 208, .inl (aN mk))), (t0, .inr (2, [.ref t1, .int (nI (q + 1))])), (t1, .inl (cB, 400, .inl (aB (nup f q 0))))] := hD
        refine lv_iinc (v := nI (k + 1)) (lv' := [(4, .int (nI (k + 1))), (0, .ref t0), (1, .ref h0), (2, .int (nI 1)), (3, .int (nI len))]) hx hb dT_appendMaps_34 hl (k := 4) rfl (zi_incr k 1) (by decide) rfl (fun ls hl => ?_)
        refine lv_goto (tgt := 13) hx hb dT_appendMaps_37 (by decide) ?_
        exact ih13 (k + 1) (q + 1) (nup f q 0) (by omega) (by omega) (by have h9 := hi; rw [show 16 - k = 16 - (k + 1) + 1 by omega] at h9; exact h9) (by omega) _ _ _ (lv_sub hl [1, 2, 3, 4, 0] rfl) (hP.sub [3, 4, 0, 1, 2] rfl) (hD.sub [3, 4, 0, 1, 2] (by decide) rfl) hS
  exact lp_13 ((16 - 0) + 1) 0 len tp (by omega) (by omega) rfl (Nat.lt_succ_self _) _ _ _ (lv_sub hl [3, 4, 2, 1, 0] rfl) (hP.sub [0, 1, 2, 3, 4] rfl) (hD.sub [0, 1, 2, 3, 4] (by decide) rfl) hS
def rm_c_appendMaps_one : Room := ({ frames := 2, cells := 0, slots := 0, locals := 42 } : Room)
set_option maxHeartbeats 4000000 in
set_option maxRecDepth 100000 in
theorem c_appendMaps_one (l : Launch) (dC : Nat → ClassId) (dI : Nat → Nat → Nat) (t0 : Nat) (t1 : Nat) (cI : ClassId) (cB : ClassId) (len : Nat) (tp : Nat → Nat) (h0 : Nat) (h1 : Nat) (h2 : Nat) (ty : Nat) (cnt : Nat → Nat) (mk : Nat → Nat) (hl9 : len + 16 ≤ 400) (hb9 : ∀ j, j < 16 → cnt j < 2 ^ 31) (hd : s2L cnt 16 0 = false) (sz : Nat) : Met l yT_appendMaps wsT_appendMaps rm_c_appendMaps_one (zM (dC, dI) [(cI, .int), (cB, .byte)] [.ref t0, .ref h0] [(t0, .inr (2, [.ref t1, .int (nI len)])), (t1, .inl (cB, 400, .inl (aB tp))), (h0, .inr (0, [.int (nI ty), .ref h1, .ref h2])), (h1, .inl (cI, 16, .inl (aN cnt))), (h2, .inl (cB, 208, .inl (aN mk)))] sz) (zMv (dC, dI) [(t0, .inr (2, [.ref t1, .int (nI len)])), (t1, .inl (cB, 400, .inl (aB tp))), (h0, .inr (0, [.int (nI ty), .ref h1, .ref h2])), (h1, .inl (cI, 16, .inl (aN cnt))), (h2, .inl (cB, 208, .inl (aN mk)))] [(t0, .inr (2, [.ref t1, .int (nI (len + 8))])), (t1, .inl (cB, 400, .inl (aB (mpS len cnt 16 0 (apl tp len (List.replicate 8 0)))))), (h0, .inr (0, [.int (nI ty), .ref h1, .ref h2])), (h1, .inl (cI, 16, .inl (aN cnt))), (h2, .inl (cB, 208, .inl (aN mk)))] sz (True)) 0 0 (va_A [(t0, .inr (2, [.ref t1, .int (nI len)])), (t1, .inl (cB, 400, .inl (aB tp))), (h0, .inr (0, [.int (nI ty), .ref h1, .ref h2])), (h1, .inl (cI, 16, .inl (aN cnt))), (h2, .inl (cB, 208, .inl (aN mk)))] sz) := by
  refine Met.ofW (cc := cT_appendMaps) (maxL := 5) (ret := none) (by decide) rfl ?_
  intro p e s m args below meth c s₁ Bd hml hv
  obtain ⟨rfl, hsz, hG, hP, hK, hD0⟩ := hv
  subst hsz
  have hx := Bd.exec
  have hb := Bd.bytes
  have hr := Bd.returns
  have hts := atoms_spec (ws := wsT_appendMaps) Bd.pre
  have hw : ∀ w ∈ BIG, w.before _ s = true := fun w h => hts w (List.mem_cons_of_mem _ h)
  have hown : s.vm.findClass RT = some m.cls := findClass_of_methodNamed Bd.named
  have hlocks := Bd.notSynchronized
  have hD := hD0.self (sz := s.heap.size)
  obtain ⟨A, hAe⟩ : ∃ A, A = va_A [(t0, .inr (2, [.ref t1, .int (nI len)])), (t1, .inl (cB, 400, .inl (aB tp))), (h0, .inr (0, [.int (nI ty), .ref h1, .ref h2])), (h1, .inl (cI, 16, .inl (aN cnt))), (h2, .inl (cB, 208, .inl (aN mk)))] s.heap.size := ⟨_, rfl⟩
  have hA : ∀ q : Nat, s.heap.size ≤ q → A q := fun q h => by rw [hAe]; exact Or.inr h
  rw [← hAe] at hG hD
  have hS : va_S A s.heap s.heap [] := va_S.rf
  have hl := lv_entry ([.ref t0, .ref h0]) (n := 5) (Nat.le_of_ble_eq_true rfl)
  rw [lg_entry_eq]
  generalize (lg_sl ([.ref t0, .ref h0]) ++ List.replicate (5 - (lg_sl ([.ref t0, .ref h0])).length) Slot.unset).toArray = ls at hl ⊢
  have hl : lv_has ls 5 [(0, .ref t0), (1, .ref h0)] := hl
  refine zq_name (fun Q hQ => ?_)
  change W p l e rm_c_appendMaps_one s m _ below meth c _ _ _ _ Q _
  obtain ⟨tfFI, zfFI, afFI⟩ := hG.FIELDS
  refine lv_aload_n hx hb dT_appendMaps_0 rfl (lv_at hl 1 rfl) ?_
  refine zc_Ri (va_runS (As := [.ref h0]) (rest := []) ⟨hx, hb, hml, hown, hw⟩ (c_has2_no l dC dI h0 h1 h2 cI cB ty cnt hb9 hd s.heap) (va_cwS 1 hw (gSt w_ml_T_40 w_st_T_hasFieldOfSecondMap w_in_T w_co_T_hasFieldOfSecondMap) rfl rfl rfl (by decide +kernel) ⟨Nat.le_of_ble_eq_true rfl, Nat.le_of_ble_eq_true rfl⟩) (zR_S hG hS (hP.sub (ws' := [(h0, .inr (0, [.int (nI ty), .ref h1, .ref h2])), (h1, .inl (cI, 16, .inl (aN cnt)))]) [2, 3] rfl) hK) rfl rfl hl.1 rfl (lv_room (Nat.le_of_ble_eq_true rfl)) dT_appendMaps_1 ⟨Nat.le_of_ble_eq_true rfl, Nat.le_of_ble_eq_true rfl⟩) hS (fun r_1 locs h_1 hS => ?_)
  subst h_1
  refine lv_istore_n (lv' := [(2, .int (nI 0)), (0, .ref t0), (1, .ref h0)]) hx hb dT_appendMaps_4 rfl hl (by decide) rfl (fun ls hl => ?_)
  refine lv_aload_n hx hb dT_appendMaps_5 rfl (lv_at hl 1 rfl) ?_
  refine va_get (D := (dC, dI)) (ci := 2) (v := .int (nI len)) (C := RT) (T := TT) (N := 2) hx hb hw inT hown hK hP 0 rfl rfl 1 (by decide) (hw _ w_fl_T_15) (fun _ h9 => h9) rfl dT_appendMaps_6 ?_
  refine lv_istore_n (lv' := [(3, .int (nI len)), (2, .int (nI 0)), (0, .ref t0), (1, .ref h0)]) hx hb dT_appendMaps_9 rfl hl (by decide) rfl (fun ls hl => ?_)
  refine lv_iconst (v := nI 0) hx hb dT_appendMaps_10 (by decide) ?_
  refine lv_istore (lv' := [(4, .int (nI 0)), (3, .int (nI len)), (2, .int (nI 0)), (0, .ref t0), (1, .ref h0)]) hx hb dT_appendMaps_11 hl (by decide) rfl (fun ls hl => ?_)
  have lp_13 : ∀ (fu : Nat) (k : Nat) (q : Nat) (f : Nat → Nat) (hk : k ≤ 8) (hq : q = len + k) (hi : apl f q (List.replicate (8 - k) 0) = apl tp len (List.replicate 8 0)) (hms : 8 - k < fu) (H : Heap) (locs : List Loc) (ls : Array Slot), lv_has ls 5 [(0, .ref t0), (1, .ref h0), (2, .int (nI 0)), (3, .int (nI len)), (4, .int (nI k))] → va_P (dC, dI) vwCl [(t0, .inr (2, [.ref t1, .int (nI q)])), (t1, .inl (cB, 400, .inl (aB f))), (h0, .inr (0, [.int (nI ty), .ref h1, .ref h2])), (h1, .inl (cI, 16, .inl (aN cnt))), (h2, .inl (cB, 208, .inl (aN mk)))] H → va_D A [(t0, .inr (2, [.ref t1, .int (nI q)])), (t1, .inl (cB, 400, .inl (aB f))), (h0, .inr (0, [.int (nI ty), .ref h1, .ref h2])), (h1, .inl (cI, 16, .inl (aN cnt))), (h2, .inl (cB, 208, .inl (aN mk)))] → va_S A s.heap H locs → W p l e rm_c_appendMaps_one s m ([.ref t0, .ref h0] : List Value).toArray below meth c H locs 0 0 Q (F0 m 13 ls []) := by
    intro fu
    induction fu with
    | zero => intro k q f hk hq hi hms; exact absurd hms (Nat.not_lt_zero _)
    | succ fu ih13 =>
      intro k q f hk hq hi hms H locs ls hl hP hD hS
      refine lv_iload hx hb dT_appendMaps_13 (lv_at hl 4 rfl) ?_
      refine lv_iload_n hx hb dT_appendMaps_15 rfl (lv_at hl 2 rfl) ?_
      refine lv_if_eq (tgt := 24) hx hb dT_appendMaps_16 (by decide) (fun c_16 => ?_) (fun q => False.elim (absurd q (by decide)))
      refine lv_bipush (v := nI 8) hx hb dT_appendMaps_24 (by decide) ?_
      refine zi_ge (tgt := 40) hx hb (by omega) (by omega) dT_appendMaps_26 (by decide) (fun c_26 => ?_) (fun c_26 => ?_)
      · have hi : f = apl tp len (List.replicate 8 0) := by have h9 := hi; rw [show 8 - k = 0 by omega] at h9; exact h9
        obtain rfl : k = 8 := by omega
        subst hi
        subst hq
        refine lv_iload_n hx hb dT_appendMaps_40 rfl (lv_at hl 2 rfl) ?_
        refine lv_if_eq (tgt := 52) hx hb dT_appendMaps_41 (by decide) (fun c_41 => ?_) (fun q => False.elim (absurd q (by decide)))
        refine lv_iconst (v := nI 0) hx hb dT_appendMaps_52 (by decide) ?_
        refine lv_istore (lv' := [(4, .int (nI 0)), (0, .ref t0), (1, .ref h0), (2, .int (nI 0)), (3, .int (nI len))]) hx hb dT_appendMaps_53 hl (by decide) rfl (fun ls hl => ?_)
        have lp_55 : ∀ (fu : Nat) (k : Nat) (f : Nat → Nat) (hk : k ≤ 16) (hi : mpS len cnt (16 - k) k f = mpS len cnt 16 0 (apl tp len (List.replicate 8 0))) (hms : 16 - k < fu) (H : Heap) (locs : List Loc) (ls : Array Slot), lv_has ls 5 [(0, .ref t0), (1, .ref h0), (3, .int (nI len)), (4, .int (nI k))] → va_P (dC, dI) vwCl [(t0, .inr (2, [.ref t1, .int (nI (len + 8))])), (t1, .inl (cB, 400, .inl (aB f))), (h0, .inr (0, [.int (nI ty), .ref h1, .ref h2])), (h1, .inl (cI, 16, .inl (aN cnt))), (h2, .inl (cB, 208, .inl (aN mk)))] H → va_D A [(t0, .inr (2, [.ref t1, .int (nI (len + 8))])), (t1, .inl (cB, 400, .inl (aB f))), (h0, .inr (0, [.int (nI ty), .ref h1, .ref h2])), (h1, .inl (cI, 16, .inl (aN cnt))), (h2, .inl (cB, 208, .inl (aN mk)))] → va_S A s.heap H locs → W p l e rm_c_appendMaps_one s m ([.ref t0, .ref h0] : List Value).toArray below meth c H locs 0 0 Q (F0 m 55 ls []) := by
          intro fu
          induction fu with
          | zero => intro k f hk hi hms; exact absurd hms (Nat.not_lt_zero _)
          | succ fu ih55 =>
            intro k f hk hi hms H locs ls hl hP hD hS
            refine lv_iload hx hb dT_appendMaps_55 (lv_at hl 3 rfl) ?_
            refine lv_bipush (v := nI 16) hx hb dT_appendMaps_57 (by decide) ?_
            refine zi_ge (tgt := 101) hx hb (by omega) (by omega) dT_appendMaps_59 (by decide) (fun c_59 => ?_) (fun c_59 => ?_)
            · have hi : f = mpS len cnt 16 0 (apl tp len (List.replicate 8 0)) := by have h9 := hi; rw [show 16 - k = 0 by omega] at h9; exact h9
              subst hi
              subst hAe
              subst hQ
              exact W.vret hx hb hr (fun t ht hW => ⟨⟨(), rfl, trivial, by rw [ht]; exact hP.sub [0, 1, 2, 3, 4] rfl, hD.sub [0, 1, 2, 3, 4] (by decide) rfl⟩, hS.F ht⟩) hS.2.2 dT_appendMaps_101
            · have hfi := fFI_b k (by omega)
              refine lv_aload_n hx hb dT_appendMaps_62 rfl (lv_at hl 1 rfl) ?_
              refine lv_iload hx hb dT_appendMaps_63 (lv_at hl 3 rfl) ?_
              refine zc_Ri (va_runV (As := [.int (nI k)]) (rest := []) ⟨hx, hb, hml, hown, hw⟩ (c_D_has l dC dI h0 h1 h2 cI cB ty cnt k (by omega) (hb9 k (by omega)) H) (cwV 1 hw (gV w_ml_T_32 w_im_D_has w_se_D_has w_in_D w_co_D_has) rfl rfl rfl (by decide +kernel) ⟨Nat.le_of_ble_eq_true rfl, Nat.le_of_ble_eq_true rfl⟩) (zR_V hG hS (hP.sub (ws' := [(h0, .inr (0, [.int (nI ty), .ref h1, .ref h2])), (h1, .inl (cI, 16, .inl (aN cnt)))]) [2, 3] rfl) hK 0 rfl rfl) rfl rfl hl.1 rfl (lv_room (Nat.le_of_ble_eq_true rfl)) dT_appendMaps_65 ⟨Nat.le_of_ble_eq_true rfl, Nat.le_of_ble_eq_true rfl⟩) hS (fun r_2 locs h_65 hS => ?_)
              subst h_65
              refine zi_eq0 (tgt := 95) hx hb (hz_lt _) dT_appendMaps_68 (by decide) (fun c_68 => ?_) (fun c_68 => ?_)
              · have h8 := hi
                rw [show 16 - k = 16 - (k + 1) + 1 by omega] at h8
                unfold mpS at h8
                rw [if_pos (hz_0.mp c_68)] at h8
                refine lv_iinc (v := nI (k + 1)) (lv' := [(4, .int (nI (k + 1))), (0, .ref t0), (1, .ref h0), (3, .int (nI len))]) hx hb dT_appendMaps_95 hl (k := 3) rfl (zi_incr k 1) (by decide) rfl (fun ls hl => ?_)
                refine lv_goto (tgt := 55) hx hb dT_appendMaps_98 (by decide) ?_
                exact ih55 (k + 1) f (by omega) h8 (by omega) _ _ _ (lv_sub hl [1, 2, 3, 0] rfl) (hP.sub [0, 1, 2, 3, 4] rfl) (hD.sub [0, 1, 2, 3, 4] (by decide) rfl) hS
              · refine lv_aload_n hx hb dT_appendMaps_71 rfl (lv_at hl 0 rfl) ?_
                refine lv_iload_n hx hb dT_appendMaps_72 rfl (lv_at hl 2 rfl) ?_
                refine va_getsN hx hb zfFI hS hown (va_Nw.use rfl (hG.nf (RT, 51, "FIELDS") (List.mem_of_getElem? (i := 0) rfl))) (fun _ h9 => h9) dT_appendMaps_73 ?_
                refine lv_iload hx hb dT_appendMaps_76 (lv_at hl 3 rfl) ?_
                refine za_tab hx hb afFI hS (by omega) (by decide) dT_appendMaps_78 ?_
                refine zc_Ri (va_runSN (As := [.int (nI (fFI k))]) (rest := [.int (nI len), .ref t0]) ⟨hx, hb, hml, hown, hw⟩ (c_C_mapByte l dC dI cI cB (fFI k) (by omega) (by omega) H) ⟨va_cnB 1 hw (gC w_co_C_mapByte) rfl rfl rfl (hG.nm (RT, 55, yC_mapByte) (List.mem_of_getElem? (i := 4) rfl)) (hw _ w_in_C) (by decide +kernel) ⟨Nat.le_of_ble_eq_true rfl, Nat.le_of_ble_eq_true rfl⟩, hw _ w_st_C_mapByte, trivial⟩ (zR_S hG hS (hP.sub (ws' := []) [] rfl) hK) rfl rfl hl.1 rfl (lv_room (Nat.le_of_ble_eq_true rfl)) dT_appendMaps_79 ⟨Nat.le_of_ble_eq_true rfl, Nat.le_of_ble_eq_true rfl⟩) hS (fun r_3 locs h_79 hS => ?_)
                subst h_79
                refine zi_add hx hb dT_appendMaps_82 ?_
                refine va_getsN hx hb zfFI hS hown (va_Nw.use rfl (hG.nf (RT, 51, "FIELDS") (List.mem_of_getElem? (i := 0) rfl))) (fun _ h9 => h9) dT_appendMaps_83 ?_
                refine lv_iload hx hb dT_appendMaps_86 (lv_at hl 3 rfl) ?_
                refine za_tab hx hb afFI hS (by omega) (by decide) dT_appendMaps_88 ?_
                refine zc_Ri (va_runSN (As := [.int (nI (fFI k))]) (rest := [.int (nI (len + (((fFI k) - 1) / 8))), .ref t0]) ⟨hx, hb, hml, hown, hw⟩ (c_C_mapBit l dC dI cI cB (fFI k) (by omega) (by omega) H) ⟨va_cnB 1 hw (gC w_co_C_mapBit) rfl rfl rfl (hG.nm (RT, 59, yC_mapBit) (List.mem_of_getElem? (i := 5) rfl)) (hw _ w_in_C) (by decide +kernel) ⟨Nat.le_of_ble_eq_true rfl, Nat.le_of_ble_eq_true rfl⟩, hw _ w_st_C_mapBit, trivial⟩ (zR_S hG hS (hP.sub (ws' := []) [] rfl) hK) rfl rfl hl.1 rfl (lv_room (Nat.le_of_ble_eq_true rfl)) dT_appendMaps_89 ⟨Nat.le_of_ble_eq_true rfl, Nat.le_of_ble_eq_true rfl⟩) hS (fun r_4 locs h_89 hS => ?_)
                subst h_89
                have hPc := hP.sub (ws' := [(t0, .inr (2, [.ref t1, .int (nI (len + 8))])), (t1, .inl (cB, 400, .inl (aB f)))]) [0, 1] rfl
                have hDc := hD.sub (ws' := [(t0, .inr (2, [.ref t1, .int (nI (len + 8))])), (t1, .inl (cB, 400, .inl (aB f)))]) [0, 1] (by decide) rfl
                have hFc := va_free (wc := [(t0, .inr (2, [.ref t1, .int (nI (len + 8))])), (t1, .inl (cB, 400, .inl (aB f)))]) hD hS hA [0, 1] rfl
                refine zc_Mv (va_runV (As := [.int (nI (len + (((fFI k) - 1) / 8))), .int (nI (128 / 2 ^ (((fFI k) - 1) % 8)))]) (rest := []) ⟨hx, hb, hml, hown, hw⟩ (c_T_flip l dC dI t0 t1 cI cB (len + 8) f (len + (((fFI k) - 1) / 8)) (128 / 2 ^ (((fFI k) - 1) % 8)) (by omega) H.size) (cwV 2 hw (gV w_ml_T_48 w_im_T_flip w_se_T_flip w_in_T w_co_T_flip) rfl rfl rfl (by decide +kernel) ⟨Nat.le_of_ble_eq_true rfl, Nat.le_of_ble_eq_true rfl⟩) (zM_V hG hS hFc hPc hDc hK 0 rfl rfl) rfl rfl hl.1 rfl (lv_room (Nat.le_of_ble_eq_true rfl)) dT_appendMaps_92 ⟨Nat.le_of_ble_eq_true rfl, Nat.le_of_ble_eq_true rfl⟩) hS hFc (fun H locs h_92 hP1 hD1 hk1 hS => ?_)
                obtain ⟨hP, hD⟩ := va_join (wr := [(h0, .inr (0, [.int (nI ty), .ref h1, .ref h2])), (h1, .inl (cI, 16, .inl (aN cnt))), (h2, .inl (cB, 208, .inl (aN mk)))]) (w1 := [(t0, .inr (2, [.ref t1, .int (nI (len + 8))])), (t1, .inl (cB, 400, .inl (aB (nup f (len + (((fFI k) - 1) / 8)) (f (len + (((fFI k) - 1) / 8)) ^^^ (128 / 2 ^ (((fFI k) - 1) % 8)))))))]) hP hD [0, 1] [2, 3, 4] rfl rfl (by decide) (by decide) hk1 hFc hP1 hD1
                have hP : va_P (dC, dI) vwCl [(h0, .inr (0, [.int (nI ty), .ref h1, .ref h2])), (h1, .inl (cI, 16, .inl (aN cnt))), (h2, .inl (cB, 208, .inl (aN mk))), (t0, .inr (2, [.ref t1, .int (nI (len + 8))])), (t1, .inl (cB, 400, .inl (aB (nup f (len + (((fFI k) - 1) / 8)) (f (len + (((fFI k) - 1) / 8)) ^^^ (128 / 2 ^ (((fFI k) - 1) % 8)))))))] H := hP
                have hD : va_D A [(h0, .inr (0, [.int (nI ty), .ref h1, .ref h2])), (h1, .inl (cI, 16, .inl (aN cnt))), (h2, .inl (cB, 208, .inl (aN mk))), (t0, .inr (2, [.ref t1, .int (nI (len + 8))])), (t1, .inl (cB, 400, .inl (aB (nup f (len + (((fFI k) - 1) / 8)) (f (len + (((fFI k) - 1) / 8)) ^^^ (128 / 2 ^ (((fFI k) - 1) % 8)))))))] := hD
                have h8 := hi
                rw [show 16 - k = 16 - (k + 1) + 1 by omega] at h8
                unfold mpS at h8
                rw [if_neg (fun z => c_68 (hz_0.mpr z))] at h8
                refine lv_iinc (v := nI (k + 1)) (lv' := [(4, .int (nI (k + 1))), (0, .ref t0), (1, .ref h0), (3, .int (nI len))]) hx hb dT_appendMaps_95 hl (k := 3) rfl (zi_incr k 1) (by decide) rfl (fun ls hl => ?_)
                refine lv_goto (tgt := 55) hx hb dT_appendMaps_98 (by decide) ?_
                exact ih55 (k + 1) (nup f (len + (((fFI k) - 1) / 8)) (f (len + (((fFI k) - 1) / 8)) ^^^ (128 / 2 ^ (((fFI k) - 1) % 8)))) (by omega) h8 (by omega) _ _ _ (lv_sub hl [1, 2, 3, 0] rfl) (hP.sub [3, 4, 0, 1, 2] rfl) (hD.sub [3, 4, 0, 1, 2] (by decide) rfl) hS
        exact lp_55 ((16 - 0) + 1) 0 (apl tp len (List.replicate 8 0)) (by omega) rfl (Nat.lt_succ_self _) _ _ _ (lv_sub hl [1, 2, 4, 0] rfl) (hP.sub [0, 1, 2, 3, 4] rfl) (hD.sub [0, 1, 2, 3, 4] (by decide) rfl) hS
      · refine lv_aload_n hx hb dT_appendMaps_29 rfl (lv_at hl 0 rfl) ?_
        refine lv_iconst (v := nI 0) hx hb dT_appendMaps_30 (by decide) ?_
        have hPc := hP.sub (ws' := [(t0, .inr (2, [.ref t1, .int (nI q)])), (t1, .inl (cB, 400, .inl (aB f)))]) [0, 1] rfl
        have hDc := hD.sub (ws' := [(t0, .inr (2, [.ref t1, .int (nI q)])), (t1, .inl (cB, 400, .inl (aB f)))]) [0, 1] (by decide) rfl
        have hFc := va_free (wc := [(t0, .inr (2, [.ref t1, .int (nI q)])), (t1, .inl (cB, 400, .inl (aB f)))]) hD hS hA [0, 1] rfl
        refine zc_Mv (va_runV (As := [.int (nI 0)]) (rest := []) ⟨hx, hb, hml, hown, hw⟩ (c_T_append l dC dI t0 t1 cI cB q f 0 (by omega) H.size) (cwV 1 hw (gV w_ml_T_44 w_im_T_append w_se_T_append w_in_T w_co_T_append) rfl rfl rfl (by decide +kernel) ⟨Nat.le_of_ble_eq_true rfl, Nat.le_of_ble_eq_true rfl⟩) (zM_V hG hS hFc hPc hDc hK 0 rfl rfl) rfl rfl hl.1 rfl (lv_room (Nat.le_of_ble_eq_true rfl)) dT_appendMaps_31 ⟨Nat.le_of_ble_eq_true rfl, Nat.le_of_ble_eq_true rfl⟩) hS hFc (fun H locs h_31 hP1 hD1 hk1 hS => ?_)
        obtain ⟨hP, hD⟩ := va_join (wr := [(h0, .inr (0, [.int (nI ty), .ref h1, .ref h2])), (h1, .inl (cI, 16, .inl (aN cnt))), (h2, .inl (cB, 208, .inl (aN mk)))]) (w1 := [(t0, .inr (2, [.ref t1, .int (nI (q + 1))])), (t1, .inl (cB, 400, .inl (aB (nup f q 0))))]) hP hD [0, 1] [2, 3, 4] rfl rfl (by decide) (by decide) hk1 hFc hP1 hD1
        have hP : va_P (dC, dI) vwCl [(h0, .inr (0, [.int (nI ty), .ref h1, .ref h2])), (h1, .inl (cI, 16, .inl (aN cnt))), (h2, .inl (cB, 208, .inl (aN mk))), (t0, .inr (2, [.ref t1, .int (nI (q + 1))])), (t1, .inl (cB, 400, .inl (aB (nup f q 0))))] H := hP
        have hD : va_D A [(h0, .inr (0, [.int (nI ty), .ref h1, .ref h2])), (h1, .inl (cI, 16, .inl (aN cnt))), (h2, .inl (cB, 208, .inl (aN mk))), (t0, .inr (2, [.ref t1, .int (nI (q + 1))])), (t1, .inl (cB, 400, .inl (aB (nup f q 0))))] := hD
        refine lv_iinc (v := nI (k + 1)) (lv' := [(4, .int (nI (k + 1))), (0, .ref t0), (1, .ref h0), (2, .int (nI 0)), (3, .int (nI len))]) hx hb dT_appendMaps_34 hl (k := 4) rfl (zi_incr k 1) (by decide) rfl (fun ls hl => ?_)
        refine lv_goto (tgt := 13) hx hb dT_appendMaps_37 (by decide) ?_
        exact ih13 (k + 1) (q + 1) (nup f q 0) (by omega) (by omega) (by have h9 := hi; rw [show 8 - k = 8 - (k + 1) + 1 by omega] at h9; exact h9) (by omega) _ _ _ (lv_sub hl [1, 2, 3, 4, 0] rfl) (hP.sub [3, 4, 0, 1, 2] rfl) (hD.sub [3, 4, 0, 1, 2] (by decide) rfl) hS
  exact lp_13 ((8 - 0) + 1) 0 len tp (by omega) (by omega) rfl (Nat.lt_succ_self _) _ _ _ (lv_sub hl [3, 4, 2, 1, 0] rfl) (hP.sub [0, 1, 2, 3, 4] rfl) (hD.sub [0, 1, 2, 3, 4] (by decide) rfl) hS
def rm_c_write_two : Room := ({ frames := 4, cells := 0, slots := 0, locals := 91 } : Room)
set_option maxHeartbeats 4000000 in
set_option maxRecDepth 100000 in
theorem c_write_two (l : Launch) (dC : Nat → ClassId) (dI : Nat → Nat → Nat) (t0 : Nat) (t1 : Nat) (cI : ClassId) (cB : ClassId) (len : Nat) (tp : Nat → Nat) (h0 : Nat) (h1 : Nat) (h2 : Nat) (ty : Nat) (cnt : Nat → Nat) (mk : Nat → Nat) (hty : ty < 10000) (hct : ∀ j, j < 16 → cnt j ≤ fMM j) (hm : ∀ j, mk j < 128) (hg : ∀ sl, sl < 16 → fHL sl = 0 → ∀ j, j < cnt sl → mk (fFM sl + j) < 16) (hd : s2L cnt 16 0 = true) (sz : Nat) : Met l yT_write wsT_write rm_c_write_two (zM (dC, dI) [(cI, .int), (cB, .byte)] [.ref t0, .ref h0] [(t0, .inr (2, [.ref t1, .int (nI len)])), (t1, .inl (cB, 400, .inl (aB tp))), (h0, .inr (0, [.int (nI ty), .ref h1, .ref h2])), (h1, .inl (cI, 16, .inl (aN cnt))), (h2, .inl (cB, 208, .inl (aN mk)))] sz) (zMv (dC, dI) [(t0, .inr (2, [.ref t1, .int (nI len)])), (t1, .inl (cB, 400, .inl (aB tp))), (h0, .inr (0, [.int (nI ty), .ref h1, .ref h2])), (h1, .inl (cI, 16, .inl (aN cnt))), (h2, .inl (cB, 208, .inl (aN mk)))] [(t0, .inr (2, [.ref t1, .int (nI (18 + (flB cnt mk 16 0).length))])), (t1, .inl (cB, 400, .inl (aB (apl (mpS 2 cnt 16 0 (nup (apl (apl tp 0 (anb ty 4)) 2 (List.replicate 16 0)) 2 ((apl (apl tp 0 (anb ty 4)) 2 (List.replicate 16 0)) 2 ^^^ 128))) 18 (flB cnt mk 16 0))))), (h0, .inr (0, [.int (nI ty), .ref h1, .ref h2])), (h1, .inl (cI, 16, .inl (aN cnt))), (h2, .inl (cB, 208, .inl (aN mk)))] sz (True)) 0 0 (va_A [(t0, .inr (2, [.ref t1, .int (nI len)])), (t1, .inl (cB, 400, .inl (aB tp))), (h0, .inr (0, [.int (nI ty), .ref h1, .ref h2])), (h1, .inl (cI, 16, .inl (aN cnt))), (h2, .inl (cB, 208, .inl (aN mk)))] sz) := by
  refine Met.ofW (cc := cT_write) (maxL := 3) (ret := none) (by decide) rfl ?_
  intro p e s m args below meth c s₁ Bd hml hv
  obtain ⟨rfl, hsz, hG, hP, hK, hD0⟩ := hv
  subst hsz
  have hx := Bd.exec
  have hb := Bd.bytes
  have hr := Bd.returns
  have hts := atoms_spec (ws := wsT_write) Bd.pre
  have hw : ∀ w ∈ BIG, w.before _ s = true := fun w h => hts w (List.mem_cons_of_mem _ h)
  have hown : s.vm.findClass RT = some m.cls := findClass_of_methodNamed Bd.named
  have hlocks := Bd.notSynchronized
  have hD := hD0.self (sz := s.heap.size)
  obtain ⟨A, hAe⟩ : ∃ A, A = va_A [(t0, .inr (2, [.ref t1, .int (nI len)])), (t1, .inl (cB, 400, .inl (aB tp))), (h0, .inr (0, [.int (nI ty), .ref h1, .ref h2])), (h1, .inl (cI, 16, .inl (aN cnt))), (h2, .inl (cB, 208, .inl (aN mk)))] s.heap.size := ⟨_, rfl⟩
  have hA : ∀ q : Nat, s.heap.size ≤ q → A q := fun q h => by rw [hAe]; exact Or.inr h
  rw [← hAe] at hG hD
  have hS : va_S A s.heap s.heap [] := va_S.rf
  have hl := lv_entry ([.ref t0, .ref h0]) (n := 3) (Nat.le_of_ble_eq_true rfl)
  rw [lg_entry_eq]
  generalize (lg_sl ([.ref t0, .ref h0]) ++ List.replicate (3 - (lg_sl ([.ref t0, .ref h0])).length) Slot.unset).toArray = ls at hl ⊢
  have hl : lv_has ls 3 [(0, .ref t0), (1, .ref h0)] := hl
  refine zq_name (fun Q hQ => ?_)
  change W p l e rm_c_write_two s m _ below meth c _ _ _ _ Q _
  have hb9 : ∀ j, j < 16 → cnt j < 2 ^ 31 := fun j hj => by have := hct j hj; have := (fMM_b j hj).2; omega
  refine lv_aload_n hx hb dT_write_0 rfl (lv_at hl 0 rfl) ?_
  refine lv_iconst (v := nI 0) hx hb dT_write_1 (by decide) ?_
  refine va_put (D := (dC, dI)) (ci := 2) (v := .int (nI 0)) (ty := .int) (C := RT) (T := TT) (N := 2) hx hb hw inT tyT tyT_ok nmT hown hK hP hD hS 0 rfl rfl 1 (by decide) (hw _ w_fl_T_15) (fun _ h9 => h9) rfl (by decide +kernel) rfl rfl (Nat.le_of_ble_eq_true rfl) dT_write_2 (fun H locs hP hD hS => ?_)
  have hP : va_P (dC, dI) vwCl [(t0, .inr (2, [.ref t1, .int (nI 0)])), (t1, .inl (cB, 400, .inl (aB tp))), (h0, .inr (0, [.int (nI ty), .ref h1, .ref h2])), (h1, .inl (cI, 16, .inl (aN cnt))), (h2, .inl (cB, 208, .inl (aN mk)))] H := hP
  have hD : va_D A [(t0, .inr (2, [.ref t1, .int (nI 0)])), (t1, .inl (cB, 400, .inl (aB tp))), (h0, .inr (0, [.int (nI ty), .ref h1, .ref h2])), (h1, .inl (cI, 16, .inl (aN cnt))), (h2, .inl (cB, 208, .inl (aN mk)))] := hD
  refine lv_aload_n hx hb dT_write_5 rfl (lv_at hl 0 rfl) ?_
  refine lv_aload_n hx hb dT_write_6 rfl (lv_at hl 1 rfl) ?_
  refine va_get (D := (dC, dI)) (ci := 0) (v := .int (nI ty)) (C := RD) (T := TD) (N := 3) hx hb hw inD hown hK hP 2 rfl rfl 0 (by decide) (hw _ w_fl_T_19) (fun _ h9 => h9) rfl dT_write_7 ?_
  refine lv_iconst (v := nI 4) hx hb dT_write_10 (by decide) ?_
  have hPc := hP.sub (ws' := [(t0, .inr (2, [.ref t1, .int (nI 0)])), (t1, .inl (cB, 400, .inl (aB tp)))]) [0, 1] rfl
  have hDc := hD.sub (ws' := [(t0, .inr (2, [.ref t1, .int (nI 0)])), (t1, .inl (cB, 400, .inl (aB tp)))]) [0, 1] (by decide) rfl
  have hFc := va_free (wc := [(t0, .inr (2, [.ref t1, .int (nI 0)])), (t1, .inl (cB, 400, .inl (aB tp)))]) hD hS hA [0, 1] rfl
  refine zc_Mv (va_runV (As := [.int (nI ty), .int (nI 4)]) (rest := []) ⟨hx, hb, hml, hown, hw⟩ (c_T_appendNumber l dC dI t0 t1 cI cB 0 tp ty 4 (by omega) (by omega) (by omega) H.size) (cwV 2 hw (gV w_ml_T_24 w_im_T_appendNumber w_se_T_appendNumber w_in_T w_co_T_appendNumber) rfl rfl rfl (by decide +kernel) ⟨Nat.le_of_ble_eq_true rfl, Nat.le_of_ble_eq_true rfl⟩) (zM_V hG hS hFc hPc hDc hK 0 rfl rfl) rfl rfl hl.1 rfl (lv_room (Nat.le_of_ble_eq_true rfl)) dT_write_11 ⟨Nat.le_of_ble_eq_true rfl, Nat.le_of_ble_eq_true rfl⟩) hS hFc (fun H locs h_11 hP1 hD1 hk1 hS => ?_)
  obtain ⟨hP, hD⟩ := va_join (wr := [(h0, .inr (0, [.int (nI ty), .ref h1, .ref h2])), (h1, .inl (cI, 16, .inl (aN cnt))), (h2, .inl (cB, 208, .inl (aN mk)))]) (w1 := [(t0, .inr (2, [.ref t1, .int (nI (0 + (anb ty 4).length))])), (t1, .inl (cB, 400, .inl (aB (apl tp 0 (anb ty 4)))))]) hP hD [0, 1] [2, 3, 4] rfl rfl (by decide) (by decide) hk1 hFc hP1 hD1
  have hP : va_P (dC, dI) vwCl [(h0, .inr (0, [.int (nI ty), .ref h1, .ref h2])), (h1, .inl (cI, 16, .inl (aN cnt))), (h2, .inl (cB, 208, .inl (aN mk))), (t0, .inr (2, [.ref t1, .int (nI (0 + (anb ty 4).length))])), (t1, .inl (cB, 400, .inl (aB (apl tp 0 (anb ty 4)))))] H := hP
  have hD : va_D A [(h0, .inr (0, [.int (nI ty), .ref h1, .ref h2])), (h1, .inl (cI, 16, .inl (aN cnt))), (h2, .inl (cB, 208, .inl (aN mk))), (t0, .inr (2, [.ref t1, .int (nI (0 + (anb ty 4).length))])), (t1, .inl (cB, 400, .inl (aB (apl tp 0 (anb ty 4)))))] := hD
  have e9 : (anb ty 4).length = 2 := rfl
  rw [e9] at hP hD
  have hP : va_P (dC, dI) vwCl [(h0, .inr (0, [.int (nI ty), .ref h1, .ref h2])), (h1, .inl (cI, 16, .inl (aN cnt))), (h2, .inl (cB, 208, .inl (aN mk))), (t0, .inr (2, [.ref t1, .int (nI 2)])), (t1, .inl (cB, 400, .inl (aB (apl tp 0 (anb ty 4)))))] H := hP
  have hD : va_D A [(h0, .inr (0, [.int (nI ty), .ref h1, .ref h2])), (h1, .inl (cI, 16, .inl (aN cnt))), (h2, .inl (cB, 208, .inl (aN mk))), (t0, .inr (2, [.ref t1, .int (nI 2)])), (t1, .inl (cB, 400, .inl (aB (apl tp 0 (anb ty 4)))))] := hD
  refine lv_aload_n hx hb dT_write_14 rfl (lv_at hl 0 rfl) ?_
  refine lv_aload_n hx hb dT_write_15 rfl (lv_at hl 1 rfl) ?_
  have hPc := hP.sub (ws' := [(t0, .inr (2, [.ref t1, .int (nI 2)])), (t1, .inl (cB, 400, .inl (aB (apl tp 0 (anb ty 4))))), (h0, .inr (0, [.int (nI ty), .ref h1, .ref h2])), (h1, .inl (cI, 16, .inl (aN cnt))), (h2, .inl (cB, 208, .inl (aN mk)))]) [3, 4, 0, 1, 2] rfl
  have hDc := hD.sub (ws' := [(t0, .inr (2, [.ref t1, .int (nI 2)])), (t1, .inl (cB, 400, .inl (aB (apl tp 0 (anb ty 4))))), (h0, .inr (0, [.int (nI ty), .ref h1, .ref h2])), (h1, .inl (cI, 16, .inl (aN cnt))), (h2, .inl (cB, 208, .inl (aN mk)))]) [3, 4, 0, 1, 2] (by decide) rfl
  have hFc := va_free (wc := [(t0, .inr (2, [.ref t1, .int (nI 2)])), (t1, .inl (cB, 400, .inl (aB (apl tp 0 (anb ty 4))))), (h0, .inr (0, [.int (nI ty), .ref h1, .ref h2])), (h1, .inl (cI, 16, .inl (aN cnt))), (h2, .inl (cB, 208, .inl (aN mk)))]) hD hS hA [3, 4, 0, 1, 2] rfl
  refine zc_Mv (va_runV (As := [.ref h0]) (rest := []) ⟨hx, hb, hml, hown, hw⟩ (c_appendMaps_two l dC dI t0 t1 cI cB 2 (apl tp 0 (anb ty 4)) h0 h1 h2 ty cnt mk (by omega) hb9 hd H.size) (cwV 1 hw (gV w_ml_T_28 w_im_T_appendMaps w_se_T_appendMaps w_in_T w_co_T_appendMaps) rfl rfl rfl (by decide +kernel) ⟨Nat.le_of_ble_eq_true rfl, Nat.le_of_ble_eq_true rfl⟩) (zM_V hG hS hFc hPc hDc hK 0 rfl rfl) rfl rfl hl.1 rfl (lv_room (Nat.le_of_ble_eq_true rfl)) dT_write_16 ⟨Nat.le_of_ble_eq_true rfl, Nat.le_of_ble_eq_true rfl⟩) hS hFc (fun H locs h_16 hP1 hD1 hk1 hS => ?_)
  obtain ⟨hP, hD⟩ := va_join (wr := []) (w1 := [(t0, .inr (2, [.ref t1, .int (nI (2 + 16))])), (t1, .inl (cB, 400, .inl (aB (mpS 2 cnt 16 0 (nup (apl (apl tp 0 (anb ty 4)) 2 (List.replicate 16 0)) 2 ((apl (apl tp 0 (anb ty 4)) 2 (List.replicate 16 0)) 2 ^^^ 128)))))), (h0, .inr (0, [.int (nI ty), .ref h1, .ref h2])), (h1, .inl (cI, 16, .inl (aN cnt))), (h2, .inl (cB, 208, .inl (aN mk)))]) hP hD [3, 4, 0, 1, 2] [] rfl rfl (by decide) (by decide) hk1 hFc hP1 hD1
  have hP : va_P (dC, dI) vwCl [(t0, .inr (2, [.ref t1, .int (nI (2 + 16))])), (t1, .inl (cB, 400, .inl (aB (mpS 2 cnt 16 0 (nup (apl (apl tp 0 (anb ty 4)) 2 (List.replicate 16 0)) 2 ((apl (apl tp 0 (anb ty 4)) 2 (List.replicate 16 0)) 2 ^^^ 128)))))), (h0, .inr (0, [.int (nI ty), .ref h1, .ref h2])), (h1, .inl (cI, 16, .inl (aN cnt))), (h2, .inl (cB, 208, .inl (aN mk)))] H := hP
  have hD : va_D A [(t0, .inr (2, [.ref t1, .int (nI (2 + 16))])), (t1, .inl (cB, 400, .inl (aB (mpS 2 cnt 16 0 (nup (apl (apl tp 0 (anb ty 4)) 2 (List.replicate 16 0)) 2 ((apl (apl tp 0 (anb ty 4)) 2 (List.replicate 16 0)) 2 ^^^ 128)))))), (h0, .inr (0, [.int (nI ty), .ref h1, .ref h2])), (h1, .inl (cI, 16, .inl (aN cnt))), (h2, .inl (cB, 208, .inl (aN mk)))] := hD
  have hP : va_P (dC, dI) vwCl [(t0, .inr (2, [.ref t1, .int (nI 18)])), (t1, .inl (cB, 400, .inl (aB (mpS 2 cnt 16 0 (nup (apl (apl tp 0 (anb ty 4)) 2 (List.replicate 16 0)) 2 ((apl (apl tp 0 (anb ty 4)) 2 (List.replicate 16 0)) 2 ^^^ 128)))))), (h0, .inr (0, [.int (nI ty), .ref h1, .ref h2])), (h1, .inl (cI, 16, .inl (aN cnt))), (h2, .inl (cB, 208, .inl (aN mk)))] H := hP
  have hD : va_D A [(t0, .inr (2, [.ref t1, .int (nI 18)])), (t1, .inl (cB, 400, .inl (aB (mpS 2 cnt 16 0 (nup (apl (apl tp 0 (anb ty 4)) 2 (List.replicate 16 0)) 2 ((apl (apl tp 0 (anb ty 4)) 2 (List.replicate 16 0)) 2 ^^^ 128)))))), (h0, .inr (0, [.int (nI ty), .ref h1, .ref h2])), (h1, .inl (cI, 16, .inl (aN cnt))), (h2, .inl (cB, 208, .inl (aN mk)))] := hD
  refine lv_iconst (v := nI 0) hx hb dT_write_19 (by decide) ?_
  refine lv_istore_n (lv' := [(2, .int (nI 0)), (0, .ref t0), (1, .ref h0)]) hx hb dT_write_20 rfl hl (by decide) rfl (fun ls hl => ?_)
  have lp_21 : ∀ (fu : Nat) (k : Nat) (q : Nat) (f : Nat → Nat) (hk : k ≤ 16) (hr9 : q + fRM k ≤ 162) (hn : q + (flB cnt mk (16 - k) k).length = 18 + (flB cnt mk 16 0).length) (hi : apl f q (flB cnt mk (16 - k) k) = apl (mpS 2 cnt 16 0 (nup (apl (apl tp 0 (anb ty 4)) 2 (List.replicate 16 0)) 2 ((apl (apl tp 0 (anb ty 4)) 2 (List.replicate 16 0)) 2 ^^^ 128))) 18 (flB cnt mk 16 0)) (hms : 16 - k < fu) (H : Heap) (locs : List Loc) (ls : Array Slot), lv_has ls 3 [(0, .ref t0), (1, .ref h0), (2, .int (nI k))] → va_P (dC, dI) vwCl [(t0, .inr (2, [.ref t1, .int (nI q)])), (t1, .inl (cB, 400, .inl (aB f))), (h0, .inr (0, [.int (nI ty), .ref h1, .ref h2])), (h1, .inl (cI, 16, .inl (aN cnt))), (h2, .inl (cB, 208, .inl (aN mk)))] H → va_D A [(t0, .inr (2, [.ref t1, .int (nI q)])), (t1, .inl (cB, 400, .inl (aB f))), (h0, .inr (0, [.int (nI ty), .ref h1, .ref h2])), (h1, .inl (cI, 16, .inl (aN cnt))), (h2, .inl (cB, 208, .inl (aN mk)))] → va_S A s.heap H locs → W p l e rm_c_write_two s m ([.ref t0, .ref h0] : List Value).toArray below meth c H locs 0 0 Q (F0 m 21 ls []) := by
    intro fu
    induction fu with
    | zero => intro k q f hk hr9 hn hi hms; exact absurd hms (Nat.not_lt_zero _)
    | succ fu ih21 =>
      intro k q f hk hr9 hn hi hms H locs ls hl hP hD hS
      refine lv_iload_n hx hb dT_write_21 rfl (lv_at hl 2 rfl) ?_
      refine lv_bipush (v := nI 16) hx hb dT_write_22 (by decide) ?_
      refine zi_ge (tgt := 47) hx hb (by omega) (by omega) dT_write_24 (by decide) (fun c_24 => ?_) (fun c_24 => ?_)
      · have hi : f = apl (mpS 2 cnt 16 0 (nup (apl (apl tp 0 (anb ty 4)) 2 (List.replicate 16 0)) 2 ((apl (apl tp 0 (anb ty 4)) 2 (List.replicate 16 0)) 2 ^^^ 128))) 18 (flB cnt mk 16 0) := by have h9 := hi; rw [show 16 - k = 0 by omega] at h9; exact h9
        have hn : q = 18 + (flB cnt mk 16 0).length := by have h9 := hn; rw [show 16 - k = 0 by omega] at h9; exact h9
        subst hi
        subst hn
        subst hAe
        subst hQ
        exact W.vret hx hb hr (fun t ht hW => ⟨⟨(), rfl, trivial, by rw [ht]; exact hP.sub [0, 1, 2, 3, 4] rfl, hD.sub [0, 1, 2, 3, 4] (by decide) rfl⟩, hS.F ht⟩) hS.2.2 dT_write_47
      · refine lv_aload_n hx hb dT_write_27 rfl (lv_at hl 1 rfl) ?_
        refine lv_iload_n hx hb dT_write_28 rfl (lv_at hl 2 rfl) ?_
        refine zc_Ri (va_runV (As := [.int (nI k)]) (rest := []) ⟨hx, hb, hml, hown, hw⟩ (c_D_has l dC dI h0 h1 h2 cI cB ty cnt k (by omega) (hb9 k (by omega)) H) (cwV 1 hw (gV w_ml_T_32 w_im_D_has w_se_D_has w_in_D w_co_D_has) rfl rfl rfl (by decide +kernel) ⟨Nat.le_of_ble_eq_true rfl, Nat.le_of_ble_eq_true rfl⟩) (zR_V hG hS (hP.sub (ws' := [(h0, .inr (0, [.int (nI ty), .ref h1, .ref h2])), (h1, .inl (cI, 16, .inl (aN cnt)))]) [2, 3] rfl) hK 0 rfl rfl) rfl rfl hl.1 rfl (lv_room (Nat.le_of_ble_eq_true rfl)) dT_write_29 ⟨Nat.le_of_ble_eq_true rfl, Nat.le_of_ble_eq_true rfl⟩) hS (fun r_3 locs h_29 hS => ?_)
        subst h_29
        refine zi_eq0 (tgt := 41) hx hb (hz_lt _) dT_write_32 (by decide) (fun c_32 => ?_) (fun c_32 => ?_)
        · have hrs := fRM_s k (by omega)
          have h8 := hi
          rw [show 16 - k = 16 - (k + 1) + 1 by omega] at h8
          unfold flB at h8
          rw [if_pos (hz_0.mp c_32), List.nil_append] at h8
          have h7 := hn
          rw [show 16 - k = 16 - (k + 1) + 1 by omega] at h7
          unfold flB at h7
          rw [if_pos (hz_0.mp c_32), List.nil_append] at h7
          refine lv_iinc (v := nI (k + 1)) (lv' := [(2, .int (nI (k + 1))), (0, .ref t0), (1, .ref h0)]) hx hb dT_write_41 hl (k := 2) rfl (zi_incr k 1) (by decide) rfl (fun ls hl => ?_)
          refine lv_goto (tgt := 21) hx hb dT_write_44 (by decide) ?_
          exact ih21 (k + 1) q f (by omega) (by omega) h7 h8 (by omega) _ _ _ (lv_sub hl [1, 2, 0] rfl) (hP.sub [0, 1, 2, 3, 4] rfl) (hD.sub [0, 1, 2, 3, 4] (by decide) rfl) hS
        · refine lv_aload_n hx hb dT_write_35 rfl (lv_at hl 0 rfl) ?_
          refine lv_aload_n hx hb dT_write_36 rfl (lv_at hl 1 rfl) ?_
          refine lv_iload_n hx hb dT_write_37 rfl (lv_at hl 2 rfl) ?_
          have hPc := hP.sub (ws' := [(t0, .inr (2, [.ref t1, .int (nI q)])), (t1, .inl (cB, 400, .inl (aB f))), (h0, .inr (0, [.int (nI ty), .ref h1, .ref h2])), (h1, .inl (cI, 16, .inl (aN cnt))), (h2, .inl (cB, 208, .inl (aN mk)))]) [0, 1, 2, 3, 4] rfl
          have hDc := hD.sub (ws' := [(t0, .inr (2, [.ref t1, .int (nI q)])), (t1, .inl (cB, 400, .inl (aB f))), (h0, .inr (0, [.int (nI ty), .ref h1, .ref h2])), (h1, .inl (cI, 16, .inl (aN cnt))), (h2, .inl (cB, 208, .inl (aN mk)))]) [0, 1, 2, 3, 4] (by decide) rfl
          have hFc := va_free (wc := [(t0, .inr (2, [.ref t1, .int (nI q)])), (t1, .inl (cB, 400, .inl (aB f))), (h0, .inr (0, [.int (nI ty), .ref h1, .ref h2])), (h1, .inl (cI, 16, .inl (aN cnt))), (h2, .inl (cB, 208, .inl (aN mk)))]) hD hS hA [0, 1, 2, 3, 4] rfl
          refine zc_Mv (va_runV (As := [.ref h0, .int (nI k)]) (rest := []) ⟨hx, hb, hml, hown, hw⟩ (c_T_appendField l dC dI t0 t1 cI cB q f h0 h1 h2 ty cnt mk k (by omega) (by omega) (hct k (by omega)) hm (hg k (by omega)) H.size) (cwV 2 hw (gV w_ml_T_36 w_im_T_appendField w_se_T_appendField w_in_T w_co_T_appendField) rfl rfl rfl (by decide +kernel) ⟨Nat.le_of_ble_eq_true rfl, Nat.le_of_ble_eq_true rfl⟩) (zM_V hG hS hFc hPc hDc hK 0 rfl rfl) rfl rfl hl.1 rfl (lv_room (Nat.le_of_ble_eq_true rfl)) dT_write_38 ⟨Nat.le_of_ble_eq_true rfl, Nat.le_of_ble_eq_true rfl⟩) hS hFc (fun H locs h_38 hP1 hD1 hk1 hS => ?_)
          obtain ⟨hP, hD⟩ := va_join (wr := []) (w1 := [(t0, .inr (2, [.ref t1, .int (nI (q + (fldB cnt mk k).length))])), (t1, .inl (cB, 400, .inl (aB (apl f q (fldB cnt mk k))))), (h0, .inr (0, [.int (nI ty), .ref h1, .ref h2])), (h1, .inl (cI, 16, .inl (aN cnt))), (h2, .inl (cB, 208, .inl (aN mk)))]) hP hD [0, 1, 2, 3, 4] [] rfl rfl (by decide) (by decide) hk1 hFc hP1 hD1
          have hP : va_P (dC, dI) vwCl [(t0, .inr (2, [.ref t1, .int (nI (q + (fldB cnt mk k).length))])), (t1, .inl (cB, 400, .inl (aB (apl f q (fldB cnt mk k))))), (h0, .inr (0, [.int (nI ty), .ref h1, .ref h2])), (h1, .inl (cI, 16, .inl (aN cnt))), (h2, .inl (cB, 208, .inl (aN mk)))] H := hP
          have hD : va_D A [(t0, .inr (2, [.ref t1, .int (nI (q + (fldB cnt mk k).length))])), (t1, .inl (cB, 400, .inl (aB (apl f q (fldB cnt mk k))))), (h0, .inr (0, [.int (nI ty), .ref h1, .ref h2])), (h1, .inl (cI, 16, .inl (aN cnt))), (h2, .inl (cB, 208, .inl (aN mk)))] := hD
          have hlf := fldB_le (cnt := cnt) (mk := mk) (sl := k) (hct k (by omega))
          have hrs := fRM_s k (by omega)
          have h8 := hi
          rw [show 16 - k = 16 - (k + 1) + 1 by omega] at h8
          unfold flB at h8
          rw [if_neg (fun z => c_32 (hz_0.mpr z)), apl_app] at h8
          have h7 := hn
          rw [show 16 - k = 16 - (k + 1) + 1 by omega] at h7
          unfold flB at h7
          rw [if_neg (fun z => c_32 (hz_0.mpr z)), List.length_append, ← Nat.add_assoc] at h7
          refine lv_iinc (v := nI (k + 1)) (lv' := [(2, .int (nI (k + 1))), (0, .ref t0), (1, .ref h0)]) hx hb dT_write_41 hl (k := 2) rfl (zi_incr k 1) (by decide) rfl (fun ls hl => ?_)
          refine lv_goto (tgt := 21) hx hb dT_write_44 (by decide) ?_
          exact ih21 (k + 1) (q + (fldB cnt mk k).length) (apl f q (fldB cnt mk k)) (by omega) (by omega) h7 h8 (by omega) _ _ _ (lv_sub hl [1, 2, 0] rfl) (hP.sub [0, 1, 2, 3, 4] rfl) (hD.sub [0, 1, 2, 3, 4] (by decide) rfl) hS
  exact lp_21 ((16 - 0) + 1) 0 18 (mpS 2 cnt 16 0 (nup (apl (apl tp 0 (anb ty 4)) 2 (List.replicate 16 0)) 2 ((apl (apl tp 0 (anb ty 4)) 2 (List.replicate 16 0)) 2 ^^^ 128))) (by omega) (by decide) rfl rfl (Nat.lt_succ_self _) _ _ _ (lv_sub hl [1, 2, 0] rfl) (hP.sub [0, 1, 2, 3, 4] rfl) (hD.sub [0, 1, 2, 3, 4] (by decide) rfl) hS
def rm_c_write_one : Room := ({ frames := 4, cells := 0, slots := 0, locals := 91 } : Room)
set_option maxHeartbeats 4000000 in
set_option maxRecDepth 100000 in
theorem c_write_one (l : Launch) (dC : Nat → ClassId) (dI : Nat → Nat → Nat) (t0 : Nat) (t1 : Nat) (cI : ClassId) (cB : ClassId) (len : Nat) (tp : Nat → Nat) (h0 : Nat) (h1 : Nat) (h2 : Nat) (ty : Nat) (cnt : Nat → Nat) (mk : Nat → Nat) (hty : ty < 10000) (hct : ∀ j, j < 16 → cnt j ≤ fMM j) (hm : ∀ j, mk j < 128) (hg : ∀ sl, sl < 16 → fHL sl = 0 → ∀ j, j < cnt sl → mk (fFM sl + j) < 16) (hd : s2L cnt 16 0 = false) (sz : Nat) : Met l yT_write wsT_write rm_c_write_one (zM (dC, dI) [(cI, .int), (cB, .byte)] [.ref t0, .ref h0] [(t0, .inr (2, [.ref t1, .int (nI len)])), (t1, .inl (cB, 400, .inl (aB tp))), (h0, .inr (0, [.int (nI ty), .ref h1, .ref h2])), (h1, .inl (cI, 16, .inl (aN cnt))), (h2, .inl (cB, 208, .inl (aN mk)))] sz) (zMv (dC, dI) [(t0, .inr (2, [.ref t1, .int (nI len)])), (t1, .inl (cB, 400, .inl (aB tp))), (h0, .inr (0, [.int (nI ty), .ref h1, .ref h2])), (h1, .inl (cI, 16, .inl (aN cnt))), (h2, .inl (cB, 208, .inl (aN mk)))] [(t0, .inr (2, [.ref t1, .int (nI (10 + (flB cnt mk 16 0).length))])), (t1, .inl (cB, 400, .inl (aB (apl (mpS 2 cnt 16 0 (apl (apl tp 0 (anb ty 4)) 2 (List.replicate 8 0))) 10 (flB cnt mk 16 0))))), (h0, .inr (0, [.int (nI ty), .ref h1, .ref h2])), (h1, .inl (cI, 16, .inl (aN cnt))), (h2, .inl (cB, 208, .inl (aN mk)))] sz (True)) 0 0 (va_A [(t0, .inr (2, [.ref t1, .int (nI len)])), (t1, .inl (cB, 400, .inl (aB tp))), (h0, .inr (0, [.int (nI ty), .ref h1, .ref h2])), (h1, .inl (cI, 16, .inl (aN cnt))), (h2, .inl (cB, 208, .inl (aN mk)))] sz) := by
  refine Met.ofW (cc := cT_write) (maxL := 3) (ret := none) (by decide) rfl ?_
  intro p e s m args below meth c s₁ Bd hml hv
  obtain ⟨rfl, hsz, hG, hP, hK, hD0⟩ := hv
  subst hsz
  have hx := Bd.exec
  have hb := Bd.bytes
  have hr := Bd.returns
  have hts := atoms_spec (ws := wsT_write) Bd.pre
  have hw : ∀ w ∈ BIG, w.before _ s = true := fun w h => hts w (List.mem_cons_of_mem _ h)
  have hown : s.vm.findClass RT = some m.cls := findClass_of_methodNamed Bd.named
  have hlocks := Bd.notSynchronized
  have hD := hD0.self (sz := s.heap.size)
  obtain ⟨A, hAe⟩ : ∃ A, A = va_A [(t0, .inr (2, [.ref t1, .int (nI len)])), (t1, .inl (cB, 400, .inl (aB tp))), (h0, .inr (0, [.int (nI ty), .ref h1, .ref h2])), (h1, .inl (cI, 16, .inl (aN cnt))), (h2, .inl (cB, 208, .inl (aN mk)))] s.heap.size := ⟨_, rfl⟩
  have hA : ∀ q : Nat, s.heap.size ≤ q → A q := fun q h => by rw [hAe]; exact Or.inr h
  rw [← hAe] at hG hD
  have hS : va_S A s.heap s.heap [] := va_S.rf
  have hl := lv_entry ([.ref t0, .ref h0]) (n := 3) (Nat.le_of_ble_eq_true rfl)
  rw [lg_entry_eq]
  generalize (lg_sl ([.ref t0, .ref h0]) ++ List.replicate (3 - (lg_sl ([.ref t0, .ref h0])).length) Slot.unset).toArray = ls at hl ⊢
  have hl : lv_has ls 3 [(0, .ref t0), (1, .ref h0)] := hl
  refine zq_name (fun Q hQ => ?_)
  change W p l e rm_c_write_one s m _ below meth c _ _ _ _ Q _
  have hb9 : ∀ j, j < 16 → cnt j < 2 ^ 31 := fun j hj => by have := hct j hj; have := (fMM_b j hj).2; omega
  refine lv_aload_n hx hb dT_write_0 rfl (lv_at hl 0 rfl) ?_
  refine lv_iconst (v := nI 0) hx hb dT_write_1 (by decide) ?_
  refine va_put (D := (dC, dI)) (ci := 2) (v := .int (nI 0)) (ty := .int) (C := RT) (T := TT) (N := 2) hx hb hw inT tyT tyT_ok nmT hown hK hP hD hS 0 rfl rfl 1 (by decide) (hw _ w_fl_T_15) (fun _ h9 => h9) rfl (by decide +kernel) rfl rfl (Nat.le_of_ble_eq_true rfl) dT_write_2 (fun H locs hP hD hS => ?_)
  have hP : va_P (dC, dI) vwCl [(t0, .inr (2, [.ref t1, .int (nI 0)])), (t1, .inl (cB, 400, .inl (aB tp))), (h0, .inr (0, [.int (nI ty), .ref h1, .ref h2])), (h1, .inl (cI, 16, .inl (aN cnt))), (h2, .inl (cB, 208, .inl (aN mk)))] H := hP
  have hD : va_D A [(t0, .inr (2, [.ref t1, .int (nI 0)])), (t1, .inl (cB, 400, .inl (aB tp))), (h0, .inr (0, [.int (nI ty), .ref h1, .ref h2])), (h1, .inl (cI, 16, .inl (aN cnt))), (h2, .inl (cB, 208, .inl (aN mk)))] := hD
  refine lv_aload_n hx hb dT_write_5 rfl (lv_at hl 0 rfl) ?_
  refine lv_aload_n hx hb dT_write_6 rfl (lv_at hl 1 rfl) ?_
  refine va_get (D := (dC, dI)) (ci := 0) (v := .int (nI ty)) (C := RD) (T := TD) (N := 3) hx hb hw inD hown hK hP 2 rfl rfl 0 (by decide) (hw _ w_fl_T_19) (fun _ h9 => h9) rfl dT_write_7 ?_
  refine lv_iconst (v := nI 4) hx hb dT_write_10 (by decide) ?_
  have hPc := hP.sub (ws' := [(t0, .inr (2, [.ref t1, .int (nI 0)])), (t1, .inl (cB, 400, .inl (aB tp)))]) [0, 1] rfl
  have hDc := hD.sub (ws' := [(t0, .inr (2, [.ref t1, .int (nI 0)])), (t1, .inl (cB, 400, .inl (aB tp)))]) [0, 1] (by decide) rfl
  have hFc := va_free (wc := [(t0, .inr (2, [.ref t1, .int (nI 0)])), (t1, .inl (cB, 400, .inl (aB tp)))]) hD hS hA [0, 1] rfl
  refine zc_Mv (va_runV (As := [.int (nI ty), .int (nI 4)]) (rest := []) ⟨hx, hb, hml, hown, hw⟩ (c_T_appendNumber l dC dI t0 t1 cI cB 0 tp ty 4 (by omega) (by omega) (by omega) H.size) (cwV 2 hw (gV w_ml_T_24 w_im_T_appendNumber w_se_T_appendNumber w_in_T w_co_T_appendNumber) rfl rfl rfl (by decide +kernel) ⟨Nat.le_of_ble_eq_true rfl, Nat.le_of_ble_eq_true rfl⟩) (zM_V hG hS hFc hPc hDc hK 0 rfl rfl) rfl rfl hl.1 rfl (lv_room (Nat.le_of_ble_eq_true rfl)) dT_write_11 ⟨Nat.le_of_ble_eq_true rfl, Nat.le_of_ble_eq_true rfl⟩) hS hFc (fun H locs h_11 hP1 hD1 hk1 hS => ?_)
  obtain ⟨hP, hD⟩ := va_join (wr := [(h0, .inr (0, [.int (nI ty), .ref h1, .ref h2])), (h1, .inl (cI, 16, .inl (aN cnt))), (h2, .inl (cB, 208, .inl (aN mk)))]) (w1 := [(t0, .inr (2, [.ref t1, .int (nI (0 + (anb ty 4).length))])), (t1, .inl (cB, 400, .inl (aB (apl tp 0 (anb ty 4)))))]) hP hD [0, 1] [2, 3, 4] rfl rfl (by decide) (by decide) hk1 hFc hP1 hD1
  have hP : va_P (dC, dI) vwCl [(h0, .inr (0, [.int (nI ty), .ref h1, .ref h2])), (h1, .inl (cI, 16, .inl (aN cnt))), (h2, .inl (cB, 208, .inl (aN mk))), (t0, .inr (2, [.ref t1, .int (nI (0 + (anb ty 4).length))])), (t1, .inl (cB, 400, .inl (aB (apl tp 0 (anb ty 4)))))] H := hP
  have hD : va_D A [(h0, .inr (0, [.int (nI ty), .ref h1, .ref h2])), (h1, .inl (cI, 16, .inl (aN cnt))), (h2, .inl (cB, 208, .inl (aN mk))), (t0, .inr (2, [.ref t1, .int (nI (0 + (anb ty 4).length))])), (t1, .inl (cB, 400, .inl (aB (apl tp 0 (anb ty 4)))))] := hD
  have e9 : (anb ty 4).length = 2 := rfl
  rw [e9] at hP hD
  have hP : va_P (dC, dI) vwCl [(h0, .inr (0, [.int (nI ty), .ref h1, .ref h2])), (h1, .inl (cI, 16, .inl (aN cnt))), (h2, .inl (cB, 208, .inl (aN mk))), (t0, .inr (2, [.ref t1, .int (nI 2)])), (t1, .inl (cB, 400, .inl (aB (apl tp 0 (anb ty 4)))))] H := hP
  have hD : va_D A [(h0, .inr (0, [.int (nI ty), .ref h1, .ref h2])), (h1, .inl (cI, 16, .inl (aN cnt))), (h2, .inl (cB, 208, .inl (aN mk))), (t0, .inr (2, [.ref t1, .int (nI 2)])), (t1, .inl (cB, 400, .inl (aB (apl tp 0 (anb ty 4)))))] := hD
  refine lv_aload_n hx hb dT_write_14 rfl (lv_at hl 0 rfl) ?_
  refine lv_aload_n hx hb dT_write_15 rfl (lv_at hl 1 rfl) ?_
  have hPc := hP.sub (ws' := [(t0, .inr (2, [.ref t1, .int (nI 2)])), (t1, .inl (cB, 400, .inl (aB (apl tp 0 (anb ty 4))))), (h0, .inr (0, [.int (nI ty), .ref h1, .ref h2])), (h1, .inl (cI, 16, .inl (aN cnt))), (h2, .inl (cB, 208, .inl (aN mk)))]) [3, 4, 0, 1, 2] rfl
  have hDc := hD.sub (ws' := [(t0, .inr (2, [.ref t1, .int (nI 2)])), (t1, .inl (cB, 400, .inl (aB (apl tp 0 (anb ty 4))))), (h0, .inr (0, [.int (nI ty), .ref h1, .ref h2])), (h1, .inl (cI, 16, .inl (aN cnt))), (h2, .inl (cB, 208, .inl (aN mk)))]) [3, 4, 0, 1, 2] (by decide) rfl
  have hFc := va_free (wc := [(t0, .inr (2, [.ref t1, .int (nI 2)])), (t1, .inl (cB, 400, .inl (aB (apl tp 0 (anb ty 4))))), (h0, .inr (0, [.int (nI ty), .ref h1, .ref h2])), (h1, .inl (cI, 16, .inl (aN cnt))), (h2, .inl (cB, 208, .inl (aN mk)))]) hD hS hA [3, 4, 0, 1, 2] rfl
  refine zc_Mv (va_runV (As := [.ref h0]) (rest := []) ⟨hx, hb, hml, hown, hw⟩ (c_appendMaps_one l dC dI t0 t1 cI cB 2 (apl tp 0 (anb ty 4)) h0 h1 h2 ty cnt mk (by omega) hb9 hd H.size) (cwV 1 hw (gV w_ml_T_28 w_im_T_appendMaps w_se_T_appendMaps w_in_T w_co_T_appendMaps) rfl rfl rfl (by decide +kernel) ⟨Nat.le_of_ble_eq_true rfl, Nat.le_of_ble_eq_true rfl⟩) (zM_V hG hS hFc hPc hDc hK 0 rfl rfl) rfl rfl hl.1 rfl (lv_room (Nat.le_of_ble_eq_true rfl)) dT_write_16 ⟨Nat.le_of_ble_eq_true rfl, Nat.le_of_ble_eq_true rfl⟩) hS hFc (fun H locs h_16 hP1 hD1 hk1 hS => ?_)
  obtain ⟨hP, hD⟩ := va_join (wr := []) (w1 := [(t0, .inr (2, [.ref t1, .int (nI (2 + 8))])), (t1, .inl (cB, 400, .inl (aB (mpS 2 cnt 16 0 (apl (apl tp 0 (anb ty 4)) 2 (List.replicate 8 0)))))), (h0, .inr (0, [.int (nI ty), .ref h1, .ref h2])), (h1, .inl (cI, 16, .inl (aN cnt))), (h2, .inl (cB, 208, .inl (aN mk)))]) hP hD [3, 4, 0, 1, 2] [] rfl rfl (by decide) (by decide) hk1 hFc hP1 hD1
  have hP : va_P (dC, dI) vwCl [(t0, .inr (2, [.ref t1, .int (nI (2 + 8))])), (t1, .inl (cB, 400, .inl (aB (mpS 2 cnt 16 0 (apl (apl tp 0 (anb ty 4)) 2 (List.replicate 8 0)))))), (h0, .inr (0, [.int (nI ty), .ref h1, .ref h2])), (h1, .inl (cI, 16, .inl (aN cnt))), (h2, .inl (cB, 208, .inl (aN mk)))] H := hP
  have hD : va_D A [(t0, .inr (2, [.ref t1, .int (nI (2 + 8))])), (t1, .inl (cB, 400, .inl (aB (mpS 2 cnt 16 0 (apl (apl tp 0 (anb ty 4)) 2 (List.replicate 8 0)))))), (h0, .inr (0, [.int (nI ty), .ref h1, .ref h2])), (h1, .inl (cI, 16, .inl (aN cnt))), (h2, .inl (cB, 208, .inl (aN mk)))] := hD
  have hP : va_P (dC, dI) vwCl [(t0, .inr (2, [.ref t1, .int (nI 10)])), (t1, .inl (cB, 400, .inl (aB (mpS 2 cnt 16 0 (apl (apl tp 0 (anb ty 4)) 2 (List.replicate 8 0)))))), (h0, .inr (0, [.int (nI ty), .ref h1, .ref h2])), (h1, .inl (cI, 16, .inl (aN cnt))), (h2, .inl (cB, 208, .inl (aN mk)))] H := hP
  have hD : va_D A [(t0, .inr (2, [.ref t1, .int (nI 10)])), (t1, .inl (cB, 400, .inl (aB (mpS 2 cnt 16 0 (apl (apl tp 0 (anb ty 4)) 2 (List.replicate 8 0)))))), (h0, .inr (0, [.int (nI ty), .ref h1, .ref h2])), (h1, .inl (cI, 16, .inl (aN cnt))), (h2, .inl (cB, 208, .inl (aN mk)))] := hD
  refine lv_iconst (v := nI 0) hx hb dT_write_19 (by decide) ?_
  refine lv_istore_n (lv' := [(2, .int (nI 0)), (0, .ref t0), (1, .ref h0)]) hx hb dT_write_20 rfl hl (by decide) rfl (fun ls hl => ?_)
  have lp_21 : ∀ (fu : Nat) (k : Nat) (q : Nat) (f : Nat → Nat) (hk : k ≤ 16) (hr9 : q + fRM k ≤ 162) (hn : q + (flB cnt mk (16 - k) k).length = 10 + (flB cnt mk 16 0).length) (hi : apl f q (flB cnt mk (16 - k) k) = apl (mpS 2 cnt 16 0 (apl (apl tp 0 (anb ty 4)) 2 (List.replicate 8 0))) 10 (flB cnt mk 16 0)) (hms : 16 - k < fu) (H : Heap) (locs : List Loc) (ls : Array Slot), lv_has ls 3 [(0, .ref t0), (1, .ref h0), (2, .int (nI k))] → va_P (dC, dI) vwCl [(t0, .inr (2, [.ref t1, .int (nI q)])), (t1, .inl (cB, 400, .inl (aB f))), (h0, .inr (0, [.int (nI ty), .ref h1, .ref h2])), (h1, .inl (cI, 16, .inl (aN cnt))), (h2, .inl (cB, 208, .inl (aN mk)))] H → va_D A [(t0, .inr (2, [.ref t1, .int (nI q)])), (t1, .inl (cB, 400, .inl (aB f))), (h0, .inr (0, [.int (nI ty), .ref h1, .ref h2])), (h1, .inl (cI, 16, .inl (aN cnt))), (h2, .inl (cB, 208, .inl (aN mk)))] → va_S A s.heap H locs → W p l e rm_c_write_one s m ([.ref t0, .ref h0] : List Value).toArray below meth c H locs 0 0 Q (F0 m 21 ls []) := by
    intro fu
    induction fu with
    | zero => intro k q f hk hr9 hn hi hms; exact absurd hms (Nat.not_lt_zero _)
    | succ fu ih21 =>
      intro k q f hk hr9 hn hi hms H locs ls hl hP hD hS
      refine lv_iload_n hx hb dT_write_21 rfl (lv_at hl 2 rfl) ?_
      refine lv_bipush (v := nI 16) hx hb dT_write_22 (by decide) ?_
      refine zi_ge (tgt := 47) hx hb (by omega) (by omega) dT_write_24 (by decide) (fun c_24 => ?_) (fun c_24 => ?_)
      · have hi : f = apl (mpS 2 cnt 16 0 (apl (apl tp 0 (anb ty 4)) 2 (List.replicate 8 0))) 10 (flB cnt mk 16 0) := by have h9 := hi; rw [show 16 - k = 0 by omega] at h9; exact h9
        have hn : q = 10 + (flB cnt mk 16 0).length := by have h9 := hn; rw [show 16 - k = 0 by omega] at h9; exact h9
        subst hi
        subst hn
        subst hAe
        subst hQ
        exact W.vret hx hb hr (fun t ht hW => ⟨⟨(), rfl, trivial, by rw [ht]; exact hP.sub [0, 1, 2, 3, 4] rfl, hD.sub [0, 1, 2, 3, 4] (by decide) rfl⟩, hS.F ht⟩) hS.2.2 dT_write_47
      · refine lv_aload_n hx hb dT_write_27 rfl (lv_at hl 1 rfl) ?_
        refine lv_iload_n hx hb dT_write_28 rfl (lv_at hl 2 rfl) ?_
        refine zc_Ri (va_runV (As := [.int (nI k)]) (rest := []) ⟨hx, hb, hml, hown, hw⟩ (c_D_has l dC dI h0 h1 h2 cI cB ty cnt k (by omega) (hb9 k (by omega)) H) (cwV 1 hw (gV w_ml_T_32 w_im_D_has w_se_D_has w_in_D w_co_D_has) rfl rfl rfl (by decide +kernel) ⟨Nat.le_of_ble_eq_true rfl, Nat.le_of_ble_eq_true rfl⟩) (zR_V hG hS (hP.sub (ws' := [(h0, .inr (0, [.int (nI ty), .ref h1, .ref h2])), (h1, .inl (cI, 16, .inl (aN cnt)))]) [2, 3] rfl) hK 0 rfl rfl) rfl rfl hl.1 rfl (lv_room (Nat.le_of_ble_eq_true rfl)) dT_write_29 ⟨Nat.le_of_ble_eq_true rfl, Nat.le_of_ble_eq_true rfl⟩) hS (fun r_3 locs h_29 hS => ?_)
        subst h_29
        refine zi_eq0 (tgt := 41) hx hb (hz_lt _) dT_write_32 (by decide) (fun c_32 => ?_) (fun c_32 => ?_)
        · have hrs := fRM_s k (by omega)
          have h8 := hi
          rw [show 16 - k = 16 - (k + 1) + 1 by omega] at h8
          unfold flB at h8
          rw [if_pos (hz_0.mp c_32), List.nil_append] at h8
          have h7 := hn
          rw [show 16 - k = 16 - (k + 1) + 1 by omega] at h7
          unfold flB at h7
          rw [if_pos (hz_0.mp c_32), List.nil_append] at h7
          refine lv_iinc (v := nI (k + 1)) (lv' := [(2, .int (nI (k + 1))), (0, .ref t0), (1, .ref h0)]) hx hb dT_write_41 hl (k := 2) rfl (zi_incr k 1) (by decide) rfl (fun ls hl => ?_)
          refine lv_goto (tgt := 21) hx hb dT_write_44 (by decide) ?_
          exact ih21 (k + 1) q f (by omega) (by omega) h7 h8 (by omega) _ _ _ (lv_sub hl [1, 2, 0] rfl) (hP.sub [0, 1, 2, 3, 4] rfl) (hD.sub [0, 1, 2, 3, 4] (by decide) rfl) hS
        · refine lv_aload_n hx hb dT_write_35 rfl (lv_at hl 0 rfl) ?_
          refine lv_aload_n hx hb dT_write_36 rfl (lv_at hl 1 rfl) ?_
          refine lv_iload_n hx hb dT_write_37 rfl (lv_at hl 2 rfl) ?_
          have hPc := hP.sub (ws' := [(t0, .inr (2, [.ref t1, .int (nI q)])), (t1, .inl (cB, 400, .inl (aB f))), (h0, .inr (0, [.int (nI ty), .ref h1, .ref h2])), (h1, .inl (cI, 16, .inl (aN cnt))), (h2, .inl (cB, 208, .inl (aN mk)))]) [0, 1, 2, 3, 4] rfl
          have hDc := hD.sub (ws' := [(t0, .inr (2, [.ref t1, .int (nI q)])), (t1, .inl (cB, 400, .inl (aB f))), (h0, .inr (0, [.int (nI ty), .ref h1, .ref h2])), (h1, .inl (cI, 16, .inl (aN cnt))), (h2, .inl (cB, 208, .inl (aN mk)))]) [0, 1, 2, 3, 4] (by decide) rfl
          have hFc := va_free (wc := [(t0, .inr (2, [.ref t1, .int (nI q)])), (t1, .inl (cB, 400, .inl (aB f))), (h0, .inr (0, [.int (nI ty), .ref h1, .ref h2])), (h1, .inl (cI, 16, .inl (aN cnt))), (h2, .inl (cB, 208, .inl (aN mk)))]) hD hS hA [0, 1, 2, 3, 4] rfl
          refine zc_Mv (va_runV (As := [.ref h0, .int (nI k)]) (rest := []) ⟨hx, hb, hml, hown, hw⟩ (c_T_appendField l dC dI t0 t1 cI cB q f h0 h1 h2 ty cnt mk k (by omega) (by omega) (hct k (by omega)) hm (hg k (by omega)) H.size) (cwV 2 hw (gV w_ml_T_36 w_im_T_appendField w_se_T_appendField w_in_T w_co_T_appendField) rfl rfl rfl (by decide +kernel) ⟨Nat.le_of_ble_eq_true rfl, Nat.le_of_ble_eq_true rfl⟩) (zM_V hG hS hFc hPc hDc hK 0 rfl rfl) rfl rfl hl.1 rfl (lv_room (Nat.le_of_ble_eq_true rfl)) dT_write_38 ⟨Nat.le_of_ble_eq_true rfl, Nat.le_of_ble_eq_true rfl⟩) hS hFc (fun H locs h_38 hP1 hD1 hk1 hS => ?_)
          obtain ⟨hP, hD⟩ := va_join (wr := []) (w1 := [(t0, .inr (2, [.ref t1, .int (nI (q + (fldB cnt mk k).length))])), (t1, .inl (cB, 400, .inl (aB (apl f q (fldB cnt mk k))))), (h0, .inr (0, [.int (nI ty), .ref h1, .ref h2])), (h1, .inl (cI, 16, .inl (aN cnt))), (h2, .inl (cB, 208, .inl (aN mk)))]) hP hD [0, 1, 2, 3, 4] [] rfl rfl (by decide) (by decide) hk1 hFc hP1 hD1
          have hP : va_P (dC, dI) vwCl [(t0, .inr (2, [.ref t1, .int (nI (q + (fldB cnt mk k).length))])), (t1, .inl (cB, 400, .inl (aB (apl f q (fldB cnt mk k))))), (h0, .inr (0, [.int (nI ty), .ref h1, .ref h2])), (h1, .inl (cI, 16, .inl (aN cnt))), (h2, .inl (cB, 208, .inl (aN mk)))] H := hP
          have hD : va_D A [(t0, .inr (2, [.ref t1, .int (nI (q + (fldB cnt mk k).length))])), (t1, .inl (cB, 400, .inl (aB (apl f q (fldB cnt mk k))))), (h0, .inr (0, [.int (nI ty), .ref h1, .ref h2])), (h1, .inl (cI, 16, .inl (aN cnt))), (h2, .inl (cB, 208, .inl (aN mk)))] := hD
          have hlf := fldB_le (cnt := cnt) (mk := mk) (sl := k) (hct k (by omega))
          have hrs := fRM_s k (by omega)
          have h8 := hi
          rw [show 16 - k = 16 - (k + 1) + 1 by omega] at h8
          unfold flB at h8
          rw [if_neg (fun z => c_32 (hz_0.mpr z)), apl_app] at h8
          have h7 := hn
          rw [show 16 - k = 16 - (k + 1) + 1 by omega] at h7
          unfold flB at h7
          rw [if_neg (fun z => c_32 (hz_0.mpr z)), List.length_append, ← Nat.add_assoc] at h7
          refine lv_iinc (v := nI (k + 1)) (lv' := [(2, .int (nI (k + 1))), (0, .ref t0), (1, .ref h0)]) hx hb dT_write_41 hl (k := 2) rfl (zi_incr k 1) (by decide) rfl (fun ls hl => ?_)
          refine lv_goto (tgt := 21) hx hb dT_write_44 (by decide) ?_
          exact ih21 (k + 1) (q + (fldB cnt mk k).length) (apl f q (fldB cnt mk k)) (by omega) (by omega) h7 h8 (by omega) _ _ _ (lv_sub hl [1, 2, 0] rfl) (hP.sub [0, 1, 2, 3, 4] rfl) (hD.sub [0, 1, 2, 3, 4] (by decide) rfl) hS
  exact lp_21 ((16 - 0) + 1) 0 10 (mpS 2 cnt 16 0 (apl (apl tp 0 (anb ty 4)) 2 (List.replicate 8 0))) (by omega) (by decide) rfl rfl (Nat.lt_succ_self _) _ _ _ (lv_sub hl [1, 2, 0] rfl) (hP.sub [0, 1, 2, 3, 4] rfl) (hD.sub [0, 1, 2, 3, 4] (by decide) rfl) hS
end
