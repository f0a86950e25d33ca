section
-- ===== PART A: goes FIRST, ahead of the names: the tables' words, and 'selects' of the private methods out of them =====
/-- a private method of a class that the tables say can be made, by its rows of tables_1 -/
def lw_okq (q : MethodName × Nat) : Prop := (q.1.cls ≠ "java/lang/invoke/MethodHandle" ∧ q.1.cls ≠ "java/lang/invoke/VarHandle") ∧ Cond.instantiable q.1.cls q.2 ∈ tables_1 ∧ Cond.privateMethod q.1 ∈ tables_1 ∧ Cond.instanceMethod q.1 ∈ tables_1
theorem lw_p0 : lw_okq (⟨"CardMessages$Tape", "appendNumber", "(II)V"⟩, 2) := ⟨⟨by decide +kernel, by decide +kernel⟩, List.mem_of_getElem? (i := 45) (by decide +kernel), List.mem_of_getElem? (i := 124) (by decide +kernel), List.mem_of_getElem? (i := 125) (by decide +kernel)⟩
theorem lw_p1 : lw_okq (⟨"CardMessages$Tape", "appendPair", "(II)V"⟩, 2) := ⟨⟨by decide +kernel, by decide +kernel⟩, List.mem_of_getElem? (i := 45) (by decide +kernel), List.mem_of_getElem? (i := 131) (by decide +kernel), List.mem_of_getElem? (i := 132) (by decide +kernel)⟩
theorem lw_p2 : lw_okq (⟨"CardMessages$Tape", "appendMaps", "(LCardMessages$Draft;)V"⟩, 2) := ⟨⟨by decide +kernel, by decide +kernel⟩, List.mem_of_getElem? (i := 45) (by decide +kernel), List.mem_of_getElem? (i := 139) (by decide +kernel), List.mem_of_getElem? (i := 140) (by decide +kernel)⟩
theorem lw_p3 : lw_okq (⟨"CardMessages$Tape", "appendField", "(LCardMessages$Draft;I)V"⟩, 2) := ⟨⟨by decide +kernel, by decide +kernel⟩, List.mem_of_getElem? (i := 45) (by decide +kernel), List.mem_of_getElem? (i := 159) (by decide +kernel), List.mem_of_getElem? (i := 160) (by decide +kernel)⟩
theorem lw_p4 : lw_okq (⟨"CardMessages$Tape", "appendLetters", "(LCardMessages$Draft;II)V"⟩, 2) := ⟨⟨by decide +kernel, by decide +kernel⟩, List.mem_of_getElem? (i := 45) (by decide +kernel), List.mem_of_getElem? (i := 167) (by decide +kernel), List.mem_of_getElem? (i := 168) (by decide +kernel)⟩
theorem lw_p5 : lw_okq (⟨"CardMessages$Tape", "appendDigits", "(LCardMessages$Draft;II)V"⟩, 2) := ⟨⟨by decide +kernel, by decide +kernel⟩, List.mem_of_getElem? (i := 45) (by decide +kernel), List.mem_of_getElem? (i := 177) (by decide +kernel), List.mem_of_getElem? (i := 178) (by decide +kernel)⟩
theorem lw_p6 : lw_okq (⟨"CardMessages$Reader", "walkType", "()Z"⟩, 6) := ⟨⟨by decide +kernel, by decide +kernel⟩, List.mem_of_getElem? (i := 60) (by decide +kernel), List.mem_of_getElem? (i := 189) (by decide +kernel), List.mem_of_getElem? (i := 190) (by decide +kernel)⟩
theorem lw_p7 : lw_okq (⟨"CardMessages$Reader", "walkNumber", "(I)Z"⟩, 6) := ⟨⟨by decide +kernel, by decide +kernel⟩, List.mem_of_getElem? (i := 60) (by decide +kernel), List.mem_of_getElem? (i := 193) (by decide +kernel), List.mem_of_getElem? (i := 194) (by decide +kernel)⟩
theorem lw_p8 : lw_okq (⟨"CardMessages$Reader", "areDigits", "(I)Z"⟩, 6) := ⟨⟨by decide +kernel, by decide +kernel⟩, List.mem_of_getElem? (i := 60) (by decide +kernel), List.mem_of_getElem? (i := 197) (by decide +kernel), List.mem_of_getElem? (i := 198) (by decide +kernel)⟩
theorem lw_p9 : lw_okq (⟨"CardMessages$Reader", "reaches", "(I)Z"⟩, 6) := ⟨⟨by decide +kernel, by decide +kernel⟩, List.mem_of_getElem? (i := 60) (by decide +kernel), List.mem_of_getElem? (i := 202) (by decide +kernel), List.mem_of_getElem? (i := 203) (by decide +kernel)⟩
theorem lw_p10 : lw_okq (⟨"CardMessages$Reader", "fail", "(II)Z"⟩, 6) := ⟨⟨by decide +kernel, by decide +kernel⟩, List.mem_of_getElem? (i := 60) (by decide +kernel), List.mem_of_getElem? (i := 206) (by decide +kernel), List.mem_of_getElem? (i := 207) (by decide +kernel)⟩
theorem lw_p11 : lw_okq (⟨"CardMessages$Reader", "halfAhead", "(I)I"⟩, 6) := ⟨⟨by decide +kernel, by decide +kernel⟩, List.mem_of_getElem? (i := 60) (by decide +kernel), List.mem_of_getElem? (i := 210) (by decide +kernel), List.mem_of_getElem? (i := 211) (by decide +kernel)⟩
theorem lw_p12 : lw_okq (⟨"CardMessages$Reader", "digitAhead", "(II)I"⟩, 6) := ⟨⟨by decide +kernel, by decide +kernel⟩, List.mem_of_getElem? (i := 60) (by decide +kernel), List.mem_of_getElem? (i := 218) (by decide +kernel), List.mem_of_getElem? (i := 219) (by decide +kernel)⟩
theorem lw_p13 : lw_okq (⟨"CardMessages$Reader", "walkMaps", "()Z"⟩, 6) := ⟨⟨by decide +kernel, by decide +kernel⟩, List.mem_of_getElem? (i := 60) (by decide +kernel), List.mem_of_getElem? (i := 228) (by decide +kernel), List.mem_of_getElem? (i := 229) (by decide +kernel)⟩
theorem lw_p14 : lw_okq (⟨"CardMessages$Reader", "hasBit", "(I)Z"⟩, 6) := ⟨⟨by decide +kernel, by decide +kernel⟩, List.mem_of_getElem? (i := 60) (by decide +kernel), List.mem_of_getElem? (i := 234) (by decide +kernel), List.mem_of_getElem? (i := 235) (by decide +kernel)⟩
theorem lw_p15 : lw_okq (⟨"CardMessages$Reader", "walkField", "(I)Z"⟩, 6) := ⟨⟨by decide +kernel, by decide +kernel⟩, List.mem_of_getElem? (i := 60) (by decide +kernel), List.mem_of_getElem? (i := 241) (by decide +kernel), List.mem_of_getElem? (i := 242) (by decide +kernel)⟩
def lw_privs_1 : List (MethodName × Nat) := [(⟨"CardMessages$Tape", "appendNumber", "(II)V"⟩, 2), (⟨"CardMessages$Tape", "appendPair", "(II)V"⟩, 2), (⟨"CardMessages$Tape", "appendMaps", "(LCardMessages$Draft;)V"⟩, 2), (⟨"CardMessages$Tape", "appendField", "(LCardMessages$Draft;I)V"⟩, 2), (⟨"CardMessages$Tape", "appendLetters", "(LCardMessages$Draft;II)V"⟩, 2), (⟨"CardMessages$Tape", "appendDigits", "(LCardMessages$Draft;II)V"⟩, 2), (⟨"CardMessages$Reader", "walkType", "()Z"⟩, 6), (⟨"CardMessages$Reader", "walkNumber", "(I)Z"⟩, 6), (⟨"CardMessages$Reader", "areDigits", "(I)Z"⟩, 6), (⟨"CardMessages$Reader", "reaches", "(I)Z"⟩, 6), (⟨"CardMessages$Reader", "fail", "(II)Z"⟩, 6), (⟨"CardMessages$Reader", "halfAhead", "(I)I"⟩, 6), (⟨"CardMessages$Reader", "digitAhead", "(II)I"⟩, 6), (⟨"CardMessages$Reader", "walkMaps", "()Z"⟩, 6), (⟨"CardMessages$Reader", "hasBit", "(I)Z"⟩, 6), (⟨"CardMessages$Reader", "walkField", "(I)Z"⟩, 6)]
theorem lw_r1 : ∀ q ∈ lw_privs_1, lw_okq q := List.forall_mem_cons.mpr ⟨lw_p0, List.forall_mem_cons.mpr ⟨lw_p1, List.forall_mem_cons.mpr ⟨lw_p2, List.forall_mem_cons.mpr ⟨lw_p3, List.forall_mem_cons.mpr ⟨lw_p4, List.forall_mem_cons.mpr ⟨lw_p5, List.forall_mem_cons.mpr ⟨lw_p6, List.forall_mem_cons.mpr ⟨lw_p7, List.forall_mem_cons.mpr ⟨lw_p8, List.forall_mem_cons.mpr ⟨lw_p9, List.forall_mem_cons.mpr ⟨lw_p10, List.forall_mem_cons.mpr ⟨lw_p11, List.forall_mem_cons.mpr ⟨lw_p12, List.forall_mem_cons.mpr ⟨lw_p13, List.forall_mem_cons.mpr ⟨lw_p14, List.forall_mem_cons.mpr ⟨lw_p15, fun _ h => absurd h List.not_mem_nil⟩⟩⟩⟩⟩⟩⟩⟩⟩⟩⟩⟩⟩⟩⟩⟩
theorem lw_p16 : lw_okq (⟨"CardMessages$Reader", "walkLetters", "(II)Z"⟩, 6) := ⟨⟨by decide +kernel, by decide +kernel⟩, List.mem_of_getElem? (i := 60) (by decide +kernel), List.mem_of_getElem? (i := 249) (by decide +kernel), List.mem_of_getElem? (i := 250) (by decide +kernel)⟩
theorem lw_p17 : lw_okq (⟨"CardMessages$Reader", "walkDigits", "(II)Z"⟩, 6) := ⟨⟨by decide +kernel, by decide +kernel⟩, List.mem_of_getElem? (i := 60) (by decide +kernel), List.mem_of_getElem? (i := 260) (by decide +kernel), List.mem_of_getElem? (i := 261) (by decide +kernel)⟩
theorem lw_p18 : lw_okq (⟨"java/lang/Throwable", "fillInStackTrace", "(I)Ljava/lang/Throwable;"⟩, 6) := ⟨⟨by decide +kernel, by decide +kernel⟩, List.mem_of_getElem? (i := 316) (by decide +kernel), List.mem_of_getElem? (i := 314) (by decide +kernel), List.mem_of_getElem? (i := 315) (by decide +kernel)⟩
theorem lw_p19 : lw_okq (⟨"CardMessages$Draft", "setDigits", "(IIIJ)V"⟩, 3) := ⟨⟨by decide +kernel, by decide +kernel⟩, List.mem_of_getElem? (i := 22) (by decide +kernel), List.mem_of_getElem? (i := 374) (by decide +kernel), List.mem_of_getElem? (i := 375) (by decide +kernel)⟩
theorem lw_p20 : lw_okq (⟨"CardMessagesModel", "goes", "(Z)Z"⟩, 17) := ⟨⟨by decide +kernel, by decide +kernel⟩, List.mem_of_getElem? (i := 499) (by decide +kernel), List.mem_of_getElem? (i := 568) (by decide +kernel), List.mem_of_getElem? (i := 569) (by decide +kernel)⟩
theorem lw_p21 : lw_okq (⟨"CardMessagesModel", "begin", "(I)V"⟩, 17) := ⟨⟨by decide +kernel, by decide +kernel⟩, List.mem_of_getElem? (i := 499) (by decide +kernel), List.mem_of_getElem? (i := 572) (by decide +kernel), List.mem_of_getElem? (i := 573) (by decide +kernel)⟩
theorem lw_p22 : lw_okq (⟨"CardMessagesModel", "fieldOf", "(I)I"⟩, 17) := ⟨⟨by decide +kernel, by decide +kernel⟩, List.mem_of_getElem? (i := 499) (by decide +kernel), List.mem_of_getElem? (i := 580) (by decide +kernel), List.mem_of_getElem? (i := 581) (by decide +kernel)⟩
theorem lw_p23 : lw_okq (⟨"CardMessagesModel", "fill", "(IJ)V"⟩, 17) := ⟨⟨by decide +kernel, by decide +kernel⟩, List.mem_of_getElem? (i := 499) (by decide +kernel), List.mem_of_getElem? (i := 588) (by decide +kernel), List.mem_of_getElem? (i := 589) (by decide +kernel)⟩
theorem lw_p24 : lw_okq (⟨"CardMessagesModel", "setOriginal", "([IIII)V"⟩, 17) := ⟨⟨by decide +kernel, by decide +kernel⟩, List.mem_of_getElem? (i := 499) (by decide +kernel), List.mem_of_getElem? (i := 606) (by decide +kernel), List.mem_of_getElem? (i := 607) (by decide +kernel)⟩
theorem lw_p25 : lw_okq (⟨"CardMessagesModel", "write", "(I[I[I[I)V"⟩, 17) := ⟨⟨by decide +kernel, by decide +kernel⟩, List.mem_of_getElem? (i := 499) (by decide +kernel), List.mem_of_getElem? (i := 639) (by decide +kernel), List.mem_of_getElem? (i := 640) (by decide +kernel)⟩
theorem lw_p26 : lw_okq (⟨"CardMessagesModel", "pack", "([I[III)V"⟩, 17) := ⟨⟨by decide +kernel, by decide +kernel⟩, List.mem_of_getElem? (i := 499) (by decide +kernel), List.mem_of_getElem? (i := 643) (by decide +kernel), List.mem_of_getElem? (i := 644) (by decide +kernel)⟩
theorem lw_p27 : lw_okq (⟨"CardMessagesModel", "writeField", "(I[II[I)V"⟩, 17) := ⟨⟨by decide +kernel, by decide +kernel⟩, List.mem_of_getElem? (i := 499) (by decide +kernel), List.mem_of_getElem? (i := 647) (by decide +kernel), List.mem_of_getElem? (i := 648) (by decide +kernel)⟩
theorem lw_p28 : lw_okq (⟨"CardMessagesModel", "readTape", "()V"⟩, 17) := ⟨⟨by decide +kernel, by decide +kernel⟩, List.mem_of_getElem? (i := 499) (by decide +kernel), List.mem_of_getElem? (i := 667) (by decide +kernel), List.mem_of_getElem? (i := 668) (by decide +kernel)⟩
theorem lw_p29 : lw_okq (⟨"CardMessagesModel", "takeDigits", "(I[II)V"⟩, 17) := ⟨⟨by decide +kernel, by decide +kernel⟩, List.mem_of_getElem? (i := 499) (by decide +kernel), List.mem_of_getElem? (i := 671) (by decide +kernel), List.mem_of_getElem? (i := 672) (by decide +kernel)⟩
theorem lw_p30 : lw_okq (⟨"CardMessagesModel", "fails", "(II)V"⟩, 17) := ⟨⟨by decide +kernel, by decide +kernel⟩, List.mem_of_getElem? (i := 499) (by decide +kernel), List.mem_of_getElem? (i := 675) (by decide +kernel), List.mem_of_getElem? (i := 676) (by decide +kernel)⟩
theorem lw_p31 : lw_okq (⟨"CardMessagesModel", "takeMaps", "()V"⟩, 17) := ⟨⟨by decide +kernel, by decide +kernel⟩, List.mem_of_getElem? (i := 499) (by decide +kernel), List.mem_of_getElem? (i := 682) (by decide +kernel), List.mem_of_getElem? (i := 683) (by decide +kernel)⟩
def lw_privs_2 : List (MethodName × Nat) := [(⟨"CardMessages$Reader", "walkLetters", "(II)Z"⟩, 6), (⟨"CardMessages$Reader", "walkDigits", "(II)Z"⟩, 6), (⟨"java/lang/Throwable", "fillInStackTrace", "(I)Ljava/lang/Throwable;"⟩, 6), (⟨"CardMessages$Draft", "setDigits", "(IIIJ)V"⟩, 3), (⟨"CardMessagesModel", "goes", "(Z)Z"⟩, 17), (⟨"CardMessagesModel", "begin", "(I)V"⟩, 17), (⟨"CardMessagesModel", "fieldOf", "(I)I"⟩, 17), (⟨"CardMessagesModel", "fill", "(IJ)V"⟩, 17), (⟨"CardMessagesModel", "setOriginal", "([IIII)V"⟩, 17), (⟨"CardMessagesModel", "write", "(I[I[I[I)V"⟩, 17), (⟨"CardMessagesModel", "pack", "([I[III)V"⟩, 17), (⟨"CardMessagesModel", "writeField", "(I[II[I)V"⟩, 17), (⟨"CardMessagesModel", "readTape", "()V"⟩, 17), (⟨"CardMessagesModel", "takeDigits", "(I[II)V"⟩, 17), (⟨"CardMessagesModel", "fails", "(II)V"⟩, 17), (⟨"CardMessagesModel", "takeMaps", "()V"⟩, 17)]
theorem lw_r2 : ∀ q ∈ lw_privs_2, lw_okq q := List.forall_mem_cons.mpr ⟨lw_p16, List.forall_mem_cons.mpr ⟨lw_p17, List.forall_mem_cons.mpr ⟨lw_p18, List.forall_mem_cons.mpr ⟨lw_p19, List.forall_mem_cons.mpr ⟨lw_p20, List.forall_mem_cons.mpr ⟨lw_p21, List.forall_mem_cons.mpr ⟨lw_p22, List.forall_mem_cons.mpr ⟨lw_p23, List.forall_mem_cons.mpr ⟨lw_p24, List.forall_mem_cons.mpr ⟨lw_p25, List.forall_mem_cons.mpr ⟨lw_p26, List.forall_mem_cons.mpr ⟨lw_p27, List.forall_mem_cons.mpr ⟨lw_p28, List.forall_mem_cons.mpr ⟨lw_p29, List.forall_mem_cons.mpr ⟨lw_p30, List.forall_mem_cons.mpr ⟨lw_p31, fun _ h => absurd h List.not_mem_nil⟩⟩⟩⟩⟩⟩⟩⟩⟩⟩⟩⟩⟩⟩⟩⟩
theorem lw_p32 : lw_okq (⟨"CardMessagesModel", "takeField", "(I)V"⟩, 17) := ⟨⟨by decide +kernel, by decide +kernel⟩, List.mem_of_getElem? (i := 499) (by decide +kernel), List.mem_of_getElem? (i := 686) (by decide +kernel), List.mem_of_getElem? (i := 687) (by decide +kernel)⟩
theorem lw_p33 : lw_okq (⟨"CardMessagesModel", "takeLetters", "(I[II)V"⟩, 17) := ⟨⟨by decide +kernel, by decide +kernel⟩, List.mem_of_getElem? (i := 499) (by decide +kernel), List.mem_of_getElem? (i := 690) (by decide +kernel), List.mem_of_getElem? (i := 691) (by decide +kernel)⟩
def lw_privs_3 : List (MethodName × Nat) := [(⟨"CardMessagesModel", "takeField", "(I)V"⟩, 17), (⟨"CardMessagesModel", "takeLetters", "(I[II)V"⟩, 17)]
theorem lw_r3 : ∀ q ∈ lw_privs_3, lw_okq q := List.forall_mem_cons.mpr ⟨lw_p32, List.forall_mem_cons.mpr ⟨lw_p33, fun _ h => absurd h List.not_mem_nil⟩⟩
def lw_privs : List (MethodName × Nat) := lw_privs_1 ++ (lw_privs_2 ++ (lw_privs_3))
def lw_tbl : List Cond := k2_sels lw_privs ++ tables_1
theorem lw_privs_ok : ∀ q ∈ lw_privs, lw_okq q := by
  show ∀ q ∈ lw_privs_1 ++ (lw_privs_2 ++ (lw_privs_3)), lw_okq q
  exact List.forall_mem_append.mpr ⟨lw_r1, List.forall_mem_append.mpr ⟨lw_r2, lw_r3⟩⟩
end
section
def RD : String := "CardMessages$Draft"
def RR : String := "CardMessages$Reader"
def RT : String := "CardMessages$Tape"
def RC : String := "CardMessages"
def RM : String := "CardMessagesModel"
def RL : String := "CardMessagesLaw"
def TD : u_T := fun k => match k with
  | 0 => ("CardMessages$Draft", "messageType", "I", false)
  | 1 => ("CardMessages$Draft", "counts", "[I", true)
  | _ => ("CardMessages$Draft", "marks", "[B", true)
def tyD : Nat → FieldType := fun k => match k with
  | 0 => .int
  | 1 => .array .int
  | _ => .array .byte
theorem nmD : ∀ a, a < 3 → ∀ b, b < 3 → a ≠ b → (TD a).2.1 ≠ (TD b).2.1 := by decide +kernel
theorem tyD_ok : ∀ k, k < 3 → parseFieldDescriptor (TD k).2.2.1 = some (tyD k) := by decide +kernel
def TR : u_T := fun k => match k with
  | 0 => ("CardMessages$Reader", "found", "LCardMessages$Draft;", true)
  | 1 => ("CardMessages$Reader", "faultKind", "I", false)
  | 2 => ("CardMessages$Reader", "faultPlace", "I", false)
  | 3 => ("CardMessages$Reader", "tape", "LCardMessages$Tape;", true)
  | 4 => ("CardMessages$Reader", "next", "I", false)
  | _ => ("CardMessages$Reader", "lastNumber", "I", false)
def tyR : Nat → FieldType := fun k => match k with
  | 0 => .object "CardMessages$Draft"
  | 1 => .int
  | 2 => .int
  | 3 => .object "CardMessages$Tape"
  | 4 => .int
  | _ => .int
theorem nmR : ∀ a, a < 6 → ∀ b, b < 6 → a ≠ b → (TR a).2.1 ≠ (TR b).2.1 := by decide +kernel
theorem tyR_ok : ∀ k, k < 6 → parseFieldDescriptor (TR k).2.2.1 = some (tyR k) := by decide +kernel
def TT : u_T := fun k => match k with
  | 0 => ("CardMessages$Tape", "bytes", "[B", true)
  | _ => ("CardMessages$Tape", "length", "I", false)
def tyT : Nat → FieldType := fun k => match k with
  | 0 => .array .byte
  | _ => .int
theorem nmT : ∀ a, a < 2 → ∀ b, b < 2 → a ≠ b → (TT a).2.1 ≠ (TT b).2.1 := by decide +kernel
theorem tyT_ok : ∀ k, k < 2 → parseFieldDescriptor (TT k).2.2.1 = some (tyT k) := by decide +kernel
def TC : u_T := fun k => match k with
  | 0 => ("CardMessages", "draft", "LCardMessages$Draft;", true)
  | 1 => ("CardMessages", "tape", "LCardMessages$Tape;", true)
  | _ => ("CardMessages", "reader", "LCardMessages$Reader;", true)
def tyC : Nat → FieldType := fun k => match k with
  | 0 => .object "CardMessages$Draft"
  | 1 => .object "CardMessages$Tape"
  | _ => .object "CardMessages$Reader"
theorem nmC : ∀ a, a < 3 → ∀ b, b < 3 → a ≠ b → (TC a).2.1 ≠ (TC b).2.1 := by decide +kernel
theorem tyC_ok : ∀ k, k < 3 → parseFieldDescriptor (TC k).2.2.1 = some (tyC k) := by decide +kernel
def TM : u_T := fun k => match k with
  | 0 => ("CardMessagesModel", "numbers", "[I", true)
  | 1 => ("CardMessagesModel", "sizes", "[I", true)
  | 2 => ("CardMessagesModel", "forms", "[I", true)
  | 3 => ("CardMessagesModel", "code", "I", false)
  | 4 => ("CardMessagesModel", "draftType", "I", false)
  | 5 => ("CardMessagesModel", "draft", "[I", true)
  | 6 => ("CardMessagesModel", "draftSize", "[I", true)
  | 7 => ("CardMessagesModel", "readType", "I", false)
  | 8 => ("CardMessagesModel", "read", "[I", true)
  | 9 => ("CardMessagesModel", "readSize", "[I", true)
  | 10 => ("CardMessagesModel", "tape", "[I", true)
  | 11 => ("CardMessagesModel", "size", "I", false)
  | 12 => ("CardMessagesModel", "at", "I", false)
  | 13 => ("CardMessagesModel", "fault", "I", false)
  | 14 => ("CardMessagesModel", "place", "I", false)
  | 15 => ("CardMessagesModel", "written", "I", false)
  | _ => ("CardMessagesModel", "few", "[I", true)
def tyM : Nat → FieldType := fun k => match k with
  | 0 => .array .int
  | 1 => .array .int
  | 2 => .array .int
  | 3 => .int
  | 4 => .int
  | 5 => .array .int
  | 6 => .array .int
  | 7 => .int
  | 8 => .array .int
  | 9 => .array .int
  | 10 => .array .int
  | 11 => .int
  | 12 => .int
  | 13 => .int
  | 14 => .int
  | 15 => .int
  | _ => .array .int
theorem nmM : ∀ a, a < 17 → ∀ b, b < 17 → a ≠ b → (TM a).2.1 ≠ (TM b).2.1 := by decide +kernel
theorem tyM_ok : ∀ k, k < 17 → parseFieldDescriptor (TM k).2.2.1 = some (tyM k) := by decide +kernel
abbrev vwCl : List vw_C := [(RD, TD, 3), (RR, TR, 6), (RT, TT, 2), (RC, TC, 3), (RM, TM, 17)]
abbrev cC_at : ByteArray := prog_1_method_9_code
def yC_at : MethodName := ⟨RC, "at", "(II)I"⟩
abbrev cC_bytesOfDigits : ByteArray := prog_1_method_21_code
def yC_bytesOfDigits : MethodName := ⟨RC, "bytesOfDigits", "(I)I"⟩
abbrev cC_compose : ByteArray := prog_1_method_12_code
def yC_compose : MethodName := ⟨RC, "compose", "()I"⟩
abbrev cC_digitCount : ByteArray := prog_1_method_20_code
def yC_digitCount : MethodName := ⟨RC, "digitCount", "(J)I"⟩
abbrev cC_digitSlot : ByteArray := prog_1_method_19_code
def yC_digitSlot : MethodName := ⟨RC, "digitSlot", "(I)I"⟩
abbrev cC_digits : ByteArray := prog_1_method_3_code
def yC_digits : MethodName := ⟨RC, "digits", "(IJ)V"⟩
abbrev cC_fault : ByteArray := prog_1_method_16_code
def yC_fault : MethodName := ⟨RC, "fault", "(I)I"⟩
abbrev cC_feed : ByteArray := prog_1_method_13_code
def yC_feed : MethodName := ⟨RC, "feed", "(I)I"⟩
abbrev cC_fields : ByteArray := prog_1_method_11_code
def yC_fields : MethodName := ⟨RC, "fields", "()I"⟩
abbrev cC_init : ByteArray := prog_1_method_1_code
def yC_init : MethodName := ⟨RC, "<init>", "()V"⟩
abbrev cC_knownSlot : ByteArray := prog_1_method_18_code
def yC_knownSlot : MethodName := ⟨RC, "knownSlot", "(I)I"⟩
abbrev cC_letters : ByteArray := prog_1_method_4_code
def yC_letters : MethodName := ⟨RC, "letters", "(IJI)V"⟩
abbrev cC_mapBit : ByteArray := prog_1_method_23_code
def yC_mapBit : MethodName := ⟨RC, "mapBit", "(I)I"⟩
abbrev cC_mapByte : ByteArray := prog_1_method_22_code
def yC_mapByte : MethodName := ⟨RC, "mapByte", "(I)I"⟩
abbrev cC_message : ByteArray := prog_1_method_2_code
def yC_message : MethodName := ⟨RC, "message", "(I)V"⟩
abbrev cC_number : ByteArray := prog_1_method_10_code
def yC_number : MethodName := ⟨RC, "number", "(I)J"⟩
abbrev cC_omit : ByteArray := prog_1_method_6_code
def yC_omit : MethodName := ⟨RC, "omit", "(I)Z"⟩
abbrev cC_original : ByteArray := prog_1_method_5_code
def yC_original : MethodName := ⟨RC, "original", "(III)V"⟩
abbrev cC_read : ByteArray := prog_1_method_17_code
def yC_read : MethodName := ⟨RC, "read", "()Z"⟩
abbrev cC_size : ByteArray := prog_1_method_8_code
def yC_size : MethodName := ⟨RC, "size", "(I)I"⟩
abbrev cC_spoil : ByteArray := prog_1_method_15_code
def yC_spoil : MethodName := ⟨RC, "spoil", "(II)I"⟩
abbrev cC_trim : ByteArray := prog_1_method_14_code
def yC_trim : MethodName := ⟨RC, "trim", "(I)I"⟩
abbrev cC_type : ByteArray := prog_1_method_7_code
def yC_type : MethodName := ⟨RC, "type", "()I"⟩
abbrev cD_become : ByteArray := prog_2_method_3_code
def yD_become : MethodName := ⟨RD, "become", "(LCardMessages$Draft;)V"⟩
abbrev cD_fieldCount : ByteArray := prog_2_method_5_code
def yD_fieldCount : MethodName := ⟨RD, "fieldCount", "()I"⟩
abbrev cD_has : ByteArray := prog_2_method_4_code
def yD_has : MethodName := ⟨RD, "has", "(I)Z"⟩
abbrev cD_init : ByteArray := prog_2_method_1_code
def yD_init : MethodName := ⟨RD, "<init>", "()V"⟩
abbrev cD_lastDigits : ByteArray := prog_2_method_11_code
def yD_lastDigits : MethodName := ⟨RD, "lastDigits", "(I)J"⟩
abbrev cD_mark : ByteArray := prog_2_method_6_code
def yD_mark : MethodName := ⟨RD, "mark", "(II)I"⟩
abbrev cD_putLetters : ByteArray := prog_2_method_10_code
def yD_putLetters : MethodName := ⟨RD, "putLetters", "(IIJ)V"⟩
abbrev cD_putNumber : ByteArray := prog_2_method_8_code
def yD_putNumber : MethodName := ⟨RD, "putNumber", "(IIJ)V"⟩
abbrev cD_putOriginal : ByteArray := prog_2_method_9_code
def yD_putOriginal : MethodName := ⟨RD, "putOriginal", "(III)V"⟩
abbrev cD_restart : ByteArray := prog_2_method_2_code
def yD_restart : MethodName := ⟨RD, "restart", "(I)V"⟩
abbrev cD_setDigits : ByteArray := prog_2_method_12_code
def yD_setDigits : MethodName := ⟨RD, "setDigits", "(IIIJ)V"⟩
abbrev cD_setMark : ByteArray := prog_2_method_7_code
def yD_setMark : MethodName := ⟨RD, "setMark", "(III)V"⟩
abbrev cL_at : ByteArray := method_9_code
def yL_at : MethodName := ⟨RL, "at", "(LCardMessages;II[J)I"⟩
abbrev cL_digits : ByteArray := method_4_code
def yL_digits : MethodName := ⟨RL, "digits", "(LCardMessages;IJ)I"⟩
abbrev cL_fault : ByteArray := method_14_code
def yL_fault : MethodName := ⟨RL, "fault", "(LCardMessages;I[J)I"⟩
abbrev cL_feed : ByteArray := method_11_code
def yL_feed : MethodName := ⟨RL, "feed", "(LCardMessages;I[J)I"⟩
abbrev cL_law : ByteArray := code
def yL_law : MethodName := ⟨RL, "law", "([I)Z"⟩
abbrev cL_letters : ByteArray := method_5_code
def yL_letters : MethodName := ⟨RL, "letters", "(LCardMessages;IJI)I"⟩
abbrev cL_message : ByteArray := method_3_code
def yL_message : MethodName := ⟨RL, "message", "(LCardMessages;I)I"⟩
abbrev cL_number : ByteArray := method_10_code
def yL_number : MethodName := ⟨RL, "number", "(LCardMessages;I[J)I"⟩
abbrev cL_omit : ByteArray := method_7_code
def yL_omit : MethodName := ⟨RL, "omit", "(LCardMessages;I[J)I"⟩
abbrev cL_original : ByteArray := method_6_code
def yL_original : MethodName := ⟨RL, "original", "(LCardMessages;III)I"⟩
abbrev cL_size : ByteArray := method_8_code
def yL_size : MethodName := ⟨RL, "size", "(LCardMessages;I[J)I"⟩
abbrev cL_spoil : ByteArray := method_13_code
def yL_spoil : MethodName := ⟨RL, "spoil", "(LCardMessages;II[J)I"⟩
abbrev cL_trim : ByteArray := method_12_code
def yL_trim : MethodName := ⟨RL, "trim", "(LCardMessages;I[J)I"⟩
abbrev cM_at : ByteArray := prog_6_method_18_code
def yM_at : MethodName := ⟨RM, "at", "(II)I"⟩
abbrev cM_begin : ByteArray := prog_6_method_8_code
def yM_begin : MethodName := ⟨RM, "begin", "(I)V"⟩
abbrev cM_clear : ByteArray := prog_6_method_4_code
def yM_clear : MethodName := ⟨RM, "clear", "([I)V"⟩
abbrev cM_compose : ByteArray := prog_6_method_24_code
def yM_compose : MethodName := ⟨RM, "compose", "()I"⟩
abbrev cM_digits : ByteArray := prog_6_method_11_code
def yM_digits : MethodName := ⟨RM, "digits", "(IJ)V"⟩
abbrev cM_fails : ByteArray := prog_6_method_25_code
def yM_fails : MethodName := ⟨RM, "fails", "(II)V"⟩
abbrev cM_fault : ByteArray := prog_6_method_35_code
def yM_fault : MethodName := ⟨RM, "fault", "(I)I"⟩
abbrev cM_feed : ByteArray := prog_6_method_32_code
def yM_feed : MethodName := ⟨RM, "feed", "(I)I"⟩
abbrev cM_fieldOf : ByteArray := prog_6_method_7_code
def yM_fieldOf : MethodName := ⟨RM, "fieldOf", "(I)I"⟩
abbrev cM_fields : ByteArray := prog_6_method_20_code
def yM_fields : MethodName := ⟨RM, "fields", "()I"⟩
abbrev cM_fill : ByteArray := prog_6_method_10_code
def yM_fill : MethodName := ⟨RM, "fill", "(IJ)V"⟩
abbrev cM_goes : ByteArray := prog_6_method_3_code
def yM_goes : MethodName := ⟨RM, "goes", "(Z)Z"⟩
abbrev cM_init : ByteArray := prog_6_method_1_code
def yM_init : MethodName := ⟨RM, "<init>", "()V"⟩
abbrev cM_isType : ByteArray := prog_6_method_28_code
def yM_isType : MethodName := ⟨RM, "isType", "(I)Z"⟩
abbrev cM_letters : ByteArray := prog_6_method_12_code
def yM_letters : MethodName := ⟨RM, "letters", "(IJI)V"⟩
abbrev cM_message : ByteArray := prog_6_method_9_code
def yM_message : MethodName := ⟨RM, "message", "(I)V"⟩
abbrev cM_number : ByteArray := prog_6_method_19_code
def yM_number : MethodName := ⟨RM, "number", "(I)J"⟩
abbrev cM_omit : ByteArray := prog_6_method_15_code
def yM_omit : MethodName := ⟨RM, "omit", "(I)Z"⟩
abbrev cM_original : ByteArray := prog_6_method_14_code
def yM_original : MethodName := ⟨RM, "original", "(III)V"⟩
abbrev cM_pack : ByteArray := prog_6_method_21_code
def yM_pack : MethodName := ⟨RM, "pack", "([I[III)V"⟩
abbrev cM_read : ByteArray := prog_6_method_36_code
def yM_read : MethodName := ⟨RM, "read", "()Z"⟩
abbrev cM_readTape : ByteArray := prog_6_method_31_code
def yM_readTape : MethodName := ⟨RM, "readTape", "()V"⟩
abbrev cM_setDigits : ByteArray := prog_6_method_6_code
def yM_setDigits : MethodName := ⟨RM, "setDigits", "([IIJI)V"⟩
abbrev cM_setOriginal : ByteArray := prog_6_method_13_code
def yM_setOriginal : MethodName := ⟨RM, "setOriginal", "([IIII)V"⟩
abbrev cM_size : ByteArray := prog_6_method_17_code
def yM_size : MethodName := ⟨RM, "size", "(I)I"⟩
abbrev cM_spoil : ByteArray := prog_6_method_34_code
def yM_spoil : MethodName := ⟨RM, "spoil", "(II)I"⟩
abbrev cM_takeDigits : ByteArray := prog_6_method_26_code
def yM_takeDigits : MethodName := ⟨RM, "takeDigits", "(I[II)V"⟩
abbrev cM_takeField : ByteArray := prog_6_method_30_code
def yM_takeField : MethodName := ⟨RM, "takeField", "(I)V"⟩
abbrev cM_takeLetters : ByteArray := prog_6_method_27_code
def yM_takeLetters : MethodName := ⟨RM, "takeLetters", "(I[II)V"⟩
abbrev cM_takeMaps : ByteArray := prog_6_method_29_code
def yM_takeMaps : MethodName := ⟨RM, "takeMaps", "()V"⟩
abbrev cM_thrown : ByteArray := prog_6_method_2_code
def yM_thrown : MethodName := ⟨RM, "thrown", "()I"⟩
abbrev cM_trim : ByteArray := prog_6_method_33_code
def yM_trim : MethodName := ⟨RM, "trim", "(I)I"⟩
abbrev cM_type : ByteArray := prog_6_method_16_code
def yM_type : MethodName := ⟨RM, "type", "()I"⟩
abbrev cM_width : ByteArray := prog_6_method_5_code
def yM_width : MethodName := ⟨RM, "width", "(J)I"⟩
abbrev cM_write : ByteArray := prog_6_method_22_code
def yM_write : MethodName := ⟨RM, "write", "(I[I[I[I)V"⟩
abbrev cM_writeField : ByteArray := prog_6_method_23_code
def yM_writeField : MethodName := ⟨RM, "writeField", "(I[II[I)V"⟩
abbrev cR_areDigits : ByteArray := prog_3_method_11_code
def yR_areDigits : MethodName := ⟨RR, "areDigits", "(I)Z"⟩
abbrev cR_digitAhead : ByteArray := prog_3_method_12_code
def yR_digitAhead : MethodName := ⟨RR, "digitAhead", "(II)I"⟩
abbrev cR_fail : ByteArray := prog_3_method_15_code
def yR_fail : MethodName := ⟨RR, "fail", "(II)Z"⟩
abbrev cR_halfAhead : ByteArray := prog_3_method_13_code
def yR_halfAhead : MethodName := ⟨RR, "halfAhead", "(I)I"⟩
abbrev cR_hasBit : ByteArray := prog_3_method_5_code
def yR_hasBit : MethodName := ⟨RR, "hasBit", "(I)Z"⟩
abbrev cR_init : ByteArray := prog_3_method_1_code
def yR_init : MethodName := ⟨RR, "<init>", "(LCardMessages$Tape;)V"⟩
abbrev cR_isLetter : ByteArray := prog_3_method_10_code
def yR_isLetter : MethodName := ⟨RR, "isLetter", "(I)Z"⟩
abbrev cR_reaches : ByteArray := prog_3_method_14_code
def yR_reaches : MethodName := ⟨RR, "reaches", "(I)Z"⟩
abbrev cR_walk : ByteArray := prog_3_method_2_code
def yR_walk : MethodName := ⟨RR, "walk", "()Z"⟩
abbrev cR_walkDigits : ByteArray := prog_3_method_8_code
def yR_walkDigits : MethodName := ⟨RR, "walkDigits", "(II)Z"⟩
abbrev cR_walkField : ByteArray := prog_3_method_6_code
def yR_walkField : MethodName := ⟨RR, "walkField", "(I)Z"⟩
abbrev cR_walkLetters : ByteArray := prog_3_method_9_code
def yR_walkLetters : MethodName := ⟨RR, "walkLetters", "(II)Z"⟩
abbrev cR_walkMaps : ByteArray := prog_3_method_4_code
def yR_walkMaps : MethodName := ⟨RR, "walkMaps", "()Z"⟩
abbrev cR_walkNumber : ByteArray := prog_3_method_7_code
def yR_walkNumber : MethodName := ⟨RR, "walkNumber", "(I)Z"⟩
abbrev cR_walkType : ByteArray := prog_3_method_3_code
def yR_walkType : MethodName := ⟨RR, "walkType", "()Z"⟩
abbrev cT_append : ByteArray := prog_4_method_4_code
def yT_append : MethodName := ⟨RT, "append", "(I)V"⟩
abbrev cT_appendDigits : ByteArray := prog_4_method_10_code
def yT_appendDigits : MethodName := ⟨RT, "appendDigits", "(LCardMessages$Draft;II)V"⟩
abbrev cT_appendField : ByteArray := prog_4_method_8_code
def yT_appendField : MethodName := ⟨RT, "appendField", "(LCardMessages$Draft;I)V"⟩
abbrev cT_appendLetters : ByteArray := prog_4_method_11_code
def yT_appendLetters : MethodName := ⟨RT, "appendLetters", "(LCardMessages$Draft;II)V"⟩
abbrev cT_appendMaps : ByteArray := prog_4_method_6_code
def yT_appendMaps : MethodName := ⟨RT, "appendMaps", "(LCardMessages$Draft;)V"⟩
abbrev cT_appendNumber : ByteArray := prog_4_method_9_code
def yT_appendNumber : MethodName := ⟨RT, "appendNumber", "(II)V"⟩
abbrev cT_appendPair : ByteArray := prog_4_method_12_code
def yT_appendPair : MethodName := ⟨RT, "appendPair", "(II)V"⟩
abbrev cT_byteAt : ByteArray := prog_4_method_2_code
def yT_byteAt : MethodName := ⟨RT, "byteAt", "(I)I"⟩
abbrev cT_flip : ByteArray := prog_4_method_3_code
def yT_flip : MethodName := ⟨RT, "flip", "(II)V"⟩
abbrev cT_hasFieldOfSecondMap : ByteArray := prog_4_method_7_code
def yT_hasFieldOfSecondMap : MethodName := ⟨RT, "hasFieldOfSecondMap", "(LCardMessages$Draft;)Z"⟩
abbrev cT_init : ByteArray := prog_4_method_1_code
def yT_init : MethodName := ⟨RT, "<init>", "()V"⟩
abbrev cT_write : ByteArray := prog_4_method_5_code
def yT_write : MethodName := ⟨RT, "write", "(LCardMessages$Draft;)V"⟩
/-- the words that a method may use: all of the tables that keep -/
def BIG : List Cond := lw_tbl.filter goodWord
theorem mB {w : Cond} (h : w ∈ lw_tbl) (g : goodWord w = true) : w ∈ BIG := List.mem_filter.mpr ⟨h, g⟩
theorem tb_1 {w : Cond} (h : w ∈ tables_1_1) : w ∈ lw_tbl := List.mem_append_right _ (List.mem_append_left _ h)
theorem tb_2 {w : Cond} (h : w ∈ tables_1_2) : w ∈ lw_tbl := List.mem_append_right _ (List.mem_append_right _ (List.mem_append_left _ h))
theorem tb_3 {w : Cond} (h : w ∈ tables_1_3) : w ∈ lw_tbl := List.mem_append_right _ (List.mem_append_right _ (List.mem_append_right _ h))
theorem tb_0 {w : Cond} (h : w ∈ k2_sels lw_privs) : w ∈ lw_tbl := List.mem_append_left _ h
theorem big_good : ∀ w ∈ BIG, goodWord w = true := fun _ h => (List.mem_filter.mp h).2
theorem big_gi : GoodIn BIG BIG := fun w h => ⟨h, good_of_word (big_good w h)⟩
theorem big_hts {args : Array Value} {s : State} (h : ∀ w ∈ lw_tbl, w.before args s = true) : ∀ w ∈ BIG, w.before args s = true := fun w hw => h w (List.mem_filter.mp hw).1
def wsC_at : List Cond := .code yC_at cC_at 4 (some .int) :: BIG
def wsC_bytesOfDigits : List Cond := .code yC_bytesOfDigits cC_bytesOfDigits 1 (some .int) :: BIG
def wsC_compose : List Cond := .code yC_compose cC_compose 1 (some .int) :: BIG
def wsC_digitCount : List Cond := .code yC_digitCount cC_digitCount 5 (some .int) :: BIG
def wsC_digitSlot : List Cond := .code yC_digitSlot cC_digitSlot 2 (some .int) :: BIG
def wsC_digits : List Cond := .code yC_digits cC_digits 6 none :: BIG
def wsC_fault : List Cond := .code yC_fault cC_fault 2 (some .int) :: BIG
def wsC_feed : List Cond := .code yC_feed cC_feed 3 (some .int) :: BIG
def wsC_fields : List Cond := .code yC_fields cC_fields 1 (some .int) :: BIG
def wsC_init : List Cond := .code yC_init cC_init 1 none :: BIG
def wsC_knownSlot : List Cond := .code yC_knownSlot cC_knownSlot 2 (some .int) :: BIG
def wsC_letters : List Cond := .code yC_letters cC_letters 7 none :: BIG
def wsC_mapBit : List Cond := .code yC_mapBit cC_mapBit 1 (some .int) :: BIG
def wsC_mapByte : List Cond := .code yC_mapByte cC_mapByte 1 (some .int) :: BIG
def wsC_message : List Cond := .code yC_message cC_message 2 none :: BIG
def wsC_number : List Cond := .code yC_number cC_number 3 (some .long) :: BIG
def wsC_omit : List Cond := .code yC_omit cC_omit 4 (some .boolean) :: BIG
def wsC_original : List Cond := .code yC_original cC_original 4 none :: BIG
def wsC_read : List Cond := .code yC_read cC_read 1 (some .boolean) :: BIG
def wsC_size : List Cond := .code yC_size cC_size 3 (some .int) :: BIG
def wsC_spoil : List Cond := .code yC_spoil cC_spoil 3 (some .int) :: BIG
def wsC_trim : List Cond := .code yC_trim cC_trim 2 (some .int) :: BIG
def wsC_type : List Cond := .code yC_type cC_type 1 (some .int) :: BIG
def wsD_become : List Cond := .code yD_become cD_become 2 none :: BIG
def wsD_fieldCount : List Cond := .code yD_fieldCount cD_fieldCount 3 (some .int) :: BIG
def wsD_has : List Cond := .code yD_has cD_has 2 (some .boolean) :: BIG
def wsD_init : List Cond := .code yD_init cD_init 1 none :: BIG
def wsD_lastDigits : List Cond := .code yD_lastDigits cD_lastDigits 6 (some .long) :: BIG
def wsD_mark : List Cond := .code yD_mark cD_mark 3 (some .int) :: BIG
def wsD_putLetters : List Cond := .code yD_putLetters cD_putLetters 7 none :: BIG
def wsD_putNumber : List Cond := .code yD_putNumber cD_putNumber 5 none :: BIG
def wsD_putOriginal : List Cond := .code yD_putOriginal cD_putOriginal 4 none :: BIG
def wsD_restart : List Cond := .code yD_restart cD_restart 3 none :: BIG
def wsD_setDigits : List Cond := .code yD_setDigits cD_setDigits 9 none :: BIG
def wsD_setMark : List Cond := .code yD_setMark cD_setMark 4 none :: BIG
def wsL_at : List Cond := .codeWith yL_at cL_at 5 (some .int) [(0, 10, 13, 13)] :: BIG
def wsL_digits : List Cond := .codeWith yL_digits cL_digits 5 (some .int) [(0, 6, 9, 13)] :: BIG
def wsL_fault : List Cond := .codeWith yL_fault cL_fault 4 (some .int) [(0, 9, 12, 13)] :: BIG
def wsL_feed : List Cond := .codeWith yL_feed cL_feed 4 (some .int) [(0, 9, 12, 46)] :: BIG
def wsL_letters : List Cond := .codeWith yL_letters cL_letters 6 (some .int) [(0, 8, 11, 13)] :: BIG
def wsL_message : List Cond := .codeWith yL_message cL_message 3 (some .int) [(0, 5, 8, 13)] :: BIG
def wsL_number : List Cond := .codeWith yL_number cL_number 4 (some .int) [(0, 8, 11, 13)] :: BIG
def wsL_omit : List Cond := .codeWith yL_omit cL_omit 4 (some .int) [(0, 16, 19, 13)] :: BIG
def wsL_original : List Cond := .codeWith yL_original cL_original 5 (some .int) [(0, 7, 10, 13)] :: BIG
def wsL_size : List Cond := .codeWith yL_size cL_size 4 (some .int) [(0, 9, 12, 13)] :: BIG
def wsL_spoil : List Cond := .codeWith yL_spoil cL_spoil 5 (some .int) [(0, 10, 13, 13)] :: BIG
def wsL_trim : List Cond := .codeWith yL_trim cL_trim 4 (some .int) [(0, 9, 12, 13)] :: BIG
def wsM_at : List Cond := .code yM_at cM_at 5 (some .int) :: BIG
def wsM_begin : List Cond := .code yM_begin cM_begin 2 none :: BIG
def wsM_clear : List Cond := .code yM_clear cM_clear 2 none :: BIG
def wsM_compose : List Cond := .code yM_compose cM_compose 1 (some .int) :: BIG
def wsM_digits : List Cond := .code yM_digits cM_digits 5 none :: BIG
def wsM_fails : List Cond := .code yM_fails cM_fails 3 none :: BIG
def wsM_fault : List Cond := .code yM_fault cM_fault 2 (some .int) :: BIG
def wsM_feed : List Cond := .code yM_feed cM_feed 3 (some .int) :: BIG
def wsM_fieldOf : List Cond := .code yM_fieldOf cM_fieldOf 4 (some .int) :: BIG
def wsM_fields : List Cond := .code yM_fields cM_fields 3 (some .int) :: BIG
def wsM_fill : List Cond := .code yM_fill cM_fill 4 none :: BIG
def wsM_goes : List Cond := .code yM_goes cM_goes 2 (some .boolean) :: BIG
def wsM_init : List Cond := .code yM_init cM_init 1 none :: BIG
def wsM_isType : List Cond := .code yM_isType cM_isType 2 (some .boolean) :: BIG
def wsM_letters : List Cond := .code yM_letters cM_letters 8 none :: BIG
def wsM_message : List Cond := .code yM_message cM_message 2 none :: BIG
def wsM_number : List Cond := .code yM_number cM_number 6 (some .long) :: BIG
def wsM_omit : List Cond := .code yM_omit cM_omit 4 (some .boolean) :: BIG
def wsM_original : List Cond := .code yM_original cM_original 4 none :: BIG
def wsM_pack : List Cond := .code yM_pack cM_pack 6 none :: BIG
def wsM_read : List Cond := .code yM_read cM_read 3 (some .boolean) :: BIG
def wsM_readTape : List Cond := .code yM_readTape cM_readTape 2 none :: BIG
def wsM_setDigits : List Cond := .code yM_setDigits cM_setDigits 8 none :: BIG
def wsM_setOriginal : List Cond := .code yM_setOriginal cM_setOriginal 6 none :: BIG
def wsM_size : List Cond := .code yM_size cM_size 3 (some .int) :: BIG
def wsM_spoil : List Cond := .code yM_spoil cM_spoil 3 (some .int) :: BIG
def wsM_takeDigits : List Cond := .code yM_takeDigits cM_takeDigits 10 none :: BIG
def wsM_takeField : List Cond := .code yM_takeField cM_takeField 5 none :: BIG
def wsM_takeLetters : List Cond := .code yM_takeLetters cM_takeLetters 7 none :: BIG
def wsM_takeMaps : List Cond := .code yM_takeMaps cM_takeMaps 5 none :: BIG
def wsM_thrown : List Cond := .code yM_thrown cM_thrown 1 (some .int) :: BIG
def wsM_trim : List Cond := .code yM_trim cM_trim 2 (some .int) :: BIG
def wsM_type : List Cond := .code yM_type cM_type 1 (some .int) :: BIG
def wsM_width : List Cond := .code yM_width cM_width 5 (some .int) :: BIG
def wsM_write : List Cond := .code yM_write cM_write 8 none :: BIG
def wsM_writeField : List Cond := .code yM_writeField cM_writeField 7 none :: BIG
def wsR_areDigits : List Cond := .code yR_areDigits cR_areDigits 4 (some .boolean) :: BIG
def wsR_digitAhead : List Cond := .code yR_digitAhead cR_digitAhead 3 (some .int) :: BIG
def wsR_fail : List Cond := .code yR_fail cR_fail 3 (some .boolean) :: BIG
def wsR_halfAhead : List Cond := .code yR_halfAhead cR_halfAhead 3 (some .int) :: BIG
def wsR_hasBit : List Cond := .code yR_hasBit cR_hasBit 3 (some .boolean) :: BIG
def wsR_init : List Cond := .code yR_init cR_init 2 none :: BIG
def wsR_isLetter : List Cond := .code yR_isLetter cR_isLetter 1 (some .boolean) :: BIG
def wsR_reaches : List Cond := .code yR_reaches cR_reaches 2 (some .boolean) :: BIG
def wsR_walk : List Cond := .code yR_walk cR_walk 5 (some .boolean) :: BIG
def wsR_walkDigits : List Cond := .code yR_walkDigits cR_walkDigits 4 (some .boolean) :: BIG
def wsR_walkField : List Cond := .code yR_walkField cR_walkField 4 (some .boolean) :: BIG
def wsR_walkLetters : List Cond := .code yR_walkLetters cR_walkLetters 5 (some .boolean) :: BIG
def wsR_walkMaps : List Cond := .code yR_walkMaps cR_walkMaps 4 (some .boolean) :: BIG
def wsR_walkNumber : List Cond := .code yR_walkNumber cR_walkNumber 3 (some .boolean) :: BIG
def wsR_walkType : List Cond := .code yR_walkType cR_walkType 2 (some .boolean) :: BIG
def wsT_append : List Cond := .code yT_append cT_append 2 none :: BIG
def wsT_appendDigits : List Cond := .code yT_appendDigits cT_appendDigits 6 none :: BIG
def wsT_appendField : List Cond := .code yT_appendField cT_appendField 4 none :: BIG
def wsT_appendLetters : List Cond := .code yT_appendLetters cT_appendLetters 5 none :: BIG
def wsT_appendMaps : List Cond := .code yT_appendMaps cT_appendMaps 5 none :: BIG
def wsT_appendNumber : List Cond := .code yT_appendNumber cT_appendNumber 3 none :: BIG
def wsT_appendPair : List Cond := .code yT_appendPair cT_appendPair 3 none :: BIG
def wsT_byteAt : List Cond := .code yT_byteAt cT_byteAt 2 (some .int) :: BIG
def wsT_flip : List Cond := .code yT_flip cT_flip 3 none :: BIG
def wsT_hasFieldOfSecondMap : List Cond := .code yT_hasFieldOfSecondMap cT_hasFieldOfSecondMap 2 (some .boolean) :: BIG
def wsT_init : List Cond := .code yT_init cT_init 1 none :: BIG
def wsT_write : List Cond := .code yT_write cT_write 3 none :: BIG
theorem w_in_L : (.initialized RL : Cond) ∈ BIG := mB (tb_1 (List.mem_of_getElem? (i := 0) rfl)) (by decide +kernel)
theorem w_in_C : (.initialized RC : Cond) ∈ BIG := mB (tb_1 (List.mem_of_getElem? (i := 1) rfl)) (by decide +kernel)
theorem w_in_D : (.initialized RD : Cond) ∈ BIG := mB (tb_1 (List.mem_of_getElem? (i := 2) rfl)) (by decide +kernel)
theorem w_in_T : (.initialized RT : Cond) ∈ BIG := mB (tb_1 (List.mem_of_getElem? (i := 3) rfl)) (by decide +kernel)
theorem w_in_R : (.initialized RR : Cond) ∈ BIG := mB (tb_1 (List.mem_of_getElem? (i := 4) rfl)) (by decide +kernel)
theorem w_in_M : (.initialized RM : Cond) ∈ BIG := mB (tb_1 (List.mem_of_getElem? (i := 5) rfl)) (by decide +kernel)
theorem w_in_Throwable : (.initialized "java/lang/Throwable" : Cond) ∈ BIG := mB (tb_1 (List.mem_of_getElem? (i := 6) rfl)) (by decide +kernel)
theorem w_in_Exception : (.initialized "java/lang/Exception" : Cond) ∈ BIG := mB (tb_1 (List.mem_of_getElem? (i := 7) rfl)) (by decide +kernel)
theorem w_in_RuntimeException : (.initialized "java/lang/RuntimeException" : Cond) ∈ BIG := mB (tb_1 (List.mem_of_getElem? (i := 8) rfl)) (by decide +kernel)
theorem w_in_IllegalArgumentException : (.initialized "java/lang/IllegalArgumentException" : Cond) ∈ BIG := mB (tb_1 (List.mem_of_getElem? (i := 9) rfl)) (by decide +kernel)
theorem w_in_Math : (.initialized "java/lang/Math" : Cond) ∈ BIG := mB (tb_1 (List.mem_of_getElem? (i := 10) rfl)) (by decide +kernel)
theorem w_in_IllegalStateException : (.initialized "java/lang/IllegalStateException" : Cond) ∈ BIG := mB (tb_1 (List.mem_of_getElem? (i := 11) rfl)) (by decide +kernel)
theorem w_in_System : (.initialized "java/lang/System" : Cond) ∈ BIG := mB (tb_1 (List.mem_of_getElem? (i := 12) rfl)) (by decide +kernel)
theorem w_cl_L_8 : (.classLink RL 8 RC : Cond) ∈ BIG := mB (tb_1 (List.mem_of_getElem? (i := 13) rfl)) (by decide +kernel)
theorem w_is_C : (.instantiable RC 3 : Cond) ∈ BIG := mB (tb_1 (List.mem_of_getElem? (i := 14) rfl)) (by decide +kernel)
theorem w_ml_L_57 : (.methodLink RL 57 yC_init : Cond) ∈ BIG := mB (tb_1 (List.mem_of_getElem? (i := 15) rfl)) (by decide +kernel)
theorem w_im_C_init : (.instanceMethod yC_init : Cond) ∈ BIG := mB (tb_1 (List.mem_of_getElem? (i := 16) rfl)) (by decide +kernel)
theorem w_ml_C_1 : (.methodLink RC 1 objectInit : Cond) ∈ BIG := mB (tb_1 (List.mem_of_getElem? (i := 18) rfl)) (by decide +kernel)
theorem w_im_object : (.instanceMethod objectInit : Cond) ∈ BIG := mB (tb_1 (List.mem_of_getElem? (i := 19) rfl)) (by decide +kernel)
theorem w_cl_C_7 : (.classLink RC 7 RD : Cond) ∈ BIG := mB (tb_1 (List.mem_of_getElem? (i := 21) rfl)) (by decide +kernel)
theorem w_is_D : (.instantiable RD 3 : Cond) ∈ BIG := mB (tb_1 (List.mem_of_getElem? (i := 22) rfl)) (by decide +kernel)
theorem w_im_D_init : (.instanceMethod yD_init : Cond) ∈ BIG := mB (tb_1 (List.mem_of_getElem? (i := 24) rfl)) (by decide +kernel)
theorem w_ml_D_3 : (.methodLink RD 3 objectInit : Cond) ∈ BIG := mB (tb_1 (List.mem_of_getElem? (i := 26) rfl)) (by decide +kernel)
theorem w_fl_D_9 : (.fieldLink RD 9 "CardMessages$Draft" "messageType" "I" : Cond) ∈ BIG := mB (tb_1 (List.mem_of_getElem? (i := 27) rfl)) (by decide +kernel)
theorem w_fl_T_19 : (.fieldLink RT 19 "CardMessages$Draft" "messageType" "I" : Cond) ∈ BIG := mB (tb_1 (List.mem_of_getElem? (i := 28) rfl)) (by decide +kernel)
theorem w_fl_C_92 : (.fieldLink RC 92 "CardMessages$Draft" "messageType" "I" : Cond) ∈ BIG := mB (tb_1 (List.mem_of_getElem? (i := 29) rfl)) (by decide +kernel)
theorem w_fl_D_15 : (.fieldLink RD 15 "CardMessages$Draft" "counts" "[I" : Cond) ∈ BIG := mB (tb_1 (List.mem_of_getElem? (i := 30) rfl)) (by decide +kernel)
theorem w_fl_C_89 : (.fieldLink RC 89 "CardMessages$Draft" "counts" "[I" : Cond) ∈ BIG := mB (tb_1 (List.mem_of_getElem? (i := 31) rfl)) (by decide +kernel)
theorem w_fl_T_62 : (.fieldLink RT 62 "CardMessages$Draft" "counts" "[I" : Cond) ∈ BIG := mB (tb_1 (List.mem_of_getElem? (i := 32) rfl)) (by decide +kernel)
theorem w_fl_R_117 : (.fieldLink RR 117 "CardMessages$Draft" "counts" "[I" : Cond) ∈ BIG := mB (tb_1 (List.mem_of_getElem? (i := 33) rfl)) (by decide +kernel)
theorem w_fl_D_19 : (.fieldLink RD 19 "CardMessages$Draft" "marks" "[B" : Cond) ∈ BIG := mB (tb_1 (List.mem_of_getElem? (i := 34) rfl)) (by decide +kernel)
theorem w_ac_int : (.arrayClass .int : Cond) ∈ BIG := mB (tb_1 (List.mem_of_getElem? (i := 42) rfl)) (by decide +kernel)
theorem w_ac_byte : (.arrayClass .byte : Cond) ∈ BIG := mB (tb_1 (List.mem_of_getElem? (i := 43) rfl)) (by decide +kernel)
theorem w_cl_C_16 : (.classLink RC 16 RT : Cond) ∈ BIG := mB (tb_1 (List.mem_of_getElem? (i := 44) rfl)) (by decide +kernel)
theorem w_is_T : (.instantiable RT 2 : Cond) ∈ BIG := mB (tb_1 (List.mem_of_getElem? (i := 45) rfl)) (by decide +kernel)
theorem w_im_T_init : (.instanceMethod yT_init : Cond) ∈ BIG := mB (tb_1 (List.mem_of_getElem? (i := 47) rfl)) (by decide +kernel)
theorem w_ml_T_3 : (.methodLink RT 3 objectInit : Cond) ∈ BIG := mB (tb_1 (List.mem_of_getElem? (i := 49) rfl)) (by decide +kernel)
theorem w_fl_T_9 : (.fieldLink RT 9 "CardMessages$Tape" "bytes" "[B" : Cond) ∈ BIG := mB (tb_1 (List.mem_of_getElem? (i := 50) rfl)) (by decide +kernel)
theorem w_fl_T_15 : (.fieldLink RT 15 "CardMessages$Tape" "length" "I" : Cond) ∈ BIG := mB (tb_1 (List.mem_of_getElem? (i := 51) rfl)) (by decide +kernel)
theorem w_fl_R_62 : (.fieldLink RR 62 "CardMessages$Tape" "length" "I" : Cond) ∈ BIG := mB (tb_1 (List.mem_of_getElem? (i := 52) rfl)) (by decide +kernel)
theorem w_fl_C_116 : (.fieldLink RC 116 "CardMessages$Tape" "length" "I" : Cond) ∈ BIG := mB (tb_1 (List.mem_of_getElem? (i := 53) rfl)) (by decide +kernel)
theorem w_cl_C_23 : (.classLink RC 23 RR : Cond) ∈ BIG := mB (tb_1 (List.mem_of_getElem? (i := 59) rfl)) (by decide +kernel)
theorem w_is_R : (.instantiable RR 6 : Cond) ∈ BIG := mB (tb_1 (List.mem_of_getElem? (i := 60) rfl)) (by decide +kernel)
theorem w_ml_C_25 : (.methodLink RC 25 yR_init : Cond) ∈ BIG := mB (tb_1 (List.mem_of_getElem? (i := 61) rfl)) (by decide +kernel)
theorem w_im_R_init : (.instanceMethod yR_init : Cond) ∈ BIG := mB (tb_1 (List.mem_of_getElem? (i := 62) rfl)) (by decide +kernel)
theorem w_ml_R_3 : (.methodLink RR 3 objectInit : Cond) ∈ BIG := mB (tb_1 (List.mem_of_getElem? (i := 64) rfl)) (by decide +kernel)
theorem w_cl_R_9 : (.classLink RR 9 RD : Cond) ∈ BIG := mB (tb_1 (List.mem_of_getElem? (i := 65) rfl)) (by decide +kernel)
theorem w_fl_R_12 : (.fieldLink RR 12 "CardMessages$Reader" "found" "LCardMessages$Draft;" : Cond) ∈ BIG := mB (tb_1 (List.mem_of_getElem? (i := 67) rfl)) (by decide +kernel)
theorem w_fl_C_150 : (.fieldLink RC 150 "CardMessages$Reader" "found" "LCardMessages$Draft;" : Cond) ∈ BIG := mB (tb_1 (List.mem_of_getElem? (i := 68) rfl)) (by decide +kernel)
theorem w_fl_R_18 : (.fieldLink RR 18 "CardMessages$Reader" "faultKind" "I" : Cond) ∈ BIG := mB (tb_1 (List.mem_of_getElem? (i := 69) rfl)) (by decide +kernel)
theorem w_fl_C_144 : (.fieldLink RC 144 "CardMessages$Reader" "faultKind" "I" : Cond) ∈ BIG := mB (tb_1 (List.mem_of_getElem? (i := 70) rfl)) (by decide +kernel)
theorem w_fl_R_22 : (.fieldLink RR 22 "CardMessages$Reader" "faultPlace" "I" : Cond) ∈ BIG := mB (tb_1 (List.mem_of_getElem? (i := 71) rfl)) (by decide +kernel)
theorem w_fl_C_147 : (.fieldLink RC 147 "CardMessages$Reader" "faultPlace" "I" : Cond) ∈ BIG := mB (tb_1 (List.mem_of_getElem? (i := 72) rfl)) (by decide +kernel)
theorem w_fl_R_31 : (.fieldLink RR 31 "CardMessages$Reader" "tape" "LCardMessages$Tape;" : Cond) ∈ BIG := mB (tb_1 (List.mem_of_getElem? (i := 73) rfl)) (by decide +kernel)
theorem w_fl_R_25 : (.fieldLink RR 25 "CardMessages$Reader" "next" "I" : Cond) ∈ BIG := mB (tb_1 (List.mem_of_getElem? (i := 74) rfl)) (by decide +kernel)
theorem w_fl_R_28 : (.fieldLink RR 28 "CardMessages$Reader" "lastNumber" "I" : Cond) ∈ BIG := mB (tb_1 (List.mem_of_getElem? (i := 75) rfl)) (by decide +kernel)
theorem w_fl_C_10 : (.fieldLink RC 10 "CardMessages" "draft" "LCardMessages$Draft;" : Cond) ∈ BIG := mB (tb_1 (List.mem_of_getElem? (i := 89) rfl)) (by decide +kernel)
theorem w_fl_C_19 : (.fieldLink RC 19 "CardMessages" "tape" "LCardMessages$Tape;" : Cond) ∈ BIG := mB (tb_1 (List.mem_of_getElem? (i := 90) rfl)) (by decide +kernel)
theorem w_fl_C_28 : (.fieldLink RC 28 "CardMessages" "reader" "LCardMessages$Reader;" : Cond) ∈ BIG := mB (tb_1 (List.mem_of_getElem? (i := 91) rfl)) (by decide +kernel)
theorem w_ml_L_89 : (.methodLink RL 89 yC_type : Cond) ∈ BIG := mB (tb_1 (List.mem_of_getElem? (i := 99) rfl)) (by decide +kernel)
theorem w_im_C_type : (.instanceMethod yC_type : Cond) ∈ BIG := mB (tb_1 (List.mem_of_getElem? (i := 100) rfl)) (by decide +kernel)
theorem w_se_C_type : (.selects RC yC_type yC_type : Cond) ∈ BIG := mB (tb_1 (List.mem_of_getElem? (i := 101) rfl)) (by decide +kernel)
theorem w_ml_L_103 : (.methodLink RL 103 yC_fields : Cond) ∈ BIG := mB (tb_1 (List.mem_of_getElem? (i := 103) rfl)) (by decide +kernel)
theorem w_im_C_fields : (.instanceMethod yC_fields : Cond) ∈ BIG := mB (tb_1 (List.mem_of_getElem? (i := 104) rfl)) (by decide +kernel)
theorem w_se_C_fields : (.selects RC yC_fields yC_fields : Cond) ∈ BIG := mB (tb_1 (List.mem_of_getElem? (i := 105) rfl)) (by decide +kernel)
theorem w_ml_C_108 : (.methodLink RC 108 yD_fieldCount : Cond) ∈ BIG := mB (tb_1 (List.mem_of_getElem? (i := 107) rfl)) (by decide +kernel)
theorem w_im_D_fieldCount : (.instanceMethod yD_fieldCount : Cond) ∈ BIG := mB (tb_1 (List.mem_of_getElem? (i := 108) rfl)) (by decide +kernel)
theorem w_se_D_fieldCount : (.selects RD yD_fieldCount yD_fieldCount : Cond) ∈ BIG := mB (tb_1 (List.mem_of_getElem? (i := 109) rfl)) (by decide +kernel)
theorem w_ml_D_29 : (.methodLink RD 29 yD_has : Cond) ∈ BIG := mB (tb_1 (List.mem_of_getElem? (i := 111) rfl)) (by decide +kernel)
theorem w_im_D_has : (.instanceMethod yD_has : Cond) ∈ BIG := mB (tb_1 (List.mem_of_getElem? (i := 112) rfl)) (by decide +kernel)
theorem w_se_D_has : (.selects RD yD_has yD_has : Cond) ∈ BIG := mB (tb_1 (List.mem_of_getElem? (i := 113) rfl)) (by decide +kernel)
theorem w_ml_L_107 : (.methodLink RL 107 yC_compose : Cond) ∈ BIG := mB (tb_1 (List.mem_of_getElem? (i := 115) rfl)) (by decide +kernel)
theorem w_im_C_compose : (.instanceMethod yC_compose : Cond) ∈ BIG := mB (tb_1 (List.mem_of_getElem? (i := 116) rfl)) (by decide +kernel)
theorem w_se_C_compose : (.selects RC yC_compose yC_compose : Cond) ∈ BIG := mB (tb_1 (List.mem_of_getElem? (i := 117) rfl)) (by decide +kernel)
theorem w_ml_C_112 : (.methodLink RC 112 yT_write : Cond) ∈ BIG := mB (tb_1 (List.mem_of_getElem? (i := 119) rfl)) (by decide +kernel)
theorem w_im_T_write : (.instanceMethod yT_write : Cond) ∈ BIG := mB (tb_1 (List.mem_of_getElem? (i := 120) rfl)) (by decide +kernel)
theorem w_se_T_write : (.selects RT yT_write yT_write : Cond) ∈ BIG := mB (tb_1 (List.mem_of_getElem? (i := 121) rfl)) (by decide +kernel)
theorem w_ml_T_24 : (.methodLink RT 24 yT_appendNumber : Cond) ∈ BIG := mB (tb_1 (List.mem_of_getElem? (i := 123) rfl)) (by decide +kernel)
theorem w_im_T_appendNumber : (.instanceMethod yT_appendNumber : Cond) ∈ BIG := mB (tb_1 (List.mem_of_getElem? (i := 125) rfl)) (by decide +kernel)
theorem w_st_C_bytesOfDigits : (.static yC_bytesOfDigits : Cond) ∈ BIG := mB (tb_1 (List.mem_of_getElem? (i := 128) rfl)) (by decide +kernel)
theorem w_ml_T_81 : (.methodLink RT 81 yT_appendPair : Cond) ∈ BIG := mB (tb_1 (List.mem_of_getElem? (i := 130) rfl)) (by decide +kernel)
theorem w_im_T_appendPair : (.instanceMethod yT_appendPair : Cond) ∈ BIG := mB (tb_1 (List.mem_of_getElem? (i := 132) rfl)) (by decide +kernel)
theorem w_ml_T_44 : (.methodLink RT 44 yT_append : Cond) ∈ BIG := mB (tb_1 (List.mem_of_getElem? (i := 134) rfl)) (by decide +kernel)
theorem w_im_T_append : (.instanceMethod yT_append : Cond) ∈ BIG := mB (tb_1 (List.mem_of_getElem? (i := 135) rfl)) (by decide +kernel)
theorem w_se_T_append : (.selects RT yT_append yT_append : Cond) ∈ BIG := mB (tb_1 (List.mem_of_getElem? (i := 136) rfl)) (by decide +kernel)
theorem w_ml_T_28 : (.methodLink RT 28 yT_appendMaps : Cond) ∈ BIG := mB (tb_1 (List.mem_of_getElem? (i := 138) rfl)) (by decide +kernel)
theorem w_im_T_appendMaps : (.instanceMethod yT_appendMaps : Cond) ∈ BIG := mB (tb_1 (List.mem_of_getElem? (i := 140) rfl)) (by decide +kernel)
theorem w_ml_T_40 : (.methodLink RT 40 yT_hasFieldOfSecondMap : Cond) ∈ BIG := mB (tb_1 (List.mem_of_getElem? (i := 142) rfl)) (by decide +kernel)
theorem w_st_T_hasFieldOfSecondMap : (.static yT_hasFieldOfSecondMap : Cond) ∈ BIG := mB (tb_1 (List.mem_of_getElem? (i := 143) rfl)) (by decide +kernel)
theorem w_ml_T_32 : (.methodLink RT 32 yD_has : Cond) ∈ BIG := mB (tb_1 (List.mem_of_getElem? (i := 147) rfl)) (by decide +kernel)
theorem w_ml_T_48 : (.methodLink RT 48 yT_flip : Cond) ∈ BIG := mB (tb_1 (List.mem_of_getElem? (i := 148) rfl)) (by decide +kernel)
theorem w_im_T_flip : (.instanceMethod yT_flip : Cond) ∈ BIG := mB (tb_1 (List.mem_of_getElem? (i := 149) rfl)) (by decide +kernel)
theorem w_se_T_flip : (.selects RT yT_flip yT_flip : Cond) ∈ BIG := mB (tb_1 (List.mem_of_getElem? (i := 150) rfl)) (by decide +kernel)
theorem w_st_C_mapByte : (.static yC_mapByte : Cond) ∈ BIG := mB (tb_1 (List.mem_of_getElem? (i := 153) rfl)) (by decide +kernel)
theorem w_st_C_mapBit : (.static yC_mapBit : Cond) ∈ BIG := mB (tb_1 (List.mem_of_getElem? (i := 156) rfl)) (by decide +kernel)
theorem w_ml_T_36 : (.methodLink RT 36 yT_appendField : Cond) ∈ BIG := mB (tb_1 (List.mem_of_getElem? (i := 158) rfl)) (by decide +kernel)
theorem w_im_T_appendField : (.instanceMethod yT_appendField : Cond) ∈ BIG := mB (tb_1 (List.mem_of_getElem? (i := 160) rfl)) (by decide +kernel)
theorem w_ml_T_71 : (.methodLink RT 71 yT_appendLetters : Cond) ∈ BIG := mB (tb_1 (List.mem_of_getElem? (i := 166) rfl)) (by decide +kernel)
theorem w_im_T_appendLetters : (.instanceMethod yT_appendLetters : Cond) ∈ BIG := mB (tb_1 (List.mem_of_getElem? (i := 168) rfl)) (by decide +kernel)
theorem w_ml_T_84 : (.methodLink RT 84 yD_mark : Cond) ∈ BIG := mB (tb_1 (List.mem_of_getElem? (i := 170) rfl)) (by decide +kernel)
theorem w_im_D_mark : (.instanceMethod yD_mark : Cond) ∈ BIG := mB (tb_1 (List.mem_of_getElem? (i := 171) rfl)) (by decide +kernel)
theorem w_se_D_mark : (.selects RD yD_mark yD_mark : Cond) ∈ BIG := mB (tb_1 (List.mem_of_getElem? (i := 172) rfl)) (by decide +kernel)
theorem w_ml_T_75 : (.methodLink RT 75 yT_appendDigits : Cond) ∈ BIG := mB (tb_1 (List.mem_of_getElem? (i := 176) rfl)) (by decide +kernel)
theorem w_im_T_appendDigits : (.instanceMethod yT_appendDigits : Cond) ∈ BIG := mB (tb_1 (List.mem_of_getElem? (i := 178) rfl)) (by decide +kernel)
theorem w_ml_L_123 : (.methodLink RL 123 yC_read : Cond) ∈ BIG := mB (tb_1 (List.mem_of_getElem? (i := 180) rfl)) (by decide +kernel)
theorem w_im_C_read : (.instanceMethod yC_read : Cond) ∈ BIG := mB (tb_1 (List.mem_of_getElem? (i := 181) rfl)) (by decide +kernel)
theorem w_se_C_read : (.selects RC yC_read yC_read : Cond) ∈ BIG := mB (tb_1 (List.mem_of_getElem? (i := 182) rfl)) (by decide +kernel)
theorem w_ml_C_140 : (.methodLink RC 140 yR_walk : Cond) ∈ BIG := mB (tb_1 (List.mem_of_getElem? (i := 184) rfl)) (by decide +kernel)
theorem w_im_R_walk : (.instanceMethod yR_walk : Cond) ∈ BIG := mB (tb_1 (List.mem_of_getElem? (i := 185) rfl)) (by decide +kernel)
theorem w_se_R_walk : (.selects RR yR_walk yR_walk : Cond) ∈ BIG := mB (tb_1 (List.mem_of_getElem? (i := 186) rfl)) (by decide +kernel)
theorem w_ml_R_35 : (.methodLink RR 35 yR_walkType : Cond) ∈ BIG := mB (tb_1 (List.mem_of_getElem? (i := 188) rfl)) (by decide +kernel)
theorem w_im_R_walkType : (.instanceMethod yR_walkType : Cond) ∈ BIG := mB (tb_1 (List.mem_of_getElem? (i := 190) rfl)) (by decide +kernel)
theorem w_ml_R_69 : (.methodLink RR 69 yR_walkNumber : Cond) ∈ BIG := mB (tb_1 (List.mem_of_getElem? (i := 192) rfl)) (by decide +kernel)
theorem w_im_R_walkNumber : (.instanceMethod yR_walkNumber : Cond) ∈ BIG := mB (tb_1 (List.mem_of_getElem? (i := 194) rfl)) (by decide +kernel)
theorem w_ml_R_103 : (.methodLink RR 103 yR_areDigits : Cond) ∈ BIG := mB (tb_1 (List.mem_of_getElem? (i := 196) rfl)) (by decide +kernel)
theorem w_im_R_areDigits : (.instanceMethod yR_areDigits : Cond) ∈ BIG := mB (tb_1 (List.mem_of_getElem? (i := 198) rfl)) (by decide +kernel)
theorem w_ml_R_79 : (.methodLink RR 79 yR_reaches : Cond) ∈ BIG := mB (tb_1 (List.mem_of_getElem? (i := 201) rfl)) (by decide +kernel)
theorem w_im_R_reaches : (.instanceMethod yR_reaches : Cond) ∈ BIG := mB (tb_1 (List.mem_of_getElem? (i := 203) rfl)) (by decide +kernel)
theorem w_ml_R_65 : (.methodLink RR 65 yR_fail : Cond) ∈ BIG := mB (tb_1 (List.mem_of_getElem? (i := 205) rfl)) (by decide +kernel)
theorem w_im_R_fail : (.instanceMethod yR_fail : Cond) ∈ BIG := mB (tb_1 (List.mem_of_getElem? (i := 207) rfl)) (by decide +kernel)
theorem w_ml_R_123 : (.methodLink RR 123 yR_halfAhead : Cond) ∈ BIG := mB (tb_1 (List.mem_of_getElem? (i := 209) rfl)) (by decide +kernel)
theorem w_im_R_halfAhead : (.instanceMethod yR_halfAhead : Cond) ∈ BIG := mB (tb_1 (List.mem_of_getElem? (i := 211) rfl)) (by decide +kernel)
theorem w_ml_R_50 : (.methodLink RR 50 yT_byteAt : Cond) ∈ BIG := mB (tb_1 (List.mem_of_getElem? (i := 213) rfl)) (by decide +kernel)
theorem w_im_T_byteAt : (.instanceMethod yT_byteAt : Cond) ∈ BIG := mB (tb_1 (List.mem_of_getElem? (i := 214) rfl)) (by decide +kernel)
theorem w_se_T_byteAt : (.selects RT yT_byteAt yT_byteAt : Cond) ∈ BIG := mB (tb_1 (List.mem_of_getElem? (i := 215) rfl)) (by decide +kernel)
theorem w_ml_R_106 : (.methodLink RR 106 yR_digitAhead : Cond) ∈ BIG := mB (tb_1 (List.mem_of_getElem? (i := 217) rfl)) (by decide +kernel)
theorem w_im_R_digitAhead : (.instanceMethod yR_digitAhead : Cond) ∈ BIG := mB (tb_1 (List.mem_of_getElem? (i := 219) rfl)) (by decide +kernel)
theorem w_ml_R_75 : (.methodLink RR 75 yD_restart : Cond) ∈ BIG := mB (tb_1 (List.mem_of_getElem? (i := 223) rfl)) (by decide +kernel)
theorem w_im_D_restart : (.instanceMethod yD_restart : Cond) ∈ BIG := mB (tb_1 (List.mem_of_getElem? (i := 224) rfl)) (by decide +kernel)
theorem w_se_D_restart : (.selects RD yD_restart yD_restart : Cond) ∈ BIG := mB (tb_1 (List.mem_of_getElem? (i := 225) rfl)) (by decide +kernel)
theorem w_ml_R_39 : (.methodLink RR 39 yR_walkMaps : Cond) ∈ BIG := mB (tb_1 (List.mem_of_getElem? (i := 227) rfl)) (by decide +kernel)
theorem w_im_R_walkMaps : (.instanceMethod yR_walkMaps : Cond) ∈ BIG := mB (tb_1 (List.mem_of_getElem? (i := 229) rfl)) (by decide +kernel)
theorem w_ml_R_85 : (.methodLink RR 85 yR_hasBit : Cond) ∈ BIG := mB (tb_1 (List.mem_of_getElem? (i := 233) rfl)) (by decide +kernel)
theorem w_im_R_hasBit : (.instanceMethod yR_hasBit : Cond) ∈ BIG := mB (tb_1 (List.mem_of_getElem? (i := 235) rfl)) (by decide +kernel)
theorem w_ml_R_58 : (.methodLink RR 58 yR_walkField : Cond) ∈ BIG := mB (tb_2 (List.mem_of_getElem? (i := 0) rfl)) (by decide +kernel)
theorem w_im_R_walkField : (.instanceMethod yR_walkField : Cond) ∈ BIG := mB (tb_2 (List.mem_of_getElem? (i := 2) rfl)) (by decide +kernel)
theorem w_ml_R_97 : (.methodLink RR 97 yR_walkLetters : Cond) ∈ BIG := mB (tb_2 (List.mem_of_getElem? (i := 8) rfl)) (by decide +kernel)
theorem w_im_R_walkLetters : (.instanceMethod yR_walkLetters : Cond) ∈ BIG := mB (tb_2 (List.mem_of_getElem? (i := 10) rfl)) (by decide +kernel)
theorem w_ml_R_120 : (.methodLink RR 120 yR_isLetter : Cond) ∈ BIG := mB (tb_2 (List.mem_of_getElem? (i := 12) rfl)) (by decide +kernel)
theorem w_st_R_isLetter : (.static yR_isLetter : Cond) ∈ BIG := mB (tb_2 (List.mem_of_getElem? (i := 13) rfl)) (by decide +kernel)
theorem w_ml_R_113 : (.methodLink RR 113 yD_setMark : Cond) ∈ BIG := mB (tb_2 (List.mem_of_getElem? (i := 15) rfl)) (by decide +kernel)
theorem w_im_D_setMark : (.instanceMethod yD_setMark : Cond) ∈ BIG := mB (tb_2 (List.mem_of_getElem? (i := 16) rfl)) (by decide +kernel)
theorem w_se_D_setMark : (.selects RD yD_setMark yD_setMark : Cond) ∈ BIG := mB (tb_2 (List.mem_of_getElem? (i := 17) rfl)) (by decide +kernel)
theorem w_ml_R_100 : (.methodLink RR 100 yR_walkDigits : Cond) ∈ BIG := mB (tb_2 (List.mem_of_getElem? (i := 19) rfl)) (by decide +kernel)
theorem w_im_R_walkDigits : (.instanceMethod yR_walkDigits : Cond) ∈ BIG := mB (tb_2 (List.mem_of_getElem? (i := 21) rfl)) (by decide +kernel)
theorem w_ml_C_153 : (.methodLink RC 153 yD_become : Cond) ∈ BIG := mB (tb_2 (List.mem_of_getElem? (i := 23) rfl)) (by decide +kernel)
theorem w_im_D_become : (.instanceMethod yD_become : Cond) ∈ BIG := mB (tb_2 (List.mem_of_getElem? (i := 24) rfl)) (by decide +kernel)
theorem w_se_D_become : (.selects RD yD_become yD_become : Cond) ∈ BIG := mB (tb_2 (List.mem_of_getElem? (i := 25) rfl)) (by decide +kernel)
theorem w_ml_D_23 : (.methodLink RD 23 arraycopyName : Cond) ∈ BIG := mB (tb_2 (List.mem_of_getElem? (i := 27) rfl)) (by decide +kernel)
theorem w_st_copy : (.static arraycopyName : Cond) ∈ BIG := mB (tb_2 (List.mem_of_getElem? (i := 28) rfl)) (by decide +kernel)
theorem w_na_copy : (.native arraycopyName : Cond) ∈ BIG := mB (tb_2 (List.mem_of_getElem? (i := 29) rfl)) (by decide +kernel)
theorem w_ml_L_61 : (.methodLink RL 61 yL_message : Cond) ∈ BIG := mB (tb_2 (List.mem_of_getElem? (i := 30) rfl)) (by decide +kernel)
theorem w_st_L_message : (.static yL_message : Cond) ∈ BIG := mB (tb_2 (List.mem_of_getElem? (i := 31) rfl)) (by decide +kernel)
theorem w_cl_L_13 : (.classLink RL 13 "java/lang/IllegalArgumentException" : Cond) ∈ BIG := mB (tb_2 (List.mem_of_getElem? (i := 33) rfl)) (by decide +kernel)
theorem w_ml_L_7 : (.methodLink RL 7 yC_message : Cond) ∈ BIG := mB (tb_2 (List.mem_of_getElem? (i := 34) rfl)) (by decide +kernel)
theorem w_im_C_message : (.instanceMethod yC_message : Cond) ∈ BIG := mB (tb_2 (List.mem_of_getElem? (i := 35) rfl)) (by decide +kernel)
theorem w_se_C_message : (.selects RC yC_message yC_message : Cond) ∈ BIG := mB (tb_2 (List.mem_of_getElem? (i := 36) rfl)) (by decide +kernel)
theorem w_cl_C_32 : (.classLink RC 32 "java/lang/IllegalArgumentException" : Cond) ∈ BIG := mB (tb_2 (List.mem_of_getElem? (i := 38) rfl)) (by decide +kernel)
theorem w_ml_C_36 : (.methodLink RC 36 ⟨"java/lang/IllegalArgumentException", "<init>", "(Ljava/lang/String;)V"⟩ : Cond) ∈ BIG := mB (tb_2 (List.mem_of_getElem? (i := 79) rfl)) (by decide +kernel)
theorem w_ml_C_39 : (.methodLink RC 39 yD_restart : Cond) ∈ BIG := mB (tb_2 (List.mem_of_getElem? (i := 104) rfl)) (by decide +kernel)
theorem w_ml_L_73 : (.methodLink RL 73 yL_digits : Cond) ∈ BIG := mB (tb_2 (List.mem_of_getElem? (i := 105) rfl)) (by decide +kernel)
theorem w_st_L_digits : (.static yL_digits : Cond) ∈ BIG := mB (tb_2 (List.mem_of_getElem? (i := 106) rfl)) (by decide +kernel)
theorem w_ml_L_15 : (.methodLink RL 15 yC_digits : Cond) ∈ BIG := mB (tb_2 (List.mem_of_getElem? (i := 108) rfl)) (by decide +kernel)
theorem w_im_C_digits : (.instanceMethod yC_digits : Cond) ∈ BIG := mB (tb_2 (List.mem_of_getElem? (i := 109) rfl)) (by decide +kernel)
theorem w_se_C_digits : (.selects RC yC_digits yC_digits : Cond) ∈ BIG := mB (tb_2 (List.mem_of_getElem? (i := 110) rfl)) (by decide +kernel)
theorem w_ml_C_43 : (.methodLink RC 43 yC_digitSlot : Cond) ∈ BIG := mB (tb_2 (List.mem_of_getElem? (i := 112) rfl)) (by decide +kernel)
theorem w_st_C_digitSlot : (.static yC_digitSlot : Cond) ∈ BIG := mB (tb_2 (List.mem_of_getElem? (i := 113) rfl)) (by decide +kernel)
theorem w_ml_C_64 : (.methodLink RC 64 yC_knownSlot : Cond) ∈ BIG := mB (tb_2 (List.mem_of_getElem? (i := 115) rfl)) (by decide +kernel)
theorem w_st_C_knownSlot : (.static yC_knownSlot : Cond) ∈ BIG := mB (tb_2 (List.mem_of_getElem? (i := 116) rfl)) (by decide +kernel)
theorem w_fl_C_156 : (.fieldLink RC 156 "CardMessages" "FIELDS" "[I" : Cond) ∈ BIG := mB (tb_2 (List.mem_of_getElem? (i := 118) rfl)) (by decide +kernel)
theorem w_fl_C_67 : (.fieldLink RC 67 "CardMessages" "HAS_LETTERS" "[I" : Cond) ∈ BIG := mB (tb_2 (List.mem_of_getElem? (i := 120) rfl)) (by decide +kernel)
theorem w_ml_C_47 : (.methodLink RC 47 yC_digitCount : Cond) ∈ BIG := mB (tb_2 (List.mem_of_getElem? (i := 122) rfl)) (by decide +kernel)
theorem w_st_C_digitCount : (.static yC_digitCount : Cond) ∈ BIG := mB (tb_2 (List.mem_of_getElem? (i := 123) rfl)) (by decide +kernel)
theorem w_k_C_163 : (.constantLong RC 163 (10) : Cond) ∈ BIG := mB (tb_2 (List.mem_of_getElem? (i := 125) rfl)) (by decide +kernel)
theorem w_fl_C_51 : (.fieldLink RC 51 "CardMessages" "MOST_MARKS" "[I" : Cond) ∈ BIG := mB (tb_2 (List.mem_of_getElem? (i := 126) rfl)) (by decide +kernel)
theorem w_fl_C_57 : (.fieldLink RC 57 "CardMessages" "COUNT_DIGITS" "[I" : Cond) ∈ BIG := mB (tb_2 (List.mem_of_getElem? (i := 128) rfl)) (by decide +kernel)
theorem w_ml_C_60 : (.methodLink RC 60 yD_putNumber : Cond) ∈ BIG := mB (tb_2 (List.mem_of_getElem? (i := 129) rfl)) (by decide +kernel)
theorem w_im_D_putNumber : (.instanceMethod yD_putNumber : Cond) ∈ BIG := mB (tb_2 (List.mem_of_getElem? (i := 130) rfl)) (by decide +kernel)
theorem w_se_D_putNumber : (.selects RD yD_putNumber yD_putNumber : Cond) ∈ BIG := mB (tb_2 (List.mem_of_getElem? (i := 131) rfl)) (by decide +kernel)
theorem w_ml_D_36 : (.methodLink RD 36 yD_setDigits : Cond) ∈ BIG := mB (tb_2 (List.mem_of_getElem? (i := 133) rfl)) (by decide +kernel)
theorem w_im_D_setDigits : (.instanceMethod yD_setDigits : Cond) ∈ BIG := mB (tb_2 (List.mem_of_getElem? (i := 135) rfl)) (by decide +kernel)
theorem w_k_D_53 : (.constantLong RD 53 (10) : Cond) ∈ BIG := mB (tb_2 (List.mem_of_getElem? (i := 137) rfl)) (by decide +kernel)
theorem w_ml_D_43 : (.methodLink RD 43 yD_setMark : Cond) ∈ BIG := mB (tb_2 (List.mem_of_getElem? (i := 138) rfl)) (by decide +kernel)
theorem w_ml_L_77 : (.methodLink RL 77 yL_letters : Cond) ∈ BIG := mB (tb_2 (List.mem_of_getElem? (i := 139) rfl)) (by decide +kernel)
theorem w_st_L_letters : (.static yL_letters : Cond) ∈ BIG := mB (tb_2 (List.mem_of_getElem? (i := 140) rfl)) (by decide +kernel)
theorem w_ml_L_19 : (.methodLink RL 19 yC_letters : Cond) ∈ BIG := mB (tb_2 (List.mem_of_getElem? (i := 142) rfl)) (by decide +kernel)
theorem w_im_C_letters : (.instanceMethod yC_letters : Cond) ∈ BIG := mB (tb_2 (List.mem_of_getElem? (i := 143) rfl)) (by decide +kernel)
theorem w_se_C_letters : (.selects RC yC_letters yC_letters : Cond) ∈ BIG := mB (tb_2 (List.mem_of_getElem? (i := 144) rfl)) (by decide +kernel)
theorem w_ml_C_74 : (.methodLink RC 74 yD_putLetters : Cond) ∈ BIG := mB (tb_2 (List.mem_of_getElem? (i := 148) rfl)) (by decide +kernel)
theorem w_im_D_putLetters : (.instanceMethod yD_putLetters : Cond) ∈ BIG := mB (tb_2 (List.mem_of_getElem? (i := 149) rfl)) (by decide +kernel)
theorem w_se_D_putLetters : (.selects RD yD_putLetters yD_putLetters : Cond) ∈ BIG := mB (tb_2 (List.mem_of_getElem? (i := 150) rfl)) (by decide +kernel)
theorem w_ml_L_81 : (.methodLink RL 81 yL_original : Cond) ∈ BIG := mB (tb_2 (List.mem_of_getElem? (i := 152) rfl)) (by decide +kernel)
theorem w_st_L_original : (.static yL_original : Cond) ∈ BIG := mB (tb_2 (List.mem_of_getElem? (i := 153) rfl)) (by decide +kernel)
theorem w_ml_L_23 : (.methodLink RL 23 yC_original : Cond) ∈ BIG := mB (tb_2 (List.mem_of_getElem? (i := 155) rfl)) (by decide +kernel)
theorem w_im_C_original : (.instanceMethod yC_original : Cond) ∈ BIG := mB (tb_2 (List.mem_of_getElem? (i := 156) rfl)) (by decide +kernel)
theorem w_se_C_original : (.selects RC yC_original yC_original : Cond) ∈ BIG := mB (tb_2 (List.mem_of_getElem? (i := 157) rfl)) (by decide +kernel)
theorem w_k_C_77 : (.constant RC 77 (999999) : Cond) ∈ BIG := mB (tb_2 (List.mem_of_getElem? (i := 159) rfl)) (by decide +kernel)
theorem w_k_C_78 : (.constant RC 78 (99999) : Cond) ∈ BIG := mB (tb_2 (List.mem_of_getElem? (i := 160) rfl)) (by decide +kernel)
theorem w_ml_C_81 : (.methodLink RC 81 yD_putOriginal : Cond) ∈ BIG := mB (tb_2 (List.mem_of_getElem? (i := 162) rfl)) (by decide +kernel)
theorem w_im_D_putOriginal : (.instanceMethod yD_putOriginal : Cond) ∈ BIG := mB (tb_2 (List.mem_of_getElem? (i := 163) rfl)) (by decide +kernel)
theorem w_se_D_putOriginal : (.selects RD yD_putOriginal yD_putOriginal : Cond) ∈ BIG := mB (tb_2 (List.mem_of_getElem? (i := 164) rfl)) (by decide +kernel)
theorem w_ml_L_85 : (.methodLink RL 85 yL_omit : Cond) ∈ BIG := mB (tb_2 (List.mem_of_getElem? (i := 167) rfl)) (by decide +kernel)
theorem w_st_L_omit : (.static yL_omit : Cond) ∈ BIG := mB (tb_2 (List.mem_of_getElem? (i := 168) rfl)) (by decide +kernel)
theorem w_ml_L_27 : (.methodLink RL 27 yC_omit : Cond) ∈ BIG := mB (tb_2 (List.mem_of_getElem? (i := 170) rfl)) (by decide +kernel)
theorem w_im_C_omit : (.instanceMethod yC_omit : Cond) ∈ BIG := mB (tb_2 (List.mem_of_getElem? (i := 171) rfl)) (by decide +kernel)
theorem w_se_C_omit : (.selects RC yC_omit yC_omit : Cond) ∈ BIG := mB (tb_2 (List.mem_of_getElem? (i := 172) rfl)) (by decide +kernel)
theorem w_ml_C_85 : (.methodLink RC 85 yD_has : Cond) ∈ BIG := mB (tb_2 (List.mem_of_getElem? (i := 174) rfl)) (by decide +kernel)
theorem w_ml_L_93 : (.methodLink RL 93 yL_size : Cond) ∈ BIG := mB (tb_2 (List.mem_of_getElem? (i := 175) rfl)) (by decide +kernel)
theorem w_st_L_size : (.static yL_size : Cond) ∈ BIG := mB (tb_2 (List.mem_of_getElem? (i := 176) rfl)) (by decide +kernel)
theorem w_ml_L_31 : (.methodLink RL 31 yC_size : Cond) ∈ BIG := mB (tb_2 (List.mem_of_getElem? (i := 178) rfl)) (by decide +kernel)
theorem w_im_C_size : (.instanceMethod yC_size : Cond) ∈ BIG := mB (tb_2 (List.mem_of_getElem? (i := 179) rfl)) (by decide +kernel)
theorem w_se_C_size : (.selects RC yC_size yC_size : Cond) ∈ BIG := mB (tb_2 (List.mem_of_getElem? (i := 180) rfl)) (by decide +kernel)
theorem w_ml_L_96 : (.methodLink RL 96 yL_at : Cond) ∈ BIG := mB (tb_2 (List.mem_of_getElem? (i := 182) rfl)) (by decide +kernel)
theorem w_st_L_at : (.static yL_at : Cond) ∈ BIG := mB (tb_2 (List.mem_of_getElem? (i := 183) rfl)) (by decide +kernel)
theorem w_ml_L_35 : (.methodLink RL 35 yC_at : Cond) ∈ BIG := mB (tb_2 (List.mem_of_getElem? (i := 185) rfl)) (by decide +kernel)
theorem w_im_C_at : (.instanceMethod yC_at : Cond) ∈ BIG := mB (tb_2 (List.mem_of_getElem? (i := 186) rfl)) (by decide +kernel)
theorem w_se_C_at : (.selects RC yC_at yC_at : Cond) ∈ BIG := mB (tb_2 (List.mem_of_getElem? (i := 187) rfl)) (by decide +kernel)
theorem w_ml_C_98 : (.methodLink RC 98 yD_mark : Cond) ∈ BIG := mB (tb_2 (List.mem_of_getElem? (i := 190) rfl)) (by decide +kernel)
theorem w_ml_L_100 : (.methodLink RL 100 yL_number : Cond) ∈ BIG := mB (tb_2 (List.mem_of_getElem? (i := 191) rfl)) (by decide +kernel)
theorem w_st_L_number : (.static yL_number : Cond) ∈ BIG := mB (tb_2 (List.mem_of_getElem? (i := 192) rfl)) (by decide +kernel)
theorem w_ml_L_39 : (.methodLink RL 39 yC_number : Cond) ∈ BIG := mB (tb_2 (List.mem_of_getElem? (i := 194) rfl)) (by decide +kernel)
theorem w_im_C_number : (.instanceMethod yC_number : Cond) ∈ BIG := mB (tb_2 (List.mem_of_getElem? (i := 195) rfl)) (by decide +kernel)
theorem w_se_C_number : (.selects RC yC_number yC_number : Cond) ∈ BIG := mB (tb_2 (List.mem_of_getElem? (i := 196) rfl)) (by decide +kernel)
theorem w_ml_C_102 : (.methodLink RC 102 yD_lastDigits : Cond) ∈ BIG := mB (tb_2 (List.mem_of_getElem? (i := 198) rfl)) (by decide +kernel)
theorem w_im_D_lastDigits : (.instanceMethod yD_lastDigits : Cond) ∈ BIG := mB (tb_2 (List.mem_of_getElem? (i := 199) rfl)) (by decide +kernel)
theorem w_se_D_lastDigits : (.selects RD yD_lastDigits yD_lastDigits : Cond) ∈ BIG := mB (tb_2 (List.mem_of_getElem? (i := 200) rfl)) (by decide +kernel)
theorem w_ml_D_47 : (.methodLink RD 47 Lib.Math.max.name : Cond) ∈ BIG := mB (tb_2 (List.mem_of_getElem? (i := 202) rfl)) (by decide +kernel)
theorem w_st_max : (.static Lib.Math.max.name : Cond) ∈ BIG := mB (tb_2 (List.mem_of_getElem? (i := 203) rfl)) (by decide +kernel)
theorem w_ml_D_55 : (.methodLink RD 55 yD_mark : Cond) ∈ BIG := mB (tb_2 (List.mem_of_getElem? (i := 205) rfl)) (by decide +kernel)
theorem w_k_C_106 : (.constantLong RC 106 (-1) : Cond) ∈ BIG := mB (tb_2 (List.mem_of_getElem? (i := 206) rfl)) (by decide +kernel)
theorem w_ml_L_111 : (.methodLink RL 111 yL_feed : Cond) ∈ BIG := mB (tb_2 (List.mem_of_getElem? (i := 207) rfl)) (by decide +kernel)
theorem w_st_L_feed : (.static yL_feed : Cond) ∈ BIG := mB (tb_2 (List.mem_of_getElem? (i := 208) rfl)) (by decide +kernel)
theorem w_cl_L_46 : (.classLink RL 46 "java/lang/IllegalStateException" : Cond) ∈ BIG := mB (tb_2 (List.mem_of_getElem? (i := 210) rfl)) (by decide +kernel)
theorem w_ml_L_43 : (.methodLink RL 43 yC_feed : Cond) ∈ BIG := mB (tb_2 (List.mem_of_getElem? (i := 211) rfl)) (by decide +kernel)
theorem w_im_C_feed : (.instanceMethod yC_feed : Cond) ∈ BIG := mB (tb_2 (List.mem_of_getElem? (i := 212) rfl)) (by decide +kernel)
theorem w_se_C_feed : (.selects RC yC_feed yC_feed : Cond) ∈ BIG := mB (tb_2 (List.mem_of_getElem? (i := 213) rfl)) (by decide +kernel)
theorem w_cl_C_119 : (.classLink RC 119 "java/lang/IllegalStateException" : Cond) ∈ BIG := mB (tb_2 (List.mem_of_getElem? (i := 215) rfl)) (by decide +kernel)
theorem w_ml_C_123 : (.methodLink RC 123 ⟨"java/lang/IllegalStateException", "<init>", "(Ljava/lang/String;)V"⟩ : Cond) ∈ BIG := mB (tb_2 (List.mem_of_getElem? (i := 225) rfl)) (by decide +kernel)
theorem w_ml_C_124 : (.methodLink RC 124 yT_append : Cond) ∈ BIG := mB (tb_2 (List.mem_of_getElem? (i := 231) rfl)) (by decide +kernel)
theorem w_ml_L_114 : (.methodLink RL 114 yL_trim : Cond) ∈ BIG := mB (tb_2 (List.mem_of_getElem? (i := 232) rfl)) (by decide +kernel)
theorem w_st_L_trim : (.static yL_trim : Cond) ∈ BIG := mB (tb_2 (List.mem_of_getElem? (i := 233) rfl)) (by decide +kernel)
theorem w_ml_L_48 : (.methodLink RL 48 yC_trim : Cond) ∈ BIG := mB (tb_2 (List.mem_of_getElem? (i := 235) rfl)) (by decide +kernel)
theorem w_im_C_trim : (.instanceMethod yC_trim : Cond) ∈ BIG := mB (tb_2 (List.mem_of_getElem? (i := 236) rfl)) (by decide +kernel)
theorem w_se_C_trim : (.selects RC yC_trim yC_trim : Cond) ∈ BIG := mB (tb_2 (List.mem_of_getElem? (i := 237) rfl)) (by decide +kernel)
theorem w_ml_L_117 : (.methodLink RL 117 yL_spoil : Cond) ∈ BIG := mB (tb_3 (List.mem_of_getElem? (i := 0) rfl)) (by decide +kernel)
theorem w_st_L_spoil : (.static yL_spoil : Cond) ∈ BIG := mB (tb_3 (List.mem_of_getElem? (i := 1) rfl)) (by decide +kernel)
theorem w_ml_L_51 : (.methodLink RL 51 yC_spoil : Cond) ∈ BIG := mB (tb_3 (List.mem_of_getElem? (i := 3) rfl)) (by decide +kernel)
theorem w_im_C_spoil : (.instanceMethod yC_spoil : Cond) ∈ BIG := mB (tb_3 (List.mem_of_getElem? (i := 4) rfl)) (by decide +kernel)
theorem w_se_C_spoil : (.selects RC yC_spoil yC_spoil : Cond) ∈ BIG := mB (tb_3 (List.mem_of_getElem? (i := 5) rfl)) (by decide +kernel)
theorem w_ml_C_131 : (.methodLink RC 131 yT_flip : Cond) ∈ BIG := mB (tb_3 (List.mem_of_getElem? (i := 8) rfl)) (by decide +kernel)
theorem w_ml_C_135 : (.methodLink RC 135 yT_byteAt : Cond) ∈ BIG := mB (tb_3 (List.mem_of_getElem? (i := 9) rfl)) (by decide +kernel)
theorem w_ml_L_120 : (.methodLink RL 120 yL_fault : Cond) ∈ BIG := mB (tb_3 (List.mem_of_getElem? (i := 10) rfl)) (by decide +kernel)
theorem w_st_L_fault : (.static yL_fault : Cond) ∈ BIG := mB (tb_3 (List.mem_of_getElem? (i := 11) rfl)) (by decide +kernel)
theorem w_ml_L_54 : (.methodLink RL 54 yC_fault : Cond) ∈ BIG := mB (tb_3 (List.mem_of_getElem? (i := 13) rfl)) (by decide +kernel)
theorem w_im_C_fault : (.instanceMethod yC_fault : Cond) ∈ BIG := mB (tb_3 (List.mem_of_getElem? (i := 14) rfl)) (by decide +kernel)
theorem w_se_C_fault : (.selects RC yC_fault yC_fault : Cond) ∈ BIG := mB (tb_3 (List.mem_of_getElem? (i := 15) rfl)) (by decide +kernel)
theorem w_cl_L_58 : (.classLink RL 58 RM : Cond) ∈ BIG := mB (tb_3 (List.mem_of_getElem? (i := 18) rfl)) (by decide +kernel)
theorem w_is_M : (.instantiable RM 17 : Cond) ∈ BIG := mB (tb_3 (List.mem_of_getElem? (i := 19) rfl)) (by decide +kernel)
theorem w_ml_L_60 : (.methodLink RL 60 yM_init : Cond) ∈ BIG := mB (tb_3 (List.mem_of_getElem? (i := 20) rfl)) (by decide +kernel)
theorem w_im_M_init : (.instanceMethod yM_init : Cond) ∈ BIG := mB (tb_3 (List.mem_of_getElem? (i := 21) rfl)) (by decide +kernel)
theorem w_ml_M_1 : (.methodLink RM 1 objectInit : Cond) ∈ BIG := mB (tb_3 (List.mem_of_getElem? (i := 23) rfl)) (by decide +kernel)
theorem w_ml_M_41 : (.methodLink RM 41 yM_clear : Cond) ∈ BIG := mB (tb_3 (List.mem_of_getElem? (i := 24) rfl)) (by decide +kernel)
theorem w_st_M_clear : (.static yM_clear : Cond) ∈ BIG := mB (tb_3 (List.mem_of_getElem? (i := 25) rfl)) (by decide +kernel)
theorem w_fl_M_7 : (.fieldLink RM 7 "CardMessagesModel" "numbers" "[I" : Cond) ∈ BIG := mB (tb_3 (List.mem_of_getElem? (i := 27) rfl)) (by decide +kernel)
theorem w_fl_M_13 : (.fieldLink RM 13 "CardMessagesModel" "sizes" "[I" : Cond) ∈ BIG := mB (tb_3 (List.mem_of_getElem? (i := 28) rfl)) (by decide +kernel)
theorem w_fl_M_16 : (.fieldLink RM 16 "CardMessagesModel" "forms" "[I" : Cond) ∈ BIG := mB (tb_3 (List.mem_of_getElem? (i := 29) rfl)) (by decide +kernel)
theorem w_fl_M_45 : (.fieldLink RM 45 "CardMessagesModel" "code" "I" : Cond) ∈ BIG := mB (tb_3 (List.mem_of_getElem? (i := 30) rfl)) (by decide +kernel)
theorem w_fl_M_19 : (.fieldLink RM 19 "CardMessagesModel" "draftType" "I" : Cond) ∈ BIG := mB (tb_3 (List.mem_of_getElem? (i := 31) rfl)) (by decide +kernel)
theorem w_fl_M_23 : (.fieldLink RM 23 "CardMessagesModel" "draft" "[I" : Cond) ∈ BIG := mB (tb_3 (List.mem_of_getElem? (i := 32) rfl)) (by decide +kernel)
theorem w_fl_M_26 : (.fieldLink RM 26 "CardMessagesModel" "draftSize" "[I" : Cond) ∈ BIG := mB (tb_3 (List.mem_of_getElem? (i := 33) rfl)) (by decide +kernel)
theorem w_fl_M_122 : (.fieldLink RM 122 "CardMessagesModel" "readType" "I" : Cond) ∈ BIG := mB (tb_3 (List.mem_of_getElem? (i := 34) rfl)) (by decide +kernel)
theorem w_fl_M_29 : (.fieldLink RM 29 "CardMessagesModel" "read" "[I" : Cond) ∈ BIG := mB (tb_3 (List.mem_of_getElem? (i := 35) rfl)) (by decide +kernel)
theorem w_fl_M_32 : (.fieldLink RM 32 "CardMessagesModel" "readSize" "[I" : Cond) ∈ BIG := mB (tb_3 (List.mem_of_getElem? (i := 36) rfl)) (by decide +kernel)
theorem w_fl_M_35 : (.fieldLink RM 35 "CardMessagesModel" "tape" "[I" : Cond) ∈ BIG := mB (tb_3 (List.mem_of_getElem? (i := 37) rfl)) (by decide +kernel)
theorem w_fl_M_99 : (.fieldLink RM 99 "CardMessagesModel" "size" "I" : Cond) ∈ BIG := mB (tb_3 (List.mem_of_getElem? (i := 38) rfl)) (by decide +kernel)
theorem w_fl_M_108 : (.fieldLink RM 108 "CardMessagesModel" "at" "I" : Cond) ∈ BIG := mB (tb_3 (List.mem_of_getElem? (i := 39) rfl)) (by decide +kernel)
theorem w_fl_M_102 : (.fieldLink RM 102 "CardMessagesModel" "fault" "I" : Cond) ∈ BIG := mB (tb_3 (List.mem_of_getElem? (i := 40) rfl)) (by decide +kernel)
theorem w_fl_M_105 : (.fieldLink RM 105 "CardMessagesModel" "place" "I" : Cond) ∈ BIG := mB (tb_3 (List.mem_of_getElem? (i := 41) rfl)) (by decide +kernel)
theorem w_fl_M_84 : (.fieldLink RM 84 "CardMessagesModel" "written" "I" : Cond) ∈ BIG := mB (tb_3 (List.mem_of_getElem? (i := 42) rfl)) (by decide +kernel)
theorem w_fl_M_38 : (.fieldLink RM 38 "CardMessagesModel" "few" "[I" : Cond) ∈ BIG := mB (tb_3 (List.mem_of_getElem? (i := 43) rfl)) (by decide +kernel)
theorem w_ml_L_67 : (.methodLink RL 67 yM_thrown : Cond) ∈ BIG := mB (tb_3 (List.mem_of_getElem? (i := 79) rfl)) (by decide +kernel)
theorem w_im_M_thrown : (.instanceMethod yM_thrown : Cond) ∈ BIG := mB (tb_3 (List.mem_of_getElem? (i := 80) rfl)) (by decide +kernel)
theorem w_se_M_thrown : (.selects RM yM_thrown yM_thrown : Cond) ∈ BIG := mB (tb_3 (List.mem_of_getElem? (i := 81) rfl)) (by decide +kernel)
theorem w_ml_L_66 : (.methodLink RL 66 yM_message : Cond) ∈ BIG := mB (tb_3 (List.mem_of_getElem? (i := 83) rfl)) (by decide +kernel)
theorem w_im_M_message : (.instanceMethod yM_message : Cond) ∈ BIG := mB (tb_3 (List.mem_of_getElem? (i := 84) rfl)) (by decide +kernel)
theorem w_se_M_message : (.selects RM yM_message yM_message : Cond) ∈ BIG := mB (tb_3 (List.mem_of_getElem? (i := 85) rfl)) (by decide +kernel)
theorem w_ml_M_50 : (.methodLink RM 50 yM_goes : Cond) ∈ BIG := mB (tb_3 (List.mem_of_getElem? (i := 87) rfl)) (by decide +kernel)
theorem w_im_M_goes : (.instanceMethod yM_goes : Cond) ∈ BIG := mB (tb_3 (List.mem_of_getElem? (i := 89) rfl)) (by decide +kernel)
theorem w_ml_M_54 : (.methodLink RM 54 yM_begin : Cond) ∈ BIG := mB (tb_3 (List.mem_of_getElem? (i := 91) rfl)) (by decide +kernel)
theorem w_im_M_begin : (.instanceMethod yM_begin : Cond) ∈ BIG := mB (tb_3 (List.mem_of_getElem? (i := 93) rfl)) (by decide +kernel)
theorem w_ml_L_76 : (.methodLink RL 76 yM_digits : Cond) ∈ BIG := mB (tb_3 (List.mem_of_getElem? (i := 95) rfl)) (by decide +kernel)
theorem w_im_M_digits : (.instanceMethod yM_digits : Cond) ∈ BIG := mB (tb_3 (List.mem_of_getElem? (i := 96) rfl)) (by decide +kernel)
theorem w_se_M_digits : (.selects RM yM_digits yM_digits : Cond) ∈ BIG := mB (tb_3 (List.mem_of_getElem? (i := 97) rfl)) (by decide +kernel)
theorem w_ml_M_66 : (.methodLink RM 66 yM_fieldOf : Cond) ∈ BIG := mB (tb_3 (List.mem_of_getElem? (i := 99) rfl)) (by decide +kernel)
theorem w_im_M_fieldOf : (.instanceMethod yM_fieldOf : Cond) ∈ BIG := mB (tb_3 (List.mem_of_getElem? (i := 101) rfl)) (by decide +kernel)
theorem w_ml_M_58 : (.methodLink RM 58 yM_width : Cond) ∈ BIG := mB (tb_3 (List.mem_of_getElem? (i := 103) rfl)) (by decide +kernel)
theorem w_st_M_width : (.static yM_width : Cond) ∈ BIG := mB (tb_3 (List.mem_of_getElem? (i := 104) rfl)) (by decide +kernel)
theorem w_k_M_48 : (.constantLong RM 48 (10) : Cond) ∈ BIG := mB (tb_3 (List.mem_of_getElem? (i := 106) rfl)) (by decide +kernel)
theorem w_ml_M_70 : (.methodLink RM 70 yM_fill : Cond) ∈ BIG := mB (tb_3 (List.mem_of_getElem? (i := 107) rfl)) (by decide +kernel)
theorem w_im_M_fill : (.instanceMethod yM_fill : Cond) ∈ BIG := mB (tb_3 (List.mem_of_getElem? (i := 109) rfl)) (by decide +kernel)
theorem w_ml_M_62 : (.methodLink RM 62 yM_setDigits : Cond) ∈ BIG := mB (tb_3 (List.mem_of_getElem? (i := 111) rfl)) (by decide +kernel)
theorem w_st_M_setDigits : (.static yM_setDigits : Cond) ∈ BIG := mB (tb_3 (List.mem_of_getElem? (i := 112) rfl)) (by decide +kernel)
theorem w_ml_L_80 : (.methodLink RL 80 yM_letters : Cond) ∈ BIG := mB (tb_3 (List.mem_of_getElem? (i := 114) rfl)) (by decide +kernel)
theorem w_im_M_letters : (.instanceMethod yM_letters : Cond) ∈ BIG := mB (tb_3 (List.mem_of_getElem? (i := 115) rfl)) (by decide +kernel)
theorem w_se_M_letters : (.selects RM yM_letters yM_letters : Cond) ∈ BIG := mB (tb_3 (List.mem_of_getElem? (i := 116) rfl)) (by decide +kernel)
theorem w_k_M_74 : (.constantLong RM 74 (31) : Cond) ∈ BIG := mB (tb_3 (List.mem_of_getElem? (i := 118) rfl)) (by decide +kernel)
theorem w_ml_L_84 : (.methodLink RL 84 yM_original : Cond) ∈ BIG := mB (tb_3 (List.mem_of_getElem? (i := 119) rfl)) (by decide +kernel)
theorem w_im_M_original : (.instanceMethod yM_original : Cond) ∈ BIG := mB (tb_3 (List.mem_of_getElem? (i := 120) rfl)) (by decide +kernel)
theorem w_se_M_original : (.selects RM yM_original yM_original : Cond) ∈ BIG := mB (tb_3 (List.mem_of_getElem? (i := 121) rfl)) (by decide +kernel)
theorem w_k_M_76 : (.constant RM 76 (999999) : Cond) ∈ BIG := mB (tb_3 (List.mem_of_getElem? (i := 123) rfl)) (by decide +kernel)
theorem w_k_M_77 : (.constant RM 77 (99999) : Cond) ∈ BIG := mB (tb_3 (List.mem_of_getElem? (i := 124) rfl)) (by decide +kernel)
theorem w_ml_M_78 : (.methodLink RM 78 yM_setOriginal : Cond) ∈ BIG := mB (tb_3 (List.mem_of_getElem? (i := 125) rfl)) (by decide +kernel)
theorem w_im_M_setOriginal : (.instanceMethod yM_setOriginal : Cond) ∈ BIG := mB (tb_3 (List.mem_of_getElem? (i := 127) rfl)) (by decide +kernel)
theorem w_ml_L_88 : (.methodLink RL 88 yM_omit : Cond) ∈ BIG := mB (tb_3 (List.mem_of_getElem? (i := 129) rfl)) (by decide +kernel)
theorem w_im_M_omit : (.instanceMethod yM_omit : Cond) ∈ BIG := mB (tb_3 (List.mem_of_getElem? (i := 130) rfl)) (by decide +kernel)
theorem w_se_M_omit : (.selects RM yM_omit yM_omit : Cond) ∈ BIG := mB (tb_3 (List.mem_of_getElem? (i := 131) rfl)) (by decide +kernel)
theorem w_ml_L_92 : (.methodLink RL 92 yM_type : Cond) ∈ BIG := mB (tb_3 (List.mem_of_getElem? (i := 133) rfl)) (by decide +kernel)
theorem w_im_M_type : (.instanceMethod yM_type : Cond) ∈ BIG := mB (tb_3 (List.mem_of_getElem? (i := 134) rfl)) (by decide +kernel)
theorem w_se_M_type : (.selects RM yM_type yM_type : Cond) ∈ BIG := mB (tb_3 (List.mem_of_getElem? (i := 135) rfl)) (by decide +kernel)
theorem w_ml_L_95 : (.methodLink RL 95 yM_size : Cond) ∈ BIG := mB (tb_3 (List.mem_of_getElem? (i := 137) rfl)) (by decide +kernel)
theorem w_im_M_size : (.instanceMethod yM_size : Cond) ∈ BIG := mB (tb_3 (List.mem_of_getElem? (i := 138) rfl)) (by decide +kernel)
theorem w_se_M_size : (.selects RM yM_size yM_size : Cond) ∈ BIG := mB (tb_3 (List.mem_of_getElem? (i := 139) rfl)) (by decide +kernel)
theorem w_ml_L_99 : (.methodLink RL 99 yM_at : Cond) ∈ BIG := mB (tb_3 (List.mem_of_getElem? (i := 141) rfl)) (by decide +kernel)
theorem w_im_M_at : (.instanceMethod yM_at : Cond) ∈ BIG := mB (tb_3 (List.mem_of_getElem? (i := 142) rfl)) (by decide +kernel)
theorem w_se_M_at : (.selects RM yM_at yM_at : Cond) ∈ BIG := mB (tb_3 (List.mem_of_getElem? (i := 143) rfl)) (by decide +kernel)
theorem w_ml_L_102 : (.methodLink RL 102 yM_number : Cond) ∈ BIG := mB (tb_3 (List.mem_of_getElem? (i := 145) rfl)) (by decide +kernel)
theorem w_im_M_number : (.instanceMethod yM_number : Cond) ∈ BIG := mB (tb_3 (List.mem_of_getElem? (i := 146) rfl)) (by decide +kernel)
theorem w_se_M_number : (.selects RM yM_number yM_number : Cond) ∈ BIG := mB (tb_3 (List.mem_of_getElem? (i := 147) rfl)) (by decide +kernel)
theorem w_k_M_82 : (.constantLong RM 82 (-1) : Cond) ∈ BIG := mB (tb_3 (List.mem_of_getElem? (i := 149) rfl)) (by decide +kernel)
theorem w_ml_L_106 : (.methodLink RL 106 yM_fields : Cond) ∈ BIG := mB (tb_3 (List.mem_of_getElem? (i := 150) rfl)) (by decide +kernel)
theorem w_im_M_fields : (.instanceMethod yM_fields : Cond) ∈ BIG := mB (tb_3 (List.mem_of_getElem? (i := 151) rfl)) (by decide +kernel)
theorem w_se_M_fields : (.selects RM yM_fields yM_fields : Cond) ∈ BIG := mB (tb_3 (List.mem_of_getElem? (i := 152) rfl)) (by decide +kernel)
theorem w_ml_L_110 : (.methodLink RL 110 yM_compose : Cond) ∈ BIG := mB (tb_3 (List.mem_of_getElem? (i := 154) rfl)) (by decide +kernel)
theorem w_im_M_compose : (.instanceMethod yM_compose : Cond) ∈ BIG := mB (tb_3 (List.mem_of_getElem? (i := 155) rfl)) (by decide +kernel)
theorem w_se_M_compose : (.selects RM yM_compose yM_compose : Cond) ∈ BIG := mB (tb_3 (List.mem_of_getElem? (i := 156) rfl)) (by decide +kernel)
theorem w_ml_M_95 : (.methodLink RM 95 yM_write : Cond) ∈ BIG := mB (tb_3 (List.mem_of_getElem? (i := 158) rfl)) (by decide +kernel)
theorem w_im_M_write : (.instanceMethod yM_write : Cond) ∈ BIG := mB (tb_3 (List.mem_of_getElem? (i := 160) rfl)) (by decide +kernel)
theorem w_ml_M_87 : (.methodLink RM 87 yM_pack : Cond) ∈ BIG := mB (tb_3 (List.mem_of_getElem? (i := 162) rfl)) (by decide +kernel)
theorem w_im_M_pack : (.instanceMethod yM_pack : Cond) ∈ BIG := mB (tb_3 (List.mem_of_getElem? (i := 164) rfl)) (by decide +kernel)
theorem w_ml_M_91 : (.methodLink RM 91 yM_writeField : Cond) ∈ BIG := mB (tb_3 (List.mem_of_getElem? (i := 166) rfl)) (by decide +kernel)
theorem w_im_M_writeField : (.instanceMethod yM_writeField : Cond) ∈ BIG := mB (tb_3 (List.mem_of_getElem? (i := 168) rfl)) (by decide +kernel)
theorem w_ml_L_113 : (.methodLink RL 113 yM_feed : Cond) ∈ BIG := mB (tb_3 (List.mem_of_getElem? (i := 170) rfl)) (by decide +kernel)
theorem w_im_M_feed : (.instanceMethod yM_feed : Cond) ∈ BIG := mB (tb_3 (List.mem_of_getElem? (i := 171) rfl)) (by decide +kernel)
theorem w_se_M_feed : (.selects RM yM_feed yM_feed : Cond) ∈ BIG := mB (tb_3 (List.mem_of_getElem? (i := 172) rfl)) (by decide +kernel)
theorem w_ml_L_116 : (.methodLink RL 116 yM_trim : Cond) ∈ BIG := mB (tb_3 (List.mem_of_getElem? (i := 174) rfl)) (by decide +kernel)
theorem w_im_M_trim : (.instanceMethod yM_trim : Cond) ∈ BIG := mB (tb_3 (List.mem_of_getElem? (i := 175) rfl)) (by decide +kernel)
theorem w_se_M_trim : (.selects RM yM_trim yM_trim : Cond) ∈ BIG := mB (tb_3 (List.mem_of_getElem? (i := 176) rfl)) (by decide +kernel)
theorem w_ml_L_119 : (.methodLink RL 119 yM_spoil : Cond) ∈ BIG := mB (tb_3 (List.mem_of_getElem? (i := 178) rfl)) (by decide +kernel)
theorem w_im_M_spoil : (.instanceMethod yM_spoil : Cond) ∈ BIG := mB (tb_3 (List.mem_of_getElem? (i := 179) rfl)) (by decide +kernel)
theorem w_se_M_spoil : (.selects RM yM_spoil yM_spoil : Cond) ∈ BIG := mB (tb_3 (List.mem_of_getElem? (i := 180) rfl)) (by decide +kernel)
theorem w_ml_L_122 : (.methodLink RL 122 yM_fault : Cond) ∈ BIG := mB (tb_3 (List.mem_of_getElem? (i := 182) rfl)) (by decide +kernel)
theorem w_im_M_fault : (.instanceMethod yM_fault : Cond) ∈ BIG := mB (tb_3 (List.mem_of_getElem? (i := 183) rfl)) (by decide +kernel)
theorem w_se_M_fault : (.selects RM yM_fault yM_fault : Cond) ∈ BIG := mB (tb_3 (List.mem_of_getElem? (i := 184) rfl)) (by decide +kernel)
theorem w_ml_M_135 : (.methodLink RM 135 yM_readTape : Cond) ∈ BIG := mB (tb_3 (List.mem_of_getElem? (i := 186) rfl)) (by decide +kernel)
theorem w_im_M_readTape : (.instanceMethod yM_readTape : Cond) ∈ BIG := mB (tb_3 (List.mem_of_getElem? (i := 188) rfl)) (by decide +kernel)
theorem w_ml_M_115 : (.methodLink RM 115 yM_takeDigits : Cond) ∈ BIG := mB (tb_3 (List.mem_of_getElem? (i := 190) rfl)) (by decide +kernel)
theorem w_im_M_takeDigits : (.instanceMethod yM_takeDigits : Cond) ∈ BIG := mB (tb_3 (List.mem_of_getElem? (i := 192) rfl)) (by decide +kernel)
theorem w_ml_M_111 : (.methodLink RM 111 yM_fails : Cond) ∈ BIG := mB (tb_3 (List.mem_of_getElem? (i := 194) rfl)) (by decide +kernel)
theorem w_im_M_fails : (.instanceMethod yM_fails : Cond) ∈ BIG := mB (tb_3 (List.mem_of_getElem? (i := 196) rfl)) (by decide +kernel)
theorem w_ml_M_125 : (.methodLink RM 125 yM_isType : Cond) ∈ BIG := mB (tb_3 (List.mem_of_getElem? (i := 198) rfl)) (by decide +kernel)
theorem w_st_M_isType : (.static yM_isType : Cond) ∈ BIG := mB (tb_3 (List.mem_of_getElem? (i := 199) rfl)) (by decide +kernel)
theorem w_ml_M_129 : (.methodLink RM 129 yM_takeMaps : Cond) ∈ BIG := mB (tb_3 (List.mem_of_getElem? (i := 201) rfl)) (by decide +kernel)
theorem w_im_M_takeMaps : (.instanceMethod yM_takeMaps : Cond) ∈ BIG := mB (tb_3 (List.mem_of_getElem? (i := 203) rfl)) (by decide +kernel)
theorem w_ml_M_132 : (.methodLink RM 132 yM_takeField : Cond) ∈ BIG := mB (tb_3 (List.mem_of_getElem? (i := 205) rfl)) (by decide +kernel)
theorem w_im_M_takeField : (.instanceMethod yM_takeField : Cond) ∈ BIG := mB (tb_3 (List.mem_of_getElem? (i := 207) rfl)) (by decide +kernel)
theorem w_ml_M_119 : (.methodLink RM 119 yM_takeLetters : Cond) ∈ BIG := mB (tb_3 (List.mem_of_getElem? (i := 209) rfl)) (by decide +kernel)
theorem w_im_M_takeLetters : (.instanceMethod yM_takeLetters : Cond) ∈ BIG := mB (tb_3 (List.mem_of_getElem? (i := 211) rfl)) (by decide +kernel)
theorem w_ml_L_127 : (.methodLink RL 127 yM_read : Cond) ∈ BIG := mB (tb_3 (List.mem_of_getElem? (i := 213) rfl)) (by decide +kernel)
theorem w_im_M_read : (.instanceMethod yM_read : Cond) ∈ BIG := mB (tb_3 (List.mem_of_getElem? (i := 214) rfl)) (by decide +kernel)
theorem w_se_M_read : (.selects RM yM_read yM_read : Cond) ∈ BIG := mB (tb_3 (List.mem_of_getElem? (i := 215) rfl)) (by decide +kernel)
theorem w_k_L_71 : (.constantLong RL 71 (4294967295) : Cond) ∈ BIG := mB (tb_3 (List.mem_of_getElem? (i := 217) rfl)) (by decide +kernel)
theorem w_ac_long : (.arrayClass .long : Cond) ∈ BIG := mB (tb_3 (List.mem_of_getElem? (i := 218) rfl)) (by decide +kernel)
theorem w_co_C_at : (.code yC_at cC_at 4 (some .int) : Cond) ∈ BIG := mB (tb_2 (List.mem_of_getElem? (i := 188) rfl)) (by decide +kernel)
theorem w_co_C_bytesOfDigits : (.code yC_bytesOfDigits cC_bytesOfDigits 1 (some .int) : Cond) ∈ BIG := mB (tb_1 (List.mem_of_getElem? (i := 129) rfl)) (by decide +kernel)
theorem w_co_C_compose : (.code yC_compose cC_compose 1 (some .int) : Cond) ∈ BIG := mB (tb_1 (List.mem_of_getElem? (i := 118) rfl)) (by decide +kernel)
theorem w_co_C_digitCount : (.code yC_digitCount cC_digitCount 5 (some .int) : Cond) ∈ BIG := mB (tb_2 (List.mem_of_getElem? (i := 124) rfl)) (by decide +kernel)
theorem w_co_C_digitSlot : (.code yC_digitSlot cC_digitSlot 2 (some .int) : Cond) ∈ BIG := mB (tb_2 (List.mem_of_getElem? (i := 114) rfl)) (by decide +kernel)
theorem w_co_C_digits : (.code yC_digits cC_digits 6 none : Cond) ∈ BIG := mB (tb_2 (List.mem_of_getElem? (i := 111) rfl)) (by decide +kernel)
theorem w_co_C_fault : (.code yC_fault cC_fault 2 (some .int) : Cond) ∈ BIG := mB (tb_3 (List.mem_of_getElem? (i := 16) rfl)) (by decide +kernel)
theorem w_co_C_feed : (.code yC_feed cC_feed 3 (some .int) : Cond) ∈ BIG := mB (tb_2 (List.mem_of_getElem? (i := 214) rfl)) (by decide +kernel)
theorem w_co_C_fields : (.code yC_fields cC_fields 1 (some .int) : Cond) ∈ BIG := mB (tb_1 (List.mem_of_getElem? (i := 106) rfl)) (by decide +kernel)
theorem w_co_C_init : (.code yC_init cC_init 1 none : Cond) ∈ BIG := mB (tb_1 (List.mem_of_getElem? (i := 17) rfl)) (by decide +kernel)
theorem w_co_C_knownSlot : (.code yC_knownSlot cC_knownSlot 2 (some .int) : Cond) ∈ BIG := mB (tb_2 (List.mem_of_getElem? (i := 117) rfl)) (by decide +kernel)
theorem w_co_C_letters : (.code yC_letters cC_letters 7 none : Cond) ∈ BIG := mB (tb_2 (List.mem_of_getElem? (i := 145) rfl)) (by decide +kernel)
theorem w_co_C_mapBit : (.code yC_mapBit cC_mapBit 1 (some .int) : Cond) ∈ BIG := mB (tb_1 (List.mem_of_getElem? (i := 157) rfl)) (by decide +kernel)
theorem w_co_C_mapByte : (.code yC_mapByte cC_mapByte 1 (some .int) : Cond) ∈ BIG := mB (tb_1 (List.mem_of_getElem? (i := 154) rfl)) (by decide +kernel)
theorem w_co_C_message : (.code yC_message cC_message 2 none : Cond) ∈ BIG := mB (tb_2 (List.mem_of_getElem? (i := 37) rfl)) (by decide +kernel)
theorem w_co_C_number : (.code yC_number cC_number 3 (some .long) : Cond) ∈ BIG := mB (tb_2 (List.mem_of_getElem? (i := 197) rfl)) (by decide +kernel)
theorem w_co_C_omit : (.code yC_omit cC_omit 4 (some .boolean) : Cond) ∈ BIG := mB (tb_2 (List.mem_of_getElem? (i := 173) rfl)) (by decide +kernel)
theorem w_co_C_original : (.code yC_original cC_original 4 none : Cond) ∈ BIG := mB (tb_2 (List.mem_of_getElem? (i := 158) rfl)) (by decide +kernel)
theorem w_co_C_read : (.code yC_read cC_read 1 (some .boolean) : Cond) ∈ BIG := mB (tb_1 (List.mem_of_getElem? (i := 183) rfl)) (by decide +kernel)
theorem w_co_C_size : (.code yC_size cC_size 3 (some .int) : Cond) ∈ BIG := mB (tb_2 (List.mem_of_getElem? (i := 181) rfl)) (by decide +kernel)
theorem w_co_C_spoil : (.code yC_spoil cC_spoil 3 (some .int) : Cond) ∈ BIG := mB (tb_3 (List.mem_of_getElem? (i := 6) rfl)) (by decide +kernel)
theorem w_co_C_trim : (.code yC_trim cC_trim 2 (some .int) : Cond) ∈ BIG := mB (tb_2 (List.mem_of_getElem? (i := 238) rfl)) (by decide +kernel)
theorem w_co_C_type : (.code yC_type cC_type 1 (some .int) : Cond) ∈ BIG := mB (tb_1 (List.mem_of_getElem? (i := 102) rfl)) (by decide +kernel)
theorem w_co_D_become : (.code yD_become cD_become 2 none : Cond) ∈ BIG := mB (tb_2 (List.mem_of_getElem? (i := 26) rfl)) (by decide +kernel)
theorem w_co_D_fieldCount : (.code yD_fieldCount cD_fieldCount 3 (some .int) : Cond) ∈ BIG := mB (tb_1 (List.mem_of_getElem? (i := 110) rfl)) (by decide +kernel)
theorem w_co_D_has : (.code yD_has cD_has 2 (some .boolean) : Cond) ∈ BIG := mB (tb_1 (List.mem_of_getElem? (i := 114) rfl)) (by decide +kernel)
theorem w_co_D_init : (.code yD_init cD_init 1 none : Cond) ∈ BIG := mB (tb_1 (List.mem_of_getElem? (i := 25) rfl)) (by decide +kernel)
theorem w_co_D_lastDigits : (.code yD_lastDigits cD_lastDigits 6 (some .long) : Cond) ∈ BIG := mB (tb_2 (List.mem_of_getElem? (i := 201) rfl)) (by decide +kernel)
theorem w_co_D_mark : (.code yD_mark cD_mark 3 (some .int) : Cond) ∈ BIG := mB (tb_1 (List.mem_of_getElem? (i := 173) rfl)) (by decide +kernel)
theorem w_co_D_putLetters : (.code yD_putLetters cD_putLetters 7 none : Cond) ∈ BIG := mB (tb_2 (List.mem_of_getElem? (i := 151) rfl)) (by decide +kernel)
theorem w_co_D_putNumber : (.code yD_putNumber cD_putNumber 5 none : Cond) ∈ BIG := mB (tb_2 (List.mem_of_getElem? (i := 132) rfl)) (by decide +kernel)
theorem w_co_D_putOriginal : (.code yD_putOriginal cD_putOriginal 4 none : Cond) ∈ BIG := mB (tb_2 (List.mem_of_getElem? (i := 165) rfl)) (by decide +kernel)
theorem w_co_D_restart : (.code yD_restart cD_restart 3 none : Cond) ∈ BIG := mB (tb_1 (List.mem_of_getElem? (i := 226) rfl)) (by decide +kernel)
theorem w_co_D_setDigits : (.code yD_setDigits cD_setDigits 9 none : Cond) ∈ BIG := mB (tb_2 (List.mem_of_getElem? (i := 136) rfl)) (by decide +kernel)
theorem w_co_D_setMark : (.code yD_setMark cD_setMark 4 none : Cond) ∈ BIG := mB (tb_2 (List.mem_of_getElem? (i := 18) rfl)) (by decide +kernel)
theorem w_co_L_at : (.codeWith yL_at cL_at 5 (some .int) [(0, 10, 13, 13)] : Cond) ∈ BIG := mB (tb_2 (List.mem_of_getElem? (i := 184) rfl)) (by decide +kernel)
theorem w_co_L_digits : (.codeWith yL_digits cL_digits 5 (some .int) [(0, 6, 9, 13)] : Cond) ∈ BIG := mB (tb_2 (List.mem_of_getElem? (i := 107) rfl)) (by decide +kernel)
theorem w_co_L_fault : (.codeWith yL_fault cL_fault 4 (some .int) [(0, 9, 12, 13)] : Cond) ∈ BIG := mB (tb_3 (List.mem_of_getElem? (i := 12) rfl)) (by decide +kernel)
theorem w_co_L_feed : (.codeWith yL_feed cL_feed 4 (some .int) [(0, 9, 12, 46)] : Cond) ∈ BIG := mB (tb_2 (List.mem_of_getElem? (i := 209) rfl)) (by decide +kernel)
theorem w_co_L_letters : (.codeWith yL_letters cL_letters 6 (some .int) [(0, 8, 11, 13)] : Cond) ∈ BIG := mB (tb_2 (List.mem_of_getElem? (i := 141) rfl)) (by decide +kernel)
theorem w_co_L_message : (.codeWith yL_message cL_message 3 (some .int) [(0, 5, 8, 13)] : Cond) ∈ BIG := mB (tb_2 (List.mem_of_getElem? (i := 32) rfl)) (by decide +kernel)
theorem w_co_L_number : (.codeWith yL_number cL_number 4 (some .int) [(0, 8, 11, 13)] : Cond) ∈ BIG := mB (tb_2 (List.mem_of_getElem? (i := 193) rfl)) (by decide +kernel)
theorem w_co_L_omit : (.codeWith yL_omit cL_omit 4 (some .int) [(0, 16, 19, 13)] : Cond) ∈ BIG := mB (tb_2 (List.mem_of_getElem? (i := 169) rfl)) (by decide +kernel)
theorem w_co_L_original : (.codeWith yL_original cL_original 5 (some .int) [(0, 7, 10, 13)] : Cond) ∈ BIG := mB (tb_2 (List.mem_of_getElem? (i := 154) rfl)) (by decide +kernel)
theorem w_co_L_size : (.codeWith yL_size cL_size 4 (some .int) [(0, 9, 12, 13)] : Cond) ∈ BIG := mB (tb_2 (List.mem_of_getElem? (i := 177) rfl)) (by decide +kernel)
theorem w_co_L_spoil : (.codeWith yL_spoil cL_spoil 5 (some .int) [(0, 10, 13, 13)] : Cond) ∈ BIG := mB (tb_3 (List.mem_of_getElem? (i := 2) rfl)) (by decide +kernel)
theorem w_co_L_trim : (.codeWith yL_trim cL_trim 4 (some .int) [(0, 9, 12, 13)] : Cond) ∈ BIG := mB (tb_2 (List.mem_of_getElem? (i := 234) rfl)) (by decide +kernel)
theorem w_co_M_at : (.code yM_at cM_at 5 (some .int) : Cond) ∈ BIG := mB (tb_3 (List.mem_of_getElem? (i := 144) rfl)) (by decide +kernel)
theorem w_co_M_begin : (.code yM_begin cM_begin 2 none : Cond) ∈ BIG := mB (tb_3 (List.mem_of_getElem? (i := 94) rfl)) (by decide +kernel)
theorem w_co_M_clear : (.code yM_clear cM_clear 2 none : Cond) ∈ BIG := mB (tb_3 (List.mem_of_getElem? (i := 26) rfl)) (by decide +kernel)
theorem w_co_M_compose : (.code yM_compose cM_compose 1 (some .int) : Cond) ∈ BIG := mB (tb_3 (List.mem_of_getElem? (i := 157) rfl)) (by decide +kernel)
theorem w_co_M_digits : (.code yM_digits cM_digits 5 none : Cond) ∈ BIG := mB (tb_3 (List.mem_of_getElem? (i := 98) rfl)) (by decide +kernel)
theorem w_co_M_fails : (.code yM_fails cM_fails 3 none : Cond) ∈ BIG := mB (tb_3 (List.mem_of_getElem? (i := 197) rfl)) (by decide +kernel)
theorem w_co_M_fault : (.code yM_fault cM_fault 2 (some .int) : Cond) ∈ BIG := mB (tb_3 (List.mem_of_getElem? (i := 185) rfl)) (by decide +kernel)
theorem w_co_M_feed : (.code yM_feed cM_feed 3 (some .int) : Cond) ∈ BIG := mB (tb_3 (List.mem_of_getElem? (i := 173) rfl)) (by decide +kernel)
theorem w_co_M_fieldOf : (.code yM_fieldOf cM_fieldOf 4 (some .int) : Cond) ∈ BIG := mB (tb_3 (List.mem_of_getElem? (i := 102) rfl)) (by decide +kernel)
theorem w_co_M_fields : (.code yM_fields cM_fields 3 (some .int) : Cond) ∈ BIG := mB (tb_3 (List.mem_of_getElem? (i := 153) rfl)) (by decide +kernel)
theorem w_co_M_fill : (.code yM_fill cM_fill 4 none : Cond) ∈ BIG := mB (tb_3 (List.mem_of_getElem? (i := 110) rfl)) (by decide +kernel)
theorem w_co_M_goes : (.code yM_goes cM_goes 2 (some .boolean) : Cond) ∈ BIG := mB (tb_3 (List.mem_of_getElem? (i := 90) rfl)) (by decide +kernel)
theorem w_co_M_init : (.code yM_init cM_init 1 none : Cond) ∈ BIG := mB (tb_3 (List.mem_of_getElem? (i := 22) rfl)) (by decide +kernel)
theorem w_co_M_isType : (.code yM_isType cM_isType 2 (some .boolean) : Cond) ∈ BIG := mB (tb_3 (List.mem_of_getElem? (i := 200) rfl)) (by decide +kernel)
theorem w_co_M_letters : (.code yM_letters cM_letters 8 none : Cond) ∈ BIG := mB (tb_3 (List.mem_of_getElem? (i := 117) rfl)) (by decide +kernel)
theorem w_co_M_message : (.code yM_message cM_message 2 none : Cond) ∈ BIG := mB (tb_3 (List.mem_of_getElem? (i := 86) rfl)) (by decide +kernel)
theorem w_co_M_number : (.code yM_number cM_number 6 (some .long) : Cond) ∈ BIG := mB (tb_3 (List.mem_of_getElem? (i := 148) rfl)) (by decide +kernel)
theorem w_co_M_omit : (.code yM_omit cM_omit 4 (some .boolean) : Cond) ∈ BIG := mB (tb_3 (List.mem_of_getElem? (i := 132) rfl)) (by decide +kernel)
theorem w_co_M_original : (.code yM_original cM_original 4 none : Cond) ∈ BIG := mB (tb_3 (List.mem_of_getElem? (i := 122) rfl)) (by decide +kernel)
theorem w_co_M_pack : (.code yM_pack cM_pack 6 none : Cond) ∈ BIG := mB (tb_3 (List.mem_of_getElem? (i := 165) rfl)) (by decide +kernel)
theorem w_co_M_read : (.code yM_read cM_read 3 (some .boolean) : Cond) ∈ BIG := mB (tb_3 (List.mem_of_getElem? (i := 216) rfl)) (by decide +kernel)
theorem w_co_M_readTape : (.code yM_readTape cM_readTape 2 none : Cond) ∈ BIG := mB (tb_3 (List.mem_of_getElem? (i := 189) rfl)) (by decide +kernel)
theorem w_co_M_setDigits : (.code yM_setDigits cM_setDigits 8 none : Cond) ∈ BIG := mB (tb_3 (List.mem_of_getElem? (i := 113) rfl)) (by decide +kernel)
theorem w_co_M_setOriginal : (.code yM_setOriginal cM_setOriginal 6 none : Cond) ∈ BIG := mB (tb_3 (List.mem_of_getElem? (i := 128) rfl)) (by decide +kernel)
theorem w_co_M_size : (.code yM_size cM_size 3 (some .int) : Cond) ∈ BIG := mB (tb_3 (List.mem_of_getElem? (i := 140) rfl)) (by decide +kernel)
theorem w_co_M_spoil : (.code yM_spoil cM_spoil 3 (some .int) : Cond) ∈ BIG := mB (tb_3 (List.mem_of_getElem? (i := 181) rfl)) (by decide +kernel)
theorem w_co_M_takeDigits : (.code yM_takeDigits cM_takeDigits 10 none : Cond) ∈ BIG := mB (tb_3 (List.mem_of_getElem? (i := 193) rfl)) (by decide +kernel)
theorem w_co_M_takeField : (.code yM_takeField cM_takeField 5 none : Cond) ∈ BIG := mB (tb_3 (List.mem_of_getElem? (i := 208) rfl)) (by decide +kernel)
theorem w_co_M_takeLetters : (.code yM_takeLetters cM_takeLetters 7 none : Cond) ∈ BIG := mB (tb_3 (List.mem_of_getElem? (i := 212) rfl)) (by decide +kernel)
theorem w_co_M_takeMaps : (.code yM_takeMaps cM_takeMaps 5 none : Cond) ∈ BIG := mB (tb_3 (List.mem_of_getElem? (i := 204) rfl)) (by decide +kernel)
theorem w_co_M_thrown : (.code yM_thrown cM_thrown 1 (some .int) : Cond) ∈ BIG := mB (tb_3 (List.mem_of_getElem? (i := 82) rfl)) (by decide +kernel)
theorem w_co_M_trim : (.code yM_trim cM_trim 2 (some .int) : Cond) ∈ BIG := mB (tb_3 (List.mem_of_getElem? (i := 177) rfl)) (by decide +kernel)
theorem w_co_M_type : (.code yM_type cM_type 1 (some .int) : Cond) ∈ BIG := mB (tb_3 (List.mem_of_getElem? (i := 136) rfl)) (by decide +kernel)
theorem w_co_M_width : (.code yM_width cM_width 5 (some .int) : Cond) ∈ BIG := mB (tb_3 (List.mem_of_getElem? (i := 105) rfl)) (by decide +kernel)
theorem w_co_M_write : (.code yM_write cM_write 8 none : Cond) ∈ BIG := mB (tb_3 (List.mem_of_getElem? (i := 161) rfl)) (by decide +kernel)
theorem w_co_M_writeField : (.code yM_writeField cM_writeField 7 none : Cond) ∈ BIG := mB (tb_3 (List.mem_of_getElem? (i := 169) rfl)) (by decide +kernel)
theorem w_co_R_areDigits : (.code yR_areDigits cR_areDigits 4 (some .boolean) : Cond) ∈ BIG := mB (tb_1 (List.mem_of_getElem? (i := 199) rfl)) (by decide +kernel)
theorem w_co_R_digitAhead : (.code yR_digitAhead cR_digitAhead 3 (some .int) : Cond) ∈ BIG := mB (tb_1 (List.mem_of_getElem? (i := 220) rfl)) (by decide +kernel)
theorem w_co_R_fail : (.code yR_fail cR_fail 3 (some .boolean) : Cond) ∈ BIG := mB (tb_1 (List.mem_of_getElem? (i := 208) rfl)) (by decide +kernel)
theorem w_co_R_halfAhead : (.code yR_halfAhead cR_halfAhead 3 (some .int) : Cond) ∈ BIG := mB (tb_1 (List.mem_of_getElem? (i := 212) rfl)) (by decide +kernel)
theorem w_co_R_hasBit : (.code yR_hasBit cR_hasBit 3 (some .boolean) : Cond) ∈ BIG := mB (tb_1 (List.mem_of_getElem? (i := 236) rfl)) (by decide +kernel)
theorem w_co_R_init : (.code yR_init cR_init 2 none : Cond) ∈ BIG := mB (tb_1 (List.mem_of_getElem? (i := 63) rfl)) (by decide +kernel)
theorem w_co_R_isLetter : (.code yR_isLetter cR_isLetter 1 (some .boolean) : Cond) ∈ BIG := mB (tb_2 (List.mem_of_getElem? (i := 14) rfl)) (by decide +kernel)
theorem w_co_R_reaches : (.code yR_reaches cR_reaches 2 (some .boolean) : Cond) ∈ BIG := mB (tb_1 (List.mem_of_getElem? (i := 204) rfl)) (by decide +kernel)
theorem w_co_R_walk : (.code yR_walk cR_walk 5 (some .boolean) : Cond) ∈ BIG := mB (tb_1 (List.mem_of_getElem? (i := 187) rfl)) (by decide +kernel)
theorem w_co_R_walkDigits : (.code yR_walkDigits cR_walkDigits 4 (some .boolean) : Cond) ∈ BIG := mB (tb_2 (List.mem_of_getElem? (i := 22) rfl)) (by decide +kernel)
theorem w_co_R_walkField : (.code yR_walkField cR_walkField 4 (some .boolean) : Cond) ∈ BIG := mB (tb_2 (List.mem_of_getElem? (i := 3) rfl)) (by decide +kernel)
theorem w_co_R_walkLetters : (.code yR_walkLetters cR_walkLetters 5 (some .boolean) : Cond) ∈ BIG := mB (tb_2 (List.mem_of_getElem? (i := 11) rfl)) (by decide +kernel)
theorem w_co_R_walkMaps : (.code yR_walkMaps cR_walkMaps 4 (some .boolean) : Cond) ∈ BIG := mB (tb_1 (List.mem_of_getElem? (i := 230) rfl)) (by decide +kernel)
theorem w_co_R_walkNumber : (.code yR_walkNumber cR_walkNumber 3 (some .boolean) : Cond) ∈ BIG := mB (tb_1 (List.mem_of_getElem? (i := 195) rfl)) (by decide +kernel)
theorem w_co_R_walkType : (.code yR_walkType cR_walkType 2 (some .boolean) : Cond) ∈ BIG := mB (tb_1 (List.mem_of_getElem? (i := 191) rfl)) (by decide +kernel)
theorem w_co_T_append : (.code yT_append cT_append 2 none : Cond) ∈ BIG := mB (tb_1 (List.mem_of_getElem? (i := 137) rfl)) (by decide +kernel)
theorem w_co_T_appendDigits : (.code yT_appendDigits cT_appendDigits 6 none : Cond) ∈ BIG := mB (tb_1 (List.mem_of_getElem? (i := 179) rfl)) (by decide +kernel)
theorem w_co_T_appendField : (.code yT_appendField cT_appendField 4 none : Cond) ∈ BIG := mB (tb_1 (List.mem_of_getElem? (i := 161) rfl)) (by decide +kernel)
theorem w_co_T_appendLetters : (.code yT_appendLetters cT_appendLetters 5 none : Cond) ∈ BIG := mB (tb_1 (List.mem_of_getElem? (i := 169) rfl)) (by decide +kernel)
theorem w_co_T_appendMaps : (.code yT_appendMaps cT_appendMaps 5 none : Cond) ∈ BIG := mB (tb_1 (List.mem_of_getElem? (i := 141) rfl)) (by decide +kernel)
theorem w_co_T_appendNumber : (.code yT_appendNumber cT_appendNumber 3 none : Cond) ∈ BIG := mB (tb_1 (List.mem_of_getElem? (i := 126) rfl)) (by decide +kernel)
theorem w_co_T_appendPair : (.code yT_appendPair cT_appendPair 3 none : Cond) ∈ BIG := mB (tb_1 (List.mem_of_getElem? (i := 133) rfl)) (by decide +kernel)
theorem w_co_T_byteAt : (.code yT_byteAt cT_byteAt 2 (some .int) : Cond) ∈ BIG := mB (tb_1 (List.mem_of_getElem? (i := 216) rfl)) (by decide +kernel)
theorem w_co_T_flip : (.code yT_flip cT_flip 3 none : Cond) ∈ BIG := mB (tb_1 (List.mem_of_getElem? (i := 151) rfl)) (by decide +kernel)
theorem w_co_T_hasFieldOfSecondMap : (.code yT_hasFieldOfSecondMap cT_hasFieldOfSecondMap 2 (some .boolean) : Cond) ∈ BIG := mB (tb_1 (List.mem_of_getElem? (i := 144) rfl)) (by decide +kernel)
theorem w_co_T_init : (.code yT_init cT_init 1 none : Cond) ∈ BIG := mB (tb_1 (List.mem_of_getElem? (i := 48) rfl)) (by decide +kernel)
theorem w_co_T_write : (.code yT_write cT_write 3 none : Cond) ∈ BIG := mB (tb_1 (List.mem_of_getElem? (i := 122) rfl)) (by decide +kernel)
theorem w_co_object : (.code objectInit ⟨#[0xb1]⟩ 1 none : Cond) ∈ BIG := mB (tb_1 (List.mem_of_getElem? (i := 20) rfl)) (by decide +kernel)
theorem w_co_max : (.code Lib.Math.max.name Lib.Math.max.code 2 (some .int) : Cond) ∈ BIG := mB (tb_2 (List.mem_of_getElem? (i := 204) rfl)) (by decide +kernel)
theorem w_se_T_appendNumber : (.selects RT yT_appendNumber yT_appendNumber : Cond) ∈ BIG := mB (tb_0 (List.mem_of_getElem? (i := 0) rfl)) (by decide +kernel)
theorem w_se_T_appendPair : (.selects RT yT_appendPair yT_appendPair : Cond) ∈ BIG := mB (tb_0 (List.mem_of_getElem? (i := 1) rfl)) (by decide +kernel)
theorem w_se_T_appendMaps : (.selects RT yT_appendMaps yT_appendMaps : Cond) ∈ BIG := mB (tb_0 (List.mem_of_getElem? (i := 2) rfl)) (by decide +kernel)
theorem w_se_T_appendField : (.selects RT yT_appendField yT_appendField : Cond) ∈ BIG := mB (tb_0 (List.mem_of_getElem? (i := 3) rfl)) (by decide +kernel)
theorem w_se_T_appendLetters : (.selects RT yT_appendLetters yT_appendLetters : Cond) ∈ BIG := mB (tb_0 (List.mem_of_getElem? (i := 4) rfl)) (by decide +kernel)
theorem w_se_T_appendDigits : (.selects RT yT_appendDigits yT_appendDigits : Cond) ∈ BIG := mB (tb_0 (List.mem_of_getElem? (i := 5) rfl)) (by decide +kernel)
theorem w_se_R_walkType : (.selects RR yR_walkType yR_walkType : Cond) ∈ BIG := mB (tb_0 (List.mem_of_getElem? (i := 6) rfl)) (by decide +kernel)
theorem w_se_R_walkNumber : (.selects RR yR_walkNumber yR_walkNumber : Cond) ∈ BIG := mB (tb_0 (List.mem_of_getElem? (i := 7) rfl)) (by decide +kernel)
theorem w_se_R_areDigits : (.selects RR yR_areDigits yR_areDigits : Cond) ∈ BIG := mB (tb_0 (List.mem_of_getElem? (i := 8) rfl)) (by decide +kernel)
theorem w_se_R_reaches : (.selects RR yR_reaches yR_reaches : Cond) ∈ BIG := mB (tb_0 (List.mem_of_getElem? (i := 9) rfl)) (by decide +kernel)
theorem w_se_R_fail : (.selects RR yR_fail yR_fail : Cond) ∈ BIG := mB (tb_0 (List.mem_of_getElem? (i := 10) rfl)) (by decide +kernel)
theorem w_se_R_halfAhead : (.selects RR yR_halfAhead yR_halfAhead : Cond) ∈ BIG := mB (tb_0 (List.mem_of_getElem? (i := 11) rfl)) (by decide +kernel)
theorem w_se_R_digitAhead : (.selects RR yR_digitAhead yR_digitAhead : Cond) ∈ BIG := mB (tb_0 (List.mem_of_getElem? (i := 12) rfl)) (by decide +kernel)
theorem w_se_R_walkMaps : (.selects RR yR_walkMaps yR_walkMaps : Cond) ∈ BIG := mB (tb_0 (List.mem_of_getElem? (i := 13) rfl)) (by decide +kernel)
theorem w_se_R_hasBit : (.selects RR yR_hasBit yR_hasBit : Cond) ∈ BIG := mB (tb_0 (List.mem_of_getElem? (i := 14) rfl)) (by decide +kernel)
theorem w_se_R_walkField : (.selects RR yR_walkField yR_walkField : Cond) ∈ BIG := mB (tb_0 (List.mem_of_getElem? (i := 15) rfl)) (by decide +kernel)
theorem w_se_R_walkLetters : (.selects RR yR_walkLetters yR_walkLetters : Cond) ∈ BIG := mB (tb_0 (List.mem_of_getElem? (i := 16) rfl)) (by decide +kernel)
theorem w_se_R_walkDigits : (.selects RR yR_walkDigits yR_walkDigits : Cond) ∈ BIG := mB (tb_0 (List.mem_of_getElem? (i := 17) rfl)) (by decide +kernel)
theorem w_se_D_setDigits : (.selects RD yD_setDigits yD_setDigits : Cond) ∈ BIG := mB (tb_0 (List.mem_of_getElem? (i := 19) rfl)) (by decide +kernel)
theorem w_se_M_goes : (.selects RM yM_goes yM_goes : Cond) ∈ BIG := mB (tb_0 (List.mem_of_getElem? (i := 20) rfl)) (by decide +kernel)
theorem w_se_M_begin : (.selects RM yM_begin yM_begin : Cond) ∈ BIG := mB (tb_0 (List.mem_of_getElem? (i := 21) rfl)) (by decide +kernel)
theorem w_se_M_fieldOf : (.selects RM yM_fieldOf yM_fieldOf : Cond) ∈ BIG := mB (tb_0 (List.mem_of_getElem? (i := 22) rfl)) (by decide +kernel)
theorem w_se_M_fill : (.selects RM yM_fill yM_fill : Cond) ∈ BIG := mB (tb_0 (List.mem_of_getElem? (i := 23) rfl)) (by decide +kernel)
theorem w_se_M_setOriginal : (.selects RM yM_setOriginal yM_setOriginal : Cond) ∈ BIG := mB (tb_0 (List.mem_of_getElem? (i := 24) rfl)) (by decide +kernel)
theorem w_se_M_write : (.selects RM yM_write yM_write : Cond) ∈ BIG := mB (tb_0 (List.mem_of_getElem? (i := 25) rfl)) (by decide +kernel)
theorem w_se_M_pack : (.selects RM yM_pack yM_pack : Cond) ∈ BIG := mB (tb_0 (List.mem_of_getElem? (i := 26) rfl)) (by decide +kernel)
theorem w_se_M_writeField : (.selects RM yM_writeField yM_writeField : Cond) ∈ BIG := mB (tb_0 (List.mem_of_getElem? (i := 27) rfl)) (by decide +kernel)
theorem w_se_M_readTape : (.selects RM yM_readTape yM_readTape : Cond) ∈ BIG := mB (tb_0 (List.mem_of_getElem? (i := 28) rfl)) (by decide +kernel)
theorem w_se_M_takeDigits : (.selects RM yM_takeDigits yM_takeDigits : Cond) ∈ BIG := mB (tb_0 (List.mem_of_getElem? (i := 29) rfl)) (by decide +kernel)
theorem w_se_M_fails : (.selects RM yM_fails yM_fails : Cond) ∈ BIG := mB (tb_0 (List.mem_of_getElem? (i := 30) rfl)) (by decide +kernel)
theorem w_se_M_takeMaps : (.selects RM yM_takeMaps yM_takeMaps : Cond) ∈ BIG := mB (tb_0 (List.mem_of_getElem? (i := 31) rfl)) (by decide +kernel)
theorem w_se_M_takeField : (.selects RM yM_takeField yM_takeField : Cond) ∈ BIG := mB (tb_0 (List.mem_of_getElem? (i := 32) rfl)) (by decide +kernel)
theorem w_se_M_takeLetters : (.selects RM yM_takeLetters yM_takeLetters : Cond) ∈ BIG := mB (tb_0 (List.mem_of_getElem? (i := 33) rfl)) (by decide +kernel)
theorem inD : ∀ w ∈ u_ws RD TD 3, w ∈ BIG := by
  intro w h
  obtain ⟨k, hk, rfl⟩ := List.mem_map.mp h
  have hk := List.mem_range.mp hk
  match k, hk with
  | 0, _ => exact mB (tb_1 (List.mem_of_getElem? (i := 35) rfl)) (by decide +kernel)
  | 1, _ => exact mB (tb_1 (List.mem_of_getElem? (i := 37) rfl)) (by decide +kernel)
  | 2, _ => exact mB (tb_1 (List.mem_of_getElem? (i := 39) rfl)) (by decide +kernel)
  | k + 3, h => exact absurd h (by omega)
theorem inR : ∀ w ∈ u_ws RR TR 6, w ∈ BIG := by
  intro w h
  obtain ⟨k, hk, rfl⟩ := List.mem_map.mp h
  have hk := List.mem_range.mp hk
  match k, hk with
  | 0, _ => exact mB (tb_1 (List.mem_of_getElem? (i := 76) rfl)) (by decide +kernel)
  | 1, _ => exact mB (tb_1 (List.mem_of_getElem? (i := 78) rfl)) (by decide +kernel)
  | 2, _ => exact mB (tb_1 (List.mem_of_getElem? (i := 80) rfl)) (by decide +kernel)
  | 3, _ => exact mB (tb_1 (List.mem_of_getElem? (i := 82) rfl)) (by decide +kernel)
  | 4, _ => exact mB (tb_1 (List.mem_of_getElem? (i := 84) rfl)) (by decide +kernel)
  | 5, _ => exact mB (tb_1 (List.mem_of_getElem? (i := 86) rfl)) (by decide +kernel)
  | k + 6, h => exact absurd h (by omega)
theorem inT : ∀ w ∈ u_ws RT TT 2, w ∈ BIG := by
  intro w h
  obtain ⟨k, hk, rfl⟩ := List.mem_map.mp h
  have hk := List.mem_range.mp hk
  match k, hk with
  | 0, _ => exact mB (tb_1 (List.mem_of_getElem? (i := 54) rfl)) (by decide +kernel)
  | 1, _ => exact mB (tb_1 (List.mem_of_getElem? (i := 56) rfl)) (by decide +kernel)
  | k + 2, h => exact absurd h (by omega)
theorem inC : ∀ w ∈ u_ws RC TC 3, w ∈ BIG := by
  intro w h
  obtain ⟨k, hk, rfl⟩ := List.mem_map.mp h
  have hk := List.mem_range.mp hk
  match k, hk with
  | 0, _ => exact mB (tb_1 (List.mem_of_getElem? (i := 92) rfl)) (by decide +kernel)
  | 1, _ => exact mB (tb_1 (List.mem_of_getElem? (i := 94) rfl)) (by decide +kernel)
  | 2, _ => exact mB (tb_1 (List.mem_of_getElem? (i := 96) rfl)) (by decide +kernel)
  | k + 3, h => exact absurd h (by omega)
theorem inM : ∀ w ∈ u_ws RM TM 17, w ∈ BIG := by
  intro w h
  obtain ⟨k, hk, rfl⟩ := List.mem_map.mp h
  have hk := List.mem_range.mp hk
  match k, hk with
  | 0, _ => exact mB (tb_3 (List.mem_of_getElem? (i := 44) rfl)) (by decide +kernel)
  | 1, _ => exact mB (tb_3 (List.mem_of_getElem? (i := 46) rfl)) (by decide +kernel)
  | 2, _ => exact mB (tb_3 (List.mem_of_getElem? (i := 48) rfl)) (by decide +kernel)
  | 3, _ => exact mB (tb_3 (List.mem_of_getElem? (i := 50) rfl)) (by decide +kernel)
  | 4, _ => exact mB (tb_3 (List.mem_of_getElem? (i := 52) rfl)) (by decide +kernel)
  | 5, _ => exact mB (tb_3 (List.mem_of_getElem? (i := 54) rfl)) (by decide +kernel)
  | 6, _ => exact mB (tb_3 (List.mem_of_getElem? (i := 56) rfl)) (by decide +kernel)
  | 7, _ => exact mB (tb_3 (List.mem_of_getElem? (i := 58) rfl)) (by decide +kernel)
  | 8, _ => exact mB (tb_3 (List.mem_of_getElem? (i := 60) rfl)) (by decide +kernel)
  | 9, _ => exact mB (tb_3 (List.mem_of_getElem? (i := 62) rfl)) (by decide +kernel)
  | 10, _ => exact mB (tb_3 (List.mem_of_getElem? (i := 64) rfl)) (by decide +kernel)
  | 11, _ => exact mB (tb_3 (List.mem_of_getElem? (i := 66) rfl)) (by decide +kernel)
  | 12, _ => exact mB (tb_3 (List.mem_of_getElem? (i := 68) rfl)) (by decide +kernel)
  | 13, _ => exact mB (tb_3 (List.mem_of_getElem? (i := 70) rfl)) (by decide +kernel)
  | 14, _ => exact mB (tb_3 (List.mem_of_getElem? (i := 72) rfl)) (by decide +kernel)
  | 15, _ => exact mB (tb_3 (List.mem_of_getElem? (i := 74) rfl)) (by decide +kernel)
  | 16, _ => exact mB (tb_3 (List.mem_of_getElem? (i := 76) rfl)) (by decide +kernel)
  | k + 17, h => exact absurd h (by omega)
end
section
theorem dD_become_0 : decode cD_become 0 = .ok (.aload_n 0, 1) := by decide +kernel
theorem dD_become_1 : decode cD_become 1 = .ok (.aload_n 1, 1) := by decide +kernel
theorem dD_become_2 : decode cD_become 2 = .ok (.getfield 9, 3) := by decide +kernel
theorem dD_become_5 : decode cD_become 5 = .ok (.putfield 9, 3) := by decide +kernel
theorem dD_become_8 : decode cD_become 8 = .ok (.aload_n 1, 1) := by decide +kernel
theorem dD_become_9 : decode cD_become 9 = .ok (.getfield 15, 3) := by decide +kernel
theorem dD_become_12 : decode cD_become 12 = .ok (.iconst 0, 1) := by decide +kernel
theorem dD_become_13 : decode cD_become 13 = .ok (.aload_n 0, 1) := by decide +kernel
theorem dD_become_14 : decode cD_become 14 = .ok (.getfield 15, 3) := by decide +kernel
theorem dD_become_17 : decode cD_become 17 = .ok (.iconst 0, 1) := by decide +kernel
theorem dD_become_18 : decode cD_become 18 = .ok (.bipush 16, 2) := by decide +kernel
theorem dD_become_20 : decode cD_become 20 = .ok (.invokestatic 23, 3) := by decide +kernel
theorem dD_become_23 : decode cD_become 23 = .ok (.aload_n 1, 1) := by decide +kernel
theorem dD_become_24 : decode cD_become 24 = .ok (.getfield 19, 3) := by decide +kernel
theorem dD_become_27 : decode cD_become 27 = .ok (.iconst 0, 1) := by decide +kernel
theorem dD_become_28 : decode cD_become 28 = .ok (.aload_n 0, 1) := by decide +kernel
theorem dD_become_29 : decode cD_become 29 = .ok (.getfield 19, 3) := by decide +kernel
theorem dD_become_32 : decode cD_become 32 = .ok (.iconst 0, 1) := by decide +kernel
theorem dD_become_33 : decode cD_become 33 = .ok (.sipush 208, 3) := by decide +kernel
theorem dD_become_36 : decode cD_become 36 = .ok (.invokestatic 23, 3) := by decide +kernel
theorem dD_become_39 : decode cD_become 39 = .ok (.return_, 1) := by decide +kernel
theorem dD_fieldCount_0 : decode cD_fieldCount 0 = .ok (.iconst 0, 1) := by decide +kernel
theorem dD_fieldCount_1 : decode cD_fieldCount 1 = .ok (.istore_n 1, 1) := by decide +kernel
theorem dD_fieldCount_2 : decode cD_fieldCount 2 = .ok (.iconst 0, 1) := by decide +kernel
theorem dD_fieldCount_3 : decode cD_fieldCount 3 = .ok (.istore_n 2, 1) := by decide +kernel
theorem dD_fieldCount_4 : decode cD_fieldCount 4 = .ok (.iload_n 2, 1) := by decide +kernel
theorem dD_fieldCount_5 : decode cD_fieldCount 5 = .ok (.bipush 16, 2) := by decide +kernel
theorem dD_fieldCount_7 : decode cD_fieldCount 7 = .ok (.if_icmp .ge 20, 3) := by decide +kernel
theorem dD_fieldCount_10 : decode cD_fieldCount 10 = .ok (.aload_n 0, 1) := by decide +kernel
theorem dD_fieldCount_11 : decode cD_fieldCount 11 = .ok (.iload_n 2, 1) := by decide +kernel
theorem dD_fieldCount_12 : decode cD_fieldCount 12 = .ok (.invokevirtual 29, 3) := by decide +kernel
theorem dD_fieldCount_15 : decode cD_fieldCount 15 = .ok (.ifCond .eq 6, 3) := by decide +kernel
theorem dD_fieldCount_18 : decode cD_fieldCount 18 = .ok (.iinc 1 1, 3) := by decide +kernel
theorem dD_fieldCount_21 : decode cD_fieldCount 21 = .ok (.iinc 2 1, 3) := by decide +kernel
theorem dD_fieldCount_24 : decode cD_fieldCount 24 = .ok (.goto (-20), 3) := by decide +kernel
theorem dD_fieldCount_27 : decode cD_fieldCount 27 = .ok (.iload_n 1, 1) := by decide +kernel
theorem dD_fieldCount_28 : decode cD_fieldCount 28 = .ok (.ireturn, 1) := by decide +kernel
theorem dD_has_0 : decode cD_has 0 = .ok (.aload_n 0, 1) := by decide +kernel
theorem dD_has_1 : decode cD_has 1 = .ok (.getfield 15, 3) := by decide +kernel
theorem dD_has_4 : decode cD_has 4 = .ok (.iload_n 1, 1) := by decide +kernel
theorem dD_has_5 : decode cD_has 5 = .ok (.iaload, 1) := by decide +kernel
theorem dD_has_6 : decode cD_has 6 = .ok (.ifCond .eq 7, 3) := by decide +kernel
theorem dD_has_9 : decode cD_has 9 = .ok (.iconst 1, 1) := by decide +kernel
theorem dD_has_10 : decode cD_has 10 = .ok (.goto 4, 3) := by decide +kernel
theorem dD_has_13 : decode cD_has 13 = .ok (.iconst 0, 1) := by decide +kernel
theorem dD_has_14 : decode cD_has 14 = .ok (.ireturn, 1) := by decide +kernel
theorem dD_init_0 : decode cD_init 0 = .ok (.aload_n 0, 1) := by decide +kernel
theorem dD_init_1 : decode cD_init 1 = .ok (.invokespecial 3, 3) := by decide +kernel
theorem dD_init_4 : decode cD_init 4 = .ok (.aload_n 0, 1) := by decide +kernel
theorem dD_init_5 : decode cD_init 5 = .ok (.sipush 800, 3) := by decide +kernel
theorem dD_init_8 : decode cD_init 8 = .ok (.putfield 9, 3) := by decide +kernel
theorem dD_init_11 : decode cD_init 11 = .ok (.aload_n 0, 1) := by decide +kernel
theorem dD_init_12 : decode cD_init 12 = .ok (.bipush 16, 2) := by decide +kernel
theorem dD_init_14 : decode cD_init 14 = .ok (.newarray .int, 2) := by decide +kernel
theorem dD_init_16 : decode cD_init 16 = .ok (.putfield 15, 3) := by decide +kernel
theorem dD_init_19 : decode cD_init 19 = .ok (.aload_n 0, 1) := by decide +kernel
theorem dD_init_20 : decode cD_init 20 = .ok (.sipush 208, 3) := by decide +kernel
theorem dD_init_23 : decode cD_init 23 = .ok (.newarray .byte, 2) := by decide +kernel
theorem dD_init_25 : decode cD_init 25 = .ok (.putfield 19, 3) := by decide +kernel
theorem dD_init_28 : decode cD_init 28 = .ok (.return_, 1) := by decide +kernel
theorem dD_lastDigits_0 : decode cD_lastDigits 0 = .ok (.aload_n 0, 1) := by decide +kernel
theorem dD_lastDigits_1 : decode cD_lastDigits 1 = .ok (.getfield 15, 3) := by decide +kernel
theorem dD_lastDigits_4 : decode cD_lastDigits 4 = .ok (.iload_n 1, 1) := by decide +kernel
theorem dD_lastDigits_5 : decode cD_lastDigits 5 = .ok (.iaload, 1) := by decide +kernel
theorem dD_lastDigits_6 : decode cD_lastDigits 6 = .ok (.istore_n 2, 1) := by decide +kernel
theorem dD_lastDigits_7 : decode cD_lastDigits 7 = .ok (.lconst 0, 1) := by decide +kernel
theorem dD_lastDigits_8 : decode cD_lastDigits 8 = .ok (.lstore_n 3, 1) := by decide +kernel
theorem dD_lastDigits_9 : decode cD_lastDigits 9 = .ok (.iconst 0, 1) := by decide +kernel
theorem dD_lastDigits_10 : decode cD_lastDigits 10 = .ok (.iload_n 2, 1) := by decide +kernel
theorem dD_lastDigits_11 : decode cD_lastDigits 11 = .ok (.bipush 18, 2) := by decide +kernel
theorem dD_lastDigits_13 : decode cD_lastDigits 13 = .ok (.isub, 1) := by decide +kernel
theorem dD_lastDigits_14 : decode cD_lastDigits 14 = .ok (.invokestatic 47, 3) := by decide +kernel
theorem dD_lastDigits_17 : decode cD_lastDigits 17 = .ok (.istore 5, 2) := by decide +kernel
theorem dD_lastDigits_19 : decode cD_lastDigits 19 = .ok (.iload 5, 2) := by decide +kernel
theorem dD_lastDigits_21 : decode cD_lastDigits 21 = .ok (.iload_n 2, 1) := by decide +kernel
theorem dD_lastDigits_22 : decode cD_lastDigits 22 = .ok (.if_icmp .ge 24, 3) := by decide +kernel
theorem dD_lastDigits_25 : decode cD_lastDigits 25 = .ok (.lload_n 3, 1) := by decide +kernel
theorem dD_lastDigits_26 : decode cD_lastDigits 26 = .ok (.ldc2_w 53, 3) := by decide +kernel
theorem dD_lastDigits_29 : decode cD_lastDigits 29 = .ok (.lmul, 1) := by decide +kernel
theorem dD_lastDigits_30 : decode cD_lastDigits 30 = .ok (.aload_n 0, 1) := by decide +kernel
theorem dD_lastDigits_31 : decode cD_lastDigits 31 = .ok (.iload_n 1, 1) := by decide +kernel
theorem dD_lastDigits_32 : decode cD_lastDigits 32 = .ok (.iload 5, 2) := by decide +kernel
theorem dD_lastDigits_34 : decode cD_lastDigits 34 = .ok (.invokevirtual 55, 3) := by decide +kernel
theorem dD_lastDigits_37 : decode cD_lastDigits 37 = .ok (.i2l, 1) := by decide +kernel
theorem dD_lastDigits_38 : decode cD_lastDigits 38 = .ok (.ladd, 1) := by decide +kernel
theorem dD_lastDigits_39 : decode cD_lastDigits 39 = .ok (.lstore_n 3, 1) := by decide +kernel
theorem dD_lastDigits_40 : decode cD_lastDigits 40 = .ok (.iinc 5 1, 3) := by decide +kernel
theorem dD_lastDigits_43 : decode cD_lastDigits 43 = .ok (.goto (-24), 3) := by decide +kernel
theorem dD_lastDigits_46 : decode cD_lastDigits 46 = .ok (.lload_n 3, 1) := by decide +kernel
theorem dD_lastDigits_47 : decode cD_lastDigits 47 = .ok (.lreturn, 1) := by decide +kernel
theorem dD_mark_0 : decode cD_mark 0 = .ok (.aload_n 0, 1) := by decide +kernel
theorem dD_mark_1 : decode cD_mark 1 = .ok (.getfield 19, 3) := by decide +kernel
theorem dD_mark_4 : decode cD_mark 4 = .ok (.getstatic 33, 3) := by decide +kernel
theorem dD_mark_7 : decode cD_mark 7 = .ok (.iload_n 1, 1) := by decide +kernel
theorem dD_mark_8 : decode cD_mark 8 = .ok (.iaload, 1) := by decide +kernel
theorem dD_mark_9 : decode cD_mark 9 = .ok (.iload_n 2, 1) := by decide +kernel
theorem dD_mark_10 : decode cD_mark 10 = .ok (.iadd, 1) := by decide +kernel
theorem dD_mark_11 : decode cD_mark 11 = .ok (.baload, 1) := by decide +kernel
theorem dD_mark_12 : decode cD_mark 12 = .ok (.ireturn, 1) := by decide +kernel
theorem dD_putLetters_0 : decode cD_putLetters 0 = .ok (.iconst 0, 1) := by decide +kernel
theorem dD_putLetters_1 : decode cD_putLetters 1 = .ok (.istore 5, 2) := by decide +kernel
theorem dD_putLetters_3 : decode cD_putLetters 3 = .ok (.iload 5, 2) := by decide +kernel
theorem dD_putLetters_5 : decode cD_putLetters 5 = .ok (.iload_n 2, 1) := by decide +kernel
theorem dD_putLetters_6 : decode cD_putLetters 6 = .ok (.if_icmp .ge 54, 3) := by decide +kernel
theorem dD_putLetters_9 : decode cD_putLetters 9 = .ok (.lload_n 3, 1) := by decide +kernel
theorem dD_putLetters_10 : decode cD_putLetters 10 = .ok (.iconst 5, 1) := by decide +kernel
theorem dD_putLetters_11 : decode cD_putLetters 11 = .ok (.iload 5, 2) := by decide +kernel
theorem dD_putLetters_13 : decode cD_putLetters 13 = .ok (.bipush 12, 2) := by decide +kernel
theorem dD_putLetters_15 : decode cD_putLetters 15 = .ok (.irem, 1) := by decide +kernel
theorem dD_putLetters_16 : decode cD_putLetters 16 = .ok (.imul, 1) := by decide +kernel
theorem dD_putLetters_17 : decode cD_putLetters 17 = .ok (.lshr, 1) := by decide +kernel
theorem dD_putLetters_18 : decode cD_putLetters 18 = .ok (.l2i, 1) := by decide +kernel
theorem dD_putLetters_19 : decode cD_putLetters 19 = .ok (.bipush 31, 2) := by decide +kernel
theorem dD_putLetters_21 : decode cD_putLetters 21 = .ok (.iand, 1) := by decide +kernel
theorem dD_putLetters_22 : decode cD_putLetters 22 = .ok (.istore 6, 2) := by decide +kernel
theorem dD_putLetters_24 : decode cD_putLetters 24 = .ok (.aload_n 0, 1) := by decide +kernel
theorem dD_putLetters_25 : decode cD_putLetters 25 = .ok (.iload_n 1, 1) := by decide +kernel
theorem dD_putLetters_26 : decode cD_putLetters 26 = .ok (.iload 5, 2) := by decide +kernel
theorem dD_putLetters_28 : decode cD_putLetters 28 = .ok (.iload 6, 2) := by decide +kernel
theorem dD_putLetters_30 : decode cD_putLetters 30 = .ok (.bipush 10, 2) := by decide +kernel
theorem dD_putLetters_32 : decode cD_putLetters 32 = .ok (.if_icmp .ge 11, 3) := by decide +kernel
theorem dD_putLetters_35 : decode cD_putLetters 35 = .ok (.bipush 48, 2) := by decide +kernel
theorem dD_putLetters_37 : decode cD_putLetters 37 = .ok (.iload 6, 2) := by decide +kernel
theorem dD_putLetters_39 : decode cD_putLetters 39 = .ok (.iadd, 1) := by decide +kernel
theorem dD_putLetters_40 : decode cD_putLetters 40 = .ok (.goto 11, 3) := by decide +kernel
theorem dD_putLetters_43 : decode cD_putLetters 43 = .ok (.bipush 65, 2) := by decide +kernel
theorem dD_putLetters_45 : decode cD_putLetters 45 = .ok (.iload 6, 2) := by decide +kernel
theorem dD_putLetters_47 : decode cD_putLetters 47 = .ok (.iadd, 1) := by decide +kernel
theorem dD_putLetters_48 : decode cD_putLetters 48 = .ok (.bipush 10, 2) := by decide +kernel
theorem dD_putLetters_50 : decode cD_putLetters 50 = .ok (.isub, 1) := by decide +kernel
theorem dD_putLetters_51 : decode cD_putLetters 51 = .ok (.invokevirtual 43, 3) := by decide +kernel
theorem dD_putLetters_54 : decode cD_putLetters 54 = .ok (.iinc 5 1, 3) := by decide +kernel
theorem dD_putLetters_57 : decode cD_putLetters 57 = .ok (.goto (-54), 3) := by decide +kernel
theorem dD_putLetters_60 : decode cD_putLetters 60 = .ok (.aload_n 0, 1) := by decide +kernel
theorem dD_putLetters_61 : decode cD_putLetters 61 = .ok (.getfield 15, 3) := by decide +kernel
theorem dD_putLetters_64 : decode cD_putLetters 64 = .ok (.iload_n 1, 1) := by decide +kernel
theorem dD_putLetters_65 : decode cD_putLetters 65 = .ok (.iload_n 2, 1) := by decide +kernel
theorem dD_putLetters_66 : decode cD_putLetters 66 = .ok (.iastore, 1) := by decide +kernel
theorem dD_putLetters_67 : decode cD_putLetters 67 = .ok (.return_, 1) := by decide +kernel
theorem dD_putNumber_0 : decode cD_putNumber 0 = .ok (.aload_n 0, 1) := by decide +kernel
theorem dD_putNumber_1 : decode cD_putNumber 1 = .ok (.iload_n 1, 1) := by decide +kernel
theorem dD_putNumber_2 : decode cD_putNumber 2 = .ok (.iconst 0, 1) := by decide +kernel
theorem dD_putNumber_3 : decode cD_putNumber 3 = .ok (.iload_n 2, 1) := by decide +kernel
theorem dD_putNumber_4 : decode cD_putNumber 4 = .ok (.lload_n 3, 1) := by decide +kernel
theorem dD_putNumber_5 : decode cD_putNumber 5 = .ok (.invokevirtual 36, 3) := by decide +kernel
theorem dD_putNumber_8 : decode cD_putNumber 8 = .ok (.aload_n 0, 1) := by decide +kernel
theorem dD_putNumber_9 : decode cD_putNumber 9 = .ok (.getfield 15, 3) := by decide +kernel
theorem dD_putNumber_12 : decode cD_putNumber 12 = .ok (.iload_n 1, 1) := by decide +kernel
theorem dD_putNumber_13 : decode cD_putNumber 13 = .ok (.iload_n 2, 1) := by decide +kernel
theorem dD_putNumber_14 : decode cD_putNumber 14 = .ok (.iastore, 1) := by decide +kernel
theorem dD_putNumber_15 : decode cD_putNumber 15 = .ok (.return_, 1) := by decide +kernel
theorem dD_putOriginal_0 : decode cD_putOriginal 0 = .ok (.aload_n 0, 1) := by decide +kernel
theorem dD_putOriginal_1 : decode cD_putOriginal 1 = .ok (.bipush 14, 2) := by decide +kernel
theorem dD_putOriginal_3 : decode cD_putOriginal 3 = .ok (.iconst 0, 1) := by decide +kernel
theorem dD_putOriginal_4 : decode cD_putOriginal 4 = .ok (.iconst 4, 1) := by decide +kernel
theorem dD_putOriginal_5 : decode cD_putOriginal 5 = .ok (.iload_n 1, 1) := by decide +kernel
theorem dD_putOriginal_6 : decode cD_putOriginal 6 = .ok (.i2l, 1) := by decide +kernel
theorem dD_putOriginal_7 : decode cD_putOriginal 7 = .ok (.invokevirtual 36, 3) := by decide +kernel
theorem dD_putOriginal_10 : decode cD_putOriginal 10 = .ok (.aload_n 0, 1) := by decide +kernel
theorem dD_putOriginal_11 : decode cD_putOriginal 11 = .ok (.bipush 14, 2) := by decide +kernel
theorem dD_putOriginal_13 : decode cD_putOriginal 13 = .ok (.iconst 4, 1) := by decide +kernel
theorem dD_putOriginal_14 : decode cD_putOriginal 14 = .ok (.bipush 6, 2) := by decide +kernel
theorem dD_putOriginal_16 : decode cD_putOriginal 16 = .ok (.iload_n 2, 1) := by decide +kernel
theorem dD_putOriginal_17 : decode cD_putOriginal 17 = .ok (.i2l, 1) := by decide +kernel
theorem dD_putOriginal_18 : decode cD_putOriginal 18 = .ok (.invokevirtual 36, 3) := by decide +kernel
theorem dD_putOriginal_21 : decode cD_putOriginal 21 = .ok (.aload_n 0, 1) := by decide +kernel
theorem dD_putOriginal_22 : decode cD_putOriginal 22 = .ok (.bipush 14, 2) := by decide +kernel
theorem dD_putOriginal_24 : decode cD_putOriginal 24 = .ok (.bipush 10, 2) := by decide +kernel
theorem dD_putOriginal_26 : decode cD_putOriginal 26 = .ok (.bipush 10, 2) := by decide +kernel
theorem dD_putOriginal_28 : decode cD_putOriginal 28 = .ok (.lconst 0, 1) := by decide +kernel
theorem dD_putOriginal_29 : decode cD_putOriginal 29 = .ok (.invokevirtual 36, 3) := by decide +kernel
theorem dD_putOriginal_32 : decode cD_putOriginal 32 = .ok (.aload_n 0, 1) := by decide +kernel
theorem dD_putOriginal_33 : decode cD_putOriginal 33 = .ok (.bipush 14, 2) := by decide +kernel
theorem dD_putOriginal_35 : decode cD_putOriginal 35 = .ok (.bipush 20, 2) := by decide +kernel
theorem dD_putOriginal_37 : decode cD_putOriginal 37 = .ok (.bipush 11, 2) := by decide +kernel
theorem dD_putOriginal_39 : decode cD_putOriginal 39 = .ok (.iload_n 3, 1) := by decide +kernel
theorem dD_putOriginal_40 : decode cD_putOriginal 40 = .ok (.i2l, 1) := by decide +kernel
theorem dD_putOriginal_41 : decode cD_putOriginal 41 = .ok (.invokevirtual 36, 3) := by decide +kernel
theorem dD_putOriginal_44 : decode cD_putOriginal 44 = .ok (.aload_n 0, 1) := by decide +kernel
theorem dD_putOriginal_45 : decode cD_putOriginal 45 = .ok (.bipush 14, 2) := by decide +kernel
theorem dD_putOriginal_47 : decode cD_putOriginal 47 = .ok (.bipush 31, 2) := by decide +kernel
theorem dD_putOriginal_49 : decode cD_putOriginal 49 = .ok (.bipush 11, 2) := by decide +kernel
theorem dD_putOriginal_51 : decode cD_putOriginal 51 = .ok (.lconst 0, 1) := by decide +kernel
theorem dD_putOriginal_52 : decode cD_putOriginal 52 = .ok (.invokevirtual 36, 3) := by decide +kernel
theorem dD_putOriginal_55 : decode cD_putOriginal 55 = .ok (.aload_n 0, 1) := by decide +kernel
theorem dD_putOriginal_56 : decode cD_putOriginal 56 = .ok (.getfield 15, 3) := by decide +kernel
theorem dD_putOriginal_59 : decode cD_putOriginal 59 = .ok (.bipush 14, 2) := by decide +kernel
theorem dD_putOriginal_61 : decode cD_putOriginal 61 = .ok (.getstatic 40, 3) := by decide +kernel
theorem dD_putOriginal_64 : decode cD_putOriginal 64 = .ok (.bipush 14, 2) := by decide +kernel
theorem dD_putOriginal_66 : decode cD_putOriginal 66 = .ok (.iaload, 1) := by decide +kernel
theorem dD_putOriginal_67 : decode cD_putOriginal 67 = .ok (.iastore, 1) := by decide +kernel
theorem dD_putOriginal_68 : decode cD_putOriginal 68 = .ok (.return_, 1) := by decide +kernel
theorem dD_restart_0 : decode cD_restart 0 = .ok (.aload_n 0, 1) := by decide +kernel
theorem dD_restart_1 : decode cD_restart 1 = .ok (.iload_n 1, 1) := by decide +kernel
theorem dD_restart_2 : decode cD_restart 2 = .ok (.putfield 9, 3) := by decide +kernel
theorem dD_restart_5 : decode cD_restart 5 = .ok (.iconst 0, 1) := by decide +kernel
theorem dD_restart_6 : decode cD_restart 6 = .ok (.istore_n 2, 1) := by decide +kernel
theorem dD_restart_7 : decode cD_restart 7 = .ok (.iload_n 2, 1) := by decide +kernel
theorem dD_restart_8 : decode cD_restart 8 = .ok (.bipush 16, 2) := by decide +kernel
theorem dD_restart_10 : decode cD_restart 10 = .ok (.if_icmp .ge 16, 3) := by decide +kernel
theorem dD_restart_13 : decode cD_restart 13 = .ok (.aload_n 0, 1) := by decide +kernel
theorem dD_restart_14 : decode cD_restart 14 = .ok (.getfield 15, 3) := by decide +kernel
theorem dD_restart_17 : decode cD_restart 17 = .ok (.iload_n 2, 1) := by decide +kernel
theorem dD_restart_18 : decode cD_restart 18 = .ok (.iconst 0, 1) := by decide +kernel
theorem dD_restart_19 : decode cD_restart 19 = .ok (.iastore, 1) := by decide +kernel
theorem dD_restart_20 : decode cD_restart 20 = .ok (.iinc 2 1, 3) := by decide +kernel
theorem dD_restart_23 : decode cD_restart 23 = .ok (.goto (-16), 3) := by decide +kernel
theorem dD_restart_26 : decode cD_restart 26 = .ok (.return_, 1) := by decide +kernel
theorem dD_setDigits_0 : decode cD_setDigits 0 = .ok (.lload 4, 2) := by decide +kernel
theorem dD_setDigits_2 : decode cD_setDigits 2 = .ok (.lstore 6, 2) := by decide +kernel
theorem dD_setDigits_4 : decode cD_setDigits 4 = .ok (.iload_n 2, 1) := by decide +kernel
theorem dD_setDigits_5 : decode cD_setDigits 5 = .ok (.iload_n 3, 1) := by decide +kernel
theorem dD_setDigits_6 : decode cD_setDigits 6 = .ok (.iadd, 1) := by decide +kernel
theorem dD_setDigits_7 : decode cD_setDigits 7 = .ok (.iconst 1, 1) := by decide +kernel
theorem dD_setDigits_8 : decode cD_setDigits 8 = .ok (.isub, 1) := by decide +kernel
theorem dD_setDigits_9 : decode cD_setDigits 9 = .ok (.istore 8, 2) := by decide +kernel
theorem dD_setDigits_11 : decode cD_setDigits 11 = .ok (.iload 8, 2) := by decide +kernel
theorem dD_setDigits_13 : decode cD_setDigits 13 = .ok (.iload_n 2, 1) := by decide +kernel
theorem dD_setDigits_14 : decode cD_setDigits 14 = .ok (.if_icmp .lt 31, 3) := by decide +kernel
theorem dD_setDigits_17 : decode cD_setDigits 17 = .ok (.aload_n 0, 1) := by decide +kernel
theorem dD_setDigits_18 : decode cD_setDigits 18 = .ok (.iload_n 1, 1) := by decide +kernel
theorem dD_setDigits_19 : decode cD_setDigits 19 = .ok (.iload 8, 2) := by decide +kernel
theorem dD_setDigits_21 : decode cD_setDigits 21 = .ok (.lload 6, 2) := by decide +kernel
theorem dD_setDigits_23 : decode cD_setDigits 23 = .ok (.ldc2_w 53, 3) := by decide +kernel
theorem dD_setDigits_26 : decode cD_setDigits 26 = .ok (.lrem, 1) := by decide +kernel
theorem dD_setDigits_27 : decode cD_setDigits 27 = .ok (.l2i, 1) := by decide +kernel
theorem dD_setDigits_28 : decode cD_setDigits 28 = .ok (.invokevirtual 43, 3) := by decide +kernel
theorem dD_setDigits_31 : decode cD_setDigits 31 = .ok (.lload 6, 2) := by decide +kernel
theorem dD_setDigits_33 : decode cD_setDigits 33 = .ok (.ldc2_w 53, 3) := by decide +kernel
theorem dD_setDigits_36 : decode cD_setDigits 36 = .ok (.ldiv, 1) := by decide +kernel
theorem dD_setDigits_37 : decode cD_setDigits 37 = .ok (.lstore 6, 2) := by decide +kernel
theorem dD_setDigits_39 : decode cD_setDigits 39 = .ok (.iinc 8 (-1), 3) := by decide +kernel
theorem dD_setDigits_42 : decode cD_setDigits 42 = .ok (.goto (-31), 3) := by decide +kernel
theorem dD_setDigits_45 : decode cD_setDigits 45 = .ok (.return_, 1) := by decide +kernel
theorem dD_setMark_0 : decode cD_setMark 0 = .ok (.aload_n 0, 1) := by decide +kernel
theorem dD_setMark_1 : decode cD_setMark 1 = .ok (.getfield 19, 3) := by decide +kernel
theorem dD_setMark_4 : decode cD_setMark 4 = .ok (.getstatic 33, 3) := by decide +kernel
theorem dD_setMark_7 : decode cD_setMark 7 = .ok (.iload_n 1, 1) := by decide +kernel
theorem dD_setMark_8 : decode cD_setMark 8 = .ok (.iaload, 1) := by decide +kernel
theorem dD_setMark_9 : decode cD_setMark 9 = .ok (.iload_n 2, 1) := by decide +kernel
theorem dD_setMark_10 : decode cD_setMark 10 = .ok (.iadd, 1) := by decide +kernel
theorem dD_setMark_11 : decode cD_setMark 11 = .ok (.iload_n 3, 1) := by decide +kernel
theorem dD_setMark_12 : decode cD_setMark 12 = .ok (.i2b, 1) := by decide +kernel
theorem dD_setMark_13 : decode cD_setMark 13 = .ok (.bastore, 1) := by decide +kernel
theorem dD_setMark_14 : decode cD_setMark 14 = .ok (.return_, 1) := by decide +kernel
theorem dR_areDigits_0 : decode cR_areDigits 0 = .ok (.aload_n 0, 1) := by decide +kernel
theorem dR_areDigits_1 : decode cR_areDigits 1 = .ok (.iload_n 1, 1) := by decide +kernel
theorem dR_areDigits_2 : decode cR_areDigits 2 = .ok (.invokestatic 110, 3) := by decide +kernel
theorem dR_areDigits_5 : decode cR_areDigits 5 = .ok (.invokevirtual 79, 3) := by decide +kernel
theorem dR_areDigits_8 : decode cR_areDigits 8 = .ok (.ifCond .ne 5, 3) := by decide +kernel
theorem dR_areDigits_11 : decode cR_areDigits 11 = .ok (.iconst 0, 1) := by decide +kernel
theorem dR_areDigits_12 : decode cR_areDigits 12 = .ok (.ireturn, 1) := by decide +kernel
theorem dR_areDigits_13 : decode cR_areDigits 13 = .ok (.iload_n 1, 1) := by decide +kernel
theorem dR_areDigits_14 : decode cR_areDigits 14 = .ok (.iconst 2, 1) := by decide +kernel
theorem dR_areDigits_15 : decode cR_areDigits 15 = .ok (.irem, 1) := by decide +kernel
theorem dR_areDigits_16 : decode cR_areDigits 16 = .ok (.istore_n 2, 1) := by decide +kernel
theorem dR_areDigits_17 : decode cR_areDigits 17 = .ok (.iconst 0, 1) := by decide +kernel
theorem dR_areDigits_18 : decode cR_areDigits 18 = .ok (.istore_n 3, 1) := by decide +kernel
theorem dR_areDigits_19 : decode cR_areDigits 19 = .ok (.iload_n 3, 1) := by decide +kernel
theorem dR_areDigits_20 : decode cR_areDigits 20 = .ok (.iload_n 2, 1) := by decide +kernel
theorem dR_areDigits_21 : decode cR_areDigits 21 = .ok (.iload_n 1, 1) := by decide +kernel
theorem dR_areDigits_22 : decode cR_areDigits 22 = .ok (.iadd, 1) := by decide +kernel
theorem dR_areDigits_23 : decode cR_areDigits 23 = .ok (.if_icmp .ge 42, 3) := by decide +kernel
theorem dR_areDigits_26 : decode cR_areDigits 26 = .ok (.aload_n 0, 1) := by decide +kernel
theorem dR_areDigits_27 : decode cR_areDigits 27 = .ok (.iload_n 3, 1) := by decide +kernel
theorem dR_areDigits_28 : decode cR_areDigits 28 = .ok (.invokevirtual 123, 3) := by decide +kernel
theorem dR_areDigits_31 : decode cR_areDigits 31 = .ok (.iload_n 3, 1) := by decide +kernel
theorem dR_areDigits_32 : decode cR_areDigits 32 = .ok (.iload_n 2, 1) := by decide +kernel
theorem dR_areDigits_33 : decode cR_areDigits 33 = .ok (.if_icmp .ge 7, 3) := by decide +kernel
theorem dR_areDigits_36 : decode cR_areDigits 36 = .ok (.iconst 0, 1) := by decide +kernel
theorem dR_areDigits_37 : decode cR_areDigits 37 = .ok (.goto 5, 3) := by decide +kernel
theorem dR_areDigits_40 : decode cR_areDigits 40 = .ok (.bipush 9, 2) := by decide +kernel
theorem dR_areDigits_42 : decode cR_areDigits 42 = .ok (.if_icmp .le 17, 3) := by decide +kernel
theorem dR_areDigits_45 : decode cR_areDigits 45 = .ok (.aload_n 0, 1) := by decide +kernel
theorem dR_areDigits_46 : decode cR_areDigits 46 = .ok (.iconst 2, 1) := by decide +kernel
theorem dR_areDigits_47 : decode cR_areDigits 47 = .ok (.aload_n 0, 1) := by decide +kernel
theorem dR_areDigits_48 : decode cR_areDigits 48 = .ok (.getfield 25, 3) := by decide +kernel
theorem dR_areDigits_51 : decode cR_areDigits 51 = .ok (.iload_n 3, 1) := by decide +kernel
theorem dR_areDigits_52 : decode cR_areDigits 52 = .ok (.iconst 2, 1) := by decide +kernel
theorem dR_areDigits_53 : decode cR_areDigits 53 = .ok (.idiv, 1) := by decide +kernel
theorem dR_areDigits_54 : decode cR_areDigits 54 = .ok (.iadd, 1) := by decide +kernel
theorem dR_areDigits_55 : decode cR_areDigits 55 = .ok (.invokevirtual 65, 3) := by decide +kernel
theorem dR_areDigits_58 : decode cR_areDigits 58 = .ok (.ireturn, 1) := by decide +kernel
theorem dR_areDigits_59 : decode cR_areDigits 59 = .ok (.iinc 3 1, 3) := by decide +kernel
theorem dR_areDigits_62 : decode cR_areDigits 62 = .ok (.goto (-43), 3) := by decide +kernel
theorem dR_areDigits_65 : decode cR_areDigits 65 = .ok (.iconst 1, 1) := by decide +kernel
theorem dR_areDigits_66 : decode cR_areDigits 66 = .ok (.ireturn, 1) := by decide +kernel
theorem dR_digitAhead_0 : decode cR_digitAhead 0 = .ok (.aload_n 0, 1) := by decide +kernel
theorem dR_digitAhead_1 : decode cR_digitAhead 1 = .ok (.iload_n 2, 1) := by decide +kernel
theorem dR_digitAhead_2 : decode cR_digitAhead 2 = .ok (.iconst 2, 1) := by decide +kernel
theorem dR_digitAhead_3 : decode cR_digitAhead 3 = .ok (.irem, 1) := by decide +kernel
theorem dR_digitAhead_4 : decode cR_digitAhead 4 = .ok (.iload_n 1, 1) := by decide +kernel
theorem dR_digitAhead_5 : decode cR_digitAhead 5 = .ok (.iadd, 1) := by decide +kernel
theorem dR_digitAhead_6 : decode cR_digitAhead 6 = .ok (.invokevirtual 123, 3) := by decide +kernel
theorem dR_digitAhead_9 : decode cR_digitAhead 9 = .ok (.ireturn, 1) := by decide +kernel
theorem dR_fail_0 : decode cR_fail 0 = .ok (.aload_n 0, 1) := by decide +kernel
theorem dR_fail_1 : decode cR_fail 1 = .ok (.iload_n 1, 1) := by decide +kernel
theorem dR_fail_2 : decode cR_fail 2 = .ok (.putfield 18, 3) := by decide +kernel
theorem dR_fail_5 : decode cR_fail 5 = .ok (.aload_n 0, 1) := by decide +kernel
theorem dR_fail_6 : decode cR_fail 6 = .ok (.iload_n 2, 1) := by decide +kernel
theorem dR_fail_7 : decode cR_fail 7 = .ok (.putfield 22, 3) := by decide +kernel
theorem dR_fail_10 : decode cR_fail 10 = .ok (.iconst 0, 1) := by decide +kernel
theorem dR_fail_11 : decode cR_fail 11 = .ok (.ireturn, 1) := by decide +kernel
theorem dR_halfAhead_0 : decode cR_halfAhead 0 = .ok (.aload_n 0, 1) := by decide +kernel
theorem dR_halfAhead_1 : decode cR_halfAhead 1 = .ok (.getfield 31, 3) := by decide +kernel
theorem dR_halfAhead_4 : decode cR_halfAhead 4 = .ok (.aload_n 0, 1) := by decide +kernel
theorem dR_halfAhead_5 : decode cR_halfAhead 5 = .ok (.getfield 25, 3) := by decide +kernel
theorem dR_halfAhead_8 : decode cR_halfAhead 8 = .ok (.iload_n 1, 1) := by decide +kernel
theorem dR_halfAhead_9 : decode cR_halfAhead 9 = .ok (.iconst 2, 1) := by decide +kernel
theorem dR_halfAhead_10 : decode cR_halfAhead 10 = .ok (.idiv, 1) := by decide +kernel
theorem dR_halfAhead_11 : decode cR_halfAhead 11 = .ok (.iadd, 1) := by decide +kernel
theorem dR_halfAhead_12 : decode cR_halfAhead 12 = .ok (.invokevirtual 50, 3) := by decide +kernel
theorem dR_halfAhead_15 : decode cR_halfAhead 15 = .ok (.istore_n 2, 1) := by decide +kernel
theorem dR_halfAhead_16 : decode cR_halfAhead 16 = .ok (.iload_n 1, 1) := by decide +kernel
theorem dR_halfAhead_17 : decode cR_halfAhead 17 = .ok (.iconst 2, 1) := by decide +kernel
theorem dR_halfAhead_18 : decode cR_halfAhead 18 = .ok (.irem, 1) := by decide +kernel
theorem dR_halfAhead_19 : decode cR_halfAhead 19 = .ok (.ifCond .ne 9, 3) := by decide +kernel
theorem dR_halfAhead_22 : decode cR_halfAhead 22 = .ok (.iload_n 2, 1) := by decide +kernel
theorem dR_halfAhead_23 : decode cR_halfAhead 23 = .ok (.iconst 4, 1) := by decide +kernel
theorem dR_halfAhead_24 : decode cR_halfAhead 24 = .ok (.ishr, 1) := by decide +kernel
theorem dR_halfAhead_25 : decode cR_halfAhead 25 = .ok (.goto 7, 3) := by decide +kernel
theorem dR_halfAhead_28 : decode cR_halfAhead 28 = .ok (.iload_n 2, 1) := by decide +kernel
theorem dR_halfAhead_29 : decode cR_halfAhead 29 = .ok (.bipush 15, 2) := by decide +kernel
theorem dR_halfAhead_31 : decode cR_halfAhead 31 = .ok (.iand, 1) := by decide +kernel
theorem dR_halfAhead_32 : decode cR_halfAhead 32 = .ok (.ireturn, 1) := by decide +kernel
theorem dR_hasBit_0 : decode cR_hasBit 0 = .ok (.iload_n 1, 1) := by decide +kernel
theorem dR_hasBit_1 : decode cR_hasBit 1 = .ok (.istore_n 2, 1) := by decide +kernel
theorem dR_hasBit_2 : decode cR_hasBit 2 = .ok (.iload_n 2, 1) := by decide +kernel
theorem dR_hasBit_3 : decode cR_hasBit 3 = .ok (.iload_n 1, 1) := by decide +kernel
theorem dR_hasBit_4 : decode cR_hasBit 4 = .ok (.bipush 8, 2) := by decide +kernel
theorem dR_hasBit_6 : decode cR_hasBit 6 = .ok (.iadd, 1) := by decide +kernel
theorem dR_hasBit_7 : decode cR_hasBit 7 = .ok (.if_icmp .ge 22, 3) := by decide +kernel
theorem dR_hasBit_10 : decode cR_hasBit 10 = .ok (.aload_n 0, 1) := by decide +kernel
theorem dR_hasBit_11 : decode cR_hasBit 11 = .ok (.getfield 31, 3) := by decide +kernel
theorem dR_hasBit_14 : decode cR_hasBit 14 = .ok (.iload_n 2, 1) := by decide +kernel
theorem dR_hasBit_15 : decode cR_hasBit 15 = .ok (.invokevirtual 50, 3) := by decide +kernel
theorem dR_hasBit_18 : decode cR_hasBit 18 = .ok (.ifCond .eq 5, 3) := by decide +kernel
theorem dR_hasBit_21 : decode cR_hasBit 21 = .ok (.iconst 1, 1) := by decide +kernel
theorem dR_hasBit_22 : decode cR_hasBit 22 = .ok (.ireturn, 1) := by decide +kernel
theorem dR_hasBit_23 : decode cR_hasBit 23 = .ok (.iinc 2 1, 3) := by decide +kernel
theorem dR_hasBit_26 : decode cR_hasBit 26 = .ok (.goto (-24), 3) := by decide +kernel
theorem dR_hasBit_29 : decode cR_hasBit 29 = .ok (.iconst 0, 1) := by decide +kernel
theorem dR_hasBit_30 : decode cR_hasBit 30 = .ok (.ireturn, 1) := by decide +kernel
theorem dR_init_0 : decode cR_init 0 = .ok (.aload_n 0, 1) := by decide +kernel
theorem dR_init_1 : decode cR_init 1 = .ok (.invokespecial 3, 3) := by decide +kernel
theorem dR_init_4 : decode cR_init 4 = .ok (.aload_n 0, 1) := by decide +kernel
theorem dR_init_5 : decode cR_init 5 = .ok (.new 9, 3) := by decide +kernel
theorem dR_init_8 : decode cR_init 8 = .ok (.dup, 1) := by decide +kernel
theorem dR_init_9 : decode cR_init 9 = .ok (.invokespecial 11, 3) := by decide +kernel
theorem dR_init_12 : decode cR_init 12 = .ok (.putfield 12, 3) := by decide +kernel
theorem dR_init_15 : decode cR_init 15 = .ok (.aload_n 0, 1) := by decide +kernel
theorem dR_init_16 : decode cR_init 16 = .ok (.iconst 0, 1) := by decide +kernel
theorem dR_init_17 : decode cR_init 17 = .ok (.putfield 18, 3) := by decide +kernel
theorem dR_init_20 : decode cR_init 20 = .ok (.aload_n 0, 1) := by decide +kernel
theorem dR_init_21 : decode cR_init 21 = .ok (.iconst (-1), 1) := by decide +kernel
theorem dR_init_22 : decode cR_init 22 = .ok (.putfield 22, 3) := by decide +kernel
theorem dR_init_25 : decode cR_init 25 = .ok (.aload_n 0, 1) := by decide +kernel
theorem dR_init_26 : decode cR_init 26 = .ok (.iconst 0, 1) := by decide +kernel
theorem dR_init_27 : decode cR_init 27 = .ok (.putfield 25, 3) := by decide +kernel
theorem dR_init_30 : decode cR_init 30 = .ok (.aload_n 0, 1) := by decide +kernel
theorem dR_init_31 : decode cR_init 31 = .ok (.iconst 0, 1) := by decide +kernel
theorem dR_init_32 : decode cR_init 32 = .ok (.putfield 28, 3) := by decide +kernel
theorem dR_init_35 : decode cR_init 35 = .ok (.aload_n 0, 1) := by decide +kernel
theorem dR_init_36 : decode cR_init 36 = .ok (.aload_n 1, 1) := by decide +kernel
theorem dR_init_37 : decode cR_init 37 = .ok (.putfield 31, 3) := by decide +kernel
theorem dR_init_40 : decode cR_init 40 = .ok (.return_, 1) := by decide +kernel
theorem dR_isLetter_0 : decode cR_isLetter 0 = .ok (.iload_n 0, 1) := by decide +kernel
theorem dR_isLetter_1 : decode cR_isLetter 1 = .ok (.bipush 48, 2) := by decide +kernel
theorem dR_isLetter_3 : decode cR_isLetter 3 = .ok (.if_icmp .lt 9, 3) := by decide +kernel
theorem dR_isLetter_6 : decode cR_isLetter 6 = .ok (.iload_n 0, 1) := by decide +kernel
theorem dR_isLetter_7 : decode cR_isLetter 7 = .ok (.bipush 57, 2) := by decide +kernel
theorem dR_isLetter_9 : decode cR_isLetter 9 = .ok (.if_icmp .le 15, 3) := by decide +kernel
theorem dR_isLetter_12 : decode cR_isLetter 12 = .ok (.iload_n 0, 1) := by decide +kernel
theorem dR_isLetter_13 : decode cR_isLetter 13 = .ok (.bipush 65, 2) := by decide +kernel
theorem dR_isLetter_15 : decode cR_isLetter 15 = .ok (.if_icmp .lt 13, 3) := by decide +kernel
theorem dR_isLetter_18 : decode cR_isLetter 18 = .ok (.iload_n 0, 1) := by decide +kernel
theorem dR_isLetter_19 : decode cR_isLetter 19 = .ok (.bipush 90, 2) := by decide +kernel
theorem dR_isLetter_21 : decode cR_isLetter 21 = .ok (.if_icmp .gt 7, 3) := by decide +kernel
theorem dR_isLetter_24 : decode cR_isLetter 24 = .ok (.iconst 1, 1) := by decide +kernel
theorem dR_isLetter_25 : decode cR_isLetter 25 = .ok (.goto 4, 3) := by decide +kernel
theorem dR_isLetter_28 : decode cR_isLetter 28 = .ok (.iconst 0, 1) := by decide +kernel
theorem dR_isLetter_29 : decode cR_isLetter 29 = .ok (.ireturn, 1) := by decide +kernel
theorem dR_reaches_0 : decode cR_reaches 0 = .ok (.iload_n 1, 1) := by decide +kernel
theorem dR_reaches_1 : decode cR_reaches 1 = .ok (.aload_n 0, 1) := by decide +kernel
theorem dR_reaches_2 : decode cR_reaches 2 = .ok (.getfield 31, 3) := by decide +kernel
theorem dR_reaches_5 : decode cR_reaches 5 = .ok (.getfield 62, 3) := by decide +kernel
theorem dR_reaches_8 : decode cR_reaches 8 = .ok (.aload_n 0, 1) := by decide +kernel
theorem dR_reaches_9 : decode cR_reaches 9 = .ok (.getfield 25, 3) := by decide +kernel
theorem dR_reaches_12 : decode cR_reaches 12 = .ok (.isub, 1) := by decide +kernel
theorem dR_reaches_13 : decode cR_reaches 13 = .ok (.if_icmp .le 18, 3) := by decide +kernel
theorem dR_reaches_16 : decode cR_reaches 16 = .ok (.aload_n 0, 1) := by decide +kernel
theorem dR_reaches_17 : decode cR_reaches 17 = .ok (.iconst 1, 1) := by decide +kernel
theorem dR_reaches_18 : decode cR_reaches 18 = .ok (.aload_n 0, 1) := by decide +kernel
theorem dR_reaches_19 : decode cR_reaches 19 = .ok (.getfield 31, 3) := by decide +kernel
theorem dR_reaches_22 : decode cR_reaches 22 = .ok (.getfield 62, 3) := by decide +kernel
theorem dR_reaches_25 : decode cR_reaches 25 = .ok (.invokevirtual 65, 3) := by decide +kernel
theorem dR_reaches_28 : decode cR_reaches 28 = .ok (.ifCond .eq 7, 3) := by decide +kernel
theorem dR_reaches_31 : decode cR_reaches 31 = .ok (.iconst 1, 1) := by decide +kernel
theorem dR_reaches_32 : decode cR_reaches 32 = .ok (.goto 4, 3) := by decide +kernel
theorem dR_reaches_35 : decode cR_reaches 35 = .ok (.iconst 0, 1) := by decide +kernel
theorem dR_reaches_36 : decode cR_reaches 36 = .ok (.ireturn, 1) := by decide +kernel
theorem dR_walk_0 : decode cR_walk 0 = .ok (.aload_n 0, 1) := by decide +kernel
theorem dR_walk_1 : decode cR_walk 1 = .ok (.iconst 0, 1) := by decide +kernel
theorem dR_walk_2 : decode cR_walk 2 = .ok (.putfield 18, 3) := by decide +kernel
theorem dR_walk_5 : decode cR_walk 5 = .ok (.aload_n 0, 1) := by decide +kernel
theorem dR_walk_6 : decode cR_walk 6 = .ok (.iconst (-1), 1) := by decide +kernel
theorem dR_walk_7 : decode cR_walk 7 = .ok (.putfield 22, 3) := by decide +kernel
theorem dR_walk_10 : decode cR_walk 10 = .ok (.aload_n 0, 1) := by decide +kernel
theorem dR_walk_11 : decode cR_walk 11 = .ok (.iconst 0, 1) := by decide +kernel
theorem dR_walk_12 : decode cR_walk 12 = .ok (.putfield 25, 3) := by decide +kernel
theorem dR_walk_15 : decode cR_walk 15 = .ok (.aload_n 0, 1) := by decide +kernel
theorem dR_walk_16 : decode cR_walk 16 = .ok (.invokevirtual 35, 3) := by decide +kernel
theorem dR_walk_19 : decode cR_walk 19 = .ok (.ifCond .ne 5, 3) := by decide +kernel
theorem dR_walk_22 : decode cR_walk 22 = .ok (.iconst 0, 1) := by decide +kernel
theorem dR_walk_23 : decode cR_walk 23 = .ok (.ireturn, 1) := by decide +kernel
theorem dR_walk_24 : decode cR_walk 24 = .ok (.aload_n 0, 1) := by decide +kernel
theorem dR_walk_25 : decode cR_walk 25 = .ok (.getfield 25, 3) := by decide +kernel
theorem dR_walk_28 : decode cR_walk 28 = .ok (.istore_n 1, 1) := by decide +kernel
theorem dR_walk_29 : decode cR_walk 29 = .ok (.aload_n 0, 1) := by decide +kernel
theorem dR_walk_30 : decode cR_walk 30 = .ok (.invokevirtual 39, 3) := by decide +kernel
theorem dR_walk_33 : decode cR_walk 33 = .ok (.ifCond .ne 5, 3) := by decide +kernel
theorem dR_walk_36 : decode cR_walk 36 = .ok (.iconst 0, 1) := by decide +kernel
theorem dR_walk_37 : decode cR_walk 37 = .ok (.ireturn, 1) := by decide +kernel
theorem dR_walk_38 : decode cR_walk 38 = .ok (.aload_n 0, 1) := by decide +kernel
theorem dR_walk_39 : decode cR_walk 39 = .ok (.getfield 25, 3) := by decide +kernel
theorem dR_walk_42 : decode cR_walk 42 = .ok (.istore_n 2, 1) := by decide +kernel
theorem dR_walk_43 : decode cR_walk 43 = .ok (.iconst 0, 1) := by decide +kernel
theorem dR_walk_44 : decode cR_walk 44 = .ok (.istore_n 3, 1) := by decide +kernel
theorem dR_walk_45 : decode cR_walk 45 = .ok (.iload_n 3, 1) := by decide +kernel
theorem dR_walk_46 : decode cR_walk 46 = .ok (.bipush 16, 2) := by decide +kernel
theorem dR_walk_48 : decode cR_walk 48 = .ok (.if_icmp .ge 58, 3) := by decide +kernel
theorem dR_walk_51 : decode cR_walk 51 = .ok (.iload_n 1, 1) := by decide +kernel
theorem dR_walk_52 : decode cR_walk 52 = .ok (.getstatic 42, 3) := by decide +kernel
theorem dR_walk_55 : decode cR_walk 55 = .ok (.iload_n 3, 1) := by decide +kernel
theorem dR_walk_56 : decode cR_walk 56 = .ok (.iaload, 1) := by decide +kernel
theorem dR_walk_57 : decode cR_walk 57 = .ok (.invokestatic 46, 3) := by decide +kernel
theorem dR_walk_60 : decode cR_walk 60 = .ok (.iadd, 1) := by decide +kernel
theorem dR_walk_61 : decode cR_walk 61 = .ok (.istore 4, 2) := by decide +kernel
theorem dR_walk_63 : decode cR_walk 63 = .ok (.iload 4, 2) := by decide +kernel
theorem dR_walk_65 : decode cR_walk 65 = .ok (.iload_n 2, 1) := by decide +kernel
theorem dR_walk_66 : decode cR_walk 66 = .ok (.if_icmp .ge 34, 3) := by decide +kernel
theorem dR_walk_69 : decode cR_walk 69 = .ok (.aload_n 0, 1) := by decide +kernel
theorem dR_walk_70 : decode cR_walk 70 = .ok (.getfield 31, 3) := by decide +kernel
theorem dR_walk_73 : decode cR_walk 73 = .ok (.iload 4, 2) := by decide +kernel
theorem dR_walk_75 : decode cR_walk 75 = .ok (.invokevirtual 50, 3) := by decide +kernel
theorem dR_walk_78 : decode cR_walk 78 = .ok (.getstatic 42, 3) := by decide +kernel
theorem dR_walk_81 : decode cR_walk 81 = .ok (.iload_n 3, 1) := by decide +kernel
theorem dR_walk_82 : decode cR_walk 82 = .ok (.iaload, 1) := by decide +kernel
theorem dR_walk_83 : decode cR_walk 83 = .ok (.invokestatic 55, 3) := by decide +kernel
theorem dR_walk_86 : decode cR_walk 86 = .ok (.iand, 1) := by decide +kernel
theorem dR_walk_87 : decode cR_walk 87 = .ok (.ifCond .eq 13, 3) := by decide +kernel
theorem dR_walk_90 : decode cR_walk 90 = .ok (.aload_n 0, 1) := by decide +kernel
theorem dR_walk_91 : decode cR_walk 91 = .ok (.iload_n 3, 1) := by decide +kernel
theorem dR_walk_92 : decode cR_walk 92 = .ok (.invokevirtual 58, 3) := by decide +kernel
theorem dR_walk_95 : decode cR_walk 95 = .ok (.ifCond .ne 5, 3) := by decide +kernel
theorem dR_walk_98 : decode cR_walk 98 = .ok (.iconst 0, 1) := by decide +kernel
theorem dR_walk_99 : decode cR_walk 99 = .ok (.ireturn, 1) := by decide +kernel
theorem dR_walk_100 : decode cR_walk 100 = .ok (.iinc 3 1, 3) := by decide +kernel
theorem dR_walk_103 : decode cR_walk 103 = .ok (.goto (-58), 3) := by decide +kernel
theorem dR_walk_106 : decode cR_walk 106 = .ok (.aload_n 0, 1) := by decide +kernel
theorem dR_walk_107 : decode cR_walk 107 = .ok (.getfield 25, 3) := by decide +kernel
theorem dR_walk_110 : decode cR_walk 110 = .ok (.aload_n 0, 1) := by decide +kernel
theorem dR_walk_111 : decode cR_walk 111 = .ok (.getfield 31, 3) := by decide +kernel
theorem dR_walk_114 : decode cR_walk 114 = .ok (.getfield 62, 3) := by decide +kernel
theorem dR_walk_117 : decode cR_walk 117 = .ok (.if_icmp .eq 16, 3) := by decide +kernel
theorem dR_walk_120 : decode cR_walk 120 = .ok (.aload_n 0, 1) := by decide +kernel
theorem dR_walk_121 : decode cR_walk 121 = .ok (.bipush 7, 2) := by decide +kernel
theorem dR_walk_123 : decode cR_walk 123 = .ok (.aload_n 0, 1) := by decide +kernel
theorem dR_walk_124 : decode cR_walk 124 = .ok (.getfield 25, 3) := by decide +kernel
theorem dR_walk_127 : decode cR_walk 127 = .ok (.invokevirtual 65, 3) := by decide +kernel
theorem dR_walk_130 : decode cR_walk 130 = .ok (.ifCond .eq 7, 3) := by decide +kernel
theorem dR_walk_133 : decode cR_walk 133 = .ok (.iconst 1, 1) := by decide +kernel
theorem dR_walk_134 : decode cR_walk 134 = .ok (.goto 4, 3) := by decide +kernel
theorem dR_walk_137 : decode cR_walk 137 = .ok (.iconst 0, 1) := by decide +kernel
theorem dR_walk_138 : decode cR_walk 138 = .ok (.ireturn, 1) := by decide +kernel
theorem dR_walkDigits_0 : decode cR_walkDigits 0 = .ok (.aload_n 0, 1) := by decide +kernel
theorem dR_walkDigits_1 : decode cR_walkDigits 1 = .ok (.iload_n 2, 1) := by decide +kernel
theorem dR_walkDigits_2 : decode cR_walkDigits 2 = .ok (.invokevirtual 103, 3) := by decide +kernel
theorem dR_walkDigits_5 : decode cR_walkDigits 5 = .ok (.ifCond .ne 5, 3) := by decide +kernel
theorem dR_walkDigits_8 : decode cR_walkDigits 8 = .ok (.iconst 0, 1) := by decide +kernel
theorem dR_walkDigits_9 : decode cR_walkDigits 9 = .ok (.ireturn, 1) := by decide +kernel
theorem dR_walkDigits_10 : decode cR_walkDigits 10 = .ok (.iconst 0, 1) := by decide +kernel
theorem dR_walkDigits_11 : decode cR_walkDigits 11 = .ok (.istore_n 3, 1) := by decide +kernel
theorem dR_walkDigits_12 : decode cR_walkDigits 12 = .ok (.iload_n 3, 1) := by decide +kernel
theorem dR_walkDigits_13 : decode cR_walkDigits 13 = .ok (.iload_n 2, 1) := by decide +kernel
theorem dR_walkDigits_14 : decode cR_walkDigits 14 = .ok (.if_icmp .ge 24, 3) := by decide +kernel
theorem dR_walkDigits_17 : decode cR_walkDigits 17 = .ok (.aload_n 0, 1) := by decide +kernel
theorem dR_walkDigits_18 : decode cR_walkDigits 18 = .ok (.getfield 12, 3) := by decide +kernel
theorem dR_walkDigits_21 : decode cR_walkDigits 21 = .ok (.iload_n 1, 1) := by decide +kernel
theorem dR_walkDigits_22 : decode cR_walkDigits 22 = .ok (.iload_n 3, 1) := by decide +kernel
theorem dR_walkDigits_23 : decode cR_walkDigits 23 = .ok (.aload_n 0, 1) := by decide +kernel
theorem dR_walkDigits_24 : decode cR_walkDigits 24 = .ok (.iload_n 3, 1) := by decide +kernel
theorem dR_walkDigits_25 : decode cR_walkDigits 25 = .ok (.iload_n 2, 1) := by decide +kernel
theorem dR_walkDigits_26 : decode cR_walkDigits 26 = .ok (.invokevirtual 106, 3) := by decide +kernel
theorem dR_walkDigits_29 : decode cR_walkDigits 29 = .ok (.invokevirtual 113, 3) := by decide +kernel
theorem dR_walkDigits_32 : decode cR_walkDigits 32 = .ok (.iinc 3 1, 3) := by decide +kernel
theorem dR_walkDigits_35 : decode cR_walkDigits 35 = .ok (.goto (-23), 3) := by decide +kernel
theorem dR_walkDigits_38 : decode cR_walkDigits 38 = .ok (.aload_n 0, 1) := by decide +kernel
theorem dR_walkDigits_39 : decode cR_walkDigits 39 = .ok (.getfield 12, 3) := by decide +kernel
theorem dR_walkDigits_42 : decode cR_walkDigits 42 = .ok (.getfield 117, 3) := by decide +kernel
theorem dR_walkDigits_45 : decode cR_walkDigits 45 = .ok (.iload_n 1, 1) := by decide +kernel
theorem dR_walkDigits_46 : decode cR_walkDigits 46 = .ok (.iload_n 2, 1) := by decide +kernel
theorem dR_walkDigits_47 : decode cR_walkDigits 47 = .ok (.iastore, 1) := by decide +kernel
theorem dR_walkDigits_48 : decode cR_walkDigits 48 = .ok (.aload_n 0, 1) := by decide +kernel
theorem dR_walkDigits_49 : decode cR_walkDigits 49 = .ok (.dup, 1) := by decide +kernel
theorem dR_walkDigits_50 : decode cR_walkDigits 50 = .ok (.getfield 25, 3) := by decide +kernel
theorem dR_walkDigits_53 : decode cR_walkDigits 53 = .ok (.iload_n 2, 1) := by decide +kernel
theorem dR_walkDigits_54 : decode cR_walkDigits 54 = .ok (.invokestatic 110, 3) := by decide +kernel
theorem dR_walkDigits_57 : decode cR_walkDigits 57 = .ok (.iadd, 1) := by decide +kernel
theorem dR_walkDigits_58 : decode cR_walkDigits 58 = .ok (.putfield 25, 3) := by decide +kernel
theorem dR_walkDigits_61 : decode cR_walkDigits 61 = .ok (.iconst 1, 1) := by decide +kernel
theorem dR_walkDigits_62 : decode cR_walkDigits 62 = .ok (.ireturn, 1) := by decide +kernel
theorem dR_walkField_0 : decode cR_walkField 0 = .ok (.getstatic 88, 3) := by decide +kernel
theorem dR_walkField_3 : decode cR_walkField 3 = .ok (.iload_n 1, 1) := by decide +kernel
theorem dR_walkField_4 : decode cR_walkField 4 = .ok (.iaload, 1) := by decide +kernel
theorem dR_walkField_5 : decode cR_walkField 5 = .ok (.istore_n 2, 1) := by decide +kernel
theorem dR_walkField_6 : decode cR_walkField 6 = .ok (.getstatic 91, 3) := by decide +kernel
theorem dR_walkField_9 : decode cR_walkField 9 = .ok (.iload_n 1, 1) := by decide +kernel
theorem dR_walkField_10 : decode cR_walkField 10 = .ok (.iaload, 1) := by decide +kernel
theorem dR_walkField_11 : decode cR_walkField 11 = .ok (.ifCond .eq 48, 3) := by decide +kernel
theorem dR_walkField_14 : decode cR_walkField 14 = .ok (.aload_n 0, 1) := by decide +kernel
theorem dR_walkField_15 : decode cR_walkField 15 = .ok (.getfield 25, 3) := by decide +kernel
theorem dR_walkField_18 : decode cR_walkField 18 = .ok (.istore_n 3, 1) := by decide +kernel
theorem dR_walkField_19 : decode cR_walkField 19 = .ok (.aload_n 0, 1) := by decide +kernel
theorem dR_walkField_20 : decode cR_walkField 20 = .ok (.getstatic 91, 3) := by decide +kernel
theorem dR_walkField_23 : decode cR_walkField 23 = .ok (.iload_n 1, 1) := by decide +kernel
theorem dR_walkField_24 : decode cR_walkField 24 = .ok (.iaload, 1) := by decide +kernel
theorem dR_walkField_25 : decode cR_walkField 25 = .ok (.invokevirtual 69, 3) := by decide +kernel
theorem dR_walkField_28 : decode cR_walkField 28 = .ok (.ifCond .ne 5, 3) := by decide +kernel
theorem dR_walkField_31 : decode cR_walkField 31 = .ok (.iconst 0, 1) := by decide +kernel
theorem dR_walkField_32 : decode cR_walkField 32 = .ok (.ireturn, 1) := by decide +kernel
theorem dR_walkField_33 : decode cR_walkField 33 = .ok (.aload_n 0, 1) := by decide +kernel
theorem dR_walkField_34 : decode cR_walkField 34 = .ok (.getfield 28, 3) := by decide +kernel
theorem dR_walkField_37 : decode cR_walkField 37 = .ok (.istore_n 2, 1) := by decide +kernel
theorem dR_walkField_38 : decode cR_walkField 38 = .ok (.iload_n 2, 1) := by decide +kernel
theorem dR_walkField_39 : decode cR_walkField 39 = .ok (.iconst 1, 1) := by decide +kernel
theorem dR_walkField_40 : decode cR_walkField 40 = .ok (.if_icmp .lt 12, 3) := by decide +kernel
theorem dR_walkField_43 : decode cR_walkField 43 = .ok (.iload_n 2, 1) := by decide +kernel
theorem dR_walkField_44 : decode cR_walkField 44 = .ok (.getstatic 88, 3) := by decide +kernel
theorem dR_walkField_47 : decode cR_walkField 47 = .ok (.iload_n 1, 1) := by decide +kernel
theorem dR_walkField_48 : decode cR_walkField 48 = .ok (.iaload, 1) := by decide +kernel
theorem dR_walkField_49 : decode cR_walkField 49 = .ok (.if_icmp .le 10, 3) := by decide +kernel
theorem dR_walkField_52 : decode cR_walkField 52 = .ok (.aload_n 0, 1) := by decide +kernel
theorem dR_walkField_53 : decode cR_walkField 53 = .ok (.iconst 5, 1) := by decide +kernel
theorem dR_walkField_54 : decode cR_walkField 54 = .ok (.iload_n 3, 1) := by decide +kernel
theorem dR_walkField_55 : decode cR_walkField 55 = .ok (.invokevirtual 65, 3) := by decide +kernel
theorem dR_walkField_58 : decode cR_walkField 58 = .ok (.ireturn, 1) := by decide +kernel
theorem dR_walkField_59 : decode cR_walkField 59 = .ok (.getstatic 94, 3) := by decide +kernel
theorem dR_walkField_62 : decode cR_walkField 62 = .ok (.iload_n 1, 1) := by decide +kernel
theorem dR_walkField_63 : decode cR_walkField 63 = .ok (.iaload, 1) := by decide +kernel
theorem dR_walkField_64 : decode cR_walkField 64 = .ok (.ifCond .eq 12, 3) := by decide +kernel
theorem dR_walkField_67 : decode cR_walkField 67 = .ok (.aload_n 0, 1) := by decide +kernel
theorem dR_walkField_68 : decode cR_walkField 68 = .ok (.iload_n 1, 1) := by decide +kernel
theorem dR_walkField_69 : decode cR_walkField 69 = .ok (.iload_n 2, 1) := by decide +kernel
theorem dR_walkField_70 : decode cR_walkField 70 = .ok (.invokevirtual 97, 3) := by decide +kernel
theorem dR_walkField_73 : decode cR_walkField 73 = .ok (.goto 9, 3) := by decide +kernel
theorem dR_walkField_76 : decode cR_walkField 76 = .ok (.aload_n 0, 1) := by decide +kernel
theorem dR_walkField_77 : decode cR_walkField 77 = .ok (.iload_n 1, 1) := by decide +kernel
theorem dR_walkField_78 : decode cR_walkField 78 = .ok (.iload_n 2, 1) := by decide +kernel
theorem dR_walkField_79 : decode cR_walkField 79 = .ok (.invokevirtual 100, 3) := by decide +kernel
theorem dR_walkField_82 : decode cR_walkField 82 = .ok (.ireturn, 1) := by decide +kernel
theorem dR_walkLetters_0 : decode cR_walkLetters 0 = .ok (.aload_n 0, 1) := by decide +kernel
theorem dR_walkLetters_1 : decode cR_walkLetters 1 = .ok (.iload_n 2, 1) := by decide +kernel
theorem dR_walkLetters_2 : decode cR_walkLetters 2 = .ok (.invokevirtual 79, 3) := by decide +kernel
theorem dR_walkLetters_5 : decode cR_walkLetters 5 = .ok (.ifCond .ne 5, 3) := by decide +kernel
theorem dR_walkLetters_8 : decode cR_walkLetters 8 = .ok (.iconst 0, 1) := by decide +kernel
theorem dR_walkLetters_9 : decode cR_walkLetters 9 = .ok (.ireturn, 1) := by decide +kernel
theorem dR_walkLetters_10 : decode cR_walkLetters 10 = .ok (.iconst 0, 1) := by decide +kernel
theorem dR_walkLetters_11 : decode cR_walkLetters 11 = .ok (.istore_n 3, 1) := by decide +kernel
theorem dR_walkLetters_12 : decode cR_walkLetters 12 = .ok (.iload_n 3, 1) := by decide +kernel
theorem dR_walkLetters_13 : decode cR_walkLetters 13 = .ok (.iload_n 2, 1) := by decide +kernel
theorem dR_walkLetters_14 : decode cR_walkLetters 14 = .ok (.if_icmp .ge 56, 3) := by decide +kernel
theorem dR_walkLetters_17 : decode cR_walkLetters 17 = .ok (.aload_n 0, 1) := by decide +kernel
theorem dR_walkLetters_18 : decode cR_walkLetters 18 = .ok (.getfield 31, 3) := by decide +kernel
theorem dR_walkLetters_21 : decode cR_walkLetters 21 = .ok (.aload_n 0, 1) := by decide +kernel
theorem dR_walkLetters_22 : decode cR_walkLetters 22 = .ok (.getfield 25, 3) := by decide +kernel
theorem dR_walkLetters_25 : decode cR_walkLetters 25 = .ok (.iload_n 3, 1) := by decide +kernel
theorem dR_walkLetters_26 : decode cR_walkLetters 26 = .ok (.iadd, 1) := by decide +kernel
theorem dR_walkLetters_27 : decode cR_walkLetters 27 = .ok (.invokevirtual 50, 3) := by decide +kernel
theorem dR_walkLetters_30 : decode cR_walkLetters 30 = .ok (.istore 4, 2) := by decide +kernel
theorem dR_walkLetters_32 : decode cR_walkLetters 32 = .ok (.iload 4, 2) := by decide +kernel
theorem dR_walkLetters_34 : decode cR_walkLetters 34 = .ok (.invokestatic 120, 3) := by decide +kernel
theorem dR_walkLetters_37 : decode cR_walkLetters 37 = .ok (.ifCond .ne 16, 3) := by decide +kernel
theorem dR_walkLetters_40 : decode cR_walkLetters 40 = .ok (.aload_n 0, 1) := by decide +kernel
theorem dR_walkLetters_41 : decode cR_walkLetters 41 = .ok (.bipush 6, 2) := by decide +kernel
theorem dR_walkLetters_43 : decode cR_walkLetters 43 = .ok (.aload_n 0, 1) := by decide +kernel
theorem dR_walkLetters_44 : decode cR_walkLetters 44 = .ok (.getfield 25, 3) := by decide +kernel
theorem dR_walkLetters_47 : decode cR_walkLetters 47 = .ok (.iload_n 3, 1) := by decide +kernel
theorem dR_walkLetters_48 : decode cR_walkLetters 48 = .ok (.iadd, 1) := by decide +kernel
theorem dR_walkLetters_49 : decode cR_walkLetters 49 = .ok (.invokevirtual 65, 3) := by decide +kernel
theorem dR_walkLetters_52 : decode cR_walkLetters 52 = .ok (.ireturn, 1) := by decide +kernel
theorem dR_walkLetters_53 : decode cR_walkLetters 53 = .ok (.aload_n 0, 1) := by decide +kernel
theorem dR_walkLetters_54 : decode cR_walkLetters 54 = .ok (.getfield 12, 3) := by decide +kernel
theorem dR_walkLetters_57 : decode cR_walkLetters 57 = .ok (.iload_n 1, 1) := by decide +kernel
theorem dR_walkLetters_58 : decode cR_walkLetters 58 = .ok (.iload_n 3, 1) := by decide +kernel
theorem dR_walkLetters_59 : decode cR_walkLetters 59 = .ok (.iload 4, 2) := by decide +kernel
theorem dR_walkLetters_61 : decode cR_walkLetters 61 = .ok (.invokevirtual 113, 3) := by decide +kernel
theorem dR_walkLetters_64 : decode cR_walkLetters 64 = .ok (.iinc 3 1, 3) := by decide +kernel
theorem dR_walkLetters_67 : decode cR_walkLetters 67 = .ok (.goto (-55), 3) := by decide +kernel
theorem dR_walkLetters_70 : decode cR_walkLetters 70 = .ok (.aload_n 0, 1) := by decide +kernel
theorem dR_walkLetters_71 : decode cR_walkLetters 71 = .ok (.getfield 12, 3) := by decide +kernel
theorem dR_walkLetters_74 : decode cR_walkLetters 74 = .ok (.getfield 117, 3) := by decide +kernel
theorem dR_walkLetters_77 : decode cR_walkLetters 77 = .ok (.iload_n 1, 1) := by decide +kernel
theorem dR_walkLetters_78 : decode cR_walkLetters 78 = .ok (.iload_n 2, 1) := by decide +kernel
theorem dR_walkLetters_79 : decode cR_walkLetters 79 = .ok (.iastore, 1) := by decide +kernel
theorem dR_walkLetters_80 : decode cR_walkLetters 80 = .ok (.aload_n 0, 1) := by decide +kernel
theorem dR_walkLetters_81 : decode cR_walkLetters 81 = .ok (.dup, 1) := by decide +kernel
theorem dR_walkLetters_82 : decode cR_walkLetters 82 = .ok (.getfield 25, 3) := by decide +kernel
theorem dR_walkLetters_85 : decode cR_walkLetters 85 = .ok (.iload_n 2, 1) := by decide +kernel
theorem dR_walkLetters_86 : decode cR_walkLetters 86 = .ok (.iadd, 1) := by decide +kernel
theorem dR_walkLetters_87 : decode cR_walkLetters 87 = .ok (.putfield 25, 3) := by decide +kernel
theorem dR_walkLetters_90 : decode cR_walkLetters 90 = .ok (.iconst 1, 1) := by decide +kernel
theorem dR_walkLetters_91 : decode cR_walkLetters 91 = .ok (.ireturn, 1) := by decide +kernel
theorem dR_walkMaps_0 : decode cR_walkMaps 0 = .ok (.aload_n 0, 1) := by decide +kernel
theorem dR_walkMaps_1 : decode cR_walkMaps 1 = .ok (.getfield 25, 3) := by decide +kernel
theorem dR_walkMaps_4 : decode cR_walkMaps 4 = .ok (.istore_n 1, 1) := by decide +kernel
theorem dR_walkMaps_5 : decode cR_walkMaps 5 = .ok (.aload_n 0, 1) := by decide +kernel
theorem dR_walkMaps_6 : decode cR_walkMaps 6 = .ok (.bipush 8, 2) := by decide +kernel
theorem dR_walkMaps_8 : decode cR_walkMaps 8 = .ok (.invokevirtual 79, 3) := by decide +kernel
theorem dR_walkMaps_11 : decode cR_walkMaps 11 = .ok (.ifCond .ne 5, 3) := by decide +kernel
theorem dR_walkMaps_14 : decode cR_walkMaps 14 = .ok (.iconst 0, 1) := by decide +kernel
theorem dR_walkMaps_15 : decode cR_walkMaps 15 = .ok (.ireturn, 1) := by decide +kernel
theorem dR_walkMaps_16 : decode cR_walkMaps 16 = .ok (.aload_n 0, 1) := by decide +kernel
theorem dR_walkMaps_17 : decode cR_walkMaps 17 = .ok (.dup, 1) := by decide +kernel
theorem dR_walkMaps_18 : decode cR_walkMaps 18 = .ok (.getfield 25, 3) := by decide +kernel
theorem dR_walkMaps_21 : decode cR_walkMaps 21 = .ok (.bipush 8, 2) := by decide +kernel
theorem dR_walkMaps_23 : decode cR_walkMaps 23 = .ok (.iadd, 1) := by decide +kernel
theorem dR_walkMaps_24 : decode cR_walkMaps 24 = .ok (.putfield 25, 3) := by decide +kernel
theorem dR_walkMaps_27 : decode cR_walkMaps 27 = .ok (.aload_n 0, 1) := by decide +kernel
theorem dR_walkMaps_28 : decode cR_walkMaps 28 = .ok (.getfield 31, 3) := by decide +kernel
theorem dR_walkMaps_31 : decode cR_walkMaps 31 = .ok (.iload_n 1, 1) := by decide +kernel
theorem dR_walkMaps_32 : decode cR_walkMaps 32 = .ok (.invokevirtual 50, 3) := by decide +kernel
theorem dR_walkMaps_35 : decode cR_walkMaps 35 = .ok (.sipush 128, 3) := by decide +kernel
theorem dR_walkMaps_38 : decode cR_walkMaps 38 = .ok (.iand, 1) := by decide +kernel
theorem dR_walkMaps_39 : decode cR_walkMaps 39 = .ok (.ifCond .eq 7, 3) := by decide +kernel
theorem dR_walkMaps_42 : decode cR_walkMaps 42 = .ok (.iconst 1, 1) := by decide +kernel
theorem dR_walkMaps_43 : decode cR_walkMaps 43 = .ok (.goto 4, 3) := by decide +kernel
theorem dR_walkMaps_46 : decode cR_walkMaps 46 = .ok (.iconst 0, 1) := by decide +kernel
theorem dR_walkMaps_47 : decode cR_walkMaps 47 = .ok (.istore_n 2, 1) := by decide +kernel
theorem dR_walkMaps_48 : decode cR_walkMaps 48 = .ok (.iload_n 2, 1) := by decide +kernel
theorem dR_walkMaps_49 : decode cR_walkMaps 49 = .ok (.ifCond .eq 25, 3) := by decide +kernel
theorem dR_walkMaps_52 : decode cR_walkMaps 52 = .ok (.aload_n 0, 1) := by decide +kernel
theorem dR_walkMaps_53 : decode cR_walkMaps 53 = .ok (.bipush 8, 2) := by decide +kernel
theorem dR_walkMaps_55 : decode cR_walkMaps 55 = .ok (.invokevirtual 79, 3) := by decide +kernel
theorem dR_walkMaps_58 : decode cR_walkMaps 58 = .ok (.ifCond .ne 5, 3) := by decide +kernel
theorem dR_walkMaps_61 : decode cR_walkMaps 61 = .ok (.iconst 0, 1) := by decide +kernel
theorem dR_walkMaps_62 : decode cR_walkMaps 62 = .ok (.ireturn, 1) := by decide +kernel
theorem dR_walkMaps_63 : decode cR_walkMaps 63 = .ok (.aload_n 0, 1) := by decide +kernel
theorem dR_walkMaps_64 : decode cR_walkMaps 64 = .ok (.dup, 1) := by decide +kernel
theorem dR_walkMaps_65 : decode cR_walkMaps 65 = .ok (.getfield 25, 3) := by decide +kernel
theorem dR_walkMaps_68 : decode cR_walkMaps 68 = .ok (.bipush 8, 2) := by decide +kernel
theorem dR_walkMaps_70 : decode cR_walkMaps 70 = .ok (.iadd, 1) := by decide +kernel
theorem dR_walkMaps_71 : decode cR_walkMaps 71 = .ok (.putfield 25, 3) := by decide +kernel
theorem dR_walkMaps_74 : decode cR_walkMaps 74 = .ok (.iload_n 1, 1) := by decide +kernel
theorem dR_walkMaps_75 : decode cR_walkMaps 75 = .ok (.istore_n 3, 1) := by decide +kernel
theorem dR_walkMaps_76 : decode cR_walkMaps 76 = .ok (.iload_n 3, 1) := by decide +kernel
theorem dR_walkMaps_77 : decode cR_walkMaps 77 = .ok (.aload_n 0, 1) := by decide +kernel
theorem dR_walkMaps_78 : decode cR_walkMaps 78 = .ok (.getfield 25, 3) := by decide +kernel
theorem dR_walkMaps_81 : decode cR_walkMaps 81 = .ok (.if_icmp .ge 37, 3) := by decide +kernel
theorem dR_walkMaps_84 : decode cR_walkMaps 84 = .ok (.aload_n 0, 1) := by decide +kernel
theorem dR_walkMaps_85 : decode cR_walkMaps 85 = .ok (.getfield 31, 3) := by decide +kernel
theorem dR_walkMaps_88 : decode cR_walkMaps 88 = .ok (.iload_n 3, 1) := by decide +kernel
theorem dR_walkMaps_89 : decode cR_walkMaps 89 = .ok (.invokevirtual 50, 3) := by decide +kernel
theorem dR_walkMaps_92 : decode cR_walkMaps 92 = .ok (.getstatic 82, 3) := by decide +kernel
theorem dR_walkMaps_95 : decode cR_walkMaps 95 = .ok (.iload_n 3, 1) := by decide +kernel
theorem dR_walkMaps_96 : decode cR_walkMaps 96 = .ok (.iload_n 1, 1) := by decide +kernel
theorem dR_walkMaps_97 : decode cR_walkMaps 97 = .ok (.isub, 1) := by decide +kernel
theorem dR_walkMaps_98 : decode cR_walkMaps 98 = .ok (.iaload, 1) := by decide +kernel
theorem dR_walkMaps_99 : decode cR_walkMaps 99 = .ok (.iconst (-1), 1) := by decide +kernel
theorem dR_walkMaps_100 : decode cR_walkMaps 100 = .ok (.ixor, 1) := by decide +kernel
theorem dR_walkMaps_101 : decode cR_walkMaps 101 = .ok (.iand, 1) := by decide +kernel
theorem dR_walkMaps_102 : decode cR_walkMaps 102 = .ok (.ifCond .eq 10, 3) := by decide +kernel
theorem dR_walkMaps_105 : decode cR_walkMaps 105 = .ok (.aload_n 0, 1) := by decide +kernel
theorem dR_walkMaps_106 : decode cR_walkMaps 106 = .ok (.iconst 4, 1) := by decide +kernel
theorem dR_walkMaps_107 : decode cR_walkMaps 107 = .ok (.iload_n 3, 1) := by decide +kernel
theorem dR_walkMaps_108 : decode cR_walkMaps 108 = .ok (.invokevirtual 65, 3) := by decide +kernel
theorem dR_walkMaps_111 : decode cR_walkMaps 111 = .ok (.ireturn, 1) := by decide +kernel
theorem dR_walkMaps_112 : decode cR_walkMaps 112 = .ok (.iinc 3 1, 3) := by decide +kernel
theorem dR_walkMaps_115 : decode cR_walkMaps 115 = .ok (.goto (-39), 3) := by decide +kernel
theorem dR_walkMaps_118 : decode cR_walkMaps 118 = .ok (.iload_n 2, 1) := by decide +kernel
theorem dR_walkMaps_119 : decode cR_walkMaps 119 = .ok (.ifCond .eq 26, 3) := by decide +kernel
theorem dR_walkMaps_122 : decode cR_walkMaps 122 = .ok (.aload_n 0, 1) := by decide +kernel
theorem dR_walkMaps_123 : decode cR_walkMaps 123 = .ok (.iload_n 1, 1) := by decide +kernel
theorem dR_walkMaps_124 : decode cR_walkMaps 124 = .ok (.bipush 8, 2) := by decide +kernel
theorem dR_walkMaps_126 : decode cR_walkMaps 126 = .ok (.iadd, 1) := by decide +kernel
theorem dR_walkMaps_127 : decode cR_walkMaps 127 = .ok (.invokevirtual 85, 3) := by decide +kernel
theorem dR_walkMaps_130 : decode cR_walkMaps 130 = .ok (.ifCond .ne 15, 3) := by decide +kernel
theorem dR_walkMaps_133 : decode cR_walkMaps 133 = .ok (.aload_n 0, 1) := by decide +kernel
theorem dR_walkMaps_134 : decode cR_walkMaps 134 = .ok (.iconst 4, 1) := by decide +kernel
theorem dR_walkMaps_135 : decode cR_walkMaps 135 = .ok (.iload_n 1, 1) := by decide +kernel
theorem dR_walkMaps_136 : decode cR_walkMaps 136 = .ok (.bipush 8, 2) := by decide +kernel
theorem dR_walkMaps_138 : decode cR_walkMaps 138 = .ok (.iadd, 1) := by decide +kernel
theorem dR_walkMaps_139 : decode cR_walkMaps 139 = .ok (.invokevirtual 65, 3) := by decide +kernel
theorem dR_walkMaps_142 : decode cR_walkMaps 142 = .ok (.ifCond .eq 7, 3) := by decide +kernel
theorem dR_walkMaps_145 : decode cR_walkMaps 145 = .ok (.iconst 1, 1) := by decide +kernel
theorem dR_walkMaps_146 : decode cR_walkMaps 146 = .ok (.goto 4, 3) := by decide +kernel
theorem dR_walkMaps_149 : decode cR_walkMaps 149 = .ok (.iconst 0, 1) := by decide +kernel
theorem dR_walkMaps_150 : decode cR_walkMaps 150 = .ok (.ireturn, 1) := by decide +kernel
theorem dR_walkNumber_0 : decode cR_walkNumber 0 = .ok (.aload_n 0, 1) := by decide +kernel
theorem dR_walkNumber_1 : decode cR_walkNumber 1 = .ok (.iload_n 1, 1) := by decide +kernel
theorem dR_walkNumber_2 : decode cR_walkNumber 2 = .ok (.invokevirtual 103, 3) := by decide +kernel
theorem dR_walkNumber_5 : decode cR_walkNumber 5 = .ok (.ifCond .ne 5, 3) := by decide +kernel
theorem dR_walkNumber_8 : decode cR_walkNumber 8 = .ok (.iconst 0, 1) := by decide +kernel
theorem dR_walkNumber_9 : decode cR_walkNumber 9 = .ok (.ireturn, 1) := by decide +kernel
theorem dR_walkNumber_10 : decode cR_walkNumber 10 = .ok (.aload_n 0, 1) := by decide +kernel
theorem dR_walkNumber_11 : decode cR_walkNumber 11 = .ok (.iconst 0, 1) := by decide +kernel
theorem dR_walkNumber_12 : decode cR_walkNumber 12 = .ok (.putfield 28, 3) := by decide +kernel
theorem dR_walkNumber_15 : decode cR_walkNumber 15 = .ok (.iconst 0, 1) := by decide +kernel
theorem dR_walkNumber_16 : decode cR_walkNumber 16 = .ok (.istore_n 2, 1) := by decide +kernel
theorem dR_walkNumber_17 : decode cR_walkNumber 17 = .ok (.iload_n 2, 1) := by decide +kernel
theorem dR_walkNumber_18 : decode cR_walkNumber 18 = .ok (.iload_n 1, 1) := by decide +kernel
theorem dR_walkNumber_19 : decode cR_walkNumber 19 = .ok (.if_icmp .ge 27, 3) := by decide +kernel
theorem dR_walkNumber_22 : decode cR_walkNumber 22 = .ok (.aload_n 0, 1) := by decide +kernel
theorem dR_walkNumber_23 : decode cR_walkNumber 23 = .ok (.aload_n 0, 1) := by decide +kernel
theorem dR_walkNumber_24 : decode cR_walkNumber 24 = .ok (.getfield 28, 3) := by decide +kernel
theorem dR_walkNumber_27 : decode cR_walkNumber 27 = .ok (.bipush 10, 2) := by decide +kernel
theorem dR_walkNumber_29 : decode cR_walkNumber 29 = .ok (.imul, 1) := by decide +kernel
theorem dR_walkNumber_30 : decode cR_walkNumber 30 = .ok (.aload_n 0, 1) := by decide +kernel
theorem dR_walkNumber_31 : decode cR_walkNumber 31 = .ok (.iload_n 2, 1) := by decide +kernel
theorem dR_walkNumber_32 : decode cR_walkNumber 32 = .ok (.iload_n 1, 1) := by decide +kernel
theorem dR_walkNumber_33 : decode cR_walkNumber 33 = .ok (.invokevirtual 106, 3) := by decide +kernel
theorem dR_walkNumber_36 : decode cR_walkNumber 36 = .ok (.iadd, 1) := by decide +kernel
theorem dR_walkNumber_37 : decode cR_walkNumber 37 = .ok (.putfield 28, 3) := by decide +kernel
theorem dR_walkNumber_40 : decode cR_walkNumber 40 = .ok (.iinc 2 1, 3) := by decide +kernel
theorem dR_walkNumber_43 : decode cR_walkNumber 43 = .ok (.goto (-26), 3) := by decide +kernel
theorem dR_walkNumber_46 : decode cR_walkNumber 46 = .ok (.aload_n 0, 1) := by decide +kernel
theorem dR_walkNumber_47 : decode cR_walkNumber 47 = .ok (.dup, 1) := by decide +kernel
theorem dR_walkNumber_48 : decode cR_walkNumber 48 = .ok (.getfield 25, 3) := by decide +kernel
theorem dR_walkNumber_51 : decode cR_walkNumber 51 = .ok (.iload_n 1, 1) := by decide +kernel
theorem dR_walkNumber_52 : decode cR_walkNumber 52 = .ok (.invokestatic 110, 3) := by decide +kernel
theorem dR_walkNumber_55 : decode cR_walkNumber 55 = .ok (.iadd, 1) := by decide +kernel
theorem dR_walkNumber_56 : decode cR_walkNumber 56 = .ok (.putfield 25, 3) := by decide +kernel
theorem dR_walkNumber_59 : decode cR_walkNumber 59 = .ok (.iconst 1, 1) := by decide +kernel
theorem dR_walkNumber_60 : decode cR_walkNumber 60 = .ok (.ireturn, 1) := by decide +kernel
theorem dR_walkType_0 : decode cR_walkType 0 = .ok (.aload_n 0, 1) := by decide +kernel
theorem dR_walkType_1 : decode cR_walkType 1 = .ok (.iconst 4, 1) := by decide +kernel
theorem dR_walkType_2 : decode cR_walkType 2 = .ok (.invokevirtual 69, 3) := by decide +kernel
theorem dR_walkType_5 : decode cR_walkType 5 = .ok (.ifCond .ne 5, 3) := by decide +kernel
theorem dR_walkType_8 : decode cR_walkType 8 = .ok (.iconst 0, 1) := by decide +kernel
theorem dR_walkType_9 : decode cR_walkType 9 = .ok (.ireturn, 1) := by decide +kernel
theorem dR_walkType_10 : decode cR_walkType 10 = .ok (.iconst 0, 1) := by decide +kernel
theorem dR_walkType_11 : decode cR_walkType 11 = .ok (.istore_n 1, 1) := by decide +kernel
theorem dR_walkType_12 : decode cR_walkType 12 = .ok (.iload_n 1, 1) := by decide +kernel
theorem dR_walkType_13 : decode cR_walkType 13 = .ok (.getstatic 72, 3) := by decide +kernel
theorem dR_walkType_16 : decode cR_walkType 16 = .ok (.arraylength, 1) := by decide +kernel
theorem dR_walkType_17 : decode cR_walkType 17 = .ok (.if_icmp .ge 34, 3) := by decide +kernel
theorem dR_walkType_20 : decode cR_walkType 20 = .ok (.getstatic 72, 3) := by decide +kernel
theorem dR_walkType_23 : decode cR_walkType 23 = .ok (.iload_n 1, 1) := by decide +kernel
theorem dR_walkType_24 : decode cR_walkType 24 = .ok (.iaload, 1) := by decide +kernel
theorem dR_walkType_25 : decode cR_walkType 25 = .ok (.aload_n 0, 1) := by decide +kernel
theorem dR_walkType_26 : decode cR_walkType 26 = .ok (.getfield 28, 3) := by decide +kernel
theorem dR_walkType_29 : decode cR_walkType 29 = .ok (.if_icmp .ne 16, 3) := by decide +kernel
theorem dR_walkType_32 : decode cR_walkType 32 = .ok (.aload_n 0, 1) := by decide +kernel
theorem dR_walkType_33 : decode cR_walkType 33 = .ok (.getfield 12, 3) := by decide +kernel
theorem dR_walkType_36 : decode cR_walkType 36 = .ok (.aload_n 0, 1) := by decide +kernel
theorem dR_walkType_37 : decode cR_walkType 37 = .ok (.getfield 28, 3) := by decide +kernel
theorem dR_walkType_40 : decode cR_walkType 40 = .ok (.invokevirtual 75, 3) := by decide +kernel
theorem dR_walkType_43 : decode cR_walkType 43 = .ok (.iconst 1, 1) := by decide +kernel
theorem dR_walkType_44 : decode cR_walkType 44 = .ok (.ireturn, 1) := by decide +kernel
theorem dR_walkType_45 : decode cR_walkType 45 = .ok (.iinc 1 1, 3) := by decide +kernel
theorem dR_walkType_48 : decode cR_walkType 48 = .ok (.goto (-36), 3) := by decide +kernel
theorem dR_walkType_51 : decode cR_walkType 51 = .ok (.aload_n 0, 1) := by decide +kernel
theorem dR_walkType_52 : decode cR_walkType 52 = .ok (.iconst 3, 1) := by decide +kernel
theorem dR_walkType_53 : decode cR_walkType 53 = .ok (.iconst 0, 1) := by decide +kernel
theorem dR_walkType_54 : decode cR_walkType 54 = .ok (.invokevirtual 65, 3) := by decide +kernel
theorem dR_walkType_57 : decode cR_walkType 57 = .ok (.ireturn, 1) := by decide +kernel
theorem dT_append_0 : decode cT_append 0 = .ok (.aload_n 0, 1) := by decide +kernel
theorem dT_append_1 : decode cT_append 1 = .ok (.getfield 15, 3) := by decide +kernel
theorem dT_append_4 : decode cT_append 4 = .ok (.sipush 400, 3) := by decide +kernel
theorem dT_append_7 : decode cT_append 7 = .ok (.if_icmp .ge 24, 3) := by decide +kernel
theorem dT_append_10 : decode cT_append 10 = .ok (.aload_n 0, 1) := by decide +kernel
theorem dT_append_11 : decode cT_append 11 = .ok (.getfield 9, 3) := by decide +kernel
theorem dT_append_14 : decode cT_append 14 = .ok (.aload_n 0, 1) := by decide +kernel
theorem dT_append_15 : decode cT_append 15 = .ok (.getfield 15, 3) := by decide +kernel
theorem dT_append_18 : decode cT_append 18 = .ok (.iload_n 1, 1) := by decide +kernel
theorem dT_append_19 : decode cT_append 19 = .ok (.i2b, 1) := by decide +kernel
theorem dT_append_20 : decode cT_append 20 = .ok (.bastore, 1) := by decide +kernel
theorem dT_append_21 : decode cT_append 21 = .ok (.aload_n 0, 1) := by decide +kernel
theorem dT_append_22 : decode cT_append 22 = .ok (.dup, 1) := by decide +kernel
theorem dT_append_23 : decode cT_append 23 = .ok (.getfield 15, 3) := by decide +kernel
theorem dT_append_26 : decode cT_append 26 = .ok (.iconst 1, 1) := by decide +kernel
theorem dT_append_27 : decode cT_append 27 = .ok (.iadd, 1) := by decide +kernel
theorem dT_append_28 : decode cT_append 28 = .ok (.putfield 15, 3) := by decide +kernel
theorem dT_append_31 : decode cT_append 31 = .ok (.return_, 1) := by decide +kernel
theorem dT_appendDigits_0 : decode cT_appendDigits 0 = .ok (.iload_n 3, 1) := by decide +kernel
theorem dT_appendDigits_1 : decode cT_appendDigits 1 = .ok (.iconst 2, 1) := by decide +kernel
theorem dT_appendDigits_2 : decode cT_appendDigits 2 = .ok (.irem, 1) := by decide +kernel
theorem dT_appendDigits_3 : decode cT_appendDigits 3 = .ok (.istore 4, 2) := by decide +kernel
theorem dT_appendDigits_5 : decode cT_appendDigits 5 = .ok (.iload 4, 2) := by decide +kernel
theorem dT_appendDigits_7 : decode cT_appendDigits 7 = .ok (.ifCond .eq 14, 3) := by decide +kernel
theorem dT_appendDigits_10 : decode cT_appendDigits 10 = .ok (.aload_n 0, 1) := by decide +kernel
theorem dT_appendDigits_11 : decode cT_appendDigits 11 = .ok (.iconst 0, 1) := by decide +kernel
theorem dT_appendDigits_12 : decode cT_appendDigits 12 = .ok (.aload_n 1, 1) := by decide +kernel
theorem dT_appendDigits_13 : decode cT_appendDigits 13 = .ok (.iload_n 2, 1) := by decide +kernel
theorem dT_appendDigits_14 : decode cT_appendDigits 14 = .ok (.iconst 0, 1) := by decide +kernel
theorem dT_appendDigits_15 : decode cT_appendDigits 15 = .ok (.invokevirtual 84, 3) := by decide +kernel
theorem dT_appendDigits_18 : decode cT_appendDigits 18 = .ok (.invokevirtual 81, 3) := by decide +kernel
theorem dT_appendDigits_21 : decode cT_appendDigits 21 = .ok (.iload 4, 2) := by decide +kernel
theorem dT_appendDigits_23 : decode cT_appendDigits 23 = .ok (.istore 5, 2) := by decide +kernel
theorem dT_appendDigits_25 : decode cT_appendDigits 25 = .ok (.iload 5, 2) := by decide +kernel
theorem dT_appendDigits_27 : decode cT_appendDigits 27 = .ok (.iconst 1, 1) := by decide +kernel
theorem dT_appendDigits_28 : decode cT_appendDigits 28 = .ok (.iadd, 1) := by decide +kernel
theorem dT_appendDigits_29 : decode cT_appendDigits 29 = .ok (.iload_n 3, 1) := by decide +kernel
theorem dT_appendDigits_30 : decode cT_appendDigits 30 = .ok (.if_icmp .ge 29, 3) := by decide +kernel
theorem dT_appendDigits_33 : decode cT_appendDigits 33 = .ok (.aload_n 0, 1) := by decide +kernel
theorem dT_appendDigits_34 : decode cT_appendDigits 34 = .ok (.aload_n 1, 1) := by decide +kernel
theorem dT_appendDigits_35 : decode cT_appendDigits 35 = .ok (.iload_n 2, 1) := by decide +kernel
theorem dT_appendDigits_36 : decode cT_appendDigits 36 = .ok (.iload 5, 2) := by decide +kernel
theorem dT_appendDigits_38 : decode cT_appendDigits 38 = .ok (.invokevirtual 84, 3) := by decide +kernel
theorem dT_appendDigits_41 : decode cT_appendDigits 41 = .ok (.aload_n 1, 1) := by decide +kernel
theorem dT_appendDigits_42 : decode cT_appendDigits 42 = .ok (.iload_n 2, 1) := by decide +kernel
theorem dT_appendDigits_43 : decode cT_appendDigits 43 = .ok (.iload 5, 2) := by decide +kernel
theorem dT_appendDigits_45 : decode cT_appendDigits 45 = .ok (.iconst 1, 1) := by decide +kernel
theorem dT_appendDigits_46 : decode cT_appendDigits 46 = .ok (.iadd, 1) := by decide +kernel
theorem dT_appendDigits_47 : decode cT_appendDigits 47 = .ok (.invokevirtual 84, 3) := by decide +kernel
theorem dT_appendDigits_50 : decode cT_appendDigits 50 = .ok (.invokevirtual 81, 3) := by decide +kernel
theorem dT_appendDigits_53 : decode cT_appendDigits 53 = .ok (.iinc 5 2, 3) := by decide +kernel
theorem dT_appendDigits_56 : decode cT_appendDigits 56 = .ok (.goto (-31), 3) := by decide +kernel
theorem dT_appendDigits_59 : decode cT_appendDigits 59 = .ok (.return_, 1) := by decide +kernel
theorem dT_appendField_0 : decode cT_appendField 0 = .ok (.aload_n 1, 1) := by decide +kernel
theorem dT_appendField_1 : decode cT_appendField 1 = .ok (.getfield 62, 3) := by decide +kernel
theorem dT_appendField_4 : decode cT_appendField 4 = .ok (.iload_n 2, 1) := by decide +kernel
theorem dT_appendField_5 : decode cT_appendField 5 = .ok (.iaload, 1) := by decide +kernel
theorem dT_appendField_6 : decode cT_appendField 6 = .ok (.istore_n 3, 1) := by decide +kernel
theorem dT_appendField_7 : decode cT_appendField 7 = .ok (.getstatic 65, 3) := by decide +kernel
theorem dT_appendField_10 : decode cT_appendField 10 = .ok (.iload_n 2, 1) := by decide +kernel
theorem dT_appendField_11 : decode cT_appendField 11 = .ok (.iaload, 1) := by decide +kernel
theorem dT_appendField_12 : decode cT_appendField 12 = .ok (.ifCond .eq 13, 3) := by decide +kernel
theorem dT_appendField_15 : decode cT_appendField 15 = .ok (.aload_n 0, 1) := by decide +kernel
theorem dT_appendField_16 : decode cT_appendField 16 = .ok (.iload_n 3, 1) := by decide +kernel
theorem dT_appendField_17 : decode cT_appendField 17 = .ok (.getstatic 65, 3) := by decide +kernel
theorem dT_appendField_20 : decode cT_appendField 20 = .ok (.iload_n 2, 1) := by decide +kernel
theorem dT_appendField_21 : decode cT_appendField 21 = .ok (.iaload, 1) := by decide +kernel
theorem dT_appendField_22 : decode cT_appendField 22 = .ok (.invokevirtual 24, 3) := by decide +kernel
theorem dT_appendField_25 : decode cT_appendField 25 = .ok (.getstatic 68, 3) := by decide +kernel
theorem dT_appendField_28 : decode cT_appendField 28 = .ok (.iload_n 2, 1) := by decide +kernel
theorem dT_appendField_29 : decode cT_appendField 29 = .ok (.iaload, 1) := by decide +kernel
theorem dT_appendField_30 : decode cT_appendField 30 = .ok (.ifCond .eq 13, 3) := by decide +kernel
theorem dT_appendField_33 : decode cT_appendField 33 = .ok (.aload_n 0, 1) := by decide +kernel
theorem dT_appendField_34 : decode cT_appendField 34 = .ok (.aload_n 1, 1) := by decide +kernel
theorem dT_appendField_35 : decode cT_appendField 35 = .ok (.iload_n 2, 1) := by decide +kernel
theorem dT_appendField_36 : decode cT_appendField 36 = .ok (.iload_n 3, 1) := by decide +kernel
theorem dT_appendField_37 : decode cT_appendField 37 = .ok (.invokevirtual 71, 3) := by decide +kernel
theorem dT_appendField_40 : decode cT_appendField 40 = .ok (.goto 10, 3) := by decide +kernel
theorem dT_appendField_43 : decode cT_appendField 43 = .ok (.aload_n 0, 1) := by decide +kernel
theorem dT_appendField_44 : decode cT_appendField 44 = .ok (.aload_n 1, 1) := by decide +kernel
theorem dT_appendField_45 : decode cT_appendField 45 = .ok (.iload_n 2, 1) := by decide +kernel
theorem dT_appendField_46 : decode cT_appendField 46 = .ok (.iload_n 3, 1) := by decide +kernel
theorem dT_appendField_47 : decode cT_appendField 47 = .ok (.invokevirtual 75, 3) := by decide +kernel
theorem dT_appendField_50 : decode cT_appendField 50 = .ok (.return_, 1) := by decide +kernel
theorem dT_appendLetters_0 : decode cT_appendLetters 0 = .ok (.iconst 0, 1) := by decide +kernel
theorem dT_appendLetters_1 : decode cT_appendLetters 1 = .ok (.istore 4, 2) := by decide +kernel
theorem dT_appendLetters_3 : decode cT_appendLetters 3 = .ok (.iload 4, 2) := by decide +kernel
theorem dT_appendLetters_5 : decode cT_appendLetters 5 = .ok (.iload_n 3, 1) := by decide +kernel
theorem dT_appendLetters_6 : decode cT_appendLetters 6 = .ok (.if_icmp .ge 20, 3) := by decide +kernel
theorem dT_appendLetters_9 : decode cT_appendLetters 9 = .ok (.aload_n 0, 1) := by decide +kernel
theorem dT_appendLetters_10 : decode cT_appendLetters 10 = .ok (.aload_n 1, 1) := by decide +kernel
theorem dT_appendLetters_11 : decode cT_appendLetters 11 = .ok (.iload_n 2, 1) := by decide +kernel
theorem dT_appendLetters_12 : decode cT_appendLetters 12 = .ok (.iload 4, 2) := by decide +kernel
theorem dT_appendLetters_14 : decode cT_appendLetters 14 = .ok (.invokevirtual 84, 3) := by decide +kernel
theorem dT_appendLetters_17 : decode cT_appendLetters 17 = .ok (.invokevirtual 44, 3) := by decide +kernel
theorem dT_appendLetters_20 : decode cT_appendLetters 20 = .ok (.iinc 4 1, 3) := by decide +kernel
theorem dT_appendLetters_23 : decode cT_appendLetters 23 = .ok (.goto (-20), 3) := by decide +kernel
theorem dT_appendLetters_26 : decode cT_appendLetters 26 = .ok (.return_, 1) := by decide +kernel
theorem dT_appendMaps_0 : decode cT_appendMaps 0 = .ok (.aload_n 1, 1) := by decide +kernel
theorem dT_appendMaps_1 : decode cT_appendMaps 1 = .ok (.invokestatic 40, 3) := by decide +kernel
theorem dT_appendMaps_4 : decode cT_appendMaps 4 = .ok (.istore_n 2, 1) := by decide +kernel
theorem dT_appendMaps_5 : decode cT_appendMaps 5 = .ok (.aload_n 0, 1) := by decide +kernel
theorem dT_appendMaps_6 : decode cT_appendMaps 6 = .ok (.getfield 15, 3) := by decide +kernel
theorem dT_appendMaps_9 : decode cT_appendMaps 9 = .ok (.istore_n 3, 1) := by decide +kernel
theorem dT_appendMaps_10 : decode cT_appendMaps 10 = .ok (.iconst 0, 1) := by decide +kernel
theorem dT_appendMaps_11 : decode cT_appendMaps 11 = .ok (.istore 4, 2) := by decide +kernel
theorem dT_appendMaps_13 : decode cT_appendMaps 13 = .ok (.iload 4, 2) := by decide +kernel
theorem dT_appendMaps_15 : decode cT_appendMaps 15 = .ok (.iload_n 2, 1) := by decide +kernel
theorem dT_appendMaps_16 : decode cT_appendMaps 16 = .ok (.ifCond .eq 8, 3) := by decide +kernel
theorem dT_appendMaps_19 : decode cT_appendMaps 19 = .ok (.bipush 16, 2) := by decide +kernel
theorem dT_appendMaps_21 : decode cT_appendMaps 21 = .ok (.goto 5, 3) := by decide +kernel
theorem dT_appendMaps_24 : decode cT_appendMaps 24 = .ok (.bipush 8, 2) := by decide +kernel
theorem dT_appendMaps_26 : decode cT_appendMaps 26 = .ok (.if_icmp .ge 14, 3) := by decide +kernel
theorem dT_appendMaps_29 : decode cT_appendMaps 29 = .ok (.aload_n 0, 1) := by decide +kernel
theorem dT_appendMaps_30 : decode cT_appendMaps 30 = .ok (.iconst 0, 1) := by decide +kernel
theorem dT_appendMaps_31 : decode cT_appendMaps 31 = .ok (.invokevirtual 44, 3) := by decide +kernel
theorem dT_appendMaps_34 : decode cT_appendMaps 34 = .ok (.iinc 4 1, 3) := by decide +kernel
theorem dT_appendMaps_37 : decode cT_appendMaps 37 = .ok (.goto (-24), 3) := by decide +kernel
theorem dT_appendMaps_40 : decode cT_appendMaps 40 = .ok (.iload_n 2, 1) := by decide +kernel
theorem dT_appendMaps_41 : decode cT_appendMaps 41 = .ok (.ifCond .eq 11, 3) := by decide +kernel
theorem dT_appendMaps_44 : decode cT_appendMaps 44 = .ok (.aload_n 0, 1) := by decide +kernel
theorem dT_appendMaps_45 : decode cT_appendMaps 45 = .ok (.iload_n 3, 1) := by decide +kernel
theorem dT_appendMaps_46 : decode cT_appendMaps 46 = .ok (.sipush 128, 3) := by decide +kernel
theorem dT_appendMaps_49 : decode cT_appendMaps 49 = .ok (.invokevirtual 48, 3) := by decide +kernel
theorem dT_appendMaps_52 : decode cT_appendMaps 52 = .ok (.iconst 0, 1) := by decide +kernel
theorem dT_appendMaps_53 : decode cT_appendMaps 53 = .ok (.istore 4, 2) := by decide +kernel
theorem dT_appendMaps_55 : decode cT_appendMaps 55 = .ok (.iload 4, 2) := by decide +kernel
theorem dT_appendMaps_57 : decode cT_appendMaps 57 = .ok (.bipush 16, 2) := by decide +kernel
theorem dT_appendMaps_59 : decode cT_appendMaps 59 = .ok (.if_icmp .ge 42, 3) := by decide +kernel
theorem dT_appendMaps_62 : decode cT_appendMaps 62 = .ok (.aload_n 1, 1) := by decide +kernel
theorem dT_appendMaps_63 : decode cT_appendMaps 63 = .ok (.iload 4, 2) := by decide +kernel
theorem dT_appendMaps_65 : decode cT_appendMaps 65 = .ok (.invokevirtual 32, 3) := by decide +kernel
theorem dT_appendMaps_68 : decode cT_appendMaps 68 = .ok (.ifCond .eq 27, 3) := by decide +kernel
theorem dT_appendMaps_71 : decode cT_appendMaps 71 = .ok (.aload_n 0, 1) := by decide +kernel
theorem dT_appendMaps_72 : decode cT_appendMaps 72 = .ok (.iload_n 3, 1) := by decide +kernel
theorem dT_appendMaps_73 : decode cT_appendMaps 73 = .ok (.getstatic 51, 3) := by decide +kernel
theorem dT_appendMaps_76 : decode cT_appendMaps 76 = .ok (.iload 4, 2) := by decide +kernel
theorem dT_appendMaps_78 : decode cT_appendMaps 78 = .ok (.iaload, 1) := by decide +kernel
theorem dT_appendMaps_79 : decode cT_appendMaps 79 = .ok (.invokestatic 55, 3) := by decide +kernel
theorem dT_appendMaps_82 : decode cT_appendMaps 82 = .ok (.iadd, 1) := by decide +kernel
theorem dT_appendMaps_83 : decode cT_appendMaps 83 = .ok (.getstatic 51, 3) := by decide +kernel
theorem dT_appendMaps_86 : decode cT_appendMaps 86 = .ok (.iload 4, 2) := by decide +kernel
theorem dT_appendMaps_88 : decode cT_appendMaps 88 = .ok (.iaload, 1) := by decide +kernel
theorem dT_appendMaps_89 : decode cT_appendMaps 89 = .ok (.invokestatic 59, 3) := by decide +kernel
theorem dT_appendMaps_92 : decode cT_appendMaps 92 = .ok (.invokevirtual 48, 3) := by decide +kernel
theorem dT_appendMaps_95 : decode cT_appendMaps 95 = .ok (.iinc 4 1, 3) := by decide +kernel
theorem dT_appendMaps_98 : decode cT_appendMaps 98 = .ok (.goto (-43), 3) := by decide +kernel
theorem dT_appendMaps_101 : decode cT_appendMaps 101 = .ok (.return_, 1) := by decide +kernel
theorem dT_appendNumber_0 : decode cT_appendNumber 0 = .ok (.iload_n 2, 1) := by decide +kernel
theorem dT_appendNumber_1 : decode cT_appendNumber 1 = .ok (.invokestatic 78, 3) := by decide +kernel
theorem dT_appendNumber_4 : decode cT_appendNumber 4 = .ok (.iconst 2, 1) := by decide +kernel
theorem dT_appendNumber_5 : decode cT_appendNumber 5 = .ok (.if_icmp .ne 22, 3) := by decide +kernel
theorem dT_appendNumber_8 : decode cT_appendNumber 8 = .ok (.aload_n 0, 1) := by decide +kernel
theorem dT_appendNumber_9 : decode cT_appendNumber 9 = .ok (.iload_n 1, 1) := by decide +kernel
theorem dT_appendNumber_10 : decode cT_appendNumber 10 = .ok (.sipush 1000, 3) := by decide +kernel
theorem dT_appendNumber_13 : decode cT_appendNumber 13 = .ok (.idiv, 1) := by decide +kernel
theorem dT_appendNumber_14 : decode cT_appendNumber 14 = .ok (.bipush 10, 2) := by decide +kernel
theorem dT_appendNumber_16 : decode cT_appendNumber 16 = .ok (.irem, 1) := by decide +kernel
theorem dT_appendNumber_17 : decode cT_appendNumber 17 = .ok (.iload_n 1, 1) := by decide +kernel
theorem dT_appendNumber_18 : decode cT_appendNumber 18 = .ok (.bipush 100, 2) := by decide +kernel
theorem dT_appendNumber_20 : decode cT_appendNumber 20 = .ok (.idiv, 1) := by decide +kernel
theorem dT_appendNumber_21 : decode cT_appendNumber 21 = .ok (.bipush 10, 2) := by decide +kernel
theorem dT_appendNumber_23 : decode cT_appendNumber 23 = .ok (.irem, 1) := by decide +kernel
theorem dT_appendNumber_24 : decode cT_appendNumber 24 = .ok (.invokevirtual 81, 3) := by decide +kernel
theorem dT_appendNumber_27 : decode cT_appendNumber 27 = .ok (.aload_n 0, 1) := by decide +kernel
theorem dT_appendNumber_28 : decode cT_appendNumber 28 = .ok (.iload_n 1, 1) := by decide +kernel
theorem dT_appendNumber_29 : decode cT_appendNumber 29 = .ok (.bipush 10, 2) := by decide +kernel
theorem dT_appendNumber_31 : decode cT_appendNumber 31 = .ok (.idiv, 1) := by decide +kernel
theorem dT_appendNumber_32 : decode cT_appendNumber 32 = .ok (.bipush 10, 2) := by decide +kernel
theorem dT_appendNumber_34 : decode cT_appendNumber 34 = .ok (.irem, 1) := by decide +kernel
theorem dT_appendNumber_35 : decode cT_appendNumber 35 = .ok (.iload_n 1, 1) := by decide +kernel
theorem dT_appendNumber_36 : decode cT_appendNumber 36 = .ok (.bipush 10, 2) := by decide +kernel
theorem dT_appendNumber_38 : decode cT_appendNumber 38 = .ok (.irem, 1) := by decide +kernel
theorem dT_appendNumber_39 : decode cT_appendNumber 39 = .ok (.invokevirtual 81, 3) := by decide +kernel
theorem dT_appendNumber_42 : decode cT_appendNumber 42 = .ok (.return_, 1) := by decide +kernel
theorem dT_appendPair_0 : decode cT_appendPair 0 = .ok (.aload_n 0, 1) := by decide +kernel
theorem dT_appendPair_1 : decode cT_appendPair 1 = .ok (.iload_n 1, 1) := by decide +kernel
theorem dT_appendPair_2 : decode cT_appendPair 2 = .ok (.iconst 4, 1) := by decide +kernel
theorem dT_appendPair_3 : decode cT_appendPair 3 = .ok (.ishl, 1) := by decide +kernel
theorem dT_appendPair_4 : decode cT_appendPair 4 = .ok (.iload_n 2, 1) := by decide +kernel
theorem dT_appendPair_5 : decode cT_appendPair 5 = .ok (.ior, 1) := by decide +kernel
theorem dT_appendPair_6 : decode cT_appendPair 6 = .ok (.invokevirtual 44, 3) := by decide +kernel
theorem dT_appendPair_9 : decode cT_appendPair 9 = .ok (.return_, 1) := by decide +kernel
theorem dT_byteAt_0 : decode cT_byteAt 0 = .ok (.aload_n 0, 1) := by decide +kernel
theorem dT_byteAt_1 : decode cT_byteAt 1 = .ok (.getfield 9, 3) := by decide +kernel
theorem dT_byteAt_4 : decode cT_byteAt 4 = .ok (.iload_n 1, 1) := by decide +kernel
theorem dT_byteAt_5 : decode cT_byteAt 5 = .ok (.baload, 1) := by decide +kernel
theorem dT_byteAt_6 : decode cT_byteAt 6 = .ok (.sipush 255, 3) := by decide +kernel
theorem dT_byteAt_9 : decode cT_byteAt 9 = .ok (.iand, 1) := by decide +kernel
theorem dT_byteAt_10 : decode cT_byteAt 10 = .ok (.ireturn, 1) := by decide +kernel
theorem dT_flip_0 : decode cT_flip 0 = .ok (.aload_n 0, 1) := by decide +kernel
theorem dT_flip_1 : decode cT_flip 1 = .ok (.getfield 9, 3) := by decide +kernel
theorem dT_flip_4 : decode cT_flip 4 = .ok (.iload_n 1, 1) := by decide +kernel
theorem dT_flip_5 : decode cT_flip 5 = .ok (.aload_n 0, 1) := by decide +kernel
theorem dT_flip_6 : decode cT_flip 6 = .ok (.getfield 9, 3) := by decide +kernel
theorem dT_flip_9 : decode cT_flip 9 = .ok (.iload_n 1, 1) := by decide +kernel
theorem dT_flip_10 : decode cT_flip 10 = .ok (.baload, 1) := by decide +kernel
theorem dT_flip_11 : decode cT_flip 11 = .ok (.iload_n 2, 1) := by decide +kernel
theorem dT_flip_12 : decode cT_flip 12 = .ok (.ixor, 1) := by decide +kernel
theorem dT_flip_13 : decode cT_flip 13 = .ok (.i2b, 1) := by decide +kernel
theorem dT_flip_14 : decode cT_flip 14 = .ok (.bastore, 1) := by decide +kernel
theorem dT_flip_15 : decode cT_flip 15 = .ok (.return_, 1) := by decide +kernel
theorem dT_hasFieldOfSecondMap_0 : decode cT_hasFieldOfSecondMap 0 = .ok (.iconst 0, 1) := by decide +kernel
theorem dT_hasFieldOfSecondMap_1 : decode cT_hasFieldOfSecondMap 1 = .ok (.istore_n 1, 1) := by decide +kernel
theorem dT_hasFieldOfSecondMap_2 : decode cT_hasFieldOfSecondMap 2 = .ok (.iload_n 1, 1) := by decide +kernel
theorem dT_hasFieldOfSecondMap_3 : decode cT_hasFieldOfSecondMap 3 = .ok (.bipush 16, 2) := by decide +kernel
theorem dT_hasFieldOfSecondMap_5 : decode cT_hasFieldOfSecondMap 5 = .ok (.if_icmp .ge 29, 3) := by decide +kernel
theorem dT_hasFieldOfSecondMap_8 : decode cT_hasFieldOfSecondMap 8 = .ok (.getstatic 51, 3) := by decide +kernel
theorem dT_hasFieldOfSecondMap_11 : decode cT_hasFieldOfSecondMap 11 = .ok (.iload_n 1, 1) := by decide +kernel
theorem dT_hasFieldOfSecondMap_12 : decode cT_hasFieldOfSecondMap 12 = .ok (.iaload, 1) := by decide +kernel
theorem dT_hasFieldOfSecondMap_13 : decode cT_hasFieldOfSecondMap 13 = .ok (.bipush 64, 2) := by decide +kernel
theorem dT_hasFieldOfSecondMap_15 : decode cT_hasFieldOfSecondMap 15 = .ok (.if_icmp .le 13, 3) := by decide +kernel
theorem dT_hasFieldOfSecondMap_18 : decode cT_hasFieldOfSecondMap 18 = .ok (.aload_n 0, 1) := by decide +kernel
theorem dT_hasFieldOfSecondMap_19 : decode cT_hasFieldOfSecondMap 19 = .ok (.iload_n 1, 1) := by decide +kernel
theorem dT_hasFieldOfSecondMap_20 : decode cT_hasFieldOfSecondMap 20 = .ok (.invokevirtual 32, 3) := by decide +kernel
theorem dT_hasFieldOfSecondMap_23 : decode cT_hasFieldOfSecondMap 23 = .ok (.ifCond .eq 5, 3) := by decide +kernel
theorem dT_hasFieldOfSecondMap_26 : decode cT_hasFieldOfSecondMap 26 = .ok (.iconst 1, 1) := by decide +kernel
theorem dT_hasFieldOfSecondMap_27 : decode cT_hasFieldOfSecondMap 27 = .ok (.ireturn, 1) := by decide +kernel
theorem dT_hasFieldOfSecondMap_28 : decode cT_hasFieldOfSecondMap 28 = .ok (.iinc 1 1, 3) := by decide +kernel
theorem dT_hasFieldOfSecondMap_31 : decode cT_hasFieldOfSecondMap 31 = .ok (.goto (-29), 3) := by decide +kernel
theorem dT_hasFieldOfSecondMap_34 : decode cT_hasFieldOfSecondMap 34 = .ok (.iconst 0, 1) := by decide +kernel
theorem dT_hasFieldOfSecondMap_35 : decode cT_hasFieldOfSecondMap 35 = .ok (.ireturn, 1) := by decide +kernel
theorem dT_init_0 : decode cT_init 0 = .ok (.aload_n 0, 1) := by decide +kernel
theorem dT_init_1 : decode cT_init 1 = .ok (.invokespecial 3, 3) := by decide +kernel
theorem dT_init_4 : decode cT_init 4 = .ok (.aload_n 0, 1) := by decide +kernel
theorem dT_init_5 : decode cT_init 5 = .ok (.sipush 400, 3) := by decide +kernel
theorem dT_init_8 : decode cT_init 8 = .ok (.newarray .byte, 2) := by decide +kernel
theorem dT_init_10 : decode cT_init 10 = .ok (.putfield 9, 3) := by decide +kernel
theorem dT_init_13 : decode cT_init 13 = .ok (.aload_n 0, 1) := by decide +kernel
theorem dT_init_14 : decode cT_init 14 = .ok (.iconst 0, 1) := by decide +kernel
theorem dT_init_15 : decode cT_init 15 = .ok (.putfield 15, 3) := by decide +kernel
theorem dT_init_18 : decode cT_init 18 = .ok (.return_, 1) := by decide +kernel
theorem dT_write_0 : decode cT_write 0 = .ok (.aload_n 0, 1) := by decide +kernel
theorem dT_write_1 : decode cT_write 1 = .ok (.iconst 0, 1) := by decide +kernel
theorem dT_write_2 : decode cT_write 2 = .ok (.putfield 15, 3) := by decide +kernel
theorem dT_write_5 : decode cT_write 5 = .ok (.aload_n 0, 1) := by decide +kernel
theorem dT_write_6 : decode cT_write 6 = .ok (.aload_n 1, 1) := by decide +kernel
theorem dT_write_7 : decode cT_write 7 = .ok (.getfield 19, 3) := by decide +kernel
theorem dT_write_10 : decode cT_write 10 = .ok (.iconst 4, 1) := by decide +kernel
theorem dT_write_11 : decode cT_write 11 = .ok (.invokevirtual 24, 3) := by decide +kernel
theorem dT_write_14 : decode cT_write 14 = .ok (.aload_n 0, 1) := by decide +kernel
theorem dT_write_15 : decode cT_write 15 = .ok (.aload_n 1, 1) := by decide +kernel
theorem dT_write_16 : decode cT_write 16 = .ok (.invokevirtual 28, 3) := by decide +kernel
theorem dT_write_19 : decode cT_write 19 = .ok (.iconst 0, 1) := by decide +kernel
theorem dT_write_20 : decode cT_write 20 = .ok (.istore_n 2, 1) := by decide +kernel
theorem dT_write_21 : decode cT_write 21 = .ok (.iload_n 2, 1) := by decide +kernel
theorem dT_write_22 : decode cT_write 22 = .ok (.bipush 16, 2) := by decide +kernel
theorem dT_write_24 : decode cT_write 24 = .ok (.if_icmp .ge 23, 3) := by decide +kernel
theorem dT_write_27 : decode cT_write 27 = .ok (.aload_n 1, 1) := by decide +kernel
theorem dT_write_28 : decode cT_write 28 = .ok (.iload_n 2, 1) := by decide +kernel
theorem dT_write_29 : decode cT_write 29 = .ok (.invokevirtual 32, 3) := by decide +kernel
theorem dT_write_32 : decode cT_write 32 = .ok (.ifCond .eq 9, 3) := by decide +kernel
theorem dT_write_35 : decode cT_write 35 = .ok (.aload_n 0, 1) := by decide +kernel
theorem dT_write_36 : decode cT_write 36 = .ok (.aload_n 1, 1) := by decide +kernel
theorem dT_write_37 : decode cT_write 37 = .ok (.iload_n 2, 1) := by decide +kernel
theorem dT_write_38 : decode cT_write 38 = .ok (.invokevirtual 36, 3) := by decide +kernel
theorem dT_write_41 : decode cT_write 41 = .ok (.iinc 2 1, 3) := by decide +kernel
theorem dT_write_44 : decode cT_write 44 = .ok (.goto (-23), 3) := by decide +kernel
theorem dT_write_47 : decode cT_write 47 = .ok (.return_, 1) := by decide +kernel
end
section
theorem dC_at_0 : decode cC_at 0 = .ok (.iload_n 1, 1) := by decide +kernel
theorem dC_at_1 : decode cC_at 1 = .ok (.invokestatic 64, 3) := by decide +kernel
theorem dC_at_4 : decode cC_at 4 = .ok (.istore_n 3, 1) := by decide +kernel
theorem dC_at_5 : decode cC_at 5 = .ok (.iload_n 2, 1) := by decide +kernel
theorem dC_at_6 : decode cC_at 6 = .ok (.ifCond .lt 16, 3) := by decide +kernel
theorem dC_at_9 : decode cC_at 9 = .ok (.iload_n 2, 1) := by decide +kernel
theorem dC_at_10 : decode cC_at 10 = .ok (.aload_n 0, 1) := by decide +kernel
theorem dC_at_11 : decode cC_at 11 = .ok (.getfield 10, 3) := by decide +kernel
theorem dC_at_14 : decode cC_at 14 = .ok (.getfield 89, 3) := by decide +kernel
theorem dC_at_17 : decode cC_at 17 = .ok (.iload_n 3, 1) := by decide +kernel
theorem dC_at_18 : decode cC_at 18 = .ok (.iaload, 1) := by decide +kernel
theorem dC_at_19 : decode cC_at 19 = .ok (.if_icmp .lt 13, 3) := by decide +kernel
theorem dC_at_22 : decode cC_at 22 = .ok (.new 32, 3) := by decide +kernel
theorem dC_at_25 : decode cC_at 25 = .ok (.dup, 1) := by decide +kernel
theorem dC_at_26 : decode cC_at 26 = .ok (.ldc 96, 2) := by decide +kernel
theorem dC_at_28 : decode cC_at 28 = .ok (.invokespecial 36, 3) := by decide +kernel
theorem dC_at_31 : decode cC_at 31 = .ok (.athrow, 1) := by decide +kernel
theorem dC_at_32 : decode cC_at 32 = .ok (.aload_n 0, 1) := by decide +kernel
theorem dC_at_33 : decode cC_at 33 = .ok (.getfield 10, 3) := by decide +kernel
theorem dC_at_36 : decode cC_at 36 = .ok (.iload_n 3, 1) := by decide +kernel
theorem dC_at_37 : decode cC_at 37 = .ok (.iload_n 2, 1) := by decide +kernel
theorem dC_at_38 : decode cC_at 38 = .ok (.invokevirtual 98, 3) := by decide +kernel
theorem dC_at_41 : decode cC_at 41 = .ok (.ireturn, 1) := by decide +kernel
theorem dC_bytesOfDigits_0 : decode cC_bytesOfDigits 0 = .ok (.iload_n 0, 1) := by decide +kernel
theorem dC_bytesOfDigits_1 : decode cC_bytesOfDigits 1 = .ok (.iconst 1, 1) := by decide +kernel
theorem dC_bytesOfDigits_2 : decode cC_bytesOfDigits 2 = .ok (.iadd, 1) := by decide +kernel
theorem dC_bytesOfDigits_3 : decode cC_bytesOfDigits 3 = .ok (.iconst 2, 1) := by decide +kernel
theorem dC_bytesOfDigits_4 : decode cC_bytesOfDigits 4 = .ok (.idiv, 1) := by decide +kernel
theorem dC_bytesOfDigits_5 : decode cC_bytesOfDigits 5 = .ok (.ireturn, 1) := by decide +kernel
theorem dC_compose_0 : decode cC_compose 0 = .ok (.aload_n 0, 1) := by decide +kernel
theorem dC_compose_1 : decode cC_compose 1 = .ok (.getfield 19, 3) := by decide +kernel
theorem dC_compose_4 : decode cC_compose 4 = .ok (.aload_n 0, 1) := by decide +kernel
theorem dC_compose_5 : decode cC_compose 5 = .ok (.getfield 10, 3) := by decide +kernel
theorem dC_compose_8 : decode cC_compose 8 = .ok (.invokevirtual 112, 3) := by decide +kernel
theorem dC_compose_11 : decode cC_compose 11 = .ok (.aload_n 0, 1) := by decide +kernel
theorem dC_compose_12 : decode cC_compose 12 = .ok (.getfield 19, 3) := by decide +kernel
theorem dC_compose_15 : decode cC_compose 15 = .ok (.getfield 116, 3) := by decide +kernel
theorem dC_compose_18 : decode cC_compose 18 = .ok (.ireturn, 1) := by decide +kernel
theorem dC_digitCount_0 : decode cC_digitCount 0 = .ok (.lload_n 0, 1) := by decide +kernel
theorem dC_digitCount_1 : decode cC_digitCount 1 = .ok (.lstore_n 2, 1) := by decide +kernel
theorem dC_digitCount_2 : decode cC_digitCount 2 = .ok (.iconst 1, 1) := by decide +kernel
theorem dC_digitCount_3 : decode cC_digitCount 3 = .ok (.istore 4, 2) := by decide +kernel
theorem dC_digitCount_5 : decode cC_digitCount 5 = .ok (.iload 4, 2) := by decide +kernel
theorem dC_digitCount_7 : decode cC_digitCount 7 = .ok (.bipush 19, 2) := by decide +kernel
theorem dC_digitCount_9 : decode cC_digitCount 9 = .ok (.if_icmp .ge 24, 3) := by decide +kernel
theorem dC_digitCount_12 : decode cC_digitCount 12 = .ok (.lload_n 2, 1) := by decide +kernel
theorem dC_digitCount_13 : decode cC_digitCount 13 = .ok (.ldc2_w 163, 3) := by decide +kernel
theorem dC_digitCount_16 : decode cC_digitCount 16 = .ok (.ldiv, 1) := by decide +kernel
theorem dC_digitCount_17 : decode cC_digitCount 17 = .ok (.lstore_n 2, 1) := by decide +kernel
theorem dC_digitCount_18 : decode cC_digitCount 18 = .ok (.lload_n 2, 1) := by decide +kernel
theorem dC_digitCount_19 : decode cC_digitCount 19 = .ok (.lconst 0, 1) := by decide +kernel
theorem dC_digitCount_20 : decode cC_digitCount 20 = .ok (.lcmp, 1) := by decide +kernel
theorem dC_digitCount_21 : decode cC_digitCount 21 = .ok (.ifCond .ne 6, 3) := by decide +kernel
theorem dC_digitCount_24 : decode cC_digitCount 24 = .ok (.iload 4, 2) := by decide +kernel
theorem dC_digitCount_26 : decode cC_digitCount 26 = .ok (.ireturn, 1) := by decide +kernel
theorem dC_digitCount_27 : decode cC_digitCount 27 = .ok (.iinc 4 1, 3) := by decide +kernel
theorem dC_digitCount_30 : decode cC_digitCount 30 = .ok (.goto (-25), 3) := by decide +kernel
theorem dC_digitCount_33 : decode cC_digitCount 33 = .ok (.bipush 19, 2) := by decide +kernel
theorem dC_digitCount_35 : decode cC_digitCount 35 = .ok (.ireturn, 1) := by decide +kernel
theorem dC_digitSlot_0 : decode cC_digitSlot 0 = .ok (.iload_n 0, 1) := by decide +kernel
theorem dC_digitSlot_1 : decode cC_digitSlot 1 = .ok (.invokestatic 64, 3) := by decide +kernel
theorem dC_digitSlot_4 : decode cC_digitSlot 4 = .ok (.istore_n 1, 1) := by decide +kernel
theorem dC_digitSlot_5 : decode cC_digitSlot 5 = .ok (.getstatic 67, 3) := by decide +kernel
theorem dC_digitSlot_8 : decode cC_digitSlot 8 = .ok (.iload_n 1, 1) := by decide +kernel
theorem dC_digitSlot_9 : decode cC_digitSlot 9 = .ok (.iaload, 1) := by decide +kernel
theorem dC_digitSlot_10 : decode cC_digitSlot 10 = .ok (.ifCond .eq 13, 3) := by decide +kernel
theorem dC_digitSlot_13 : decode cC_digitSlot 13 = .ok (.new 32, 3) := by decide +kernel
theorem dC_digitSlot_16 : decode cC_digitSlot 16 = .ok (.dup, 1) := by decide +kernel
theorem dC_digitSlot_17 : decode cC_digitSlot 17 = .ok (.ldc 161, 2) := by decide +kernel
theorem dC_digitSlot_19 : decode cC_digitSlot 19 = .ok (.invokespecial 36, 3) := by decide +kernel
theorem dC_digitSlot_22 : decode cC_digitSlot 22 = .ok (.athrow, 1) := by decide +kernel
theorem dC_digitSlot_23 : decode cC_digitSlot 23 = .ok (.iload_n 1, 1) := by decide +kernel
theorem dC_digitSlot_24 : decode cC_digitSlot 24 = .ok (.ireturn, 1) := by decide +kernel
theorem dC_digits_0 : decode cC_digits 0 = .ok (.iload_n 1, 1) := by decide +kernel
theorem dC_digits_1 : decode cC_digits 1 = .ok (.invokestatic 43, 3) := by decide +kernel
theorem dC_digits_4 : decode cC_digits 4 = .ok (.istore 4, 2) := by decide +kernel
theorem dC_digits_6 : decode cC_digits 6 = .ok (.lload_n 2, 1) := by decide +kernel
theorem dC_digits_7 : decode cC_digits 7 = .ok (.invokestatic 47, 3) := by decide +kernel
theorem dC_digits_10 : decode cC_digits 10 = .ok (.istore 5, 2) := by decide +kernel
theorem dC_digits_12 : decode cC_digits 12 = .ok (.lload_n 2, 1) := by decide +kernel
theorem dC_digits_13 : decode cC_digits 13 = .ok (.lconst 0, 1) := by decide +kernel
theorem dC_digits_14 : decode cC_digits 14 = .ok (.lcmp, 1) := by decide +kernel
theorem dC_digits_15 : decode cC_digits 15 = .ok (.ifCond .lt 14, 3) := by decide +kernel
theorem dC_digits_18 : decode cC_digits 18 = .ok (.iload 5, 2) := by decide +kernel
theorem dC_digits_20 : decode cC_digits 20 = .ok (.getstatic 51, 3) := by decide +kernel
theorem dC_digits_23 : decode cC_digits 23 = .ok (.iload 4, 2) := by decide +kernel
theorem dC_digits_25 : decode cC_digits 25 = .ok (.iaload, 1) := by decide +kernel
theorem dC_digits_26 : decode cC_digits 26 = .ok (.if_icmp .le 13, 3) := by decide +kernel
theorem dC_digits_29 : decode cC_digits 29 = .ok (.new 32, 3) := by decide +kernel
theorem dC_digits_32 : decode cC_digits 32 = .ok (.dup, 1) := by decide +kernel
theorem dC_digits_33 : decode cC_digits 33 = .ok (.ldc 55, 2) := by decide +kernel
theorem dC_digits_35 : decode cC_digits 35 = .ok (.invokespecial 36, 3) := by decide +kernel
theorem dC_digits_38 : decode cC_digits 38 = .ok (.athrow, 1) := by decide +kernel
theorem dC_digits_39 : decode cC_digits 39 = .ok (.aload_n 0, 1) := by decide +kernel
theorem dC_digits_40 : decode cC_digits 40 = .ok (.getfield 10, 3) := by decide +kernel
theorem dC_digits_43 : decode cC_digits 43 = .ok (.iload 4, 2) := by decide +kernel
theorem dC_digits_45 : decode cC_digits 45 = .ok (.getstatic 57, 3) := by decide +kernel
theorem dC_digits_48 : decode cC_digits 48 = .ok (.iload 4, 2) := by decide +kernel
theorem dC_digits_50 : decode cC_digits 50 = .ok (.iaload, 1) := by decide +kernel
theorem dC_digits_51 : decode cC_digits 51 = .ok (.ifCond .ne 12, 3) := by decide +kernel
theorem dC_digits_54 : decode cC_digits 54 = .ok (.getstatic 51, 3) := by decide +kernel
theorem dC_digits_57 : decode cC_digits 57 = .ok (.iload 4, 2) := by decide +kernel
theorem dC_digits_59 : decode cC_digits 59 = .ok (.iaload, 1) := by decide +kernel
theorem dC_digits_60 : decode cC_digits 60 = .ok (.goto 5, 3) := by decide +kernel
theorem dC_digits_63 : decode cC_digits 63 = .ok (.iload 5, 2) := by decide +kernel
theorem dC_digits_65 : decode cC_digits 65 = .ok (.lload_n 2, 1) := by decide +kernel
theorem dC_digits_66 : decode cC_digits 66 = .ok (.invokevirtual 60, 3) := by decide +kernel
theorem dC_digits_69 : decode cC_digits 69 = .ok (.return_, 1) := by decide +kernel
theorem dC_fault_0 : decode cC_fault 0 = .ok (.iload_n 1, 1) := by decide +kernel
theorem dC_fault_1 : decode cC_fault 1 = .ok (.ifCond .eq 18, 3) := by decide +kernel
theorem dC_fault_4 : decode cC_fault 4 = .ok (.iload_n 1, 1) := by decide +kernel
theorem dC_fault_5 : decode cC_fault 5 = .ok (.iconst 1, 1) := by decide +kernel
theorem dC_fault_6 : decode cC_fault 6 = .ok (.if_icmp .eq 13, 3) := by decide +kernel
theorem dC_fault_9 : decode cC_fault 9 = .ok (.new 32, 3) := by decide +kernel
theorem dC_fault_12 : decode cC_fault 12 = .ok (.dup, 1) := by decide +kernel
theorem dC_fault_13 : decode cC_fault 13 = .ok (.ldc 138, 2) := by decide +kernel
theorem dC_fault_15 : decode cC_fault 15 = .ok (.invokespecial 36, 3) := by decide +kernel
theorem dC_fault_18 : decode cC_fault 18 = .ok (.athrow, 1) := by decide +kernel
theorem dC_fault_19 : decode cC_fault 19 = .ok (.aload_n 0, 1) := by decide +kernel
theorem dC_fault_20 : decode cC_fault 20 = .ok (.getfield 28, 3) := by decide +kernel
theorem dC_fault_23 : decode cC_fault 23 = .ok (.invokevirtual 140, 3) := by decide +kernel
theorem dC_fault_26 : decode cC_fault 26 = .ok (.pop, 1) := by decide +kernel
theorem dC_fault_27 : decode cC_fault 27 = .ok (.iload_n 1, 1) := by decide +kernel
theorem dC_fault_28 : decode cC_fault 28 = .ok (.ifCond .ne 13, 3) := by decide +kernel
theorem dC_fault_31 : decode cC_fault 31 = .ok (.aload_n 0, 1) := by decide +kernel
theorem dC_fault_32 : decode cC_fault 32 = .ok (.getfield 28, 3) := by decide +kernel
theorem dC_fault_35 : decode cC_fault 35 = .ok (.getfield 144, 3) := by decide +kernel
theorem dC_fault_38 : decode cC_fault 38 = .ok (.goto 10, 3) := by decide +kernel
theorem dC_fault_41 : decode cC_fault 41 = .ok (.aload_n 0, 1) := by decide +kernel
theorem dC_fault_42 : decode cC_fault 42 = .ok (.getfield 28, 3) := by decide +kernel
theorem dC_fault_45 : decode cC_fault 45 = .ok (.getfield 147, 3) := by decide +kernel
theorem dC_fault_48 : decode cC_fault 48 = .ok (.ireturn, 1) := by decide +kernel
theorem dC_feed_0 : decode cC_feed 0 = .ok (.aload_n 0, 1) := by decide +kernel
theorem dC_feed_1 : decode cC_feed 1 = .ok (.getfield 19, 3) := by decide +kernel
theorem dC_feed_4 : decode cC_feed 4 = .ok (.getfield 116, 3) := by decide +kernel
theorem dC_feed_7 : decode cC_feed 7 = .ok (.iconst 4, 1) := by decide +kernel
theorem dC_feed_8 : decode cC_feed 8 = .ok (.iadd, 1) := by decide +kernel
theorem dC_feed_9 : decode cC_feed 9 = .ok (.sipush 400, 3) := by decide +kernel
theorem dC_feed_12 : decode cC_feed 12 = .ok (.if_icmp .le 13, 3) := by decide +kernel
theorem dC_feed_15 : decode cC_feed 15 = .ok (.new 119, 3) := by decide +kernel
theorem dC_feed_18 : decode cC_feed 18 = .ok (.dup, 1) := by decide +kernel
theorem dC_feed_19 : decode cC_feed 19 = .ok (.ldc 121, 2) := by decide +kernel
theorem dC_feed_21 : decode cC_feed 21 = .ok (.invokespecial 123, 3) := by decide +kernel
theorem dC_feed_24 : decode cC_feed 24 = .ok (.athrow, 1) := by decide +kernel
theorem dC_feed_25 : decode cC_feed 25 = .ok (.bipush 24, 2) := by decide +kernel
theorem dC_feed_27 : decode cC_feed 27 = .ok (.istore_n 2, 1) := by decide +kernel
theorem dC_feed_28 : decode cC_feed 28 = .ok (.iload_n 2, 1) := by decide +kernel
theorem dC_feed_29 : decode cC_feed 29 = .ok (.ifCond .lt 19, 3) := by decide +kernel
theorem dC_feed_32 : decode cC_feed 32 = .ok (.aload_n 0, 1) := by decide +kernel
theorem dC_feed_33 : decode cC_feed 33 = .ok (.getfield 19, 3) := by decide +kernel
theorem dC_feed_36 : decode cC_feed 36 = .ok (.iload_n 1, 1) := by decide +kernel
theorem dC_feed_37 : decode cC_feed 37 = .ok (.iload_n 2, 1) := by decide +kernel
theorem dC_feed_38 : decode cC_feed 38 = .ok (.ishr, 1) := by decide +kernel
theorem dC_feed_39 : decode cC_feed 39 = .ok (.invokevirtual 124, 3) := by decide +kernel
theorem dC_feed_42 : decode cC_feed 42 = .ok (.iinc 2 (-8), 3) := by decide +kernel
theorem dC_feed_45 : decode cC_feed 45 = .ok (.goto (-17), 3) := by decide +kernel
theorem dC_feed_48 : decode cC_feed 48 = .ok (.aload_n 0, 1) := by decide +kernel
theorem dC_feed_49 : decode cC_feed 49 = .ok (.getfield 19, 3) := by decide +kernel
theorem dC_feed_52 : decode cC_feed 52 = .ok (.getfield 116, 3) := by decide +kernel
theorem dC_feed_55 : decode cC_feed 55 = .ok (.ireturn, 1) := by decide +kernel
theorem dC_fields_0 : decode cC_fields 0 = .ok (.aload_n 0, 1) := by decide +kernel
theorem dC_fields_1 : decode cC_fields 1 = .ok (.getfield 10, 3) := by decide +kernel
theorem dC_fields_4 : decode cC_fields 4 = .ok (.invokevirtual 108, 3) := by decide +kernel
theorem dC_fields_7 : decode cC_fields 7 = .ok (.ireturn, 1) := by decide +kernel
theorem dC_init_0 : decode cC_init 0 = .ok (.aload_n 0, 1) := by decide +kernel
theorem dC_init_1 : decode cC_init 1 = .ok (.invokespecial 1, 3) := by decide +kernel
theorem dC_init_4 : decode cC_init 4 = .ok (.aload_n 0, 1) := by decide +kernel
theorem dC_init_5 : decode cC_init 5 = .ok (.new 7, 3) := by decide +kernel
theorem dC_init_8 : decode cC_init 8 = .ok (.dup, 1) := by decide +kernel
theorem dC_init_9 : decode cC_init 9 = .ok (.invokespecial 9, 3) := by decide +kernel
theorem dC_init_12 : decode cC_init 12 = .ok (.putfield 10, 3) := by decide +kernel
theorem dC_init_15 : decode cC_init 15 = .ok (.aload_n 0, 1) := by decide +kernel
theorem dC_init_16 : decode cC_init 16 = .ok (.new 16, 3) := by decide +kernel
theorem dC_init_19 : decode cC_init 19 = .ok (.dup, 1) := by decide +kernel
theorem dC_init_20 : decode cC_init 20 = .ok (.invokespecial 18, 3) := by decide +kernel
theorem dC_init_23 : decode cC_init 23 = .ok (.putfield 19, 3) := by decide +kernel
theorem dC_init_26 : decode cC_init 26 = .ok (.aload_n 0, 1) := by decide +kernel
theorem dC_init_27 : decode cC_init 27 = .ok (.new 23, 3) := by decide +kernel
theorem dC_init_30 : decode cC_init 30 = .ok (.dup, 1) := by decide +kernel
theorem dC_init_31 : decode cC_init 31 = .ok (.aload_n 0, 1) := by decide +kernel
theorem dC_init_32 : decode cC_init 32 = .ok (.getfield 19, 3) := by decide +kernel
theorem dC_init_35 : decode cC_init 35 = .ok (.invokespecial 25, 3) := by decide +kernel
theorem dC_init_38 : decode cC_init 38 = .ok (.putfield 28, 3) := by decide +kernel
theorem dC_init_41 : decode cC_init 41 = .ok (.return_, 1) := by decide +kernel
theorem dC_knownSlot_0 : decode cC_knownSlot 0 = .ok (.iconst 0, 1) := by decide +kernel
theorem dC_knownSlot_1 : decode cC_knownSlot 1 = .ok (.istore_n 1, 1) := by decide +kernel
theorem dC_knownSlot_2 : decode cC_knownSlot 2 = .ok (.iload_n 1, 1) := by decide +kernel
theorem dC_knownSlot_3 : decode cC_knownSlot 3 = .ok (.bipush 16, 2) := by decide +kernel
theorem dC_knownSlot_5 : decode cC_knownSlot 5 = .ok (.if_icmp .ge 20, 3) := by decide +kernel
theorem dC_knownSlot_8 : decode cC_knownSlot 8 = .ok (.getstatic 156, 3) := by decide +kernel
theorem dC_knownSlot_11 : decode cC_knownSlot 11 = .ok (.iload_n 1, 1) := by decide +kernel
theorem dC_knownSlot_12 : decode cC_knownSlot 12 = .ok (.iaload, 1) := by decide +kernel
theorem dC_knownSlot_13 : decode cC_knownSlot 13 = .ok (.iload_n 0, 1) := by decide +kernel
theorem dC_knownSlot_14 : decode cC_knownSlot 14 = .ok (.if_icmp .ne 5, 3) := by decide +kernel
theorem dC_knownSlot_17 : decode cC_knownSlot 17 = .ok (.iload_n 1, 1) := by decide +kernel
theorem dC_knownSlot_18 : decode cC_knownSlot 18 = .ok (.ireturn, 1) := by decide +kernel
theorem dC_knownSlot_19 : decode cC_knownSlot 19 = .ok (.iinc 1 1, 3) := by decide +kernel
theorem dC_knownSlot_22 : decode cC_knownSlot 22 = .ok (.goto (-20), 3) := by decide +kernel
theorem dC_knownSlot_25 : decode cC_knownSlot 25 = .ok (.new 32, 3) := by decide +kernel
theorem dC_knownSlot_28 : decode cC_knownSlot 28 = .ok (.dup, 1) := by decide +kernel
theorem dC_knownSlot_29 : decode cC_knownSlot 29 = .ok (.ldc 159, 2) := by decide +kernel
theorem dC_knownSlot_31 : decode cC_knownSlot 31 = .ok (.invokespecial 36, 3) := by decide +kernel
theorem dC_knownSlot_34 : decode cC_knownSlot 34 = .ok (.athrow, 1) := by decide +kernel
theorem dC_letters_0 : decode cC_letters 0 = .ok (.iload_n 1, 1) := by decide +kernel
theorem dC_letters_1 : decode cC_letters 1 = .ok (.invokestatic 64, 3) := by decide +kernel
theorem dC_letters_4 : decode cC_letters 4 = .ok (.istore 5, 2) := by decide +kernel
theorem dC_letters_6 : decode cC_letters 6 = .ok (.getstatic 67, 3) := by decide +kernel
theorem dC_letters_9 : decode cC_letters 9 = .ok (.iload 5, 2) := by decide +kernel
theorem dC_letters_11 : decode cC_letters 11 = .ok (.iaload, 1) := by decide +kernel
theorem dC_letters_12 : decode cC_letters 12 = .ok (.ifCond .ne 13, 3) := by decide +kernel
theorem dC_letters_15 : decode cC_letters 15 = .ok (.new 32, 3) := by decide +kernel
theorem dC_letters_18 : decode cC_letters 18 = .ok (.dup, 1) := by decide +kernel
theorem dC_letters_19 : decode cC_letters 19 = .ok (.ldc 70, 2) := by decide +kernel
theorem dC_letters_21 : decode cC_letters 21 = .ok (.invokespecial 36, 3) := by decide +kernel
theorem dC_letters_24 : decode cC_letters 24 = .ok (.athrow, 1) := by decide +kernel
theorem dC_letters_25 : decode cC_letters 25 = .ok (.getstatic 57, 3) := by decide +kernel
theorem dC_letters_28 : decode cC_letters 28 = .ok (.iload 5, 2) := by decide +kernel
theorem dC_letters_30 : decode cC_letters 30 = .ok (.iaload, 1) := by decide +kernel
theorem dC_letters_31 : decode cC_letters 31 = .ok (.ifCond .ne 7, 3) := by decide +kernel
theorem dC_letters_34 : decode cC_letters 34 = .ok (.iconst 1, 1) := by decide +kernel
theorem dC_letters_35 : decode cC_letters 35 = .ok (.goto 4, 3) := by decide +kernel
theorem dC_letters_38 : decode cC_letters 38 = .ok (.iconst 0, 1) := by decide +kernel
theorem dC_letters_39 : decode cC_letters 39 = .ok (.istore 6, 2) := by decide +kernel
theorem dC_letters_41 : decode cC_letters 41 = .ok (.iload 6, 2) := by decide +kernel
theorem dC_letters_43 : decode cC_letters 43 = .ok (.ifCond .eq 11, 3) := by decide +kernel
theorem dC_letters_46 : decode cC_letters 46 = .ok (.iload 4, 2) := by decide +kernel
theorem dC_letters_48 : decode cC_letters 48 = .ok (.ifCond .eq 33, 3) := by decide +kernel
theorem dC_letters_51 : decode cC_letters 51 = .ok (.goto 20, 3) := by decide +kernel
theorem dC_letters_54 : decode cC_letters 54 = .ok (.iload 4, 2) := by decide +kernel
theorem dC_letters_56 : decode cC_letters 56 = .ok (.iconst 1, 1) := by decide +kernel
theorem dC_letters_57 : decode cC_letters 57 = .ok (.if_icmp .lt 14, 3) := by decide +kernel
theorem dC_letters_60 : decode cC_letters 60 = .ok (.iload 4, 2) := by decide +kernel
theorem dC_letters_62 : decode cC_letters 62 = .ok (.getstatic 51, 3) := by decide +kernel
theorem dC_letters_65 : decode cC_letters 65 = .ok (.iload 5, 2) := by decide +kernel
theorem dC_letters_67 : decode cC_letters 67 = .ok (.iaload, 1) := by decide +kernel
theorem dC_letters_68 : decode cC_letters 68 = .ok (.if_icmp .le 13, 3) := by decide +kernel
theorem dC_letters_71 : decode cC_letters 71 = .ok (.new 32, 3) := by decide +kernel
theorem dC_letters_74 : decode cC_letters 74 = .ok (.dup, 1) := by decide +kernel
theorem dC_letters_75 : decode cC_letters 75 = .ok (.ldc 72, 2) := by decide +kernel
theorem dC_letters_77 : decode cC_letters 77 = .ok (.invokespecial 36, 3) := by decide +kernel
theorem dC_letters_80 : decode cC_letters 80 = .ok (.athrow, 1) := by decide +kernel
theorem dC_letters_81 : decode cC_letters 81 = .ok (.aload_n 0, 1) := by decide +kernel
theorem dC_letters_82 : decode cC_letters 82 = .ok (.getfield 10, 3) := by decide +kernel
theorem dC_letters_85 : decode cC_letters 85 = .ok (.iload 5, 2) := by decide +kernel
theorem dC_letters_87 : decode cC_letters 87 = .ok (.iload 6, 2) := by decide +kernel
theorem dC_letters_89 : decode cC_letters 89 = .ok (.ifCond .eq 12, 3) := by decide +kernel
theorem dC_letters_92 : decode cC_letters 92 = .ok (.getstatic 51, 3) := by decide +kernel
theorem dC_letters_95 : decode cC_letters 95 = .ok (.iload 5, 2) := by decide +kernel
theorem dC_letters_97 : decode cC_letters 97 = .ok (.iaload, 1) := by decide +kernel
theorem dC_letters_98 : decode cC_letters 98 = .ok (.goto 5, 3) := by decide +kernel
theorem dC_letters_101 : decode cC_letters 101 = .ok (.iload 4, 2) := by decide +kernel
theorem dC_letters_103 : decode cC_letters 103 = .ok (.lload_n 2, 1) := by decide +kernel
theorem dC_letters_104 : decode cC_letters 104 = .ok (.invokevirtual 74, 3) := by decide +kernel
theorem dC_letters_107 : decode cC_letters 107 = .ok (.return_, 1) := by decide +kernel
theorem dC_mapBit_0 : decode cC_mapBit 0 = .ok (.sipush 128, 3) := by decide +kernel
theorem dC_mapBit_3 : decode cC_mapBit 3 = .ok (.iload_n 0, 1) := by decide +kernel
theorem dC_mapBit_4 : decode cC_mapBit 4 = .ok (.iconst 1, 1) := by decide +kernel
theorem dC_mapBit_5 : decode cC_mapBit 5 = .ok (.isub, 1) := by decide +kernel
theorem dC_mapBit_6 : decode cC_mapBit 6 = .ok (.bipush 8, 2) := by decide +kernel
theorem dC_mapBit_8 : decode cC_mapBit 8 = .ok (.irem, 1) := by decide +kernel
theorem dC_mapBit_9 : decode cC_mapBit 9 = .ok (.ishr, 1) := by decide +kernel
theorem dC_mapBit_10 : decode cC_mapBit 10 = .ok (.ireturn, 1) := by decide +kernel
theorem dC_mapByte_0 : decode cC_mapByte 0 = .ok (.iload_n 0, 1) := by decide +kernel
theorem dC_mapByte_1 : decode cC_mapByte 1 = .ok (.iconst 1, 1) := by decide +kernel
theorem dC_mapByte_2 : decode cC_mapByte 2 = .ok (.isub, 1) := by decide +kernel
theorem dC_mapByte_3 : decode cC_mapByte 3 = .ok (.bipush 8, 2) := by decide +kernel
theorem dC_mapByte_5 : decode cC_mapByte 5 = .ok (.idiv, 1) := by decide +kernel
theorem dC_mapByte_6 : decode cC_mapByte 6 = .ok (.ireturn, 1) := by decide +kernel
theorem dC_message_0 : decode cC_message 0 = .ok (.iload_n 1, 1) := by decide +kernel
theorem dC_message_1 : decode cC_message 1 = .ok (.ifCond .lt 10, 3) := by decide +kernel
theorem dC_message_4 : decode cC_message 4 = .ok (.iload_n 1, 1) := by decide +kernel
theorem dC_message_5 : decode cC_message 5 = .ok (.sipush 9999, 3) := by decide +kernel
theorem dC_message_8 : decode cC_message 8 = .ok (.if_icmp .le 13, 3) := by decide +kernel
theorem dC_message_11 : decode cC_message 11 = .ok (.new 32, 3) := by decide +kernel
theorem dC_message_14 : decode cC_message 14 = .ok (.dup, 1) := by decide +kernel
theorem dC_message_15 : decode cC_message 15 = .ok (.ldc 34, 2) := by decide +kernel
theorem dC_message_17 : decode cC_message 17 = .ok (.invokespecial 36, 3) := by decide +kernel
theorem dC_message_20 : decode cC_message 20 = .ok (.athrow, 1) := by decide +kernel
theorem dC_message_21 : decode cC_message 21 = .ok (.aload_n 0, 1) := by decide +kernel
theorem dC_message_22 : decode cC_message 22 = .ok (.getfield 10, 3) := by decide +kernel
theorem dC_message_25 : decode cC_message 25 = .ok (.iload_n 1, 1) := by decide +kernel
theorem dC_message_26 : decode cC_message 26 = .ok (.invokevirtual 39, 3) := by decide +kernel
theorem dC_message_29 : decode cC_message 29 = .ok (.return_, 1) := by decide +kernel
theorem dC_number_0 : decode cC_number 0 = .ok (.iload_n 1, 1) := by decide +kernel
theorem dC_number_1 : decode cC_number 1 = .ok (.invokestatic 43, 3) := by decide +kernel
theorem dC_number_4 : decode cC_number 4 = .ok (.istore_n 2, 1) := by decide +kernel
theorem dC_number_5 : decode cC_number 5 = .ok (.aload_n 0, 1) := by decide +kernel
theorem dC_number_6 : decode cC_number 6 = .ok (.getfield 10, 3) := by decide +kernel
theorem dC_number_9 : decode cC_number 9 = .ok (.iload_n 2, 1) := by decide +kernel
theorem dC_number_10 : decode cC_number 10 = .ok (.invokevirtual 85, 3) := by decide +kernel
theorem dC_number_13 : decode cC_number 13 = .ok (.ifCond .eq 14, 3) := by decide +kernel
theorem dC_number_16 : decode cC_number 16 = .ok (.aload_n 0, 1) := by decide +kernel
theorem dC_number_17 : decode cC_number 17 = .ok (.getfield 10, 3) := by decide +kernel
theorem dC_number_20 : decode cC_number 20 = .ok (.iload_n 2, 1) := by decide +kernel
theorem dC_number_21 : decode cC_number 21 = .ok (.invokevirtual 102, 3) := by decide +kernel
theorem dC_number_24 : decode cC_number 24 = .ok (.goto 6, 3) := by decide +kernel
theorem dC_number_27 : decode cC_number 27 = .ok (.ldc2_w 106, 3) := by decide +kernel
theorem dC_number_30 : decode cC_number 30 = .ok (.lreturn, 1) := by decide +kernel
theorem dC_omit_0 : decode cC_omit 0 = .ok (.iload_n 1, 1) := by decide +kernel
theorem dC_omit_1 : decode cC_omit 1 = .ok (.invokestatic 64, 3) := by decide +kernel
theorem dC_omit_4 : decode cC_omit 4 = .ok (.istore_n 2, 1) := by decide +kernel
theorem dC_omit_5 : decode cC_omit 5 = .ok (.aload_n 0, 1) := by decide +kernel
theorem dC_omit_6 : decode cC_omit 6 = .ok (.getfield 10, 3) := by decide +kernel
theorem dC_omit_9 : decode cC_omit 9 = .ok (.iload_n 2, 1) := by decide +kernel
theorem dC_omit_10 : decode cC_omit 10 = .ok (.invokevirtual 85, 3) := by decide +kernel
theorem dC_omit_13 : decode cC_omit 13 = .ok (.istore_n 3, 1) := by decide +kernel
theorem dC_omit_14 : decode cC_omit 14 = .ok (.aload_n 0, 1) := by decide +kernel
theorem dC_omit_15 : decode cC_omit 15 = .ok (.getfield 10, 3) := by decide +kernel
theorem dC_omit_18 : decode cC_omit 18 = .ok (.getfield 89, 3) := by decide +kernel
theorem dC_omit_21 : decode cC_omit 21 = .ok (.iload_n 2, 1) := by decide +kernel
theorem dC_omit_22 : decode cC_omit 22 = .ok (.iconst 0, 1) := by decide +kernel
theorem dC_omit_23 : decode cC_omit 23 = .ok (.iastore, 1) := by decide +kernel
theorem dC_omit_24 : decode cC_omit 24 = .ok (.iload_n 3, 1) := by decide +kernel
theorem dC_omit_25 : decode cC_omit 25 = .ok (.ireturn, 1) := by decide +kernel
theorem dC_original_0 : decode cC_original 0 = .ok (.iload_n 1, 1) := by decide +kernel
theorem dC_original_1 : decode cC_original 1 = .ok (.ifCond .lt 30, 3) := by decide +kernel
theorem dC_original_4 : decode cC_original 4 = .ok (.iload_n 1, 1) := by decide +kernel
theorem dC_original_5 : decode cC_original 5 = .ok (.sipush 9999, 3) := by decide +kernel
theorem dC_original_8 : decode cC_original 8 = .ok (.if_icmp .gt 23, 3) := by decide +kernel
theorem dC_original_11 : decode cC_original 11 = .ok (.iload_n 2, 1) := by decide +kernel
theorem dC_original_12 : decode cC_original 12 = .ok (.ifCond .lt 19, 3) := by decide +kernel
theorem dC_original_15 : decode cC_original 15 = .ok (.iload_n 2, 1) := by decide +kernel
theorem dC_original_16 : decode cC_original 16 = .ok (.ldc 77, 2) := by decide +kernel
theorem dC_original_18 : decode cC_original 18 = .ok (.if_icmp .gt 13, 3) := by decide +kernel
theorem dC_original_21 : decode cC_original 21 = .ok (.iload_n 3, 1) := by decide +kernel
theorem dC_original_22 : decode cC_original 22 = .ok (.ifCond .lt 9, 3) := by decide +kernel
theorem dC_original_25 : decode cC_original 25 = .ok (.iload_n 3, 1) := by decide +kernel
theorem dC_original_26 : decode cC_original 26 = .ok (.ldc 78, 2) := by decide +kernel
theorem dC_original_28 : decode cC_original 28 = .ok (.if_icmp .le 13, 3) := by decide +kernel
theorem dC_original_31 : decode cC_original 31 = .ok (.new 32, 3) := by decide +kernel
theorem dC_original_34 : decode cC_original 34 = .ok (.dup, 1) := by decide +kernel
theorem dC_original_35 : decode cC_original 35 = .ok (.ldc 79, 2) := by decide +kernel
theorem dC_original_37 : decode cC_original 37 = .ok (.invokespecial 36, 3) := by decide +kernel
theorem dC_original_40 : decode cC_original 40 = .ok (.athrow, 1) := by decide +kernel
theorem dC_original_41 : decode cC_original 41 = .ok (.aload_n 0, 1) := by decide +kernel
theorem dC_original_42 : decode cC_original 42 = .ok (.getfield 10, 3) := by decide +kernel
theorem dC_original_45 : decode cC_original 45 = .ok (.iload_n 1, 1) := by decide +kernel
theorem dC_original_46 : decode cC_original 46 = .ok (.iload_n 2, 1) := by decide +kernel
theorem dC_original_47 : decode cC_original 47 = .ok (.iload_n 3, 1) := by decide +kernel
theorem dC_original_48 : decode cC_original 48 = .ok (.invokevirtual 81, 3) := by decide +kernel
theorem dC_original_51 : decode cC_original 51 = .ok (.return_, 1) := by decide +kernel
theorem dC_read_0 : decode cC_read 0 = .ok (.aload_n 0, 1) := by decide +kernel
theorem dC_read_1 : decode cC_read 1 = .ok (.getfield 28, 3) := by decide +kernel
theorem dC_read_4 : decode cC_read 4 = .ok (.invokevirtual 140, 3) := by decide +kernel
theorem dC_read_7 : decode cC_read 7 = .ok (.ifCond .ne 5, 3) := by decide +kernel
theorem dC_read_10 : decode cC_read 10 = .ok (.iconst 0, 1) := by decide +kernel
theorem dC_read_11 : decode cC_read 11 = .ok (.ireturn, 1) := by decide +kernel
theorem dC_read_12 : decode cC_read 12 = .ok (.aload_n 0, 1) := by decide +kernel
theorem dC_read_13 : decode cC_read 13 = .ok (.getfield 10, 3) := by decide +kernel
theorem dC_read_16 : decode cC_read 16 = .ok (.aload_n 0, 1) := by decide +kernel
theorem dC_read_17 : decode cC_read 17 = .ok (.getfield 28, 3) := by decide +kernel
theorem dC_read_20 : decode cC_read 20 = .ok (.getfield 150, 3) := by decide +kernel
theorem dC_read_23 : decode cC_read 23 = .ok (.invokevirtual 153, 3) := by decide +kernel
theorem dC_read_26 : decode cC_read 26 = .ok (.iconst 1, 1) := by decide +kernel
theorem dC_read_27 : decode cC_read 27 = .ok (.ireturn, 1) := by decide +kernel
theorem dC_size_0 : decode cC_size 0 = .ok (.iload_n 1, 1) := by decide +kernel
theorem dC_size_1 : decode cC_size 1 = .ok (.invokestatic 64, 3) := by decide +kernel
theorem dC_size_4 : decode cC_size 4 = .ok (.istore_n 2, 1) := by decide +kernel
theorem dC_size_5 : decode cC_size 5 = .ok (.aload_n 0, 1) := by decide +kernel
theorem dC_size_6 : decode cC_size 6 = .ok (.getfield 10, 3) := by decide +kernel
theorem dC_size_9 : decode cC_size 9 = .ok (.iload_n 2, 1) := by decide +kernel
theorem dC_size_10 : decode cC_size 10 = .ok (.invokevirtual 85, 3) := by decide +kernel
theorem dC_size_13 : decode cC_size 13 = .ok (.ifCond .eq 15, 3) := by decide +kernel
theorem dC_size_16 : decode cC_size 16 = .ok (.aload_n 0, 1) := by decide +kernel
theorem dC_size_17 : decode cC_size 17 = .ok (.getfield 10, 3) := by decide +kernel
theorem dC_size_20 : decode cC_size 20 = .ok (.getfield 89, 3) := by decide +kernel
theorem dC_size_23 : decode cC_size 23 = .ok (.iload_n 2, 1) := by decide +kernel
theorem dC_size_24 : decode cC_size 24 = .ok (.iaload, 1) := by decide +kernel
theorem dC_size_25 : decode cC_size 25 = .ok (.goto 4, 3) := by decide +kernel
theorem dC_size_28 : decode cC_size 28 = .ok (.iconst (-1), 1) := by decide +kernel
theorem dC_size_29 : decode cC_size 29 = .ok (.ireturn, 1) := by decide +kernel
theorem dC_spoil_0 : decode cC_spoil 0 = .ok (.iload_n 1, 1) := by decide +kernel
theorem dC_spoil_1 : decode cC_spoil 1 = .ok (.ifCond .lt 25, 3) := by decide +kernel
theorem dC_spoil_4 : decode cC_spoil 4 = .ok (.iload_n 1, 1) := by decide +kernel
theorem dC_spoil_5 : decode cC_spoil 5 = .ok (.aload_n 0, 1) := by decide +kernel
theorem dC_spoil_6 : decode cC_spoil 6 = .ok (.getfield 19, 3) := by decide +kernel
theorem dC_spoil_9 : decode cC_spoil 9 = .ok (.getfield 116, 3) := by decide +kernel
theorem dC_spoil_12 : decode cC_spoil 12 = .ok (.if_icmp .ge 14, 3) := by decide +kernel
theorem dC_spoil_15 : decode cC_spoil 15 = .ok (.iload_n 2, 1) := by decide +kernel
theorem dC_spoil_16 : decode cC_spoil 16 = .ok (.ifCond .lt 10, 3) := by decide +kernel
theorem dC_spoil_19 : decode cC_spoil 19 = .ok (.iload_n 2, 1) := by decide +kernel
theorem dC_spoil_20 : decode cC_spoil 20 = .ok (.sipush 255, 3) := by decide +kernel
theorem dC_spoil_23 : decode cC_spoil 23 = .ok (.if_icmp .le 13, 3) := by decide +kernel
theorem dC_spoil_26 : decode cC_spoil 26 = .ok (.new 32, 3) := by decide +kernel
theorem dC_spoil_29 : decode cC_spoil 29 = .ok (.dup, 1) := by decide +kernel
theorem dC_spoil_30 : decode cC_spoil 30 = .ok (.ldc 129, 2) := by decide +kernel
theorem dC_spoil_32 : decode cC_spoil 32 = .ok (.invokespecial 36, 3) := by decide +kernel
theorem dC_spoil_35 : decode cC_spoil 35 = .ok (.athrow, 1) := by decide +kernel
theorem dC_spoil_36 : decode cC_spoil 36 = .ok (.aload_n 0, 1) := by decide +kernel
theorem dC_spoil_37 : decode cC_spoil 37 = .ok (.getfield 19, 3) := by decide +kernel
theorem dC_spoil_40 : decode cC_spoil 40 = .ok (.iload_n 1, 1) := by decide +kernel
theorem dC_spoil_41 : decode cC_spoil 41 = .ok (.iload_n 2, 1) := by decide +kernel
theorem dC_spoil_42 : decode cC_spoil 42 = .ok (.invokevirtual 131, 3) := by decide +kernel
theorem dC_spoil_45 : decode cC_spoil 45 = .ok (.aload_n 0, 1) := by decide +kernel
theorem dC_spoil_46 : decode cC_spoil 46 = .ok (.getfield 19, 3) := by decide +kernel
theorem dC_spoil_49 : decode cC_spoil 49 = .ok (.iload_n 1, 1) := by decide +kernel
theorem dC_spoil_50 : decode cC_spoil 50 = .ok (.invokevirtual 135, 3) := by decide +kernel
theorem dC_spoil_53 : decode cC_spoil 53 = .ok (.ireturn, 1) := by decide +kernel
theorem dC_trim_0 : decode cC_trim 0 = .ok (.iload_n 1, 1) := by decide +kernel
theorem dC_trim_1 : decode cC_trim 1 = .ok (.ifCond .lt 14, 3) := by decide +kernel
theorem dC_trim_4 : decode cC_trim 4 = .ok (.iload_n 1, 1) := by decide +kernel
theorem dC_trim_5 : decode cC_trim 5 = .ok (.aload_n 0, 1) := by decide +kernel
theorem dC_trim_6 : decode cC_trim 6 = .ok (.getfield 19, 3) := by decide +kernel
theorem dC_trim_9 : decode cC_trim 9 = .ok (.getfield 116, 3) := by decide +kernel
theorem dC_trim_12 : decode cC_trim 12 = .ok (.if_icmp .le 13, 3) := by decide +kernel
theorem dC_trim_15 : decode cC_trim 15 = .ok (.new 32, 3) := by decide +kernel
theorem dC_trim_18 : decode cC_trim 18 = .ok (.dup, 1) := by decide +kernel
theorem dC_trim_19 : decode cC_trim 19 = .ok (.ldc 127, 2) := by decide +kernel
theorem dC_trim_21 : decode cC_trim 21 = .ok (.invokespecial 36, 3) := by decide +kernel
theorem dC_trim_24 : decode cC_trim 24 = .ok (.athrow, 1) := by decide +kernel
theorem dC_trim_25 : decode cC_trim 25 = .ok (.aload_n 0, 1) := by decide +kernel
theorem dC_trim_26 : decode cC_trim 26 = .ok (.getfield 19, 3) := by decide +kernel
theorem dC_trim_29 : decode cC_trim 29 = .ok (.dup, 1) := by decide +kernel
theorem dC_trim_30 : decode cC_trim 30 = .ok (.getfield 116, 3) := by decide +kernel
theorem dC_trim_33 : decode cC_trim 33 = .ok (.iload_n 1, 1) := by decide +kernel
theorem dC_trim_34 : decode cC_trim 34 = .ok (.isub, 1) := by decide +kernel
theorem dC_trim_35 : decode cC_trim 35 = .ok (.putfield 116, 3) := by decide +kernel
theorem dC_trim_38 : decode cC_trim 38 = .ok (.aload_n 0, 1) := by decide +kernel
theorem dC_trim_39 : decode cC_trim 39 = .ok (.getfield 19, 3) := by decide +kernel
theorem dC_trim_42 : decode cC_trim 42 = .ok (.getfield 116, 3) := by decide +kernel
theorem dC_trim_45 : decode cC_trim 45 = .ok (.ireturn, 1) := by decide +kernel
theorem dC_type_0 : decode cC_type 0 = .ok (.aload_n 0, 1) := by decide +kernel
theorem dC_type_1 : decode cC_type 1 = .ok (.getfield 10, 3) := by decide +kernel
theorem dC_type_4 : decode cC_type 4 = .ok (.getfield 92, 3) := by decide +kernel
theorem dC_type_7 : decode cC_type 7 = .ok (.ireturn, 1) := by decide +kernel
end
section
/-! rows of one's own, in numbers: ints as nI of a natural, int and byte arrays as functions to naturals -/
/-- a byte of 0 .. 255 as the array keeps it -/
def sB (n : Nat) : Int32 := (nI n).toInt8.toInt32
abbrev aN (f : Nat → Nat) : Nat → Int32 := fun j => nI (f j)
abbrev aB (f : Nat → Nat) : Nat → Int32 := fun j => sB (f j)
/-- a store into a function -/
def nup (f : Nat → Nat) (k v : Nat) : Nat → Nat := fun j => if j = k then v else f j
theorem nup_s {f : Nat → Nat} {k v : Nat} : nup f k v k = v := if_pos rfl
theorem nup_n {f : Nat → Nat} {k v j : Nat} (h : j ≠ k) : nup f k v j = f j := if_neg h
theorem aN_at {f : Nat → Nat} {k : Nat} (h : k < 2 ^ 31) : aN f (nI k).toNatClampNeg = nI (f k) := by
  show nI (f (nI k).toNatClampNeg) = _
  rw [nI_clamp h]
theorem aB_at {f : Nat → Nat} {k : Nat} (h : k < 2 ^ 31) : aB f (nI k).toNatClampNeg = sB (f k) := by
  show sB (f (nI k).toNatClampNeg) = _
  rw [nI_clamp h]
theorem aN_up {f : Nat → Nat} {k v : Nat} (h : k < 2 ^ 31) : upd (aN f) (nI k).toNatClampNeg (nI v) = aN (nup f k v) := by
  rw [nI_clamp h]
  funext j
  show (if j = k then nI v else nI (f j)) = nI (if j = k then v else f j)
  split <;> rfl
theorem aB_up {f : Nat → Nat} {k v : Nat} (h : k < 2 ^ 31) : upd (aB f) (nI k).toNatClampNeg (sB v) = aB (nup f k v) := by
  rw [nI_clamp h]
  funext j
  show (if j = k then sB v else sB (f j)) = sB (if j = k then v else f j)
  split <;> rfl
theorem sB_and {n : Nat} (h : n < 256) : sB n &&& 255 = nI n := sc_k8 n h
theorem sB_byte (n : Nat) : (nI n).toInt8.toInt32 = sB n := rfl
theorem sB_nar (n : Nat) : vp_nar .byte (sB n) = sB n := pk_vb (nI n)
/-- of a small one the byte is itself -/
theorem sB_small : ∀ n, n < 128 → sB n = nI n := by decide
theorem zi_incr (a n : Nat) : nI a + Int32.ofInt (n : Int) = nI (a + n) := nI_add a n
theorem zi_decr {a n : Nat} (h : n ≤ a) : nI a + Int32.ofInt (-(n : Int)) = nI (a - n) := by
  have e : Int32.ofInt (-(n : Int)) = - nI n := by
    rw [Int32.ofInt_neg]
    rfl
  rw [e, ← Int32.sub_eq_add_neg, pk_sub h]
section ZI
variable {p : Program} {l : Launch} {e : Env} {R : Room} {s : State} {m : MethodId} {args : Array Value} {below : List Frame} {meth : Method} {c : Code} {H : Heap} {locs : List Loc} {cells slots : Nat} {Q : State → Prop} {cc : ByteArray} {pc : Nat} {ls : Array Slot} {rest : List Value}
theorem zi_v {x b : Int32} (h : x = b) (k : W p l e R s m args below meth c H locs cells slots Q (F0 m pc ls (.int b :: rest))) : W p l e R s m args below meth c H locs cells slots Q (F0 m pc ls (.int x :: rest)) := by rw [h]; exact k
theorem zl_v {x b : Int64} (h : x = b) (k : W p l e R s m args below meth c H locs cells slots Q (F0 m pc ls (.long b :: rest))) : W p l e R s m args below meth c H locs cells slots Q (F0 m pc ls (.long x :: rest)) := by rw [h]; exact k
theorem zi_c {v : Int32} {a : Nat} (h : v = nI a) (k : W p l e R s m args below meth c H locs cells slots Q (F0 m pc ls (.int (nI a) :: rest))) : W p l e R s m args below meth c H locs cells slots Q (F0 m pc ls (.int v :: rest)) := by rw [h]; exact k
theorem zl_c {v : Int64} {a : Nat} (h : v = lN a) (k : W p l e R s m args below meth c H locs cells slots Q (F0 m pc ls (.long (lN a) :: rest))) : W p l e R s m args below meth c H locs cells slots Q (F0 m pc ls (.long v :: rest)) := by rw [h]; exact k
/-- the goal's end by a name -/
theorem zq_name {g : JFrame} (k : ∀ Q' : State → Prop, Q' = Q → W p l e R s m args below meth c H locs cells slots Q' g) : W p l e R s m args below meth c H locs cells slots Q g := k Q rfl
theorem zi_add (hx : p.tables.exec = Jvm.exec) (hb : c.code = cc) {a b : Nat} (hdg : decode cc pc = .ok (.iadd, 1)) (k : W p l e R s m args below meth c H locs cells slots Q (F0 m (pc + 1) ls (.int (nI (a + b)) :: rest))) : W p l e R s m args below meth c H locs cells slots Q (F0 m pc ls (.int (nI b) :: .int (nI a) :: rest)) := lv_iadd hx hb hdg (by rw [nI_add]; exact k)
theorem zi_sub (hx : p.tables.exec = Jvm.exec) (hb : c.code = cc) {a b : Nat} (h : b ≤ a) (hdg : decode cc pc = .ok (.isub, 1)) (k : W p l e R s m args below meth c H locs cells slots Q (F0 m (pc + 1) ls (.int (nI (a - b)) :: rest))) : W p l e R s m args below meth c H locs cells slots Q (F0 m pc ls (.int (nI b) :: .int (nI a) :: rest)) := lv_isub hx hb hdg (by rw [pk_sub h]; exact k)
theorem zi_mul (hx : p.tables.exec = Jvm.exec) (hb : c.code = cc) {a b : Nat} (hdg : decode cc pc = .ok (.imul, 1)) (k : W p l e R s m args below meth c H locs cells slots Q (F0 m (pc + 1) ls (.int (nI (a * b)) :: rest))) : W p l e R s m args below meth c H locs cells slots Q (F0 m pc ls (.int (nI b) :: .int (nI a) :: rest)) := lv_imul hx hb hdg (by rw [pk_mul]; exact k)
theorem zi_div (hx : p.tables.exec = Jvm.exec) (hb : c.code = cc) {a b : Nat} (ha : a < 2 ^ 31) (h0 : 0 < b) (h1 : b < 2 ^ 31) (hdg : decode cc pc = .ok (.idiv, 1)) (k : W p l e R s m args below meth c H locs cells slots Q (F0 m (pc + 1) ls (.int (nI (a / b)) :: rest))) : W p l e R s m args below meth c H locs cells slots Q (F0 m pc ls (.int (nI b) :: .int (nI a) :: rest)) := lv_idiv hx hb hdg (nI_ne0 h0 h1) (by rw [pk_div ha h0 h1]; exact k)
theorem zi_rem (hx : p.tables.exec = Jvm.exec) (hb : c.code = cc) {a b : Nat} (ha : a < 2 ^ 31) (h0 : 0 < b) (h1 : b < 2 ^ 31) (hdg : decode cc pc = .ok (.irem, 1)) (k : W p l e R s m args below meth c H locs cells slots Q (F0 m (pc + 1) ls (.int (nI (a % b)) :: rest))) : W p l e R s m args below meth c H locs cells slots Q (F0 m pc ls (.int (nI b) :: .int (nI a) :: rest)) := lv_irem hx hb hdg (nI_ne0 h0 h1) (by rw [pk_rem ha h0 h1]; exact k)
theorem zi_ge (hx : p.tables.exec = Jvm.exec) (hb : c.code = cc) {a b : Nat} (ha : a < 2 ^ 31) (h1 : b < 2 ^ 31) {off : Int} {tgt : Nat} (hdg : decode cc pc = .ok (.if_icmp .ge off, 3)) (ht : (pc : Int) + off = (tgt : Int)) (kt : b ≤ a → W p l e R s m args below meth c H locs cells slots Q (F0 m tgt ls rest)) (kf : a < b → W p l e R s m args below meth c H locs cells slots Q (F0 m (pc + 3) ls rest)) : W p l e R s m args below meth c H locs cells slots Q (F0 m pc ls (.int (nI b) :: .int (nI a) :: rest)) :=
  lv_icmp_ge hx hb hdg ht (fun q => kt ((nI_leI h1 ha).mp q)) (fun q => kf (Nat.lt_of_not_le fun h => q ((nI_leI h1 ha).mpr h)))
theorem zi_lt (hx : p.tables.exec = Jvm.exec) (hb : c.code = cc) {a b : Nat} (ha : a < 2 ^ 31) (h1 : b < 2 ^ 31) {off : Int} {tgt : Nat} (hdg : decode cc pc = .ok (.if_icmp .lt off, 3)) (ht : (pc : Int) + off = (tgt : Int)) (kt : a < b → W p l e R s m args below meth c H locs cells slots Q (F0 m tgt ls rest)) (kf : b ≤ a → W p l e R s m args below meth c H locs cells slots Q (F0 m (pc + 3) ls rest)) : W p l e R s m args below meth c H locs cells slots Q (F0 m pc ls (.int (nI b) :: .int (nI a) :: rest)) :=
  lv_icmp_lt hx hb hdg ht (fun q => kt ((nI_ltI ha h1).mp q)) (fun q => kf (Nat.le_of_not_lt fun h => q ((nI_ltI ha h1).mpr h)))
theorem zi_gt (hx : p.tables.exec = Jvm.exec) (hb : c.code = cc) {a b : Nat} (ha : a < 2 ^ 31) (h1 : b < 2 ^ 31) {off : Int} {tgt : Nat} (hdg : decode cc pc = .ok (.if_icmp .gt off, 3)) (ht : (pc : Int) + off = (tgt : Int)) (kt : b < a → W p l e R s m args below meth c H locs cells slots Q (F0 m tgt ls rest)) (kf : a ≤ b → W p l e R s m args below meth c H locs cells slots Q (F0 m (pc + 3) ls rest)) : W p l e R s m args below meth c H locs cells slots Q (F0 m pc ls (.int (nI b) :: .int (nI a) :: rest)) :=
  lv_icmp_gt hx hb hdg ht (fun q => kt ((nI_ltI h1 ha).mp q)) (fun q => kf (Nat.le_of_not_lt fun h => q ((nI_ltI h1 ha).mpr h)))
theorem zi_le (hx : p.tables.exec = Jvm.exec) (hb : c.code = cc) {a b : Nat} (ha : a < 2 ^ 31) (h1 : b < 2 ^ 31) {off : Int} {tgt : Nat} (hdg : decode cc pc = .ok (.if_icmp .le off, 3)) (ht : (pc : Int) + off = (tgt : Int)) (kt : a ≤ b → W p l e R s m args below meth c H locs cells slots Q (F0 m tgt ls rest)) (kf : b < a → W p l e R s m args below meth c H locs cells slots Q (F0 m (pc + 3) ls rest)) : W p l e R s m args below meth c H locs cells slots Q (F0 m pc ls (.int (nI b) :: .int (nI a) :: rest)) :=
  lv_icmp_le hx hb hdg ht (fun q => kt ((nI_leI ha h1).mp q)) (fun q => kf (Nat.lt_of_not_le fun h => q ((nI_leI ha h1).mpr h)))
theorem zi_eq (hx : p.tables.exec = Jvm.exec) (hb : c.code = cc) {a b : Nat} (ha : a < 2 ^ 31) (h1 : b < 2 ^ 31) {off : Int} {tgt : Nat} (hdg : decode cc pc = .ok (.if_icmp .eq off, 3)) (ht : (pc : Int) + off = (tgt : Int)) (kt : a = b → W p l e R s m args below meth c H locs cells slots Q (F0 m tgt ls rest)) (kf : a ≠ b → W p l e R s m args below meth c H locs cells slots Q (F0 m (pc + 3) ls rest)) : W p l e R s m args below meth c H locs cells slots Q (F0 m pc ls (.int (nI b) :: .int (nI a) :: rest)) :=
  lv_icmp_eq hx hb hdg ht (fun q => kt ((nI_eq ha h1).mp q)) (fun q => kf (fun h => q ((nI_eq ha h1).mpr h)))
theorem zi_ne (hx : p.tables.exec = Jvm.exec) (hb : c.code = cc) {a b : Nat} (ha : a < 2 ^ 31) (h1 : b < 2 ^ 31) {off : Int} {tgt : Nat} (hdg : decode cc pc = .ok (.if_icmp .ne off, 3)) (ht : (pc : Int) + off = (tgt : Int)) (kt : a ≠ b → W p l e R s m args below meth c H locs cells slots Q (F0 m tgt ls rest)) (kf : a = b → W p l e R s m args below meth c H locs cells slots Q (F0 m (pc + 3) ls rest)) : W p l e R s m args below meth c H locs cells slots Q (F0 m pc ls (.int (nI b) :: .int (nI a) :: rest)) :=
  lv_icmp_ne hx hb hdg ht (fun q => kt (fun h => q ((nI_eq ha h1).mpr h))) (fun q => kf ((nI_eq ha h1).mp q))
theorem zi_eq0 (hx : p.tables.exec = Jvm.exec) (hb : c.code = cc) {a : Nat} (ha : a < 2 ^ 31) {off : Int} {tgt : Nat} (hdg : decode cc pc = .ok (.ifCond .eq off, 3)) (ht : (pc : Int) + off = (tgt : Int)) (kt : a = 0 → W p l e R s m args below meth c H locs cells slots Q (F0 m tgt ls rest)) (kf : a ≠ 0 → W p l e R s m args below meth c H locs cells slots Q (F0 m (pc + 3) ls rest)) : W p l e R s m args below meth c H locs cells slots Q (F0 m pc ls (.int (nI a) :: rest)) :=
  lv_if_eq hx hb hdg ht (fun q => kt ((nI_eq (b := 0) ha (by decide)).mp q)) (fun q => kf (fun h => q ((nI_eq (b := 0) ha (by decide)).mpr h)))
theorem zi_ne0 (hx : p.tables.exec = Jvm.exec) (hb : c.code = cc) {a : Nat} (ha : a < 2 ^ 31) {off : Int} {tgt : Nat} (hdg : decode cc pc = .ok (.ifCond .ne off, 3)) (ht : (pc : Int) + off = (tgt : Int)) (kt : a ≠ 0 → W p l e R s m args below meth c H locs cells slots Q (F0 m tgt ls rest)) (kf : a = 0 → W p l e R s m args below meth c H locs cells slots Q (F0 m (pc + 3) ls rest)) : W p l e R s m args below meth c H locs cells slots Q (F0 m pc ls (.int (nI a) :: rest)) :=
  lv_if_ne hx hb hdg ht (fun q => kt (fun h => q ((nI_eq (b := 0) ha (by decide)).mpr h))) (fun q => kf ((nI_eq (b := 0) ha (by decide)).mp q))
/-- of a natural it isn't below 0: that road is shut -/
theorem zi_lt0 (hx : p.tables.exec = Jvm.exec) (hb : c.code = cc) {a : Nat} (ha : a < 2 ^ 31) {off : Int} {tgt : Nat} (hdg : decode cc pc = .ok (.ifCond .lt off, 3)) (ht : (pc : Int) + off = (tgt : Int)) (kf : W p l e R s m args below meth c H locs cells slots Q (F0 m (pc + 3) ls rest)) : W p l e R s m args below meth c H locs cells slots Q (F0 m pc ls (.int (nI a) :: rest)) :=
  lv_if_lt hx hb hdg ht (fun q => absurd q (nI_pos ha)) (fun _ => kf)
theorem zi_ge0 (hx : p.tables.exec = Jvm.exec) (hb : c.code = cc) {a : Nat} (ha : a < 2 ^ 31) {off : Int} {tgt : Nat} (hdg : decode cc pc = .ok (.ifCond .ge off, 3)) (ht : (pc : Int) + off = (tgt : Int)) (kt : W p l e R s m args below meth c H locs cells slots Q (F0 m tgt ls rest)) : W p l e R s m args below meth c H locs cells slots Q (F0 m pc ls (.int (nI a) :: rest)) :=
  lv_if_ge hx hb hdg ht (fun _ => kt) (fun q => absurd (nI_pos' ha) q)
theorem zi_gt0 (hx : p.tables.exec = Jvm.exec) (hb : c.code = cc) {a : Nat} (ha : a < 2 ^ 31) {off : Int} {tgt : Nat} (hdg : decode cc pc = .ok (.ifCond .gt off, 3)) (ht : (pc : Int) + off = (tgt : Int)) (kt : 0 < a → W p l e R s m args below meth c H locs cells slots Q (F0 m tgt ls rest)) (kf : a = 0 → W p l e R s m args below meth c H locs cells slots Q (F0 m (pc + 3) ls rest)) : W p l e R s m args below meth c H locs cells slots Q (F0 m pc ls (.int (nI a) :: rest)) :=
  lv_if_gt hx hb hdg ht (fun q => kt ((nI_ltI (a := 0) (by decide) ha).mp q)) (fun q => kf (Nat.eq_zero_of_not_pos fun h => q ((nI_ltI (a := 0) (by decide) ha).mpr h)))
theorem zi_le0 (hx : p.tables.exec = Jvm.exec) (hb : c.code = cc) {a : Nat} (ha : a < 2 ^ 31) {off : Int} {tgt : Nat} (hdg : decode cc pc = .ok (.ifCond .le off, 3)) (ht : (pc : Int) + off = (tgt : Int)) (kt : a = 0 → W p l e R s m args below meth c H locs cells slots Q (F0 m tgt ls rest)) (kf : 0 < a → W p l e R s m args below meth c H locs cells slots Q (F0 m (pc + 3) ls rest)) : W p l e R s m args below meth c H locs cells slots Q (F0 m pc ls (.int (nI a) :: rest)) :=
  lv_if_le hx hb hdg ht (fun q => kt (Nat.le_zero.mp ((nI_leI (b := 0) ha (by decide)).mp q))) (fun q => kf (Nat.pos_of_ne_zero fun h => q ((nI_leI (b := 0) ha (by decide)).mpr (Nat.le_of_eq h))))
/-- '& (2^j - 1)' -/
theorem zi_and (hx : p.tables.exec = Jvm.exec) (hb : c.code = cc) {a b : Nat} (j : Nat) (ha : a < 2 ^ 32) (h1 : (nI b).toBitVec.toNat = 2 ^ j - 1) (hdg : decode cc pc = .ok (.iand, 1)) (k : W p l e R s m args below meth c H locs cells slots Q (F0 m (pc + 1) ls (.int (nI (a % 2 ^ j)) :: rest))) : W p l e R s m args below meth c H locs cells slots Q (F0 m pc ls (.int (nI b) :: .int (nI a) :: rest)) := lv_iand hx hb hdg (by rw [pk_andN ha j h1]; exact k)
/-- a byte of an array & 255 -/
theorem zi_and255 (hx : p.tables.exec = Jvm.exec) (hb : c.code = cc) {a : Nat} (ha : a < 256) (hdg : decode cc pc = .ok (.iand, 1)) (k : W p l e R s m args below meth c H locs cells slots Q (F0 m (pc + 1) ls (.int (nI a) :: rest))) : W p l e R s m args below meth c H locs cells slots Q (F0 m pc ls (.int (nI 255) :: .int (sB a) :: rest)) := lv_iand hx hb hdg (by rw [show sB a &&& nI 255 = nI a from sB_and ha]; exact k)
theorem zi_shr (hx : p.tables.exec = Jvm.exec) (hb : c.code = cc) {a b : Nat} (ha : a < 2 ^ 31) (h1 : ((nI b &&& 31).toBitVec.smod 32).toNat = b) (hdg : decode cc pc = .ok (.ishr, 1)) (k : W p l e R s m args below meth c H locs cells slots Q (F0 m (pc + 1) ls (.int (nI (a / 2 ^ b)) :: rest))) : W p l e R s m args below meth c H locs cells slots Q (F0 m pc ls (.int (nI b) :: .int (nI a) :: rest)) := lv_ishr hx hb hdg (by rw [pk_shrN ha _ b h1]; exact k)
theorem zi_shl (hx : p.tables.exec = Jvm.exec) (hb : c.code = cc) {a b : Nat} (ha : a * 2 ^ b < 2 ^ 32) (h1 : ((nI b &&& 31).toBitVec.smod 32).toNat = b) (hdg : decode cc pc = .ok (.ishl, 1)) (k : W p l e R s m args below meth c H locs cells slots Q (F0 m (pc + 1) ls (.int (nI (a * 2 ^ b)) :: rest))) : W p l e R s m args below meth c H locs cells slots Q (F0 m pc ls (.int (nI b) :: .int (nI a) :: rest)) := lv_ishl hx hb hdg (by rw [pk_shlN _ b h1 ha]; exact k)
theorem zi_b (hx : p.tables.exec = Jvm.exec) (hb : c.code = cc) {a : Nat} (hdg : decode cc pc = .ok (.i2b, 1)) (k : W p l e R s m args below meth c H locs cells slots Q (F0 m (pc + 1) ls (.int (sB a) :: rest))) : W p l e R s m args below meth c H locs cells slots Q (F0 m pc ls (.int (nI a) :: rest)) := lv_i2b hx hb hdg rfl k
/-- of a small one i2b changes nothing -/
theorem zi_bs (hx : p.tables.exec = Jvm.exec) (hb : c.code = cc) {a : Nat} (ha : a < 128) (hdg : decode cc pc = .ok (.i2b, 1)) (k : W p l e R s m args below meth c H locs cells slots Q (F0 m (pc + 1) ls (.int (nI a) :: rest))) : W p l e R s m args below meth c H locs cells slots Q (F0 m pc ls (.int (nI a) :: rest)) := lv_i2b hx hb hdg (sB_small a ha) k
theorem zi_l (hx : p.tables.exec = Jvm.exec) (hb : c.code = cc) {a : Nat} (ha : a < 2 ^ 31) (hdg : decode cc pc = .ok (.i2l, 1)) (k : W p l e R s m args below meth c H locs cells slots Q (F0 m (pc + 1) ls (.long (lN a) :: rest))) : W p l e R s m args below meth c H locs cells slots Q (F0 m pc ls (.int (nI a) :: rest)) := lv_i2l hx hb hdg (nI_l ha) k
theorem zl_i (hx : p.tables.exec = Jvm.exec) (hb : c.code = cc) {a : Nat} (hdg : decode cc pc = .ok (.l2i, 1)) (k : W p l e R s m args below meth c H locs cells slots Q (F0 m (pc + 1) ls (.int (nI a) :: rest))) : W p l e R s m args below meth c H locs cells slots Q (F0 m pc ls (.long (lN a) :: rest)) := lv_l2i hx hb hdg (lN_i a) k
theorem zl_add (hx : p.tables.exec = Jvm.exec) (hb : c.code = cc) {a b : Nat} (hdg : decode cc pc = .ok (.ladd, 1)) (k : W p l e R s m args below meth c H locs cells slots Q (F0 m (pc + 1) ls (.long (lN (a + b)) :: rest))) : W p l e R s m args below meth c H locs cells slots Q (F0 m pc ls (.long (lN b) :: .long (lN a) :: rest)) := lv_ladd hx hb hdg (by rw [lN_add]; exact k)
theorem zl_mul (hx : p.tables.exec = Jvm.exec) (hb : c.code = cc) {a b : Nat} (hdg : decode cc pc = .ok (.lmul, 1)) (k : W p l e R s m args below meth c H locs cells slots Q (F0 m (pc + 1) ls (.long (lN (a * b)) :: rest))) : W p l e R s m args below meth c H locs cells slots Q (F0 m pc ls (.long (lN b) :: .long (lN a) :: rest)) := lv_lmul hx hb hdg (by rw [lN_mul]; exact k)
theorem lN_ne0 {b : Nat} (h0 : 0 < b) (h1 : b < 2 ^ 63) : ¬ lN b = 0 := fun q => by
  have h := (pk_lEQ (a := b) (b := 0) h1 (by decide)).mp q
  omega
theorem zl_div (hx : p.tables.exec = Jvm.exec) (hb : c.code = cc) {a b : Nat} (ha : a < 2 ^ 63) (h0 : 0 < b) (h1 : b < 2 ^ 63) (hdg : decode cc pc = .ok (.ldiv, 1)) (k : W p l e R s m args below meth c H locs cells slots Q (F0 m (pc + 1) ls (.long (lN (a / b)) :: rest))) : W p l e R s m args below meth c H locs cells slots Q (F0 m pc ls (.long (lN b) :: .long (lN a) :: rest)) := lv_ldiv hx hb hdg (lN_ne0 h0 h1) (by rw [pk_lDiv ha h0 h1]; exact k)
theorem zl_rem (hx : p.tables.exec = Jvm.exec) (hb : c.code = cc) {a b : Nat} (ha : a < 2 ^ 63) (h0 : 0 < b) (h1 : b < 2 ^ 63) (hdg : decode cc pc = .ok (.lrem, 1)) (k : W p l e R s m args below meth c H locs cells slots Q (F0 m (pc + 1) ls (.long (lN (a % b)) :: rest))) : W p l e R s m args below meth c H locs cells slots Q (F0 m pc ls (.long (lN b) :: .long (lN a) :: rest)) := lv_lrem hx hb hdg (lN_ne0 h0 h1) (by rw [pk_lRem ha h0 h1]; exact k)
end ZI
section ZA
variable {p : Program} {l : Launch} {e : Env} {R : Room} {s : State} {m : MethodId} {args : Array Value} {below : List Frame} {meth : Method} {c : Code} {H : Heap} {locs : List Loc} {cells slots : Nat} {Q : State → Prop} {cc : ByteArray} {pc : Nat} {ls : Array Slot} {rest : List Value} {D : va_G} {cl : List vw_C} {A : Nat → Prop} {a : Nat} {tys : List (ClassId × FieldType)} {ws : va_W} {H0 : Heap}
/-- an int array of naturals, read -/
theorem za_ild (hx : p.tables.exec = Jvm.exec) (hb : c.code = cc) (hK : va_K D cl tys s) (hP : va_P D cl ws H) (q0 t0 : Nat) {cA : ClassId} {n : Nat} {f : Nat → Nat} (ha : ws[q0]? = some (a, .inl (cA, n, .inl (aN f)))) (ht : tys[t0]? = some (cA, .int)) {i : Nat} (hi : i < n) (hn : n < 2 ^ 31) (hdg : decode cc pc = .ok (.iaload, 1))
    (kk : W p l e R s m args below meth c H locs cells slots Q (F0 m (pc + 1) ls (.int (nI (f i)) :: rest))) : W p l e R s m args below meth c H locs cells slots Q (F0 m pc ls (.int (nI i) :: .ref a :: rest)) :=
  va_iald hx hb hK hP q0 t0 ha ht (vp_in_nI hi hn) hdg (by rw [aN_at (Nat.lt_trans hi hn)]; exact kk)
theorem za_ist (hx : p.tables.exec = Jvm.exec) (hb : c.code = cc) (hK : va_K D cl tys s) (hP : va_P D cl ws H) (hD : va_D A ws) (hS : va_S A H0 H locs) (q0 t0 : Nat) {cA : ClassId} {n : Nat} {f : Nat → Nat} (ha : ws[q0]? = some (a, .inl (cA, n, .inl (aN f)))) (ht : tys[t0]? = some (cA, .int)) {i x : Nat} (hi : i < n) (hn : n < 2 ^ 31) (hdg : decode cc pc = .ok (.iastore, 1))
    (kk : ∀ (H1 : Heap) (locs1 : List Loc), va_P D cl (ws.set q0 (a, .inl (cA, n, .inl (aN (nup f i x))))) H1 → va_D A (ws.set q0 (a, .inl (cA, n, .inl (aN (nup f i x))))) → va_S A H0 H1 locs1 → W p l e R s m args below meth c H1 locs1 cells slots Q (F0 m (pc + 1) ls rest)) : W p l e R s m args below meth c H locs cells slots Q (F0 m pc ls (.int (nI x) :: .int (nI i) :: .ref a :: rest)) :=
  va_iast hx hb hK hP hD hS q0 t0 ha ht (vp_in_nI hi hn) hdg (by rw [aN_up (Nat.lt_trans hi hn)]; exact kk)
/-- a byte array of small naturals, read as ints -/
theorem za_bld (hx : p.tables.exec = Jvm.exec) (hb : c.code = cc) (hK : va_K D cl tys s) (hP : va_P D cl ws H) (q0 t0 : Nat) {cA : ClassId} {n : Nat} {f : Nat → Nat} (ha : ws[q0]? = some (a, .inl (cA, n, .inl (aN f)))) (ht : tys[t0]? = some (cA, .byte)) {i : Nat} (hi : i < n) (hn : n < 2 ^ 31) (hdg : decode cc pc = .ok (.baload, 1))
    (kk : W p l e R s m args below meth c H locs cells slots Q (F0 m (pc + 1) ls (.int (nI (f i)) :: rest))) : W p l e R s m args below meth c H locs cells slots Q (F0 m pc ls (.int (nI i) :: .ref a :: rest)) :=
  va_bald hx hb hK hP q0 t0 ha ht (vp_in_nI hi hn) hdg (by rw [aN_at (Nat.lt_trans hi hn)]; exact kk)
theorem nar_small {x : Nat} (h : x < 128) : vp_nar .byte (nI x) = nI x := by rw [← sB_small x h, sB_nar]
theorem za_bst (hx : p.tables.exec = Jvm.exec) (hb : c.code = cc) (hK : va_K D cl tys s) (hP : va_P D cl ws H) (hD : va_D A ws) (hS : va_S A H0 H locs) (q0 t0 : Nat) {cA : ClassId} {n : Nat} {f : Nat → Nat} (ha : ws[q0]? = some (a, .inl (cA, n, .inl (aN f)))) (ht : tys[t0]? = some (cA, .byte)) {i x : Nat} (hi : i < n) (hn : n < 2 ^ 31) (h7 : x < 128) (hdg : decode cc pc = .ok (.bastore, 1))
    (kk : ∀ (H1 : Heap) (locs1 : List Loc), va_P D cl (ws.set q0 (a, .inl (cA, n, .inl (aN (nup f i x))))) H1 → va_D A (ws.set q0 (a, .inl (cA, n, .inl (aN (nup f i x))))) → va_S A H0 H1 locs1 → W p l e R s m args below meth c H1 locs1 cells slots Q (F0 m (pc + 1) ls rest)) : W p l e R s m args below meth c H locs cells slots Q (F0 m pc ls (.int (nI x) :: .int (nI i) :: .ref a :: rest)) :=
  va_bast hx hb hK hP hD hS q0 t0 ha ht (vp_in_nI hi hn) hdg (by rw [nar_small h7, aN_up (Nat.lt_trans hi hn)]; exact kk)
/-- a byte array of bytes 0 .. 255 -/
theorem za_Bld (hx : p.tables.exec = Jvm.exec) (hb : c.code = cc) (hK : va_K D cl tys s) (hP : va_P D cl ws H) (q0 t0 : Nat) {cA : ClassId} {n : Nat} {f : Nat → Nat} (ha : ws[q0]? = some (a, .inl (cA, n, .inl (aB f)))) (ht : tys[t0]? = some (cA, .byte)) {i : Nat} (hi : i < n) (hn : n < 2 ^ 31) (hdg : decode cc pc = .ok (.baload, 1))
    (kk : W p l e R s m args below meth c H locs cells slots Q (F0 m (pc + 1) ls (.int (sB (f i)) :: rest))) : W p l e R s m args below meth c H locs cells slots Q (F0 m pc ls (.int (nI i) :: .ref a :: rest)) :=
  va_bald hx hb hK hP q0 t0 ha ht (vp_in_nI hi hn) hdg (by rw [aB_at (Nat.lt_trans hi hn)]; exact kk)
theorem za_Bst (hx : p.tables.exec = Jvm.exec) (hb : c.code = cc) (hK : va_K D cl tys s) (hP : va_P D cl ws H) (hD : va_D A ws) (hS : va_S A H0 H locs) (q0 t0 : Nat) {cA : ClassId} {n : Nat} {f : Nat → Nat} (ha : ws[q0]? = some (a, .inl (cA, n, .inl (aB f)))) (ht : tys[t0]? = some (cA, .byte)) {i x : Nat} (hi : i < n) (hn : n < 2 ^ 31) (hdg : decode cc pc = .ok (.bastore, 1))
    (kk : ∀ (H1 : Heap) (locs1 : List Loc), va_P D cl (ws.set q0 (a, .inl (cA, n, .inl (aB (nup f i x))))) H1 → va_D A (ws.set q0 (a, .inl (cA, n, .inl (aB (nup f i x))))) → va_S A H0 H1 locs1 → W p l e R s m args below meth c H1 locs1 cells slots Q (F0 m (pc + 1) ls rest)) : W p l e R s m args below meth c H locs cells slots Q (F0 m pc ls (.int (sB x) :: .int (nI i) :: .ref a :: rest)) :=
  va_bast hx hb hK hP hD hS q0 t0 ha ht (vp_in_nI hi hn) hdg (by rw [sB_nar, aB_up (Nat.lt_trans hi hn)]; exact kk)
/-- a table of ints that is given at the start -/
theorem za_tab (hx : p.tables.exec = Jvm.exec) (hb : c.code = cc) {t N : Nat} {f : Nat → Nat} (hT : va_T .int t N (fun j => .int (nI (f j))) A s s.heap) (hS : va_S A s.heap H locs) {i : Nat} (hi : i < N) (hn : N < 2 ^ 31) (hdg : decode cc pc = .ok (.iaload, 1))
    (kk : W p l e R s m args below meth c H locs cells slots Q (F0 m (pc + 1) ls (.int (nI (f i)) :: rest))) : W p l e R s m args below meth c H locs cells slots Q (F0 m pc ls (.int (nI i) :: .ref t :: rest)) :=
  va_ti hx hb hT hS (vp_in_nI hi hn) (by rw [nI_clamp (Nat.lt_trans hi hn)]) hdg kk
end ZA
end
