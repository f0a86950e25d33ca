/-! what is given at the start and stays: the tables, the links across the nest -/
def gT (n : String) (N : Nat) (f : Nat → Nat) (A : Nat → Prop) (U : State) : Prop := ∃ t : Nat, va_Z "CardMessages" n "[I" (.ref t) A U U.heap ∧ va_T .int t N (fun j => .int (nI (f j))) A U U.heap
theorem gT.to {n : String} {N : Nat} {f : Nat → Nat} {A B : Nat → Prop} {s U : State} {H : Heap} {locs : List Loc} (h : gT n N f A s) (hS : va_S A s.heap H locs) (hU : U.heap = H) (hvm : s.vm.Alike U.vm) (hAB : ∀ q, B q → A q) : gT n N f B U := by
  obtain ⟨t, hz, ht⟩ := h
  refine ⟨t, ?_, ?_⟩
  · rw [hU]; exact ((hz.kept hS.2.1).moved hvm).narrow hAB
  · rw [hU]; exact ((ht.kept hS.2.1).moved hvm).narrow hAB
theorem gT.call {n : String} {N : Nat} {f : Nat → Nat} {A : Nat → Prop} {U : State} {g : JFrame} {mk : MethodId} {a : Array Value} (h : gT n N f A U) : gT n N f A (U.calling g mk a) := by
  obtain ⟨t, hz, ht⟩ := h
  exact ⟨t, va_Z.moved (u := U) (U := U.calling g mk a) (Vm.Alike.refl U.vm) hz, va_T.moved (u := U) (U := U.calling g mk a) (Vm.Alike.refl U.vm) ht⟩
def gNf : List (String × Nat × String) := [(RT, 51, "FIELDS"), (RT, 65, "COUNT_DIGITS"), (RT, 68, "HAS_LETTERS"), (RD, 33, "FIRST_MARK"), (RD, 40, "MOST_MARKS"), (RR, 72, "TYPES"), (RR, 82, "KNOWN_BITS"), (RR, 42, "FIELDS"), (RR, 88, "MOST_MARKS"), (RR, 91, "COUNT_DIGITS"), (RR, 94, "HAS_LETTERS")]
def gNm : List (String × Nat × MethodName) := [(RC, 9, yD_init), (RC, 18, yT_init), (RR, 11, yD_init), (RT, 78, yC_bytesOfDigits), (RT, 55, yC_mapByte), (RT, 59, yC_mapBit), (RR, 110, yC_bytesOfDigits), (RR, 46, yC_mapByte), (RR, 55, yC_mapBit)]
/-- a static of Throwable's that holds a reference -/
def gSr (n d : String) (A : Nat → Prop) (U : State) : Prop := ∃ (c : ClassId) (k : Class) (i : Nat) (f : Field) (a : Nat) (cell : Cell) (v : Value), U.vm.findClass Bundle.tN = some c ∧ U.fieldFound? Bundle.tN n d = some (c, k, i, f) ∧ f.isStatic = true ∧ k.statics = some a ∧ U.heap[a]? = some cell ∧ cell.vm.isStatics = true ∧ cell.cls = c ∧ f.slot < cell.slots.size ∧ k.staticTypes[f.slot]? = some f.type ∧ cell.slots[f.slot]? = some v ∧ v.isRef = true ∧ ¬ A a
theorem gSr.to {n d : String} {A B : Nat → Prop} {s U : State} {H : Heap} {locs : List Loc} (h : gSr n d A s) (hS : va_S A s.heap H locs) (hU : U.heap = H) (hvm : s.vm.Alike U.vm) (hAB : ∀ q, B q → A q) : gSr n d B U := by
  obtain ⟨c, k, i, f, a, cell, v, h1, h2, h3, h4, h5, h6, h7, h8, h9, h10, h11, h12⟩ := h
  obtain ⟨k', hi', he⟩ := State.fieldFound?_setVm hvm h2
  refine ⟨c, k', i, f, a, cell, v, by rw [hvm.findClass]; exact h1, hi', h3, by rw [he]; exact h4, ?_, h6, h7, h8, by rw [he]; exact h9, h10, h11, fun z => h12 (hAB a z)⟩
  rw [hU, hS.2.1 a (Array.getElem?_eq_some_iff.mp h5).1 h12]
  exact h5
theorem gSr.call {n d : String} {A : Nat → Prop} {U : State} {g : JFrame} {mk : MethodId} {a : Array Value} (h : gSr n d A U) : gSr n d A (U.calling g mk a) := h
theorem gSr.of {n d : String} {args : Array Value} {s : State} (h1 : (Cond.laysStatic Bundle.tN n d).before args s = true) (h2 : (Cond.isRef (.static Bundle.tN n d)).before args s = true) {A : Nat → Prop} (hA : ∀ a : Nat, a < s.heap.size → ¬ A a) : gSr n d A s := by
  obtain ⟨c, k, i, f, a, cell, q1, q2, q3, q4, q5, q6, q7, q8, q9⟩ := Cond.laysStatic_spec h1
  obtain ⟨u, hu⟩ := Cond.staticRefV q2 q3 q4 q5 q6 h2
  exact ⟨c, k, i, f, a, cell, u.v, q1, q2, q3, q4, q5, q6, q7, q8, q9, hu, u.ok, hA a (Array.getElem?_eq_some_iff.mp q5).1⟩
theorem gSr.lays {n d : String} {A : Nat → Prop} {s : State} (h : gSr n d A s) (args : Array Value) : (Cond.laysStatic Bundle.tN n d).before args s = true := by
  obtain ⟨c, k, i, f, a, cell, v, h1, h2, h3, h4, h5, h6, h7, h8, h9, h10, h11, h12⟩ := h
  simp [Cond.before, Cond.holds, Cond.value, h1, h2, h3, h4, h5, h6, h7, h8, h9]
theorem gSr.ref {n d : String} {A : Nat → Prop} {s : State} (h : gSr n d A s) (args : Array Value) : (Cond.isRef (.static Bundle.tN n d)).before args s = true := by
  obtain ⟨c, k, i, f, a, cell, v, h1, h2, h3, h4, h5, h6, h7, h8, h9, h10, h11, h12⟩ := h
  have he : (Term.static Bundle.tN n d).eval args s none [] s = cell.slots[f.slot]? := by
    simp [Term.eval, State.fieldNamed?, h2, h3, h4, h5, h6]
  simp only [Cond.before, Cond.holds, Cond.value]
  rw [he, h10]
  cases v <;> first | rfl | cases h11
def gXs : List (Nat × String) := [(34, "a type is 0 .. 9999"), (55, "v is below 0 or has too many digits"), (70, "the field has no letters"), (72, "n is 0, or for a note 1 .. 40"), (79, "a part is out of its bounds"), (96, "there is no such digit or letter"), (121, "a tape has at most 400 bytes"), (127, "there are not so many bytes"), (129, "no such byte, or x is not 0 .. 255"), (138, "what is 0 or 1"), (159, "the field is not known"), (161, "the field has no digits")]
def gXd : List MethodName := [Bundle.initS "java/lang/RuntimeException", Bundle.initS "java/lang/Exception", Bundle.initS Bundle.tN]
def gXc : List String := ["java/lang/IllegalArgumentException", "java/lang/IllegalStateException"]
/-- what a throw needs -/
def gX (A : Nat → Prop) (U : State) : Prop := gSr "UNASSIGNED_STACK" Bundle.steD A U ∧ gSr "SUPPRESSED_SENTINEL" Bundle.listD A U ∧ (∀ q ∈ gXs, ∃ a, vk_R "CardMessages" q.1 q.2 a U) ∧ (∀ x ∈ gXd, va_Nw (.declares x) U) ∧ ∀ x ∈ gXc, va_Nw (.castable x x) U
theorem gX.to {A B : Nat → Prop} {s U : State} {H : Heap} {locs : List Loc} (h : gX A s) (hS : va_S A s.heap H locs) (hU : U.heap = H) (hW : s.WarmedH U.vm) (hAB : ∀ q, B q → A q) : gX B U :=
  ⟨gSr.to h.1 hS hU hW.alike hAB, gSr.to h.2.1 hS hU hW.alike hAB, fun q hq => (h.2.2.1 q hq).elim fun a ha => ⟨a, vk_R.warm hW ha⟩, fun x hx => va_Nw.warmD hW (h.2.2.2.1 x hx), fun x hx => va_Nw.warmC hW (h.2.2.2.2 x hx)⟩
theorem gX.call {A : Nat → Prop} {U : State} {g : JFrame} {mk : MethodId} {a : Array Value} (h : gX A U) : gX A (U.calling g mk a) :=
  ⟨gSr.call h.1, gSr.call h.2.1, fun q hq => (h.2.2.1 q hq).elim fun b hb => ⟨b, vk_R.same (u := U) rfl hb⟩, fun x hx => va_Nw.same rfl rfl (h.2.2.2.1 x hx), fun x hx => va_Nw.same rfl rfl (h.2.2.2.2 x hx)⟩
def gS (A : Nat → Prop) (U : State) : Prop := gT "FIELDS" 16 fFI A U ∧ gT "MOST_MARKS" 16 fMM A U ∧ gT "COUNT_DIGITS" 16 fCD A U ∧ gT "HAS_LETTERS" 16 fHL A U ∧ gT "FIRST_MARK" 16 fFM A U ∧ gT "TYPES" 17 fTY A U ∧ gT "KNOWN_BITS" 16 fKB A U ∧ (∀ q ∈ gNf, va_Nw (.fieldLinkNest q.1 q.2.1 "CardMessages" q.2.2 "[I" "CardMessages") U) ∧ (∀ q ∈ gNm, va_Nw (.methodLinkNest q.1 q.2.1 q.2.2 "CardMessages") U) ∧ gX A U
theorem gS.FIELDS {A : Nat → Prop} {U : State} (h : gS A U) : gT "FIELDS" 16 fFI A U := h.1
theorem gS.MOST_MARKS {A : Nat → Prop} {U : State} (h : gS A U) : gT "MOST_MARKS" 16 fMM A U := h.2.1
theorem gS.COUNT_DIGITS {A : Nat → Prop} {U : State} (h : gS A U) : gT "COUNT_DIGITS" 16 fCD A U := h.2.2.1
theorem gS.HAS_LETTERS {A : Nat → Prop} {U : State} (h : gS A U) : gT "HAS_LETTERS" 16 fHL A U := h.2.2.2.1
theorem gS.FIRST_MARK {A : Nat → Prop} {U : State} (h : gS A U) : gT "FIRST_MARK" 16 fFM A U := h.2.2.2.2.1
theorem gS.TYPES {A : Nat → Prop} {U : State} (h : gS A U) : gT "TYPES" 17 fTY A U := h.2.2.2.2.2.1
theorem gS.KNOWN_BITS {A : Nat → Prop} {U : State} (h : gS A U) : gT "KNOWN_BITS" 16 fKB A U := h.2.2.2.2.2.2.1
theorem gS.nf {A : Nat → Prop} {U : State} (h : gS A U) : ∀ q ∈ gNf, va_Nw (.fieldLinkNest q.1 q.2.1 "CardMessages" q.2.2 "[I" "CardMessages") U := h.2.2.2.2.2.2.2.1
theorem gS.nm {A : Nat → Prop} {U : State} (h : gS A U) : ∀ q ∈ gNm, va_Nw (.methodLinkNest q.1 q.2.1 q.2.2 "CardMessages") U := h.2.2.2.2.2.2.2.2.1
theorem gS.x {A : Nat → Prop} {U : State} (h : gS A U) : gX A U := h.2.2.2.2.2.2.2.2.2
theorem gS.to {A B : Nat → Prop} {s U : State} {H : Heap} {locs : List Loc} (h : gS A s) (hS : va_S A s.heap H locs) (hU : U.heap = H) (hW : s.WarmedH U.vm) (hAB : ∀ q, B q → A q) : gS B U :=
  ⟨gT.to h.FIELDS hS hU hW.alike hAB, gT.to h.MOST_MARKS hS hU hW.alike hAB, gT.to h.COUNT_DIGITS hS hU hW.alike hAB, gT.to h.HAS_LETTERS hS hU hW.alike hAB, gT.to h.FIRST_MARK hS hU hW.alike hAB, gT.to h.TYPES hS hU hW.alike hAB, gT.to h.KNOWN_BITS hS hU hW.alike hAB, fun q hq => va_Nw.warmF hW (h.nf q hq), fun q hq => va_Nw.warmM hW (h.nm q hq), gX.to h.x hS hU hW hAB⟩
theorem gS.call {A : Nat → Prop} {U : State} {g : JFrame} {mk : MethodId} {a : Array Value} (h : gS A U) : gS A (U.calling g mk a) :=
  ⟨gT.call h.FIELDS, gT.call h.MOST_MARKS, gT.call h.COUNT_DIGITS, gT.call h.HAS_LETTERS, gT.call h.FIRST_MARK, gT.call h.TYPES, gT.call h.KNOWN_BITS, fun q hq => va_Nw.same rfl rfl (h.nf q hq), fun q hq => va_Nw.same rfl rfl (h.nm q hq), gX.call h.x⟩
/-! a callee's words, out of the one list -/
theorem gC {y : MethodName} {cc : ByteArray} {maxL : Nat} {ret : Option FieldType} (h5 : (.code y cc maxL ret : Cond) ∈ BIG) : GoodIn BIG (.code y cc maxL ret :: BIG) := fun w h => big_gi w ((List.mem_cons.mp h).elim (fun e => e ▸ h5) id)
theorem gV {own C : String} {idx : Nat} {y : MethodName} {cc : ByteArray} {maxL : Nat} {ret : Option FieldType} (h1 : (.methodLink own idx y : Cond) ∈ BIG) (h2 : (.instanceMethod y : Cond) ∈ BIG) (h3 : (.selects C y y : Cond) ∈ BIG) (h4 : (.initialized C : Cond) ∈ BIG) (h5 : (.code y cc maxL ret : Cond) ∈ BIG) : GoodIn BIG (wsV own idx C y (.code y cc maxL ret :: BIG)) := fun w h => by
  rcases List.mem_append.mp h with h | h
  · simp only [List.mem_cons, List.not_mem_nil, or_false] at h
    rcases h with rfl | rfl | rfl | rfl
    · exact big_gi _ h1
    · exact big_gi _ h2
    · exact big_gi _ h3
    · exact big_gi _ h4
  · exact gC h5 w h
theorem gSt {own : String} {idx : Nat} {y : MethodName} {cc : ByteArray} {maxL : Nat} {ret : Option FieldType} (h1 : (.methodLink own idx y : Cond) ∈ BIG) (h2 : (.static y : Cond) ∈ BIG) (h4 : (.initialized y.cls : Cond) ∈ BIG) (h5 : (.code y cc maxL ret : Cond) ∈ BIG) : GoodIn BIG (va_wsS own idx y (.code y cc maxL ret :: BIG)) := fun w h => by
  rcases List.mem_append.mp h with h | h
  · simp only [List.mem_cons, List.not_mem_nil, or_false] at h
    rcases h with rfl | rfl | rfl
    · exact big_gi _ h1
    · exact big_gi _ h2
    · exact big_gi _ h4
  · exact gC h5 w h
/-! contracts' starts and ends in a few shapes, and calls over them. zR: a method that reads (the heap stays); zM: a method that writes its world; T: one that may throw (the heap stays but for the exception) -/
abbrev zNo : Nat → Prop := fun _ => False
abbrev zNew (sz : Nat) : Nat → Prop := fun q => sz ≤ q
def zR (D : va_G) (tys : List (ClassId × FieldType)) (av : List Value) (ws : va_W) (Hc : Heap) : Array Value → State → Prop := va_Pc av (fun U => U.heap = Hc ∧ gS zNo U ∧ va_P D vwCl ws Hc ∧ va_K D vwCl tys U)
def zM (D : va_G) (tys : List (ClassId × FieldType)) (av : List Value) (ws : va_W) (sz : Nat) : Array Value → State → Prop := va_Pc av (fun U => U.heap.size = sz ∧ gS (va_A ws sz) U ∧ va_P D vwCl ws U.heap ∧ va_K D vwCl tys U ∧ va_D (fun _ => True) ws)
/-- reads, may throw -/
def zT (D : va_G) (tys : List (ClassId × FieldType)) (av : List Value) (ws : va_W) (Hc : Heap) : Array Value → State → Prop := va_Pc av (fun U => U.heap = Hc ∧ gS (zNew Hc.size) U ∧ va_P D vwCl ws Hc ∧ va_K D vwCl tys U)
abbrev zRi (Hc : Heap) (post : Int32 → Prop) : Array Value → State → Outcome → State → Prop := va_Qi (fun r (_ : Unit) => post r) (fun _ t => t.heap = Hc) zNo
abbrev zRl (Hc : Heap) (post : Int64 → Prop) : Array Value → State → Outcome → State → Prop := va_Ql (fun r (_ : Unit) => post r) (fun _ t => t.heap = Hc) zNo
abbrev zMv (D : va_G) (ws ws' : va_W) (sz : Nat) (post : Prop) : Array Value → State → Outcome → State → Prop := va_Qv (fun _ : Unit => post) (fun _ t => va_P D vwCl ws' t.heap ∧ va_D (va_A ws sz) ws') (va_A ws sz)
abbrev zMi (D : va_G) (ws ws' : va_W) (sz : Nat) (post : Int32 → Prop) : Array Value → State → Outcome → State → Prop := va_Qi (fun r (_ : Unit) => post r) (fun _ t => va_P D vwCl ws' t.heap ∧ va_D (va_A ws sz) ws') (va_A ws sz)
/-- the same, with what comes of it told by a value u -/
abbrev zSi {S : Type} (D : va_G) (ws : va_W) (sz : Nat) (post : Int32 → S → Prop) (wsF : S → va_W) : Array Value → State → Outcome → State → Prop := va_Qi post (fun u t => va_P D vwCl (wsF u) t.heap ∧ va_D (va_A ws sz) (wsF u)) (va_A ws sz)
abbrev zSv {S : Type} (D : va_G) (ws : va_W) (sz : Nat) (post : S → Prop) (wsF : S → va_W) : Array Value → State → Outcome → State → Prop := va_Qv post (fun u t => va_P D vwCl (wsF u) t.heap ∧ va_D (va_A ws sz) (wsF u)) (va_A ws sz)
theorem zR_blind {D : va_G} {tys : List (ClassId × FieldType)} {av : List Value} {ws : va_W} {Hc : Heap} : FrameBlind (zR D tys av ws Hc) := fun a U g mk q => by
  obtain ⟨q0, q1, qG, qP, qK⟩ := q
  exact ⟨q0, q1, gS.call qG, qP, va_K.moved (u := U) (U := U.calling g mk a) (Vm.Alike.refl U.vm) qK⟩
theorem zT_blind {D : va_G} {tys : List (ClassId × FieldType)} {av : List Value} {ws : va_W} {Hc : Heap} : FrameBlind (zT D tys av ws Hc) := fun a U g mk q => by
  obtain ⟨q0, q1, qG, qP, qK⟩ := q
  exact ⟨q0, q1, gS.call qG, qP, va_K.moved (u := U) (U := U.calling g mk a) (Vm.Alike.refl U.vm) qK⟩
theorem zM_blind {D : va_G} {tys : List (ClassId × FieldType)} {av : List Value} {ws : va_W} {sz : Nat} : FrameBlind (zM D tys av ws sz) := fun a U g mk q => by
  obtain ⟨q0, q1, qG, qP, qK, qD⟩ := q
  exact ⟨q0, q1, gS.call qG, qP, va_K.moved (u := U) (U := U.calling g mk a) (Vm.Alike.refl U.vm) qK, qD⟩
section ZP
variable {s : State} {H : Heap} {locs : List Loc} {D : va_G} {A : Nat → Prop} {tys : List (ClassId × FieldType)} {av As : List Value} {ws : va_W} {b ci q0 : Nat} {qc : vw_C} {fs : List Value}
theorem zR_S (hG : gS A s) (hS : va_S A s.heap H locs) (hP : va_P D vwCl ws H) (hK : va_K D vwCl tys s) : PreS s H (zR D tys av ws H) av := ⟨zR_blind, fun _ hU hW => ⟨rfl, hU, gS.to hG hS hU hW (fun _ h => h.elim), hP, va_K.moved hW.alike hK⟩⟩
theorem zR_V (hG : gS A s) (hS : va_S A s.heap H locs) (hP : va_P D vwCl ws H) (hK : va_K D vwCl tys s) (q0 : Nat) (hc : vwCl[ci]? = some qc) (he : ws[q0]? = some (b, .inr (ci, fs))) : PreV s H qc.1 b (zR D tys (.ref b :: As) ws H) As := ⟨zR_blind, va_recv hK hP hc he, fun _ hU hW => ⟨rfl, hU, gS.to hG hS hU hW (fun _ h => h.elim), hP, va_K.moved hW.alike hK⟩⟩
theorem zT_S (hG : gS A s) (hA : ∀ q, s.heap.size ≤ q → A q) (hS : va_S A s.heap H locs) (hP : va_P D vwCl ws H) (hK : va_K D vwCl tys s) : PreS s H (zT D tys av ws H) av := ⟨zT_blind, fun _ hU hW => ⟨rfl, hU, gS.to hG hS hU hW (fun q h => hA q (Nat.le_trans hS.1 h)), hP, va_K.moved hW.alike hK⟩⟩
theorem zT_V (hG : gS A s) (hA : ∀ q, s.heap.size ≤ q → A q) (hS : va_S A s.heap H locs) (hP : va_P D vwCl ws H) (hK : va_K D vwCl tys s) (q0 : Nat) (hc : vwCl[ci]? = some qc) (he : ws[q0]? = some (b, .inr (ci, fs))) : PreV s H qc.1 b (zT D tys (.ref b :: As) ws H) As := ⟨zT_blind, va_recv hK hP hc he, fun _ hU hW => ⟨rfl, hU, gS.to hG hS hU hW (fun q h => hA q (Nat.le_trans hS.1 h)), hP, va_K.moved hW.alike hK⟩⟩
theorem zM_S (hG : gS A s) (hS : va_S A s.heap H locs) (hF : ∀ q, va_A ws H.size q → A q) (hP : va_P D vwCl ws H) (hD : va_D A ws) (hK : va_K D vwCl tys s) : PreS s H (zM D tys av ws H.size) av := ⟨zM_blind, fun _ hU hW => ⟨rfl, by rw [hU], gS.to hG hS hU hW hF, by rw [hU]; exact hP, va_K.moved hW.alike hK, hD.weaken (fun _ _ _ _ => trivial)⟩⟩
theorem zM_V (hG : gS A s) (hS : va_S A s.heap H locs) (hF : ∀ q, va_A ws H.size q → A q) (hP : va_P D vwCl ws H) (hD : va_D A ws) (hK : va_K D vwCl tys s) (q0 : Nat) (hc : vwCl[ci]? = some qc) (he : ws[q0]? = some (b, .inr (ci, fs))) : PreV s H qc.1 b (zM D tys (.ref b :: As) ws H.size) As := ⟨zM_blind, va_recv hK hP hc he, fun _ hU hW => ⟨rfl, by rw [hU], gS.to hG hS hU hW hF, by rw [hU]; exact hP, va_K.moved hW.alike hK, hD.weaken (fun _ _ _ _ => trivial)⟩⟩
end ZP
section ZC
variable {p : Program} {l : Launch} {e : Env} {R : Room} {s : State} {m : MethodId} {args : Array Value} {below : List Frame} {meth : Method} {c : Code} {H : Heap} {locs : List Loc} {cells slots : Nat} {Q : State → Prop}
variable {pc : Nat} {ls : Array Slot} {rest st0 : List Value} {a : Array Value} {A0 : Nat → Prop} {H0 : Heap} {mc ms : Nat} {D : va_G} {ws ws' : va_W}
theorem zc_Ri {post : Int32 → Prop} (hr : va_Run p l e R s m args below meth c H locs cells slots 0 0 (F0 m pc ls st0) rest (zRi H post a) zNo) (hS : va_S A0 H0 H locs)
    (kk : ∀ (r : Int32) (locs1 : List Loc), post r → va_S A0 H0 H locs1 → W p l e R s m args below meth c H locs1 cells slots Q (F0 m (pc + 3) ls (.int r :: rest))) : W p l e R s m args below meth c H locs cells slots Q (F0 m pc ls st0) :=
  va_calli hr hS (fun _ _ h => h.elim) (fun _ h => h.elim) (fun r _ t H1 locs1 ht _ hp hB _ _ hS1 => by
    have e9 : H = H1 := hB.symm.trans ht
    subst e9
    exact kk r locs1 hp hS1)
theorem zc_Rl {post : Int64 → Prop} (hr : va_Run p l e R s m args below meth c H locs cells slots 0 0 (F0 m pc ls st0) rest (zRl H post a) zNo) (hS : va_S A0 H0 H locs)
    (kk : ∀ (r : Int64) (locs1 : List Loc), post r → va_S A0 H0 H locs1 → W p l e R s m args below meth c H locs1 cells slots Q (F0 m (pc + 3) ls (.long r :: rest))) : W p l e R s m args below meth c H locs cells slots Q (F0 m pc ls st0) :=
  va_calll hr hS (fun _ _ h => h.elim) (fun _ h => h.elim) (fun r _ t H1 locs1 ht _ hp hB _ _ hS1 => by
    have e9 : H = H1 := hB.symm.trans ht
    subst e9
    exact kk r locs1 hp hS1)
theorem zc_Mv {post : Prop} (hr : va_Run p l e R s m args below meth c H locs cells slots mc ms (F0 m pc ls st0) rest (zMv D ws ws' H.size post a) (va_A ws H.size)) (hS : va_S A0 H0 H locs) (hF : ∀ q, va_A ws H.size q → A0 q)
    (kk : ∀ (H1 : Heap) (locs1 : List Loc), post → va_P D vwCl ws' H1 → va_D (va_A ws H.size) ws' → (∀ q : Nat, q < H.size → ¬ va_A ws H.size q → H1[q]? = H[q]?) → va_S A0 H0 H1 locs1 → W p l e R s m args below meth c H1 locs1 (cells + mc) (slots + ms) Q (F0 m (pc + 3) ls rest)) : W p l e R s m args below meth c H locs cells slots Q (F0 m pc ls st0) :=
  va_callv hr hS (fun q _ h => hF q h) hF (fun _ t H1 locs1 ht _ hp hB _ hk hS1 => kk H1 locs1 hp (by rw [← ht]; exact hB.1) hB.2 hk hS1)
theorem zc_Mi {post : Int32 → Prop} (hr : va_Run p l e R s m args below meth c H locs cells slots mc ms (F0 m pc ls st0) rest (zMi D ws ws' H.size post a) (va_A ws H.size)) (hS : va_S A0 H0 H locs) (hF : ∀ q, va_A ws H.size q → A0 q)
    (kk : ∀ (r : Int32) (H1 : Heap) (locs1 : List Loc), post r → va_P D vwCl ws' H1 → va_D (va_A ws H.size) ws' → (∀ q : Nat, q < H.size → ¬ va_A ws H.size q → H1[q]? = H[q]?) → va_S A0 H0 H1 locs1 → W p l e R s m args below meth c H1 locs1 (cells + mc) (slots + ms) Q (F0 m (pc + 3) ls (.int r :: rest))) : W p l e R s m args below meth c H locs cells slots Q (F0 m pc ls st0) :=
  va_calli hr hS (fun q _ h => hF q h) hF (fun r _ t H1 locs1 ht _ hp hB _ hk hS1 => kk r H1 locs1 hp (by rw [← ht]; exact hB.1) hB.2 hk hS1)
theorem zc_Si {S : Type} {post : Int32 → S → Prop} {wsF : S → va_W} (hr : va_Run p l e R s m args below meth c H locs cells slots mc ms (F0 m pc ls st0) rest (zSi D ws H.size post wsF a) (va_A ws H.size)) (hS : va_S A0 H0 H locs) (hF : ∀ q, va_A ws H.size q → A0 q)
    (kk : ∀ (r : Int32) (u : S) (H1 : Heap) (locs1 : List Loc), post r u → va_P D vwCl (wsF u) H1 → va_D (va_A ws H.size) (wsF u) → (∀ q : Nat, q < H.size → ¬ va_A ws H.size q → H1[q]? = H[q]?) → va_S A0 H0 H1 locs1 → W p l e R s m args below meth c H1 locs1 (cells + mc) (slots + ms) Q (F0 m (pc + 3) ls (.int r :: rest))) : W p l e R s m args below meth c H locs cells slots Q (F0 m pc ls st0) :=
  va_calli hr hS (fun q _ h => hF q h) hF (fun r u t H1 locs1 ht _ hp hB _ hk hS1 => kk r u H1 locs1 hp (by rw [← ht]; exact hB.1) hB.2 hk hS1)
theorem zc_Sv {S : Type} {post : S → Prop} {wsF : S → va_W} (hr : va_Run p l e R s m args below meth c H locs cells slots mc ms (F0 m pc ls st0) rest (zSv D ws H.size post wsF a) (va_A ws H.size)) (hS : va_S A0 H0 H locs) (hF : ∀ q, va_A ws H.size q → A0 q)
    (kk : ∀ (u : S) (H1 : Heap) (locs1 : List Loc), post u → va_P D vwCl (wsF u) H1 → va_D (va_A ws H.size) (wsF u) → (∀ q : Nat, q < H.size → ¬ va_A ws H.size q → H1[q]? = H[q]?) → va_S A0 H0 H1 locs1 → W p l e R s m args below meth c H1 locs1 (cells + mc) (slots + ms) Q (F0 m (pc + 3) ls rest)) : W p l e R s m args below meth c H locs cells slots Q (F0 m pc ls st0) :=
  va_callv hr hS (fun q _ h => hF q h) hF (fun u t H1 locs1 ht _ hp hB _ hk hS1 => kk u H1 locs1 hp (by rw [← ht]; exact hB.1) hB.2 hk hS1)
end ZC
