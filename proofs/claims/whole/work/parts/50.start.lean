/-! what the start gives -/
def lwF : List Cond := flatC (Jvm.Cond.and given_1 narrow_1)
theorem gm_FIELDS : ∀ j, j < 16 → (Cond.eq (.elem (.static "CardMessages" "FIELDS" "[I") (.int (Int32.ofNat j))) (.int (nI (fFI j)))) ∈ lwF := by decide +kernel
theorem gt_FIELDS {args : Array Value} {s : State} {A : Nat → Prop} (hts : ∀ w ∈ lw_tbl, w.before args s = true) (hw : ∀ w ∈ BIG, w.before args s = true) (hq : ∀ w ∈ lwF, w.before args s = true) (hA : ∀ a : Nat, a < s.heap.size → ¬ A a) : gT "FIELDS" 16 fFI A s := by
  obtain ⟨t, ht, hT⟩ := va_Tof (tm := (.static "CardMessages" "FIELDS" "[I")) (ty := .int) (N := 16) (f := fun j => .int (nI (fFI j))) (A := A) (by decide) (hq _ (by decide +kernel)) (va_eqt (hq (.eq (.length (.static "CardMessages" "FIELDS" "[I")) (.int (Int32.ofNat 16))) (by decide +kernel))) (fun j hj => va_eqt (hq _ (gm_FIELDS j hj))) hA
  exact ⟨t, va_Zof (hts _ (tb_1 (List.mem_of_getElem? (i := 146) rfl))) (hw _ w_in_C) ht hA, hT⟩
theorem gm_MOST_MARKS : ∀ j, j < 16 → (Cond.eq (.elem (.static "CardMessages" "MOST_MARKS" "[I") (.int (Int32.ofNat j))) (.int (nI (fMM j)))) ∈ lwF := by decide +kernel
theorem gt_MOST_MARKS {args : Array Value} {s : State} {A : Nat → Prop} (hts : ∀ w ∈ lw_tbl, w.before args s = true) (hw : ∀ w ∈ BIG, w.before args s = true) (hq : ∀ w ∈ lwF, w.before args s = true) (hA : ∀ a : Nat, a < s.heap.size → ¬ A a) : gT "MOST_MARKS" 16 fMM A s := by
  obtain ⟨t, ht, hT⟩ := va_Tof (tm := (.static "CardMessages" "MOST_MARKS" "[I")) (ty := .int) (N := 16) (f := fun j => .int (nI (fMM j))) (A := A) (by decide) (hq _ (by decide +kernel)) (va_eqt (hq (.eq (.length (.static "CardMessages" "MOST_MARKS" "[I")) (.int (Int32.ofNat 16))) (by decide +kernel))) (fun j hj => va_eqt (hq _ (gm_MOST_MARKS j hj))) hA
  exact ⟨t, va_Zof (hts _ (tb_2 (List.mem_of_getElem? (i := 5) rfl))) (hw _ w_in_C) ht hA, hT⟩
theorem gm_COUNT_DIGITS : ∀ j, j < 16 → (Cond.eq (.elem (.static "CardMessages" "COUNT_DIGITS" "[I") (.int (Int32.ofNat j))) (.int (nI (fCD j)))) ∈ lwF := by decide +kernel
theorem gt_COUNT_DIGITS {args : Array Value} {s : State} {A : Nat → Prop} (hts : ∀ w ∈ lw_tbl, w.before args s = true) (hw : ∀ w ∈ BIG, w.before args s = true) (hq : ∀ w ∈ lwF, w.before args s = true) (hA : ∀ a : Nat, a < s.heap.size → ¬ A a) : gT "COUNT_DIGITS" 16 fCD A s := by
  obtain ⟨t, ht, hT⟩ := va_Tof (tm := (.static "CardMessages" "COUNT_DIGITS" "[I")) (ty := .int) (N := 16) (f := fun j => .int (nI (fCD j))) (A := A) (by decide) (hq _ (by decide +kernel)) (va_eqt (hq (.eq (.length (.static "CardMessages" "COUNT_DIGITS" "[I")) (.int (Int32.ofNat 16))) (by decide +kernel))) (fun j hj => va_eqt (hq _ (gm_COUNT_DIGITS j hj))) hA
  exact ⟨t, va_Zof (hts _ (tb_1 (List.mem_of_getElem? (i := 163) rfl))) (hw _ w_in_C) ht hA, hT⟩
theorem gm_HAS_LETTERS : ∀ j, j < 16 → (Cond.eq (.elem (.static "CardMessages" "HAS_LETTERS" "[I") (.int (Int32.ofNat j))) (.int (nI (fHL j)))) ∈ lwF := by decide +kernel
theorem gt_HAS_LETTERS {args : Array Value} {s : State} {A : Nat → Prop} (hts : ∀ w ∈ lw_tbl, w.before args s = true) (hw : ∀ w ∈ BIG, w.before args s = true) (hq : ∀ w ∈ lwF, w.before args s = true) (hA : ∀ a : Nat, a < s.heap.size → ¬ A a) : gT "HAS_LETTERS" 16 fHL A s := by
  obtain ⟨t, ht, hT⟩ := va_Tof (tm := (.static "CardMessages" "HAS_LETTERS" "[I")) (ty := .int) (N := 16) (f := fun j => .int (nI (fHL j))) (A := A) (by decide) (hq _ (by decide +kernel)) (va_eqt (hq (.eq (.length (.static "CardMessages" "HAS_LETTERS" "[I")) (.int (Int32.ofNat 16))) (by decide +kernel))) (fun j hj => va_eqt (hq _ (gm_HAS_LETTERS j hj))) hA
  exact ⟨t, va_Zof (hts _ (tb_1 (List.mem_of_getElem? (i := 165) rfl))) (hw _ w_in_C) ht hA, hT⟩
theorem gm_FIRST_MARK : ∀ j, j < 16 → (Cond.eq (.elem (.static "CardMessages" "FIRST_MARK" "[I") (.int (Int32.ofNat j))) (.int (nI (fFM j)))) ∈ lwF := by decide +kernel
theorem gt_FIRST_MARK {args : Array Value} {s : State} {A : Nat → Prop} (hts : ∀ w ∈ lw_tbl, w.before args s = true) (hw : ∀ w ∈ BIG, w.before args s = true) (hq : ∀ w ∈ lwF, w.before args s = true) (hA : ∀ a : Nat, a < s.heap.size → ¬ A a) : gT "FIRST_MARK" 16 fFM A s := by
  obtain ⟨t, ht, hT⟩ := va_Tof (tm := (.static "CardMessages" "FIRST_MARK" "[I")) (ty := .int) (N := 16) (f := fun j => .int (nI (fFM j))) (A := A) (by decide) (hq _ (by decide +kernel)) (va_eqt (hq (.eq (.length (.static "CardMessages" "FIRST_MARK" "[I")) (.int (Int32.ofNat 16))) (by decide +kernel))) (fun j hj => va_eqt (hq _ (gm_FIRST_MARK j hj))) hA
  exact ⟨t, va_Zof (hts _ (tb_1 (List.mem_of_getElem? (i := 175) rfl))) (hw _ w_in_C) ht hA, hT⟩
theorem gm_TYPES : ∀ j, j < 17 → (Cond.eq (.elem (.static "CardMessages" "TYPES" "[I") (.int (Int32.ofNat j))) (.int (nI (fTY j)))) ∈ lwF := by decide +kernel
theorem gt_TYPES {args : Array Value} {s : State} {A : Nat → Prop} (hts : ∀ w ∈ lw_tbl, w.before args s = true) (hw : ∀ w ∈ BIG, w.before args s = true) (hq : ∀ w ∈ lwF, w.before args s = true) (hA : ∀ a : Nat, a < s.heap.size → ¬ A a) : gT "TYPES" 17 fTY A s := by
  obtain ⟨t, ht, hT⟩ := va_Tof (tm := (.static "CardMessages" "TYPES" "[I")) (ty := .int) (N := 17) (f := fun j => .int (nI (fTY j))) (A := A) (by decide) (hq _ (by decide +kernel)) (va_eqt (hq (.eq (.length (.static "CardMessages" "TYPES" "[I")) (.int (Int32.ofNat 17))) (by decide +kernel))) (fun j hj => va_eqt (hq _ (gm_TYPES j hj))) hA
  exact ⟨t, va_Zof (hts _ (tb_1 (List.mem_of_getElem? (i := 222) rfl))) (hw _ w_in_C) ht hA, hT⟩
theorem gm_KNOWN_BITS : ∀ j, j < 16 → (Cond.eq (.elem (.static "CardMessages" "KNOWN_BITS" "[I") (.int (Int32.ofNat j))) (.int (nI (fKB j)))) ∈ lwF := by decide +kernel
theorem gt_KNOWN_BITS {args : Array Value} {s : State} {A : Nat → Prop} (hts : ∀ w ∈ lw_tbl, w.before args s = true) (hw : ∀ w ∈ BIG, w.before args s = true) (hq : ∀ w ∈ lwF, w.before args s = true) (hA : ∀ a : Nat, a < s.heap.size → ¬ A a) : gT "KNOWN_BITS" 16 fKB A s := by
  obtain ⟨t, ht, hT⟩ := va_Tof (tm := (.static "CardMessages" "KNOWN_BITS" "[I")) (ty := .int) (N := 16) (f := fun j => .int (nI (fKB j))) (A := A) (by decide) (hq _ (by decide +kernel)) (va_eqt (hq (.eq (.length (.static "CardMessages" "KNOWN_BITS" "[I")) (.int (Int32.ofNat 16))) (by decide +kernel))) (fun j hj => va_eqt (hq _ (gm_KNOWN_BITS j hj))) hA
  exact ⟨t, va_Zof (hts _ (tb_1 (List.mem_of_getElem? (i := 232) rfl))) (hw _ w_in_C) ht hA, hT⟩
theorem gx_str {args : Array Value} {s : State} {k : Nat} {tx : String} (h1 : (Cond.stringRef "CardMessages" k tx).before args s = true) (h2 : (Cond.exactly (.string "CardMessages" k) "java/lang/String").before args s = true) : ∃ a, vk_R "CardMessages" k tx a s := by
  obtain ⟨a, c, cA, kA, q1, -⟩ := Cond.exactly_spec (args := args) (first := s) (o := none) (s := s) (idx := []) (t := .string "CardMessages" k) (cls := "java/lang/String") h2
  exact ⟨a, vk_R.of h1 q1⟩
set_option maxRecDepth 20000 in
theorem gs_of {args : Array Value} {s : State} {A : Nat → Prop} (hts : ∀ w ∈ lw_tbl, w.before args s = true) (hw : ∀ w ∈ BIG, w.before args s = true) (hq : ∀ w ∈ lwF, w.before args s = true) (hA : ∀ a : Nat, a < s.heap.size → ¬ A a) : gS A s := by
  refine ⟨gt_FIELDS hts hw hq hA, gt_MOST_MARKS hts hw hq hA, gt_COUNT_DIGITS hts hw hq hA, gt_HAS_LETTERS hts hw hq hA, gt_FIRST_MARK hts hw hq hA, gt_TYPES hts hw hq hA, gt_KNOWN_BITS hts hw hq hA, ?_, ?_, gSr.of (hts _ (tb_2 (List.mem_of_getElem? (i := 65) rfl))) (hq _ (by decide +kernel)) hA, gSr.of (hts _ (tb_2 (List.mem_of_getElem? (i := 67) rfl))) (hq _ (by decide +kernel)) hA, ?_, ?_, ?_⟩
  · refine List.forall_mem_cons.mpr ⟨va_Nw.of rfl (hts _ (tb_1 (List.mem_of_getElem? (i := 145) rfl))), ?_⟩
    refine List.forall_mem_cons.mpr ⟨va_Nw.of rfl (hts _ (tb_1 (List.mem_of_getElem? (i := 162) rfl))), ?_⟩
    refine List.forall_mem_cons.mpr ⟨va_Nw.of rfl (hts _ (tb_1 (List.mem_of_getElem? (i := 164) rfl))), ?_⟩
    refine List.forall_mem_cons.mpr ⟨va_Nw.of rfl (hts _ (tb_1 (List.mem_of_getElem? (i := 174) rfl))), ?_⟩
    refine List.forall_mem_cons.mpr ⟨va_Nw.of rfl (hts _ (tb_2 (List.mem_of_getElem? (i := 166) rfl))), ?_⟩
    refine List.forall_mem_cons.mpr ⟨va_Nw.of rfl (hts _ (tb_1 (List.mem_of_getElem? (i := 221) rfl))), ?_⟩
    refine List.forall_mem_cons.mpr ⟨va_Nw.of rfl (hts _ (tb_1 (List.mem_of_getElem? (i := 231) rfl))), ?_⟩
    refine List.forall_mem_cons.mpr ⟨va_Nw.of rfl (hts _ (tb_1 (List.mem_of_getElem? (i := 237) rfl))), ?_⟩
    refine List.forall_mem_cons.mpr ⟨va_Nw.of rfl (hts _ (tb_2 (List.mem_of_getElem? (i := 4) rfl))), ?_⟩
    refine List.forall_mem_cons.mpr ⟨va_Nw.of rfl (hts _ (tb_2 (List.mem_of_getElem? (i := 6) rfl))), ?_⟩
    refine List.forall_mem_cons.mpr ⟨va_Nw.of rfl (hts _ (tb_2 (List.mem_of_getElem? (i := 7) rfl))), ?_⟩
    exact fun _ h9 => absurd h9 List.not_mem_nil
  · refine List.forall_mem_cons.mpr ⟨va_Nw.of rfl (hts _ (tb_1 (List.mem_of_getElem? (i := 23) rfl))), ?_⟩
    refine List.forall_mem_cons.mpr ⟨va_Nw.of rfl (hts _ (tb_1 (List.mem_of_getElem? (i := 46) rfl))), ?_⟩
    refine List.forall_mem_cons.mpr ⟨va_Nw.of rfl (hts _ (tb_1 (List.mem_of_getElem? (i := 66) rfl))), ?_⟩
    refine List.forall_mem_cons.mpr ⟨va_Nw.of rfl (hts _ (tb_1 (List.mem_of_getElem? (i := 127) rfl))), ?_⟩
    refine List.forall_mem_cons.mpr ⟨va_Nw.of rfl (hts _ (tb_1 (List.mem_of_getElem? (i := 152) rfl))), ?_⟩
    refine List.forall_mem_cons.mpr ⟨va_Nw.of rfl (hts _ (tb_1 (List.mem_of_getElem? (i := 155) rfl))), ?_⟩
    refine List.forall_mem_cons.mpr ⟨va_Nw.of rfl (hts _ (tb_1 (List.mem_of_getElem? (i := 200) rfl))), ?_⟩
    refine List.forall_mem_cons.mpr ⟨va_Nw.of rfl (hts _ (tb_1 (List.mem_of_getElem? (i := 238) rfl))), ?_⟩
    refine List.forall_mem_cons.mpr ⟨va_Nw.of rfl (hts _ (tb_1 (List.mem_of_getElem? (i := 239) rfl))), ?_⟩
    exact fun _ h9 => absurd h9 List.not_mem_nil
  · refine List.forall_mem_cons.mpr ⟨gx_str (hts _ (tb_2 (List.mem_of_getElem? (i := 78) rfl))) (hq _ (by decide +kernel)), ?_⟩
    refine List.forall_mem_cons.mpr ⟨gx_str (hts _ (tb_2 (List.mem_of_getElem? (i := 127) rfl))) (hq _ (by decide +kernel)), ?_⟩
    refine List.forall_mem_cons.mpr ⟨gx_str (hts _ (tb_2 (List.mem_of_getElem? (i := 146) rfl))) (hq _ (by decide +kernel)), ?_⟩
    refine List.forall_mem_cons.mpr ⟨gx_str (hts _ (tb_2 (List.mem_of_getElem? (i := 147) rfl))) (hq _ (by decide +kernel)), ?_⟩
    refine List.forall_mem_cons.mpr ⟨gx_str (hts _ (tb_2 (List.mem_of_getElem? (i := 161) rfl))) (hq _ (by decide +kernel)), ?_⟩
    refine List.forall_mem_cons.mpr ⟨gx_str (hts _ (tb_2 (List.mem_of_getElem? (i := 189) rfl))) (hq _ (by decide +kernel)), ?_⟩
    refine List.forall_mem_cons.mpr ⟨gx_str (hts _ (tb_2 (List.mem_of_getElem? (i := 224) rfl))) (hq _ (by decide +kernel)), ?_⟩
    refine List.forall_mem_cons.mpr ⟨gx_str (hts _ (tb_2 (List.mem_of_getElem? (i := 239) rfl))) (hq _ (by decide +kernel)), ?_⟩
    refine List.forall_mem_cons.mpr ⟨gx_str (hts _ (tb_3 (List.mem_of_getElem? (i := 7) rfl))) (hq _ (by decide +kernel)), ?_⟩
    refine List.forall_mem_cons.mpr ⟨gx_str (hts _ (tb_3 (List.mem_of_getElem? (i := 17) rfl))) (hq _ (by decide +kernel)), ?_⟩
    refine List.forall_mem_cons.mpr ⟨gx_str (hts _ (tb_2 (List.mem_of_getElem? (i := 119) rfl))) (hq _ (by decide +kernel)), ?_⟩
    refine List.forall_mem_cons.mpr ⟨gx_str (hts _ (tb_2 (List.mem_of_getElem? (i := 121) rfl))) (hq _ (by decide +kernel)), ?_⟩
    exact fun _ h9 => absurd h9 List.not_mem_nil
  · refine List.forall_mem_cons.mpr ⟨va_Nw.of rfl (hts _ (tb_2 (List.mem_of_getElem? (i := 42) rfl))), ?_⟩
    refine List.forall_mem_cons.mpr ⟨va_Nw.of rfl (hts _ (tb_2 (List.mem_of_getElem? (i := 44) rfl))), ?_⟩
    refine List.forall_mem_cons.mpr ⟨va_Nw.of rfl (hts _ (tb_2 (List.mem_of_getElem? (i := 46) rfl))), ?_⟩
    exact fun _ h9 => absurd h9 List.not_mem_nil
  · refine List.forall_mem_cons.mpr ⟨va_Nw.of rfl (hts _ (tb_2 (List.mem_of_getElem? (i := 40) rfl))), ?_⟩
    refine List.forall_mem_cons.mpr ⟨va_Nw.of rfl (hts _ (tb_2 (List.mem_of_getElem? (i := 217) rfl))), ?_⟩
    exact fun _ h9 => absurd h9 List.not_mem_nil
theorem lw_arr {args : Array Value} {s : State} {ty : FieldType} (h : (Cond.arrayClass ty).before args s = true) (hp : ∀ (cA : ClassId), s.vm.findClass ("[" ++ ty.toString) = some cA → va_RA s cA ty) : ∃ cA : ClassId, ArrOfT s cA ty ∧ va_RA s cA ty := by
  obtain ⟨cA, kA, comp, h1, h2, h3⟩ := Cond.arrayClass_spec h
  exact ⟨cA, fun n z => ⟨fun k h => (by cases h), kA, h2, comp, h3⟩, hp cA h1⟩
theorem lw_K {args : Array Value} {s : State} (hw : ∀ w ∈ BIG, w.before args s = true) : ∃ (dC : Nat → ClassId) (dI : Nat → Nat → Nat) (cI cB cL : ClassId), va_K (dC, dI) vwCl [(cI, .int), (cB, .byte), (cL, .long)] s := by
  obtain ⟨cI, i1, i2⟩ := lw_arr (hw _ w_ac_int) (fun _ h => h)
  obtain ⟨cB, b1, b2⟩ := lw_arr (hw _ w_ac_byte) (fun _ h => h)
  obtain ⟨cL, l1, l2⟩ := lw_arr (hw _ w_ac_long) (fun _ h => h)
  obtain ⟨c0, j0, k0⟩ := u_known (C := RD) (T := TD) (N := 3) (n := 3) hw inD (hw _ w_is_D)
  obtain ⟨c1, j1, k1⟩ := u_known (C := RR) (T := TR) (N := 6) (n := 6) hw inR (hw _ w_is_R)
  obtain ⟨c2, j2, k2⟩ := u_known (C := RT) (T := TT) (N := 2) (n := 2) hw inT (hw _ w_is_T)
  obtain ⟨c3, j3, k3⟩ := u_known (C := RC) (T := TC) (N := 3) (n := 3) hw inC (hw _ w_is_C)
  obtain ⟨c4, j4, k4⟩ := u_known (C := RM) (T := TM) (N := 17) (n := 17) hw inM (hw _ w_is_M)
  refine ⟨fun k => if k = 0 then c0 else if k = 1 then c1 else if k = 2 then c2 else if k = 3 then c3 else c4, fun k => if k = 0 then j0 else if k = 1 then j1 else if k = 2 then j2 else if k = 3 then j3 else j4, cI, cB, cL, fun k q hq => ?_, fun k q hq => ?_⟩
  · match k, hq with
    | 0, hq => cases hq; exact k0
    | 1, hq => cases hq; exact k1
    | 2, hq => cases hq; exact k2
    | 3, hq => cases hq; exact k3
    | 4, hq => cases hq; exact k4
    | k + 5, hq => simp [vwCl] at hq
  · match k, hq with
    | 0, hq => cases hq; exact ⟨i1, i2⟩
    | 1, hq => cases hq; exact ⟨b1, b2⟩
    | 2, hq => cases hq; exact ⟨l1, l2⟩
    | k + 3, hq => simp at hq
theorem SAM.init : SAM 800 (fun _ => 0) (fun _ => 0) 0 (fun _ => 0) (zc (fun _ => 1) 16) (fun _ => 0) :=
  ⟨⟨by decide, fun j _ => Nat.zero_le _, fun _ => show (0 : Nat) < 128 by decide, fun sl _ _ j hj => absurd hj (Nat.not_lt_zero _)⟩, by decide, fun _ => show (0 : Nat) < 256 by decide, fun j hj => by show (if j < 16 then 0 else 1) = _; rw [if_pos hj]; rfl, fun f _ k hk => absurd hk (Nat.not_lt_zero _)⟩
section ZNL
variable {p : Program} {l : Launch} {e : Env} {R : Room} {s : State} {m : MethodId} {args : Array Value} {below : List Frame} {meth : Method} {c : Code} {H H0 : Heap} {locs : List Loc} {cells slots : Nat} {Q : State → Prop}
variable {cc : ByteArray} {pc : Nat} {ls : Array Slot} {rest : List Value} {D : va_G} {cl : List vw_C} {ws : va_W} {tys : List (ClassId × FieldType)} {A : Nat → Prop}
theorem za_newl (hexec : p.tables.exec = Jvm.exec) (hb : c.code = cc) {atype : ArrayType} (harr : (Cond.arrayClass .long).before args s = true) (hty : newarray.typeOf atype = .long) (hK : va_K D cl tys s) (hP : va_P D cl ws H) (hD : va_D A ws) (hS : va_S A H0 H locs) (hA : ∀ q, H0.size ≤ q → A q)
    (t0 : Nat) {cA : ClassId} (ht : tys[t0]? = some (cA, .long)) (hcells : cells + 1 ≤ R.cells) (hslots : slots + 1 ≤ R.slots) (hdg : decode cc pc = .ok (.newarray atype, 2))
    (kk : ∀ (q : Nat) (H1 : Heap), va_P D cl (ws ++ [(q, .inl (cA, 1, .inr (.inl (fun _ => 0))))]) H1 → va_D A (ws ++ [(q, .inl (cA, 1, .inr (.inl (fun _ => 0))))]) → va_S A H0 H1 locs →
      W p l e R s m args below meth c H1 locs (cells + 1) (slots + 1) Q (F0 m (pc + 2) ls (.ref q :: rest))) : W p l e R s m args below meth c H locs cells slots Q (F0 m pc ls (.int (nI 1) :: rest)) := by
  refine va_newa hexec hb (by rw [hty]; exact harr) hty hK hP hD hS hA (a0 := (1, .inr (.inl (fun _ => 0)))) (fun _ => rfl) (by decide) (by decide) (by decide) hcells hslots hdg (fun q cA2 H1 hK1 hP1 hD1 hS1 => ?_)
  have e1 := (hK1.2 tys.length (cA2, .long) (by simp)).2
  have e2 := (hK.2 t0 _ ht).2
  have e3 : cA2 = cA := Option.some.inj ((show _ = some cA2 from e1).symm.trans e2)
  subst e3
  exact kk q H1 hP1 hD1 hS1
end ZNL
