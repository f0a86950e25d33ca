def rm_x_knownSlot : Room := ({ frames := 6, cells := 1, slots := 6, locals := 91 } : Room)
set_option maxHeartbeats 4000000 in
set_option maxRecDepth 100000 in
theorem x_knownSlot (l : Launch) (dC : Nat → ClassId) (dI : Nat → Nat → Nat) (cI : ClassId) (cB : ClassId) (x9 : Int32) (hx9 : ∀ j, j < 16 → nI (fFI j) ≠ x9) (hfl : l.flags = pinnedFlags ++ [noTraceFlag]) (Hc : Heap) : XMet l yC_knownSlot wsC_knownSlot rm_x_knownSlot (zT (dC, dI) [(cI, .int), (cB, .byte)] [.int x9] [] Hc) "java/lang/IllegalArgumentException" 1 6 := by
  refine XMet.ofW (cc := cC_knownSlot) (maxL := 2) (ret := (some .int)) (by decide) rfl ?_
  intro p e s m args below meth c s₁ Bd hml hno hv
  obtain ⟨rfl, hH, hG, hP, hK⟩ := hv
  subst hH
  have hx := Bd.exec
  have hb := Bd.bytes
  have hr := Bd.returns
  have hts := atoms_spec (ws := wsC_knownSlot) Bd.pre
  have hw : ∀ w ∈ BIG, w.before _ s = true := fun w h => hts w (List.mem_cons_of_mem _ h)
  have hown : s.vm.findClass RC = some m.cls := findClass_of_methodNamed Bd.named
  have hlocks := Bd.notSynchronized
  obtain ⟨A, hAe⟩ : ∃ A, A = zNew s.heap.size := ⟨_, rfl⟩
  have hA : ∀ q : Nat, s.heap.size ≤ q → A q := fun q h => by rw [hAe]; exact h
  rw [← hAe] at hG
  have hS : va_S A s.heap s.heap [] := va_S.rf
  have hl := lv_entry ([.int x9]) (n := 2) (Nat.le_of_ble_eq_true rfl)
  rw [lg_entry_eq]
  generalize (lg_sl ([.int x9]) ++ List.replicate (2 - (lg_sl ([.int x9])).length) Slot.unset).toArray = ls at hl ⊢
  have hl : lv_has ls 2 [(0, .int x9)] := hl
  refine zq_name (fun Q hQ => ?_)
  change W p l e rm_x_knownSlot s m _ below meth c _ _ _ _ Q _
  obtain ⟨tfFI, zfFI, afFI⟩ := hG.FIELDS
  refine lv_iconst (v := nI 0) hx hb dC_knownSlot_0 (by decide) ?_
  refine lv_istore_n (lv' := [(1, .int (nI 0)), (0, .int x9)]) hx hb dC_knownSlot_1 rfl hl (by decide) rfl (fun ls hl => ?_)
  have lp_2 : ∀ (fu : Nat) (j : Nat) (hj : j ≤ 16) (hms : 16 - j < fu) (locs : List Loc) (ls : Array Slot), lv_has ls 2 [(0, .int x9), (1, .int (nI j))] → va_S A s.heap s.heap locs → W p l e rm_x_knownSlot s m ([.int x9] : List Value).toArray below meth c s.heap locs 0 0 Q (F0 m 2 ls []) := by
    intro fu
    induction fu with
    | zero => intro j hj hms; exact absurd hms (Nat.not_lt_zero _)
    | succ fu ih2 =>
      intro j hj hms locs ls hl hS
      refine lv_iload_n hx hb dC_knownSlot_2 rfl (lv_at hl 1 rfl) ?_
      refine lv_bipush (v := nI 16) hx hb dC_knownSlot_3 (by decide) ?_
      refine zi_ge (tgt := 25) hx hb (by omega) (by omega) dC_knownSlot_5 (by decide) (fun c_5 => ?_) (fun c_5 => ?_)
      · obtain ⟨q9, hZ9⟩ := hG.x.2.2.1 (159, "the field is not known") (List.mem_of_getElem? (i := 10) rfl)
        subst hQ; exact zx_throw hx hb hml hl.1 hfl hown (hw _ w_cl_C_32) (hw _ w_is_IllegalArgumentException) (hw _ w_in_IllegalArgumentException) hZ9 (by decide) nX_fit (oa_I hw hG.x) hno hlocks hS.1 (fun q h9 => by have := hS.2.2 q h9; rw [hAe] at this; exact this) dC_knownSlot_25 dC_knownSlot_28 dC_knownSlot_29 dC_knownSlot_31 dC_knownSlot_34 (by decide) (by decide) (by decide) (by decide)
      · refine va_gets hx hb zfFI hS hown (hw _ w_fl_C_156) (fun _ h9 => h9) dC_knownSlot_8 ?_
        refine lv_iload_n hx hb dC_knownSlot_11 rfl (lv_at hl 1 rfl) ?_
        refine za_tab hx hb afFI hS (by omega) (by decide) dC_knownSlot_12 ?_
        refine lv_iload_n hx hb dC_knownSlot_13 rfl (lv_at hl 0 rfl) ?_
        refine lv_icmp_ne (tgt := 19) hx hb dC_knownSlot_14 (by decide) (fun c_14 => ?_) (fun q => False.elim ((hx9 j (by omega) q)))
        refine lv_iinc (v := nI (j + 1)) (lv' := [(1, .int (nI (j + 1))), (0, .int x9)]) hx hb dC_knownSlot_19 hl (k := 1) rfl (zi_incr j 1) (by decide) rfl (fun ls hl => ?_)
        refine lv_goto (tgt := 2) hx hb dC_knownSlot_22 (by decide) ?_
        exact ih2 (j + 1) (by omega) (by omega) _ _ (lv_sub hl [1, 0] rfl) hS
  exact lp_2 ((16 - 0) + 1) 0 (by omega) (Nat.lt_succ_self _) _ _ (lv_sub hl [1, 0] rfl) hS
def rm_x_digitSlot_1 : Room := ({ frames := 7, cells := 1, slots := 6, locals := 112 } : Room)
set_option maxHeartbeats 4000000 in
set_option maxRecDepth 100000 in
theorem x_digitSlot_1 (l : Launch) (dC : Nat → ClassId) (dI : Nat → Nat → Nat) (cI : ClassId) (cB : ClassId) (x9 : Int32) (hx9 : ∀ j, j < 16 → nI (fFI j) ≠ x9) (hfl : l.flags = pinnedFlags ++ [noTraceFlag]) (Hc : Heap) : XMet l yC_digitSlot wsC_digitSlot rm_x_digitSlot_1 (zT (dC, dI) [(cI, .int), (cB, .byte)] [.int x9] [] Hc) "java/lang/IllegalArgumentException" 1 6 := by
  refine XMet.ofW (cc := cC_digitSlot) (maxL := 2) (ret := (some .int)) (by decide) rfl ?_
  intro p e s m args below meth c s₁ Bd hml hno hv
  obtain ⟨rfl, hH, hG, hP, hK⟩ := hv
  subst hH
  have hx := Bd.exec
  have hb := Bd.bytes
  have hr := Bd.returns
  have hts := atoms_spec (ws := wsC_digitSlot) Bd.pre
  have hw : ∀ w ∈ BIG, w.before _ s = true := fun w h => hts w (List.mem_cons_of_mem _ h)
  have hown : s.vm.findClass RC = some m.cls := findClass_of_methodNamed Bd.named
  have hlocks := Bd.notSynchronized
  obtain ⟨A, hAe⟩ : ∃ A, A = zNew s.heap.size := ⟨_, rfl⟩
  have hA : ∀ q : Nat, s.heap.size ≤ q → A q := fun q h => by rw [hAe]; exact h
  rw [← hAe] at hG
  have hS : va_S A s.heap s.heap [] := va_S.rf
  have hl := lv_entry ([.int x9]) (n := 2) (Nat.le_of_ble_eq_true rfl)
  rw [lg_entry_eq]
  generalize (lg_sl ([.int x9]) ++ List.replicate (2 - (lg_sl ([.int x9])).length) Slot.unset).toArray = ls at hl ⊢
  have hl : lv_has ls 2 [(0, .int x9)] := hl
  refine zq_name (fun Q hQ => ?_)
  change W p l e rm_x_digitSlot_1 s m _ below meth c _ _ _ _ Q _
  obtain ⟨tfHL, zfHL, afHL⟩ := hG.HAS_LETTERS
  refine lv_iload_n hx hb dC_digitSlot_0 rfl (lv_at hl 0 rfl) ?_
  refine zx_runS (As := [.int x9]) (rest := []) ⟨hx, hb, hml, hown, hw⟩ (x_knownSlot l dC dI cI cB x9 hx9 hfl s.heap) (va_cwS 1 hw (gSt w_ml_C_64 w_st_C_knownSlot w_in_C w_co_C_knownSlot) rfl rfl rfl (by decide +kernel) ⟨Nat.le_of_ble_eq_true rfl, Nat.le_of_ble_eq_true rfl⟩) (zT_S hG hA hS (hP.sub (ws' := []) [] rfl) hK) rfl rfl hl.1 rfl (lv_room (Nat.le_of_ble_eq_true rfl)) dC_digitSlot_1 ⟨Nat.le_of_ble_eq_true rfl, Nat.le_of_ble_eq_true rfl⟩ (fun xa9 ce H9 hz9 hk9 hx1 hx2 hx3 => ?_)
  subst hAe; subst hQ; exact zx_out hno hlocks rfl rfl rfl hS.2.2 hx1 hx2 hx3
def rm_x_digitSlot_2 : Room := ({ frames := 7, cells := 1, slots := 6, locals := 112 } : Room)
set_option maxHeartbeats 4000000 in
set_option maxRecDepth 100000 in
theorem x_digitSlot_2 (l : Launch) (dC : Nat → ClassId) (dI : Nat → Nat → Nat) (cI : ClassId) (cB : ClassId) (k : Nat) (hk : k < 16) (hh : fHL k ≠ 0) (hfl : l.flags = pinnedFlags ++ [noTraceFlag]) (Hc : Heap) : XMet l yC_digitSlot wsC_digitSlot rm_x_digitSlot_2 (zT (dC, dI) [(cI, .int), (cB, .byte)] [.int (nI (fFI k))] [] Hc) "java/lang/IllegalArgumentException" 1 6 := by
  refine XMet.ofW (cc := cC_digitSlot) (maxL := 2) (ret := (some .int)) (by decide) rfl ?_
  intro p e s m args below meth c s₁ Bd hml hno hv
  obtain ⟨rfl, hH, hG, hP, hK⟩ := hv
  subst hH
  have hx := Bd.exec
  have hb := Bd.bytes
  have hr := Bd.returns
  have hts := atoms_spec (ws := wsC_digitSlot) Bd.pre
  have hw : ∀ w ∈ BIG, w.before _ s = true := fun w h => hts w (List.mem_cons_of_mem _ h)
  have hown : s.vm.findClass RC = some m.cls := findClass_of_methodNamed Bd.named
  have hlocks := Bd.notSynchronized
  obtain ⟨A, hAe⟩ : ∃ A, A = zNew s.heap.size := ⟨_, rfl⟩
  have hA : ∀ q : Nat, s.heap.size ≤ q → A q := fun q h => by rw [hAe]; exact h
  rw [← hAe] at hG
  have hS : va_S A s.heap s.heap [] := va_S.rf
  have hl := lv_entry ([.int (nI (fFI k))]) (n := 2) (Nat.le_of_ble_eq_true rfl)
  rw [lg_entry_eq]
  generalize (lg_sl ([.int (nI (fFI k))]) ++ List.replicate (2 - (lg_sl ([.int (nI (fFI k))])).length) Slot.unset).toArray = ls at hl ⊢
  have hl : lv_has ls 2 [(0, .int (nI (fFI k)))] := hl
  refine zq_name (fun Q hQ => ?_)
  change W p l e rm_x_digitSlot_2 s m _ below meth c _ _ _ _ Q _
  obtain ⟨tfHL, zfHL, afHL⟩ := hG.HAS_LETTERS
  have hh9 := fHL_b k hk
  refine lv_iload_n hx hb dC_digitSlot_0 rfl (lv_at hl 0 rfl) ?_
  refine zc_Ri (va_runS (As := [.int (nI (fFI k))]) (rest := []) ⟨hx, hb, hml, hown, hw⟩ (c_knownSlot_ok l dC dI cI cB k (by omega) s.heap) (va_cwS 1 hw (gSt w_ml_C_64 w_st_C_knownSlot w_in_C w_co_C_knownSlot) rfl rfl rfl (by decide +kernel) ⟨Nat.le_of_ble_eq_true rfl, Nat.le_of_ble_eq_true rfl⟩) (zR_S hG hS (hP.sub (ws' := []) [] rfl) hK) rfl rfl hl.1 rfl (lv_room (Nat.le_of_ble_eq_true rfl)) dC_digitSlot_1 ⟨Nat.le_of_ble_eq_true rfl, Nat.le_of_ble_eq_true rfl⟩) hS (fun r_1 locs h_1 hS => ?_)
  subst h_1
  refine lv_istore_n (lv' := [(1, .int (nI k)), (0, .int (nI (fFI k)))]) hx hb dC_digitSlot_4 rfl hl (by decide) rfl (fun ls hl => ?_)
  refine va_gets hx hb zfHL hS hown (hw _ w_fl_C_67) (fun _ h9 => h9) dC_digitSlot_5 ?_
  refine lv_iload_n hx hb dC_digitSlot_8 rfl (lv_at hl 0 rfl) ?_
  refine za_tab hx hb afHL hS (by omega) (by decide) dC_digitSlot_9 ?_
  refine zi_eq0 (tgt := 23) hx hb (by omega) dC_digitSlot_10 (by decide) (fun q => False.elim ((hh q))) (fun c_10 => ?_)
  obtain ⟨q9, hZ9⟩ := hG.x.2.2.1 (161, "the field has no digits") (List.mem_of_getElem? (i := 11) rfl)
  subst hQ; exact zx_throw hx hb hml hl.1 hfl hown (hw _ w_cl_C_32) (hw _ w_is_IllegalArgumentException) (hw _ w_in_IllegalArgumentException) hZ9 (by decide) nX_fit (oa_I hw hG.x) hno hlocks hS.1 (fun q h9 => by have := hS.2.2 q h9; rw [hAe] at this; exact this) dC_digitSlot_13 dC_digitSlot_16 dC_digitSlot_17 dC_digitSlot_19 dC_digitSlot_22 (by decide) (by decide) (by decide) (by decide)
def rm_x_message : Room := ({ frames := 6, cells := 1, slots := 6, locals := 91 } : Room)
set_option maxHeartbeats 4000000 in
set_option maxRecDepth 100000 in
theorem x_message (l : Launch) (dC : Nat → ClassId) (dI : Nat → Nat → Nat) (x0 : Nat) (h0 : Nat) (t0 : Nat) (r0 : Nat) (cI : ClassId) (cB : ClassId) (x9 : Int32) (hx9 : x9 < 0 ∨ nI 9999 < x9) (hfl : l.flags = pinnedFlags ++ [noTraceFlag]) (Hc : Heap) : XMet l yC_message wsC_message rm_x_message (zT (dC, dI) [(cI, .int), (cB, .byte)] [.ref x0, .int x9] [(x0, .inr (3, [.ref h0, .ref t0, .ref r0]))] Hc) "java/lang/IllegalArgumentException" 1 6 := by
  refine XMet.ofW (cc := cC_message) (maxL := 2) (ret := none) (by decide) rfl ?_
  intro p e s m args below meth c s₁ Bd hml hno hv
  obtain ⟨rfl, hH, hG, hP, hK⟩ := hv
  subst hH
  have hx := Bd.exec
  have hb := Bd.bytes
  have hr := Bd.returns
  have hts := atoms_spec (ws := wsC_message) Bd.pre
  have hw : ∀ w ∈ BIG, w.before _ s = true := fun w h => hts w (List.mem_cons_of_mem _ h)
  have hown : s.vm.findClass RC = some m.cls := findClass_of_methodNamed Bd.named
  have hlocks := Bd.notSynchronized
  obtain ⟨A, hAe⟩ : ∃ A, A = zNew s.heap.size := ⟨_, rfl⟩
  have hA : ∀ q : Nat, s.heap.size ≤ q → A q := fun q h => by rw [hAe]; exact h
  rw [← hAe] at hG
  have hS : va_S A s.heap s.heap [] := va_S.rf
  have hl := lv_entry ([.ref x0, .int x9]) (n := 2) (Nat.le_of_ble_eq_true rfl)
  rw [lg_entry_eq]
  generalize (lg_sl ([.ref x0, .int x9]) ++ List.replicate (2 - (lg_sl ([.ref x0, .int x9])).length) Slot.unset).toArray = ls at hl ⊢
  have hl : lv_has ls 2 [(0, .ref x0), (1, .int x9)] := hl
  refine zq_name (fun Q hQ => ?_)
  change W p l e rm_x_message s m _ below meth c _ _ _ _ Q _
  refine lv_iload_n hx hb dC_message_0 rfl (lv_at hl 1 rfl) ?_
  refine lv_if_lt (tgt := 11) hx hb dC_message_1 (by decide) (fun c_1 => ?_) (fun c_1 => ?_)
  · obtain ⟨q9, hZ9⟩ := hG.x.2.2.1 (34, "a type is 0 .. 9999") (List.mem_of_getElem? (i := 0) rfl)
    subst hQ; exact zx_throw hx hb hml hl.1 hfl hown (hw _ w_cl_C_32) (hw _ w_is_IllegalArgumentException) (hw _ w_in_IllegalArgumentException) hZ9 (by decide) nX_fit (oa_I hw hG.x) hno hlocks hS.1 (fun q h9 => by have := hS.2.2 q h9; rw [hAe] at this; exact this) dC_message_11 dC_message_14 dC_message_15 dC_message_17 dC_message_20 (by decide) (by decide) (by decide) (by decide)
  · refine lv_iload_n hx hb dC_message_4 rfl (lv_at hl 1 rfl) ?_
    refine lv_sipush (v := nI 9999) hx hb dC_message_5 (by decide) ?_
    refine lv_icmp_le (tgt := 21) hx hb dC_message_8 (by decide) (fun q => False.elim ((hx9.elim c_1 (fun h9 => absurd q (Int32.not_le.mpr h9))))) (fun c_8 => ?_)
    obtain ⟨q9, hZ9⟩ := hG.x.2.2.1 (34, "a type is 0 .. 9999") (List.mem_of_getElem? (i := 0) rfl)
    subst hQ; exact zx_throw hx hb hml hl.1 hfl hown (hw _ w_cl_C_32) (hw _ w_is_IllegalArgumentException) (hw _ w_in_IllegalArgumentException) hZ9 (by decide) nX_fit (oa_I hw hG.x) hno hlocks hS.1 (fun q h9 => by have := hS.2.2 q h9; rw [hAe] at this; exact this) dC_message_11 dC_message_14 dC_message_15 dC_message_17 dC_message_20 (by decide) (by decide) (by decide) (by decide)
def rm_x_digits_1 : Room := ({ frames := 8, cells := 1, slots := 6, locals := 133 } : Room)
set_option maxHeartbeats 4000000 in
set_option maxRecDepth 100000 in
theorem x_digits_1 (l : Launch) (dC : Nat → ClassId) (dI : Nat → Nat → Nat) (x0 : Nat) (h0 : Nat) (t0 : Nat) (r0 : Nat) (cI : ClassId) (cB : ClassId) (x9 : Int32) (v : Int64) (hx9 : ∀ j, j < 16 → nI (fFI j) ≠ x9) (hfl : l.flags = pinnedFlags ++ [noTraceFlag]) (Hc : Heap) : XMet l yC_digits wsC_digits rm_x_digits_1 (zT (dC, dI) [(cI, .int), (cB, .byte)] [.ref x0, .int x9, .long v] [(x0, .inr (3, [.ref h0, .ref t0, .ref r0]))] Hc) "java/lang/IllegalArgumentException" 1 6 := by
  refine XMet.ofW (cc := cC_digits) (maxL := 6) (ret := none) (by decide) rfl ?_
  intro p e s m args below meth c s₁ Bd hml hno hv
  obtain ⟨rfl, hH, hG, hP, hK⟩ := hv
  subst hH
  have hx := Bd.exec
  have hb := Bd.bytes
  have hr := Bd.returns
  have hts := atoms_spec (ws := wsC_digits) Bd.pre
  have hw : ∀ w ∈ BIG, w.before _ s = true := fun w h => hts w (List.mem_cons_of_mem _ h)
  have hown : s.vm.findClass RC = some m.cls := findClass_of_methodNamed Bd.named
  have hlocks := Bd.notSynchronized
  obtain ⟨A, hAe⟩ : ∃ A, A = zNew s.heap.size := ⟨_, rfl⟩
  have hA : ∀ q : Nat, s.heap.size ≤ q → A q := fun q h => by rw [hAe]; exact h
  rw [← hAe] at hG
  have hS : va_S A s.heap s.heap [] := va_S.rf
  have hl := lv_entry ([.ref x0, .int x9, .long v]) (n := 6) (Nat.le_of_ble_eq_true rfl)
  rw [lg_entry_eq]
  generalize (lg_sl ([.ref x0, .int x9, .long v]) ++ List.replicate (6 - (lg_sl ([.ref x0, .int x9, .long v])).length) Slot.unset).toArray = ls at hl ⊢
  have hl : lv_has ls 6 [(0, .ref x0), (1, .int x9), (2, .long v)] := hl
  refine zq_name (fun Q hQ => ?_)
  change W p l e rm_x_digits_1 s m _ below meth c _ _ _ _ Q _
  obtain ⟨tfMM, zfMM, afMM⟩ := hG.MOST_MARKS
  obtain ⟨tfCD, zfCD, afCD⟩ := hG.COUNT_DIGITS
  refine lv_iload_n hx hb dC_digits_0 rfl (lv_at hl 1 rfl) ?_
  refine zx_runS (As := [.int x9]) (rest := []) ⟨hx, hb, hml, hown, hw⟩ (x_digitSlot_1 l dC dI cI cB x9 hx9 hfl s.heap) (va_cwS 1 hw (gSt w_ml_C_43 w_st_C_digitSlot w_in_C w_co_C_digitSlot) rfl rfl rfl (by decide +kernel) ⟨Nat.le_of_ble_eq_true rfl, Nat.le_of_ble_eq_true rfl⟩) (zT_S hG hA hS (hP.sub (ws' := []) [] rfl) hK) rfl rfl hl.1 rfl (lv_room (Nat.le_of_ble_eq_true rfl)) dC_digits_1 ⟨Nat.le_of_ble_eq_true rfl, Nat.le_of_ble_eq_true rfl⟩ (fun xa9 ce H9 hz9 hk9 hx1 hx2 hx3 => ?_)
  subst hAe; subst hQ; exact zx_out hno hlocks rfl rfl rfl hS.2.2 hx1 hx2 hx3
def rm_x_digits_2 : Room := ({ frames := 8, cells := 1, slots := 6, locals := 133 } : Room)
set_option maxHeartbeats 4000000 in
set_option maxRecDepth 100000 in
theorem x_digits_2 (l : Launch) (dC : Nat → ClassId) (dI : Nat → Nat → Nat) (x0 : Nat) (h0 : Nat) (t0 : Nat) (r0 : Nat) (cI : ClassId) (cB : ClassId) (k : Nat) (v : Int64) (hk : k < 16) (hh : fHL k ≠ 0) (hfl : l.flags = pinnedFlags ++ [noTraceFlag]) (Hc : Heap) : XMet l yC_digits wsC_digits rm_x_digits_2 (zT (dC, dI) [(cI, .int), (cB, .byte)] [.ref x0, .int (nI (fFI k)), .long v] [(x0, .inr (3, [.ref h0, .ref t0, .ref r0]))] Hc) "java/lang/IllegalArgumentException" 1 6 := by
  refine XMet.ofW (cc := cC_digits) (maxL := 6) (ret := none) (by decide) rfl ?_
  intro p e s m args below meth c s₁ Bd hml hno hv
  obtain ⟨rfl, hH, hG, hP, hK⟩ := hv
  subst hH
  have hx := Bd.exec
  have hb := Bd.bytes
  have hr := Bd.returns
  have hts := atoms_spec (ws := wsC_digits) Bd.pre
  have hw : ∀ w ∈ BIG, w.before _ s = true := fun w h => hts w (List.mem_cons_of_mem _ h)
  have hown : s.vm.findClass RC = some m.cls := findClass_of_methodNamed Bd.named
  have hlocks := Bd.notSynchronized
  obtain ⟨A, hAe⟩ : ∃ A, A = zNew s.heap.size := ⟨_, rfl⟩
  have hA : ∀ q : Nat, s.heap.size ≤ q → A q := fun q h => by rw [hAe]; exact h
  rw [← hAe] at hG
  have hS : va_S A s.heap s.heap [] := va_S.rf
  have hl := lv_entry ([.ref x0, .int (nI (fFI k)), .long v]) (n := 6) (Nat.le_of_ble_eq_true rfl)
  rw [lg_entry_eq]
  generalize (lg_sl ([.ref x0, .int (nI (fFI k)), .long v]) ++ List.replicate (6 - (lg_sl ([.ref x0, .int (nI (fFI k)), .long v])).length) Slot.unset).toArray = ls at hl ⊢
  have hl : lv_has ls 6 [(0, .ref x0), (1, .int (nI (fFI k))), (2, .long v)] := hl
  refine zq_name (fun Q hQ => ?_)
  change W p l e rm_x_digits_2 s m _ below meth c _ _ _ _ Q _
  obtain ⟨tfMM, zfMM, afMM⟩ := hG.MOST_MARKS
  obtain ⟨tfCD, zfCD, afCD⟩ := hG.COUNT_DIGITS
  refine lv_iload_n hx hb dC_digits_0 rfl (lv_at hl 1 rfl) ?_
  refine zx_runS (As := [.int (nI (fFI k))]) (rest := []) ⟨hx, hb, hml, hown, hw⟩ (x_digitSlot_2 l dC dI cI cB k (by omega) hh hfl s.heap) (va_cwS 1 hw (gSt w_ml_C_43 w_st_C_digitSlot w_in_C w_co_C_digitSlot) rfl rfl rfl (by decide +kernel) ⟨Nat.le_of_ble_eq_true rfl, Nat.le_of_ble_eq_true rfl⟩) (zT_S hG hA hS (hP.sub (ws' := []) [] rfl) hK) rfl rfl hl.1 rfl (lv_room (Nat.le_of_ble_eq_true rfl)) dC_digits_1 ⟨Nat.le_of_ble_eq_true rfl, Nat.le_of_ble_eq_true rfl⟩ (fun xa9 ce H9 hz9 hk9 hx1 hx2 hx3 => ?_)
  subst hAe; subst hQ; exact zx_out hno hlocks rfl rfl rfl hS.2.2 hx1 hx2 hx3
def rm_x_digits_3 : Room := ({ frames := 8, cells := 1, slots := 6, locals := 133 } : Room)
set_option maxHeartbeats 4000000 in
set_option maxRecDepth 100000 in
theorem x_digits_3 (l : Launch) (dC : Nat → ClassId) (dI : Nat → Nat → Nat) (x0 : Nat) (h0 : Nat) (t0 : Nat) (r0 : Nat) (cI : ClassId) (cB : ClassId) (k : Nat) (v : Int64) (hk : k < 16) (hh : fHL k = 0) (hv : v < 0) (hfl : l.flags = pinnedFlags ++ [noTraceFlag]) (Hc : Heap) : XMet l yC_digits wsC_digits rm_x_digits_3 (zT (dC, dI) [(cI, .int), (cB, .byte)] [.ref x0, .int (nI (fFI k)), .long v] [(x0, .inr (3, [.ref h0, .ref t0, .ref r0]))] Hc) "java/lang/IllegalArgumentException" 1 6 := by
  refine XMet.ofW (cc := cC_digits) (maxL := 6) (ret := none) (by decide) rfl ?_
  intro p e s m args below meth c s₁ Bd hml hno hv
  obtain ⟨rfl, hH, hG, hP, hK⟩ := hv
  subst hH
  have hx := Bd.exec
  have hb := Bd.bytes
  have hr := Bd.returns
  have hts := atoms_spec (ws := wsC_digits) Bd.pre
  have hw : ∀ w ∈ BIG, w.before _ s = true := fun w h => hts w (List.mem_cons_of_mem _ h)
  have hown : s.vm.findClass RC = some m.cls := findClass_of_methodNamed Bd.named
  have hlocks := Bd.notSynchronized
  obtain ⟨A, hAe⟩ : ∃ A, A = zNew s.heap.size := ⟨_, rfl⟩
  have hA : ∀ q : Nat, s.heap.size ≤ q → A q := fun q h => by rw [hAe]; exact h
  rw [← hAe] at hG
  have hS : va_S A s.heap s.heap [] := va_S.rf
  have hl := lv_entry ([.ref x0, .int (nI (fFI k)), .long v]) (n := 6) (Nat.le_of_ble_eq_true rfl)
  rw [lg_entry_eq]
  generalize (lg_sl ([.ref x0, .int (nI (fFI k)), .long v]) ++ List.replicate (6 - (lg_sl ([.ref x0, .int (nI (fFI k)), .long v])).length) Slot.unset).toArray = ls at hl ⊢
  have hl : lv_has ls 6 [(0, .ref x0), (1, .int (nI (fFI k))), (2, .long v)] := hl
  refine zq_name (fun Q hQ => ?_)
  change W p l e rm_x_digits_3 s m _ below meth c _ _ _ _ Q _
  obtain ⟨tfMM, zfMM, afMM⟩ := hG.MOST_MARKS
  obtain ⟨tfCD, zfCD, afCD⟩ := hG.COUNT_DIGITS
  refine lv_iload_n hx hb dC_digits_0 rfl (lv_at hl 1 rfl) ?_
  refine zc_Ri (va_runS (As := [.int (nI (fFI k))]) (rest := []) ⟨hx, hb, hml, hown, hw⟩ (c_digitSlot_ok l dC dI cI cB k (by omega) hh s.heap) (va_cwS 1 hw (gSt w_ml_C_43 w_st_C_digitSlot w_in_C w_co_C_digitSlot) rfl rfl rfl (by decide +kernel) ⟨Nat.le_of_ble_eq_true rfl, Nat.le_of_ble_eq_true rfl⟩) (zR_S hG hS (hP.sub (ws' := []) [] rfl) hK) rfl rfl hl.1 rfl (lv_room (Nat.le_of_ble_eq_true rfl)) dC_digits_1 ⟨Nat.le_of_ble_eq_true rfl, Nat.le_of_ble_eq_true rfl⟩) hS (fun r_1 locs h_1 hS => ?_)
  subst h_1
  refine lv_istore (lv' := [(4, .int (nI k)), (0, .ref x0), (1, .int (nI (fFI k))), (2, .long v)]) hx hb dC_digits_4 hl (by decide) rfl (fun ls hl => ?_)
  refine lv_lload_n hx hb dC_digits_6 rfl (lv_at hl 3 rfl) ?_
  refine zc_Ri (va_runS (As := [.long v]) (rest := []) ⟨hx, hb, hml, hown, hw⟩ (c_digitCount_any l dC dI cI cB v s.heap) (va_cwS 1 hw (gSt w_ml_C_47 w_st_C_digitCount w_in_C w_co_C_digitCount) rfl rfl rfl (by decide +kernel) ⟨Nat.le_of_ble_eq_true rfl, Nat.le_of_ble_eq_true rfl⟩) (zR_S hG hS (hP.sub (ws' := []) [] rfl) hK) rfl rfl hl.1 rfl (lv_room (Nat.le_of_ble_eq_true rfl)) dC_digits_7 ⟨Nat.le_of_ble_eq_true rfl, Nat.le_of_ble_eq_true rfl⟩) hS (fun r_2 locs h_7 hS => ?_)
  refine lv_istore (lv' := [(5, .int r_2), (4, .int (nI k)), (0, .ref x0), (1, .int (nI (fFI k))), (2, .long v)]) hx hb dC_digits_10 hl (by decide) rfl (fun ls hl => ?_)
  refine lv_lload_n hx hb dC_digits_12 rfl (lv_at hl 4 rfl) ?_
  refine lv_lconst (v := lN 0) hx hb dC_digits_13 (by decide) ?_
  refine W.lcmp hx hb dC_digits_14 ?_
  refine lv_if_lt (tgt := 29) hx hb dC_digits_15 (by decide) (fun c_15 => ?_) (fun q => False.elim ((q ((lg_cmp_lt _ _).mpr hv))))
  obtain ⟨q9, hZ9⟩ := hG.x.2.2.1 (55, "v is below 0 or has too many digits") (List.mem_of_getElem? (i := 1) rfl)
  subst hQ; exact zx_throw hx hb hml hl.1 hfl hown (hw _ w_cl_C_32) (hw _ w_is_IllegalArgumentException) (hw _ w_in_IllegalArgumentException) hZ9 (by decide) nX_fit (oa_I hw hG.x) hno hlocks hS.1 (fun q h9 => by have := hS.2.2 q h9; rw [hAe] at this; exact this) dC_digits_29 dC_digits_32 dC_digits_33 dC_digits_35 dC_digits_38 (by decide) (by decide) (by decide) (by decide)
def rm_x_digits_4 : Room := ({ frames := 8, cells := 1, slots := 6, locals := 133 } : Room)
set_option maxHeartbeats 4000000 in
set_option maxRecDepth 100000 in
theorem x_digits_4 (l : Launch) (dC : Nat → ClassId) (dI : Nat → Nat → Nat) (x0 : Nat) (h0 : Nat) (t0 : Nat) (r0 : Nat) (cI : ClassId) (cB : ClassId) (k : Nat) (n : Nat) (hk : k < 16) (hh : fHL k = 0) (hn : n < 2 ^ 63) (hd : fMM k < dcn n) (hfl : l.flags = pinnedFlags ++ [noTraceFlag]) (Hc : Heap) : XMet l yC_digits wsC_digits rm_x_digits_4 (zT (dC, dI) [(cI, .int), (cB, .byte)] [.ref x0, .int (nI (fFI k)), .long (lN n)] [(x0, .inr (3, [.ref h0, .ref t0, .ref r0]))] Hc) "java/lang/IllegalArgumentException" 1 6 := by
  refine XMet.ofW (cc := cC_digits) (maxL := 6) (ret := none) (by decide) rfl ?_
  intro p e s m args below meth c s₁ Bd hml hno hv
  obtain ⟨rfl, hH, hG, hP, hK⟩ := hv
  subst hH
  have hx := Bd.exec
  have hb := Bd.bytes
  have hr := Bd.returns
  have hts := atoms_spec (ws := wsC_digits) Bd.pre
  have hw : ∀ w ∈ BIG, w.before _ s = true := fun w h => hts w (List.mem_cons_of_mem _ h)
  have hown : s.vm.findClass RC = some m.cls := findClass_of_methodNamed Bd.named
  have hlocks := Bd.notSynchronized
  obtain ⟨A, hAe⟩ : ∃ A, A = zNew s.heap.size := ⟨_, rfl⟩
  have hA : ∀ q : Nat, s.heap.size ≤ q → A q := fun q h => by rw [hAe]; exact h
  rw [← hAe] at hG
  have hS : va_S A s.heap s.heap [] := va_S.rf
  have hl := lv_entry ([.ref x0, .int (nI (fFI k)), .long (lN n)]) (n := 6) (Nat.le_of_ble_eq_true rfl)
  rw [lg_entry_eq]
  generalize (lg_sl ([.ref x0, .int (nI (fFI k)), .long (lN n)]) ++ List.replicate (6 - (lg_sl ([.ref x0, .int (nI (fFI k)), .long (lN n)])).length) Slot.unset).toArray = ls at hl ⊢
  have hl : lv_has ls 6 [(0, .ref x0), (1, .int (nI (fFI k))), (2, .long (lN n))] := hl
  refine zq_name (fun Q hQ => ?_)
  change W p l e rm_x_digits_4 s m _ below meth c _ _ _ _ Q _
  obtain ⟨tfMM, zfMM, afMM⟩ := hG.MOST_MARKS
  obtain ⟨tfCD, zfCD, afCD⟩ := hG.COUNT_DIGITS
  have hdn := dcn_le n
  have hmm := fMM_b k hk
  refine lv_iload_n hx hb dC_digits_0 rfl (lv_at hl 1 rfl) ?_
  refine zc_Ri (va_runS (As := [.int (nI (fFI k))]) (rest := []) ⟨hx, hb, hml, hown, hw⟩ (c_digitSlot_ok l dC dI cI cB k (by omega) hh s.heap) (va_cwS 1 hw (gSt w_ml_C_43 w_st_C_digitSlot w_in_C w_co_C_digitSlot) rfl rfl rfl (by decide +kernel) ⟨Nat.le_of_ble_eq_true rfl, Nat.le_of_ble_eq_true rfl⟩) (zR_S hG hS (hP.sub (ws' := []) [] rfl) hK) rfl rfl hl.1 rfl (lv_room (Nat.le_of_ble_eq_true rfl)) dC_digits_1 ⟨Nat.le_of_ble_eq_true rfl, Nat.le_of_ble_eq_true rfl⟩) hS (fun r_1 locs h_1 hS => ?_)
  subst h_1
  refine lv_istore (lv' := [(4, .int (nI k)), (0, .ref x0), (1, .int (nI (fFI k))), (2, .long (lN n))]) hx hb dC_digits_4 hl (by decide) rfl (fun ls hl => ?_)
  refine lv_lload_n hx hb dC_digits_6 rfl (lv_at hl 3 rfl) ?_
  refine zc_Ri (va_runS (As := [.long (lN n)]) (rest := []) ⟨hx, hb, hml, hown, hw⟩ (c_digitCount_ok l dC dI cI cB n (by omega) s.heap) (va_cwS 1 hw (gSt w_ml_C_47 w_st_C_digitCount w_in_C w_co_C_digitCount) rfl rfl rfl (by decide +kernel) ⟨Nat.le_of_ble_eq_true rfl, Nat.le_of_ble_eq_true rfl⟩) (zR_S hG hS (hP.sub (ws' := []) [] rfl) hK) rfl rfl hl.1 rfl (lv_room (Nat.le_of_ble_eq_true rfl)) dC_digits_7 ⟨Nat.le_of_ble_eq_true rfl, Nat.le_of_ble_eq_true rfl⟩) hS (fun r_2 locs h_7 hS => ?_)
  subst h_7
  refine lv_istore (lv' := [(5, .int (nI (dcn n))), (4, .int (nI k)), (0, .ref x0), (1, .int (nI (fFI k))), (2, .long (lN n))]) hx hb dC_digits_10 hl (by decide) rfl (fun ls hl => ?_)
  refine lv_lload_n hx hb dC_digits_12 rfl (lv_at hl 4 rfl) ?_
  refine lv_lconst (v := lN 0) hx hb dC_digits_13 (by decide) ?_
  refine W.lcmp hx hb dC_digits_14 ?_
  refine zl_lt0 (tgt := 29) hx hb (by omega) (by omega) dC_digits_15 (by decide) (fun q => False.elim ((by omega))) (fun c_15 => ?_)
  refine lv_iload hx hb dC_digits_18 (lv_at hl 0 rfl) ?_
  refine va_gets hx hb zfMM hS hown (hw _ w_fl_C_51) (fun _ h9 => h9) dC_digits_20 ?_
  refine lv_iload hx hb dC_digits_23 (lv_at hl 1 rfl) ?_
  refine za_tab hx hb afMM hS (by omega) (by decide) dC_digits_25 ?_
  refine zi_le (tgt := 39) hx hb (by omega) (by omega) dC_digits_26 (by decide) (fun q => False.elim ((by omega))) (fun c_26 => ?_)
  obtain ⟨q9, hZ9⟩ := hG.x.2.2.1 (55, "v is below 0 or has too many digits") (List.mem_of_getElem? (i := 1) rfl)
  subst hQ; exact zx_throw hx hb hml hl.1 hfl hown (hw _ w_cl_C_32) (hw _ w_is_IllegalArgumentException) (hw _ w_in_IllegalArgumentException) hZ9 (by decide) nX_fit (oa_I hw hG.x) hno hlocks hS.1 (fun q h9 => by have := hS.2.2 q h9; rw [hAe] at this; exact this) dC_digits_29 dC_digits_32 dC_digits_33 dC_digits_35 dC_digits_38 (by decide) (by decide) (by decide) (by decide)
def rm_x_letters_1 : Room := ({ frames := 7, cells := 1, slots := 6, locals := 112 } : Room)
set_option maxHeartbeats 4000000 in
set_option maxRecDepth 100000 in
theorem x_letters_1 (l : Launch) (dC : Nat → ClassId) (dI : Nat → Nat → Nat) (x0 : Nat) (h0 : Nat) (t0 : Nat) (r0 : Nat) (cI : ClassId) (cB : ClassId) (x9 : Int32) (v : Int64) (y9 : Int32) (hx9 : ∀ j, j < 16 → nI (fFI j) ≠ x9) (hfl : l.flags = pinnedFlags ++ [noTraceFlag]) (Hc : Heap) : XMet l yC_letters wsC_letters rm_x_letters_1 (zT (dC, dI) [(cI, .int), (cB, .byte)] [.ref x0, .int x9, .long v, .int y9] [(x0, .inr (3, [.ref h0, .ref t0, .ref r0]))] Hc) "java/lang/IllegalArgumentException" 1 6 := by
  refine XMet.ofW (cc := cC_letters) (maxL := 7) (ret := none) (by decide) rfl ?_
  intro p e s m args below meth c s₁ Bd hml hno hv
  obtain ⟨rfl, hH, hG, hP, hK⟩ := hv
  subst hH
  have hx := Bd.exec
  have hb := Bd.bytes
  have hr := Bd.returns
  have hts := atoms_spec (ws := wsC_letters) Bd.pre
  have hw : ∀ w ∈ BIG, w.before _ s = true := fun w h => hts w (List.mem_cons_of_mem _ h)
  have hown : s.vm.findClass RC = some m.cls := findClass_of_methodNamed Bd.named
  have hlocks := Bd.notSynchronized
  obtain ⟨A, hAe⟩ : ∃ A, A = zNew s.heap.size := ⟨_, rfl⟩
  have hA : ∀ q : Nat, s.heap.size ≤ q → A q := fun q h => by rw [hAe]; exact h
  rw [← hAe] at hG
  have hS : va_S A s.heap s.heap [] := va_S.rf
  have hl := lv_entry ([.ref x0, .int x9, .long v, .int y9]) (n := 7) (Nat.le_of_ble_eq_true rfl)
  rw [lg_entry_eq]
  generalize (lg_sl ([.ref x0, .int x9, .long v, .int y9]) ++ List.replicate (7 - (lg_sl ([.ref x0, .int x9, .long v, .int y9])).length) Slot.unset).toArray = ls at hl ⊢
  have hl : lv_has ls 7 [(0, .ref x0), (1, .int x9), (2, .long v), (4, .int y9)] := hl
  refine zq_name (fun Q hQ => ?_)
  change W p l e rm_x_letters_1 s m _ below meth c _ _ _ _ Q _
  obtain ⟨tfHL, zfHL, afHL⟩ := hG.HAS_LETTERS
  obtain ⟨tfCD, zfCD, afCD⟩ := hG.COUNT_DIGITS
  obtain ⟨tfMM, zfMM, afMM⟩ := hG.MOST_MARKS
  refine lv_iload_n hx hb dC_letters_0 rfl (lv_at hl 1 rfl) ?_
  refine zx_runS (As := [.int x9]) (rest := []) ⟨hx, hb, hml, hown, hw⟩ (x_knownSlot l dC dI cI cB x9 hx9 hfl s.heap) (va_cwS 1 hw (gSt w_ml_C_64 w_st_C_knownSlot w_in_C w_co_C_knownSlot) rfl rfl rfl (by decide +kernel) ⟨Nat.le_of_ble_eq_true rfl, Nat.le_of_ble_eq_true rfl⟩) (zT_S hG hA hS (hP.sub (ws' := []) [] rfl) hK) rfl rfl hl.1 rfl (lv_room (Nat.le_of_ble_eq_true rfl)) dC_letters_1 ⟨Nat.le_of_ble_eq_true rfl, Nat.le_of_ble_eq_true rfl⟩ (fun xa9 ce H9 hz9 hk9 hx1 hx2 hx3 => ?_)
  subst hAe; subst hQ; exact zx_out hno hlocks rfl rfl rfl hS.2.2 hx1 hx2 hx3
def rm_x_letters_2 : Room := ({ frames := 7, cells := 1, slots := 6, locals := 112 } : Room)
set_option maxHeartbeats 4000000 in
set_option maxRecDepth 100000 in
theorem x_letters_2 (l : Launch) (dC : Nat → ClassId) (dI : Nat → Nat → Nat) (x0 : Nat) (h0 : Nat) (t0 : Nat) (r0 : Nat) (cI : ClassId) (cB : ClassId) (k : Nat) (v : Int64) (y9 : Int32) (hk : k < 16) (hh : fHL k = 0) (hfl : l.flags = pinnedFlags ++ [noTraceFlag]) (Hc : Heap) : XMet l yC_letters wsC_letters rm_x_letters_2 (zT (dC, dI) [(cI, .int), (cB, .byte)] [.ref x0, .int (nI (fFI k)), .long v, .int y9] [(x0, .inr (3, [.ref h0, .ref t0, .ref r0]))] Hc) "java/lang/IllegalArgumentException" 1 6 := by
  refine XMet.ofW (cc := cC_letters) (maxL := 7) (ret := none) (by decide) rfl ?_
  intro p e s m args below meth c s₁ Bd hml hno hv
  obtain ⟨rfl, hH, hG, hP, hK⟩ := hv
  subst hH
  have hx := Bd.exec
  have hb := Bd.bytes
  have hr := Bd.returns
  have hts := atoms_spec (ws := wsC_letters) Bd.pre
  have hw : ∀ w ∈ BIG, w.before _ s = true := fun w h => hts w (List.mem_cons_of_mem _ h)
  have hown : s.vm.findClass RC = some m.cls := findClass_of_methodNamed Bd.named
  have hlocks := Bd.notSynchronized
  obtain ⟨A, hAe⟩ : ∃ A, A = zNew s.heap.size := ⟨_, rfl⟩
  have hA : ∀ q : Nat, s.heap.size ≤ q → A q := fun q h => by rw [hAe]; exact h
  rw [← hAe] at hG
  have hS : va_S A s.heap s.heap [] := va_S.rf
  have hl := lv_entry ([.ref x0, .int (nI (fFI k)), .long v, .int y9]) (n := 7) (Nat.le_of_ble_eq_true rfl)
  rw [lg_entry_eq]
  generalize (lg_sl ([.ref x0, .int (nI (fFI k)), .long v, .int y9]) ++ List.replicate (7 - (lg_sl ([.ref x0, .int (nI (fFI k)), .long v, .int y9])).length) Slot.unset).toArray = ls at hl ⊢
  have hl : lv_has ls 7 [(0, .ref x0), (1, .int (nI (fFI k))), (2, .long v), (4, .int y9)] := hl
  refine zq_name (fun Q hQ => ?_)
  change W p l e rm_x_letters_2 s m _ below meth c _ _ _ _ Q _
  obtain ⟨tfHL, zfHL, afHL⟩ := hG.HAS_LETTERS
  obtain ⟨tfCD, zfCD, afCD⟩ := hG.COUNT_DIGITS
  obtain ⟨tfMM, zfMM, afMM⟩ := hG.MOST_MARKS
  have hh9 := fHL_b k hk
  refine lv_iload_n hx hb dC_letters_0 rfl (lv_at hl 1 rfl) ?_
  refine zc_Ri (va_runS (As := [.int (nI (fFI k))]) (rest := []) ⟨hx, hb, hml, hown, hw⟩ (c_knownSlot_ok l dC dI cI cB k (by omega) s.heap) (va_cwS 1 hw (gSt w_ml_C_64 w_st_C_knownSlot w_in_C w_co_C_knownSlot) rfl rfl rfl (by decide +kernel) ⟨Nat.le_of_ble_eq_true rfl, Nat.le_of_ble_eq_true rfl⟩) (zR_S hG hS (hP.sub (ws' := []) [] rfl) hK) rfl rfl hl.1 rfl (lv_room (Nat.le_of_ble_eq_true rfl)) dC_letters_1 ⟨Nat.le_of_ble_eq_true rfl, Nat.le_of_ble_eq_true rfl⟩) hS (fun r_1 locs h_1 hS => ?_)
  subst h_1
  refine lv_istore (lv' := [(5, .int (nI k)), (0, .ref x0), (1, .int (nI (fFI k))), (2, .long v), (4, .int y9)]) hx hb dC_letters_4 hl (by decide) rfl (fun ls hl => ?_)
  refine va_gets hx hb zfHL hS hown (hw _ w_fl_C_67) (fun _ h9 => h9) dC_letters_6 ?_
  refine lv_iload hx hb dC_letters_9 (lv_at hl 0 rfl) ?_
  refine za_tab hx hb afHL hS (by omega) (by decide) dC_letters_11 ?_
  refine zi_ne0 (tgt := 25) hx hb (by omega) dC_letters_12 (by decide) (fun q => False.elim ((q hh))) (fun c_12 => ?_)
  obtain ⟨q9, hZ9⟩ := hG.x.2.2.1 (70, "the field has no letters") (List.mem_of_getElem? (i := 2) rfl)
  subst hQ; exact zx_throw hx hb hml hl.1 hfl hown (hw _ w_cl_C_32) (hw _ w_is_IllegalArgumentException) (hw _ w_in_IllegalArgumentException) hZ9 (by decide) nX_fit (oa_I hw hG.x) hno hlocks hS.1 (fun q h9 => by have := hS.2.2 q h9; rw [hAe] at this; exact this) dC_letters_15 dC_letters_18 dC_letters_19 dC_letters_21 dC_letters_24 (by decide) (by decide) (by decide) (by decide)
def rm_x_letters_3 : Room := ({ frames := 7, cells := 1, slots := 6, locals := 112 } : Room)
set_option maxHeartbeats 4000000 in
set_option maxRecDepth 100000 in
theorem x_letters_3 (l : Launch) (dC : Nat → ClassId) (dI : Nat → Nat → Nat) (x0 : Nat) (h0 : Nat) (t0 : Nat) (r0 : Nat) (cI : ClassId) (cB : ClassId) (k : Nat) (v : Int64) (y9 : Int32) (hk : k < 16) (hh : fHL k ≠ 0) (hy : (fCD k = 0 ∧ y9 ≠ 0) ∨ (fCD k ≠ 0 ∧ (y9 < nI 1 ∨ nI 40 < y9))) (hfl : l.flags = pinnedFlags ++ [noTraceFlag]) (Hc : Heap) : XMet l yC_letters wsC_letters rm_x_letters_3 (zT (dC, dI) [(cI, .int), (cB, .byte)] [.ref x0, .int (nI (fFI k)), .long v, .int y9] [(x0, .inr (3, [.ref h0, .ref t0, .ref r0]))] Hc) "java/lang/IllegalArgumentException" 1 6 := by
  refine XMet.ofW (cc := cC_letters) (maxL := 7) (ret := none) (by decide) rfl ?_
  intro p e s m args below meth c s₁ Bd hml hno hv
  obtain ⟨rfl, hH, hG, hP, hK⟩ := hv
  subst hH
  have hx := Bd.exec
  have hb := Bd.bytes
  have hr := Bd.returns
  have hts := atoms_spec (ws := wsC_letters) Bd.pre
  have hw : ∀ w ∈ BIG, w.before _ s = true := fun w h => hts w (List.mem_cons_of_mem _ h)
  have hown : s.vm.findClass RC = some m.cls := findClass_of_methodNamed Bd.named
  have hlocks := Bd.notSynchronized
  obtain ⟨A, hAe⟩ : ∃ A, A = zNew s.heap.size := ⟨_, rfl⟩
  have hA : ∀ q : Nat, s.heap.size ≤ q → A q := fun q h => by rw [hAe]; exact h
  rw [← hAe] at hG
  have hS : va_S A s.heap s.heap [] := va_S.rf
  have hl := lv_entry ([.ref x0, .int (nI (fFI k)), .long v, .int y9]) (n := 7) (Nat.le_of_ble_eq_true rfl)
  rw [lg_entry_eq]
  generalize (lg_sl ([.ref x0, .int (nI (fFI k)), .long v, .int y9]) ++ List.replicate (7 - (lg_sl ([.ref x0, .int (nI (fFI k)), .long v, .int y9])).length) Slot.unset).toArray = ls at hl ⊢
  have hl : lv_has ls 7 [(0, .ref x0), (1, .int (nI (fFI k))), (2, .long v), (4, .int y9)] := hl
  refine zq_name (fun Q hQ => ?_)
  change W p l e rm_x_letters_3 s m _ below meth c _ _ _ _ Q _
  obtain ⟨tfHL, zfHL, afHL⟩ := hG.HAS_LETTERS
  obtain ⟨tfCD, zfCD, afCD⟩ := hG.COUNT_DIGITS
  obtain ⟨tfMM, zfMM, afMM⟩ := hG.MOST_MARKS
  have hcd := fCD_b k hk
  have hmm := fMM_b k hk
  have hh9 := fHL_b k hk
  have hof := fFO_b k hk
  refine lv_iload_n hx hb dC_letters_0 rfl (lv_at hl 1 rfl) ?_
  refine zc_Ri (va_runS (As := [.int (nI (fFI k))]) (rest := []) ⟨hx, hb, hml, hown, hw⟩ (c_knownSlot_ok l dC dI cI cB k (by omega) s.heap) (va_cwS 1 hw (gSt w_ml_C_64 w_st_C_knownSlot w_in_C w_co_C_knownSlot) rfl rfl rfl (by decide +kernel) ⟨Nat.le_of_ble_eq_true rfl, Nat.le_of_ble_eq_true rfl⟩) (zR_S hG hS (hP.sub (ws' := []) [] rfl) hK) rfl rfl hl.1 rfl (lv_room (Nat.le_of_ble_eq_true rfl)) dC_letters_1 ⟨Nat.le_of_ble_eq_true rfl, Nat.le_of_ble_eq_true rfl⟩) hS (fun r_1 locs h_1 hS => ?_)
  subst h_1
  refine lv_istore (lv' := [(5, .int (nI k)), (0, .ref x0), (1, .int (nI (fFI k))), (2, .long v), (4, .int y9)]) hx hb dC_letters_4 hl (by decide) rfl (fun ls hl => ?_)
  refine va_gets hx hb zfHL hS hown (hw _ w_fl_C_67) (fun _ h9 => h9) dC_letters_6 ?_
  refine lv_iload hx hb dC_letters_9 (lv_at hl 0 rfl) ?_
  refine za_tab hx hb afHL hS (by omega) (by decide) dC_letters_11 ?_
  refine zi_ne0 (tgt := 25) hx hb (by omega) dC_letters_12 (by decide) (fun c_12 => ?_) (fun q => False.elim ((hh q)))
  refine va_gets hx hb zfCD hS hown (hw _ w_fl_C_57) (fun _ h9 => h9) dC_letters_25 ?_
  refine lv_iload hx hb dC_letters_28 (lv_at hl 0 rfl) ?_
  refine za_tab hx hb afCD hS (by omega) (by decide) dC_letters_30 ?_
  refine zi_ne0 (tgt := 38) hx hb (by omega) dC_letters_31 (by decide) (fun c_31 => ?_) (fun c_31 => ?_)
  · refine lv_iconst (v := nI 0) hx hb dC_letters_38 (by decide) ?_
    refine lv_istore (lv' := [(6, .int (nI 0)), (5, .int (nI k)), (0, .ref x0), (1, .int (nI (fFI k))), (2, .long v), (4, .int y9)]) hx hb dC_letters_39 hl (by decide) rfl (fun ls hl => ?_)
    refine lv_iload hx hb dC_letters_41 (lv_at hl 0 rfl) ?_
    refine lv_if_eq (tgt := 54) hx hb dC_letters_43 (by decide) (fun c_43 => ?_) (fun q => False.elim (absurd q (by decide)))
    refine lv_iload hx hb dC_letters_54 (lv_at hl 5 rfl) ?_
    refine lv_iconst (v := nI 1) hx hb dC_letters_56 (by decide) ?_
    refine lv_icmp_lt (tgt := 71) hx hb dC_letters_57 (by decide) (fun c_57 => ?_) (fun c_57 => ?_)
    · obtain ⟨q9, hZ9⟩ := hG.x.2.2.1 (72, "n is 0, or for a note 1 .. 40") (List.mem_of_getElem? (i := 3) rfl)
      subst hQ; exact zx_throw hx hb hml hl.1 hfl hown (hw _ w_cl_C_32) (hw _ w_is_IllegalArgumentException) (hw _ w_in_IllegalArgumentException) hZ9 (by decide) nX_fit (oa_I hw hG.x) hno hlocks hS.1 (fun q h9 => by have := hS.2.2 q h9; rw [hAe] at this; exact this) dC_letters_71 dC_letters_74 dC_letters_75 dC_letters_77 dC_letters_80 (by decide) (by decide) (by decide) (by decide)
    · refine lv_iload hx hb dC_letters_60 (lv_at hl 5 rfl) ?_
      refine va_gets hx hb zfMM hS hown (hw _ w_fl_C_51) (fun _ h9 => h9) dC_letters_62 ?_
      refine lv_iload hx hb dC_letters_65 (lv_at hl 1 rfl) ?_
      refine za_tab hx hb afMM hS (by omega) (by decide) dC_letters_67 ?_
      refine lv_icmp_le (tgt := 81) hx hb dC_letters_68 (by decide) (fun q => False.elim ((by rcases hy with h | ⟨-, h | h⟩; exact c_31 h.1; exact c_57 h; rw [hof.2.2.2.2 hh c_31] at q; exact absurd q (Int32.not_le.mpr h)))) (fun c_68 => ?_)
      obtain ⟨q9, hZ9⟩ := hG.x.2.2.1 (72, "n is 0, or for a note 1 .. 40") (List.mem_of_getElem? (i := 3) rfl)
      subst hQ; exact zx_throw hx hb hml hl.1 hfl hown (hw _ w_cl_C_32) (hw _ w_is_IllegalArgumentException) (hw _ w_in_IllegalArgumentException) hZ9 (by decide) nX_fit (oa_I hw hG.x) hno hlocks hS.1 (fun q h9 => by have := hS.2.2 q h9; rw [hAe] at this; exact this) dC_letters_71 dC_letters_74 dC_letters_75 dC_letters_77 dC_letters_80 (by decide) (by decide) (by decide) (by decide)
  · refine lv_iconst (v := nI 1) hx hb dC_letters_34 (by decide) ?_
    refine lv_goto (tgt := 39) hx hb dC_letters_35 (by decide) ?_
    refine lv_istore (lv' := [(6, .int (nI 1)), (5, .int (nI k)), (0, .ref x0), (1, .int (nI (fFI k))), (2, .long v), (4, .int y9)]) hx hb dC_letters_39 hl (by decide) rfl (fun ls hl => ?_)
    refine lv_iload hx hb dC_letters_41 (lv_at hl 0 rfl) ?_
    refine lv_if_eq (tgt := 54) hx hb dC_letters_43 (by decide) (fun q => False.elim (absurd q (by decide))) (fun c_43 => ?_)
    refine lv_iload hx hb dC_letters_46 (lv_at hl 5 rfl) ?_
    refine lv_if_eq (tgt := 81) hx hb dC_letters_48 (by decide) (fun q => False.elim ((hy.elim (fun h => h.2 q) (fun h => h.1 c_31)))) (fun c_48 => ?_)
    refine lv_goto (tgt := 71) hx hb dC_letters_51 (by decide) ?_
    obtain ⟨q9, hZ9⟩ := hG.x.2.2.1 (72, "n is 0, or for a note 1 .. 40") (List.mem_of_getElem? (i := 3) rfl)
    subst hQ; exact zx_throw hx hb hml hl.1 hfl hown (hw _ w_cl_C_32) (hw _ w_is_IllegalArgumentException) (hw _ w_in_IllegalArgumentException) hZ9 (by decide) nX_fit (oa_I hw hG.x) hno hlocks hS.1 (fun q h9 => by have := hS.2.2 q h9; rw [hAe] at this; exact this) dC_letters_71 dC_letters_74 dC_letters_75 dC_letters_77 dC_letters_80 (by decide) (by decide) (by decide) (by decide)
def rm_x_original : Room := ({ frames := 6, cells := 1, slots := 6, locals := 91 } : Room)
set_option maxHeartbeats 4000000 in
set_option maxRecDepth 100000 in
theorem x_original (l : Launch) (dC : Nat → ClassId) (dI : Nat → Nat → Nat) (x0 : Nat) (h0 : Nat) (t0 : Nat) (r0 : Nat) (cI : ClassId) (cB : ClassId) (x1 : Int32) (x2 : Int32) (x3 : Int32) (hx9 : x1 < 0 ∨ nI 9999 < x1 ∨ x2 < 0 ∨ nI 999999 < x2 ∨ x3 < 0 ∨ nI 99999 < x3) (hfl : l.flags = pinnedFlags ++ [noTraceFlag]) (Hc : Heap) : XMet l yC_original wsC_original rm_x_original (zT (dC, dI) [(cI, .int), (cB, .byte)] [.ref x0, .int x1, .int x2, .int x3] [(x0, .inr (3, [.ref h0, .ref t0, .ref r0]))] Hc) "java/lang/IllegalArgumentException" 1 6 := by
  refine XMet.ofW (cc := cC_original) (maxL := 4) (ret := none) (by decide) rfl ?_
  intro p e s m args below meth c s₁ Bd hml hno hv
  obtain ⟨rfl, hH, hG, hP, hK⟩ := hv
  subst hH
  have hx := Bd.exec
  have hb := Bd.bytes
  have hr := Bd.returns
  have hts := atoms_spec (ws := wsC_original) Bd.pre
  have hw : ∀ w ∈ BIG, w.before _ s = true := fun w h => hts w (List.mem_cons_of_mem _ h)
  have hown : s.vm.findClass RC = some m.cls := findClass_of_methodNamed Bd.named
  have hlocks := Bd.notSynchronized
  obtain ⟨A, hAe⟩ : ∃ A, A = zNew s.heap.size := ⟨_, rfl⟩
  have hA : ∀ q : Nat, s.heap.size ≤ q → A q := fun q h => by rw [hAe]; exact h
  rw [← hAe] at hG
  have hS : va_S A s.heap s.heap [] := va_S.rf
  have hl := lv_entry ([.ref x0, .int x1, .int x2, .int x3]) (n := 4) (Nat.le_of_ble_eq_true rfl)
  rw [lg_entry_eq]
  generalize (lg_sl ([.ref x0, .int x1, .int x2, .int x3]) ++ List.replicate (4 - (lg_sl ([.ref x0, .int x1, .int x2, .int x3])).length) Slot.unset).toArray = ls at hl ⊢
  have hl : lv_has ls 4 [(0, .ref x0), (1, .int x1), (2, .int x2), (3, .int x3)] := hl
  refine zq_name (fun Q hQ => ?_)
  change W p l e rm_x_original s m _ below meth c _ _ _ _ Q _
  refine lv_iload_n hx hb dC_original_0 rfl (lv_at hl 1 rfl) ?_
  refine lv_if_lt (tgt := 31) hx hb dC_original_1 (by decide) (fun c_1 => ?_) (fun c_1 => ?_)
  · obtain ⟨q9, hZ9⟩ := hG.x.2.2.1 (79, "a part is out of its bounds") (List.mem_of_getElem? (i := 4) rfl)
    subst hQ; exact zx_throw hx hb hml hl.1 hfl hown (hw _ w_cl_C_32) (hw _ w_is_IllegalArgumentException) (hw _ w_in_IllegalArgumentException) hZ9 (by decide) nX_fit (oa_I hw hG.x) hno hlocks hS.1 (fun q h9 => by have := hS.2.2 q h9; rw [hAe] at this; exact this) dC_original_31 dC_original_34 dC_original_35 dC_original_37 dC_original_40 (by decide) (by decide) (by decide) (by decide)
  · refine lv_iload_n hx hb dC_original_4 rfl (lv_at hl 1 rfl) ?_
    refine lv_sipush (v := nI 9999) hx hb dC_original_5 (by decide) ?_
    refine lv_icmp_gt (tgt := 31) hx hb dC_original_8 (by decide) (fun c_8 => ?_) (fun c_8 => ?_)
    · obtain ⟨q9, hZ9⟩ := hG.x.2.2.1 (79, "a part is out of its bounds") (List.mem_of_getElem? (i := 4) rfl)
      subst hQ; exact zx_throw hx hb hml hl.1 hfl hown (hw _ w_cl_C_32) (hw _ w_is_IllegalArgumentException) (hw _ w_in_IllegalArgumentException) hZ9 (by decide) nX_fit (oa_I hw hG.x) hno hlocks hS.1 (fun q h9 => by have := hS.2.2 q h9; rw [hAe] at this; exact this) dC_original_31 dC_original_34 dC_original_35 dC_original_37 dC_original_40 (by decide) (by decide) (by decide) (by decide)
    · refine lv_iload_n hx hb dC_original_11 rfl (lv_at hl 2 rfl) ?_
      refine lv_if_lt (tgt := 31) hx hb dC_original_12 (by decide) (fun c_12 => ?_) (fun c_12 => ?_)
      · obtain ⟨q9, hZ9⟩ := hG.x.2.2.1 (79, "a part is out of its bounds") (List.mem_of_getElem? (i := 4) rfl)
        subst hQ; exact zx_throw hx hb hml hl.1 hfl hown (hw _ w_cl_C_32) (hw _ w_is_IllegalArgumentException) (hw _ w_in_IllegalArgumentException) hZ9 (by decide) nX_fit (oa_I hw hG.x) hno hlocks hS.1 (fun q h9 => by have := hS.2.2 q h9; rw [hAe] at this; exact this) dC_original_31 dC_original_34 dC_original_35 dC_original_37 dC_original_40 (by decide) (by decide) (by decide) (by decide)
      · refine lv_iload_n hx hb dC_original_15 rfl (lv_at hl 2 rfl) ?_
        refine lv_ldc (v := 999999) hx hb hown (hw _ w_k_C_77) dC_original_16 ?_
        refine zi_c (a := 999999) rfl ?_
        refine lv_icmp_gt (tgt := 31) hx hb dC_original_18 (by decide) (fun c_18 => ?_) (fun c_18 => ?_)
        · obtain ⟨q9, hZ9⟩ := hG.x.2.2.1 (79, "a part is out of its bounds") (List.mem_of_getElem? (i := 4) rfl)
          subst hQ; exact zx_throw hx hb hml hl.1 hfl hown (hw _ w_cl_C_32) (hw _ w_is_IllegalArgumentException) (hw _ w_in_IllegalArgumentException) hZ9 (by decide) nX_fit (oa_I hw hG.x) hno hlocks hS.1 (fun q h9 => by have := hS.2.2 q h9; rw [hAe] at this; exact this) dC_original_31 dC_original_34 dC_original_35 dC_original_37 dC_original_40 (by decide) (by decide) (by decide) (by decide)
        · refine lv_iload_n hx hb dC_original_21 rfl (lv_at hl 3 rfl) ?_
          refine lv_if_lt (tgt := 31) hx hb dC_original_22 (by decide) (fun c_22 => ?_) (fun c_22 => ?_)
          · obtain ⟨q9, hZ9⟩ := hG.x.2.2.1 (79, "a part is out of its bounds") (List.mem_of_getElem? (i := 4) rfl)
            subst hQ; exact zx_throw hx hb hml hl.1 hfl hown (hw _ w_cl_C_32) (hw _ w_is_IllegalArgumentException) (hw _ w_in_IllegalArgumentException) hZ9 (by decide) nX_fit (oa_I hw hG.x) hno hlocks hS.1 (fun q h9 => by have := hS.2.2 q h9; rw [hAe] at this; exact this) dC_original_31 dC_original_34 dC_original_35 dC_original_37 dC_original_40 (by decide) (by decide) (by decide) (by decide)
          · refine lv_iload_n hx hb dC_original_25 rfl (lv_at hl 3 rfl) ?_
            refine lv_ldc (v := 99999) hx hb hown (hw _ w_k_C_78) dC_original_26 ?_
            refine zi_c (a := 99999) rfl ?_
            refine lv_icmp_le (tgt := 41) hx hb dC_original_28 (by decide) (fun q => False.elim ((by rcases hx9 with h | h | h | h | h | h <;> first | contradiction | exact absurd q (Int32.not_le.mpr h)))) (fun c_28 => ?_)
            obtain ⟨q9, hZ9⟩ := hG.x.2.2.1 (79, "a part is out of its bounds") (List.mem_of_getElem? (i := 4) rfl)
            subst hQ; exact zx_throw hx hb hml hl.1 hfl hown (hw _ w_cl_C_32) (hw _ w_is_IllegalArgumentException) (hw _ w_in_IllegalArgumentException) hZ9 (by decide) nX_fit (oa_I hw hG.x) hno hlocks hS.1 (fun q h9 => by have := hS.2.2 q h9; rw [hAe] at this; exact this) dC_original_31 dC_original_34 dC_original_35 dC_original_37 dC_original_40 (by decide) (by decide) (by decide) (by decide)
def rm_x_omit : Room := ({ frames := 7, cells := 1, slots := 6, locals := 112 } : Room)
set_option maxHeartbeats 4000000 in
set_option maxRecDepth 100000 in
theorem x_omit (l : Launch) (dC : Nat → ClassId) (dI : Nat → Nat → Nat) (x0 : Nat) (h0 : Nat) (t0 : Nat) (r0 : Nat) (cI : ClassId) (cB : ClassId) (x9 : Int32) (hx9 : ∀ j, j < 16 → nI (fFI j) ≠ x9) (hfl : l.flags = pinnedFlags ++ [noTraceFlag]) (Hc : Heap) : XMet l yC_omit wsC_omit rm_x_omit (zT (dC, dI) [(cI, .int), (cB, .byte)] [.ref x0, .int x9] [(x0, .inr (3, [.ref h0, .ref t0, .ref r0]))] Hc) "java/lang/IllegalArgumentException" 1 6 := by
  refine XMet.ofW (cc := cC_omit) (maxL := 4) (ret := (some .boolean)) (by decide) rfl ?_
  intro p e s m args below meth c s₁ Bd hml hno hv
  obtain ⟨rfl, hH, hG, hP, hK⟩ := hv
  subst hH
  have hx := Bd.exec
  have hb := Bd.bytes
  have hr := Bd.returns
  have hts := atoms_spec (ws := wsC_omit) Bd.pre
  have hw : ∀ w ∈ BIG, w.before _ s = true := fun w h => hts w (List.mem_cons_of_mem _ h)
  have hown : s.vm.findClass RC = some m.cls := findClass_of_methodNamed Bd.named
  have hlocks := Bd.notSynchronized
  obtain ⟨A, hAe⟩ : ∃ A, A = zNew s.heap.size := ⟨_, rfl⟩
  have hA : ∀ q : Nat, s.heap.size ≤ q → A q := fun q h => by rw [hAe]; exact h
  rw [← hAe] at hG
  have hS : va_S A s.heap s.heap [] := va_S.rf
  have hl := lv_entry ([.ref x0, .int x9]) (n := 4) (Nat.le_of_ble_eq_true rfl)
  rw [lg_entry_eq]
  generalize (lg_sl ([.ref x0, .int x9]) ++ List.replicate (4 - (lg_sl ([.ref x0, .int x9])).length) Slot.unset).toArray = ls at hl ⊢
  have hl : lv_has ls 4 [(0, .ref x0), (1, .int x9)] := hl
  refine zq_name (fun Q hQ => ?_)
  change W p l e rm_x_omit s m _ below meth c _ _ _ _ Q _
  refine lv_iload_n hx hb dC_omit_0 rfl (lv_at hl 1 rfl) ?_
  refine zx_runS (As := [.int x9]) (rest := []) ⟨hx, hb, hml, hown, hw⟩ (x_knownSlot l dC dI cI cB x9 hx9 hfl s.heap) (va_cwS 1 hw (gSt w_ml_C_64 w_st_C_knownSlot w_in_C w_co_C_knownSlot) rfl rfl rfl (by decide +kernel) ⟨Nat.le_of_ble_eq_true rfl, Nat.le_of_ble_eq_true rfl⟩) (zT_S hG hA hS (hP.sub (ws' := []) [] rfl) hK) rfl rfl hl.1 rfl (lv_room (Nat.le_of_ble_eq_true rfl)) dC_omit_1 ⟨Nat.le_of_ble_eq_true rfl, Nat.le_of_ble_eq_true rfl⟩ (fun xa9 ce H9 hz9 hk9 hx1 hx2 hx3 => ?_)
  subst hAe; subst hQ; exact zx_out hno hlocks rfl rfl rfl hS.2.2 hx1 hx2 hx3
def rm_x_size : Room := ({ frames := 7, cells := 1, slots := 6, locals := 112 } : Room)
set_option maxHeartbeats 4000000 in
set_option maxRecDepth 100000 in
theorem x_size (l : Launch) (dC : Nat → ClassId) (dI : Nat → Nat → Nat) (x0 : Nat) (h0 : Nat) (t0 : Nat) (r0 : Nat) (cI : ClassId) (cB : ClassId) (x9 : Int32) (hx9 : ∀ j, j < 16 → nI (fFI j) ≠ x9) (hfl : l.flags = pinnedFlags ++ [noTraceFlag]) (Hc : Heap) : XMet l yC_size wsC_size rm_x_size (zT (dC, dI) [(cI, .int), (cB, .byte)] [.ref x0, .int x9] [(x0, .inr (3, [.ref h0, .ref t0, .ref r0]))] Hc) "java/lang/IllegalArgumentException" 1 6 := by
  refine XMet.ofW (cc := cC_size) (maxL := 3) (ret := (some .int)) (by decide) rfl ?_
  intro p e s m args below meth c s₁ Bd hml hno hv
  obtain ⟨rfl, hH, hG, hP, hK⟩ := hv
  subst hH
  have hx := Bd.exec
  have hb := Bd.bytes
  have hr := Bd.returns
  have hts := atoms_spec (ws := wsC_size) Bd.pre
  have hw : ∀ w ∈ BIG, w.before _ s = true := fun w h => hts w (List.mem_cons_of_mem _ h)
  have hown : s.vm.findClass RC = some m.cls := findClass_of_methodNamed Bd.named
  have hlocks := Bd.notSynchronized
  obtain ⟨A, hAe⟩ : ∃ A, A = zNew s.heap.size := ⟨_, rfl⟩
  have hA : ∀ q : Nat, s.heap.size ≤ q → A q := fun q h => by rw [hAe]; exact h
  rw [← hAe] at hG
  have hS : va_S A s.heap s.heap [] := va_S.rf
  have hl := lv_entry ([.ref x0, .int x9]) (n := 3) (Nat.le_of_ble_eq_true rfl)
  rw [lg_entry_eq]
  generalize (lg_sl ([.ref x0, .int x9]) ++ List.replicate (3 - (lg_sl ([.ref x0, .int x9])).length) Slot.unset).toArray = ls at hl ⊢
  have hl : lv_has ls 3 [(0, .ref x0), (1, .int x9)] := hl
  refine zq_name (fun Q hQ => ?_)
  change W p l e rm_x_size s m _ below meth c _ _ _ _ Q _
  refine lv_iload_n hx hb dC_size_0 rfl (lv_at hl 1 rfl) ?_
  refine zx_runS (As := [.int x9]) (rest := []) ⟨hx, hb, hml, hown, hw⟩ (x_knownSlot l dC dI cI cB x9 hx9 hfl s.heap) (va_cwS 1 hw (gSt w_ml_C_64 w_st_C_knownSlot w_in_C w_co_C_knownSlot) rfl rfl rfl (by decide +kernel) ⟨Nat.le_of_ble_eq_true rfl, Nat.le_of_ble_eq_true rfl⟩) (zT_S hG hA hS (hP.sub (ws' := []) [] rfl) hK) rfl rfl hl.1 rfl (lv_room (Nat.le_of_ble_eq_true rfl)) dC_size_1 ⟨Nat.le_of_ble_eq_true rfl, Nat.le_of_ble_eq_true rfl⟩ (fun xa9 ce H9 hz9 hk9 hx1 hx2 hx3 => ?_)
  subst hAe; subst hQ; exact zx_out hno hlocks rfl rfl rfl hS.2.2 hx1 hx2 hx3
def rm_x_at_1 : Room := ({ frames := 7, cells := 1, slots := 6, locals := 112 } : Room)
set_option maxHeartbeats 4000000 in
set_option maxRecDepth 100000 in
theorem x_at_1 (l : Launch) (dC : Nat → ClassId) (dI : Nat → Nat → Nat) (x0 : Nat) (h0 : Nat) (t0 : Nat) (r0 : Nat) (cI : ClassId) (cB : ClassId) (x9 : Int32) (y9 : Int32) (hx9 : ∀ j, j < 16 → nI (fFI j) ≠ x9) (hfl : l.flags = pinnedFlags ++ [noTraceFlag]) (Hc : Heap) : XMet l yC_at wsC_at rm_x_at_1 (zT (dC, dI) [(cI, .int), (cB, .byte)] [.ref x0, .int x9, .int y9] [(x0, .inr (3, [.ref h0, .ref t0, .ref r0]))] Hc) "java/lang/IllegalArgumentException" 1 6 := by
  refine XMet.ofW (cc := cC_at) (maxL := 4) (ret := (some .int)) (by decide) rfl ?_
  intro p e s m args below meth c s₁ Bd hml hno hv
  obtain ⟨rfl, hH, hG, hP, hK⟩ := hv
  subst hH
  have hx := Bd.exec
  have hb := Bd.bytes
  have hr := Bd.returns
  have hts := atoms_spec (ws := wsC_at) Bd.pre
  have hw : ∀ w ∈ BIG, w.before _ s = true := fun w h => hts w (List.mem_cons_of_mem _ h)
  have hown : s.vm.findClass RC = some m.cls := findClass_of_methodNamed Bd.named
  have hlocks := Bd.notSynchronized
  obtain ⟨A, hAe⟩ : ∃ A, A = zNew s.heap.size := ⟨_, rfl⟩
  have hA : ∀ q : Nat, s.heap.size ≤ q → A q := fun q h => by rw [hAe]; exact h
  rw [← hAe] at hG
  have hS : va_S A s.heap s.heap [] := va_S.rf
  have hl := lv_entry ([.ref x0, .int x9, .int y9]) (n := 4) (Nat.le_of_ble_eq_true rfl)
  rw [lg_entry_eq]
  generalize (lg_sl ([.ref x0, .int x9, .int y9]) ++ List.replicate (4 - (lg_sl ([.ref x0, .int x9, .int y9])).length) Slot.unset).toArray = ls at hl ⊢
  have hl : lv_has ls 4 [(0, .ref x0), (1, .int x9), (2, .int y9)] := hl
  refine zq_name (fun Q hQ => ?_)
  change W p l e rm_x_at_1 s m _ below meth c _ _ _ _ Q _
  refine lv_iload_n hx hb dC_at_0 rfl (lv_at hl 1 rfl) ?_
  refine zx_runS (As := [.int x9]) (rest := []) ⟨hx, hb, hml, hown, hw⟩ (x_knownSlot l dC dI cI cB x9 hx9 hfl s.heap) (va_cwS 1 hw (gSt w_ml_C_64 w_st_C_knownSlot w_in_C w_co_C_knownSlot) rfl rfl rfl (by decide +kernel) ⟨Nat.le_of_ble_eq_true rfl, Nat.le_of_ble_eq_true rfl⟩) (zT_S hG hA hS (hP.sub (ws' := []) [] rfl) hK) rfl rfl hl.1 rfl (lv_room (Nat.le_of_ble_eq_true rfl)) dC_at_1 ⟨Nat.le_of_ble_eq_true rfl, Nat.le_of_ble_eq_true rfl⟩ (fun xa9 ce H9 hz9 hk9 hx1 hx2 hx3 => ?_)
  subst hAe; subst hQ; exact zx_out hno hlocks rfl rfl rfl hS.2.2 hx1 hx2 hx3
def rm_x_at_2 : Room := ({ frames := 7, cells := 1, slots := 6, locals := 112 } : Room)
set_option maxHeartbeats 4000000 in
set_option maxRecDepth 100000 in
theorem x_at_2 (l : Launch) (dC : Nat → ClassId) (dI : Nat → Nat → Nat) (x0 : Nat) (h0 : Nat) (h1 : Nat) (h2 : Nat) (cI : ClassId) (cB : ClassId) (ty : Nat) (cnt : Nat → Nat) (mk : Nat → Nat) (t0 : Nat) (r0 : Nat) (k : Nat) (y9 : Int32) (hk : k < 16) (hy : y9 < 0 ∨ nI (cnt k) ≤ y9) (hfl : l.flags = pinnedFlags ++ [noTraceFlag]) (Hc : Heap) : XMet l yC_at wsC_at rm_x_at_2 (zT (dC, dI) [(cI, .int), (cB, .byte)] [.ref x0, .int (nI (fFI k)), .int y9] [(x0, .inr (3, [.ref h0, .ref t0, .ref r0])), (h0, .inr (0, [.int (nI ty), .ref h1, .ref h2])), (h1, .inl (cI, 16, .inl (aN cnt))), (h2, .inl (cB, 208, .inl (aN mk)))] Hc) "java/lang/IllegalArgumentException" 1 6 := by
  refine XMet.ofW (cc := cC_at) (maxL := 4) (ret := (some .int)) (by decide) rfl ?_
  intro p e s m args below meth c s₁ Bd hml hno hv
  obtain ⟨rfl, hH, hG, hP, hK⟩ := hv
  subst hH
  have hx := Bd.exec
  have hb := Bd.bytes
  have hr := Bd.returns
  have hts := atoms_spec (ws := wsC_at) Bd.pre
  have hw : ∀ w ∈ BIG, w.before _ s = true := fun w h => hts w (List.mem_cons_of_mem _ h)
  have hown : s.vm.findClass RC = some m.cls := findClass_of_methodNamed Bd.named
  have hlocks := Bd.notSynchronized
  obtain ⟨A, hAe⟩ : ∃ A, A = zNew s.heap.size := ⟨_, rfl⟩
  have hA : ∀ q : Nat, s.heap.size ≤ q → A q := fun q h => by rw [hAe]; exact h
  rw [← hAe] at hG
  have hS : va_S A s.heap s.heap [] := va_S.rf
  have hl := lv_entry ([.ref x0, .int (nI (fFI k)), .int y9]) (n := 4) (Nat.le_of_ble_eq_true rfl)
  rw [lg_entry_eq]
  generalize (lg_sl ([.ref x0, .int (nI (fFI k)), .int y9]) ++ List.replicate (4 - (lg_sl ([.ref x0, .int (nI (fFI k)), .int y9])).length) Slot.unset).toArray = ls at hl ⊢
  have hl : lv_has ls 4 [(0, .ref x0), (1, .int (nI (fFI k))), (2, .int y9)] := hl
  refine zq_name (fun Q hQ => ?_)
  change W p l e rm_x_at_2 s m _ below meth c _ _ _ _ Q _
  refine lv_iload_n hx hb dC_at_0 rfl (lv_at hl 1 rfl) ?_
  refine zc_Ri (va_runS (As := [.int (nI (fFI k))]) (rest := []) ⟨hx, hb, hml, hown, hw⟩ (c_knownSlot_ok l dC dI cI cB k (by omega) s.heap) (va_cwS 1 hw (gSt w_ml_C_64 w_st_C_knownSlot w_in_C w_co_C_knownSlot) rfl rfl rfl (by decide +kernel) ⟨Nat.le_of_ble_eq_true rfl, Nat.le_of_ble_eq_true rfl⟩) (zR_S hG hS (hP.sub (ws' := []) [] rfl) hK) rfl rfl hl.1 rfl (lv_room (Nat.le_of_ble_eq_true rfl)) dC_at_1 ⟨Nat.le_of_ble_eq_true rfl, Nat.le_of_ble_eq_true rfl⟩) hS (fun r_1 locs h_1 hS => ?_)
  subst h_1
  refine lv_istore_n (lv' := [(3, .int (nI k)), (0, .ref x0), (1, .int (nI (fFI k))), (2, .int y9)]) hx hb dC_at_4 rfl hl (by decide) rfl (fun ls hl => ?_)
  refine lv_iload_n hx hb dC_at_5 rfl (lv_at hl 3 rfl) ?_
  refine lv_if_lt (tgt := 22) hx hb dC_at_6 (by decide) (fun c_6 => ?_) (fun c_6 => ?_)
  · obtain ⟨q9, hZ9⟩ := hG.x.2.2.1 (96, "there is no such digit or letter") (List.mem_of_getElem? (i := 5) rfl)
    subst hQ; exact zx_throw hx hb hml hl.1 hfl hown (hw _ w_cl_C_32) (hw _ w_is_IllegalArgumentException) (hw _ w_in_IllegalArgumentException) hZ9 (by decide) nX_fit (oa_I hw hG.x) hno hlocks hS.1 (fun q h9 => by have := hS.2.2 q h9; rw [hAe] at this; exact this) dC_at_22 dC_at_25 dC_at_26 dC_at_28 dC_at_31 (by decide) (by decide) (by decide) (by decide)
  · refine lv_iload_n hx hb dC_at_9 rfl (lv_at hl 3 rfl) ?_
    refine lv_aload_n hx hb dC_at_10 rfl (lv_at hl 1 rfl) ?_
    refine va_get (D := (dC, dI)) (ci := 3) (v := .ref h0) (C := RC) (T := TC) (N := 3) hx hb hw inC hown hK hP 0 rfl rfl 0 (by decide) (hw _ w_fl_C_10) (fun _ h9 => h9) rfl dC_at_11 ?_
    refine va_get (D := (dC, dI)) (ci := 0) (v := .ref h1) (C := RD) (T := TD) (N := 3) hx hb hw inD hown hK hP 1 rfl rfl 1 (by decide) (hw _ w_fl_C_89) (fun _ h9 => h9) rfl dC_at_14 ?_
    refine lv_iload_n hx hb dC_at_17 rfl (lv_at hl 0 rfl) ?_
    refine za_ild hx hb hK hP 2 0 rfl rfl (by omega) (by decide) dC_at_18 ?_
    refine lv_icmp_lt (tgt := 32) hx hb dC_at_19 (by decide) (fun q => False.elim ((hy.elim c_6 (fun h9 => absurd h9 (Int32.not_le.mpr q))))) (fun c_19 => ?_)
    obtain ⟨q9, hZ9⟩ := hG.x.2.2.1 (96, "there is no such digit or letter") (List.mem_of_getElem? (i := 5) rfl)
    subst hQ; exact zx_throw hx hb hml hl.1 hfl hown (hw _ w_cl_C_32) (hw _ w_is_IllegalArgumentException) (hw _ w_in_IllegalArgumentException) hZ9 (by decide) nX_fit (oa_I hw hG.x) hno hlocks hS.1 (fun q h9 => by have := hS.2.2 q h9; rw [hAe] at this; exact this) dC_at_22 dC_at_25 dC_at_26 dC_at_28 dC_at_31 (by decide) (by decide) (by decide) (by decide)
def rm_x_number_1 : Room := ({ frames := 8, cells := 1, slots := 6, locals := 133 } : Room)
set_option maxHeartbeats 4000000 in
set_option maxRecDepth 100000 in
theorem x_number_1 (l : Launch) (dC : Nat → ClassId) (dI : Nat → Nat → Nat) (x0 : Nat) (h0 : Nat) (t0 : Nat) (r0 : Nat) (cI : ClassId) (cB : ClassId) (x9 : Int32) (hx9 : ∀ j, j < 16 → nI (fFI j) ≠ x9) (hfl : l.flags = pinnedFlags ++ [noTraceFlag]) (Hc : Heap) : XMet l yC_number wsC_number rm_x_number_1 (zT (dC, dI) [(cI, .int), (cB, .byte)] [.ref x0, .int x9] [(x0, .inr (3, [.ref h0, .ref t0, .ref r0]))] Hc) "java/lang/IllegalArgumentException" 1 6 := by
  refine XMet.ofW (cc := cC_number) (maxL := 3) (ret := (some .long)) (by decide) rfl ?_
  intro p e s m args below meth c s₁ Bd hml hno hv
  obtain ⟨rfl, hH, hG, hP, hK⟩ := hv
  subst hH
  have hx := Bd.exec
  have hb := Bd.bytes
  have hr := Bd.returns
  have hts := atoms_spec (ws := wsC_number) Bd.pre
  have hw : ∀ w ∈ BIG, w.before _ s = true := fun w h => hts w (List.mem_cons_of_mem _ h)
  have hown : s.vm.findClass RC = some m.cls := findClass_of_methodNamed Bd.named
  have hlocks := Bd.notSynchronized
  obtain ⟨A, hAe⟩ : ∃ A, A = zNew s.heap.size := ⟨_, rfl⟩
  have hA : ∀ q : Nat, s.heap.size ≤ q → A q := fun q h => by rw [hAe]; exact h
  rw [← hAe] at hG
  have hS : va_S A s.heap s.heap [] := va_S.rf
  have hl := lv_entry ([.ref x0, .int x9]) (n := 3) (Nat.le_of_ble_eq_true rfl)
  rw [lg_entry_eq]
  generalize (lg_sl ([.ref x0, .int x9]) ++ List.replicate (3 - (lg_sl ([.ref x0, .int x9])).length) Slot.unset).toArray = ls at hl ⊢
  have hl : lv_has ls 3 [(0, .ref x0), (1, .int x9)] := hl
  refine zq_name (fun Q hQ => ?_)
  change W p l e rm_x_number_1 s m _ below meth c _ _ _ _ Q _
  refine lv_iload_n hx hb dC_number_0 rfl (lv_at hl 1 rfl) ?_
  refine zx_runS (As := [.int x9]) (rest := []) ⟨hx, hb, hml, hown, hw⟩ (x_digitSlot_1 l dC dI cI cB x9 hx9 hfl s.heap) (va_cwS 1 hw (gSt w_ml_C_43 w_st_C_digitSlot w_in_C w_co_C_digitSlot) rfl rfl rfl (by decide +kernel) ⟨Nat.le_of_ble_eq_true rfl, Nat.le_of_ble_eq_true rfl⟩) (zT_S hG hA hS (hP.sub (ws' := []) [] rfl) hK) rfl rfl hl.1 rfl (lv_room (Nat.le_of_ble_eq_true rfl)) dC_number_1 ⟨Nat.le_of_ble_eq_true rfl, Nat.le_of_ble_eq_true rfl⟩ (fun xa9 ce H9 hz9 hk9 hx1 hx2 hx3 => ?_)
  subst hAe; subst hQ; exact zx_out hno hlocks rfl rfl rfl hS.2.2 hx1 hx2 hx3
def rm_x_number_2 : Room := ({ frames := 8, cells := 1, slots := 6, locals := 133 } : Room)
set_option maxHeartbeats 4000000 in
set_option maxRecDepth 100000 in
theorem x_number_2 (l : Launch) (dC : Nat → ClassId) (dI : Nat → Nat → Nat) (x0 : Nat) (h0 : Nat) (t0 : Nat) (r0 : Nat) (cI : ClassId) (cB : ClassId) (k : Nat) (hk : k < 16) (hh : fHL k ≠ 0) (hfl : l.flags = pinnedFlags ++ [noTraceFlag]) (Hc : Heap) : XMet l yC_number wsC_number rm_x_number_2 (zT (dC, dI) [(cI, .int), (cB, .byte)] [.ref x0, .int (nI (fFI k))] [(x0, .inr (3, [.ref h0, .ref t0, .ref r0]))] Hc) "java/lang/IllegalArgumentException" 1 6 := by
  refine XMet.ofW (cc := cC_number) (maxL := 3) (ret := (some .long)) (by decide) rfl ?_
  intro p e s m args below meth c s₁ Bd hml hno hv
  obtain ⟨rfl, hH, hG, hP, hK⟩ := hv
  subst hH
  have hx := Bd.exec
  have hb := Bd.bytes
  have hr := Bd.returns
  have hts := atoms_spec (ws := wsC_number) Bd.pre
  have hw : ∀ w ∈ BIG, w.before _ s = true := fun w h => hts w (List.mem_cons_of_mem _ h)
  have hown : s.vm.findClass RC = some m.cls := findClass_of_methodNamed Bd.named
  have hlocks := Bd.notSynchronized
  obtain ⟨A, hAe⟩ : ∃ A, A = zNew s.heap.size := ⟨_, rfl⟩
  have hA : ∀ q : Nat, s.heap.size ≤ q → A q := fun q h => by rw [hAe]; exact h
  rw [← hAe] at hG
  have hS : va_S A s.heap s.heap [] := va_S.rf
  have hl := lv_entry ([.ref x0, .int (nI (fFI k))]) (n := 3) (Nat.le_of_ble_eq_true rfl)
  rw [lg_entry_eq]
  generalize (lg_sl ([.ref x0, .int (nI (fFI k))]) ++ List.replicate (3 - (lg_sl ([.ref x0, .int (nI (fFI k))])).length) Slot.unset).toArray = ls at hl ⊢
  have hl : lv_has ls 3 [(0, .ref x0), (1, .int (nI (fFI k)))] := hl
  refine zq_name (fun Q hQ => ?_)
  change W p l e rm_x_number_2 s m _ below meth c _ _ _ _ Q _
  refine lv_iload_n hx hb dC_number_0 rfl (lv_at hl 1 rfl) ?_
  refine zx_runS (As := [.int (nI (fFI k))]) (rest := []) ⟨hx, hb, hml, hown, hw⟩ (x_digitSlot_2 l dC dI cI cB k (by omega) hh hfl s.heap) (va_cwS 1 hw (gSt w_ml_C_43 w_st_C_digitSlot w_in_C w_co_C_digitSlot) rfl rfl rfl (by decide +kernel) ⟨Nat.le_of_ble_eq_true rfl, Nat.le_of_ble_eq_true rfl⟩) (zT_S hG hA hS (hP.sub (ws' := []) [] rfl) hK) rfl rfl hl.1 rfl (lv_room (Nat.le_of_ble_eq_true rfl)) dC_number_1 ⟨Nat.le_of_ble_eq_true rfl, Nat.le_of_ble_eq_true rfl⟩ (fun xa9 ce H9 hz9 hk9 hx1 hx2 hx3 => ?_)
  subst hAe; subst hQ; exact zx_out hno hlocks rfl rfl rfl hS.2.2 hx1 hx2 hx3
def rm_x_feed : Room := ({ frames := 6, cells := 1, slots := 6, locals := 91 } : Room)
set_option maxHeartbeats 4000000 in
set_option maxRecDepth 100000 in
theorem x_feed (l : Launch) (dC : Nat → ClassId) (dI : Nat → Nat → Nat) (x0 : Nat) (cI : ClassId) (cB : ClassId) (t0 : Nat) (t1 : Nat) (len : Nat) (tp : Nat → Nat) (h0 : Nat) (r0 : Nat) (v : Int32) (hl9 : 400 < len + 4) (hln : len ≤ 400) (hfl : l.flags = pinnedFlags ++ [noTraceFlag]) (Hc : Heap) : XMet l yC_feed wsC_feed rm_x_feed (zT (dC, dI) [(cI, .int), (cB, .byte)] [.ref x0, .int v] [(x0, .inr (3, [.ref h0, .ref t0, .ref r0])), (t0, .inr (2, [.ref t1, .int (nI len)])), (t1, .inl (cB, 400, .inl (aB tp)))] Hc) "java/lang/IllegalStateException" 1 6 := by
  refine XMet.ofW (cc := cC_feed) (maxL := 3) (ret := (some .int)) (by decide) rfl ?_
  intro p e s m args below meth c s₁ Bd hml hno hv
  obtain ⟨rfl, hH, hG, hP, hK⟩ := hv
  subst hH
  have hx := Bd.exec
  have hb := Bd.bytes
  have hr := Bd.returns
  have hts := atoms_spec (ws := wsC_feed) Bd.pre
  have hw : ∀ w ∈ BIG, w.before _ s = true := fun w h => hts w (List.mem_cons_of_mem _ h)
  have hown : s.vm.findClass RC = some m.cls := findClass_of_methodNamed Bd.named
  have hlocks := Bd.notSynchronized
  obtain ⟨A, hAe⟩ : ∃ A, A = zNew s.heap.size := ⟨_, rfl⟩
  have hA : ∀ q : Nat, s.heap.size ≤ q → A q := fun q h => by rw [hAe]; exact h
  rw [← hAe] at hG
  have hS : va_S A s.heap s.heap [] := va_S.rf
  have hl := lv_entry ([.ref x0, .int v]) (n := 3) (Nat.le_of_ble_eq_true rfl)
  rw [lg_entry_eq]
  generalize (lg_sl ([.ref x0, .int v]) ++ List.replicate (3 - (lg_sl ([.ref x0, .int v])).length) Slot.unset).toArray = ls at hl ⊢
  have hl : lv_has ls 3 [(0, .ref x0), (1, .int v)] := hl
  refine zq_name (fun Q hQ => ?_)
  change W p l e rm_x_feed s m _ below meth c _ _ _ _ Q _
  refine lv_aload_n hx hb dC_feed_0 rfl (lv_at hl 0 rfl) ?_
  refine va_get (D := (dC, dI)) (ci := 3) (v := .ref t0) (C := RC) (T := TC) (N := 3) hx hb hw inC hown hK hP 0 rfl rfl 1 (by decide) (hw _ w_fl_C_19) (fun _ h9 => h9) rfl dC_feed_1 ?_
  refine va_get (D := (dC, dI)) (ci := 2) (v := .int (nI len)) (C := RT) (T := TT) (N := 2) hx hb hw inT hown hK hP 1 rfl rfl 1 (by decide) (hw _ w_fl_C_116) (fun _ h9 => h9) rfl dC_feed_4 ?_
  refine lv_iconst (v := nI 4) hx hb dC_feed_7 (by decide) ?_
  refine zi_add hx hb dC_feed_8 ?_
  refine lv_sipush (v := nI 400) hx hb dC_feed_9 (by decide) ?_
  refine zi_le (tgt := 25) hx hb (by omega) (by omega) dC_feed_12 (by decide) (fun q => False.elim ((by omega))) (fun c_12 => ?_)
  obtain ⟨q9, hZ9⟩ := hG.x.2.2.1 (121, "a tape has at most 400 bytes") (List.mem_of_getElem? (i := 6) rfl)
  subst hQ; exact zx_throw hx hb hml hl.1 hfl hown (hw _ w_cl_C_119) (hw _ w_is_IllegalStateException) (hw _ w_in_IllegalStateException) hZ9 (by decide) nX_fit (oa_S hw hG.x) hno hlocks hS.1 (fun q h9 => by have := hS.2.2 q h9; rw [hAe] at this; exact this) dC_feed_15 dC_feed_18 dC_feed_19 dC_feed_21 dC_feed_24 (by decide) (by decide) (by decide) (by decide)
def rm_x_trim : Room := ({ frames := 6, cells := 1, slots := 6, locals := 91 } : Room)
set_option maxHeartbeats 4000000 in
set_option maxRecDepth 100000 in
theorem x_trim (l : Launch) (dC : Nat → ClassId) (dI : Nat → Nat → Nat) (x0 : Nat) (cI : ClassId) (cB : ClassId) (t0 : Nat) (t1 : Nat) (len : Nat) (tp : Nat → Nat) (h0 : Nat) (r0 : Nat) (x9 : Int32) (hx9 : x9 < 0 ∨ nI len < x9) (hln : len ≤ 400) (hfl : l.flags = pinnedFlags ++ [noTraceFlag]) (Hc : Heap) : XMet l yC_trim wsC_trim rm_x_trim (zT (dC, dI) [(cI, .int), (cB, .byte)] [.ref x0, .int x9] [(x0, .inr (3, [.ref h0, .ref t0, .ref r0])), (t0, .inr (2, [.ref t1, .int (nI len)])), (t1, .inl (cB, 400, .inl (aB tp)))] Hc) "java/lang/IllegalArgumentException" 1 6 := by
  refine XMet.ofW (cc := cC_trim) (maxL := 2) (ret := (some .int)) (by decide) rfl ?_
  intro p e s m args below meth c s₁ Bd hml hno hv
  obtain ⟨rfl, hH, hG, hP, hK⟩ := hv
  subst hH
  have hx := Bd.exec
  have hb := Bd.bytes
  have hr := Bd.returns
  have hts := atoms_spec (ws := wsC_trim) Bd.pre
  have hw : ∀ w ∈ BIG, w.before _ s = true := fun w h => hts w (List.mem_cons_of_mem _ h)
  have hown : s.vm.findClass RC = some m.cls := findClass_of_methodNamed Bd.named
  have hlocks := Bd.notSynchronized
  obtain ⟨A, hAe⟩ : ∃ A, A = zNew s.heap.size := ⟨_, rfl⟩
  have hA : ∀ q : Nat, s.heap.size ≤ q → A q := fun q h => by rw [hAe]; exact h
  rw [← hAe] at hG
  have hS : va_S A s.heap s.heap [] := va_S.rf
  have hl := lv_entry ([.ref x0, .int x9]) (n := 2) (Nat.le_of_ble_eq_true rfl)
  rw [lg_entry_eq]
  generalize (lg_sl ([.ref x0, .int x9]) ++ List.replicate (2 - (lg_sl ([.ref x0, .int x9])).length) Slot.unset).toArray = ls at hl ⊢
  have hl : lv_has ls 2 [(0, .ref x0), (1, .int x9)] := hl
  refine zq_name (fun Q hQ => ?_)
  change W p l e rm_x_trim s m _ below meth c _ _ _ _ Q _
  refine lv_iload_n hx hb dC_trim_0 rfl (lv_at hl 1 rfl) ?_
  refine lv_if_lt (tgt := 15) hx hb dC_trim_1 (by decide) (fun c_1 => ?_) (fun c_1 => ?_)
  · obtain ⟨q9, hZ9⟩ := hG.x.2.2.1 (127, "there are not so many bytes") (List.mem_of_getElem? (i := 7) rfl)
    subst hQ; exact zx_throw hx hb hml hl.1 hfl hown (hw _ w_cl_C_32) (hw _ w_is_IllegalArgumentException) (hw _ w_in_IllegalArgumentException) hZ9 (by decide) nX_fit (oa_I hw hG.x) hno hlocks hS.1 (fun q h9 => by have := hS.2.2 q h9; rw [hAe] at this; exact this) dC_trim_15 dC_trim_18 dC_trim_19 dC_trim_21 dC_trim_24 (by decide) (by decide) (by decide) (by decide)
  · refine lv_iload_n hx hb dC_trim_4 rfl (lv_at hl 1 rfl) ?_
    refine lv_aload_n hx hb dC_trim_5 rfl (lv_at hl 0 rfl) ?_
    refine va_get (D := (dC, dI)) (ci := 3) (v := .ref t0) (C := RC) (T := TC) (N := 3) hx hb hw inC hown hK hP 0 rfl rfl 1 (by decide) (hw _ w_fl_C_19) (fun _ h9 => h9) rfl dC_trim_6 ?_
    refine va_get (D := (dC, dI)) (ci := 2) (v := .int (nI len)) (C := RT) (T := TT) (N := 2) hx hb hw inT hown hK hP 1 rfl rfl 1 (by decide) (hw _ w_fl_C_116) (fun _ h9 => h9) rfl dC_trim_9 ?_
    refine lv_icmp_le (tgt := 25) hx hb dC_trim_12 (by decide) (fun q => False.elim ((hx9.elim c_1 (fun h9 => absurd q (Int32.not_le.mpr h9))))) (fun c_12 => ?_)
    obtain ⟨q9, hZ9⟩ := hG.x.2.2.1 (127, "there are not so many bytes") (List.mem_of_getElem? (i := 7) rfl)
    subst hQ; exact zx_throw hx hb hml hl.1 hfl hown (hw _ w_cl_C_32) (hw _ w_is_IllegalArgumentException) (hw _ w_in_IllegalArgumentException) hZ9 (by decide) nX_fit (oa_I hw hG.x) hno hlocks hS.1 (fun q h9 => by have := hS.2.2 q h9; rw [hAe] at this; exact this) dC_trim_15 dC_trim_18 dC_trim_19 dC_trim_21 dC_trim_24 (by decide) (by decide) (by decide) (by decide)
def rm_x_spoil : Room := ({ frames := 6, cells := 1, slots := 6, locals := 91 } : Room)
set_option maxHeartbeats 4000000 in
set_option maxRecDepth 100000 in
theorem x_spoil (l : Launch) (dC : Nat → ClassId) (dI : Nat → Nat → Nat) (x0 : Nat) (cI : ClassId) (cB : ClassId) (t0 : Nat) (t1 : Nat) (len : Nat) (tp : Nat → Nat) (h0 : Nat) (r0 : Nat) (x1 : Int32) (x2 : Int32) (hx9 : x1 < 0 ∨ nI len ≤ x1 ∨ x2 < 0 ∨ nI 255 < x2) (hfl : l.flags = pinnedFlags ++ [noTraceFlag]) (Hc : Heap) : XMet l yC_spoil wsC_spoil rm_x_spoil (zT (dC, dI) [(cI, .int), (cB, .byte)] [.ref x0, .int x1, .int x2] [(x0, .inr (3, [.ref h0, .ref t0, .ref r0])), (t0, .inr (2, [.ref t1, .int (nI len)])), (t1, .inl (cB, 400, .inl (aB tp)))] Hc) "java/lang/IllegalArgumentException" 1 6 := by
  refine XMet.ofW (cc := cC_spoil) (maxL := 3) (ret := (some .int)) (by decide) rfl ?_
  intro p e s m args below meth c s₁ Bd hml hno hv
  obtain ⟨rfl, hH, hG, hP, hK⟩ := hv
  subst hH
  have hx := Bd.exec
  have hb := Bd.bytes
  have hr := Bd.returns
  have hts := atoms_spec (ws := wsC_spoil) Bd.pre
  have hw : ∀ w ∈ BIG, w.before _ s = true := fun w h => hts w (List.mem_cons_of_mem _ h)
  have hown : s.vm.findClass RC = some m.cls := findClass_of_methodNamed Bd.named
  have hlocks := Bd.notSynchronized
  obtain ⟨A, hAe⟩ : ∃ A, A = zNew s.heap.size := ⟨_, rfl⟩
  have hA : ∀ q : Nat, s.heap.size ≤ q → A q := fun q h => by rw [hAe]; exact h
  rw [← hAe] at hG
  have hS : va_S A s.heap s.heap [] := va_S.rf
  have hl := lv_entry ([.ref x0, .int x1, .int x2]) (n := 3) (Nat.le_of_ble_eq_true rfl)
  rw [lg_entry_eq]
  generalize (lg_sl ([.ref x0, .int x1, .int x2]) ++ List.replicate (3 - (lg_sl ([.ref x0, .int x1, .int x2])).length) Slot.unset).toArray = ls at hl ⊢
  have hl : lv_has ls 3 [(0, .ref x0), (1, .int x1), (2, .int x2)] := hl
  refine zq_name (fun Q hQ => ?_)
  change W p l e rm_x_spoil s m _ below meth c _ _ _ _ Q _
  refine lv_iload_n hx hb dC_spoil_0 rfl (lv_at hl 1 rfl) ?_
  refine lv_if_lt (tgt := 26) hx hb dC_spoil_1 (by decide) (fun c_1 => ?_) (fun c_1 => ?_)
  · obtain ⟨q9, hZ9⟩ := hG.x.2.2.1 (129, "no such byte, or x is not 0 .. 255") (List.mem_of_getElem? (i := 8) rfl)
    subst hQ; exact zx_throw hx hb hml hl.1 hfl hown (hw _ w_cl_C_32) (hw _ w_is_IllegalArgumentException) (hw _ w_in_IllegalArgumentException) hZ9 (by decide) nX_fit (oa_I hw hG.x) hno hlocks hS.1 (fun q h9 => by have := hS.2.2 q h9; rw [hAe] at this; exact this) dC_spoil_26 dC_spoil_29 dC_spoil_30 dC_spoil_32 dC_spoil_35 (by decide) (by decide) (by decide) (by decide)
  · refine lv_iload_n hx hb dC_spoil_4 rfl (lv_at hl 1 rfl) ?_
    refine lv_aload_n hx hb dC_spoil_5 rfl (lv_at hl 0 rfl) ?_
    refine va_get (D := (dC, dI)) (ci := 3) (v := .ref t0) (C := RC) (T := TC) (N := 3) hx hb hw inC hown hK hP 0 rfl rfl 1 (by decide) (hw _ w_fl_C_19) (fun _ h9 => h9) rfl dC_spoil_6 ?_
    refine va_get (D := (dC, dI)) (ci := 2) (v := .int (nI len)) (C := RT) (T := TT) (N := 2) hx hb hw inT hown hK hP 1 rfl rfl 1 (by decide) (hw _ w_fl_C_116) (fun _ h9 => h9) rfl dC_spoil_9 ?_
    refine lv_icmp_ge (tgt := 26) hx hb dC_spoil_12 (by decide) (fun c_12 => ?_) (fun c_12 => ?_)
    · obtain ⟨q9, hZ9⟩ := hG.x.2.2.1 (129, "no such byte, or x is not 0 .. 255") (List.mem_of_getElem? (i := 8) rfl)
      subst hQ; exact zx_throw hx hb hml hl.1 hfl hown (hw _ w_cl_C_32) (hw _ w_is_IllegalArgumentException) (hw _ w_in_IllegalArgumentException) hZ9 (by decide) nX_fit (oa_I hw hG.x) hno hlocks hS.1 (fun q h9 => by have := hS.2.2 q h9; rw [hAe] at this; exact this) dC_spoil_26 dC_spoil_29 dC_spoil_30 dC_spoil_32 dC_spoil_35 (by decide) (by decide) (by decide) (by decide)
    · refine lv_iload_n hx hb dC_spoil_15 rfl (lv_at hl 2 rfl) ?_
      refine lv_if_lt (tgt := 26) hx hb dC_spoil_16 (by decide) (fun c_16 => ?_) (fun c_16 => ?_)
      · obtain ⟨q9, hZ9⟩ := hG.x.2.2.1 (129, "no such byte, or x is not 0 .. 255") (List.mem_of_getElem? (i := 8) rfl)
        subst hQ; exact zx_throw hx hb hml hl.1 hfl hown (hw _ w_cl_C_32) (hw _ w_is_IllegalArgumentException) (hw _ w_in_IllegalArgumentException) hZ9 (by decide) nX_fit (oa_I hw hG.x) hno hlocks hS.1 (fun q h9 => by have := hS.2.2 q h9; rw [hAe] at this; exact this) dC_spoil_26 dC_spoil_29 dC_spoil_30 dC_spoil_32 dC_spoil_35 (by decide) (by decide) (by decide) (by decide)
      · refine lv_iload_n hx hb dC_spoil_19 rfl (lv_at hl 2 rfl) ?_
        refine lv_sipush (v := nI 255) hx hb dC_spoil_20 (by decide) ?_
        refine lv_icmp_le (tgt := 36) hx hb dC_spoil_23 (by decide) (fun q => False.elim ((by rcases hx9 with h | h | h | h <;> first | contradiction | exact absurd q (Int32.not_le.mpr h)))) (fun c_23 => ?_)
        obtain ⟨q9, hZ9⟩ := hG.x.2.2.1 (129, "no such byte, or x is not 0 .. 255") (List.mem_of_getElem? (i := 8) rfl)
        subst hQ; exact zx_throw hx hb hml hl.1 hfl hown (hw _ w_cl_C_32) (hw _ w_is_IllegalArgumentException) (hw _ w_in_IllegalArgumentException) hZ9 (by decide) nX_fit (oa_I hw hG.x) hno hlocks hS.1 (fun q h9 => by have := hS.2.2 q h9; rw [hAe] at this; exact this) dC_spoil_26 dC_spoil_29 dC_spoil_30 dC_spoil_32 dC_spoil_35 (by decide) (by decide) (by decide) (by decide)
def rm_x_fault : Room := ({ frames := 6, cells := 1, slots := 6, locals := 136 } : Room)
set_option maxHeartbeats 4000000 in
set_option maxRecDepth 100000 in
theorem x_fault (l : Launch) (dC : Nat → ClassId) (dI : Nat → Nat → Nat) (x0 : Nat) (h0 : Nat) (t0 : Nat) (r0 : Nat) (cI : ClassId) (cB : ClassId) (x9 : Int32) (hx9 : x9 ≠ 0 ∧ x9 ≠ 1) (hfl : l.flags = pinnedFlags ++ [noTraceFlag]) (Hc : Heap) : XMet l yC_fault wsC_fault rm_x_fault (zT (dC, dI) [(cI, .int), (cB, .byte)] [.ref x0, .int x9] [(x0, .inr (3, [.ref h0, .ref t0, .ref r0]))] Hc) "java/lang/IllegalArgumentException" 1 6 := by
  refine XMet.ofW (cc := cC_fault) (maxL := 2) (ret := (some .int)) (by decide) rfl ?_
  intro p e s m args below meth c s₁ Bd hml hno hv
  obtain ⟨rfl, hH, hG, hP, hK⟩ := hv
  subst hH
  have hx := Bd.exec
  have hb := Bd.bytes
  have hr := Bd.returns
  have hts := atoms_spec (ws := wsC_fault) Bd.pre
  have hw : ∀ w ∈ BIG, w.before _ s = true := fun w h => hts w (List.mem_cons_of_mem _ h)
  have hown : s.vm.findClass RC = some m.cls := findClass_of_methodNamed Bd.named
  have hlocks := Bd.notSynchronized
  obtain ⟨A, hAe⟩ : ∃ A, A = zNew s.heap.size := ⟨_, rfl⟩
  have hA : ∀ q : Nat, s.heap.size ≤ q → A q := fun q h => by rw [hAe]; exact h
  rw [← hAe] at hG
  have hS : va_S A s.heap s.heap [] := va_S.rf
  have hl := lv_entry ([.ref x0, .int x9]) (n := 2) (Nat.le_of_ble_eq_true rfl)
  rw [lg_entry_eq]
  generalize (lg_sl ([.ref x0, .int x9]) ++ List.replicate (2 - (lg_sl ([.ref x0, .int x9])).length) Slot.unset).toArray = ls at hl ⊢
  have hl : lv_has ls 2 [(0, .ref x0), (1, .int x9)] := hl
  refine zq_name (fun Q hQ => ?_)
  change W p l e rm_x_fault s m _ below meth c _ _ _ _ Q _
  refine lv_iload_n hx hb dC_fault_0 rfl (lv_at hl 1 rfl) ?_
  refine lv_if_eq (tgt := 19) hx hb dC_fault_1 (by decide) (fun q => False.elim ((hx9.1 q))) (fun c_1 => ?_)
  refine lv_iload_n hx hb dC_fault_4 rfl (lv_at hl 1 rfl) ?_
  refine lv_iconst (v := nI 1) hx hb dC_fault_5 (by decide) ?_
  refine lv_icmp_eq (tgt := 19) hx hb dC_fault_6 (by decide) (fun q => False.elim ((hx9.2 q))) (fun c_6 => ?_)
  obtain ⟨q9, hZ9⟩ := hG.x.2.2.1 (138, "what is 0 or 1") (List.mem_of_getElem? (i := 9) rfl)
  subst hQ; exact zx_throw hx hb hml hl.1 hfl hown (hw _ w_cl_C_32) (hw _ w_is_IllegalArgumentException) (hw _ w_in_IllegalArgumentException) hZ9 (by decide) nX_fit (oa_I hw hG.x) hno hlocks hS.1 (fun q h9 => by have := hS.2.2 q h9; rw [hAe] at this; exact this) dC_fault_9 dC_fault_12 dC_fault_13 dC_fault_15 dC_fault_18 (by decide) (by decide) (by decide) (by decide)
