def rm_c_knownSlot_ok : Room := ({ frames := 6, cells := 0, slots := 0, locals := 91 } : Room)
set_option maxHeartbeats 4000000 in
set_option maxRecDepth 100000 in
theorem c_knownSlot_ok (l : Launch) (dC : Nat → ClassId) (dI : Nat → Nat → Nat) (cI : ClassId) (cB : ClassId) (k : Nat) (hk : k < 16) (Hc : Heap) : Met l yC_knownSlot wsC_knownSlot rm_c_knownSlot_ok (zR (dC, dI) [(cI, .int), (cB, .byte)] [.int (nI (fFI k))] [] Hc) (zRi Hc (fun r => r = nI k)) 0 0 zNo := by
  refine Met.ofW (cc := cC_knownSlot) (maxL := 2) (ret := (some .int)) (by decide) rfl ?_
  intro p e s m args below meth c s₁ Bd hml hv
  obtain ⟨rfl, hH, hG, hP, hK⟩ := hv
  subst hH
  have hx := Bd.exec
  have hb := Bd.bytes
  have hr := Bd.returns
  have hts := atoms_spec (ws := wsC_knownSlot) Bd.pre
  have hw : ∀ w ∈ BIG, w.before _ s = true := fun w h => hts w (List.mem_cons_of_mem _ h)
  have hown : s.vm.findClass RC = some m.cls := findClass_of_methodNamed Bd.named
  have hlocks := Bd.notSynchronized
  have hS : va_S zNo s.heap s.heap [] := va_S.rf
  have hl := lv_entry ([.int (nI (fFI k))]) (n := 2) (Nat.le_of_ble_eq_true rfl)
  rw [lg_entry_eq]
  generalize (lg_sl ([.int (nI (fFI k))]) ++ List.replicate (2 - (lg_sl ([.int (nI (fFI k))])).length) Slot.unset).toArray = ls at hl ⊢
  have hl : lv_has ls 2 [(0, .int (nI (fFI k)))] := hl
  refine zq_name (fun Q hQ => ?_)
  change W p l e rm_c_knownSlot_ok s m _ below meth c _ _ _ _ Q _
  obtain ⟨tfFI, zfFI, afFI⟩ := hG.FIELDS
  have hf2 := fFI_b k hk
  refine lv_iconst (v := nI 0) hx hb dC_knownSlot_0 (by decide) ?_
  refine lv_istore_n (lv' := [(1, .int (nI 0)), (0, .int (nI (fFI k)))]) hx hb dC_knownSlot_1 rfl hl (by decide) rfl (fun ls hl => ?_)
  have lp_2 : ∀ (fu : Nat) (j : Nat) (hj : j ≤ k) (hms : 16 - j < fu) (locs : List Loc) (ls : Array Slot), lv_has ls 2 [(0, .int (nI (fFI k))), (1, .int (nI j))] → va_S zNo s.heap s.heap locs → W p l e rm_c_knownSlot_ok s m ([.int (nI (fFI k))] : List Value).toArray below meth c s.heap locs 0 0 Q (F0 m 2 ls []) := by
    intro fu
    induction fu with
    | zero => intro j hj hms; exact absurd hms (Nat.not_lt_zero _)
    | succ fu ih2 =>
      intro j hj hms locs ls hl hS
      refine lv_iload_n hx hb dC_knownSlot_2 rfl (lv_at hl 1 rfl) ?_
      refine lv_bipush (v := nI 16) hx hb dC_knownSlot_3 (by decide) ?_
      refine zi_ge (tgt := 25) hx hb (by omega) (by omega) dC_knownSlot_5 (by decide) (fun q => False.elim ((by omega))) (fun c_5 => ?_)
      have hf1 := fFI_b j (by omega)
      refine va_gets hx hb zfFI hS hown (hw _ w_fl_C_156) (fun _ h9 => h9) dC_knownSlot_8 ?_
      refine lv_iload_n hx hb dC_knownSlot_11 rfl (lv_at hl 1 rfl) ?_
      refine za_tab hx hb afFI hS (by omega) (by decide) dC_knownSlot_12 ?_
      refine lv_iload_n hx hb dC_knownSlot_13 rfl (lv_at hl 0 rfl) ?_
      refine zi_ne (tgt := 19) hx hb (by omega) (by omega) dC_knownSlot_14 (by decide) (fun c_14 => ?_) (fun c_14 => ?_)
      · refine lv_iinc (v := nI (j + 1)) (lv' := [(1, .int (nI (j + 1))), (0, .int (nI (fFI k)))]) hx hb dC_knownSlot_19 hl (k := 1) rfl (zi_incr j 1) (by decide) rfl (fun ls hl => ?_)
        refine lv_goto (tgt := 2) hx hb dC_knownSlot_22 (by decide) ?_
        exact ih2 (j + 1) (by rcases Nat.lt_or_ge j k with h9 | h9; exact h9; exact absurd (by rw [show j = k by omega]) c_14) (by omega) _ _ (lv_sub hl [1, 0] rfl) hS
      · obtain rfl := fFI_inj j (by omega) k hk c_14
        refine lv_iload_n hx hb dC_knownSlot_17 rfl (lv_at hl 1 rfl) ?_
        subst hQ
        exact W.iret (v := nI j) hx hb hr (fun t ht hW => ⟨⟨nI j, (), rfl, rfl, ht⟩, hS.F ht⟩) hS.2.2 dC_knownSlot_18
  exact lp_2 ((16 - 0) + 1) 0 (by omega) (Nat.lt_succ_self _) _ _ (lv_sub hl [1, 0] rfl) hS
def rm_c_digitSlot_ok : Room := ({ frames := 7, cells := 0, slots := 0, locals := 112 } : Room)
set_option maxHeartbeats 4000000 in
set_option maxRecDepth 100000 in
theorem c_digitSlot_ok (l : Launch) (dC : Nat → ClassId) (dI : Nat → Nat → Nat) (cI : ClassId) (cB : ClassId) (k : Nat) (hk : k < 16) (hh : fHL k = 0) (Hc : Heap) : Met l yC_digitSlot wsC_digitSlot rm_c_digitSlot_ok (zR (dC, dI) [(cI, .int), (cB, .byte)] [.int (nI (fFI k))] [] Hc) (zRi Hc (fun r => r = nI k)) 0 0 zNo := by
  refine Met.ofW (cc := cC_digitSlot) (maxL := 2) (ret := (some .int)) (by decide) rfl ?_
  intro p e s m args below meth c s₁ Bd hml hv
  obtain ⟨rfl, hH, hG, hP, hK⟩ := hv
  subst hH
  have hx := Bd.exec
  have hb := Bd.bytes
  have hr := Bd.returns
  have hts := atoms_spec (ws := wsC_digitSlot) Bd.pre
  have hw : ∀ w ∈ BIG, w.before _ s = true := fun w h => hts w (List.mem_cons_of_mem _ h)
  have hown : s.vm.findClass RC = some m.cls := findClass_of_methodNamed Bd.named
  have hlocks := Bd.notSynchronized
  have hS : va_S zNo s.heap s.heap [] := va_S.rf
  have hl := lv_entry ([.int (nI (fFI k))]) (n := 2) (Nat.le_of_ble_eq_true rfl)
  rw [lg_entry_eq]
  generalize (lg_sl ([.int (nI (fFI k))]) ++ List.replicate (2 - (lg_sl ([.int (nI (fFI k))])).length) Slot.unset).toArray = ls at hl ⊢
  have hl : lv_has ls 2 [(0, .int (nI (fFI k)))] := hl
  refine zq_name (fun Q hQ => ?_)
  change W p l e rm_c_digitSlot_ok s m _ below meth c _ _ _ _ Q _
  obtain ⟨tfHL, zfHL, afHL⟩ := hG.HAS_LETTERS
  have hh9 := fHL_b k hk
  refine lv_iload_n hx hb dC_digitSlot_0 rfl (lv_at hl 0 rfl) ?_
  refine zc_Ri (va_runS (As := [.int (nI (fFI k))]) (rest := []) ⟨hx, hb, hml, hown, hw⟩ (c_knownSlot_ok l dC dI cI cB k (by omega) s.heap) (va_cwS 1 hw (gSt w_ml_C_64 w_st_C_knownSlot w_in_C w_co_C_knownSlot) rfl rfl rfl (by decide +kernel) ⟨Nat.le_of_ble_eq_true rfl, Nat.le_of_ble_eq_true rfl⟩) (zR_S hG hS (hP.sub (ws' := []) [] rfl) hK) rfl rfl hl.1 rfl (lv_room (Nat.le_of_ble_eq_true rfl)) dC_digitSlot_1 ⟨Nat.le_of_ble_eq_true rfl, Nat.le_of_ble_eq_true rfl⟩) hS (fun r_1 locs h_1 hS => ?_)
  subst h_1
  refine lv_istore_n (lv' := [(1, .int (nI k)), (0, .int (nI (fFI k)))]) hx hb dC_digitSlot_4 rfl hl (by decide) rfl (fun ls hl => ?_)
  refine va_gets hx hb zfHL hS hown (hw _ w_fl_C_67) (fun _ h9 => h9) dC_digitSlot_5 ?_
  refine lv_iload_n hx hb dC_digitSlot_8 rfl (lv_at hl 0 rfl) ?_
  refine za_tab hx hb afHL hS (by omega) (by decide) dC_digitSlot_9 ?_
  refine zi_eq0 (tgt := 23) hx hb (by omega) dC_digitSlot_10 (by decide) (fun c_10 => ?_) (fun q => False.elim ((q hh)))
  refine lv_iload_n hx hb dC_digitSlot_23 rfl (lv_at hl 0 rfl) ?_
  subst hQ
  exact W.iret (v := nI k) hx hb hr (fun t ht hW => ⟨⟨nI k, (), rfl, rfl, ht⟩, hS.F ht⟩) hS.2.2 dC_digitSlot_24
def rm_c_digitCount_ok : Room := ({ frames := 0, cells := 0, slots := 0, locals := 0 } : Room)
set_option maxHeartbeats 4000000 in
set_option maxRecDepth 100000 in
theorem c_digitCount_ok (l : Launch) (dC : Nat → ClassId) (dI : Nat → Nat → Nat) (cI : ClassId) (cB : ClassId) (n : Nat) (hn : n < 2 ^ 63) (Hc : Heap) : Met l yC_digitCount wsC_digitCount rm_c_digitCount_ok (zR (dC, dI) [(cI, .int), (cB, .byte)] [.long (lN n)] [] Hc) (zRi Hc (fun r => r = nI (dcn n))) 0 0 zNo := by
  refine Met.ofW (cc := cC_digitCount) (maxL := 5) (ret := (some .int)) (by decide) rfl ?_
  intro p e s m args below meth c s₁ Bd hml hv
  obtain ⟨rfl, hH, hG, hP, hK⟩ := hv
  subst hH
  have hx := Bd.exec
  have hb := Bd.bytes
  have hr := Bd.returns
  have hts := atoms_spec (ws := wsC_digitCount) Bd.pre
  have hw : ∀ w ∈ BIG, w.before _ s = true := fun w h => hts w (List.mem_cons_of_mem _ h)
  have hown : s.vm.findClass RC = some m.cls := findClass_of_methodNamed Bd.named
  have hlocks := Bd.notSynchronized
  have hS : va_S zNo s.heap s.heap [] := va_S.rf
  have hl := lv_entry ([.long (lN n)]) (n := 5) (Nat.le_of_ble_eq_true rfl)
  rw [lg_entry_eq]
  generalize (lg_sl ([.long (lN n)]) ++ List.replicate (5 - (lg_sl ([.long (lN n)])).length) Slot.unset).toArray = ls at hl ⊢
  have hl : lv_has ls 5 [(0, .long (lN n))] := hl
  refine zq_name (fun Q hQ => ?_)
  change W p l e rm_c_digitCount_ok s m _ below meth c _ _ _ _ Q _
  refine lv_lload_n hx hb dC_digitCount_0 rfl (lv_at hl 0 rfl) ?_
  refine lv_lstore_n (lv' := [(2, .long (lN n)), (0, .long (lN n))]) hx hb dC_digitCount_1 rfl hl (by decide) rfl (fun ls hl => ?_)
  refine lv_iconst (v := nI 1) hx hb dC_digitCount_2 (by decide) ?_
  refine lv_istore (lv' := [(4, .int (nI 1)), (2, .long (lN n)), (0, .long (lN n))]) hx hb dC_digitCount_3 hl (by decide) rfl (fun ls hl => ?_)
  have lp_5 : ∀ (fu : Nat) (c9 : Nat) (r : Nat) (hc1 : 1 ≤ c9) (hc : c9 ≤ 19) (hr9 : r < 2 ^ 63) (hi : dcF (19 - c9) r c9 = dcn n) (hms : 19 - c9 < fu) (locs : List Loc) (ls : Array Slot), lv_has ls 5 [(2, .long (lN r)), (4, .int (nI c9))] → va_S zNo s.heap s.heap locs → W p l e rm_c_digitCount_ok s m ([.long (lN n)] : List Value).toArray below meth c s.heap locs 0 0 Q (F0 m 5 ls []) := by
    intro fu
    induction fu with
    | zero => intro c9 r hc1 hc hr9 hi hms; exact absurd hms (Nat.not_lt_zero _)
    | succ fu ih5 =>
      intro c9 r hc1 hc hr9 hi hms locs ls hl hS
      refine lv_iload hx hb dC_digitCount_5 (lv_at hl 1 rfl) ?_
      refine lv_bipush (v := nI 19) hx hb dC_digitCount_7 (by decide) ?_
      refine zi_ge (tgt := 33) hx hb (by omega) (by omega) dC_digitCount_9 (by decide) (fun c_9 => ?_) (fun c_9 => ?_)
      · refine lv_bipush (v := nI 19) hx hb dC_digitCount_33 (by decide) ?_
        subst hQ
        exact W.iret (v := nI 19) hx hb hr (fun t ht hW => ⟨⟨nI 19, (), rfl, (by rw [← hi, show 19 - c9 = 0 by omega, show c9 = 19 by omega]; rfl), ht⟩, hS.F ht⟩) hS.2.2 dC_digitCount_35
      · refine lv_lload_n hx hb dC_digitCount_12 rfl (lv_at hl 0 rfl) ?_
        refine lv_ldc2 (v := 10) hx hb hown (hw _ w_k_C_163) dC_digitCount_13 ?_
        refine zl_c (a := 10) rfl ?_
        refine zl_div hx hb (by omega) (by omega) (by omega) dC_digitCount_16 ?_
        refine lv_lstore_n (lv' := [(2, .long (lN (r / 10))), (4, .int (nI c9))]) hx hb dC_digitCount_17 rfl hl (by decide) rfl (fun ls hl => ?_)
        refine lv_lload_n hx hb dC_digitCount_18 rfl (lv_at hl 0 rfl) ?_
        refine lv_lconst (v := lN 0) hx hb dC_digitCount_19 (by decide) ?_
        refine W.lcmp hx hb dC_digitCount_20 ?_
        refine zl_ne0 (tgt := 27) hx hb (by omega) (by omega) dC_digitCount_21 (by decide) (fun c_21 => ?_) (fun c_21 => ?_)
        · refine lv_iinc (v := nI (c9 + 1)) (lv' := [(4, .int (nI (c9 + 1))), (2, .long (lN (r / 10)))]) hx hb dC_digitCount_27 hl (k := 1) rfl (zi_incr c9 1) (by decide) rfl (fun ls hl => ?_)
          refine lv_goto (tgt := 5) hx hb dC_digitCount_30 (by decide) ?_
          exact ih5 (c9 + 1) (r / 10) (by omega) (by omega) (by omega) (by have h9 := hi; rw [show 19 - c9 = 19 - (c9 + 1) + 1 by omega] at h9; unfold dcF at h9; rw [if_neg c_21] at h9; exact h9) (by omega) _ _ (lv_sub hl [1, 0] rfl) hS
        · refine lv_iload hx hb dC_digitCount_24 (lv_at hl 1 rfl) ?_
          subst hQ
          exact W.iret (v := nI c9) hx hb hr (fun t ht hW => ⟨⟨nI c9, (), rfl, (by rw [← hi, show 19 - c9 = 19 - (c9 + 1) + 1 by omega]; unfold dcF; rw [if_pos c_21]), ht⟩, hS.F ht⟩) hS.2.2 dC_digitCount_26
  exact lp_5 ((19 - 1) + 1) 1 n (by omega) (by omega) (by omega) rfl (Nat.lt_succ_self _) _ _ (lv_sub hl [1, 0] rfl) hS
def rm_c_digitCount_any : Room := ({ frames := 0, cells := 0, slots := 0, locals := 0 } : Room)
set_option maxHeartbeats 4000000 in
set_option maxRecDepth 100000 in
theorem c_digitCount_any (l : Launch) (dC : Nat → ClassId) (dI : Nat → Nat → Nat) (cI : ClassId) (cB : ClassId) (v : Int64) (Hc : Heap) : Met l yC_digitCount wsC_digitCount rm_c_digitCount_any (zR (dC, dI) [(cI, .int), (cB, .byte)] [.long v] [] Hc) (zRi Hc (fun r => ∃ c9, r = nI c9 ∧ c9 ≤ 19)) 0 0 zNo := by
  refine Met.ofW (cc := cC_digitCount) (maxL := 5) (ret := (some .int)) (by decide) rfl ?_
  intro p e s m args below meth c s₁ Bd hml hv
  obtain ⟨rfl, hH, hG, hP, hK⟩ := hv
  subst hH
  have hx := Bd.exec
  have hb := Bd.bytes
  have hr := Bd.returns
  have hts := atoms_spec (ws := wsC_digitCount) Bd.pre
  have hw : ∀ w ∈ BIG, w.before _ s = true := fun w h => hts w (List.mem_cons_of_mem _ h)
  have hown : s.vm.findClass RC = some m.cls := findClass_of_methodNamed Bd.named
  have hlocks := Bd.notSynchronized
  have hS : va_S zNo s.heap s.heap [] := va_S.rf
  have hl := lv_entry ([.long v]) (n := 5) (Nat.le_of_ble_eq_true rfl)
  rw [lg_entry_eq]
  generalize (lg_sl ([.long v]) ++ List.replicate (5 - (lg_sl ([.long v])).length) Slot.unset).toArray = ls at hl ⊢
  have hl : lv_has ls 5 [(0, .long v)] := hl
  refine zq_name (fun Q hQ => ?_)
  change W p l e rm_c_digitCount_any s m _ below meth c _ _ _ _ Q _
  refine lv_lload_n hx hb dC_digitCount_0 rfl (lv_at hl 0 rfl) ?_
  refine lv_lstore_n (lv' := [(2, .long v), (0, .long v)]) hx hb dC_digitCount_1 rfl hl (by decide) rfl (fun ls hl => ?_)
  refine lv_iconst (v := nI 1) hx hb dC_digitCount_2 (by decide) ?_
  refine lv_istore (lv' := [(4, .int (nI 1)), (2, .long v), (0, .long v)]) hx hb dC_digitCount_3 hl (by decide) rfl (fun ls hl => ?_)
  have lp_5 : ∀ (fu : Nat) (c9 : Nat) (r : Int64) (hc : c9 ≤ 19) (hms : 19 - c9 < fu) (locs : List Loc) (ls : Array Slot), lv_has ls 5 [(2, .long r), (4, .int (nI c9))] → va_S zNo s.heap s.heap locs → W p l e rm_c_digitCount_any s m ([.long v] : List Value).toArray below meth c s.heap locs 0 0 Q (F0 m 5 ls []) := by
    intro fu
    induction fu with
    | zero => intro c9 r hc hms; exact absurd hms (Nat.not_lt_zero _)
    | succ fu ih5 =>
      intro c9 r hc hms locs ls hl hS
      refine lv_iload hx hb dC_digitCount_5 (lv_at hl 1 rfl) ?_
      refine lv_bipush (v := nI 19) hx hb dC_digitCount_7 (by decide) ?_
      refine zi_ge (tgt := 33) hx hb (by omega) (by omega) dC_digitCount_9 (by decide) (fun c_9 => ?_) (fun c_9 => ?_)
      · refine lv_bipush (v := nI 19) hx hb dC_digitCount_33 (by decide) ?_
        subst hQ
        exact W.iret (v := nI 19) hx hb hr (fun t ht hW => ⟨⟨nI 19, (), rfl, ⟨19, rfl, by omega⟩, ht⟩, hS.F ht⟩) hS.2.2 dC_digitCount_35
      · refine lv_lload_n hx hb dC_digitCount_12 rfl (lv_at hl 0 rfl) ?_
        refine lv_ldc2 (v := 10) hx hb hown (hw _ w_k_C_163) dC_digitCount_13 ?_
        refine zl_c (a := 10) rfl ?_
        refine lv_ldiv hx hb dC_digitCount_16 (by decide) ?_
        refine lv_lstore_n (lv' := [(2, .long (r / (lN 10))), (4, .int (nI c9))]) hx hb dC_digitCount_17 rfl hl (by decide) rfl (fun ls hl => ?_)
        refine lv_lload_n hx hb dC_digitCount_18 rfl (lv_at hl 0 rfl) ?_
        refine lv_lconst (v := lN 0) hx hb dC_digitCount_19 (by decide) ?_
        refine W.lcmp hx hb dC_digitCount_20 ?_
        refine lv_if_ne (tgt := 27) hx hb dC_digitCount_21 (by decide) (fun c_21 => ?_) (fun c_21 => ?_)
        · refine lv_iinc (v := nI (c9 + 1)) (lv' := [(4, .int (nI (c9 + 1))), (2, .long (r / (lN 10)))]) hx hb dC_digitCount_27 hl (k := 1) rfl (zi_incr c9 1) (by decide) rfl (fun ls hl => ?_)
          refine lv_goto (tgt := 5) hx hb dC_digitCount_30 (by decide) ?_
          exact ih5 (c9 + 1) (r / (lN 10)) (by omega) (by omega) _ _ (lv_sub hl [1, 0] rfl) hS
        · refine lv_iload hx hb dC_digitCount_24 (lv_at hl 1 rfl) ?_
          subst hQ
          exact W.iret (v := nI c9) hx hb hr (fun t ht hW => ⟨⟨nI c9, (), rfl, ⟨c9, rfl, by omega⟩, ht⟩, hS.F ht⟩) hS.2.2 dC_digitCount_26
  exact lp_5 ((19 - 1) + 1) 1 v (by omega) (Nat.lt_succ_self _) _ _ (lv_sub hl [1, 0] rfl) hS
def rm_c_message_ok : Room := ({ frames := 6, cells := 0, slots := 0, locals := 91 } : Room)
set_option maxHeartbeats 4000000 in
set_option maxRecDepth 100000 in
theorem c_message_ok (l : Launch) (dC : Nat → ClassId) (dI : Nat → Nat → Nat) (x0 : Nat) (h0 : Nat) (h1 : Nat) (h2 : Nat) (cI : ClassId) (cB : ClassId) (ty : Nat) (cnt : Nat → Nat) (mk : Nat → Nat) (t0 : Nat) (r0 : Nat) (n : Nat) (hn : n ≤ 9999) (sz : Nat) : Met l yC_message wsC_message rm_c_message_ok (zM (dC, dI) [(cI, .int), (cB, .byte)] [.ref x0, .int (nI n)] [(x0, .inr (3, [.ref h0, .ref t0, .ref r0])), (h0, .inr (0, [.int (nI ty), .ref h1, .ref h2])), (h1, .inl (cI, 16, .inl (aN cnt))), (h2, .inl (cB, 208, .inl (aN mk)))] sz) (zMv (dC, dI) [(x0, .inr (3, [.ref h0, .ref t0, .ref r0])), (h0, .inr (0, [.int (nI ty), .ref h1, .ref h2])), (h1, .inl (cI, 16, .inl (aN cnt))), (h2, .inl (cB, 208, .inl (aN mk)))] [(x0, .inr (3, [.ref h0, .ref t0, .ref r0])), (h0, .inr (0, [.int (nI n), .ref h1, .ref h2])), (h1, .inl (cI, 16, .inl (aN (zc cnt 16)))), (h2, .inl (cB, 208, .inl (aN mk)))] sz (True)) 0 0 (va_A [(x0, .inr (3, [.ref h0, .ref t0, .ref r0])), (h0, .inr (0, [.int (nI ty), .ref h1, .ref h2])), (h1, .inl (cI, 16, .inl (aN cnt))), (h2, .inl (cB, 208, .inl (aN mk)))] sz) := by
  refine Met.ofW (cc := cC_message) (maxL := 2) (ret := none) (by decide) rfl ?_
  intro p e s m args below meth c s₁ Bd hml hv
  obtain ⟨rfl, hsz, hG, hP, hK, hD0⟩ := hv
  subst hsz
  have hx := Bd.exec
  have hb := Bd.bytes
  have hr := Bd.returns
  have hts := atoms_spec (ws := wsC_message) Bd.pre
  have hw : ∀ w ∈ BIG, w.before _ s = true := fun w h => hts w (List.mem_cons_of_mem _ h)
  have hown : s.vm.findClass RC = some m.cls := findClass_of_methodNamed Bd.named
  have hlocks := Bd.notSynchronized
  have hD := hD0.self (sz := s.heap.size)
  obtain ⟨A, hAe⟩ : ∃ A, A = va_A [(x0, .inr (3, [.ref h0, .ref t0, .ref r0])), (h0, .inr (0, [.int (nI ty), .ref h1, .ref h2])), (h1, .inl (cI, 16, .inl (aN cnt))), (h2, .inl (cB, 208, .inl (aN mk)))] s.heap.size := ⟨_, rfl⟩
  have hA : ∀ q : Nat, s.heap.size ≤ q → A q := fun q h => by rw [hAe]; exact Or.inr h
  rw [← hAe] at hG hD
  have hS : va_S A s.heap s.heap [] := va_S.rf
  have hl := lv_entry ([.ref x0, .int (nI n)]) (n := 2) (Nat.le_of_ble_eq_true rfl)
  rw [lg_entry_eq]
  generalize (lg_sl ([.ref x0, .int (nI n)]) ++ List.replicate (2 - (lg_sl ([.ref x0, .int (nI n)])).length) Slot.unset).toArray = ls at hl ⊢
  have hl : lv_has ls 2 [(0, .ref x0), (1, .int (nI n))] := hl
  refine zq_name (fun Q hQ => ?_)
  change W p l e rm_c_message_ok s m _ below meth c _ _ _ _ Q _
  refine lv_iload_n hx hb dC_message_0 rfl (lv_at hl 1 rfl) ?_
  refine zi_lt0 (tgt := 11) hx hb (by omega) dC_message_1 (by decide) ?_
  refine lv_iload_n hx hb dC_message_4 rfl (lv_at hl 1 rfl) ?_
  refine lv_sipush (v := nI 9999) hx hb dC_message_5 (by decide) ?_
  refine zi_le (tgt := 21) hx hb (by omega) (by omega) dC_message_8 (by decide) (fun c_8 => ?_) (fun q => False.elim ((by omega)))
  refine lv_aload_n hx hb dC_message_21 rfl (lv_at hl 0 rfl) ?_
  refine va_get (D := (dC, dI)) (ci := 3) (v := .ref h0) (C := RC) (T := TC) (N := 3) hx hb hw inC hown hK hP 0 rfl rfl 0 (by decide) (hw _ w_fl_C_10) (fun _ h9 => h9) rfl dC_message_22 ?_
  refine lv_iload_n hx hb dC_message_25 rfl (lv_at hl 1 rfl) ?_
  have hPc := hP.sub (ws' := [(h0, .inr (0, [.int (nI ty), .ref h1, .ref h2])), (h1, .inl (cI, 16, .inl (aN cnt))), (h2, .inl (cB, 208, .inl (aN mk)))]) [1, 2, 3] rfl
  have hDc := hD.sub (ws' := [(h0, .inr (0, [.int (nI ty), .ref h1, .ref h2])), (h1, .inl (cI, 16, .inl (aN cnt))), (h2, .inl (cB, 208, .inl (aN mk)))]) [1, 2, 3] (by decide) rfl
  have hFc := va_free (wc := [(h0, .inr (0, [.int (nI ty), .ref h1, .ref h2])), (h1, .inl (cI, 16, .inl (aN cnt))), (h2, .inl (cB, 208, .inl (aN mk)))]) hD hS hA [1, 2, 3] rfl
  refine zc_Mv (va_runV (As := [.int (nI n)]) (rest := []) ⟨hx, hb, hml, hown, hw⟩ (c_D_restart l dC dI h0 h1 h2 cI cB ty cnt mk n s.heap.size) (cwV 1 hw (gV w_ml_C_39 w_im_D_restart w_se_D_restart w_in_D w_co_D_restart) rfl rfl rfl (by decide +kernel) ⟨Nat.le_of_ble_eq_true rfl, Nat.le_of_ble_eq_true rfl⟩) (zM_V hG hS hFc hPc hDc hK 0 rfl rfl) rfl rfl hl.1 rfl (lv_room (Nat.le_of_ble_eq_true rfl)) dC_message_26 ⟨Nat.le_of_ble_eq_true rfl, Nat.le_of_ble_eq_true rfl⟩) hS hFc (fun H locs h_26 hP1 hD1 hk1 hS => ?_)
  obtain ⟨hP, hD⟩ := va_join (wr := [(x0, .inr (3, [.ref h0, .ref t0, .ref r0]))]) (w1 := [(h0, .inr (0, [.int (nI n), .ref h1, .ref h2])), (h1, .inl (cI, 16, .inl (aN (zc cnt 16)))), (h2, .inl (cB, 208, .inl (aN mk)))]) hP hD [1, 2, 3] [0] rfl rfl (by decide) (by decide) hk1 hFc hP1 hD1
  have hP : va_P (dC, dI) vwCl [(x0, .inr (3, [.ref h0, .ref t0, .ref r0])), (h0, .inr (0, [.int (nI n), .ref h1, .ref h2])), (h1, .inl (cI, 16, .inl (aN (zc cnt 16)))), (h2, .inl (cB, 208, .inl (aN mk)))] H := hP
  have hD : va_D A [(x0, .inr (3, [.ref h0, .ref t0, .ref r0])), (h0, .inr (0, [.int (nI n), .ref h1, .ref h2])), (h1, .inl (cI, 16, .inl (aN (zc cnt 16)))), (h2, .inl (cB, 208, .inl (aN mk)))] := hD
  subst hAe
  subst hQ
  exact W.vret hx hb hr (fun t ht hW => ⟨⟨(), rfl, trivial, by rw [ht]; exact hP.sub [0, 1, 2, 3] rfl, hD.sub [0, 1, 2, 3] (by decide) rfl⟩, hS.F ht⟩) hS.2.2 dC_message_29
def rm_c_digits_ok : Room := ({ frames := 8, cells := 0, slots := 0, locals := 133 } : Room)
set_option maxHeartbeats 4000000 in
set_option maxRecDepth 100000 in
theorem c_digits_ok (l : Launch) (dC : Nat → ClassId) (dI : Nat → Nat → Nat) (x0 : Nat) (h0 : Nat) (h1 : Nat) (h2 : Nat) (cI : ClassId) (cB : ClassId) (ty : Nat) (cnt : Nat → Nat) (mk : Nat → Nat) (t0 : Nat) (r0 : Nat) (k : Nat) (n : Nat) (hk : k < 16) (hh : fHL k = 0) (hn : n < 2 ^ 63) (hd : dcn n ≤ fMM k) (sz : Nat) : Met l yC_digits wsC_digits rm_c_digits_ok (zM (dC, dI) [(cI, .int), (cB, .byte)] [.ref x0, .int (nI (fFI k)), .long (lN n)] [(x0, .inr (3, [.ref h0, .ref t0, .ref r0])), (h0, .inr (0, [.int (nI ty), .ref h1, .ref h2])), (h1, .inl (cI, 16, .inl (aN cnt))), (h2, .inl (cB, 208, .inl (aN mk)))] sz) (zMv (dC, dI) [(x0, .inr (3, [.ref h0, .ref t0, .ref r0])), (h0, .inr (0, [.int (nI ty), .ref h1, .ref h2])), (h1, .inl (cI, 16, .inl (aN cnt))), (h2, .inl (cB, 208, .inl (aN mk)))] [(x0, .inr (3, [.ref h0, .ref t0, .ref r0])), (h0, .inr (0, [.int (nI ty), .ref h1, .ref h2])), (h1, .inl (cI, 16, .inl (aN (nup cnt k (dct k n))))), (h2, .inl (cB, 208, .inl (aN (ds mk (fFM k + 0) (dct k n) n))))] sz (True)) 0 0 (va_A [(x0, .inr (3, [.ref h0, .ref t0, .ref r0])), (h0, .inr (0, [.int (nI ty), .ref h1, .ref h2])), (h1, .inl (cI, 16, .inl (aN cnt))), (h2, .inl (cB, 208, .inl (aN mk)))] sz) := by
  refine Met.ofW (cc := cC_digits) (maxL := 6) (ret := none) (by decide) rfl ?_
  intro p e s m args below meth c s₁ Bd hml hv
  obtain ⟨rfl, hsz, hG, hP, hK, hD0⟩ := hv
  subst hsz
  have hx := Bd.exec
  have hb := Bd.bytes
  have hr := Bd.returns
  have hts := atoms_spec (ws := wsC_digits) Bd.pre
  have hw : ∀ w ∈ BIG, w.before _ s = true := fun w h => hts w (List.mem_cons_of_mem _ h)
  have hown : s.vm.findClass RC = some m.cls := findClass_of_methodNamed Bd.named
  have hlocks := Bd.notSynchronized
  have hD := hD0.self (sz := s.heap.size)
  obtain ⟨A, hAe⟩ : ∃ A, A = va_A [(x0, .inr (3, [.ref h0, .ref t0, .ref r0])), (h0, .inr (0, [.int (nI ty), .ref h1, .ref h2])), (h1, .inl (cI, 16, .inl (aN cnt))), (h2, .inl (cB, 208, .inl (aN mk)))] s.heap.size := ⟨_, rfl⟩
  have hA : ∀ q : Nat, s.heap.size ≤ q → A q := fun q h => by rw [hAe]; exact Or.inr h
  rw [← hAe] at hG hD
  have hS : va_S A s.heap s.heap [] := va_S.rf
  have hl := lv_entry ([.ref x0, .int (nI (fFI k)), .long (lN n)]) (n := 6) (Nat.le_of_ble_eq_true rfl)
  rw [lg_entry_eq]
  generalize (lg_sl ([.ref x0, .int (nI (fFI k)), .long (lN n)]) ++ List.replicate (6 - (lg_sl ([.ref x0, .int (nI (fFI k)), .long (lN n)])).length) Slot.unset).toArray = ls at hl ⊢
  have hl : lv_has ls 6 [(0, .ref x0), (1, .int (nI (fFI k))), (2, .long (lN n))] := hl
  refine zq_name (fun Q hQ => ?_)
  change W p l e rm_c_digits_ok s m _ below meth c _ _ _ _ Q _
  obtain ⟨tfMM, zfMM, afMM⟩ := hG.MOST_MARKS
  obtain ⟨tfCD, zfCD, afCD⟩ := hG.COUNT_DIGITS
  have hmm := fMM_b k hk
  have hfm := fFM_b k hk
  have hcd := fCD_b k hk
  have hdn := dcn_le n
  have hdc : dct k n ≤ fMM k := by unfold dct; split <;> omega
  refine lv_iload_n hx hb dC_digits_0 rfl (lv_at hl 1 rfl) ?_
  refine zc_Ri (va_runS (As := [.int (nI (fFI k))]) (rest := []) ⟨hx, hb, hml, hown, hw⟩ (c_digitSlot_ok l dC dI cI cB k (by omega) hh s.heap) (va_cwS 1 hw (gSt w_ml_C_43 w_st_C_digitSlot w_in_C w_co_C_digitSlot) rfl rfl rfl (by decide +kernel) ⟨Nat.le_of_ble_eq_true rfl, Nat.le_of_ble_eq_true rfl⟩) (zR_S hG hS (hP.sub (ws' := []) [] rfl) hK) rfl rfl hl.1 rfl (lv_room (Nat.le_of_ble_eq_true rfl)) dC_digits_1 ⟨Nat.le_of_ble_eq_true rfl, Nat.le_of_ble_eq_true rfl⟩) hS (fun r_1 locs h_1 hS => ?_)
  subst h_1
  refine lv_istore (lv' := [(4, .int (nI k)), (0, .ref x0), (1, .int (nI (fFI k))), (2, .long (lN n))]) hx hb dC_digits_4 hl (by decide) rfl (fun ls hl => ?_)
  refine lv_lload_n hx hb dC_digits_6 rfl (lv_at hl 3 rfl) ?_
  refine zc_Ri (va_runS (As := [.long (lN n)]) (rest := []) ⟨hx, hb, hml, hown, hw⟩ (c_digitCount_ok l dC dI cI cB n (by omega) s.heap) (va_cwS 1 hw (gSt w_ml_C_47 w_st_C_digitCount w_in_C w_co_C_digitCount) rfl rfl rfl (by decide +kernel) ⟨Nat.le_of_ble_eq_true rfl, Nat.le_of_ble_eq_true rfl⟩) (zR_S hG hS (hP.sub (ws' := []) [] rfl) hK) rfl rfl hl.1 rfl (lv_room (Nat.le_of_ble_eq_true rfl)) dC_digits_7 ⟨Nat.le_of_ble_eq_true rfl, Nat.le_of_ble_eq_true rfl⟩) hS (fun r_2 locs h_7 hS => ?_)
  subst h_7
  refine lv_istore (lv' := [(5, .int (nI (dcn n))), (4, .int (nI k)), (0, .ref x0), (1, .int (nI (fFI k))), (2, .long (lN n))]) hx hb dC_digits_10 hl (by decide) rfl (fun ls hl => ?_)
  refine lv_lload_n hx hb dC_digits_12 rfl (lv_at hl 4 rfl) ?_
  refine lv_lconst (v := lN 0) hx hb dC_digits_13 (by decide) ?_
  refine W.lcmp hx hb dC_digits_14 ?_
  refine zl_lt0 (tgt := 29) hx hb (by omega) (by omega) dC_digits_15 (by decide) (fun q => False.elim ((by omega))) (fun c_15 => ?_)
  refine lv_iload hx hb dC_digits_18 (lv_at hl 0 rfl) ?_
  refine va_gets hx hb zfMM hS hown (hw _ w_fl_C_51) (fun _ h9 => h9) dC_digits_20 ?_
  refine lv_iload hx hb dC_digits_23 (lv_at hl 1 rfl) ?_
  refine za_tab hx hb afMM hS (by omega) (by decide) dC_digits_25 ?_
  refine zi_le (tgt := 39) hx hb (by omega) (by omega) dC_digits_26 (by decide) (fun c_26 => ?_) (fun q => False.elim ((by omega)))
  refine lv_aload_n hx hb dC_digits_39 rfl (lv_at hl 2 rfl) ?_
  refine va_get (D := (dC, dI)) (ci := 3) (v := .ref h0) (C := RC) (T := TC) (N := 3) hx hb hw inC hown hK hP 0 rfl rfl 0 (by decide) (hw _ w_fl_C_10) (fun _ h9 => h9) rfl dC_digits_40 ?_
  refine lv_iload hx hb dC_digits_43 (lv_at hl 1 rfl) ?_
  refine va_gets hx hb zfCD hS hown (hw _ w_fl_C_57) (fun _ h9 => h9) dC_digits_45 ?_
  refine lv_iload hx hb dC_digits_48 (lv_at hl 1 rfl) ?_
  refine za_tab hx hb afCD hS (by omega) (by decide) dC_digits_50 ?_
  refine zi_ne0 (tgt := 63) hx hb (by omega) dC_digits_51 (by decide) (fun c_51 => ?_) (fun c_51 => ?_)
  · refine lv_iload hx hb dC_digits_63 (lv_at hl 0 rfl) ?_
    refine W.eq (g2 := F0 m 65 ls [.int (nI (dct k n)), .int (nI k), .ref h0]) (by unfold dct; rw [if_neg c_51]) ?_
    refine lv_lload_n hx hb dC_digits_65 rfl (lv_at hl 4 rfl) ?_
    have hPc := hP.sub (ws' := [(h0, .inr (0, [.int (nI ty), .ref h1, .ref h2])), (h1, .inl (cI, 16, .inl (aN cnt))), (h2, .inl (cB, 208, .inl (aN mk)))]) [1, 2, 3] rfl
    have hDc := hD.sub (ws' := [(h0, .inr (0, [.int (nI ty), .ref h1, .ref h2])), (h1, .inl (cI, 16, .inl (aN cnt))), (h2, .inl (cB, 208, .inl (aN mk)))]) [1, 2, 3] (by decide) rfl
    have hFc := va_free (wc := [(h0, .inr (0, [.int (nI ty), .ref h1, .ref h2])), (h1, .inl (cI, 16, .inl (aN cnt))), (h2, .inl (cB, 208, .inl (aN mk)))]) hD hS hA [1, 2, 3] rfl
    refine zc_Mv (va_runV (As := [.int (nI k), .int (nI (dct k n)), .long (lN n)]) (rest := []) ⟨hx, hb, hml, hown, hw⟩ (c_D_putNumber l dC dI h0 h1 h2 cI cB ty cnt mk k (dct k n) n (by omega) (by omega) (by omega) s.heap.size) (cwV 3 hw (gV w_ml_C_60 w_im_D_putNumber w_se_D_putNumber w_in_D w_co_D_putNumber) rfl rfl rfl (by decide +kernel) ⟨Nat.le_of_ble_eq_true rfl, Nat.le_of_ble_eq_true rfl⟩) (zM_V hG hS hFc hPc hDc hK 0 rfl rfl) rfl rfl hl.1 rfl (lv_room (Nat.le_of_ble_eq_true rfl)) dC_digits_66 ⟨Nat.le_of_ble_eq_true rfl, Nat.le_of_ble_eq_true rfl⟩) hS hFc (fun H locs h_66 hP1 hD1 hk1 hS => ?_)
    obtain ⟨hP, hD⟩ := va_join (wr := [(x0, .inr (3, [.ref h0, .ref t0, .ref r0]))]) (w1 := [(h0, .inr (0, [.int (nI ty), .ref h1, .ref h2])), (h1, .inl (cI, 16, .inl (aN (nup cnt k (dct k n))))), (h2, .inl (cB, 208, .inl (aN (ds mk (fFM k + 0) (dct k n) n))))]) hP hD [1, 2, 3] [0] rfl rfl (by decide) (by decide) hk1 hFc hP1 hD1
    have hP : va_P (dC, dI) vwCl [(x0, .inr (3, [.ref h0, .ref t0, .ref r0])), (h0, .inr (0, [.int (nI ty), .ref h1, .ref h2])), (h1, .inl (cI, 16, .inl (aN (nup cnt k (dct k n))))), (h2, .inl (cB, 208, .inl (aN (ds mk (fFM k + 0) (dct k n) n))))] H := hP
    have hD : va_D A [(x0, .inr (3, [.ref h0, .ref t0, .ref r0])), (h0, .inr (0, [.int (nI ty), .ref h1, .ref h2])), (h1, .inl (cI, 16, .inl (aN (nup cnt k (dct k n))))), (h2, .inl (cB, 208, .inl (aN (ds mk (fFM k + 0) (dct k n) n))))] := hD
    subst hAe
    subst hQ
    exact W.vret hx hb hr (fun t ht hW => ⟨⟨(), rfl, trivial, by rw [ht]; exact hP.sub [0, 1, 2, 3] rfl, hD.sub [0, 1, 2, 3] (by decide) rfl⟩, hS.F ht⟩) hS.2.2 dC_digits_69
  · refine va_gets hx hb zfMM hS hown (hw _ w_fl_C_51) (fun _ h9 => h9) dC_digits_54 ?_
    refine lv_iload hx hb dC_digits_57 (lv_at hl 1 rfl) ?_
    refine za_tab hx hb afMM hS (by omega) (by decide) dC_digits_59 ?_
    refine lv_goto (tgt := 65) hx hb dC_digits_60 (by decide) ?_
    refine W.eq (g2 := F0 m 65 ls [.int (nI (dct k n)), .int (nI k), .ref h0]) (by unfold dct; rw [if_pos c_51]) ?_
    refine lv_lload_n hx hb dC_digits_65 rfl (lv_at hl 4 rfl) ?_
    have hPc := hP.sub (ws' := [(h0, .inr (0, [.int (nI ty), .ref h1, .ref h2])), (h1, .inl (cI, 16, .inl (aN cnt))), (h2, .inl (cB, 208, .inl (aN mk)))]) [1, 2, 3] rfl
    have hDc := hD.sub (ws' := [(h0, .inr (0, [.int (nI ty), .ref h1, .ref h2])), (h1, .inl (cI, 16, .inl (aN cnt))), (h2, .inl (cB, 208, .inl (aN mk)))]) [1, 2, 3] (by decide) rfl
    have hFc := va_free (wc := [(h0, .inr (0, [.int (nI ty), .ref h1, .ref h2])), (h1, .inl (cI, 16, .inl (aN cnt))), (h2, .inl (cB, 208, .inl (aN mk)))]) hD hS hA [1, 2, 3] rfl
    refine zc_Mv (va_runV (As := [.int (nI k), .int (nI (dct k n)), .long (lN n)]) (rest := []) ⟨hx, hb, hml, hown, hw⟩ (c_D_putNumber l dC dI h0 h1 h2 cI cB ty cnt mk k (dct k n) n (by omega) (by omega) (by omega) s.heap.size) (cwV 3 hw (gV w_ml_C_60 w_im_D_putNumber w_se_D_putNumber w_in_D w_co_D_putNumber) rfl rfl rfl (by decide +kernel) ⟨Nat.le_of_ble_eq_true rfl, Nat.le_of_ble_eq_true rfl⟩) (zM_V hG hS hFc hPc hDc hK 0 rfl rfl) rfl rfl hl.1 rfl (lv_room (Nat.le_of_ble_eq_true rfl)) dC_digits_66 ⟨Nat.le_of_ble_eq_true rfl, Nat.le_of_ble_eq_true rfl⟩) hS hFc (fun H locs h_66 hP1 hD1 hk1 hS => ?_)
    obtain ⟨hP, hD⟩ := va_join (wr := [(x0, .inr (3, [.ref h0, .ref t0, .ref r0]))]) (w1 := [(h0, .inr (0, [.int (nI ty), .ref h1, .ref h2])), (h1, .inl (cI, 16, .inl (aN (nup cnt k (dct k n))))), (h2, .inl (cB, 208, .inl (aN (ds mk (fFM k + 0) (dct k n) n))))]) hP hD [1, 2, 3] [0] rfl rfl (by decide) (by decide) hk1 hFc hP1 hD1
    have hP : va_P (dC, dI) vwCl [(x0, .inr (3, [.ref h0, .ref t0, .ref r0])), (h0, .inr (0, [.int (nI ty), .ref h1, .ref h2])), (h1, .inl (cI, 16, .inl (aN (nup cnt k (dct k n))))), (h2, .inl (cB, 208, .inl (aN (ds mk (fFM k + 0) (dct k n) n))))] H := hP
    have hD : va_D A [(x0, .inr (3, [.ref h0, .ref t0, .ref r0])), (h0, .inr (0, [.int (nI ty), .ref h1, .ref h2])), (h1, .inl (cI, 16, .inl (aN (nup cnt k (dct k n))))), (h2, .inl (cB, 208, .inl (aN (ds mk (fFM k + 0) (dct k n) n))))] := hD
    subst hAe
    subst hQ
    exact W.vret hx hb hr (fun t ht hW => ⟨⟨(), rfl, trivial, by rw [ht]; exact hP.sub [0, 1, 2, 3] rfl, hD.sub [0, 1, 2, 3] (by decide) rfl⟩, hS.F ht⟩) hS.2.2 dC_digits_69
def rm_c_letters_ok : Room := ({ frames := 7, cells := 0, slots := 0, locals := 112 } : Room)
set_option maxHeartbeats 4000000 in
set_option maxRecDepth 100000 in
theorem c_letters_ok (l : Launch) (dC : Nat → ClassId) (dI : Nat → Nat → Nat) (x0 : Nat) (h0 : Nat) (h1 : Nat) (h2 : Nat) (cI : ClassId) (cB : ClassId) (ty : Nat) (cnt : Nat → Nat) (mk : Nat → Nat) (t0 : Nat) (r0 : Nat) (k : Nat) (v : Int64) (n : Nat) (hk : k < 16) (hh : fHL k ≠ 0) (hn0 : fCD k = 0 → n = 0) (hn1 : fCD k ≠ 0 → 1 ≤ n ∧ n ≤ fMM k) (hn2 : n < 2 ^ 31) (sz : Nat) : Met l yC_letters wsC_letters rm_c_letters_ok (zM (dC, dI) [(cI, .int), (cB, .byte)] [.ref x0, .int (nI (fFI k)), .long v, .int (nI n)] [(x0, .inr (3, [.ref h0, .ref t0, .ref r0])), (h0, .inr (0, [.int (nI ty), .ref h1, .ref h2])), (h1, .inl (cI, 16, .inl (aN cnt))), (h2, .inl (cB, 208, .inl (aN mk)))] sz) (zMv (dC, dI) [(x0, .inr (3, [.ref h0, .ref t0, .ref r0])), (h0, .inr (0, [.int (nI ty), .ref h1, .ref h2])), (h1, .inl (cI, 16, .inl (aN cnt))), (h2, .inl (cB, 208, .inl (aN mk)))] [(x0, .inr (3, [.ref h0, .ref t0, .ref r0])), (h0, .inr (0, [.int (nI ty), .ref h1, .ref h2])), (h1, .inl (cI, 16, .inl (aN (nup cnt k (lct k n))))), (h2, .inl (cB, 208, .inl (aN (lset v (fFM k) (lct k n) 0 mk))))] sz (True)) 0 0 (va_A [(x0, .inr (3, [.ref h0, .ref t0, .ref r0])), (h0, .inr (0, [.int (nI ty), .ref h1, .ref h2])), (h1, .inl (cI, 16, .inl (aN cnt))), (h2, .inl (cB, 208, .inl (aN mk)))] sz) := by
  refine Met.ofW (cc := cC_letters) (maxL := 7) (ret := none) (by decide) rfl ?_
  intro p e s m args below meth c s₁ Bd hml hv
  obtain ⟨rfl, hsz, hG, hP, hK, hD0⟩ := hv
  subst hsz
  have hx := Bd.exec
  have hb := Bd.bytes
  have hr := Bd.returns
  have hts := atoms_spec (ws := wsC_letters) Bd.pre
  have hw : ∀ w ∈ BIG, w.before _ s = true := fun w h => hts w (List.mem_cons_of_mem _ h)
  have hown : s.vm.findClass RC = some m.cls := findClass_of_methodNamed Bd.named
  have hlocks := Bd.notSynchronized
  have hD := hD0.self (sz := s.heap.size)
  obtain ⟨A, hAe⟩ : ∃ A, A = va_A [(x0, .inr (3, [.ref h0, .ref t0, .ref r0])), (h0, .inr (0, [.int (nI ty), .ref h1, .ref h2])), (h1, .inl (cI, 16, .inl (aN cnt))), (h2, .inl (cB, 208, .inl (aN mk)))] s.heap.size := ⟨_, rfl⟩
  have hA : ∀ q : Nat, s.heap.size ≤ q → A q := fun q h => by rw [hAe]; exact Or.inr h
  rw [← hAe] at hG hD
  have hS : va_S A s.heap s.heap [] := va_S.rf
  have hl := lv_entry ([.ref x0, .int (nI (fFI k)), .long v, .int (nI n)]) (n := 7) (Nat.le_of_ble_eq_true rfl)
  rw [lg_entry_eq]
  generalize (lg_sl ([.ref x0, .int (nI (fFI k)), .long v, .int (nI n)]) ++ List.replicate (7 - (lg_sl ([.ref x0, .int (nI (fFI k)), .long v, .int (nI n)])).length) Slot.unset).toArray = ls at hl ⊢
  have hl : lv_has ls 7 [(0, .ref x0), (1, .int (nI (fFI k))), (2, .long v), (4, .int (nI n))] := hl
  refine zq_name (fun Q hQ => ?_)
  change W p l e rm_c_letters_ok s m _ below meth c _ _ _ _ Q _
  obtain ⟨tfHL, zfHL, afHL⟩ := hG.HAS_LETTERS
  obtain ⟨tfCD, zfCD, afCD⟩ := hG.COUNT_DIGITS
  obtain ⟨tfMM, zfMM, afMM⟩ := hG.MOST_MARKS
  have hmm := fMM_b k hk
  have hfm := fFM_b k hk
  have hcd := fCD_b k hk
  have hhl := fHL_b k hk
  have hlc : lct k n ≤ fMM k := by unfold lct; split; omega; exact (hn1 (by assumption)).2
  refine lv_iload_n hx hb dC_letters_0 rfl (lv_at hl 1 rfl) ?_
  refine zc_Ri (va_runS (As := [.int (nI (fFI k))]) (rest := []) ⟨hx, hb, hml, hown, hw⟩ (c_knownSlot_ok l dC dI cI cB k (by omega) s.heap) (va_cwS 1 hw (gSt w_ml_C_64 w_st_C_knownSlot w_in_C w_co_C_knownSlot) rfl rfl rfl (by decide +kernel) ⟨Nat.le_of_ble_eq_true rfl, Nat.le_of_ble_eq_true rfl⟩) (zR_S hG hS (hP.sub (ws' := []) [] rfl) hK) rfl rfl hl.1 rfl (lv_room (Nat.le_of_ble_eq_true rfl)) dC_letters_1 ⟨Nat.le_of_ble_eq_true rfl, Nat.le_of_ble_eq_true rfl⟩) hS (fun r_1 locs h_1 hS => ?_)
  subst h_1
  refine lv_istore (lv' := [(5, .int (nI k)), (0, .ref x0), (1, .int (nI (fFI k))), (2, .long v), (4, .int (nI n))]) hx hb dC_letters_4 hl (by decide) rfl (fun ls hl => ?_)
  refine va_gets hx hb zfHL hS hown (hw _ w_fl_C_67) (fun _ h9 => h9) dC_letters_6 ?_
  refine lv_iload hx hb dC_letters_9 (lv_at hl 0 rfl) ?_
  refine za_tab hx hb afHL hS (by omega) (by decide) dC_letters_11 ?_
  refine zi_ne0 (tgt := 25) hx hb (by omega) dC_letters_12 (by decide) (fun c_12 => ?_) (fun q => False.elim ((hh q)))
  refine va_gets hx hb zfCD hS hown (hw _ w_fl_C_57) (fun _ h9 => h9) dC_letters_25 ?_
  refine lv_iload hx hb dC_letters_28 (lv_at hl 0 rfl) ?_
  refine za_tab hx hb afCD hS (by omega) (by decide) dC_letters_30 ?_
  refine zi_ne0 (tgt := 38) hx hb (by omega) dC_letters_31 (by decide) (fun c_31 => ?_) (fun c_31 => ?_)
  · refine lv_iconst (v := nI 0) hx hb dC_letters_38 (by decide) ?_
    refine lv_istore (lv' := [(6, .int (nI 0)), (5, .int (nI k)), (0, .ref x0), (1, .int (nI (fFI k))), (2, .long v), (4, .int (nI n))]) hx hb dC_letters_39 hl (by decide) rfl (fun ls hl => ?_)
    refine lv_iload hx hb dC_letters_41 (lv_at hl 0 rfl) ?_
    refine lv_if_eq (tgt := 54) hx hb dC_letters_43 (by decide) (fun c_43 => ?_) (fun q => False.elim (absurd q (by decide)))
    refine lv_iload hx hb dC_letters_54 (lv_at hl 5 rfl) ?_
    refine lv_iconst (v := nI 1) hx hb dC_letters_56 (by decide) ?_
    refine zi_lt (tgt := 71) hx hb (by omega) (by omega) dC_letters_57 (by decide) (fun q => False.elim ((by have := hn1 c_31; omega))) (fun c_57 => ?_)
    refine lv_iload hx hb dC_letters_60 (lv_at hl 5 rfl) ?_
    refine va_gets hx hb zfMM hS hown (hw _ w_fl_C_51) (fun _ h9 => h9) dC_letters_62 ?_
    refine lv_iload hx hb dC_letters_65 (lv_at hl 1 rfl) ?_
    refine za_tab hx hb afMM hS (by omega) (by decide) dC_letters_67 ?_
    refine zi_le (tgt := 81) hx hb (by omega) (by omega) dC_letters_68 (by decide) (fun c_68 => ?_) (fun q => False.elim ((by have := hn1 c_31; omega)))
    refine lv_aload_n hx hb dC_letters_81 rfl (lv_at hl 2 rfl) ?_
    refine va_get (D := (dC, dI)) (ci := 3) (v := .ref h0) (C := RC) (T := TC) (N := 3) hx hb hw inC hown hK hP 0 rfl rfl 0 (by decide) (hw _ w_fl_C_10) (fun _ h9 => h9) rfl dC_letters_82 ?_
    refine lv_iload hx hb dC_letters_85 (lv_at hl 1 rfl) ?_
    refine lv_iload hx hb dC_letters_87 (lv_at hl 0 rfl) ?_
    refine lv_if_eq (tgt := 101) hx hb dC_letters_89 (by decide) (fun c_89 => ?_) (fun q => False.elim (absurd q (by decide)))
    refine lv_iload hx hb dC_letters_101 (lv_at hl 5 rfl) ?_
    refine W.eq (g2 := F0 m 103 ls [.int (nI (lct k n)), .int (nI k), .ref h0]) (by unfold lct; rw [if_neg c_31]) ?_
    refine lv_lload_n hx hb dC_letters_103 rfl (lv_at hl 4 rfl) ?_
    have hPc := hP.sub (ws' := [(h0, .inr (0, [.int (nI ty), .ref h1, .ref h2])), (h1, .inl (cI, 16, .inl (aN cnt))), (h2, .inl (cB, 208, .inl (aN mk)))]) [1, 2, 3] rfl
    have hDc := hD.sub (ws' := [(h0, .inr (0, [.int (nI ty), .ref h1, .ref h2])), (h1, .inl (cI, 16, .inl (aN cnt))), (h2, .inl (cB, 208, .inl (aN mk)))]) [1, 2, 3] (by decide) rfl
    have hFc := va_free (wc := [(h0, .inr (0, [.int (nI ty), .ref h1, .ref h2])), (h1, .inl (cI, 16, .inl (aN cnt))), (h2, .inl (cB, 208, .inl (aN mk)))]) hD hS hA [1, 2, 3] rfl
    refine zc_Mv (va_runV (As := [.int (nI k), .int (nI (lct k n)), .long v]) (rest := []) ⟨hx, hb, hml, hown, hw⟩ (c_D_putLetters l dC dI h0 h1 h2 cI cB ty cnt mk k (lct k n) v (by omega) (by omega) s.heap.size) (cwV 3 hw (gV w_ml_C_74 w_im_D_putLetters w_se_D_putLetters w_in_D w_co_D_putLetters) rfl rfl rfl (by decide +kernel) ⟨Nat.le_of_ble_eq_true rfl, Nat.le_of_ble_eq_true rfl⟩) (zM_V hG hS hFc hPc hDc hK 0 rfl rfl) rfl rfl hl.1 rfl (lv_room (Nat.le_of_ble_eq_true rfl)) dC_letters_104 ⟨Nat.le_of_ble_eq_true rfl, Nat.le_of_ble_eq_true rfl⟩) hS hFc (fun H locs h_104 hP1 hD1 hk1 hS => ?_)
    obtain ⟨hP, hD⟩ := va_join (wr := [(x0, .inr (3, [.ref h0, .ref t0, .ref r0]))]) (w1 := [(h0, .inr (0, [.int (nI ty), .ref h1, .ref h2])), (h1, .inl (cI, 16, .inl (aN (nup cnt k (lct k n))))), (h2, .inl (cB, 208, .inl (aN (lset v (fFM k) (lct k n) 0 mk))))]) hP hD [1, 2, 3] [0] rfl rfl (by decide) (by decide) hk1 hFc hP1 hD1
    have hP : va_P (dC, dI) vwCl [(x0, .inr (3, [.ref h0, .ref t0, .ref r0])), (h0, .inr (0, [.int (nI ty), .ref h1, .ref h2])), (h1, .inl (cI, 16, .inl (aN (nup cnt k (lct k n))))), (h2, .inl (cB, 208, .inl (aN (lset v (fFM k) (lct k n) 0 mk))))] H := hP
    have hD : va_D A [(x0, .inr (3, [.ref h0, .ref t0, .ref r0])), (h0, .inr (0, [.int (nI ty), .ref h1, .ref h2])), (h1, .inl (cI, 16, .inl (aN (nup cnt k (lct k n))))), (h2, .inl (cB, 208, .inl (aN (lset v (fFM k) (lct k n) 0 mk))))] := hD
    subst hAe
    subst hQ
    exact W.vret hx hb hr (fun t ht hW => ⟨⟨(), rfl, trivial, by rw [ht]; exact hP.sub [0, 1, 2, 3] rfl, hD.sub [0, 1, 2, 3] (by decide) rfl⟩, hS.F ht⟩) hS.2.2 dC_letters_107
  · refine lv_iconst (v := nI 1) hx hb dC_letters_34 (by decide) ?_
    refine lv_goto (tgt := 39) hx hb dC_letters_35 (by decide) ?_
    refine lv_istore (lv' := [(6, .int (nI 1)), (5, .int (nI k)), (0, .ref x0), (1, .int (nI (fFI k))), (2, .long v), (4, .int (nI n))]) hx hb dC_letters_39 hl (by decide) rfl (fun ls hl => ?_)
    refine lv_iload hx hb dC_letters_41 (lv_at hl 0 rfl) ?_
    refine lv_if_eq (tgt := 54) hx hb dC_letters_43 (by decide) (fun q => False.elim (absurd q (by decide))) (fun c_43 => ?_)
    refine lv_iload hx hb dC_letters_46 (lv_at hl 5 rfl) ?_
    refine zi_eq0 (tgt := 81) hx hb (by omega) dC_letters_48 (by decide) (fun c_48 => ?_) (fun q => False.elim ((q (hn0 c_31))))
    refine lv_aload_n hx hb dC_letters_81 rfl (lv_at hl 2 rfl) ?_
    refine va_get (D := (dC, dI)) (ci := 3) (v := .ref h0) (C := RC) (T := TC) (N := 3) hx hb hw inC hown hK hP 0 rfl rfl 0 (by decide) (hw _ w_fl_C_10) (fun _ h9 => h9) rfl dC_letters_82 ?_
    refine lv_iload hx hb dC_letters_85 (lv_at hl 1 rfl) ?_
    refine lv_iload hx hb dC_letters_87 (lv_at hl 0 rfl) ?_
    refine lv_if_eq (tgt := 101) hx hb dC_letters_89 (by decide) (fun q => False.elim (absurd q (by decide))) (fun c_89 => ?_)
    refine va_gets hx hb zfMM hS hown (hw _ w_fl_C_51) (fun _ h9 => h9) dC_letters_92 ?_
    refine lv_iload hx hb dC_letters_95 (lv_at hl 1 rfl) ?_
    refine za_tab hx hb afMM hS (by omega) (by decide) dC_letters_97 ?_
    refine lv_goto (tgt := 103) hx hb dC_letters_98 (by decide) ?_
    refine W.eq (g2 := F0 m 103 ls [.int (nI (lct k n)), .int (nI k), .ref h0]) (by unfold lct; rw [if_pos c_31]) ?_
    refine lv_lload_n hx hb dC_letters_103 rfl (lv_at hl 4 rfl) ?_
    have hPc := hP.sub (ws' := [(h0, .inr (0, [.int (nI ty), .ref h1, .ref h2])), (h1, .inl (cI, 16, .inl (aN cnt))), (h2, .inl (cB, 208, .inl (aN mk)))]) [1, 2, 3] rfl
    have hDc := hD.sub (ws' := [(h0, .inr (0, [.int (nI ty), .ref h1, .ref h2])), (h1, .inl (cI, 16, .inl (aN cnt))), (h2, .inl (cB, 208, .inl (aN mk)))]) [1, 2, 3] (by decide) rfl
    have hFc := va_free (wc := [(h0, .inr (0, [.int (nI ty), .ref h1, .ref h2])), (h1, .inl (cI, 16, .inl (aN cnt))), (h2, .inl (cB, 208, .inl (aN mk)))]) hD hS hA [1, 2, 3] rfl
    refine zc_Mv (va_runV (As := [.int (nI k), .int (nI (lct k n)), .long v]) (rest := []) ⟨hx, hb, hml, hown, hw⟩ (c_D_putLetters l dC dI h0 h1 h2 cI cB ty cnt mk k (lct k n) v (by omega) (by omega) s.heap.size) (cwV 3 hw (gV w_ml_C_74 w_im_D_putLetters w_se_D_putLetters w_in_D w_co_D_putLetters) rfl rfl rfl (by decide +kernel) ⟨Nat.le_of_ble_eq_true rfl, Nat.le_of_ble_eq_true rfl⟩) (zM_V hG hS hFc hPc hDc hK 0 rfl rfl) rfl rfl hl.1 rfl (lv_room (Nat.le_of_ble_eq_true rfl)) dC_letters_104 ⟨Nat.le_of_ble_eq_true rfl, Nat.le_of_ble_eq_true rfl⟩) hS hFc (fun H locs h_104 hP1 hD1 hk1 hS => ?_)
    obtain ⟨hP, hD⟩ := va_join (wr := [(x0, .inr (3, [.ref h0, .ref t0, .ref r0]))]) (w1 := [(h0, .inr (0, [.int (nI ty), .ref h1, .ref h2])), (h1, .inl (cI, 16, .inl (aN (nup cnt k (lct k n))))), (h2, .inl (cB, 208, .inl (aN (lset v (fFM k) (lct k n) 0 mk))))]) hP hD [1, 2, 3] [0] rfl rfl (by decide) (by decide) hk1 hFc hP1 hD1
    have hP : va_P (dC, dI) vwCl [(x0, .inr (3, [.ref h0, .ref t0, .ref r0])), (h0, .inr (0, [.int (nI ty), .ref h1, .ref h2])), (h1, .inl (cI, 16, .inl (aN (nup cnt k (lct k n))))), (h2, .inl (cB, 208, .inl (aN (lset v (fFM k) (lct k n) 0 mk))))] H := hP
    have hD : va_D A [(x0, .inr (3, [.ref h0, .ref t0, .ref r0])), (h0, .inr (0, [.int (nI ty), .ref h1, .ref h2])), (h1, .inl (cI, 16, .inl (aN (nup cnt k (lct k n))))), (h2, .inl (cB, 208, .inl (aN (lset v (fFM k) (lct k n) 0 mk))))] := hD
    subst hAe
    subst hQ
    exact W.vret hx hb hr (fun t ht hW => ⟨⟨(), rfl, trivial, by rw [ht]; exact hP.sub [0, 1, 2, 3] rfl, hD.sub [0, 1, 2, 3] (by decide) rfl⟩, hS.F ht⟩) hS.2.2 dC_letters_107
def rm_c_original_ok : Room := ({ frames := 6, cells := 0, slots := 0, locals := 91 } : Room)
set_option maxHeartbeats 4000000 in
set_option maxRecDepth 100000 in
theorem c_original_ok (l : Launch) (dC : Nat → ClassId) (dI : Nat → Nat → Nat) (x0 : Nat) (h0 : Nat) (h1 : Nat) (h2 : Nat) (cI : ClassId) (cB : ClassId) (ty : Nat) (cnt : Nat → Nat) (mk : Nat → Nat) (t0 : Nat) (r0 : Nat) (a1 : Nat) (a2 : Nat) (a3 : Nat) (ha1 : a1 ≤ 9999) (ha2 : a2 ≤ 999999) (ha3 : a3 ≤ 99999) (sz : Nat) : Met l yC_original wsC_original rm_c_original_ok (zM (dC, dI) [(cI, .int), (cB, .byte)] [.ref x0, .int (nI a1), .int (nI a2), .int (nI a3)] [(x0, .inr (3, [.ref h0, .ref t0, .ref r0])), (h0, .inr (0, [.int (nI ty), .ref h1, .ref h2])), (h1, .inl (cI, 16, .inl (aN cnt))), (h2, .inl (cB, 208, .inl (aN mk)))] sz) (zMv (dC, dI) [(x0, .inr (3, [.ref h0, .ref t0, .ref r0])), (h0, .inr (0, [.int (nI ty), .ref h1, .ref h2])), (h1, .inl (cI, 16, .inl (aN cnt))), (h2, .inl (cB, 208, .inl (aN mk)))] [(x0, .inr (3, [.ref h0, .ref t0, .ref r0])), (h0, .inr (0, [.int (nI ty), .ref h1, .ref h2])), (h1, .inl (cI, 16, .inl (aN (nup cnt 14 (fMM 14))))), (h2, .inl (cB, 208, .inl (aN (ds (ds (ds (ds (ds mk (fFM 14 + 0) 4 a1) (fFM 14 + 4) 6 a2) (fFM 14 + 10) 10 0) (fFM 14 + 20) 11 a3) (fFM 14 + 31) 11 0))))] sz (True)) 0 0 (va_A [(x0, .inr (3, [.ref h0, .ref t0, .ref r0])), (h0, .inr (0, [.int (nI ty), .ref h1, .ref h2])), (h1, .inl (cI, 16, .inl (aN cnt))), (h2, .inl (cB, 208, .inl (aN mk)))] sz) := by
  refine Met.ofW (cc := cC_original) (maxL := 4) (ret := none) (by decide) rfl ?_
  intro p e s m args below meth c s₁ Bd hml hv
  obtain ⟨rfl, hsz, hG, hP, hK, hD0⟩ := hv
  subst hsz
  have hx := Bd.exec
  have hb := Bd.bytes
  have hr := Bd.returns
  have hts := atoms_spec (ws := wsC_original) Bd.pre
  have hw : ∀ w ∈ BIG, w.before _ s = true := fun w h => hts w (List.mem_cons_of_mem _ h)
  have hown : s.vm.findClass RC = some m.cls := findClass_of_methodNamed Bd.named
  have hlocks := Bd.notSynchronized
  have hD := hD0.self (sz := s.heap.size)
  obtain ⟨A, hAe⟩ : ∃ A, A = va_A [(x0, .inr (3, [.ref h0, .ref t0, .ref r0])), (h0, .inr (0, [.int (nI ty), .ref h1, .ref h2])), (h1, .inl (cI, 16, .inl (aN cnt))), (h2, .inl (cB, 208, .inl (aN mk)))] s.heap.size := ⟨_, rfl⟩
  have hA : ∀ q : Nat, s.heap.size ≤ q → A q := fun q h => by rw [hAe]; exact Or.inr h
  rw [← hAe] at hG hD
  have hS : va_S A s.heap s.heap [] := va_S.rf
  have hl := lv_entry ([.ref x0, .int (nI a1), .int (nI a2), .int (nI a3)]) (n := 4) (Nat.le_of_ble_eq_true rfl)
  rw [lg_entry_eq]
  generalize (lg_sl ([.ref x0, .int (nI a1), .int (nI a2), .int (nI a3)]) ++ List.replicate (4 - (lg_sl ([.ref x0, .int (nI a1), .int (nI a2), .int (nI a3)])).length) Slot.unset).toArray = ls at hl ⊢
  have hl : lv_has ls 4 [(0, .ref x0), (1, .int (nI a1)), (2, .int (nI a2)), (3, .int (nI a3))] := hl
  refine zq_name (fun Q hQ => ?_)
  change W p l e rm_c_original_ok s m _ below meth c _ _ _ _ Q _
  refine lv_iload_n hx hb dC_original_0 rfl (lv_at hl 1 rfl) ?_
  refine zi_lt0 (tgt := 31) hx hb (by omega) dC_original_1 (by decide) ?_
  refine lv_iload_n hx hb dC_original_4 rfl (lv_at hl 1 rfl) ?_
  refine lv_sipush (v := nI 9999) hx hb dC_original_5 (by decide) ?_
  refine zi_gt (tgt := 31) hx hb (by omega) (by omega) dC_original_8 (by decide) (fun q => False.elim ((by omega))) (fun c_8 => ?_)
  refine lv_iload_n hx hb dC_original_11 rfl (lv_at hl 2 rfl) ?_
  refine zi_lt0 (tgt := 31) hx hb (by omega) dC_original_12 (by decide) ?_
  refine lv_iload_n hx hb dC_original_15 rfl (lv_at hl 2 rfl) ?_
  refine lv_ldc (v := 999999) hx hb hown (hw _ w_k_C_77) dC_original_16 ?_
  refine zi_c (a := 999999) rfl ?_
  refine zi_gt (tgt := 31) hx hb (by omega) (by omega) dC_original_18 (by decide) (fun q => False.elim ((by omega))) (fun c_18 => ?_)
  refine lv_iload_n hx hb dC_original_21 rfl (lv_at hl 3 rfl) ?_
  refine zi_lt0 (tgt := 31) hx hb (by omega) dC_original_22 (by decide) ?_
  refine lv_iload_n hx hb dC_original_25 rfl (lv_at hl 3 rfl) ?_
  refine lv_ldc (v := 99999) hx hb hown (hw _ w_k_C_78) dC_original_26 ?_
  refine zi_c (a := 99999) rfl ?_
  refine zi_le (tgt := 41) hx hb (by omega) (by omega) dC_original_28 (by decide) (fun c_28 => ?_) (fun q => False.elim ((by omega)))
  refine lv_aload_n hx hb dC_original_41 rfl (lv_at hl 0 rfl) ?_
  refine va_get (D := (dC, dI)) (ci := 3) (v := .ref h0) (C := RC) (T := TC) (N := 3) hx hb hw inC hown hK hP 0 rfl rfl 0 (by decide) (hw _ w_fl_C_10) (fun _ h9 => h9) rfl dC_original_42 ?_
  refine lv_iload_n hx hb dC_original_45 rfl (lv_at hl 1 rfl) ?_
  refine lv_iload_n hx hb dC_original_46 rfl (lv_at hl 2 rfl) ?_
  refine lv_iload_n hx hb dC_original_47 rfl (lv_at hl 3 rfl) ?_
  have hPc := hP.sub (ws' := [(h0, .inr (0, [.int (nI ty), .ref h1, .ref h2])), (h1, .inl (cI, 16, .inl (aN cnt))), (h2, .inl (cB, 208, .inl (aN mk)))]) [1, 2, 3] rfl
  have hDc := hD.sub (ws' := [(h0, .inr (0, [.int (nI ty), .ref h1, .ref h2])), (h1, .inl (cI, 16, .inl (aN cnt))), (h2, .inl (cB, 208, .inl (aN mk)))]) [1, 2, 3] (by decide) rfl
  have hFc := va_free (wc := [(h0, .inr (0, [.int (nI ty), .ref h1, .ref h2])), (h1, .inl (cI, 16, .inl (aN cnt))), (h2, .inl (cB, 208, .inl (aN mk)))]) hD hS hA [1, 2, 3] rfl
  refine zc_Mv (va_runV (As := [.int (nI a1), .int (nI a2), .int (nI a3)]) (rest := []) ⟨hx, hb, hml, hown, hw⟩ (c_D_putOriginal l dC dI h0 h1 h2 cI cB ty cnt mk a1 a2 a3 (by omega) (by omega) (by omega) s.heap.size) (cwV 3 hw (gV w_ml_C_81 w_im_D_putOriginal w_se_D_putOriginal w_in_D w_co_D_putOriginal) rfl rfl rfl (by decide +kernel) ⟨Nat.le_of_ble_eq_true rfl, Nat.le_of_ble_eq_true rfl⟩) (zM_V hG hS hFc hPc hDc hK 0 rfl rfl) rfl rfl hl.1 rfl (lv_room (Nat.le_of_ble_eq_true rfl)) dC_original_48 ⟨Nat.le_of_ble_eq_true rfl, Nat.le_of_ble_eq_true rfl⟩) hS hFc (fun H locs h_48 hP1 hD1 hk1 hS => ?_)
  obtain ⟨hP, hD⟩ := va_join (wr := [(x0, .inr (3, [.ref h0, .ref t0, .ref r0]))]) (w1 := [(h0, .inr (0, [.int (nI ty), .ref h1, .ref h2])), (h1, .inl (cI, 16, .inl (aN (nup cnt 14 (fMM 14))))), (h2, .inl (cB, 208, .inl (aN (ds (ds (ds (ds (ds mk (fFM 14 + 0) 4 a1) (fFM 14 + 4) 6 a2) (fFM 14 + 10) 10 0) (fFM 14 + 20) 11 a3) (fFM 14 + 31) 11 0))))]) hP hD [1, 2, 3] [0] rfl rfl (by decide) (by decide) hk1 hFc hP1 hD1
  have hP : va_P (dC, dI) vwCl [(x0, .inr (3, [.ref h0, .ref t0, .ref r0])), (h0, .inr (0, [.int (nI ty), .ref h1, .ref h2])), (h1, .inl (cI, 16, .inl (aN (nup cnt 14 (fMM 14))))), (h2, .inl (cB, 208, .inl (aN (ds (ds (ds (ds (ds mk (fFM 14 + 0) 4 a1) (fFM 14 + 4) 6 a2) (fFM 14 + 10) 10 0) (fFM 14 + 20) 11 a3) (fFM 14 + 31) 11 0))))] H := hP
  have hD : va_D A [(x0, .inr (3, [.ref h0, .ref t0, .ref r0])), (h0, .inr (0, [.int (nI ty), .ref h1, .ref h2])), (h1, .inl (cI, 16, .inl (aN (nup cnt 14 (fMM 14))))), (h2, .inl (cB, 208, .inl (aN (ds (ds (ds (ds (ds mk (fFM 14 + 0) 4 a1) (fFM 14 + 4) 6 a2) (fFM 14 + 10) 10 0) (fFM 14 + 20) 11 a3) (fFM 14 + 31) 11 0))))] := hD
  subst hAe
  subst hQ
  exact W.vret hx hb hr (fun t ht hW => ⟨⟨(), rfl, trivial, by rw [ht]; exact hP.sub [0, 1, 2, 3] rfl, hD.sub [0, 1, 2, 3] (by decide) rfl⟩, hS.F ht⟩) hS.2.2 dC_original_51
def rm_c_omit_ok : Room := ({ frames := 7, cells := 0, slots := 0, locals := 112 } : Room)
set_option maxHeartbeats 4000000 in
set_option maxRecDepth 100000 in
theorem c_omit_ok (l : Launch) (dC : Nat → ClassId) (dI : Nat → Nat → Nat) (x0 : Nat) (h0 : Nat) (h1 : Nat) (h2 : Nat) (cI : ClassId) (cB : ClassId) (ty : Nat) (cnt : Nat → Nat) (mk : Nat → Nat) (t0 : Nat) (r0 : Nat) (k : Nat) (hk : k < 16) (hc : ∀ j, j < 16 → cnt j < 2 ^ 31) (sz : Nat) : Met l yC_omit wsC_omit rm_c_omit_ok (zM (dC, dI) [(cI, .int), (cB, .byte)] [.ref x0, .int (nI (fFI k))] [(x0, .inr (3, [.ref h0, .ref t0, .ref r0])), (h0, .inr (0, [.int (nI ty), .ref h1, .ref h2])), (h1, .inl (cI, 16, .inl (aN cnt))), (h2, .inl (cB, 208, .inl (aN mk)))] sz) (zMi (dC, dI) [(x0, .inr (3, [.ref h0, .ref t0, .ref r0])), (h0, .inr (0, [.int (nI ty), .ref h1, .ref h2])), (h1, .inl (cI, 16, .inl (aN cnt))), (h2, .inl (cB, 208, .inl (aN mk)))] [(x0, .inr (3, [.ref h0, .ref t0, .ref r0])), (h0, .inr (0, [.int (nI ty), .ref h1, .ref h2])), (h1, .inl (cI, 16, .inl (aN (nup cnt k 0)))), (h2, .inl (cB, 208, .inl (aN mk)))] sz (fun r => r = nI (hz (cnt k)))) 0 0 (va_A [(x0, .inr (3, [.ref h0, .ref t0, .ref r0])), (h0, .inr (0, [.int (nI ty), .ref h1, .ref h2])), (h1, .inl (cI, 16, .inl (aN cnt))), (h2, .inl (cB, 208, .inl (aN mk)))] sz) := by
  refine Met.ofW (cc := cC_omit) (maxL := 4) (ret := (some .boolean)) (by decide) rfl ?_
  intro p e s m args below meth c s₁ Bd hml hv
  obtain ⟨rfl, hsz, hG, hP, hK, hD0⟩ := hv
  subst hsz
  have hx := Bd.exec
  have hb := Bd.bytes
  have hr := Bd.returns
  have hts := atoms_spec (ws := wsC_omit) Bd.pre
  have hw : ∀ w ∈ BIG, w.before _ s = true := fun w h => hts w (List.mem_cons_of_mem _ h)
  have hown : s.vm.findClass RC = some m.cls := findClass_of_methodNamed Bd.named
  have hlocks := Bd.notSynchronized
  have hD := hD0.self (sz := s.heap.size)
  obtain ⟨A, hAe⟩ : ∃ A, A = va_A [(x0, .inr (3, [.ref h0, .ref t0, .ref r0])), (h0, .inr (0, [.int (nI ty), .ref h1, .ref h2])), (h1, .inl (cI, 16, .inl (aN cnt))), (h2, .inl (cB, 208, .inl (aN mk)))] s.heap.size := ⟨_, rfl⟩
  have hA : ∀ q : Nat, s.heap.size ≤ q → A q := fun q h => by rw [hAe]; exact Or.inr h
  rw [← hAe] at hG hD
  have hS : va_S A s.heap s.heap [] := va_S.rf
  have hl := lv_entry ([.ref x0, .int (nI (fFI k))]) (n := 4) (Nat.le_of_ble_eq_true rfl)
  rw [lg_entry_eq]
  generalize (lg_sl ([.ref x0, .int (nI (fFI k))]) ++ List.replicate (4 - (lg_sl ([.ref x0, .int (nI (fFI k))])).length) Slot.unset).toArray = ls at hl ⊢
  have hl : lv_has ls 4 [(0, .ref x0), (1, .int (nI (fFI k)))] := hl
  refine zq_name (fun Q hQ => ?_)
  change W p l e rm_c_omit_ok s m _ below meth c _ _ _ _ Q _
  refine lv_iload_n hx hb dC_omit_0 rfl (lv_at hl 1 rfl) ?_
  refine zc_Ri (va_runS (As := [.int (nI (fFI k))]) (rest := []) ⟨hx, hb, hml, hown, hw⟩ (c_knownSlot_ok l dC dI cI cB k (by omega) s.heap) (va_cwS 1 hw (gSt w_ml_C_64 w_st_C_knownSlot w_in_C w_co_C_knownSlot) rfl rfl rfl (by decide +kernel) ⟨Nat.le_of_ble_eq_true rfl, Nat.le_of_ble_eq_true rfl⟩) (zR_S hG hS (hP.sub (ws' := []) [] rfl) hK) rfl rfl hl.1 rfl (lv_room (Nat.le_of_ble_eq_true rfl)) dC_omit_1 ⟨Nat.le_of_ble_eq_true rfl, Nat.le_of_ble_eq_true rfl⟩) hS (fun r_1 locs h_1 hS => ?_)
  subst h_1
  refine lv_istore_n (lv' := [(2, .int (nI k)), (0, .ref x0), (1, .int (nI (fFI k)))]) hx hb dC_omit_4 rfl hl (by decide) rfl (fun ls hl => ?_)
  refine lv_aload_n hx hb dC_omit_5 rfl (lv_at hl 1 rfl) ?_
  refine va_get (D := (dC, dI)) (ci := 3) (v := .ref h0) (C := RC) (T := TC) (N := 3) hx hb hw inC hown hK hP 0 rfl rfl 0 (by decide) (hw _ w_fl_C_10) (fun _ h9 => h9) rfl dC_omit_6 ?_
  refine lv_iload_n hx hb dC_omit_9 rfl (lv_at hl 0 rfl) ?_
  refine zc_Ri (va_runV (As := [.int (nI k)]) (rest := []) ⟨hx, hb, hml, hown, hw⟩ (c_D_has l dC dI h0 h1 h2 cI cB ty cnt k (by omega) (hc k hk) s.heap) (cwV 1 hw (gV w_ml_C_85 w_im_D_has w_se_D_has w_in_D w_co_D_has) rfl rfl rfl (by decide +kernel) ⟨Nat.le_of_ble_eq_true rfl, Nat.le_of_ble_eq_true rfl⟩) (zR_V hG hS (hP.sub (ws' := [(h0, .inr (0, [.int (nI ty), .ref h1, .ref h2])), (h1, .inl (cI, 16, .inl (aN cnt)))]) [1, 2] rfl) hK 0 rfl rfl) rfl rfl hl.1 rfl (lv_room (Nat.le_of_ble_eq_true rfl)) dC_omit_10 ⟨Nat.le_of_ble_eq_true rfl, Nat.le_of_ble_eq_true rfl⟩) hS (fun r_2 locs h_10 hS => ?_)
  subst h_10
  refine lv_istore_n (lv' := [(3, .int (nI (hz (cnt k)))), (2, .int (nI k)), (0, .ref x0), (1, .int (nI (fFI k)))]) hx hb dC_omit_13 rfl hl (by decide) rfl (fun ls hl => ?_)
  refine lv_aload_n hx hb dC_omit_14 rfl (lv_at hl 2 rfl) ?_
  refine va_get (D := (dC, dI)) (ci := 3) (v := .ref h0) (C := RC) (T := TC) (N := 3) hx hb hw inC hown hK hP 0 rfl rfl 0 (by decide) (hw _ w_fl_C_10) (fun _ h9 => h9) rfl dC_omit_15 ?_
  refine va_get (D := (dC, dI)) (ci := 0) (v := .ref h1) (C := RD) (T := TD) (N := 3) hx hb hw inD hown hK hP 1 rfl rfl 1 (by decide) (hw _ w_fl_C_89) (fun _ h9 => h9) rfl dC_omit_18 ?_
  refine lv_iload_n hx hb dC_omit_21 rfl (lv_at hl 1 rfl) ?_
  refine lv_iconst (v := nI 0) hx hb dC_omit_22 (by decide) ?_
  refine za_ist hx hb hK hP hD hS 2 0 rfl rfl (by omega) (by decide) dC_omit_23 (fun H locs hP hD hS => ?_)
  have hP : va_P (dC, dI) vwCl [(x0, .inr (3, [.ref h0, .ref t0, .ref r0])), (h0, .inr (0, [.int (nI ty), .ref h1, .ref h2])), (h1, .inl (cI, 16, .inl (aN (nup cnt k 0)))), (h2, .inl (cB, 208, .inl (aN mk)))] H := hP
  have hD : va_D A [(x0, .inr (3, [.ref h0, .ref t0, .ref r0])), (h0, .inr (0, [.int (nI ty), .ref h1, .ref h2])), (h1, .inl (cI, 16, .inl (aN (nup cnt k 0)))), (h2, .inl (cB, 208, .inl (aN mk)))] := hD
  refine lv_iload_n hx hb dC_omit_24 rfl (lv_at hl 0 rfl) ?_
  subst hAe
  subst hQ
  exact W.zret (v := nI (hz (cnt k))) hx hb hr (hz_nar _) (fun t ht hW => ⟨⟨nI (hz (cnt k)), (), rfl, rfl, by rw [ht]; exact hP.sub [0, 1, 2, 3] rfl, hD.sub [0, 1, 2, 3] (by decide) rfl⟩, hS.F ht⟩) hS.2.2 dC_omit_25
def rm_c_type : Room := ({ frames := 0, cells := 0, slots := 0, locals := 0 } : Room)
set_option maxHeartbeats 4000000 in
set_option maxRecDepth 100000 in
theorem c_type (l : Launch) (dC : Nat → ClassId) (dI : Nat → Nat → Nat) (x0 : Nat) (h0 : Nat) (h1 : Nat) (h2 : Nat) (cI : ClassId) (cB : ClassId) (ty : Nat) (cnt : Nat → Nat) (mk : Nat → Nat) (t0 : Nat) (r0 : Nat) (Hc : Heap) : Met l yC_type wsC_type rm_c_type (zR (dC, dI) [(cI, .int), (cB, .byte)] [.ref x0] [(x0, .inr (3, [.ref h0, .ref t0, .ref r0])), (h0, .inr (0, [.int (nI ty), .ref h1, .ref h2]))] Hc) (zRi Hc (fun r => r = nI ty)) 0 0 zNo := by
  refine Met.ofW (cc := cC_type) (maxL := 1) (ret := (some .int)) (by decide) rfl ?_
  intro p e s m args below meth c s₁ Bd hml hv
  obtain ⟨rfl, hH, hG, hP, hK⟩ := hv
  subst hH
  have hx := Bd.exec
  have hb := Bd.bytes
  have hr := Bd.returns
  have hts := atoms_spec (ws := wsC_type) Bd.pre
  have hw : ∀ w ∈ BIG, w.before _ s = true := fun w h => hts w (List.mem_cons_of_mem _ h)
  have hown : s.vm.findClass RC = some m.cls := findClass_of_methodNamed Bd.named
  have hlocks := Bd.notSynchronized
  have hS : va_S zNo s.heap s.heap [] := va_S.rf
  have hl := lv_entry ([.ref x0]) (n := 1) (Nat.le_of_ble_eq_true rfl)
  rw [lg_entry_eq]
  generalize (lg_sl ([.ref x0]) ++ List.replicate (1 - (lg_sl ([.ref x0])).length) Slot.unset).toArray = ls at hl ⊢
  have hl : lv_has ls 1 [(0, .ref x0)] := hl
  refine zq_name (fun Q hQ => ?_)
  change W p l e rm_c_type s m _ below meth c _ _ _ _ Q _
  refine lv_aload_n hx hb dC_type_0 rfl (lv_at hl 0 rfl) ?_
  refine va_get (D := (dC, dI)) (ci := 3) (v := .ref h0) (C := RC) (T := TC) (N := 3) hx hb hw inC hown hK hP 0 rfl rfl 0 (by decide) (hw _ w_fl_C_10) (fun _ h9 => h9) rfl dC_type_1 ?_
  refine va_get (D := (dC, dI)) (ci := 0) (v := .int (nI ty)) (C := RD) (T := TD) (N := 3) hx hb hw inD hown hK hP 1 rfl rfl 0 (by decide) (hw _ w_fl_C_92) (fun _ h9 => h9) rfl dC_type_4 ?_
  subst hQ
  exact W.iret (v := nI ty) hx hb hr (fun t ht hW => ⟨⟨nI ty, (), rfl, rfl, ht⟩, hS.F ht⟩) hS.2.2 dC_type_7
def rm_c_size_ok : Room := ({ frames := 7, cells := 0, slots := 0, locals := 112 } : Room)
set_option maxHeartbeats 4000000 in
set_option maxRecDepth 100000 in
theorem c_size_ok (l : Launch) (dC : Nat → ClassId) (dI : Nat → Nat → Nat) (x0 : Nat) (h0 : Nat) (h1 : Nat) (h2 : Nat) (cI : ClassId) (cB : ClassId) (ty : Nat) (cnt : Nat → Nat) (mk : Nat → Nat) (t0 : Nat) (r0 : Nat) (k : Nat) (hk : k < 16) (hc : ∀ j, j < 16 → cnt j < 2 ^ 31) (Hc : Heap) : Met l yC_size wsC_size rm_c_size_ok (zR (dC, dI) [(cI, .int), (cB, .byte)] [.ref x0, .int (nI (fFI k))] [(x0, .inr (3, [.ref h0, .ref t0, .ref r0])), (h0, .inr (0, [.int (nI ty), .ref h1, .ref h2])), (h1, .inl (cI, 16, .inl (aN cnt)))] Hc) (zRi Hc (fun r => r = szr (cnt k))) 0 0 zNo := by
  refine Met.ofW (cc := cC_size) (maxL := 3) (ret := (some .int)) (by decide) rfl ?_
  intro p e s m args below meth c s₁ Bd hml hv
  obtain ⟨rfl, hH, hG, hP, hK⟩ := hv
  subst hH
  have hx := Bd.exec
  have hb := Bd.bytes
  have hr := Bd.returns
  have hts := atoms_spec (ws := wsC_size) Bd.pre
  have hw : ∀ w ∈ BIG, w.before _ s = true := fun w h => hts w (List.mem_cons_of_mem _ h)
  have hown : s.vm.findClass RC = some m.cls := findClass_of_methodNamed Bd.named
  have hlocks := Bd.notSynchronized
  have hS : va_S zNo s.heap s.heap [] := va_S.rf
  have hl := lv_entry ([.ref x0, .int (nI (fFI k))]) (n := 3) (Nat.le_of_ble_eq_true rfl)
  rw [lg_entry_eq]
  generalize (lg_sl ([.ref x0, .int (nI (fFI k))]) ++ List.replicate (3 - (lg_sl ([.ref x0, .int (nI (fFI k))])).length) Slot.unset).toArray = ls at hl ⊢
  have hl : lv_has ls 3 [(0, .ref x0), (1, .int (nI (fFI k)))] := hl
  refine zq_name (fun Q hQ => ?_)
  change W p l e rm_c_size_ok s m _ below meth c _ _ _ _ Q _
  refine lv_iload_n hx hb dC_size_0 rfl (lv_at hl 1 rfl) ?_
  refine zc_Ri (va_runS (As := [.int (nI (fFI k))]) (rest := []) ⟨hx, hb, hml, hown, hw⟩ (c_knownSlot_ok l dC dI cI cB k (by omega) s.heap) (va_cwS 1 hw (gSt w_ml_C_64 w_st_C_knownSlot w_in_C w_co_C_knownSlot) rfl rfl rfl (by decide +kernel) ⟨Nat.le_of_ble_eq_true rfl, Nat.le_of_ble_eq_true rfl⟩) (zR_S hG hS (hP.sub (ws' := []) [] rfl) hK) rfl rfl hl.1 rfl (lv_room (Nat.le_of_ble_eq_true rfl)) dC_size_1 ⟨Nat.le_of_ble_eq_true rfl, Nat.le_of_ble_eq_true rfl⟩) hS (fun r_1 locs h_1 hS => ?_)
  subst h_1
  refine lv_istore_n (lv' := [(2, .int (nI k)), (0, .ref x0), (1, .int (nI (fFI k)))]) hx hb dC_size_4 rfl hl (by decide) rfl (fun ls hl => ?_)
  refine lv_aload_n hx hb dC_size_5 rfl (lv_at hl 1 rfl) ?_
  refine va_get (D := (dC, dI)) (ci := 3) (v := .ref h0) (C := RC) (T := TC) (N := 3) hx hb hw inC hown hK hP 0 rfl rfl 0 (by decide) (hw _ w_fl_C_10) (fun _ h9 => h9) rfl dC_size_6 ?_
  refine lv_iload_n hx hb dC_size_9 rfl (lv_at hl 0 rfl) ?_
  refine zc_Ri (va_runV (As := [.int (nI k)]) (rest := []) ⟨hx, hb, hml, hown, hw⟩ (c_D_has l dC dI h0 h1 h2 cI cB ty cnt k (by omega) (hc k hk) s.heap) (cwV 1 hw (gV w_ml_C_85 w_im_D_has w_se_D_has w_in_D w_co_D_has) rfl rfl rfl (by decide +kernel) ⟨Nat.le_of_ble_eq_true rfl, Nat.le_of_ble_eq_true rfl⟩) (zR_V hG hS (hP.sub (ws' := [(h0, .inr (0, [.int (nI ty), .ref h1, .ref h2])), (h1, .inl (cI, 16, .inl (aN cnt)))]) [1, 2] rfl) hK 0 rfl rfl) rfl rfl hl.1 rfl (lv_room (Nat.le_of_ble_eq_true rfl)) dC_size_10 ⟨Nat.le_of_ble_eq_true rfl, Nat.le_of_ble_eq_true rfl⟩) hS (fun r_2 locs h_10 hS => ?_)
  subst h_10
  refine zi_eq0 (tgt := 28) hx hb (hz_lt _) dC_size_13 (by decide) (fun c_13 => ?_) (fun c_13 => ?_)
  · refine lv_iconst (v := (-1)) hx hb dC_size_28 (by decide) ?_
    subst hQ
    exact W.iret (v := (-1)) hx hb hr (fun t ht hW => ⟨⟨(-1), (), rfl, (by unfold szr; rw [if_pos (hz_0.mp c_13)]), ht⟩, hS.F ht⟩) hS.2.2 dC_size_29
  · refine lv_aload_n hx hb dC_size_16 rfl (lv_at hl 1 rfl) ?_
    refine va_get (D := (dC, dI)) (ci := 3) (v := .ref h0) (C := RC) (T := TC) (N := 3) hx hb hw inC hown hK hP 0 rfl rfl 0 (by decide) (hw _ w_fl_C_10) (fun _ h9 => h9) rfl dC_size_17 ?_
    refine va_get (D := (dC, dI)) (ci := 0) (v := .ref h1) (C := RD) (T := TD) (N := 3) hx hb hw inD hown hK hP 1 rfl rfl 1 (by decide) (hw _ w_fl_C_89) (fun _ h9 => h9) rfl dC_size_20 ?_
    refine lv_iload_n hx hb dC_size_23 rfl (lv_at hl 0 rfl) ?_
    refine za_ild hx hb hK hP 2 0 rfl rfl (by omega) (by decide) dC_size_24 ?_
    refine lv_goto (tgt := 29) hx hb dC_size_25 (by decide) ?_
    subst hQ
    exact W.iret (v := nI (cnt k)) hx hb hr (fun t ht hW => ⟨⟨nI (cnt k), (), rfl, (by unfold szr; rw [if_neg (fun z => c_13 (hz_0.mpr z))]), ht⟩, hS.F ht⟩) hS.2.2 dC_size_29
def rm_c_at_ok : Room := ({ frames := 7, cells := 0, slots := 0, locals := 112 } : Room)
set_option maxHeartbeats 4000000 in
set_option maxRecDepth 100000 in
theorem c_at_ok (l : Launch) (dC : Nat → ClassId) (dI : Nat → Nat → Nat) (x0 : Nat) (h0 : Nat) (h1 : Nat) (h2 : Nat) (cI : ClassId) (cB : ClassId) (ty : Nat) (cnt : Nat → Nat) (mk : Nat → Nat) (t0 : Nat) (r0 : Nat) (k : Nat) (j : Nat) (hk : k < 16) (hj : j < cnt k) (hck : cnt k ≤ fMM k) (Hc : Heap) : Met l yC_at wsC_at rm_c_at_ok (zR (dC, dI) [(cI, .int), (cB, .byte)] [.ref x0, .int (nI (fFI k)), .int (nI j)] [(x0, .inr (3, [.ref h0, .ref t0, .ref r0])), (h0, .inr (0, [.int (nI ty), .ref h1, .ref h2])), (h1, .inl (cI, 16, .inl (aN cnt))), (h2, .inl (cB, 208, .inl (aN mk)))] Hc) (zRi Hc (fun r => r = nI (mk (fFM k + j)))) 0 0 zNo := by
  refine Met.ofW (cc := cC_at) (maxL := 4) (ret := (some .int)) (by decide) rfl ?_
  intro p e s m args below meth c s₁ Bd hml hv
  obtain ⟨rfl, hH, hG, hP, hK⟩ := hv
  subst hH
  have hx := Bd.exec
  have hb := Bd.bytes
  have hr := Bd.returns
  have hts := atoms_spec (ws := wsC_at) Bd.pre
  have hw : ∀ w ∈ BIG, w.before _ s = true := fun w h => hts w (List.mem_cons_of_mem _ h)
  have hown : s.vm.findClass RC = some m.cls := findClass_of_methodNamed Bd.named
  have hlocks := Bd.notSynchronized
  have hS : va_S zNo s.heap s.heap [] := va_S.rf
  have hl := lv_entry ([.ref x0, .int (nI (fFI k)), .int (nI j)]) (n := 4) (Nat.le_of_ble_eq_true rfl)
  rw [lg_entry_eq]
  generalize (lg_sl ([.ref x0, .int (nI (fFI k)), .int (nI j)]) ++ List.replicate (4 - (lg_sl ([.ref x0, .int (nI (fFI k)), .int (nI j)])).length) Slot.unset).toArray = ls at hl ⊢
  have hl : lv_has ls 4 [(0, .ref x0), (1, .int (nI (fFI k))), (2, .int (nI j))] := hl
  refine zq_name (fun Q hQ => ?_)
  change W p l e rm_c_at_ok s m _ below meth c _ _ _ _ Q _
  have hmm := fMM_b k hk
  have hfm := fFM_b k hk
  refine lv_iload_n hx hb dC_at_0 rfl (lv_at hl 1 rfl) ?_
  refine zc_Ri (va_runS (As := [.int (nI (fFI k))]) (rest := []) ⟨hx, hb, hml, hown, hw⟩ (c_knownSlot_ok l dC dI cI cB k (by omega) s.heap) (va_cwS 1 hw (gSt w_ml_C_64 w_st_C_knownSlot w_in_C w_co_C_knownSlot) rfl rfl rfl (by decide +kernel) ⟨Nat.le_of_ble_eq_true rfl, Nat.le_of_ble_eq_true rfl⟩) (zR_S hG hS (hP.sub (ws' := []) [] rfl) hK) rfl rfl hl.1 rfl (lv_room (Nat.le_of_ble_eq_true rfl)) dC_at_1 ⟨Nat.le_of_ble_eq_true rfl, Nat.le_of_ble_eq_true rfl⟩) hS (fun r_1 locs h_1 hS => ?_)
  subst h_1
  refine lv_istore_n (lv' := [(3, .int (nI k)), (0, .ref x0), (1, .int (nI (fFI k))), (2, .int (nI j))]) hx hb dC_at_4 rfl hl (by decide) rfl (fun ls hl => ?_)
  refine lv_iload_n hx hb dC_at_5 rfl (lv_at hl 3 rfl) ?_
  refine zi_lt0 (tgt := 22) hx hb (by omega) dC_at_6 (by decide) ?_
  refine lv_iload_n hx hb dC_at_9 rfl (lv_at hl 3 rfl) ?_
  refine lv_aload_n hx hb dC_at_10 rfl (lv_at hl 1 rfl) ?_
  refine va_get (D := (dC, dI)) (ci := 3) (v := .ref h0) (C := RC) (T := TC) (N := 3) hx hb hw inC hown hK hP 0 rfl rfl 0 (by decide) (hw _ w_fl_C_10) (fun _ h9 => h9) rfl dC_at_11 ?_
  refine va_get (D := (dC, dI)) (ci := 0) (v := .ref h1) (C := RD) (T := TD) (N := 3) hx hb hw inD hown hK hP 1 rfl rfl 1 (by decide) (hw _ w_fl_C_89) (fun _ h9 => h9) rfl dC_at_14 ?_
  refine lv_iload_n hx hb dC_at_17 rfl (lv_at hl 0 rfl) ?_
  refine za_ild hx hb hK hP 2 0 rfl rfl (by omega) (by decide) dC_at_18 ?_
  refine zi_lt (tgt := 32) hx hb (by omega) (by omega) dC_at_19 (by decide) (fun c_19 => ?_) (fun q => False.elim ((by omega)))
  refine lv_aload_n hx hb dC_at_32 rfl (lv_at hl 1 rfl) ?_
  refine va_get (D := (dC, dI)) (ci := 3) (v := .ref h0) (C := RC) (T := TC) (N := 3) hx hb hw inC hown hK hP 0 rfl rfl 0 (by decide) (hw _ w_fl_C_10) (fun _ h9 => h9) rfl dC_at_33 ?_
  refine lv_iload_n hx hb dC_at_36 rfl (lv_at hl 0 rfl) ?_
  refine lv_iload_n hx hb dC_at_37 rfl (lv_at hl 3 rfl) ?_
  refine zc_Ri (va_runV (As := [.int (nI k), .int (nI j)]) (rest := []) ⟨hx, hb, hml, hown, hw⟩ (c_D_mark l dC dI h0 h1 h2 cI cB ty mk k j (by omega) (by omega) s.heap) (cwV 2 hw (gV w_ml_C_98 w_im_D_mark w_se_D_mark w_in_D w_co_D_mark) rfl rfl rfl (by decide +kernel) ⟨Nat.le_of_ble_eq_true rfl, Nat.le_of_ble_eq_true rfl⟩) (zR_V hG hS (hP.sub (ws' := [(h0, .inr (0, [.int (nI ty), .ref h1, .ref h2])), (h2, .inl (cB, 208, .inl (aN mk)))]) [1, 3] rfl) hK 0 rfl rfl) rfl rfl hl.1 rfl (lv_room (Nat.le_of_ble_eq_true rfl)) dC_at_38 ⟨Nat.le_of_ble_eq_true rfl, Nat.le_of_ble_eq_true rfl⟩) hS (fun r_2 locs h_38 hS => ?_)
  subst h_38
  subst hQ
  exact W.iret (v := nI (mk (fFM k + j))) hx hb hr (fun t ht hW => ⟨⟨nI (mk (fFM k + j)), (), rfl, rfl, ht⟩, hS.F ht⟩) hS.2.2 dC_at_41
def rm_c_number_ok : Room := ({ frames := 8, cells := 0, slots := 0, locals := 133 } : Room)
set_option maxHeartbeats 4000000 in
set_option maxRecDepth 100000 in
theorem c_number_ok (l : Launch) (dC : Nat → ClassId) (dI : Nat → Nat → Nat) (x0 : Nat) (h0 : Nat) (h1 : Nat) (h2 : Nat) (cI : ClassId) (cB : ClassId) (ty : Nat) (cnt : Nat → Nat) (mk : Nat → Nat) (t0 : Nat) (r0 : Nat) (k : Nat) (hk : k < 16) (hh : fHL k = 0) (hck : cnt k ≤ fMM k) (hm : ∀ j, mk j < 128) (Hc : Heap) : Met l yC_number wsC_number rm_c_number_ok (zR (dC, dI) [(cI, .int), (cB, .byte)] [.ref x0, .int (nI (fFI k))] [(x0, .inr (3, [.ref h0, .ref t0, .ref r0])), (h0, .inr (0, [.int (nI ty), .ref h1, .ref h2])), (h1, .inl (cI, 16, .inl (aN cnt))), (h2, .inl (cB, 208, .inl (aN mk)))] Hc) (zRl Hc (fun r => r = nbr cnt mk k)) 0 0 zNo := by
  refine Met.ofW (cc := cC_number) (maxL := 3) (ret := (some .long)) (by decide) rfl ?_
  intro p e s m args below meth c s₁ Bd hml hv
  obtain ⟨rfl, hH, hG, hP, hK⟩ := hv
  subst hH
  have hx := Bd.exec
  have hb := Bd.bytes
  have hr := Bd.returns
  have hts := atoms_spec (ws := wsC_number) Bd.pre
  have hw : ∀ w ∈ BIG, w.before _ s = true := fun w h => hts w (List.mem_cons_of_mem _ h)
  have hown : s.vm.findClass RC = some m.cls := findClass_of_methodNamed Bd.named
  have hlocks := Bd.notSynchronized
  have hS : va_S zNo s.heap s.heap [] := va_S.rf
  have hl := lv_entry ([.ref x0, .int (nI (fFI k))]) (n := 3) (Nat.le_of_ble_eq_true rfl)
  rw [lg_entry_eq]
  generalize (lg_sl ([.ref x0, .int (nI (fFI k))]) ++ List.replicate (3 - (lg_sl ([.ref x0, .int (nI (fFI k))])).length) Slot.unset).toArray = ls at hl ⊢
  have hl : lv_has ls 3 [(0, .ref x0), (1, .int (nI (fFI k)))] := hl
  refine zq_name (fun Q hQ => ?_)
  change W p l e rm_c_number_ok s m _ below meth c _ _ _ _ Q _
  have hmm := fMM_b k hk
  have hfm := fFM_b k hk
  refine lv_iload_n hx hb dC_number_0 rfl (lv_at hl 1 rfl) ?_
  refine zc_Ri (va_runS (As := [.int (nI (fFI k))]) (rest := []) ⟨hx, hb, hml, hown, hw⟩ (c_digitSlot_ok l dC dI cI cB k (by omega) hh s.heap) (va_cwS 1 hw (gSt w_ml_C_43 w_st_C_digitSlot w_in_C w_co_C_digitSlot) rfl rfl rfl (by decide +kernel) ⟨Nat.le_of_ble_eq_true rfl, Nat.le_of_ble_eq_true rfl⟩) (zR_S hG hS (hP.sub (ws' := []) [] rfl) hK) rfl rfl hl.1 rfl (lv_room (Nat.le_of_ble_eq_true rfl)) dC_number_1 ⟨Nat.le_of_ble_eq_true rfl, Nat.le_of_ble_eq_true rfl⟩) hS (fun r_1 locs h_1 hS => ?_)
  subst h_1
  refine lv_istore_n (lv' := [(2, .int (nI k)), (0, .ref x0), (1, .int (nI (fFI k)))]) hx hb dC_number_4 rfl hl (by decide) rfl (fun ls hl => ?_)
  refine lv_aload_n hx hb dC_number_5 rfl (lv_at hl 1 rfl) ?_
  refine va_get (D := (dC, dI)) (ci := 3) (v := .ref h0) (C := RC) (T := TC) (N := 3) hx hb hw inC hown hK hP 0 rfl rfl 0 (by decide) (hw _ w_fl_C_10) (fun _ h9 => h9) rfl dC_number_6 ?_
  refine lv_iload_n hx hb dC_number_9 rfl (lv_at hl 0 rfl) ?_
  refine zc_Ri (va_runV (As := [.int (nI k)]) (rest := []) ⟨hx, hb, hml, hown, hw⟩ (c_D_has l dC dI h0 h1 h2 cI cB ty cnt k (by omega) (by omega) s.heap) (cwV 1 hw (gV w_ml_C_85 w_im_D_has w_se_D_has w_in_D w_co_D_has) rfl rfl rfl (by decide +kernel) ⟨Nat.le_of_ble_eq_true rfl, Nat.le_of_ble_eq_true rfl⟩) (zR_V hG hS (hP.sub (ws' := [(h0, .inr (0, [.int (nI ty), .ref h1, .ref h2])), (h1, .inl (cI, 16, .inl (aN cnt)))]) [1, 2] rfl) hK 0 rfl rfl) rfl rfl hl.1 rfl (lv_room (Nat.le_of_ble_eq_true rfl)) dC_number_10 ⟨Nat.le_of_ble_eq_true rfl, Nat.le_of_ble_eq_true rfl⟩) hS (fun r_2 locs h_10 hS => ?_)
  subst h_10
  refine zi_eq0 (tgt := 27) hx hb (hz_lt _) dC_number_13 (by decide) (fun c_13 => ?_) (fun c_13 => ?_)
  · refine lv_ldc2 (v := -1) hx hb hown (hw _ w_k_C_106) dC_number_27 ?_
    subst hQ
    exact W.lret (v := (-1)) hx hb hr (fun t ht hW => ⟨⟨(-1), (), rfl, (by unfold nbr; rw [if_pos (hz_0.mp c_13)]), ht⟩, hS.F ht⟩) hS.2.2 dC_number_30
  · refine lv_aload_n hx hb dC_number_16 rfl (lv_at hl 1 rfl) ?_
    refine va_get (D := (dC, dI)) (ci := 3) (v := .ref h0) (C := RC) (T := TC) (N := 3) hx hb hw inC hown hK hP 0 rfl rfl 0 (by decide) (hw _ w_fl_C_10) (fun _ h9 => h9) rfl dC_number_17 ?_
    refine lv_iload_n hx hb dC_number_20 rfl (lv_at hl 0 rfl) ?_
    refine zc_Rl (va_runV (As := [.int (nI k)]) (rest := []) ⟨hx, hb, hml, hown, hw⟩ (c_D_lastDigits l dC dI h0 h1 h2 cI cB ty cnt mk k (by omega) (by omega) hm s.heap) (cwV 1 hw (gV w_ml_C_102 w_im_D_lastDigits w_se_D_lastDigits w_in_D w_co_D_lastDigits) rfl rfl rfl (by decide +kernel) ⟨Nat.le_of_ble_eq_true rfl, Nat.le_of_ble_eq_true rfl⟩) (zR_V hG hS (hP.sub (ws' := [(h0, .inr (0, [.int (nI ty), .ref h1, .ref h2])), (h1, .inl (cI, 16, .inl (aN cnt))), (h2, .inl (cB, 208, .inl (aN mk)))]) [1, 2, 3] rfl) hK 0 rfl rfl) rfl rfl hl.1 rfl (lv_room (Nat.le_of_ble_eq_true rfl)) dC_number_21 ⟨Nat.le_of_ble_eq_true rfl, Nat.le_of_ble_eq_true rfl⟩) hS (fun r_3 locs h_21 hS => ?_)
    subst h_21
    refine lv_goto (tgt := 30) hx hb dC_number_24 (by decide) ?_
    subst hQ
    exact W.lret (v := lN (nm_ mk (fFM k + (cnt k - 18)) (cnt k - (cnt k - 18)) 0)) hx hb hr (fun t ht hW => ⟨⟨lN (nm_ mk (fFM k + (cnt k - 18)) (cnt k - (cnt k - 18)) 0), (), rfl, (by unfold nbr; rw [if_neg (fun z => c_13 (hz_0.mpr z))]; rfl), ht⟩, hS.F ht⟩) hS.2.2 dC_number_30
def rm_c_fields : Room := ({ frames := 2, cells := 0, slots := 0, locals := 43 } : Room)
set_option maxHeartbeats 4000000 in
set_option maxRecDepth 100000 in
theorem c_fields (l : Launch) (dC : Nat → ClassId) (dI : Nat → Nat → Nat) (x0 : Nat) (h0 : Nat) (h1 : Nat) (h2 : Nat) (cI : ClassId) (cB : ClassId) (ty : Nat) (cnt : Nat → Nat) (mk : Nat → Nat) (t0 : Nat) (r0 : Nat) (hc : ∀ j, j < 16 → cnt j < 2 ^ 31) (Hc : Heap) : Met l yC_fields wsC_fields rm_c_fields (zR (dC, dI) [(cI, .int), (cB, .byte)] [.ref x0] [(x0, .inr (3, [.ref h0, .ref t0, .ref r0])), (h0, .inr (0, [.int (nI ty), .ref h1, .ref h2])), (h1, .inl (cI, 16, .inl (aN cnt)))] Hc) (zRi Hc (fun r => r = nI (fc cnt 16))) 0 0 zNo := by
  refine Met.ofW (cc := cC_fields) (maxL := 1) (ret := (some .int)) (by decide) rfl ?_
  intro p e s m args below meth c s₁ Bd hml hv
  obtain ⟨rfl, hH, hG, hP, hK⟩ := hv
  subst hH
  have hx := Bd.exec
  have hb := Bd.bytes
  have hr := Bd.returns
  have hts := atoms_spec (ws := wsC_fields) Bd.pre
  have hw : ∀ w ∈ BIG, w.before _ s = true := fun w h => hts w (List.mem_cons_of_mem _ h)
  have hown : s.vm.findClass RC = some m.cls := findClass_of_methodNamed Bd.named
  have hlocks := Bd.notSynchronized
  have hS : va_S zNo s.heap s.heap [] := va_S.rf
  have hl := lv_entry ([.ref x0]) (n := 1) (Nat.le_of_ble_eq_true rfl)
  rw [lg_entry_eq]
  generalize (lg_sl ([.ref x0]) ++ List.replicate (1 - (lg_sl ([.ref x0])).length) Slot.unset).toArray = ls at hl ⊢
  have hl : lv_has ls 1 [(0, .ref x0)] := hl
  refine zq_name (fun Q hQ => ?_)
  change W p l e rm_c_fields s m _ below meth c _ _ _ _ Q _
  refine lv_aload_n hx hb dC_fields_0 rfl (lv_at hl 0 rfl) ?_
  refine va_get (D := (dC, dI)) (ci := 3) (v := .ref h0) (C := RC) (T := TC) (N := 3) hx hb hw inC hown hK hP 0 rfl rfl 0 (by decide) (hw _ w_fl_C_10) (fun _ h9 => h9) rfl dC_fields_1 ?_
  refine zc_Ri (va_runV (As := []) (rest := []) ⟨hx, hb, hml, hown, hw⟩ (c_D_fieldCount l dC dI h0 h1 h2 cI cB ty cnt hc s.heap) (cwV 0 hw (gV w_ml_C_108 w_im_D_fieldCount w_se_D_fieldCount w_in_D w_co_D_fieldCount) rfl rfl rfl (by decide +kernel) ⟨Nat.le_of_ble_eq_true rfl, Nat.le_of_ble_eq_true rfl⟩) (zR_V hG hS (hP.sub (ws' := [(h0, .inr (0, [.int (nI ty), .ref h1, .ref h2])), (h1, .inl (cI, 16, .inl (aN cnt)))]) [1, 2] rfl) hK 0 rfl rfl) rfl rfl hl.1 rfl (lv_room (Nat.le_of_ble_eq_true rfl)) dC_fields_4 ⟨Nat.le_of_ble_eq_true rfl, Nat.le_of_ble_eq_true rfl⟩) hS (fun r_1 locs h_4 hS => ?_)
  subst h_4
  subst hQ
  exact W.iret (v := nI (fc cnt 16)) hx hb hr (fun t ht hW => ⟨⟨nI (fc cnt 16), (), rfl, rfl, ht⟩, hS.F ht⟩) hS.2.2 dC_fields_7
def rm_c_compose : Room := ({ frames := 5, cells := 0, slots := 0, locals := 113 } : Room)
set_option maxHeartbeats 4000000 in
set_option maxRecDepth 100000 in
theorem c_compose (l : Launch) (dC : Nat → ClassId) (dI : Nat → Nat → Nat) (x0 : Nat) (h0 : Nat) (h1 : Nat) (h2 : Nat) (cI : ClassId) (cB : ClassId) (ty : Nat) (cnt : Nat → Nat) (mk : Nat → Nat) (t0 : Nat) (t1 : Nat) (len : Nat) (tp : Nat → Nat) (r0 : Nat) (hok : dOK ty cnt mk) (sz : Nat) : Met l yC_compose wsC_compose rm_c_compose (zM (dC, dI) [(cI, .int), (cB, .byte)] [.ref x0] [(x0, .inr (3, [.ref h0, .ref t0, .ref r0])), (h0, .inr (0, [.int (nI ty), .ref h1, .ref h2])), (h1, .inl (cI, 16, .inl (aN cnt))), (h2, .inl (cB, 208, .inl (aN mk))), (t0, .inr (2, [.ref t1, .int (nI len)])), (t1, .inl (cB, 400, .inl (aB tp)))] sz) (zMi (dC, dI) [(x0, .inr (3, [.ref h0, .ref t0, .ref r0])), (h0, .inr (0, [.int (nI ty), .ref h1, .ref h2])), (h1, .inl (cI, 16, .inl (aN cnt))), (h2, .inl (cB, 208, .inl (aN mk))), (t0, .inr (2, [.ref t1, .int (nI len)])), (t1, .inl (cB, 400, .inl (aB tp)))] [(x0, .inr (3, [.ref h0, .ref t0, .ref r0])), (h0, .inr (0, [.int (nI ty), .ref h1, .ref h2])), (h1, .inl (cI, 16, .inl (aN cnt))), (h2, .inl (cB, 208, .inl (aN mk))), (t0, .inr (2, [.ref t1, .int (nI (cmpN cnt mk))])), (t1, .inl (cB, 400, .inl (aB (cmpT ty cnt mk tp))))] sz (fun r => r = nI (cmpN cnt mk))) 0 0 (va_A [(x0, .inr (3, [.ref h0, .ref t0, .ref r0])), (h0, .inr (0, [.int (nI ty), .ref h1, .ref h2])), (h1, .inl (cI, 16, .inl (aN cnt))), (h2, .inl (cB, 208, .inl (aN mk))), (t0, .inr (2, [.ref t1, .int (nI len)])), (t1, .inl (cB, 400, .inl (aB tp)))] sz) := by
  refine Met.ofW (cc := cC_compose) (maxL := 1) (ret := (some .int)) (by decide) rfl ?_
  intro p e s m args below meth c s₁ Bd hml hv
  obtain ⟨rfl, hsz, hG, hP, hK, hD0⟩ := hv
  subst hsz
  have hx := Bd.exec
  have hb := Bd.bytes
  have hr := Bd.returns
  have hts := atoms_spec (ws := wsC_compose) Bd.pre
  have hw : ∀ w ∈ BIG, w.before _ s = true := fun w h => hts w (List.mem_cons_of_mem _ h)
  have hown : s.vm.findClass RC = some m.cls := findClass_of_methodNamed Bd.named
  have hlocks := Bd.notSynchronized
  have hD := hD0.self (sz := s.heap.size)
  obtain ⟨A, hAe⟩ : ∃ A, A = va_A [(x0, .inr (3, [.ref h0, .ref t0, .ref r0])), (h0, .inr (0, [.int (nI ty), .ref h1, .ref h2])), (h1, .inl (cI, 16, .inl (aN cnt))), (h2, .inl (cB, 208, .inl (aN mk))), (t0, .inr (2, [.ref t1, .int (nI len)])), (t1, .inl (cB, 400, .inl (aB tp)))] s.heap.size := ⟨_, rfl⟩
  have hA : ∀ q : Nat, s.heap.size ≤ q → A q := fun q h => by rw [hAe]; exact Or.inr h
  rw [← hAe] at hG hD
  have hS : va_S A s.heap s.heap [] := va_S.rf
  have hl := lv_entry ([.ref x0]) (n := 1) (Nat.le_of_ble_eq_true rfl)
  rw [lg_entry_eq]
  generalize (lg_sl ([.ref x0]) ++ List.replicate (1 - (lg_sl ([.ref x0])).length) Slot.unset).toArray = ls at hl ⊢
  have hl : lv_has ls 1 [(0, .ref x0)] := hl
  refine zq_name (fun Q hQ => ?_)
  change W p l e rm_c_compose s m _ below meth c _ _ _ _ Q _
  by_cases hs2 : s2L cnt 16 0 = true
  · refine lv_aload_n hx hb dC_compose_0 rfl (lv_at hl 0 rfl) ?_
    refine va_get (D := (dC, dI)) (ci := 3) (v := .ref t0) (C := RC) (T := TC) (N := 3) hx hb hw inC hown hK hP 0 rfl rfl 1 (by decide) (hw _ w_fl_C_19) (fun _ h9 => h9) rfl dC_compose_1 ?_
    refine lv_aload_n hx hb dC_compose_4 rfl (lv_at hl 0 rfl) ?_
    refine va_get (D := (dC, dI)) (ci := 3) (v := .ref h0) (C := RC) (T := TC) (N := 3) hx hb hw inC hown hK hP 0 rfl rfl 0 (by decide) (hw _ w_fl_C_10) (fun _ h9 => h9) rfl dC_compose_5 ?_
    have hPc := hP.sub (ws' := [(t0, .inr (2, [.ref t1, .int (nI len)])), (t1, .inl (cB, 400, .inl (aB tp))), (h0, .inr (0, [.int (nI ty), .ref h1, .ref h2])), (h1, .inl (cI, 16, .inl (aN cnt))), (h2, .inl (cB, 208, .inl (aN mk)))]) [4, 5, 1, 2, 3] rfl
    have hDc := hD.sub (ws' := [(t0, .inr (2, [.ref t1, .int (nI len)])), (t1, .inl (cB, 400, .inl (aB tp))), (h0, .inr (0, [.int (nI ty), .ref h1, .ref h2])), (h1, .inl (cI, 16, .inl (aN cnt))), (h2, .inl (cB, 208, .inl (aN mk)))]) [4, 5, 1, 2, 3] (by decide) rfl
    have hFc := va_free (wc := [(t0, .inr (2, [.ref t1, .int (nI len)])), (t1, .inl (cB, 400, .inl (aB tp))), (h0, .inr (0, [.int (nI ty), .ref h1, .ref h2])), (h1, .inl (cI, 16, .inl (aN cnt))), (h2, .inl (cB, 208, .inl (aN mk)))]) hD hS hA [4, 5, 1, 2, 3] rfl
    refine zc_Mv (va_runV (As := [.ref h0]) (rest := []) ⟨hx, hb, hml, hown, hw⟩ (c_write_two l dC dI t0 t1 cI cB len tp h0 h1 h2 ty cnt mk hok.1 hok.2.1 hok.2.2.1 hok.g hs2 s.heap.size) (cwV 1 hw (gV w_ml_C_112 w_im_T_write w_se_T_write w_in_T w_co_T_write) rfl rfl rfl (by decide +kernel) ⟨Nat.le_of_ble_eq_true rfl, Nat.le_of_ble_eq_true rfl⟩) (zM_V hG hS hFc hPc hDc hK 0 rfl rfl) rfl rfl hl.1 rfl (lv_room (Nat.le_of_ble_eq_true rfl)) dC_compose_8 ⟨Nat.le_of_ble_eq_true rfl, Nat.le_of_ble_eq_true rfl⟩) hS hFc (fun H locs h_8 hP1 hD1 hk1 hS => ?_)
    obtain ⟨hP, hD⟩ := va_join (wr := [(x0, .inr (3, [.ref h0, .ref t0, .ref r0]))]) (w1 := [(t0, .inr (2, [.ref t1, .int (nI (18 + (flB cnt mk 16 0).length))])), (t1, .inl (cB, 400, .inl (aB (apl (mpS 2 cnt 16 0 (nup (apl (apl tp 0 (anb ty 4)) 2 (List.replicate 16 0)) 2 ((apl (apl tp 0 (anb ty 4)) 2 (List.replicate 16 0)) 2 ^^^ 128))) 18 (flB cnt mk 16 0))))), (h0, .inr (0, [.int (nI ty), .ref h1, .ref h2])), (h1, .inl (cI, 16, .inl (aN cnt))), (h2, .inl (cB, 208, .inl (aN mk)))]) hP hD [4, 5, 1, 2, 3] [0] rfl rfl (by decide) (by decide) hk1 hFc hP1 hD1
    have hP : va_P (dC, dI) vwCl [(x0, .inr (3, [.ref h0, .ref t0, .ref r0])), (t0, .inr (2, [.ref t1, .int (nI (18 + (flB cnt mk 16 0).length))])), (t1, .inl (cB, 400, .inl (aB (apl (mpS 2 cnt 16 0 (nup (apl (apl tp 0 (anb ty 4)) 2 (List.replicate 16 0)) 2 ((apl (apl tp 0 (anb ty 4)) 2 (List.replicate 16 0)) 2 ^^^ 128))) 18 (flB cnt mk 16 0))))), (h0, .inr (0, [.int (nI ty), .ref h1, .ref h2])), (h1, .inl (cI, 16, .inl (aN cnt))), (h2, .inl (cB, 208, .inl (aN mk)))] H := hP
    have hD : va_D A [(x0, .inr (3, [.ref h0, .ref t0, .ref r0])), (t0, .inr (2, [.ref t1, .int (nI (18 + (flB cnt mk 16 0).length))])), (t1, .inl (cB, 400, .inl (aB (apl (mpS 2 cnt 16 0 (nup (apl (apl tp 0 (anb ty 4)) 2 (List.replicate 16 0)) 2 ((apl (apl tp 0 (anb ty 4)) 2 (List.replicate 16 0)) 2 ^^^ 128))) 18 (flB cnt mk 16 0))))), (h0, .inr (0, [.int (nI ty), .ref h1, .ref h2])), (h1, .inl (cI, 16, .inl (aN cnt))), (h2, .inl (cB, 208, .inl (aN mk)))] := hD
    refine lv_aload_n hx hb dC_compose_11 rfl (lv_at hl 0 rfl) ?_
    refine va_get (D := (dC, dI)) (ci := 3) (v := .ref t0) (C := RC) (T := TC) (N := 3) hx hb hw inC hown hK hP 0 rfl rfl 1 (by decide) (hw _ w_fl_C_19) (fun _ h9 => h9) rfl dC_compose_12 ?_
    refine va_get (D := (dC, dI)) (ci := 2) (v := .int (nI (18 + (flB cnt mk 16 0).length))) (C := RT) (T := TT) (N := 2) hx hb hw inT hown hK hP 1 rfl rfl 1 (by decide) (hw _ w_fl_C_116) (fun _ h9 => h9) rfl dC_compose_15 ?_
    rw [show cmpN cnt mk = 18 + (flB cnt mk 16 0).length from if_pos hs2, show cmpT ty cnt mk tp = _ from if_pos hs2] at hQ
    subst hAe
    subst hQ
    exact W.iret (v := nI (18 + (flB cnt mk 16 0).length)) hx hb hr (fun t ht hW => ⟨⟨nI (18 + (flB cnt mk 16 0).length), (), rfl, rfl, by rw [ht]; exact hP.sub [0, 3, 4, 5, 1, 2] rfl, hD.sub [0, 3, 4, 5, 1, 2] (by decide) rfl⟩, hS.F ht⟩) hS.2.2 dC_compose_18
  · refine lv_aload_n hx hb dC_compose_0 rfl (lv_at hl 0 rfl) ?_
    refine va_get (D := (dC, dI)) (ci := 3) (v := .ref t0) (C := RC) (T := TC) (N := 3) hx hb hw inC hown hK hP 0 rfl rfl 1 (by decide) (hw _ w_fl_C_19) (fun _ h9 => h9) rfl dC_compose_1 ?_
    refine lv_aload_n hx hb dC_compose_4 rfl (lv_at hl 0 rfl) ?_
    refine va_get (D := (dC, dI)) (ci := 3) (v := .ref h0) (C := RC) (T := TC) (N := 3) hx hb hw inC hown hK hP 0 rfl rfl 0 (by decide) (hw _ w_fl_C_10) (fun _ h9 => h9) rfl dC_compose_5 ?_
    have hPc := hP.sub (ws' := [(t0, .inr (2, [.ref t1, .int (nI len)])), (t1, .inl (cB, 400, .inl (aB tp))), (h0, .inr (0, [.int (nI ty), .ref h1, .ref h2])), (h1, .inl (cI, 16, .inl (aN cnt))), (h2, .inl (cB, 208, .inl (aN mk)))]) [4, 5, 1, 2, 3] rfl
    have hDc := hD.sub (ws' := [(t0, .inr (2, [.ref t1, .int (nI len)])), (t1, .inl (cB, 400, .inl (aB tp))), (h0, .inr (0, [.int (nI ty), .ref h1, .ref h2])), (h1, .inl (cI, 16, .inl (aN cnt))), (h2, .inl (cB, 208, .inl (aN mk)))]) [4, 5, 1, 2, 3] (by decide) rfl
    have hFc := va_free (wc := [(t0, .inr (2, [.ref t1, .int (nI len)])), (t1, .inl (cB, 400, .inl (aB tp))), (h0, .inr (0, [.int (nI ty), .ref h1, .ref h2])), (h1, .inl (cI, 16, .inl (aN cnt))), (h2, .inl (cB, 208, .inl (aN mk)))]) hD hS hA [4, 5, 1, 2, 3] rfl
    refine zc_Mv (va_runV (As := [.ref h0]) (rest := []) ⟨hx, hb, hml, hown, hw⟩ (c_write_one l dC dI t0 t1 cI cB len tp h0 h1 h2 ty cnt mk hok.1 hok.2.1 hok.2.2.1 hok.g (Bool.eq_false_iff.mpr hs2) s.heap.size) (cwV 1 hw (gV w_ml_C_112 w_im_T_write w_se_T_write w_in_T w_co_T_write) rfl rfl rfl (by decide +kernel) ⟨Nat.le_of_ble_eq_true rfl, Nat.le_of_ble_eq_true rfl⟩) (zM_V hG hS hFc hPc hDc hK 0 rfl rfl) rfl rfl hl.1 rfl (lv_room (Nat.le_of_ble_eq_true rfl)) dC_compose_8 ⟨Nat.le_of_ble_eq_true rfl, Nat.le_of_ble_eq_true rfl⟩) hS hFc (fun H locs h_8 hP1 hD1 hk1 hS => ?_)
    obtain ⟨hP, hD⟩ := va_join (wr := [(x0, .inr (3, [.ref h0, .ref t0, .ref r0]))]) (w1 := [(t0, .inr (2, [.ref t1, .int (nI (10 + (flB cnt mk 16 0).length))])), (t1, .inl (cB, 400, .inl (aB (apl (mpS 2 cnt 16 0 (apl (apl tp 0 (anb ty 4)) 2 (List.replicate 8 0))) 10 (flB cnt mk 16 0))))), (h0, .inr (0, [.int (nI ty), .ref h1, .ref h2])), (h1, .inl (cI, 16, .inl (aN cnt))), (h2, .inl (cB, 208, .inl (aN mk)))]) hP hD [4, 5, 1, 2, 3] [0] rfl rfl (by decide) (by decide) hk1 hFc hP1 hD1
    have hP : va_P (dC, dI) vwCl [(x0, .inr (3, [.ref h0, .ref t0, .ref r0])), (t0, .inr (2, [.ref t1, .int (nI (10 + (flB cnt mk 16 0).length))])), (t1, .inl (cB, 400, .inl (aB (apl (mpS 2 cnt 16 0 (apl (apl tp 0 (anb ty 4)) 2 (List.replicate 8 0))) 10 (flB cnt mk 16 0))))), (h0, .inr (0, [.int (nI ty), .ref h1, .ref h2])), (h1, .inl (cI, 16, .inl (aN cnt))), (h2, .inl (cB, 208, .inl (aN mk)))] H := hP
    have hD : va_D A [(x0, .inr (3, [.ref h0, .ref t0, .ref r0])), (t0, .inr (2, [.ref t1, .int (nI (10 + (flB cnt mk 16 0).length))])), (t1, .inl (cB, 400, .inl (aB (apl (mpS 2 cnt 16 0 (apl (apl tp 0 (anb ty 4)) 2 (List.replicate 8 0))) 10 (flB cnt mk 16 0))))), (h0, .inr (0, [.int (nI ty), .ref h1, .ref h2])), (h1, .inl (cI, 16, .inl (aN cnt))), (h2, .inl (cB, 208, .inl (aN mk)))] := hD
    refine lv_aload_n hx hb dC_compose_11 rfl (lv_at hl 0 rfl) ?_
    refine va_get (D := (dC, dI)) (ci := 3) (v := .ref t0) (C := RC) (T := TC) (N := 3) hx hb hw inC hown hK hP 0 rfl rfl 1 (by decide) (hw _ w_fl_C_19) (fun _ h9 => h9) rfl dC_compose_12 ?_
    refine va_get (D := (dC, dI)) (ci := 2) (v := .int (nI (10 + (flB cnt mk 16 0).length))) (C := RT) (T := TT) (N := 2) hx hb hw inT hown hK hP 1 rfl rfl 1 (by decide) (hw _ w_fl_C_116) (fun _ h9 => h9) rfl dC_compose_15 ?_
    rw [show cmpN cnt mk = 10 + (flB cnt mk 16 0).length from if_neg hs2, show cmpT ty cnt mk tp = _ from if_neg hs2] at hQ
    subst hAe
    subst hQ
    exact W.iret (v := nI (10 + (flB cnt mk 16 0).length)) hx hb hr (fun t ht hW => ⟨⟨nI (10 + (flB cnt mk 16 0).length), (), rfl, rfl, by rw [ht]; exact hP.sub [0, 3, 4, 5, 1, 2] rfl, hD.sub [0, 3, 4, 5, 1, 2] (by decide) rfl⟩, hS.F ht⟩) hS.2.2 dC_compose_18
def rm_c_feed_ok : Room := ({ frames := 6, cells := 0, slots := 0, locals := 91 } : Room)
set_option maxHeartbeats 4000000 in
set_option maxRecDepth 100000 in
theorem c_feed_ok (l : Launch) (dC : Nat → ClassId) (dI : Nat → Nat → Nat) (x0 : Nat) (cI : ClassId) (cB : ClassId) (t0 : Nat) (t1 : Nat) (len : Nat) (tp : Nat → Nat) (h0 : Nat) (r0 : Nat) (v : Int32) (hl9 : len + 4 ≤ 400) (sz : Nat) : Met l yC_feed wsC_feed rm_c_feed_ok (zM (dC, dI) [(cI, .int), (cB, .byte)] [.ref x0, .int v] [(x0, .inr (3, [.ref h0, .ref t0, .ref r0])), (t0, .inr (2, [.ref t1, .int (nI len)])), (t1, .inl (cB, 400, .inl (aB tp)))] sz) (zMi (dC, dI) [(x0, .inr (3, [.ref h0, .ref t0, .ref r0])), (t0, .inr (2, [.ref t1, .int (nI len)])), (t1, .inl (cB, 400, .inl (aB tp)))] [(x0, .inr (3, [.ref h0, .ref t0, .ref r0])), (t0, .inr (2, [.ref t1, .int (nI (len + 4))])), (t1, .inl (cB, 400, .inl (aB (nup (nup (nup (nup tp len (fb v 24)) (len + 1) (fb v 16)) (len + 2) (fb v 8)) (len + 3) (fb v 0)))))] sz (fun r => r = nI (len + 4))) 0 0 (va_A [(x0, .inr (3, [.ref h0, .ref t0, .ref r0])), (t0, .inr (2, [.ref t1, .int (nI len)])), (t1, .inl (cB, 400, .inl (aB tp)))] sz) := by
  refine Met.ofW (cc := cC_feed) (maxL := 3) (ret := (some .int)) (by decide) rfl ?_
  intro p e s m args below meth c s₁ Bd hml hv
  obtain ⟨rfl, hsz, hG, hP, hK, hD0⟩ := hv
  subst hsz
  have hx := Bd.exec
  have hb := Bd.bytes
  have hr := Bd.returns
  have hts := atoms_spec (ws := wsC_feed) Bd.pre
  have hw : ∀ w ∈ BIG, w.before _ s = true := fun w h => hts w (List.mem_cons_of_mem _ h)
  have hown : s.vm.findClass RC = some m.cls := findClass_of_methodNamed Bd.named
  have hlocks := Bd.notSynchronized
  have hD := hD0.self (sz := s.heap.size)
  obtain ⟨A, hAe⟩ : ∃ A, A = va_A [(x0, .inr (3, [.ref h0, .ref t0, .ref r0])), (t0, .inr (2, [.ref t1, .int (nI len)])), (t1, .inl (cB, 400, .inl (aB tp)))] s.heap.size := ⟨_, rfl⟩
  have hA : ∀ q : Nat, s.heap.size ≤ q → A q := fun q h => by rw [hAe]; exact Or.inr h
  rw [← hAe] at hG hD
  have hS : va_S A s.heap s.heap [] := va_S.rf
  have hl := lv_entry ([.ref x0, .int v]) (n := 3) (Nat.le_of_ble_eq_true rfl)
  rw [lg_entry_eq]
  generalize (lg_sl ([.ref x0, .int v]) ++ List.replicate (3 - (lg_sl ([.ref x0, .int v])).length) Slot.unset).toArray = ls at hl ⊢
  have hl : lv_has ls 3 [(0, .ref x0), (1, .int v)] := hl
  refine zq_name (fun Q hQ => ?_)
  change W p l e rm_c_feed_ok s m _ below meth c _ _ _ _ Q _
  refine lv_aload_n hx hb dC_feed_0 rfl (lv_at hl 0 rfl) ?_
  refine va_get (D := (dC, dI)) (ci := 3) (v := .ref t0) (C := RC) (T := TC) (N := 3) hx hb hw inC hown hK hP 0 rfl rfl 1 (by decide) (hw _ w_fl_C_19) (fun _ h9 => h9) rfl dC_feed_1 ?_
  refine va_get (D := (dC, dI)) (ci := 2) (v := .int (nI len)) (C := RT) (T := TT) (N := 2) hx hb hw inT hown hK hP 1 rfl rfl 1 (by decide) (hw _ w_fl_C_116) (fun _ h9 => h9) rfl dC_feed_4 ?_
  refine lv_iconst (v := nI 4) hx hb dC_feed_7 (by decide) ?_
  refine zi_add hx hb dC_feed_8 ?_
  refine lv_sipush (v := nI 400) hx hb dC_feed_9 (by decide) ?_
  refine zi_le (tgt := 25) hx hb (by omega) (by omega) dC_feed_12 (by decide) (fun c_12 => ?_) (fun q => False.elim ((by omega)))
  refine lv_bipush (v := nI 24) hx hb dC_feed_25 (by decide) ?_
  refine lv_istore_n (lv' := [(2, .int (nI 24)), (0, .ref x0), (1, .int v)]) hx hb dC_feed_27 rfl hl (by decide) rfl (fun ls hl => ?_)
  refine lv_iload_n hx hb dC_feed_28 rfl (lv_at hl 0 rfl) ?_
  refine lv_if_lt (tgt := 48) hx hb dC_feed_29 (by decide) (fun q => False.elim (absurd q (by decide))) (fun c_29 => ?_)
  refine lv_aload_n hx hb dC_feed_32 rfl (lv_at hl 1 rfl) ?_
  refine va_get (D := (dC, dI)) (ci := 3) (v := .ref t0) (C := RC) (T := TC) (N := 3) hx hb hw inC hown hK hP 0 rfl rfl 1 (by decide) (hw _ w_fl_C_19) (fun _ h9 => h9) rfl dC_feed_33 ?_
  refine lv_iload_n hx hb dC_feed_36 rfl (lv_at hl 2 rfl) ?_
  refine lv_iload_n hx hb dC_feed_37 rfl (lv_at hl 0 rfl) ?_
  refine lv_ishr hx hb dC_feed_38 ?_
  have hPc := hP.sub (ws' := [(t0, .inr (2, [.ref t1, .int (nI len)])), (t1, .inl (cB, 400, .inl (aB tp)))]) [1, 2] rfl
  have hDc := hD.sub (ws' := [(t0, .inr (2, [.ref t1, .int (nI len)])), (t1, .inl (cB, 400, .inl (aB tp)))]) [1, 2] (by decide) rfl
  have hFc := va_free (wc := [(t0, .inr (2, [.ref t1, .int (nI len)])), (t1, .inl (cB, 400, .inl (aB tp)))]) hD hS hA [1, 2] rfl
  refine zc_Mv (va_runV (As := [.int (v >>> ((nI 24) &&& 31))]) (rest := []) ⟨hx, hb, hml, hown, hw⟩ (c_appendx l dC dI t0 t1 cI cB len tp (v >>> ((nI 24) &&& 31)) (by omega) s.heap.size) (cwV 1 hw (gV w_ml_C_124 w_im_T_append w_se_T_append w_in_T w_co_T_append) rfl rfl rfl (by decide +kernel) ⟨Nat.le_of_ble_eq_true rfl, Nat.le_of_ble_eq_true rfl⟩) (zM_V hG hS hFc hPc hDc hK 0 rfl rfl) rfl rfl hl.1 rfl (lv_room (Nat.le_of_ble_eq_true rfl)) dC_feed_39 ⟨Nat.le_of_ble_eq_true rfl, Nat.le_of_ble_eq_true rfl⟩) hS hFc (fun H locs h_39 hP1 hD1 hk1 hS => ?_)
  obtain ⟨hP, hD⟩ := va_join (wr := [(x0, .inr (3, [.ref h0, .ref t0, .ref r0]))]) (w1 := [(t0, .inr (2, [.ref t1, .int (nI (len + 1))])), (t1, .inl (cB, 400, .inl (aB (nup tp len ((v >>> ((nI 24) &&& 31)).toBitVec.toNat % 256)))))]) hP hD [1, 2] [0] rfl rfl (by decide) (by decide) hk1 hFc hP1 hD1
  have hP : va_P (dC, dI) vwCl [(x0, .inr (3, [.ref h0, .ref t0, .ref r0])), (t0, .inr (2, [.ref t1, .int (nI (len + 1))])), (t1, .inl (cB, 400, .inl (aB (nup tp len ((v >>> ((nI 24) &&& 31)).toBitVec.toNat % 256)))))] H := hP
  have hD : va_D A [(x0, .inr (3, [.ref h0, .ref t0, .ref r0])), (t0, .inr (2, [.ref t1, .int (nI (len + 1))])), (t1, .inl (cB, 400, .inl (aB (nup tp len ((v >>> ((nI 24) &&& 31)).toBitVec.toNat % 256)))))] := hD
  refine lv_iinc (v := nI 16) (lv' := [(2, .int (nI 16)), (0, .ref x0), (1, .int v)]) hx hb dC_feed_42 hl (k := 0) rfl (by decide) (by decide) rfl (fun ls hl => ?_)
  refine lv_goto (tgt := 28) hx hb dC_feed_45 (by decide) ?_
  refine lv_iload_n hx hb dC_feed_28 rfl (lv_at hl 0 rfl) ?_
  refine lv_if_lt (tgt := 48) hx hb dC_feed_29 (by decide) (fun q => False.elim (absurd q (by decide))) (fun c_29 => ?_)
  refine lv_aload_n hx hb dC_feed_32 rfl (lv_at hl 1 rfl) ?_
  refine va_get (D := (dC, dI)) (ci := 3) (v := .ref t0) (C := RC) (T := TC) (N := 3) hx hb hw inC hown hK hP 0 rfl rfl 1 (by decide) (hw _ w_fl_C_19) (fun _ h9 => h9) rfl dC_feed_33 ?_
  refine lv_iload_n hx hb dC_feed_36 rfl (lv_at hl 2 rfl) ?_
  refine lv_iload_n hx hb dC_feed_37 rfl (lv_at hl 0 rfl) ?_
  refine lv_ishr hx hb dC_feed_38 ?_
  have hPc := hP.sub (ws' := [(t0, .inr (2, [.ref t1, .int (nI (len + 1))])), (t1, .inl (cB, 400, .inl (aB (nup tp len ((v >>> ((nI 24) &&& 31)).toBitVec.toNat % 256)))))]) [1, 2] rfl
  have hDc := hD.sub (ws' := [(t0, .inr (2, [.ref t1, .int (nI (len + 1))])), (t1, .inl (cB, 400, .inl (aB (nup tp len ((v >>> ((nI 24) &&& 31)).toBitVec.toNat % 256)))))]) [1, 2] (by decide) rfl
  have hFc := va_free (wc := [(t0, .inr (2, [.ref t1, .int (nI (len + 1))])), (t1, .inl (cB, 400, .inl (aB (nup tp len ((v >>> ((nI 24) &&& 31)).toBitVec.toNat % 256)))))]) hD hS hA [1, 2] rfl
  refine zc_Mv (va_runV (As := [.int (v >>> ((nI 16) &&& 31))]) (rest := []) ⟨hx, hb, hml, hown, hw⟩ (c_appendx l dC dI t0 t1 cI cB (len + 1) (nup tp len ((v >>> ((nI 24) &&& 31)).toBitVec.toNat % 256)) (v >>> ((nI 16) &&& 31)) (by omega) H.size) (cwV 1 hw (gV w_ml_C_124 w_im_T_append w_se_T_append w_in_T w_co_T_append) rfl rfl rfl (by decide +kernel) ⟨Nat.le_of_ble_eq_true rfl, Nat.le_of_ble_eq_true rfl⟩) (zM_V hG hS hFc hPc hDc hK 0 rfl rfl) rfl rfl hl.1 rfl (lv_room (Nat.le_of_ble_eq_true rfl)) dC_feed_39 ⟨Nat.le_of_ble_eq_true rfl, Nat.le_of_ble_eq_true rfl⟩) hS hFc (fun H locs h_39 hP1 hD1 hk1 hS => ?_)
  obtain ⟨hP, hD⟩ := va_join (wr := [(x0, .inr (3, [.ref h0, .ref t0, .ref r0]))]) (w1 := [(t0, .inr (2, [.ref t1, .int (nI ((len + 1) + 1))])), (t1, .inl (cB, 400, .inl (aB (nup (nup tp len ((v >>> ((nI 24) &&& 31)).toBitVec.toNat % 256)) (len + 1) ((v >>> ((nI 16) &&& 31)).toBitVec.toNat % 256)))))]) hP hD [1, 2] [0] rfl rfl (by decide) (by decide) hk1 hFc hP1 hD1
  have hP : va_P (dC, dI) vwCl [(x0, .inr (3, [.ref h0, .ref t0, .ref r0])), (t0, .inr (2, [.ref t1, .int (nI ((len + 1) + 1))])), (t1, .inl (cB, 400, .inl (aB (nup (nup tp len ((v >>> ((nI 24) &&& 31)).toBitVec.toNat % 256)) (len + 1) ((v >>> ((nI 16) &&& 31)).toBitVec.toNat % 256)))))] H := hP
  have hD : va_D A [(x0, .inr (3, [.ref h0, .ref t0, .ref r0])), (t0, .inr (2, [.ref t1, .int (nI ((len + 1) + 1))])), (t1, .inl (cB, 400, .inl (aB (nup (nup tp len ((v >>> ((nI 24) &&& 31)).toBitVec.toNat % 256)) (len + 1) ((v >>> ((nI 16) &&& 31)).toBitVec.toNat % 256)))))] := hD
  refine lv_iinc (v := nI 8) (lv' := [(2, .int (nI 8)), (0, .ref x0), (1, .int v)]) hx hb dC_feed_42 hl (k := 0) rfl (by decide) (by decide) rfl (fun ls hl => ?_)
  refine lv_goto (tgt := 28) hx hb dC_feed_45 (by decide) ?_
  refine lv_iload_n hx hb dC_feed_28 rfl (lv_at hl 0 rfl) ?_
  refine lv_if_lt (tgt := 48) hx hb dC_feed_29 (by decide) (fun q => False.elim (absurd q (by decide))) (fun c_29 => ?_)
  refine lv_aload_n hx hb dC_feed_32 rfl (lv_at hl 1 rfl) ?_
  refine va_get (D := (dC, dI)) (ci := 3) (v := .ref t0) (C := RC) (T := TC) (N := 3) hx hb hw inC hown hK hP 0 rfl rfl 1 (by decide) (hw _ w_fl_C_19) (fun _ h9 => h9) rfl dC_feed_33 ?_
  refine lv_iload_n hx hb dC_feed_36 rfl (lv_at hl 2 rfl) ?_
  refine lv_iload_n hx hb dC_feed_37 rfl (lv_at hl 0 rfl) ?_
  refine lv_ishr hx hb dC_feed_38 ?_
  have hPc := hP.sub (ws' := [(t0, .inr (2, [.ref t1, .int (nI ((len + 1) + 1))])), (t1, .inl (cB, 400, .inl (aB (nup (nup tp len ((v >>> ((nI 24) &&& 31)).toBitVec.toNat % 256)) (len + 1) ((v >>> ((nI 16) &&& 31)).toBitVec.toNat % 256)))))]) [1, 2] rfl
  have hDc := hD.sub (ws' := [(t0, .inr (2, [.ref t1, .int (nI ((len + 1) + 1))])), (t1, .inl (cB, 400, .inl (aB (nup (nup tp len ((v >>> ((nI 24) &&& 31)).toBitVec.toNat % 256)) (len + 1) ((v >>> ((nI 16) &&& 31)).toBitVec.toNat % 256)))))]) [1, 2] (by decide) rfl
  have hFc := va_free (wc := [(t0, .inr (2, [.ref t1, .int (nI ((len + 1) + 1))])), (t1, .inl (cB, 400, .inl (aB (nup (nup tp len ((v >>> ((nI 24) &&& 31)).toBitVec.toNat % 256)) (len + 1) ((v >>> ((nI 16) &&& 31)).toBitVec.toNat % 256)))))]) hD hS hA [1, 2] rfl
  refine zc_Mv (va_runV (As := [.int (v >>> ((nI 8) &&& 31))]) (rest := []) ⟨hx, hb, hml, hown, hw⟩ (c_appendx l dC dI t0 t1 cI cB ((len + 1) + 1) (nup (nup tp len ((v >>> ((nI 24) &&& 31)).toBitVec.toNat % 256)) (len + 1) ((v >>> ((nI 16) &&& 31)).toBitVec.toNat % 256)) (v >>> ((nI 8) &&& 31)) (by omega) H.size) (cwV 1 hw (gV w_ml_C_124 w_im_T_append w_se_T_append w_in_T w_co_T_append) rfl rfl rfl (by decide +kernel) ⟨Nat.le_of_ble_eq_true rfl, Nat.le_of_ble_eq_true rfl⟩) (zM_V hG hS hFc hPc hDc hK 0 rfl rfl) rfl rfl hl.1 rfl (lv_room (Nat.le_of_ble_eq_true rfl)) dC_feed_39 ⟨Nat.le_of_ble_eq_true rfl, Nat.le_of_ble_eq_true rfl⟩) hS hFc (fun H locs h_39 hP1 hD1 hk1 hS => ?_)
  obtain ⟨hP, hD⟩ := va_join (wr := [(x0, .inr (3, [.ref h0, .ref t0, .ref r0]))]) (w1 := [(t0, .inr (2, [.ref t1, .int (nI (((len + 1) + 1) + 1))])), (t1, .inl (cB, 400, .inl (aB (nup (nup (nup tp len ((v >>> ((nI 24) &&& 31)).toBitVec.toNat % 256)) (len + 1) ((v >>> ((nI 16) &&& 31)).toBitVec.toNat % 256)) ((len + 1) + 1) ((v >>> ((nI 8) &&& 31)).toBitVec.toNat % 256)))))]) hP hD [1, 2] [0] rfl rfl (by decide) (by decide) hk1 hFc hP1 hD1
  have hP : va_P (dC, dI) vwCl [(x0, .inr (3, [.ref h0, .ref t0, .ref r0])), (t0, .inr (2, [.ref t1, .int (nI (((len + 1) + 1) + 1))])), (t1, .inl (cB, 400, .inl (aB (nup (nup (nup tp len ((v >>> ((nI 24) &&& 31)).toBitVec.toNat % 256)) (len + 1) ((v >>> ((nI 16) &&& 31)).toBitVec.toNat % 256)) ((len + 1) + 1) ((v >>> ((nI 8) &&& 31)).toBitVec.toNat % 256)))))] H := hP
  have hD : va_D A [(x0, .inr (3, [.ref h0, .ref t0, .ref r0])), (t0, .inr (2, [.ref t1, .int (nI (((len + 1) + 1) + 1))])), (t1, .inl (cB, 400, .inl (aB (nup (nup (nup tp len ((v >>> ((nI 24) &&& 31)).toBitVec.toNat % 256)) (len + 1) ((v >>> ((nI 16) &&& 31)).toBitVec.toNat % 256)) ((len + 1) + 1) ((v >>> ((nI 8) &&& 31)).toBitVec.toNat % 256)))))] := hD
  refine lv_iinc (v := nI 0) (lv' := [(2, .int (nI 0)), (0, .ref x0), (1, .int v)]) hx hb dC_feed_42 hl (k := 0) rfl (by decide) (by decide) rfl (fun ls hl => ?_)
  refine lv_goto (tgt := 28) hx hb dC_feed_45 (by decide) ?_
  refine lv_iload_n hx hb dC_feed_28 rfl (lv_at hl 0 rfl) ?_
  refine lv_if_lt (tgt := 48) hx hb dC_feed_29 (by decide) (fun q => False.elim (absurd q (by decide))) (fun c_29 => ?_)
  refine lv_aload_n hx hb dC_feed_32 rfl (lv_at hl 1 rfl) ?_
  refine va_get (D := (dC, dI)) (ci := 3) (v := .ref t0) (C := RC) (T := TC) (N := 3) hx hb hw inC hown hK hP 0 rfl rfl 1 (by decide) (hw _ w_fl_C_19) (fun _ h9 => h9) rfl dC_feed_33 ?_
  refine lv_iload_n hx hb dC_feed_36 rfl (lv_at hl 2 rfl) ?_
  refine lv_iload_n hx hb dC_feed_37 rfl (lv_at hl 0 rfl) ?_
  refine lv_ishr hx hb dC_feed_38 ?_
  have hPc := hP.sub (ws' := [(t0, .inr (2, [.ref t1, .int (nI (((len + 1) + 1) + 1))])), (t1, .inl (cB, 400, .inl (aB (nup (nup (nup tp len ((v >>> ((nI 24) &&& 31)).toBitVec.toNat % 256)) (len + 1) ((v >>> ((nI 16) &&& 31)).toBitVec.toNat % 256)) ((len + 1) + 1) ((v >>> ((nI 8) &&& 31)).toBitVec.toNat % 256)))))]) [1, 2] rfl
  have hDc := hD.sub (ws' := [(t0, .inr (2, [.ref t1, .int (nI (((len + 1) + 1) + 1))])), (t1, .inl (cB, 400, .inl (aB (nup (nup (nup tp len ((v >>> ((nI 24) &&& 31)).toBitVec.toNat % 256)) (len + 1) ((v >>> ((nI 16) &&& 31)).toBitVec.toNat % 256)) ((len + 1) + 1) ((v >>> ((nI 8) &&& 31)).toBitVec.toNat % 256)))))]) [1, 2] (by decide) rfl
  have hFc := va_free (wc := [(t0, .inr (2, [.ref t1, .int (nI (((len + 1) + 1) + 1))])), (t1, .inl (cB, 400, .inl (aB (nup (nup (nup tp len ((v >>> ((nI 24) &&& 31)).toBitVec.toNat % 256)) (len + 1) ((v >>> ((nI 16) &&& 31)).toBitVec.toNat % 256)) ((len + 1) + 1) ((v >>> ((nI 8) &&& 31)).toBitVec.toNat % 256)))))]) hD hS hA [1, 2] rfl
  refine zc_Mv (va_runV (As := [.int (v >>> ((nI 0) &&& 31))]) (rest := []) ⟨hx, hb, hml, hown, hw⟩ (c_appendx l dC dI t0 t1 cI cB (((len + 1) + 1) + 1) (nup (nup (nup tp len ((v >>> ((nI 24) &&& 31)).toBitVec.toNat % 256)) (len + 1) ((v >>> ((nI 16) &&& 31)).toBitVec.toNat % 256)) ((len + 1) + 1) ((v >>> ((nI 8) &&& 31)).toBitVec.toNat % 256)) (v >>> ((nI 0) &&& 31)) (by omega) H.size) (cwV 1 hw (gV w_ml_C_124 w_im_T_append w_se_T_append w_in_T w_co_T_append) rfl rfl rfl (by decide +kernel) ⟨Nat.le_of_ble_eq_true rfl, Nat.le_of_ble_eq_true rfl⟩) (zM_V hG hS hFc hPc hDc hK 0 rfl rfl) rfl rfl hl.1 rfl (lv_room (Nat.le_of_ble_eq_true rfl)) dC_feed_39 ⟨Nat.le_of_ble_eq_true rfl, Nat.le_of_ble_eq_true rfl⟩) hS hFc (fun H locs h_39 hP1 hD1 hk1 hS => ?_)
  obtain ⟨hP, hD⟩ := va_join (wr := [(x0, .inr (3, [.ref h0, .ref t0, .ref r0]))]) (w1 := [(t0, .inr (2, [.ref t1, .int (nI ((((len + 1) + 1) + 1) + 1))])), (t1, .inl (cB, 400, .inl (aB (nup (nup (nup (nup tp len ((v >>> ((nI 24) &&& 31)).toBitVec.toNat % 256)) (len + 1) ((v >>> ((nI 16) &&& 31)).toBitVec.toNat % 256)) ((len + 1) + 1) ((v >>> ((nI 8) &&& 31)).toBitVec.toNat % 256)) (((len + 1) + 1) + 1) ((v >>> ((nI 0) &&& 31)).toBitVec.toNat % 256)))))]) hP hD [1, 2] [0] rfl rfl (by decide) (by decide) hk1 hFc hP1 hD1
  have hP : va_P (dC, dI) vwCl [(x0, .inr (3, [.ref h0, .ref t0, .ref r0])), (t0, .inr (2, [.ref t1, .int (nI ((((len + 1) + 1) + 1) + 1))])), (t1, .inl (cB, 400, .inl (aB (nup (nup (nup (nup tp len ((v >>> ((nI 24) &&& 31)).toBitVec.toNat % 256)) (len + 1) ((v >>> ((nI 16) &&& 31)).toBitVec.toNat % 256)) ((len + 1) + 1) ((v >>> ((nI 8) &&& 31)).toBitVec.toNat % 256)) (((len + 1) + 1) + 1) ((v >>> ((nI 0) &&& 31)).toBitVec.toNat % 256)))))] H := hP
  have hD : va_D A [(x0, .inr (3, [.ref h0, .ref t0, .ref r0])), (t0, .inr (2, [.ref t1, .int (nI ((((len + 1) + 1) + 1) + 1))])), (t1, .inl (cB, 400, .inl (aB (nup (nup (nup (nup tp len ((v >>> ((nI 24) &&& 31)).toBitVec.toNat % 256)) (len + 1) ((v >>> ((nI 16) &&& 31)).toBitVec.toNat % 256)) ((len + 1) + 1) ((v >>> ((nI 8) &&& 31)).toBitVec.toNat % 256)) (((len + 1) + 1) + 1) ((v >>> ((nI 0) &&& 31)).toBitVec.toNat % 256)))))] := hD
  refine lv_iinc (v := (-8)) (lv' := [(2, .int (-8)), (0, .ref x0), (1, .int v)]) hx hb dC_feed_42 hl (k := 0) rfl (by decide) (by decide) rfl (fun ls hl => ?_)
  refine lv_goto (tgt := 28) hx hb dC_feed_45 (by decide) ?_
  refine lv_iload_n hx hb dC_feed_28 rfl (lv_at hl 0 rfl) ?_
  refine lv_if_lt (tgt := 48) hx hb dC_feed_29 (by decide) (fun c_29 => ?_) (fun q => False.elim (absurd q (by decide)))
  refine lv_aload_n hx hb dC_feed_48 rfl (lv_at hl 1 rfl) ?_
  refine va_get (D := (dC, dI)) (ci := 3) (v := .ref t0) (C := RC) (T := TC) (N := 3) hx hb hw inC hown hK hP 0 rfl rfl 1 (by decide) (hw _ w_fl_C_19) (fun _ h9 => h9) rfl dC_feed_49 ?_
  refine va_get (D := (dC, dI)) (ci := 2) (v := .int (nI ((((len + 1) + 1) + 1) + 1))) (C := RT) (T := TT) (N := 2) hx hb hw inT hown hK hP 1 rfl rfl 1 (by decide) (hw _ w_fl_C_116) (fun _ h9 => h9) rfl dC_feed_52 ?_
  subst hAe
  subst hQ
  exact W.iret (v := nI ((((len + 1) + 1) + 1) + 1)) hx hb hr (fun t ht hW => ⟨⟨nI ((((len + 1) + 1) + 1) + 1), (), rfl, rfl, by rw [ht]; exact hP.sub [0, 1, 2] rfl, hD.sub [0, 1, 2] (by decide) rfl⟩, hS.F ht⟩) hS.2.2 dC_feed_55
def rm_c_trim_ok : Room := ({ frames := 6, cells := 0, slots := 0, locals := 91 } : Room)
set_option maxHeartbeats 4000000 in
set_option maxRecDepth 100000 in
theorem c_trim_ok (l : Launch) (dC : Nat → ClassId) (dI : Nat → Nat → Nat) (x0 : Nat) (cI : ClassId) (cB : ClassId) (t0 : Nat) (t1 : Nat) (len : Nat) (tp : Nat → Nat) (h0 : Nat) (r0 : Nat) (n : Nat) (hln : len ≤ 400) (hn : n ≤ len) (sz : Nat) : Met l yC_trim wsC_trim rm_c_trim_ok (zM (dC, dI) [(cI, .int), (cB, .byte)] [.ref x0, .int (nI n)] [(x0, .inr (3, [.ref h0, .ref t0, .ref r0])), (t0, .inr (2, [.ref t1, .int (nI len)])), (t1, .inl (cB, 400, .inl (aB tp)))] sz) (zMi (dC, dI) [(x0, .inr (3, [.ref h0, .ref t0, .ref r0])), (t0, .inr (2, [.ref t1, .int (nI len)])), (t1, .inl (cB, 400, .inl (aB tp)))] [(x0, .inr (3, [.ref h0, .ref t0, .ref r0])), (t0, .inr (2, [.ref t1, .int (nI (len - n))])), (t1, .inl (cB, 400, .inl (aB tp)))] sz (fun r => r = nI (len - n))) 0 0 (va_A [(x0, .inr (3, [.ref h0, .ref t0, .ref r0])), (t0, .inr (2, [.ref t1, .int (nI len)])), (t1, .inl (cB, 400, .inl (aB tp)))] sz) := by
  refine Met.ofW (cc := cC_trim) (maxL := 2) (ret := (some .int)) (by decide) rfl ?_
  intro p e s m args below meth c s₁ Bd hml hv
  obtain ⟨rfl, hsz, hG, hP, hK, hD0⟩ := hv
  subst hsz
  have hx := Bd.exec
  have hb := Bd.bytes
  have hr := Bd.returns
  have hts := atoms_spec (ws := wsC_trim) Bd.pre
  have hw : ∀ w ∈ BIG, w.before _ s = true := fun w h => hts w (List.mem_cons_of_mem _ h)
  have hown : s.vm.findClass RC = some m.cls := findClass_of_methodNamed Bd.named
  have hlocks := Bd.notSynchronized
  have hD := hD0.self (sz := s.heap.size)
  obtain ⟨A, hAe⟩ : ∃ A, A = va_A [(x0, .inr (3, [.ref h0, .ref t0, .ref r0])), (t0, .inr (2, [.ref t1, .int (nI len)])), (t1, .inl (cB, 400, .inl (aB tp)))] s.heap.size := ⟨_, rfl⟩
  have hA : ∀ q : Nat, s.heap.size ≤ q → A q := fun q h => by rw [hAe]; exact Or.inr h
  rw [← hAe] at hG hD
  have hS : va_S A s.heap s.heap [] := va_S.rf
  have hl := lv_entry ([.ref x0, .int (nI n)]) (n := 2) (Nat.le_of_ble_eq_true rfl)
  rw [lg_entry_eq]
  generalize (lg_sl ([.ref x0, .int (nI n)]) ++ List.replicate (2 - (lg_sl ([.ref x0, .int (nI n)])).length) Slot.unset).toArray = ls at hl ⊢
  have hl : lv_has ls 2 [(0, .ref x0), (1, .int (nI n))] := hl
  refine zq_name (fun Q hQ => ?_)
  change W p l e rm_c_trim_ok s m _ below meth c _ _ _ _ Q _
  refine lv_iload_n hx hb dC_trim_0 rfl (lv_at hl 1 rfl) ?_
  refine zi_lt0 (tgt := 15) hx hb (by omega) dC_trim_1 (by decide) ?_
  refine lv_iload_n hx hb dC_trim_4 rfl (lv_at hl 1 rfl) ?_
  refine lv_aload_n hx hb dC_trim_5 rfl (lv_at hl 0 rfl) ?_
  refine va_get (D := (dC, dI)) (ci := 3) (v := .ref t0) (C := RC) (T := TC) (N := 3) hx hb hw inC hown hK hP 0 rfl rfl 1 (by decide) (hw _ w_fl_C_19) (fun _ h9 => h9) rfl dC_trim_6 ?_
  refine va_get (D := (dC, dI)) (ci := 2) (v := .int (nI len)) (C := RT) (T := TT) (N := 2) hx hb hw inT hown hK hP 1 rfl rfl 1 (by decide) (hw _ w_fl_C_116) (fun _ h9 => h9) rfl dC_trim_9 ?_
  refine zi_le (tgt := 25) hx hb (by omega) (by omega) dC_trim_12 (by decide) (fun c_12 => ?_) (fun q => False.elim ((by omega)))
  refine lv_aload_n hx hb dC_trim_25 rfl (lv_at hl 0 rfl) ?_
  refine va_get (D := (dC, dI)) (ci := 3) (v := .ref t0) (C := RC) (T := TC) (N := 3) hx hb hw inC hown hK hP 0 rfl rfl 1 (by decide) (hw _ w_fl_C_19) (fun _ h9 => h9) rfl dC_trim_26 ?_
  refine lv_dup hx hb dC_trim_29 rfl ?_
  refine va_get (D := (dC, dI)) (ci := 2) (v := .int (nI len)) (C := RT) (T := TT) (N := 2) hx hb hw inT hown hK hP 1 rfl rfl 1 (by decide) (hw _ w_fl_C_116) (fun _ h9 => h9) rfl dC_trim_30 ?_
  refine lv_iload_n hx hb dC_trim_33 rfl (lv_at hl 1 rfl) ?_
  refine zi_sub hx hb (by omega) dC_trim_34 ?_
  refine va_put (D := (dC, dI)) (ci := 2) (v := .int (nI (len - n))) (ty := .int) (C := RT) (T := TT) (N := 2) hx hb hw inT tyT tyT_ok nmT hown hK hP hD hS 1 rfl rfl 1 (by decide) (hw _ w_fl_C_116) (fun _ h9 => h9) rfl (by decide +kernel) rfl rfl (Nat.le_of_ble_eq_true rfl) dC_trim_35 (fun H locs hP hD hS => ?_)
  have hP : va_P (dC, dI) vwCl [(x0, .inr (3, [.ref h0, .ref t0, .ref r0])), (t0, .inr (2, [.ref t1, .int (nI (len - n))])), (t1, .inl (cB, 400, .inl (aB tp)))] H := hP
  have hD : va_D A [(x0, .inr (3, [.ref h0, .ref t0, .ref r0])), (t0, .inr (2, [.ref t1, .int (nI (len - n))])), (t1, .inl (cB, 400, .inl (aB tp)))] := hD
  refine lv_aload_n hx hb dC_trim_38 rfl (lv_at hl 0 rfl) ?_
  refine va_get (D := (dC, dI)) (ci := 3) (v := .ref t0) (C := RC) (T := TC) (N := 3) hx hb hw inC hown hK hP 0 rfl rfl 1 (by decide) (hw _ w_fl_C_19) (fun _ h9 => h9) rfl dC_trim_39 ?_
  refine va_get (D := (dC, dI)) (ci := 2) (v := .int (nI (len - n))) (C := RT) (T := TT) (N := 2) hx hb hw inT hown hK hP 1 rfl rfl 1 (by decide) (hw _ w_fl_C_116) (fun _ h9 => h9) rfl dC_trim_42 ?_
  subst hAe
  subst hQ
  exact W.iret (v := nI (len - n)) hx hb hr (fun t ht hW => ⟨⟨nI (len - n), (), rfl, rfl, by rw [ht]; exact hP.sub [0, 1, 2] rfl, hD.sub [0, 1, 2] (by decide) rfl⟩, hS.F ht⟩) hS.2.2 dC_trim_45
def rm_c_spoil_ok : Room := ({ frames := 6, cells := 0, slots := 0, locals := 91 } : Room)
set_option maxHeartbeats 4000000 in
set_option maxRecDepth 100000 in
theorem c_spoil_ok (l : Launch) (dC : Nat → ClassId) (dI : Nat → Nat → Nat) (x0 : Nat) (cI : ClassId) (cB : ClassId) (t0 : Nat) (t1 : Nat) (len : Nat) (tp : Nat → Nat) (h0 : Nat) (r0 : Nat) (i : Nat) (x : Nat) (hln : len ≤ 400) (hi : i < len) (hx9 : x ≤ 255) (htp : ∀ j, tp j < 256) (sz : Nat) : Met l yC_spoil wsC_spoil rm_c_spoil_ok (zM (dC, dI) [(cI, .int), (cB, .byte)] [.ref x0, .int (nI i), .int (nI x)] [(x0, .inr (3, [.ref h0, .ref t0, .ref r0])), (t0, .inr (2, [.ref t1, .int (nI len)])), (t1, .inl (cB, 400, .inl (aB tp)))] sz) (zMi (dC, dI) [(x0, .inr (3, [.ref h0, .ref t0, .ref r0])), (t0, .inr (2, [.ref t1, .int (nI len)])), (t1, .inl (cB, 400, .inl (aB tp)))] [(x0, .inr (3, [.ref h0, .ref t0, .ref r0])), (t0, .inr (2, [.ref t1, .int (nI len)])), (t1, .inl (cB, 400, .inl (aB (nup tp i (tp i ^^^ x)))))] sz (fun r => r = nI (tp i ^^^ x))) 0 0 (va_A [(x0, .inr (3, [.ref h0, .ref t0, .ref r0])), (t0, .inr (2, [.ref t1, .int (nI len)])), (t1, .inl (cB, 400, .inl (aB tp)))] sz) := by
  refine Met.ofW (cc := cC_spoil) (maxL := 3) (ret := (some .int)) (by decide) rfl ?_
  intro p e s m args below meth c s₁ Bd hml hv
  obtain ⟨rfl, hsz, hG, hP, hK, hD0⟩ := hv
  subst hsz
  have hx := Bd.exec
  have hb := Bd.bytes
  have hr := Bd.returns
  have hts := atoms_spec (ws := wsC_spoil) Bd.pre
  have hw : ∀ w ∈ BIG, w.before _ s = true := fun w h => hts w (List.mem_cons_of_mem _ h)
  have hown : s.vm.findClass RC = some m.cls := findClass_of_methodNamed Bd.named
  have hlocks := Bd.notSynchronized
  have hD := hD0.self (sz := s.heap.size)
  obtain ⟨A, hAe⟩ : ∃ A, A = va_A [(x0, .inr (3, [.ref h0, .ref t0, .ref r0])), (t0, .inr (2, [.ref t1, .int (nI len)])), (t1, .inl (cB, 400, .inl (aB tp)))] s.heap.size := ⟨_, rfl⟩
  have hA : ∀ q : Nat, s.heap.size ≤ q → A q := fun q h => by rw [hAe]; exact Or.inr h
  rw [← hAe] at hG hD
  have hS : va_S A s.heap s.heap [] := va_S.rf
  have hl := lv_entry ([.ref x0, .int (nI i), .int (nI x)]) (n := 3) (Nat.le_of_ble_eq_true rfl)
  rw [lg_entry_eq]
  generalize (lg_sl ([.ref x0, .int (nI i), .int (nI x)]) ++ List.replicate (3 - (lg_sl ([.ref x0, .int (nI i), .int (nI x)])).length) Slot.unset).toArray = ls at hl ⊢
  have hl : lv_has ls 3 [(0, .ref x0), (1, .int (nI i)), (2, .int (nI x))] := hl
  refine zq_name (fun Q hQ => ?_)
  change W p l e rm_c_spoil_ok s m _ below meth c _ _ _ _ Q _
  refine lv_iload_n hx hb dC_spoil_0 rfl (lv_at hl 1 rfl) ?_
  refine zi_lt0 (tgt := 26) hx hb (by omega) dC_spoil_1 (by decide) ?_
  refine lv_iload_n hx hb dC_spoil_4 rfl (lv_at hl 1 rfl) ?_
  refine lv_aload_n hx hb dC_spoil_5 rfl (lv_at hl 0 rfl) ?_
  refine va_get (D := (dC, dI)) (ci := 3) (v := .ref t0) (C := RC) (T := TC) (N := 3) hx hb hw inC hown hK hP 0 rfl rfl 1 (by decide) (hw _ w_fl_C_19) (fun _ h9 => h9) rfl dC_spoil_6 ?_
  refine va_get (D := (dC, dI)) (ci := 2) (v := .int (nI len)) (C := RT) (T := TT) (N := 2) hx hb hw inT hown hK hP 1 rfl rfl 1 (by decide) (hw _ w_fl_C_116) (fun _ h9 => h9) rfl dC_spoil_9 ?_
  refine zi_ge (tgt := 26) hx hb (by omega) (by omega) dC_spoil_12 (by decide) (fun q => False.elim ((by omega))) (fun c_12 => ?_)
  refine lv_iload_n hx hb dC_spoil_15 rfl (lv_at hl 2 rfl) ?_
  refine zi_lt0 (tgt := 26) hx hb (by omega) dC_spoil_16 (by decide) ?_
  refine lv_iload_n hx hb dC_spoil_19 rfl (lv_at hl 2 rfl) ?_
  refine lv_sipush (v := nI 255) hx hb dC_spoil_20 (by decide) ?_
  refine zi_le (tgt := 36) hx hb (by omega) (by omega) dC_spoil_23 (by decide) (fun c_23 => ?_) (fun q => False.elim ((by omega)))
  refine lv_aload_n hx hb dC_spoil_36 rfl (lv_at hl 0 rfl) ?_
  refine va_get (D := (dC, dI)) (ci := 3) (v := .ref t0) (C := RC) (T := TC) (N := 3) hx hb hw inC hown hK hP 0 rfl rfl 1 (by decide) (hw _ w_fl_C_19) (fun _ h9 => h9) rfl dC_spoil_37 ?_
  refine lv_iload_n hx hb dC_spoil_40 rfl (lv_at hl 1 rfl) ?_
  refine lv_iload_n hx hb dC_spoil_41 rfl (lv_at hl 2 rfl) ?_
  have hPc := hP.sub (ws' := [(t0, .inr (2, [.ref t1, .int (nI len)])), (t1, .inl (cB, 400, .inl (aB tp)))]) [1, 2] rfl
  have hDc := hD.sub (ws' := [(t0, .inr (2, [.ref t1, .int (nI len)])), (t1, .inl (cB, 400, .inl (aB tp)))]) [1, 2] (by decide) rfl
  have hFc := va_free (wc := [(t0, .inr (2, [.ref t1, .int (nI len)])), (t1, .inl (cB, 400, .inl (aB tp)))]) hD hS hA [1, 2] rfl
  refine zc_Mv (va_runV (As := [.int (nI i), .int (nI x)]) (rest := []) ⟨hx, hb, hml, hown, hw⟩ (c_T_flip l dC dI t0 t1 cI cB len tp i x (by omega) s.heap.size) (cwV 2 hw (gV w_ml_C_131 w_im_T_flip w_se_T_flip w_in_T w_co_T_flip) rfl rfl rfl (by decide +kernel) ⟨Nat.le_of_ble_eq_true rfl, Nat.le_of_ble_eq_true rfl⟩) (zM_V hG hS hFc hPc hDc hK 0 rfl rfl) rfl rfl hl.1 rfl (lv_room (Nat.le_of_ble_eq_true rfl)) dC_spoil_42 ⟨Nat.le_of_ble_eq_true rfl, Nat.le_of_ble_eq_true rfl⟩) hS hFc (fun H locs h_42 hP1 hD1 hk1 hS => ?_)
  obtain ⟨hP, hD⟩ := va_join (wr := [(x0, .inr (3, [.ref h0, .ref t0, .ref r0]))]) (w1 := [(t0, .inr (2, [.ref t1, .int (nI len)])), (t1, .inl (cB, 400, .inl (aB (nup tp i (tp i ^^^ x)))))]) hP hD [1, 2] [0] rfl rfl (by decide) (by decide) hk1 hFc hP1 hD1
  have hP : va_P (dC, dI) vwCl [(x0, .inr (3, [.ref h0, .ref t0, .ref r0])), (t0, .inr (2, [.ref t1, .int (nI len)])), (t1, .inl (cB, 400, .inl (aB (nup tp i (tp i ^^^ x)))))] H := hP
  have hD : va_D A [(x0, .inr (3, [.ref h0, .ref t0, .ref r0])), (t0, .inr (2, [.ref t1, .int (nI len)])), (t1, .inl (cB, 400, .inl (aB (nup tp i (tp i ^^^ x)))))] := hD
  refine lv_aload_n hx hb dC_spoil_45 rfl (lv_at hl 0 rfl) ?_
  refine va_get (D := (dC, dI)) (ci := 3) (v := .ref t0) (C := RC) (T := TC) (N := 3) hx hb hw inC hown hK hP 0 rfl rfl 1 (by decide) (hw _ w_fl_C_19) (fun _ h9 => h9) rfl dC_spoil_46 ?_
  refine lv_iload_n hx hb dC_spoil_49 rfl (lv_at hl 1 rfl) ?_
  refine zc_Ri (va_runV (As := [.int (nI i)]) (rest := []) ⟨hx, hb, hml, hown, hw⟩ (c_T_byteAt l dC dI t0 t1 len cI cB (nup tp i (tp i ^^^ x)) i (by omega) (by rw [nup_s]; exact xor_lt (htp i) (by omega)) H) (cwV 1 hw (gV w_ml_C_135 w_im_T_byteAt w_se_T_byteAt w_in_T w_co_T_byteAt) rfl rfl rfl (by decide +kernel) ⟨Nat.le_of_ble_eq_true rfl, Nat.le_of_ble_eq_true rfl⟩) (zR_V hG hS (hP.sub (ws' := [(t0, .inr (2, [.ref t1, .int (nI len)])), (t1, .inl (cB, 400, .inl (aB (nup tp i (tp i ^^^ x)))))]) [1, 2] rfl) hK 0 rfl rfl) rfl rfl hl.1 rfl (lv_room (Nat.le_of_ble_eq_true rfl)) dC_spoil_50 ⟨Nat.le_of_ble_eq_true rfl, Nat.le_of_ble_eq_true rfl⟩) hS (fun r_2 locs h_50 hS => ?_)
  subst h_50
  subst hAe
  subst hQ
  exact W.iret (v := nI ((nup tp i (tp i ^^^ x)) i)) hx hb hr (fun t ht hW => ⟨⟨nI ((nup tp i (tp i ^^^ x)) i), (), rfl, (by rw [nup_s]), by rw [ht]; exact hP.sub [0, 1, 2] rfl, hD.sub [0, 1, 2] (by decide) rfl⟩, hS.F ht⟩) hS.2.2 dC_spoil_53
def rm_c_fault_ok : Room := ({ frames := 6, cells := 0, slots := 0, locals := 136 } : Room)
set_option maxHeartbeats 4000000 in
set_option maxRecDepth 100000 in
theorem c_fault_ok (l : Launch) (dC : Nat → ClassId) (dI : Nat → Nat → Nat) (x0 : Nat) (cI : ClassId) (cB : ClassId) (t0 : Nat) (t1 : Nat) (len : Nat) (tp : Nat → Nat) (r0 : Nat) (fk : Nat) (fp : Int32) (nx : Nat) (lnb : Nat) (f0 : Nat) (f1 : Nat) (f2 : Nat) (gty : Nat) (gcnt : Nat → Nat) (gmk : Nat → Nat) (h0 : Nat) (wh : Nat) (hln : len ≤ 400) (htp : ∀ j, tp j < 256) (hm : ∀ j, gmk j < 128) (hwh : wh ≤ 1) (hd : pF tp len = none) (sz : Nat) : Met l yC_fault wsC_fault rm_c_fault_ok (zM (dC, dI) [(cI, .int), (cB, .byte)] [.ref x0, .int (nI wh)] [(x0, .inr (3, [.ref h0, .ref t0, .ref r0])), (r0, .inr (1, [.ref f0, .int (nI fk), .int fp, .ref t0, .int (nI nx), .int (nI lnb)])), (t0, .inr (2, [.ref t1, .int (nI len)])), (t1, .inl (cB, 400, .inl (aB tp))), (f0, .inr (0, [.int (nI gty), .ref f1, .ref f2])), (f1, .inl (cI, 16, .inl (aN gcnt))), (f2, .inl (cB, 208, .inl (aN gmk)))] sz) (zSi (dC, dI) [(x0, .inr (3, [.ref h0, .ref t0, .ref r0])), (r0, .inr (1, [.ref f0, .int (nI fk), .int fp, .ref t0, .int (nI nx), .int (nI lnb)])), (t0, .inr (2, [.ref t1, .int (nI len)])), (t1, .inl (cB, 400, .inl (aB tp))), (f0, .inr (0, [.int (nI gty), .ref f1, .ref f2])), (f1, .inl (cI, 16, .inl (aN gcnt))), (f2, .inl (cB, 208, .inl (aN gmk)))] sz (fun r (u : Nat × Nat × Nat × (Nat → Nat) × (Nat → Nat)) => r = (if wh = 0 then nI 0 else (-1)) ∧ ∀ j, u.2.2.2.2 j < 128) (fun u => [(x0, .inr (3, [.ref h0, .ref t0, .ref r0])), (r0, .inr (1, [.ref f0, .int (nI 0), .int (-1), .ref t0, .int (nI u.1), .int (nI u.2.1)])), (t0, .inr (2, [.ref t1, .int (nI len)])), (t1, .inl (cB, 400, .inl (aB tp))), (f0, .inr (0, [.int (nI u.2.2.1), .ref f1, .ref f2])), (f1, .inl (cI, 16, .inl (aN u.2.2.2.1))), (f2, .inl (cB, 208, .inl (aN u.2.2.2.2)))])) 0 0 (va_A [(x0, .inr (3, [.ref h0, .ref t0, .ref r0])), (r0, .inr (1, [.ref f0, .int (nI fk), .int fp, .ref t0, .int (nI nx), .int (nI lnb)])), (t0, .inr (2, [.ref t1, .int (nI len)])), (t1, .inl (cB, 400, .inl (aB tp))), (f0, .inr (0, [.int (nI gty), .ref f1, .ref f2])), (f1, .inl (cI, 16, .inl (aN gcnt))), (f2, .inl (cB, 208, .inl (aN gmk)))] sz) := by
  refine Met.ofW (cc := cC_fault) (maxL := 2) (ret := (some .int)) (by decide) rfl ?_
  intro p e s m args below meth c s₁ Bd hml hv
  obtain ⟨rfl, hsz, hG, hP, hK, hD0⟩ := hv
  subst hsz
  have hx := Bd.exec
  have hb := Bd.bytes
  have hr := Bd.returns
  have hts := atoms_spec (ws := wsC_fault) Bd.pre
  have hw : ∀ w ∈ BIG, w.before _ s = true := fun w h => hts w (List.mem_cons_of_mem _ h)
  have hown : s.vm.findClass RC = some m.cls := findClass_of_methodNamed Bd.named
  have hlocks := Bd.notSynchronized
  have hD := hD0.self (sz := s.heap.size)
  obtain ⟨A, hAe⟩ : ∃ A, A = va_A [(x0, .inr (3, [.ref h0, .ref t0, .ref r0])), (r0, .inr (1, [.ref f0, .int (nI fk), .int fp, .ref t0, .int (nI nx), .int (nI lnb)])), (t0, .inr (2, [.ref t1, .int (nI len)])), (t1, .inl (cB, 400, .inl (aB tp))), (f0, .inr (0, [.int (nI gty), .ref f1, .ref f2])), (f1, .inl (cI, 16, .inl (aN gcnt))), (f2, .inl (cB, 208, .inl (aN gmk)))] s.heap.size := ⟨_, rfl⟩
  have hA : ∀ q : Nat, s.heap.size ≤ q → A q := fun q h => by rw [hAe]; exact Or.inr h
  rw [← hAe] at hG hD
  have hS : va_S A s.heap s.heap [] := va_S.rf
  have hl := lv_entry ([.ref x0, .int (nI wh)]) (n := 2) (Nat.le_of_ble_eq_true rfl)
  rw [lg_entry_eq]
  generalize (lg_sl ([.ref x0, .int (nI wh)]) ++ List.replicate (2 - (lg_sl ([.ref x0, .int (nI wh)])).length) Slot.unset).toArray = ls at hl ⊢
  have hl : lv_has ls 2 [(0, .ref x0), (1, .int (nI wh))] := hl
  refine zq_name (fun Q hQ => ?_)
  change W p l e rm_c_fault_ok s m _ below meth c _ _ _ _ Q _
  refine lv_iload_n hx hb dC_fault_0 rfl (lv_at hl 1 rfl) ?_
  refine zi_eq0 (tgt := 19) hx hb (by omega) dC_fault_1 (by decide) (fun c_1 => ?_) (fun c_1 => ?_)
  · refine lv_aload_n hx hb dC_fault_19 rfl (lv_at hl 0 rfl) ?_
    refine va_get (D := (dC, dI)) (ci := 3) (v := .ref r0) (C := RC) (T := TC) (N := 3) hx hb hw inC hown hK hP 0 rfl rfl 2 (by decide) (hw _ w_fl_C_28) (fun _ h9 => h9) rfl dC_fault_20 ?_
    have hPc := hP.sub (ws' := [(r0, .inr (1, [.ref f0, .int (nI fk), .int fp, .ref t0, .int (nI nx), .int (nI lnb)])), (t0, .inr (2, [.ref t1, .int (nI len)])), (t1, .inl (cB, 400, .inl (aB tp))), (f0, .inr (0, [.int (nI gty), .ref f1, .ref f2])), (f1, .inl (cI, 16, .inl (aN gcnt))), (f2, .inl (cB, 208, .inl (aN gmk)))]) [1, 2, 3, 4, 5, 6] rfl
    have hDc := hD.sub (ws' := [(r0, .inr (1, [.ref f0, .int (nI fk), .int fp, .ref t0, .int (nI nx), .int (nI lnb)])), (t0, .inr (2, [.ref t1, .int (nI len)])), (t1, .inl (cB, 400, .inl (aB tp))), (f0, .inr (0, [.int (nI gty), .ref f1, .ref f2])), (f1, .inl (cI, 16, .inl (aN gcnt))), (f2, .inl (cB, 208, .inl (aN gmk)))]) [1, 2, 3, 4, 5, 6] (by decide) rfl
    have hFc := va_free (wc := [(r0, .inr (1, [.ref f0, .int (nI fk), .int fp, .ref t0, .int (nI nx), .int (nI lnb)])), (t0, .inr (2, [.ref t1, .int (nI len)])), (t1, .inl (cB, 400, .inl (aB tp))), (f0, .inr (0, [.int (nI gty), .ref f1, .ref f2])), (f1, .inl (cI, 16, .inl (aN gcnt))), (f2, .inl (cB, 208, .inl (aN gmk)))]) hD hS hA [1, 2, 3, 4, 5, 6] rfl
    refine zc_Si (va_runV (As := []) (rest := []) ⟨hx, hb, hml, hown, hw⟩ (c_walk_ok l dC dI r0 f0 fk fp t0 nx lnb t1 len cI cB tp f1 f2 gty gcnt gmk (by omega) htp hm hd s.heap.size) (cwV 0 hw (gV w_ml_C_140 w_im_R_walk w_se_R_walk w_in_R w_co_R_walk) rfl rfl rfl (by decide +kernel) ⟨Nat.le_of_ble_eq_true rfl, Nat.le_of_ble_eq_true rfl⟩) (zM_V hG hS hFc hPc hDc hK 0 rfl rfl) rfl rfl hl.1 rfl (lv_room (Nat.le_of_ble_eq_true rfl)) dC_fault_23 ⟨Nat.le_of_ble_eq_true rfl, Nat.le_of_ble_eq_true rfl⟩) hS hFc (fun r_1 u_23 H locs h_23 hP1 hD1 hk1 hS => ?_)
    obtain ⟨n9_23, l9_23⟩ := u_23
    obtain ⟨hP, hD⟩ := va_join (wr := [(x0, .inr (3, [.ref h0, .ref t0, .ref r0]))]) (w1 := [(r0, .inr (1, [.ref f0, .int (nI 0), .int (-1), .ref t0, .int (nI n9_23), .int (nI l9_23)])), (t0, .inr (2, [.ref t1, .int (nI len)])), (t1, .inl (cB, 400, .inl (aB tp))), (f0, .inr (0, [.int (nI (nmA tp 0 4 4 0 0)), .ref f1, .ref f2])), (f1, .inl (cI, 16, .inl (aN (wkC tp (wid tp 2) 16 0 (2 + wid tp 2) (zc gcnt 16))))), (f2, .inl (cB, 208, .inl (aN (wkM tp (wid tp 2) 16 0 (2 + wid tp 2) gmk))))]) hP hD [1, 2, 3, 4, 5, 6] [0] rfl rfl (by decide) (by decide) hk1 hFc hP1 hD1
    have hP : va_P (dC, dI) vwCl [(x0, .inr (3, [.ref h0, .ref t0, .ref r0])), (r0, .inr (1, [.ref f0, .int (nI 0), .int (-1), .ref t0, .int (nI n9_23), .int (nI l9_23)])), (t0, .inr (2, [.ref t1, .int (nI len)])), (t1, .inl (cB, 400, .inl (aB tp))), (f0, .inr (0, [.int (nI (nmA tp 0 4 4 0 0)), .ref f1, .ref f2])), (f1, .inl (cI, 16, .inl (aN (wkC tp (wid tp 2) 16 0 (2 + wid tp 2) (zc gcnt 16))))), (f2, .inl (cB, 208, .inl (aN (wkM tp (wid tp 2) 16 0 (2 + wid tp 2) gmk))))] H := hP
    have hD : va_D A [(x0, .inr (3, [.ref h0, .ref t0, .ref r0])), (r0, .inr (1, [.ref f0, .int (nI 0), .int (-1), .ref t0, .int (nI n9_23), .int (nI l9_23)])), (t0, .inr (2, [.ref t1, .int (nI len)])), (t1, .inl (cB, 400, .inl (aB tp))), (f0, .inr (0, [.int (nI (nmA tp 0 4 4 0 0)), .ref f1, .ref f2])), (f1, .inl (cI, 16, .inl (aN (wkC tp (wid tp 2) 16 0 (2 + wid tp 2) (zc gcnt 16))))), (f2, .inl (cB, 208, .inl (aN (wkM tp (wid tp 2) 16 0 (2 + wid tp 2) gmk))))] := hD
    subst h_23
    refine lv_pop hx hb dC_fault_26 rfl ?_
    refine lv_iload_n hx hb dC_fault_27 rfl (lv_at hl 1 rfl) ?_
    refine zi_ne0 (tgt := 41) hx hb (by omega) dC_fault_28 (by decide) (fun c_28 => ?_) (fun c_28 => ?_)
    · refine lv_aload_n hx hb dC_fault_41 rfl (lv_at hl 0 rfl) ?_
      refine va_get (D := (dC, dI)) (ci := 3) (v := .ref r0) (C := RC) (T := TC) (N := 3) hx hb hw inC hown hK hP 0 rfl rfl 2 (by decide) (hw _ w_fl_C_28) (fun _ h9 => h9) rfl dC_fault_42 ?_
      refine va_get (D := (dC, dI)) (ci := 1) (v := .int (-1)) (C := RR) (T := TR) (N := 6) hx hb hw inR hown hK hP 1 rfl rfl 2 (by decide) (hw _ w_fl_C_147) (fun _ h9 => h9) rfl dC_fault_45 ?_
      subst hAe
      subst hQ
      exact W.iret (v := (-1)) hx hb hr (fun t ht hW => ⟨⟨(-1), (n9_23, l9_23, nmA tp 0 4 4 0 0, wkC tp (wid tp 2) 16 0 (2 + wid tp 2) (zc gcnt 16), wkM tp (wid tp 2) 16 0 (2 + wid tp 2) gmk), rfl, ⟨(by rw [if_neg c_28]), (wkM_lt htp (pF_ok hd).2.2.2 hm)⟩, by rw [ht]; exact hP.sub [0, 1, 2, 3, 4, 5, 6] rfl, hD.sub [0, 1, 2, 3, 4, 5, 6] (by decide) rfl⟩, hS.F ht⟩) hS.2.2 dC_fault_48
    · refine lv_aload_n hx hb dC_fault_31 rfl (lv_at hl 0 rfl) ?_
      refine va_get (D := (dC, dI)) (ci := 3) (v := .ref r0) (C := RC) (T := TC) (N := 3) hx hb hw inC hown hK hP 0 rfl rfl 2 (by decide) (hw _ w_fl_C_28) (fun _ h9 => h9) rfl dC_fault_32 ?_
      refine va_get (D := (dC, dI)) (ci := 1) (v := .int (nI 0)) (C := RR) (T := TR) (N := 6) hx hb hw inR hown hK hP 1 rfl rfl 1 (by decide) (hw _ w_fl_C_144) (fun _ h9 => h9) rfl dC_fault_35 ?_
      refine lv_goto (tgt := 48) hx hb dC_fault_38 (by decide) ?_
      subst hAe
      subst hQ
      exact W.iret (v := nI 0) hx hb hr (fun t ht hW => ⟨⟨nI 0, (n9_23, l9_23, nmA tp 0 4 4 0 0, wkC tp (wid tp 2) 16 0 (2 + wid tp 2) (zc gcnt 16), wkM tp (wid tp 2) 16 0 (2 + wid tp 2) gmk), rfl, ⟨(by rw [if_pos c_28]), (wkM_lt htp (pF_ok hd).2.2.2 hm)⟩, by rw [ht]; exact hP.sub [0, 1, 2, 3, 4, 5, 6] rfl, hD.sub [0, 1, 2, 3, 4, 5, 6] (by decide) rfl⟩, hS.F ht⟩) hS.2.2 dC_fault_48
  · refine lv_iload_n hx hb dC_fault_4 rfl (lv_at hl 1 rfl) ?_
    refine lv_iconst (v := nI 1) hx hb dC_fault_5 (by decide) ?_
    refine zi_eq (tgt := 19) hx hb (by omega) (by omega) dC_fault_6 (by decide) (fun c_6 => ?_) (fun q => False.elim ((q (by omega))))
    refine lv_aload_n hx hb dC_fault_19 rfl (lv_at hl 0 rfl) ?_
    refine va_get (D := (dC, dI)) (ci := 3) (v := .ref r0) (C := RC) (T := TC) (N := 3) hx hb hw inC hown hK hP 0 rfl rfl 2 (by decide) (hw _ w_fl_C_28) (fun _ h9 => h9) rfl dC_fault_20 ?_
    have hPc := hP.sub (ws' := [(r0, .inr (1, [.ref f0, .int (nI fk), .int fp, .ref t0, .int (nI nx), .int (nI lnb)])), (t0, .inr (2, [.ref t1, .int (nI len)])), (t1, .inl (cB, 400, .inl (aB tp))), (f0, .inr (0, [.int (nI gty), .ref f1, .ref f2])), (f1, .inl (cI, 16, .inl (aN gcnt))), (f2, .inl (cB, 208, .inl (aN gmk)))]) [1, 2, 3, 4, 5, 6] rfl
    have hDc := hD.sub (ws' := [(r0, .inr (1, [.ref f0, .int (nI fk), .int fp, .ref t0, .int (nI nx), .int (nI lnb)])), (t0, .inr (2, [.ref t1, .int (nI len)])), (t1, .inl (cB, 400, .inl (aB tp))), (f0, .inr (0, [.int (nI gty), .ref f1, .ref f2])), (f1, .inl (cI, 16, .inl (aN gcnt))), (f2, .inl (cB, 208, .inl (aN gmk)))]) [1, 2, 3, 4, 5, 6] (by decide) rfl
    have hFc := va_free (wc := [(r0, .inr (1, [.ref f0, .int (nI fk), .int fp, .ref t0, .int (nI nx), .int (nI lnb)])), (t0, .inr (2, [.ref t1, .int (nI len)])), (t1, .inl (cB, 400, .inl (aB tp))), (f0, .inr (0, [.int (nI gty), .ref f1, .ref f2])), (f1, .inl (cI, 16, .inl (aN gcnt))), (f2, .inl (cB, 208, .inl (aN gmk)))]) hD hS hA [1, 2, 3, 4, 5, 6] rfl
    refine zc_Si (va_runV (As := []) (rest := []) ⟨hx, hb, hml, hown, hw⟩ (c_walk_ok l dC dI r0 f0 fk fp t0 nx lnb t1 len cI cB tp f1 f2 gty gcnt gmk (by omega) htp hm hd s.heap.size) (cwV 0 hw (gV w_ml_C_140 w_im_R_walk w_se_R_walk w_in_R w_co_R_walk) rfl rfl rfl (by decide +kernel) ⟨Nat.le_of_ble_eq_true rfl, Nat.le_of_ble_eq_true rfl⟩) (zM_V hG hS hFc hPc hDc hK 0 rfl rfl) rfl rfl hl.1 rfl (lv_room (Nat.le_of_ble_eq_true rfl)) dC_fault_23 ⟨Nat.le_of_ble_eq_true rfl, Nat.le_of_ble_eq_true rfl⟩) hS hFc (fun r_2 u_23 H locs h_23 hP1 hD1 hk1 hS => ?_)
    obtain ⟨n9_23, l9_23⟩ := u_23
    obtain ⟨hP, hD⟩ := va_join (wr := [(x0, .inr (3, [.ref h0, .ref t0, .ref r0]))]) (w1 := [(r0, .inr (1, [.ref f0, .int (nI 0), .int (-1), .ref t0, .int (nI n9_23), .int (nI l9_23)])), (t0, .inr (2, [.ref t1, .int (nI len)])), (t1, .inl (cB, 400, .inl (aB tp))), (f0, .inr (0, [.int (nI (nmA tp 0 4 4 0 0)), .ref f1, .ref f2])), (f1, .inl (cI, 16, .inl (aN (wkC tp (wid tp 2) 16 0 (2 + wid tp 2) (zc gcnt 16))))), (f2, .inl (cB, 208, .inl (aN (wkM tp (wid tp 2) 16 0 (2 + wid tp 2) gmk))))]) hP hD [1, 2, 3, 4, 5, 6] [0] rfl rfl (by decide) (by decide) hk1 hFc hP1 hD1
    have hP : va_P (dC, dI) vwCl [(x0, .inr (3, [.ref h0, .ref t0, .ref r0])), (r0, .inr (1, [.ref f0, .int (nI 0), .int (-1), .ref t0, .int (nI n9_23), .int (nI l9_23)])), (t0, .inr (2, [.ref t1, .int (nI len)])), (t1, .inl (cB, 400, .inl (aB tp))), (f0, .inr (0, [.int (nI (nmA tp 0 4 4 0 0)), .ref f1, .ref f2])), (f1, .inl (cI, 16, .inl (aN (wkC tp (wid tp 2) 16 0 (2 + wid tp 2) (zc gcnt 16))))), (f2, .inl (cB, 208, .inl (aN (wkM tp (wid tp 2) 16 0 (2 + wid tp 2) gmk))))] H := hP
    have hD : va_D A [(x0, .inr (3, [.ref h0, .ref t0, .ref r0])), (r0, .inr (1, [.ref f0, .int (nI 0), .int (-1), .ref t0, .int (nI n9_23), .int (nI l9_23)])), (t0, .inr (2, [.ref t1, .int (nI len)])), (t1, .inl (cB, 400, .inl (aB tp))), (f0, .inr (0, [.int (nI (nmA tp 0 4 4 0 0)), .ref f1, .ref f2])), (f1, .inl (cI, 16, .inl (aN (wkC tp (wid tp 2) 16 0 (2 + wid tp 2) (zc gcnt 16))))), (f2, .inl (cB, 208, .inl (aN (wkM tp (wid tp 2) 16 0 (2 + wid tp 2) gmk))))] := hD
    subst h_23
    refine lv_pop hx hb dC_fault_26 rfl ?_
    refine lv_iload_n hx hb dC_fault_27 rfl (lv_at hl 1 rfl) ?_
    refine zi_ne0 (tgt := 41) hx hb (by omega) dC_fault_28 (by decide) (fun c_28 => ?_) (fun c_28 => ?_)
    · refine lv_aload_n hx hb dC_fault_41 rfl (lv_at hl 0 rfl) ?_
      refine va_get (D := (dC, dI)) (ci := 3) (v := .ref r0) (C := RC) (T := TC) (N := 3) hx hb hw inC hown hK hP 0 rfl rfl 2 (by decide) (hw _ w_fl_C_28) (fun _ h9 => h9) rfl dC_fault_42 ?_
      refine va_get (D := (dC, dI)) (ci := 1) (v := .int (-1)) (C := RR) (T := TR) (N := 6) hx hb hw inR hown hK hP 1 rfl rfl 2 (by decide) (hw _ w_fl_C_147) (fun _ h9 => h9) rfl dC_fault_45 ?_
      subst hAe
      subst hQ
      exact W.iret (v := (-1)) hx hb hr (fun t ht hW => ⟨⟨(-1), (n9_23, l9_23, nmA tp 0 4 4 0 0, wkC tp (wid tp 2) 16 0 (2 + wid tp 2) (zc gcnt 16), wkM tp (wid tp 2) 16 0 (2 + wid tp 2) gmk), rfl, ⟨(by rw [if_neg c_28]), (wkM_lt htp (pF_ok hd).2.2.2 hm)⟩, by rw [ht]; exact hP.sub [0, 1, 2, 3, 4, 5, 6] rfl, hD.sub [0, 1, 2, 3, 4, 5, 6] (by decide) rfl⟩, hS.F ht⟩) hS.2.2 dC_fault_48
    · refine lv_aload_n hx hb dC_fault_31 rfl (lv_at hl 0 rfl) ?_
      refine va_get (D := (dC, dI)) (ci := 3) (v := .ref r0) (C := RC) (T := TC) (N := 3) hx hb hw inC hown hK hP 0 rfl rfl 2 (by decide) (hw _ w_fl_C_28) (fun _ h9 => h9) rfl dC_fault_32 ?_
      refine va_get (D := (dC, dI)) (ci := 1) (v := .int (nI 0)) (C := RR) (T := TR) (N := 6) hx hb hw inR hown hK hP 1 rfl rfl 1 (by decide) (hw _ w_fl_C_144) (fun _ h9 => h9) rfl dC_fault_35 ?_
      refine lv_goto (tgt := 48) hx hb dC_fault_38 (by decide) ?_
      subst hAe
      subst hQ
      exact W.iret (v := nI 0) hx hb hr (fun t ht hW => ⟨⟨nI 0, (n9_23, l9_23, nmA tp 0 4 4 0 0, wkC tp (wid tp 2) 16 0 (2 + wid tp 2) (zc gcnt 16), wkM tp (wid tp 2) 16 0 (2 + wid tp 2) gmk), rfl, ⟨(by rw [if_pos c_28]), (wkM_lt htp (pF_ok hd).2.2.2 hm)⟩, by rw [ht]; exact hP.sub [0, 1, 2, 3, 4, 5, 6] rfl, hD.sub [0, 1, 2, 3, 4, 5, 6] (by decide) rfl⟩, hS.F ht⟩) hS.2.2 dC_fault_48
def rm_c_fault_no : Room := ({ frames := 6, cells := 0, slots := 0, locals := 136 } : Room)
set_option maxHeartbeats 4000000 in
set_option maxRecDepth 100000 in
theorem c_fault_no (l : Launch) (dC : Nat → ClassId) (dI : Nat → Nat → Nat) (x0 : Nat) (cI : ClassId) (cB : ClassId) (t0 : Nat) (t1 : Nat) (len : Nat) (tp : Nat → Nat) (r0 : Nat) (fk : Nat) (fp : Int32) (nx : Nat) (lnb : Nat) (f0 : Nat) (f1 : Nat) (f2 : Nat) (gty : Nat) (gcnt : Nat → Nat) (gmk : Nat → Nat) (h0 : Nat) (wh : Nat) (k2 : Nat) (p2 : Nat) (hln : len ≤ 400) (htp : ∀ j, tp j < 256) (hm : ∀ j, gmk j < 128) (hwh : wh ≤ 1) (hd : pF tp len = some (k2, p2)) (sz : Nat) : Met l yC_fault wsC_fault rm_c_fault_no (zM (dC, dI) [(cI, .int), (cB, .byte)] [.ref x0, .int (nI wh)] [(x0, .inr (3, [.ref h0, .ref t0, .ref r0])), (r0, .inr (1, [.ref f0, .int (nI fk), .int fp, .ref t0, .int (nI nx), .int (nI lnb)])), (t0, .inr (2, [.ref t1, .int (nI len)])), (t1, .inl (cB, 400, .inl (aB tp))), (f0, .inr (0, [.int (nI gty), .ref f1, .ref f2])), (f1, .inl (cI, 16, .inl (aN gcnt))), (f2, .inl (cB, 208, .inl (aN gmk)))] sz) (zSi (dC, dI) [(x0, .inr (3, [.ref h0, .ref t0, .ref r0])), (r0, .inr (1, [.ref f0, .int (nI fk), .int fp, .ref t0, .int (nI nx), .int (nI lnb)])), (t0, .inr (2, [.ref t1, .int (nI len)])), (t1, .inl (cB, 400, .inl (aB tp))), (f0, .inr (0, [.int (nI gty), .ref f1, .ref f2])), (f1, .inl (cI, 16, .inl (aN gcnt))), (f2, .inl (cB, 208, .inl (aN gmk)))] sz (fun r (u : Nat × Nat × Nat × (Nat → Nat) × (Nat → Nat)) => r = (if wh = 0 then nI k2 else nI p2) ∧ ∀ j, u.2.2.2.2 j < 128) (fun u => [(x0, .inr (3, [.ref h0, .ref t0, .ref r0])), (r0, .inr (1, [.ref f0, .int (nI k2), .int (nI p2), .ref t0, .int (nI u.1), .int (nI u.2.1)])), (t0, .inr (2, [.ref t1, .int (nI len)])), (t1, .inl (cB, 400, .inl (aB tp))), (f0, .inr (0, [.int (nI u.2.2.1), .ref f1, .ref f2])), (f1, .inl (cI, 16, .inl (aN u.2.2.2.1))), (f2, .inl (cB, 208, .inl (aN u.2.2.2.2)))])) 0 0 (va_A [(x0, .inr (3, [.ref h0, .ref t0, .ref r0])), (r0, .inr (1, [.ref f0, .int (nI fk), .int fp, .ref t0, .int (nI nx), .int (nI lnb)])), (t0, .inr (2, [.ref t1, .int (nI len)])), (t1, .inl (cB, 400, .inl (aB tp))), (f0, .inr (0, [.int (nI gty), .ref f1, .ref f2])), (f1, .inl (cI, 16, .inl (aN gcnt))), (f2, .inl (cB, 208, .inl (aN gmk)))] sz) := by
  refine Met.ofW (cc := cC_fault) (maxL := 2) (ret := (some .int)) (by decide) rfl ?_
  intro p e s m args below meth c s₁ Bd hml hv
  obtain ⟨rfl, hsz, hG, hP, hK, hD0⟩ := hv
  subst hsz
  have hx := Bd.exec
  have hb := Bd.bytes
  have hr := Bd.returns
  have hts := atoms_spec (ws := wsC_fault) Bd.pre
  have hw : ∀ w ∈ BIG, w.before _ s = true := fun w h => hts w (List.mem_cons_of_mem _ h)
  have hown : s.vm.findClass RC = some m.cls := findClass_of_methodNamed Bd.named
  have hlocks := Bd.notSynchronized
  have hD := hD0.self (sz := s.heap.size)
  obtain ⟨A, hAe⟩ : ∃ A, A = va_A [(x0, .inr (3, [.ref h0, .ref t0, .ref r0])), (r0, .inr (1, [.ref f0, .int (nI fk), .int fp, .ref t0, .int (nI nx), .int (nI lnb)])), (t0, .inr (2, [.ref t1, .int (nI len)])), (t1, .inl (cB, 400, .inl (aB tp))), (f0, .inr (0, [.int (nI gty), .ref f1, .ref f2])), (f1, .inl (cI, 16, .inl (aN gcnt))), (f2, .inl (cB, 208, .inl (aN gmk)))] s.heap.size := ⟨_, rfl⟩
  have hA : ∀ q : Nat, s.heap.size ≤ q → A q := fun q h => by rw [hAe]; exact Or.inr h
  rw [← hAe] at hG hD
  have hS : va_S A s.heap s.heap [] := va_S.rf
  have hl := lv_entry ([.ref x0, .int (nI wh)]) (n := 2) (Nat.le_of_ble_eq_true rfl)
  rw [lg_entry_eq]
  generalize (lg_sl ([.ref x0, .int (nI wh)]) ++ List.replicate (2 - (lg_sl ([.ref x0, .int (nI wh)])).length) Slot.unset).toArray = ls at hl ⊢
  have hl : lv_has ls 2 [(0, .ref x0), (1, .int (nI wh))] := hl
  refine zq_name (fun Q hQ => ?_)
  change W p l e rm_c_fault_no s m _ below meth c _ _ _ _ Q _
  refine lv_iload_n hx hb dC_fault_0 rfl (lv_at hl 1 rfl) ?_
  refine zi_eq0 (tgt := 19) hx hb (by omega) dC_fault_1 (by decide) (fun c_1 => ?_) (fun c_1 => ?_)
  · refine lv_aload_n hx hb dC_fault_19 rfl (lv_at hl 0 rfl) ?_
    refine va_get (D := (dC, dI)) (ci := 3) (v := .ref r0) (C := RC) (T := TC) (N := 3) hx hb hw inC hown hK hP 0 rfl rfl 2 (by decide) (hw _ w_fl_C_28) (fun _ h9 => h9) rfl dC_fault_20 ?_
    have hPc := hP.sub (ws' := [(r0, .inr (1, [.ref f0, .int (nI fk), .int fp, .ref t0, .int (nI nx), .int (nI lnb)])), (t0, .inr (2, [.ref t1, .int (nI len)])), (t1, .inl (cB, 400, .inl (aB tp))), (f0, .inr (0, [.int (nI gty), .ref f1, .ref f2])), (f1, .inl (cI, 16, .inl (aN gcnt))), (f2, .inl (cB, 208, .inl (aN gmk)))]) [1, 2, 3, 4, 5, 6] rfl
    have hDc := hD.sub (ws' := [(r0, .inr (1, [.ref f0, .int (nI fk), .int fp, .ref t0, .int (nI nx), .int (nI lnb)])), (t0, .inr (2, [.ref t1, .int (nI len)])), (t1, .inl (cB, 400, .inl (aB tp))), (f0, .inr (0, [.int (nI gty), .ref f1, .ref f2])), (f1, .inl (cI, 16, .inl (aN gcnt))), (f2, .inl (cB, 208, .inl (aN gmk)))]) [1, 2, 3, 4, 5, 6] (by decide) rfl
    have hFc := va_free (wc := [(r0, .inr (1, [.ref f0, .int (nI fk), .int fp, .ref t0, .int (nI nx), .int (nI lnb)])), (t0, .inr (2, [.ref t1, .int (nI len)])), (t1, .inl (cB, 400, .inl (aB tp))), (f0, .inr (0, [.int (nI gty), .ref f1, .ref f2])), (f1, .inl (cI, 16, .inl (aN gcnt))), (f2, .inl (cB, 208, .inl (aN gmk)))]) hD hS hA [1, 2, 3, 4, 5, 6] rfl
    refine zc_Si (va_runV (As := []) (rest := []) ⟨hx, hb, hml, hown, hw⟩ (c_walk_no l dC dI r0 f0 fk fp t0 nx lnb t1 len cI cB tp f1 f2 gty gcnt gmk k2 p2 (by omega) htp hm hd s.heap.size) (cwV 0 hw (gV w_ml_C_140 w_im_R_walk w_se_R_walk w_in_R w_co_R_walk) rfl rfl rfl (by decide +kernel) ⟨Nat.le_of_ble_eq_true rfl, Nat.le_of_ble_eq_true rfl⟩) (zM_V hG hS hFc hPc hDc hK 0 rfl rfl) rfl rfl hl.1 rfl (lv_room (Nat.le_of_ble_eq_true rfl)) dC_fault_23 ⟨Nat.le_of_ble_eq_true rfl, Nat.le_of_ble_eq_true rfl⟩) hS hFc (fun r_1 u_23 H locs h_23 hP1 hD1 hk1 hS => ?_)
    obtain ⟨n9_23, l9_23, t9_23, c9_23, m9_23⟩ := u_23
    obtain ⟨hP, hD⟩ := va_join (wr := [(x0, .inr (3, [.ref h0, .ref t0, .ref r0]))]) (w1 := [(r0, .inr (1, [.ref f0, .int (nI k2), .int (nI p2), .ref t0, .int (nI n9_23), .int (nI l9_23)])), (t0, .inr (2, [.ref t1, .int (nI len)])), (t1, .inl (cB, 400, .inl (aB tp))), (f0, .inr (0, [.int (nI t9_23), .ref f1, .ref f2])), (f1, .inl (cI, 16, .inl (aN c9_23))), (f2, .inl (cB, 208, .inl (aN m9_23)))]) hP hD [1, 2, 3, 4, 5, 6] [0] rfl rfl (by decide) (by decide) hk1 hFc hP1 hD1
    have hP : va_P (dC, dI) vwCl [(x0, .inr (3, [.ref h0, .ref t0, .ref r0])), (r0, .inr (1, [.ref f0, .int (nI k2), .int (nI p2), .ref t0, .int (nI n9_23), .int (nI l9_23)])), (t0, .inr (2, [.ref t1, .int (nI len)])), (t1, .inl (cB, 400, .inl (aB tp))), (f0, .inr (0, [.int (nI t9_23), .ref f1, .ref f2])), (f1, .inl (cI, 16, .inl (aN c9_23))), (f2, .inl (cB, 208, .inl (aN m9_23)))] H := hP
    have hD : va_D A [(x0, .inr (3, [.ref h0, .ref t0, .ref r0])), (r0, .inr (1, [.ref f0, .int (nI k2), .int (nI p2), .ref t0, .int (nI n9_23), .int (nI l9_23)])), (t0, .inr (2, [.ref t1, .int (nI len)])), (t1, .inl (cB, 400, .inl (aB tp))), (f0, .inr (0, [.int (nI t9_23), .ref f1, .ref f2])), (f1, .inl (cI, 16, .inl (aN c9_23))), (f2, .inl (cB, 208, .inl (aN m9_23)))] := hD
    obtain ⟨rfl, hu_h_23⟩ := h_23
    refine lv_pop hx hb dC_fault_26 rfl ?_
    refine lv_iload_n hx hb dC_fault_27 rfl (lv_at hl 1 rfl) ?_
    refine zi_ne0 (tgt := 41) hx hb (by omega) dC_fault_28 (by decide) (fun c_28 => ?_) (fun c_28 => ?_)
    · refine lv_aload_n hx hb dC_fault_41 rfl (lv_at hl 0 rfl) ?_
      refine va_get (D := (dC, dI)) (ci := 3) (v := .ref r0) (C := RC) (T := TC) (N := 3) hx hb hw inC hown hK hP 0 rfl rfl 2 (by decide) (hw _ w_fl_C_28) (fun _ h9 => h9) rfl dC_fault_42 ?_
      refine va_get (D := (dC, dI)) (ci := 1) (v := .int (nI p2)) (C := RR) (T := TR) (N := 6) hx hb hw inR hown hK hP 1 rfl rfl 2 (by decide) (hw _ w_fl_C_147) (fun _ h9 => h9) rfl dC_fault_45 ?_
      subst hAe
      subst hQ
      exact W.iret (v := nI p2) hx hb hr (fun t ht hW => ⟨⟨nI p2, (n9_23, l9_23, t9_23, c9_23, m9_23), rfl, ⟨(by rw [if_neg c_28]), hu_h_23⟩, by rw [ht]; exact hP.sub [0, 1, 2, 3, 4, 5, 6] rfl, hD.sub [0, 1, 2, 3, 4, 5, 6] (by decide) rfl⟩, hS.F ht⟩) hS.2.2 dC_fault_48
    · refine lv_aload_n hx hb dC_fault_31 rfl (lv_at hl 0 rfl) ?_
      refine va_get (D := (dC, dI)) (ci := 3) (v := .ref r0) (C := RC) (T := TC) (N := 3) hx hb hw inC hown hK hP 0 rfl rfl 2 (by decide) (hw _ w_fl_C_28) (fun _ h9 => h9) rfl dC_fault_32 ?_
      refine va_get (D := (dC, dI)) (ci := 1) (v := .int (nI k2)) (C := RR) (T := TR) (N := 6) hx hb hw inR hown hK hP 1 rfl rfl 1 (by decide) (hw _ w_fl_C_144) (fun _ h9 => h9) rfl dC_fault_35 ?_
      refine lv_goto (tgt := 48) hx hb dC_fault_38 (by decide) ?_
      subst hAe
      subst hQ
      exact W.iret (v := nI k2) hx hb hr (fun t ht hW => ⟨⟨nI k2, (n9_23, l9_23, t9_23, c9_23, m9_23), rfl, ⟨(by rw [if_pos c_28]), hu_h_23⟩, by rw [ht]; exact hP.sub [0, 1, 2, 3, 4, 5, 6] rfl, hD.sub [0, 1, 2, 3, 4, 5, 6] (by decide) rfl⟩, hS.F ht⟩) hS.2.2 dC_fault_48
  · refine lv_iload_n hx hb dC_fault_4 rfl (lv_at hl 1 rfl) ?_
    refine lv_iconst (v := nI 1) hx hb dC_fault_5 (by decide) ?_
    refine zi_eq (tgt := 19) hx hb (by omega) (by omega) dC_fault_6 (by decide) (fun c_6 => ?_) (fun q => False.elim ((q (by omega))))
    refine lv_aload_n hx hb dC_fault_19 rfl (lv_at hl 0 rfl) ?_
    refine va_get (D := (dC, dI)) (ci := 3) (v := .ref r0) (C := RC) (T := TC) (N := 3) hx hb hw inC hown hK hP 0 rfl rfl 2 (by decide) (hw _ w_fl_C_28) (fun _ h9 => h9) rfl dC_fault_20 ?_
    have hPc := hP.sub (ws' := [(r0, .inr (1, [.ref f0, .int (nI fk), .int fp, .ref t0, .int (nI nx), .int (nI lnb)])), (t0, .inr (2, [.ref t1, .int (nI len)])), (t1, .inl (cB, 400, .inl (aB tp))), (f0, .inr (0, [.int (nI gty), .ref f1, .ref f2])), (f1, .inl (cI, 16, .inl (aN gcnt))), (f2, .inl (cB, 208, .inl (aN gmk)))]) [1, 2, 3, 4, 5, 6] rfl
    have hDc := hD.sub (ws' := [(r0, .inr (1, [.ref f0, .int (nI fk), .int fp, .ref t0, .int (nI nx), .int (nI lnb)])), (t0, .inr (2, [.ref t1, .int (nI len)])), (t1, .inl (cB, 400, .inl (aB tp))), (f0, .inr (0, [.int (nI gty), .ref f1, .ref f2])), (f1, .inl (cI, 16, .inl (aN gcnt))), (f2, .inl (cB, 208, .inl (aN gmk)))]) [1, 2, 3, 4, 5, 6] (by decide) rfl
    have hFc := va_free (wc := [(r0, .inr (1, [.ref f0, .int (nI fk), .int fp, .ref t0, .int (nI nx), .int (nI lnb)])), (t0, .inr (2, [.ref t1, .int (nI len)])), (t1, .inl (cB, 400, .inl (aB tp))), (f0, .inr (0, [.int (nI gty), .ref f1, .ref f2])), (f1, .inl (cI, 16, .inl (aN gcnt))), (f2, .inl (cB, 208, .inl (aN gmk)))]) hD hS hA [1, 2, 3, 4, 5, 6] rfl
    refine zc_Si (va_runV (As := []) (rest := []) ⟨hx, hb, hml, hown, hw⟩ (c_walk_no l dC dI r0 f0 fk fp t0 nx lnb t1 len cI cB tp f1 f2 gty gcnt gmk k2 p2 (by omega) htp hm hd s.heap.size) (cwV 0 hw (gV w_ml_C_140 w_im_R_walk w_se_R_walk w_in_R w_co_R_walk) rfl rfl rfl (by decide +kernel) ⟨Nat.le_of_ble_eq_true rfl, Nat.le_of_ble_eq_true rfl⟩) (zM_V hG hS hFc hPc hDc hK 0 rfl rfl) rfl rfl hl.1 rfl (lv_room (Nat.le_of_ble_eq_true rfl)) dC_fault_23 ⟨Nat.le_of_ble_eq_true rfl, Nat.le_of_ble_eq_true rfl⟩) hS hFc (fun r_2 u_23 H locs h_23 hP1 hD1 hk1 hS => ?_)
    obtain ⟨n9_23, l9_23, t9_23, c9_23, m9_23⟩ := u_23
    obtain ⟨hP, hD⟩ := va_join (wr := [(x0, .inr (3, [.ref h0, .ref t0, .ref r0]))]) (w1 := [(r0, .inr (1, [.ref f0, .int (nI k2), .int (nI p2), .ref t0, .int (nI n9_23), .int (nI l9_23)])), (t0, .inr (2, [.ref t1, .int (nI len)])), (t1, .inl (cB, 400, .inl (aB tp))), (f0, .inr (0, [.int (nI t9_23), .ref f1, .ref f2])), (f1, .inl (cI, 16, .inl (aN c9_23))), (f2, .inl (cB, 208, .inl (aN m9_23)))]) hP hD [1, 2, 3, 4, 5, 6] [0] rfl rfl (by decide) (by decide) hk1 hFc hP1 hD1
    have hP : va_P (dC, dI) vwCl [(x0, .inr (3, [.ref h0, .ref t0, .ref r0])), (r0, .inr (1, [.ref f0, .int (nI k2), .int (nI p2), .ref t0, .int (nI n9_23), .int (nI l9_23)])), (t0, .inr (2, [.ref t1, .int (nI len)])), (t1, .inl (cB, 400, .inl (aB tp))), (f0, .inr (0, [.int (nI t9_23), .ref f1, .ref f2])), (f1, .inl (cI, 16, .inl (aN c9_23))), (f2, .inl (cB, 208, .inl (aN m9_23)))] H := hP
    have hD : va_D A [(x0, .inr (3, [.ref h0, .ref t0, .ref r0])), (r0, .inr (1, [.ref f0, .int (nI k2), .int (nI p2), .ref t0, .int (nI n9_23), .int (nI l9_23)])), (t0, .inr (2, [.ref t1, .int (nI len)])), (t1, .inl (cB, 400, .inl (aB tp))), (f0, .inr (0, [.int (nI t9_23), .ref f1, .ref f2])), (f1, .inl (cI, 16, .inl (aN c9_23))), (f2, .inl (cB, 208, .inl (aN m9_23)))] := hD
    obtain ⟨rfl, hu_h_23⟩ := h_23
    refine lv_pop hx hb dC_fault_26 rfl ?_
    refine lv_iload_n hx hb dC_fault_27 rfl (lv_at hl 1 rfl) ?_
    refine zi_ne0 (tgt := 41) hx hb (by omega) dC_fault_28 (by decide) (fun c_28 => ?_) (fun c_28 => ?_)
    · refine lv_aload_n hx hb dC_fault_41 rfl (lv_at hl 0 rfl) ?_
      refine va_get (D := (dC, dI)) (ci := 3) (v := .ref r0) (C := RC) (T := TC) (N := 3) hx hb hw inC hown hK hP 0 rfl rfl 2 (by decide) (hw _ w_fl_C_28) (fun _ h9 => h9) rfl dC_fault_42 ?_
      refine va_get (D := (dC, dI)) (ci := 1) (v := .int (nI p2)) (C := RR) (T := TR) (N := 6) hx hb hw inR hown hK hP 1 rfl rfl 2 (by decide) (hw _ w_fl_C_147) (fun _ h9 => h9) rfl dC_fault_45 ?_
      subst hAe
      subst hQ
      exact W.iret (v := nI p2) hx hb hr (fun t ht hW => ⟨⟨nI p2, (n9_23, l9_23, t9_23, c9_23, m9_23), rfl, ⟨(by rw [if_neg c_28]), hu_h_23⟩, by rw [ht]; exact hP.sub [0, 1, 2, 3, 4, 5, 6] rfl, hD.sub [0, 1, 2, 3, 4, 5, 6] (by decide) rfl⟩, hS.F ht⟩) hS.2.2 dC_fault_48
    · refine lv_aload_n hx hb dC_fault_31 rfl (lv_at hl 0 rfl) ?_
      refine va_get (D := (dC, dI)) (ci := 3) (v := .ref r0) (C := RC) (T := TC) (N := 3) hx hb hw inC hown hK hP 0 rfl rfl 2 (by decide) (hw _ w_fl_C_28) (fun _ h9 => h9) rfl dC_fault_32 ?_
      refine va_get (D := (dC, dI)) (ci := 1) (v := .int (nI k2)) (C := RR) (T := TR) (N := 6) hx hb hw inR hown hK hP 1 rfl rfl 1 (by decide) (hw _ w_fl_C_144) (fun _ h9 => h9) rfl dC_fault_35 ?_
      refine lv_goto (tgt := 48) hx hb dC_fault_38 (by decide) ?_
      subst hAe
      subst hQ
      exact W.iret (v := nI k2) hx hb hr (fun t ht hW => ⟨⟨nI k2, (n9_23, l9_23, t9_23, c9_23, m9_23), rfl, ⟨(by rw [if_pos c_28]), hu_h_23⟩, by rw [ht]; exact hP.sub [0, 1, 2, 3, 4, 5, 6] rfl, hD.sub [0, 1, 2, 3, 4, 5, 6] (by decide) rfl⟩, hS.F ht⟩) hS.2.2 dC_fault_48
def rm_c_read_ok : Room := ({ frames := 6, cells := 0, slots := 0, locals := 136 } : Room)
set_option maxHeartbeats 4000000 in
set_option maxRecDepth 100000 in
theorem c_read_ok (l : Launch) (dC : Nat → ClassId) (dI : Nat → Nat → Nat) (x0 : Nat) (h0 : Nat) (h1 : Nat) (h2 : Nat) (cI : ClassId) (cB : ClassId) (ty : Nat) (cnt : Nat → Nat) (mk : Nat → Nat) (t0 : Nat) (t1 : Nat) (len : Nat) (tp : Nat → Nat) (r0 : Nat) (fk : Nat) (fp : Int32) (nx : Nat) (lnb : Nat) (f0 : Nat) (f1 : Nat) (f2 : Nat) (gty : Nat) (gcnt : Nat → Nat) (gmk : Nat → Nat) (hln : len ≤ 400) (htp : ∀ j, tp j < 256) (hm : ∀ j, gmk j < 128) (hd : pF tp len = none) (sz : Nat) : Met l yC_read wsC_read rm_c_read_ok (zM (dC, dI) [(cI, .int), (cB, .byte)] [.ref x0] [(x0, .inr (3, [.ref h0, .ref t0, .ref r0])), (h0, .inr (0, [.int (nI ty), .ref h1, .ref h2])), (h1, .inl (cI, 16, .inl (aN cnt))), (h2, .inl (cB, 208, .inl (aN mk))), (r0, .inr (1, [.ref f0, .int (nI fk), .int fp, .ref t0, .int (nI nx), .int (nI lnb)])), (t0, .inr (2, [.ref t1, .int (nI len)])), (t1, .inl (cB, 400, .inl (aB tp))), (f0, .inr (0, [.int (nI gty), .ref f1, .ref f2])), (f1, .inl (cI, 16, .inl (aN gcnt))), (f2, .inl (cB, 208, .inl (aN gmk)))] sz) (zSi (dC, dI) [(x0, .inr (3, [.ref h0, .ref t0, .ref r0])), (h0, .inr (0, [.int (nI ty), .ref h1, .ref h2])), (h1, .inl (cI, 16, .inl (aN cnt))), (h2, .inl (cB, 208, .inl (aN mk))), (r0, .inr (1, [.ref f0, .int (nI fk), .int fp, .ref t0, .int (nI nx), .int (nI lnb)])), (t0, .inr (2, [.ref t1, .int (nI len)])), (t1, .inl (cB, 400, .inl (aB tp))), (f0, .inr (0, [.int (nI gty), .ref f1, .ref f2])), (f1, .inl (cI, 16, .inl (aN gcnt))), (f2, .inl (cB, 208, .inl (aN gmk)))] sz (fun r (u : Nat × Nat) => r = nI 1) (fun u => [(x0, .inr (3, [.ref h0, .ref t0, .ref r0])), (h0, .inr (0, [.int (nI (nmA tp 0 4 4 0 0)), .ref h1, .ref h2])), (h1, .inl (cI, 16, .inl (aN (cp (wkC tp (wid tp 2) 16 0 (2 + wid tp 2) (zc gcnt 16)) cnt 16)))), (h2, .inl (cB, 208, .inl (aN (cp (wkM tp (wid tp 2) 16 0 (2 + wid tp 2) gmk) mk 208)))), (r0, .inr (1, [.ref f0, .int (nI 0), .int (-1), .ref t0, .int (nI u.1), .int (nI u.2)])), (t0, .inr (2, [.ref t1, .int (nI len)])), (t1, .inl (cB, 400, .inl (aB tp))), (f0, .inr (0, [.int (nI (nmA tp 0 4 4 0 0)), .ref f1, .ref f2])), (f1, .inl (cI, 16, .inl (aN (wkC tp (wid tp 2) 16 0 (2 + wid tp 2) (zc gcnt 16))))), (f2, .inl (cB, 208, .inl (aN (wkM tp (wid tp 2) 16 0 (2 + wid tp 2) gmk))))])) 0 0 (va_A [(x0, .inr (3, [.ref h0, .ref t0, .ref r0])), (h0, .inr (0, [.int (nI ty), .ref h1, .ref h2])), (h1, .inl (cI, 16, .inl (aN cnt))), (h2, .inl (cB, 208, .inl (aN mk))), (r0, .inr (1, [.ref f0, .int (nI fk), .int fp, .ref t0, .int (nI nx), .int (nI lnb)])), (t0, .inr (2, [.ref t1, .int (nI len)])), (t1, .inl (cB, 400, .inl (aB tp))), (f0, .inr (0, [.int (nI gty), .ref f1, .ref f2])), (f1, .inl (cI, 16, .inl (aN gcnt))), (f2, .inl (cB, 208, .inl (aN gmk)))] sz) := by
  refine Met.ofW (cc := cC_read) (maxL := 1) (ret := (some .boolean)) (by decide) rfl ?_
  intro p e s m args below meth c s₁ Bd hml hv
  obtain ⟨rfl, hsz, hG, hP, hK, hD0⟩ := hv
  subst hsz
  have hx := Bd.exec
  have hb := Bd.bytes
  have hr := Bd.returns
  have hts := atoms_spec (ws := wsC_read) Bd.pre
  have hw : ∀ w ∈ BIG, w.before _ s = true := fun w h => hts w (List.mem_cons_of_mem _ h)
  have hown : s.vm.findClass RC = some m.cls := findClass_of_methodNamed Bd.named
  have hlocks := Bd.notSynchronized
  have hD := hD0.self (sz := s.heap.size)
  obtain ⟨A, hAe⟩ : ∃ A, A = va_A [(x0, .inr (3, [.ref h0, .ref t0, .ref r0])), (h0, .inr (0, [.int (nI ty), .ref h1, .ref h2])), (h1, .inl (cI, 16, .inl (aN cnt))), (h2, .inl (cB, 208, .inl (aN mk))), (r0, .inr (1, [.ref f0, .int (nI fk), .int fp, .ref t0, .int (nI nx), .int (nI lnb)])), (t0, .inr (2, [.ref t1, .int (nI len)])), (t1, .inl (cB, 400, .inl (aB tp))), (f0, .inr (0, [.int (nI gty), .ref f1, .ref f2])), (f1, .inl (cI, 16, .inl (aN gcnt))), (f2, .inl (cB, 208, .inl (aN gmk)))] s.heap.size := ⟨_, rfl⟩
  have hA : ∀ q : Nat, s.heap.size ≤ q → A q := fun q h => by rw [hAe]; exact Or.inr h
  rw [← hAe] at hG hD
  have hS : va_S A s.heap s.heap [] := va_S.rf
  have hl := lv_entry ([.ref x0]) (n := 1) (Nat.le_of_ble_eq_true rfl)
  rw [lg_entry_eq]
  generalize (lg_sl ([.ref x0]) ++ List.replicate (1 - (lg_sl ([.ref x0])).length) Slot.unset).toArray = ls at hl ⊢
  have hl : lv_has ls 1 [(0, .ref x0)] := hl
  refine zq_name (fun Q hQ => ?_)
  change W p l e rm_c_read_ok s m _ below meth c _ _ _ _ Q _
  refine lv_aload_n hx hb dC_read_0 rfl (lv_at hl 0 rfl) ?_
  refine va_get (D := (dC, dI)) (ci := 3) (v := .ref r0) (C := RC) (T := TC) (N := 3) hx hb hw inC hown hK hP 0 rfl rfl 2 (by decide) (hw _ w_fl_C_28) (fun _ h9 => h9) rfl dC_read_1 ?_
  have hPc := hP.sub (ws' := [(r0, .inr (1, [.ref f0, .int (nI fk), .int fp, .ref t0, .int (nI nx), .int (nI lnb)])), (t0, .inr (2, [.ref t1, .int (nI len)])), (t1, .inl (cB, 400, .inl (aB tp))), (f0, .inr (0, [.int (nI gty), .ref f1, .ref f2])), (f1, .inl (cI, 16, .inl (aN gcnt))), (f2, .inl (cB, 208, .inl (aN gmk)))]) [4, 5, 6, 7, 8, 9] rfl
  have hDc := hD.sub (ws' := [(r0, .inr (1, [.ref f0, .int (nI fk), .int fp, .ref t0, .int (nI nx), .int (nI lnb)])), (t0, .inr (2, [.ref t1, .int (nI len)])), (t1, .inl (cB, 400, .inl (aB tp))), (f0, .inr (0, [.int (nI gty), .ref f1, .ref f2])), (f1, .inl (cI, 16, .inl (aN gcnt))), (f2, .inl (cB, 208, .inl (aN gmk)))]) [4, 5, 6, 7, 8, 9] (by decide) rfl
  have hFc := va_free (wc := [(r0, .inr (1, [.ref f0, .int (nI fk), .int fp, .ref t0, .int (nI nx), .int (nI lnb)])), (t0, .inr (2, [.ref t1, .int (nI len)])), (t1, .inl (cB, 400, .inl (aB tp))), (f0, .inr (0, [.int (nI gty), .ref f1, .ref f2])), (f1, .inl (cI, 16, .inl (aN gcnt))), (f2, .inl (cB, 208, .inl (aN gmk)))]) hD hS hA [4, 5, 6, 7, 8, 9] rfl
  refine zc_Si (va_runV (As := []) (rest := []) ⟨hx, hb, hml, hown, hw⟩ (c_walk_ok l dC dI r0 f0 fk fp t0 nx lnb t1 len cI cB tp f1 f2 gty gcnt gmk (by omega) htp hm hd s.heap.size) (cwV 0 hw (gV w_ml_C_140 w_im_R_walk w_se_R_walk w_in_R w_co_R_walk) rfl rfl rfl (by decide +kernel) ⟨Nat.le_of_ble_eq_true rfl, Nat.le_of_ble_eq_true rfl⟩) (zM_V hG hS hFc hPc hDc hK 0 rfl rfl) rfl rfl hl.1 rfl (lv_room (Nat.le_of_ble_eq_true rfl)) dC_read_4 ⟨Nat.le_of_ble_eq_true rfl, Nat.le_of_ble_eq_true rfl⟩) hS hFc (fun r_1 u_4 H locs h_4 hP1 hD1 hk1 hS => ?_)
  obtain ⟨n9_4, l9_4⟩ := u_4
  obtain ⟨hP, hD⟩ := va_join (wr := [(x0, .inr (3, [.ref h0, .ref t0, .ref r0])), (h0, .inr (0, [.int (nI ty), .ref h1, .ref h2])), (h1, .inl (cI, 16, .inl (aN cnt))), (h2, .inl (cB, 208, .inl (aN mk)))]) (w1 := [(r0, .inr (1, [.ref f0, .int (nI 0), .int (-1), .ref t0, .int (nI n9_4), .int (nI l9_4)])), (t0, .inr (2, [.ref t1, .int (nI len)])), (t1, .inl (cB, 400, .inl (aB tp))), (f0, .inr (0, [.int (nI (nmA tp 0 4 4 0 0)), .ref f1, .ref f2])), (f1, .inl (cI, 16, .inl (aN (wkC tp (wid tp 2) 16 0 (2 + wid tp 2) (zc gcnt 16))))), (f2, .inl (cB, 208, .inl (aN (wkM tp (wid tp 2) 16 0 (2 + wid tp 2) gmk))))]) hP hD [4, 5, 6, 7, 8, 9] [0, 1, 2, 3] rfl rfl (by decide) (by decide) hk1 hFc hP1 hD1
  have hP : va_P (dC, dI) vwCl [(x0, .inr (3, [.ref h0, .ref t0, .ref r0])), (h0, .inr (0, [.int (nI ty), .ref h1, .ref h2])), (h1, .inl (cI, 16, .inl (aN cnt))), (h2, .inl (cB, 208, .inl (aN mk))), (r0, .inr (1, [.ref f0, .int (nI 0), .int (-1), .ref t0, .int (nI n9_4), .int (nI l9_4)])), (t0, .inr (2, [.ref t1, .int (nI len)])), (t1, .inl (cB, 400, .inl (aB tp))), (f0, .inr (0, [.int (nI (nmA tp 0 4 4 0 0)), .ref f1, .ref f2])), (f1, .inl (cI, 16, .inl (aN (wkC tp (wid tp 2) 16 0 (2 + wid tp 2) (zc gcnt 16))))), (f2, .inl (cB, 208, .inl (aN (wkM tp (wid tp 2) 16 0 (2 + wid tp 2) gmk))))] H := hP
  have hD : va_D A [(x0, .inr (3, [.ref h0, .ref t0, .ref r0])), (h0, .inr (0, [.int (nI ty), .ref h1, .ref h2])), (h1, .inl (cI, 16, .inl (aN cnt))), (h2, .inl (cB, 208, .inl (aN mk))), (r0, .inr (1, [.ref f0, .int (nI 0), .int (-1), .ref t0, .int (nI n9_4), .int (nI l9_4)])), (t0, .inr (2, [.ref t1, .int (nI len)])), (t1, .inl (cB, 400, .inl (aB tp))), (f0, .inr (0, [.int (nI (nmA tp 0 4 4 0 0)), .ref f1, .ref f2])), (f1, .inl (cI, 16, .inl (aN (wkC tp (wid tp 2) 16 0 (2 + wid tp 2) (zc gcnt 16))))), (f2, .inl (cB, 208, .inl (aN (wkM tp (wid tp 2) 16 0 (2 + wid tp 2) gmk))))] := hD
  subst h_4
  refine lv_if_ne (tgt := 12) hx hb dC_read_7 (by decide) (fun c_7 => ?_) (fun q => False.elim (absurd q (by decide)))
  refine lv_aload_n hx hb dC_read_12 rfl (lv_at hl 0 rfl) ?_
  refine va_get (D := (dC, dI)) (ci := 3) (v := .ref h0) (C := RC) (T := TC) (N := 3) hx hb hw inC hown hK hP 0 rfl rfl 0 (by decide) (hw _ w_fl_C_10) (fun _ h9 => h9) rfl dC_read_13 ?_
  refine lv_aload_n hx hb dC_read_16 rfl (lv_at hl 0 rfl) ?_
  refine va_get (D := (dC, dI)) (ci := 3) (v := .ref r0) (C := RC) (T := TC) (N := 3) hx hb hw inC hown hK hP 0 rfl rfl 2 (by decide) (hw _ w_fl_C_28) (fun _ h9 => h9) rfl dC_read_17 ?_
  refine va_get (D := (dC, dI)) (ci := 1) (v := .ref f0) (C := RR) (T := TR) (N := 6) hx hb hw inR hown hK hP 4 rfl rfl 0 (by decide) (hw _ w_fl_C_150) (fun _ h9 => h9) rfl dC_read_20 ?_
  have hPc := hP.sub (ws' := [(h0, .inr (0, [.int (nI ty), .ref h1, .ref h2])), (h1, .inl (cI, 16, .inl (aN cnt))), (h2, .inl (cB, 208, .inl (aN mk))), (f0, .inr (0, [.int (nI (nmA tp 0 4 4 0 0)), .ref f1, .ref f2])), (f1, .inl (cI, 16, .inl (aN (wkC tp (wid tp 2) 16 0 (2 + wid tp 2) (zc gcnt 16))))), (f2, .inl (cB, 208, .inl (aN (wkM tp (wid tp 2) 16 0 (2 + wid tp 2) gmk))))]) [1, 2, 3, 7, 8, 9] rfl
  have hDc := hD.sub (ws' := [(h0, .inr (0, [.int (nI ty), .ref h1, .ref h2])), (h1, .inl (cI, 16, .inl (aN cnt))), (h2, .inl (cB, 208, .inl (aN mk))), (f0, .inr (0, [.int (nI (nmA tp 0 4 4 0 0)), .ref f1, .ref f2])), (f1, .inl (cI, 16, .inl (aN (wkC tp (wid tp 2) 16 0 (2 + wid tp 2) (zc gcnt 16))))), (f2, .inl (cB, 208, .inl (aN (wkM tp (wid tp 2) 16 0 (2 + wid tp 2) gmk))))]) [1, 2, 3, 7, 8, 9] (by decide) rfl
  have hFc := va_free (wc := [(h0, .inr (0, [.int (nI ty), .ref h1, .ref h2])), (h1, .inl (cI, 16, .inl (aN cnt))), (h2, .inl (cB, 208, .inl (aN mk))), (f0, .inr (0, [.int (nI (nmA tp 0 4 4 0 0)), .ref f1, .ref f2])), (f1, .inl (cI, 16, .inl (aN (wkC tp (wid tp 2) 16 0 (2 + wid tp 2) (zc gcnt 16))))), (f2, .inl (cB, 208, .inl (aN (wkM tp (wid tp 2) 16 0 (2 + wid tp 2) gmk))))]) hD hS hA [1, 2, 3, 7, 8, 9] rfl
  refine zc_Mv (va_runV (As := [.ref f0]) (rest := []) ⟨hx, hb, hml, hown, hw⟩ (c_D_become l dC dI h0 h1 h2 cI cB ty cnt mk f0 f1 f2 (nmA tp 0 4 4 0 0) (wkC tp (wid tp 2) 16 0 (2 + wid tp 2) (zc gcnt 16)) (wkM tp (wid tp 2) 16 0 (2 + wid tp 2) gmk) (wkM_lt htp (pF_ok hd).2.2.2 hm) H.size) (cwV 1 hw (gV w_ml_C_153 w_im_D_become w_se_D_become w_in_D w_co_D_become) rfl rfl rfl (by decide +kernel) ⟨Nat.le_of_ble_eq_true rfl, Nat.le_of_ble_eq_true rfl⟩) (zM_V hG hS hFc hPc hDc hK 0 rfl rfl) rfl rfl hl.1 rfl (lv_room (Nat.le_of_ble_eq_true rfl)) dC_read_23 ⟨Nat.le_of_ble_eq_true rfl, Nat.le_of_ble_eq_true rfl⟩) hS hFc (fun H locs h_23 hP1 hD1 hk1 hS => ?_)
  obtain ⟨hP, hD⟩ := va_join (wr := [(x0, .inr (3, [.ref h0, .ref t0, .ref r0])), (r0, .inr (1, [.ref f0, .int (nI 0), .int (-1), .ref t0, .int (nI n9_4), .int (nI l9_4)])), (t0, .inr (2, [.ref t1, .int (nI len)])), (t1, .inl (cB, 400, .inl (aB tp)))]) (w1 := [(h0, .inr (0, [.int (nI (nmA tp 0 4 4 0 0)), .ref h1, .ref h2])), (h1, .inl (cI, 16, .inl (aN (cp (wkC tp (wid tp 2) 16 0 (2 + wid tp 2) (zc gcnt 16)) cnt 16)))), (h2, .inl (cB, 208, .inl (aN (cp (wkM tp (wid tp 2) 16 0 (2 + wid tp 2) gmk) mk 208)))), (f0, .inr (0, [.int (nI (nmA tp 0 4 4 0 0)), .ref f1, .ref f2])), (f1, .inl (cI, 16, .inl (aN (wkC tp (wid tp 2) 16 0 (2 + wid tp 2) (zc gcnt 16))))), (f2, .inl (cB, 208, .inl (aN (wkM tp (wid tp 2) 16 0 (2 + wid tp 2) gmk))))]) hP hD [1, 2, 3, 7, 8, 9] [0, 4, 5, 6] rfl rfl (by decide) (by decide) hk1 hFc hP1 hD1
  have hP : va_P (dC, dI) vwCl [(x0, .inr (3, [.ref h0, .ref t0, .ref r0])), (r0, .inr (1, [.ref f0, .int (nI 0), .int (-1), .ref t0, .int (nI n9_4), .int (nI l9_4)])), (t0, .inr (2, [.ref t1, .int (nI len)])), (t1, .inl (cB, 400, .inl (aB tp))), (h0, .inr (0, [.int (nI (nmA tp 0 4 4 0 0)), .ref h1, .ref h2])), (h1, .inl (cI, 16, .inl (aN (cp (wkC tp (wid tp 2) 16 0 (2 + wid tp 2) (zc gcnt 16)) cnt 16)))), (h2, .inl (cB, 208, .inl (aN (cp (wkM tp (wid tp 2) 16 0 (2 + wid tp 2) gmk) mk 208)))), (f0, .inr (0, [.int (nI (nmA tp 0 4 4 0 0)), .ref f1, .ref f2])), (f1, .inl (cI, 16, .inl (aN (wkC tp (wid tp 2) 16 0 (2 + wid tp 2) (zc gcnt 16))))), (f2, .inl (cB, 208, .inl (aN (wkM tp (wid tp 2) 16 0 (2 + wid tp 2) gmk))))] H := hP
  have hD : va_D A [(x0, .inr (3, [.ref h0, .ref t0, .ref r0])), (r0, .inr (1, [.ref f0, .int (nI 0), .int (-1), .ref t0, .int (nI n9_4), .int (nI l9_4)])), (t0, .inr (2, [.ref t1, .int (nI len)])), (t1, .inl (cB, 400, .inl (aB tp))), (h0, .inr (0, [.int (nI (nmA tp 0 4 4 0 0)), .ref h1, .ref h2])), (h1, .inl (cI, 16, .inl (aN (cp (wkC tp (wid tp 2) 16 0 (2 + wid tp 2) (zc gcnt 16)) cnt 16)))), (h2, .inl (cB, 208, .inl (aN (cp (wkM tp (wid tp 2) 16 0 (2 + wid tp 2) gmk) mk 208)))), (f0, .inr (0, [.int (nI (nmA tp 0 4 4 0 0)), .ref f1, .ref f2])), (f1, .inl (cI, 16, .inl (aN (wkC tp (wid tp 2) 16 0 (2 + wid tp 2) (zc gcnt 16))))), (f2, .inl (cB, 208, .inl (aN (wkM tp (wid tp 2) 16 0 (2 + wid tp 2) gmk))))] := hD
  refine lv_iconst (v := nI 1) hx hb dC_read_26 (by decide) ?_
  subst hAe
  subst hQ
  exact W.zret (v := nI 1) hx hb hr (by decide) (fun t ht hW => ⟨⟨nI 1, (n9_4, l9_4), rfl, rfl, by rw [ht]; exact hP.sub [0, 4, 5, 6, 1, 2, 3, 7, 8, 9] rfl, hD.sub [0, 4, 5, 6, 1, 2, 3, 7, 8, 9] (by decide) rfl⟩, hS.F ht⟩) hS.2.2 dC_read_27
def rm_c_read_no : Room := ({ frames := 6, cells := 0, slots := 0, locals := 136 } : Room)
set_option maxHeartbeats 4000000 in
set_option maxRecDepth 100000 in
theorem c_read_no (l : Launch) (dC : Nat → ClassId) (dI : Nat → Nat → Nat) (x0 : Nat) (h0 : Nat) (h1 : Nat) (h2 : Nat) (cI : ClassId) (cB : ClassId) (ty : Nat) (cnt : Nat → Nat) (mk : Nat → Nat) (t0 : Nat) (t1 : Nat) (len : Nat) (tp : Nat → Nat) (r0 : Nat) (fk : Nat) (fp : Int32) (nx : Nat) (lnb : Nat) (f0 : Nat) (f1 : Nat) (f2 : Nat) (gty : Nat) (gcnt : Nat → Nat) (gmk : Nat → Nat) (k2 : Nat) (p2 : Nat) (hln : len ≤ 400) (htp : ∀ j, tp j < 256) (hm : ∀ j, gmk j < 128) (hd : pF tp len = some (k2, p2)) (sz : Nat) : Met l yC_read wsC_read rm_c_read_no (zM (dC, dI) [(cI, .int), (cB, .byte)] [.ref x0] [(x0, .inr (3, [.ref h0, .ref t0, .ref r0])), (h0, .inr (0, [.int (nI ty), .ref h1, .ref h2])), (h1, .inl (cI, 16, .inl (aN cnt))), (h2, .inl (cB, 208, .inl (aN mk))), (r0, .inr (1, [.ref f0, .int (nI fk), .int fp, .ref t0, .int (nI nx), .int (nI lnb)])), (t0, .inr (2, [.ref t1, .int (nI len)])), (t1, .inl (cB, 400, .inl (aB tp))), (f0, .inr (0, [.int (nI gty), .ref f1, .ref f2])), (f1, .inl (cI, 16, .inl (aN gcnt))), (f2, .inl (cB, 208, .inl (aN gmk)))] sz) (zSi (dC, dI) [(x0, .inr (3, [.ref h0, .ref t0, .ref r0])), (h0, .inr (0, [.int (nI ty), .ref h1, .ref h2])), (h1, .inl (cI, 16, .inl (aN cnt))), (h2, .inl (cB, 208, .inl (aN mk))), (r0, .inr (1, [.ref f0, .int (nI fk), .int fp, .ref t0, .int (nI nx), .int (nI lnb)])), (t0, .inr (2, [.ref t1, .int (nI len)])), (t1, .inl (cB, 400, .inl (aB tp))), (f0, .inr (0, [.int (nI gty), .ref f1, .ref f2])), (f1, .inl (cI, 16, .inl (aN gcnt))), (f2, .inl (cB, 208, .inl (aN gmk)))] sz (fun r (u : Nat × Nat × Nat × (Nat → Nat) × (Nat → Nat)) => r = nI 0 ∧ ∀ j, u.2.2.2.2 j < 128) (fun u => [(x0, .inr (3, [.ref h0, .ref t0, .ref r0])), (h0, .inr (0, [.int (nI ty), .ref h1, .ref h2])), (h1, .inl (cI, 16, .inl (aN cnt))), (h2, .inl (cB, 208, .inl (aN mk))), (r0, .inr (1, [.ref f0, .int (nI k2), .int (nI p2), .ref t0, .int (nI u.1), .int (nI u.2.1)])), (t0, .inr (2, [.ref t1, .int (nI len)])), (t1, .inl (cB, 400, .inl (aB tp))), (f0, .inr (0, [.int (nI u.2.2.1), .ref f1, .ref f2])), (f1, .inl (cI, 16, .inl (aN u.2.2.2.1))), (f2, .inl (cB, 208, .inl (aN u.2.2.2.2)))])) 0 0 (va_A [(x0, .inr (3, [.ref h0, .ref t0, .ref r0])), (h0, .inr (0, [.int (nI ty), .ref h1, .ref h2])), (h1, .inl (cI, 16, .inl (aN cnt))), (h2, .inl (cB, 208, .inl (aN mk))), (r0, .inr (1, [.ref f0, .int (nI fk), .int fp, .ref t0, .int (nI nx), .int (nI lnb)])), (t0, .inr (2, [.ref t1, .int (nI len)])), (t1, .inl (cB, 400, .inl (aB tp))), (f0, .inr (0, [.int (nI gty), .ref f1, .ref f2])), (f1, .inl (cI, 16, .inl (aN gcnt))), (f2, .inl (cB, 208, .inl (aN gmk)))] sz) := by
  refine Met.ofW (cc := cC_read) (maxL := 1) (ret := (some .boolean)) (by decide) rfl ?_
  intro p e s m args below meth c s₁ Bd hml hv
  obtain ⟨rfl, hsz, hG, hP, hK, hD0⟩ := hv
  subst hsz
  have hx := Bd.exec
  have hb := Bd.bytes
  have hr := Bd.returns
  have hts := atoms_spec (ws := wsC_read) Bd.pre
  have hw : ∀ w ∈ BIG, w.before _ s = true := fun w h => hts w (List.mem_cons_of_mem _ h)
  have hown : s.vm.findClass RC = some m.cls := findClass_of_methodNamed Bd.named
  have hlocks := Bd.notSynchronized
  have hD := hD0.self (sz := s.heap.size)
  obtain ⟨A, hAe⟩ : ∃ A, A = va_A [(x0, .inr (3, [.ref h0, .ref t0, .ref r0])), (h0, .inr (0, [.int (nI ty), .ref h1, .ref h2])), (h1, .inl (cI, 16, .inl (aN cnt))), (h2, .inl (cB, 208, .inl (aN mk))), (r0, .inr (1, [.ref f0, .int (nI fk), .int fp, .ref t0, .int (nI nx), .int (nI lnb)])), (t0, .inr (2, [.ref t1, .int (nI len)])), (t1, .inl (cB, 400, .inl (aB tp))), (f0, .inr (0, [.int (nI gty), .ref f1, .ref f2])), (f1, .inl (cI, 16, .inl (aN gcnt))), (f2, .inl (cB, 208, .inl (aN gmk)))] s.heap.size := ⟨_, rfl⟩
  have hA : ∀ q : Nat, s.heap.size ≤ q → A q := fun q h => by rw [hAe]; exact Or.inr h
  rw [← hAe] at hG hD
  have hS : va_S A s.heap s.heap [] := va_S.rf
  have hl := lv_entry ([.ref x0]) (n := 1) (Nat.le_of_ble_eq_true rfl)
  rw [lg_entry_eq]
  generalize (lg_sl ([.ref x0]) ++ List.replicate (1 - (lg_sl ([.ref x0])).length) Slot.unset).toArray = ls at hl ⊢
  have hl : lv_has ls 1 [(0, .ref x0)] := hl
  refine zq_name (fun Q hQ => ?_)
  change W p l e rm_c_read_no s m _ below meth c _ _ _ _ Q _
  refine lv_aload_n hx hb dC_read_0 rfl (lv_at hl 0 rfl) ?_
  refine va_get (D := (dC, dI)) (ci := 3) (v := .ref r0) (C := RC) (T := TC) (N := 3) hx hb hw inC hown hK hP 0 rfl rfl 2 (by decide) (hw _ w_fl_C_28) (fun _ h9 => h9) rfl dC_read_1 ?_
  have hPc := hP.sub (ws' := [(r0, .inr (1, [.ref f0, .int (nI fk), .int fp, .ref t0, .int (nI nx), .int (nI lnb)])), (t0, .inr (2, [.ref t1, .int (nI len)])), (t1, .inl (cB, 400, .inl (aB tp))), (f0, .inr (0, [.int (nI gty), .ref f1, .ref f2])), (f1, .inl (cI, 16, .inl (aN gcnt))), (f2, .inl (cB, 208, .inl (aN gmk)))]) [4, 5, 6, 7, 8, 9] rfl
  have hDc := hD.sub (ws' := [(r0, .inr (1, [.ref f0, .int (nI fk), .int fp, .ref t0, .int (nI nx), .int (nI lnb)])), (t0, .inr (2, [.ref t1, .int (nI len)])), (t1, .inl (cB, 400, .inl (aB tp))), (f0, .inr (0, [.int (nI gty), .ref f1, .ref f2])), (f1, .inl (cI, 16, .inl (aN gcnt))), (f2, .inl (cB, 208, .inl (aN gmk)))]) [4, 5, 6, 7, 8, 9] (by decide) rfl
  have hFc := va_free (wc := [(r0, .inr (1, [.ref f0, .int (nI fk), .int fp, .ref t0, .int (nI nx), .int (nI lnb)])), (t0, .inr (2, [.ref t1, .int (nI len)])), (t1, .inl (cB, 400, .inl (aB tp))), (f0, .inr (0, [.int (nI gty), .ref f1, .ref f2])), (f1, .inl (cI, 16, .inl (aN gcnt))), (f2, .inl (cB, 208, .inl (aN gmk)))]) hD hS hA [4, 5, 6, 7, 8, 9] rfl
  refine zc_Si (va_runV (As := []) (rest := []) ⟨hx, hb, hml, hown, hw⟩ (c_walk_no l dC dI r0 f0 fk fp t0 nx lnb t1 len cI cB tp f1 f2 gty gcnt gmk k2 p2 (by omega) htp hm hd s.heap.size) (cwV 0 hw (gV w_ml_C_140 w_im_R_walk w_se_R_walk w_in_R w_co_R_walk) rfl rfl rfl (by decide +kernel) ⟨Nat.le_of_ble_eq_true rfl, Nat.le_of_ble_eq_true rfl⟩) (zM_V hG hS hFc hPc hDc hK 0 rfl rfl) rfl rfl hl.1 rfl (lv_room (Nat.le_of_ble_eq_true rfl)) dC_read_4 ⟨Nat.le_of_ble_eq_true rfl, Nat.le_of_ble_eq_true rfl⟩) hS hFc (fun r_1 u_4 H locs h_4 hP1 hD1 hk1 hS => ?_)
  obtain ⟨n9_4, l9_4, t9_4, c9_4, m9_4⟩ := u_4
  obtain ⟨hP, hD⟩ := va_join (wr := [(x0, .inr (3, [.ref h0, .ref t0, .ref r0])), (h0, .inr (0, [.int (nI ty), .ref h1, .ref h2])), (h1, .inl (cI, 16, .inl (aN cnt))), (h2, .inl (cB, 208, .inl (aN mk)))]) (w1 := [(r0, .inr (1, [.ref f0, .int (nI k2), .int (nI p2), .ref t0, .int (nI n9_4), .int (nI l9_4)])), (t0, .inr (2, [.ref t1, .int (nI len)])), (t1, .inl (cB, 400, .inl (aB tp))), (f0, .inr (0, [.int (nI t9_4), .ref f1, .ref f2])), (f1, .inl (cI, 16, .inl (aN c9_4))), (f2, .inl (cB, 208, .inl (aN m9_4)))]) hP hD [4, 5, 6, 7, 8, 9] [0, 1, 2, 3] rfl rfl (by decide) (by decide) hk1 hFc hP1 hD1
  have hP : va_P (dC, dI) vwCl [(x0, .inr (3, [.ref h0, .ref t0, .ref r0])), (h0, .inr (0, [.int (nI ty), .ref h1, .ref h2])), (h1, .inl (cI, 16, .inl (aN cnt))), (h2, .inl (cB, 208, .inl (aN mk))), (r0, .inr (1, [.ref f0, .int (nI k2), .int (nI p2), .ref t0, .int (nI n9_4), .int (nI l9_4)])), (t0, .inr (2, [.ref t1, .int (nI len)])), (t1, .inl (cB, 400, .inl (aB tp))), (f0, .inr (0, [.int (nI t9_4), .ref f1, .ref f2])), (f1, .inl (cI, 16, .inl (aN c9_4))), (f2, .inl (cB, 208, .inl (aN m9_4)))] H := hP
  have hD : va_D A [(x0, .inr (3, [.ref h0, .ref t0, .ref r0])), (h0, .inr (0, [.int (nI ty), .ref h1, .ref h2])), (h1, .inl (cI, 16, .inl (aN cnt))), (h2, .inl (cB, 208, .inl (aN mk))), (r0, .inr (1, [.ref f0, .int (nI k2), .int (nI p2), .ref t0, .int (nI n9_4), .int (nI l9_4)])), (t0, .inr (2, [.ref t1, .int (nI len)])), (t1, .inl (cB, 400, .inl (aB tp))), (f0, .inr (0, [.int (nI t9_4), .ref f1, .ref f2])), (f1, .inl (cI, 16, .inl (aN c9_4))), (f2, .inl (cB, 208, .inl (aN m9_4)))] := hD
  obtain ⟨rfl, hu_h_4⟩ := h_4
  refine lv_if_ne (tgt := 12) hx hb dC_read_7 (by decide) (fun q => False.elim (absurd q (by decide))) (fun c_7 => ?_)
  refine lv_iconst (v := nI 0) hx hb dC_read_10 (by decide) ?_
  subst hAe
  subst hQ
  exact W.zret (v := nI 0) hx hb hr (by decide) (fun t ht hW => ⟨⟨nI 0, (n9_4, l9_4, t9_4, c9_4, m9_4), rfl, ⟨rfl, hu_h_4⟩, by rw [ht]; exact hP.sub [0, 1, 2, 3, 4, 5, 6, 7, 8, 9] rfl, hD.sub [0, 1, 2, 3, 4, 5, 6, 7, 8, 9] (by decide) rfl⟩, hS.F ht⟩) hS.2.2 dC_read_11
