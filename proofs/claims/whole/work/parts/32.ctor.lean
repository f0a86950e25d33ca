def rm_c_Dinit : Room := ({ frames := 1, cells := 2, slots := 224, locals := 20 } : Room)
set_option maxHeartbeats 4000000 in
set_option maxRecDepth 100000 in
theorem c_Dinit (l : Launch) (dC : Nat → ClassId) (dI : Nat → Nat → Nat) (cI : ClassId) (cB : ClassId) (x0 : Nat) (sz : Nat) : Met l yD_init wsD_init rm_c_Dinit (zM (dC, dI) [(cI, .int), (cB, .byte)] [.ref x0] [(x0, .inr (0, [.int (nI 0), .null, .null]))] sz) (zSv (dC, dI) [(x0, .inr (0, [.int (nI 0), .null, .null]))] sz (fun (u : Nat × Nat) => True) (fun u => [(x0, .inr (0, [.int (nI 800), .ref u.1, .ref u.2])), (u.1, .inl (cI, 16, .inl (aN (fun _ => 0)))), (u.2, .inl (cB, 208, .inl (aN (fun _ => 0))))])) 2 224 (va_A [(x0, .inr (0, [.int (nI 0), .null, .null]))] sz) := by
  refine Met.ofW (cc := cD_init) (maxL := 1) (ret := none) (by decide) rfl ?_
  intro p e s m args below meth c s₁ Bd hml hv
  obtain ⟨rfl, hsz, hG, hP, hK, hD0⟩ := hv
  subst hsz
  have hx := Bd.exec
  have hb := Bd.bytes
  have hr := Bd.returns
  have hts := atoms_spec (ws := wsD_init) Bd.pre
  have hw : ∀ w ∈ BIG, w.before _ s = true := fun w h => hts w (List.mem_cons_of_mem _ h)
  have hown : s.vm.findClass RD = some m.cls := findClass_of_methodNamed Bd.named
  have hlocks := Bd.notSynchronized
  have hin : meth.name = "<init>" := (name_of_methodNamed Bd.named Bd.method).1
  have hD := hD0.self (sz := s.heap.size)
  obtain ⟨A, hAe⟩ : ∃ A, A = va_A [(x0, .inr (0, [.int (nI 0), .null, .null]))] s.heap.size := ⟨_, rfl⟩
  have hA : ∀ q : Nat, s.heap.size ≤ q → A q := fun q h => by rw [hAe]; exact Or.inr h
  rw [← hAe] at hG hD
  have hS : va_S A s.heap s.heap [] := va_S.rf
  have hl := lv_entry ([.ref x0]) (n := 1) (Nat.le_of_ble_eq_true rfl)
  rw [lg_entry_eq]
  generalize (lg_sl ([.ref x0]) ++ List.replicate (1 - (lg_sl ([.ref x0])).length) Slot.unset).toArray = ls at hl ⊢
  have hl : lv_has ls 1 [(0, .ref x0)] := hl
  refine zq_name (fun Q hQ => ?_)
  change W p l e rm_c_Dinit s m _ below meth c _ _ _ _ Q _
  refine lv_aload_n hx hb dD_init_0 rfl (lv_at hl 0 rfl) ?_
  refine W.objInit hx hb hown (hw _ w_ml_D_3) (hw _ w_im_object) (hw _ w_co_object) rfl (by rw [hml]; exact hl.1) rfl dD_init_1 (Nat.le_of_ble_eq_true rfl) (Nat.le_of_ble_eq_true rfl) ?_
  refine W.eq (g2 := F0 m 4 ls []) rfl ?_
  refine lv_aload_n hx hb dD_init_4 rfl (lv_at hl 0 rfl) ?_
  refine lv_sipush (v := nI 800) hx hb dD_init_5 (by decide) ?_
  refine va_put (D := (dC, dI)) (ci := 0) (v := .int (nI 800)) (ty := .int) (C := RD) (T := TD) (N := 3) hx hb hw inD tyD tyD_ok nmD hown hK hP hD hS 0 rfl rfl 0 (by decide) (hw _ w_fl_D_9) (fun _ h9 => h9) rfl (by decide +kernel) rfl rfl (Nat.le_of_ble_eq_true rfl) dD_init_8 (fun H locs hP hD hS => ?_)
  have hP : va_P (dC, dI) vwCl [(x0, .inr (0, [.int (nI 800), .null, .null]))] H := hP
  have hD : va_D A [(x0, .inr (0, [.int (nI 800), .null, .null]))] := hD
  refine lv_aload_n hx hb dD_init_11 rfl (lv_at hl 0 rfl) ?_
  refine lv_bipush (v := nI 16) hx hb dD_init_12 (by decide) ?_
  refine za_new (n := 16) (f9 := aN (fun _ => 0)) hx hb (hw _ w_ac_int) rfl hK hP hD hS hA 0 rfl (aN_0) (by decide) rfl (by decide) (Nat.le_of_ble_eq_true rfl) (Nat.le_of_ble_eq_true rfl) dD_init_14 (fun q14 H hP hD hS => ?_)
  have hP : va_P (dC, dI) vwCl [(x0, .inr (0, [.int (nI 800), .null, .null])), (q14, .inl (cI, 16, .inl (aN (fun _ => 0))))] H := hP
  have hD : va_D A [(x0, .inr (0, [.int (nI 800), .null, .null])), (q14, .inl (cI, 16, .inl (aN (fun _ => 0))))] := hD
  refine va_putF (D := (dC, dI)) (ci := 0) (v := .ref q14) (ty := .array .int) (C := RD) (T := TD) (N := 3) hx hb hw inD tyD tyD_ok nmD hown hK hP hD hS 0 rfl rfl 1 (by decide) (hw _ w_fl_D_15) (fun _ h9 => h9) rfl hin rfl (by decide +kernel) rfl rfl (Nat.le_of_ble_eq_true rfl) dD_init_16 (fun H locs hP hD hS => ?_)
  have hP : va_P (dC, dI) vwCl [(x0, .inr (0, [.int (nI 800), .ref q14, .null])), (q14, .inl (cI, 16, .inl (aN (fun _ => 0))))] H := hP
  have hD : va_D A [(x0, .inr (0, [.int (nI 800), .ref q14, .null])), (q14, .inl (cI, 16, .inl (aN (fun _ => 0))))] := hD
  refine lv_aload_n hx hb dD_init_19 rfl (lv_at hl 0 rfl) ?_
  refine lv_sipush (v := nI 208) hx hb dD_init_20 (by decide) ?_
  refine za_new (n := 208) (f9 := aN (fun _ => 0)) hx hb (hw _ w_ac_byte) rfl hK hP hD hS hA 1 rfl (aN_0) (by decide) rfl (by decide) (Nat.le_of_ble_eq_true rfl) (Nat.le_of_ble_eq_true rfl) dD_init_23 (fun q23 H hP hD hS => ?_)
  have hP : va_P (dC, dI) vwCl [(x0, .inr (0, [.int (nI 800), .ref q14, .null])), (q14, .inl (cI, 16, .inl (aN (fun _ => 0)))), (q23, .inl (cB, 208, .inl (aN (fun _ => 0))))] H := hP
  have hD : va_D A [(x0, .inr (0, [.int (nI 800), .ref q14, .null])), (q14, .inl (cI, 16, .inl (aN (fun _ => 0)))), (q23, .inl (cB, 208, .inl (aN (fun _ => 0))))] := hD
  refine va_putF (D := (dC, dI)) (ci := 0) (v := .ref q23) (ty := .array .byte) (C := RD) (T := TD) (N := 3) hx hb hw inD tyD tyD_ok nmD hown hK hP hD hS 0 rfl rfl 2 (by decide) (hw _ w_fl_D_19) (fun _ h9 => h9) rfl hin rfl (by decide +kernel) rfl rfl (Nat.le_of_ble_eq_true rfl) dD_init_25 (fun H locs hP hD hS => ?_)
  have hP : va_P (dC, dI) vwCl [(x0, .inr (0, [.int (nI 800), .ref q14, .ref q23])), (q14, .inl (cI, 16, .inl (aN (fun _ => 0)))), (q23, .inl (cB, 208, .inl (aN (fun _ => 0))))] H := hP
  have hD : va_D A [(x0, .inr (0, [.int (nI 800), .ref q14, .ref q23])), (q14, .inl (cI, 16, .inl (aN (fun _ => 0)))), (q23, .inl (cB, 208, .inl (aN (fun _ => 0))))] := hD
  subst hAe
  subst hQ
  exact W.vret hx hb hr (fun t ht hW => ⟨⟨(q14, q23), rfl, trivial, by rw [ht]; exact hP.sub [0, 1, 2] rfl, hD.sub [0, 1, 2] (by decide) rfl⟩, hS.F ht⟩) hS.2.2 dD_init_28
def rm_c_Tinit : Room := ({ frames := 1, cells := 1, slots := 400, locals := 20 } : Room)
set_option maxHeartbeats 4000000 in
set_option maxRecDepth 100000 in
theorem c_Tinit (l : Launch) (dC : Nat → ClassId) (dI : Nat → Nat → Nat) (cI : ClassId) (cB : ClassId) (x0 : Nat) (sz : Nat) : Met l yT_init wsT_init rm_c_Tinit (zM (dC, dI) [(cI, .int), (cB, .byte)] [.ref x0] [(x0, .inr (2, [.null, .int (nI 0)]))] sz) (zSv (dC, dI) [(x0, .inr (2, [.null, .int (nI 0)]))] sz (fun (u : Nat) => True) (fun u => [(x0, .inr (2, [.ref u, .int (nI 0)])), (u, .inl (cB, 400, .inl (aB (fun _ => 0))))])) 1 400 (va_A [(x0, .inr (2, [.null, .int (nI 0)]))] sz) := by
  refine Met.ofW (cc := cT_init) (maxL := 1) (ret := none) (by decide) rfl ?_
  intro p e s m args below meth c s₁ Bd hml hv
  obtain ⟨rfl, hsz, hG, hP, hK, hD0⟩ := hv
  subst hsz
  have hx := Bd.exec
  have hb := Bd.bytes
  have hr := Bd.returns
  have hts := atoms_spec (ws := wsT_init) Bd.pre
  have hw : ∀ w ∈ BIG, w.before _ s = true := fun w h => hts w (List.mem_cons_of_mem _ h)
  have hown : s.vm.findClass RT = some m.cls := findClass_of_methodNamed Bd.named
  have hlocks := Bd.notSynchronized
  have hin : meth.name = "<init>" := (name_of_methodNamed Bd.named Bd.method).1
  have hD := hD0.self (sz := s.heap.size)
  obtain ⟨A, hAe⟩ : ∃ A, A = va_A [(x0, .inr (2, [.null, .int (nI 0)]))] s.heap.size := ⟨_, rfl⟩
  have hA : ∀ q : Nat, s.heap.size ≤ q → A q := fun q h => by rw [hAe]; exact Or.inr h
  rw [← hAe] at hG hD
  have hS : va_S A s.heap s.heap [] := va_S.rf
  have hl := lv_entry ([.ref x0]) (n := 1) (Nat.le_of_ble_eq_true rfl)
  rw [lg_entry_eq]
  generalize (lg_sl ([.ref x0]) ++ List.replicate (1 - (lg_sl ([.ref x0])).length) Slot.unset).toArray = ls at hl ⊢
  have hl : lv_has ls 1 [(0, .ref x0)] := hl
  refine zq_name (fun Q hQ => ?_)
  change W p l e rm_c_Tinit s m _ below meth c _ _ _ _ Q _
  refine lv_aload_n hx hb dT_init_0 rfl (lv_at hl 0 rfl) ?_
  refine W.objInit hx hb hown (hw _ w_ml_T_3) (hw _ w_im_object) (hw _ w_co_object) rfl (by rw [hml]; exact hl.1) rfl dT_init_1 (Nat.le_of_ble_eq_true rfl) (Nat.le_of_ble_eq_true rfl) ?_
  refine W.eq (g2 := F0 m 4 ls []) rfl ?_
  refine lv_aload_n hx hb dT_init_4 rfl (lv_at hl 0 rfl) ?_
  refine lv_sipush (v := nI 400) hx hb dT_init_5 (by decide) ?_
  refine za_new (n := 400) (f9 := aB (fun _ => 0)) hx hb (hw _ w_ac_byte) rfl hK hP hD hS hA 1 rfl (aB_0) (by decide) rfl (by decide) (Nat.le_of_ble_eq_true rfl) (Nat.le_of_ble_eq_true rfl) dT_init_8 (fun q8 H hP hD hS => ?_)
  have hP : va_P (dC, dI) vwCl [(x0, .inr (2, [.null, .int (nI 0)])), (q8, .inl (cB, 400, .inl (aB (fun _ => 0))))] H := hP
  have hD : va_D A [(x0, .inr (2, [.null, .int (nI 0)])), (q8, .inl (cB, 400, .inl (aB (fun _ => 0))))] := hD
  refine va_putF (D := (dC, dI)) (ci := 2) (v := .ref q8) (ty := .array .byte) (C := RT) (T := TT) (N := 2) hx hb hw inT tyT tyT_ok nmT hown hK hP hD hS 0 rfl rfl 0 (by decide) (hw _ w_fl_T_9) (fun _ h9 => h9) rfl hin rfl (by decide +kernel) rfl rfl (Nat.le_of_ble_eq_true rfl) dT_init_10 (fun H locs hP hD hS => ?_)
  have hP : va_P (dC, dI) vwCl [(x0, .inr (2, [.ref q8, .int (nI 0)])), (q8, .inl (cB, 400, .inl (aB (fun _ => 0))))] H := hP
  have hD : va_D A [(x0, .inr (2, [.ref q8, .int (nI 0)])), (q8, .inl (cB, 400, .inl (aB (fun _ => 0))))] := hD
  refine lv_aload_n hx hb dT_init_13 rfl (lv_at hl 0 rfl) ?_
  refine lv_iconst (v := nI 0) hx hb dT_init_14 (by decide) ?_
  refine va_put (D := (dC, dI)) (ci := 2) (v := .int (nI 0)) (ty := .int) (C := RT) (T := TT) (N := 2) hx hb hw inT tyT tyT_ok nmT hown hK hP hD hS 0 rfl rfl 1 (by decide) (hw _ w_fl_T_15) (fun _ h9 => h9) rfl (by decide +kernel) rfl rfl (Nat.le_of_ble_eq_true rfl) dT_init_15 (fun H locs hP hD hS => ?_)
  have hP : va_P (dC, dI) vwCl [(x0, .inr (2, [.ref q8, .int (nI 0)])), (q8, .inl (cB, 400, .inl (aB (fun _ => 0))))] H := hP
  have hD : va_D A [(x0, .inr (2, [.ref q8, .int (nI 0)])), (q8, .inl (cB, 400, .inl (aB (fun _ => 0))))] := hD
  subst hAe
  subst hQ
  exact W.vret hx hb hr (fun t ht hW => ⟨⟨q8, rfl, trivial, by rw [ht]; exact hP.sub [0, 1] rfl, hD.sub [0, 1] (by decide) rfl⟩, hS.F ht⟩) hS.2.2 dT_init_18
def rm_c_Rinit : Room := ({ frames := 2, cells := 3, slots := 227, locals := 40 } : Room)
set_option maxHeartbeats 4000000 in
set_option maxRecDepth 100000 in
theorem c_Rinit (l : Launch) (dC : Nat → ClassId) (dI : Nat → Nat → Nat) (cI : ClassId) (cB : ClassId) (x0 : Nat) (t0 : Nat) (sz : Nat) : Met l yR_init wsR_init rm_c_Rinit (zM (dC, dI) [(cI, .int), (cB, .byte)] [.ref x0, .ref t0] [(x0, .inr (1, [.null, .int (nI 0), .int (nI 0), .null, .int (nI 0), .int (nI 0)]))] sz) (zSv (dC, dI) [(x0, .inr (1, [.null, .int (nI 0), .int (nI 0), .null, .int (nI 0), .int (nI 0)]))] sz (fun (u : Nat × Nat × Nat) => True) (fun u => [(x0, .inr (1, [.ref u.1, .int (nI 0), .int (-1), .ref t0, .int (nI 0), .int (nI 0)])), (u.1, .inr (0, [.int (nI 800), .ref u.2.1, .ref u.2.2])), (u.2.1, .inl (cI, 16, .inl (aN (fun _ => 0)))), (u.2.2, .inl (cB, 208, .inl (aN (fun _ => 0))))])) 3 227 (va_A [(x0, .inr (1, [.null, .int (nI 0), .int (nI 0), .null, .int (nI 0), .int (nI 0)]))] sz) := by
  refine Met.ofW (cc := cR_init) (maxL := 2) (ret := none) (by decide) rfl ?_
  intro p e s m args below meth c s₁ Bd hml hv
  obtain ⟨rfl, hsz, hG, hP, hK, hD0⟩ := hv
  subst hsz
  have hx := Bd.exec
  have hb := Bd.bytes
  have hr := Bd.returns
  have hts := atoms_spec (ws := wsR_init) Bd.pre
  have hw : ∀ w ∈ BIG, w.before _ s = true := fun w h => hts w (List.mem_cons_of_mem _ h)
  have hown : s.vm.findClass RR = some m.cls := findClass_of_methodNamed Bd.named
  have hlocks := Bd.notSynchronized
  have hin : meth.name = "<init>" := (name_of_methodNamed Bd.named Bd.method).1
  have hD := hD0.self (sz := s.heap.size)
  obtain ⟨A, hAe⟩ : ∃ A, A = va_A [(x0, .inr (1, [.null, .int (nI 0), .int (nI 0), .null, .int (nI 0), .int (nI 0)]))] s.heap.size := ⟨_, rfl⟩
  have hA : ∀ q : Nat, s.heap.size ≤ q → A q := fun q h => by rw [hAe]; exact Or.inr h
  rw [← hAe] at hG hD
  have hS : va_S A s.heap s.heap [] := va_S.rf
  have hl := lv_entry ([.ref x0, .ref t0]) (n := 2) (Nat.le_of_ble_eq_true rfl)
  rw [lg_entry_eq]
  generalize (lg_sl ([.ref x0, .ref t0]) ++ List.replicate (2 - (lg_sl ([.ref x0, .ref t0])).length) Slot.unset).toArray = ls at hl ⊢
  have hl : lv_has ls 2 [(0, .ref x0), (1, .ref t0)] := hl
  refine zq_name (fun Q hQ => ?_)
  change W p l e rm_c_Rinit s m _ below meth c _ _ _ _ Q _
  refine lv_aload_n hx hb dR_init_0 rfl (lv_at hl 0 rfl) ?_
  refine W.objInit hx hb hown (hw _ w_ml_R_3) (hw _ w_im_object) (hw _ w_co_object) rfl (by rw [hml]; exact hl.1) rfl dR_init_1 (Nat.le_of_ble_eq_true rfl) (Nat.le_of_ble_eq_true rfl) ?_
  refine W.eq (g2 := F0 m 4 ls []) rfl ?_
  refine lv_aload_n hx hb dR_init_4 rfl (lv_at hl 0 rfl) ?_
  refine va_new (ci := 0) (fs := [.int (nI 0), .null, .null]) (C := RD) (T := TD) (N := 3) hx hb hw inD tyD tyD_ok hown (hw _ w_cl_R_9) (hw _ w_is_D) (hw _ w_in_D) hK hP hD hS hA rfl (fun j hj => by rcases (show j = 0 ∨ j = 1 ∨ j = 2 by omega) with rfl | rfl | rfl <;> rfl) (Nat.le_of_ble_eq_true rfl) (Nat.le_of_ble_eq_true rfl) dR_init_5 (fun q5 H hP hD hS => ?_)
  have hP : va_P (dC, dI) vwCl [(x0, .inr (1, [.null, .int (nI 0), .int (nI 0), .null, .int (nI 0), .int (nI 0)])), (q5, .inr (0, [.int (nI 0), .null, .null]))] H := hP
  have hD : va_D A [(x0, .inr (1, [.null, .int (nI 0), .int (nI 0), .null, .int (nI 0), .int (nI 0)])), (q5, .inr (0, [.int (nI 0), .null, .null]))] := hD
  refine lv_dup hx hb dR_init_8 rfl ?_
  have hPc := hP.sub (ws' := [(q5, .inr (0, [.int (nI 0), .null, .null]))]) [1] rfl
  have hDc := hD.sub (ws' := [(q5, .inr (0, [.int (nI 0), .null, .null]))]) [1] (by decide) rfl
  have hFc := va_free (wc := [(q5, .inr (0, [.int (nI 0), .null, .null]))]) hD hS hA [1] rfl
  refine zc_Sv (va_runIN (As := []) (rest := [.ref q5, .ref x0]) ⟨hx, hb, hml, hown, hw⟩ (c_Dinit l dC dI cI cB q5 H.size) ⟨va_cnB 0 hw (gC w_co_D_init) rfl rfl rfl (hG.nm (RR, 11, yD_init) (List.mem_of_getElem? (i := 2) rfl)) (hw _ w_in_D) (by decide +kernel) ⟨Nat.le_of_ble_eq_true rfl, Nat.le_of_ble_eq_true rfl⟩, rfl, hw _ w_im_D_init⟩ (zM_S hG hS hFc hPc hDc hK) rfl rfl hl.1 rfl (lv_room (Nat.le_of_ble_eq_true rfl)) dR_init_9 ⟨Nat.le_of_ble_eq_true rfl, Nat.le_of_ble_eq_true rfl⟩) hS hFc (fun u_9 H locs h_9 hP1 hD1 hk1 hS => ?_)
  obtain ⟨b1_9, b2_9⟩ := u_9
  obtain ⟨hP, hD⟩ := va_join (wr := [(x0, .inr (1, [.null, .int (nI 0), .int (nI 0), .null, .int (nI 0), .int (nI 0)]))]) (w1 := [(q5, .inr (0, [.int (nI 800), .ref b1_9, .ref b2_9])), (b1_9, .inl (cI, 16, .inl (aN (fun _ => 0)))), (b2_9, .inl (cB, 208, .inl (aN (fun _ => 0))))]) hP hD [1] [0] rfl rfl (by decide) (by decide) hk1 hFc hP1 hD1
  have hP : va_P (dC, dI) vwCl [(x0, .inr (1, [.null, .int (nI 0), .int (nI 0), .null, .int (nI 0), .int (nI 0)])), (q5, .inr (0, [.int (nI 800), .ref b1_9, .ref b2_9])), (b1_9, .inl (cI, 16, .inl (aN (fun _ => 0)))), (b2_9, .inl (cB, 208, .inl (aN (fun _ => 0))))] H := hP
  have hD : va_D A [(x0, .inr (1, [.null, .int (nI 0), .int (nI 0), .null, .int (nI 0), .int (nI 0)])), (q5, .inr (0, [.int (nI 800), .ref b1_9, .ref b2_9])), (b1_9, .inl (cI, 16, .inl (aN (fun _ => 0)))), (b2_9, .inl (cB, 208, .inl (aN (fun _ => 0))))] := hD
  refine va_putF (D := (dC, dI)) (ci := 1) (v := .ref q5) (ty := .object "CardMessages$Draft") (C := RR) (T := TR) (N := 6) hx hb hw inR tyR tyR_ok nmR hown hK hP hD hS 0 rfl rfl 0 (by decide) (hw _ w_fl_R_12) (fun _ h9 => h9) rfl hin rfl (by decide +kernel) rfl rfl (Nat.le_of_ble_eq_true rfl) dR_init_12 (fun H locs hP hD hS => ?_)
  have hP : va_P (dC, dI) vwCl [(x0, .inr (1, [.ref q5, .int (nI 0), .int (nI 0), .null, .int (nI 0), .int (nI 0)])), (q5, .inr (0, [.int (nI 800), .ref b1_9, .ref b2_9])), (b1_9, .inl (cI, 16, .inl (aN (fun _ => 0)))), (b2_9, .inl (cB, 208, .inl (aN (fun _ => 0))))] H := hP
  have hD : va_D A [(x0, .inr (1, [.ref q5, .int (nI 0), .int (nI 0), .null, .int (nI 0), .int (nI 0)])), (q5, .inr (0, [.int (nI 800), .ref b1_9, .ref b2_9])), (b1_9, .inl (cI, 16, .inl (aN (fun _ => 0)))), (b2_9, .inl (cB, 208, .inl (aN (fun _ => 0))))] := hD
  refine lv_aload_n hx hb dR_init_15 rfl (lv_at hl 0 rfl) ?_
  refine lv_iconst (v := nI 0) hx hb dR_init_16 (by decide) ?_
  refine va_put (D := (dC, dI)) (ci := 1) (v := .int (nI 0)) (ty := .int) (C := RR) (T := TR) (N := 6) hx hb hw inR tyR tyR_ok nmR hown hK hP hD hS 0 rfl rfl 1 (by decide) (hw _ w_fl_R_18) (fun _ h9 => h9) rfl (by decide +kernel) rfl rfl (Nat.le_of_ble_eq_true rfl) dR_init_17 (fun H locs hP hD hS => ?_)
  have hP : va_P (dC, dI) vwCl [(x0, .inr (1, [.ref q5, .int (nI 0), .int (nI 0), .null, .int (nI 0), .int (nI 0)])), (q5, .inr (0, [.int (nI 800), .ref b1_9, .ref b2_9])), (b1_9, .inl (cI, 16, .inl (aN (fun _ => 0)))), (b2_9, .inl (cB, 208, .inl (aN (fun _ => 0))))] H := hP
  have hD : va_D A [(x0, .inr (1, [.ref q5, .int (nI 0), .int (nI 0), .null, .int (nI 0), .int (nI 0)])), (q5, .inr (0, [.int (nI 800), .ref b1_9, .ref b2_9])), (b1_9, .inl (cI, 16, .inl (aN (fun _ => 0)))), (b2_9, .inl (cB, 208, .inl (aN (fun _ => 0))))] := hD
  refine lv_aload_n hx hb dR_init_20 rfl (lv_at hl 0 rfl) ?_
  refine lv_iconst (v := (-1)) hx hb dR_init_21 (by decide) ?_
  refine va_put (D := (dC, dI)) (ci := 1) (v := .int (-1)) (ty := .int) (C := RR) (T := TR) (N := 6) hx hb hw inR tyR tyR_ok nmR hown hK hP hD hS 0 rfl rfl 2 (by decide) (hw _ w_fl_R_22) (fun _ h9 => h9) rfl (by decide +kernel) rfl rfl (Nat.le_of_ble_eq_true rfl) dR_init_22 (fun H locs hP hD hS => ?_)
  have hP : va_P (dC, dI) vwCl [(x0, .inr (1, [.ref q5, .int (nI 0), .int (-1), .null, .int (nI 0), .int (nI 0)])), (q5, .inr (0, [.int (nI 800), .ref b1_9, .ref b2_9])), (b1_9, .inl (cI, 16, .inl (aN (fun _ => 0)))), (b2_9, .inl (cB, 208, .inl (aN (fun _ => 0))))] H := hP
  have hD : va_D A [(x0, .inr (1, [.ref q5, .int (nI 0), .int (-1), .null, .int (nI 0), .int (nI 0)])), (q5, .inr (0, [.int (nI 800), .ref b1_9, .ref b2_9])), (b1_9, .inl (cI, 16, .inl (aN (fun _ => 0)))), (b2_9, .inl (cB, 208, .inl (aN (fun _ => 0))))] := hD
  refine lv_aload_n hx hb dR_init_25 rfl (lv_at hl 0 rfl) ?_
  refine lv_iconst (v := nI 0) hx hb dR_init_26 (by decide) ?_
  refine va_put (D := (dC, dI)) (ci := 1) (v := .int (nI 0)) (ty := .int) (C := RR) (T := TR) (N := 6) hx hb hw inR tyR tyR_ok nmR hown hK hP hD hS 0 rfl rfl 4 (by decide) (hw _ w_fl_R_25) (fun _ h9 => h9) rfl (by decide +kernel) rfl rfl (Nat.le_of_ble_eq_true rfl) dR_init_27 (fun H locs hP hD hS => ?_)
  have hP : va_P (dC, dI) vwCl [(x0, .inr (1, [.ref q5, .int (nI 0), .int (-1), .null, .int (nI 0), .int (nI 0)])), (q5, .inr (0, [.int (nI 800), .ref b1_9, .ref b2_9])), (b1_9, .inl (cI, 16, .inl (aN (fun _ => 0)))), (b2_9, .inl (cB, 208, .inl (aN (fun _ => 0))))] H := hP
  have hD : va_D A [(x0, .inr (1, [.ref q5, .int (nI 0), .int (-1), .null, .int (nI 0), .int (nI 0)])), (q5, .inr (0, [.int (nI 800), .ref b1_9, .ref b2_9])), (b1_9, .inl (cI, 16, .inl (aN (fun _ => 0)))), (b2_9, .inl (cB, 208, .inl (aN (fun _ => 0))))] := hD
  refine lv_aload_n hx hb dR_init_30 rfl (lv_at hl 0 rfl) ?_
  refine lv_iconst (v := nI 0) hx hb dR_init_31 (by decide) ?_
  refine va_put (D := (dC, dI)) (ci := 1) (v := .int (nI 0)) (ty := .int) (C := RR) (T := TR) (N := 6) hx hb hw inR tyR tyR_ok nmR hown hK hP hD hS 0 rfl rfl 5 (by decide) (hw _ w_fl_R_28) (fun _ h9 => h9) rfl (by decide +kernel) rfl rfl (Nat.le_of_ble_eq_true rfl) dR_init_32 (fun H locs hP hD hS => ?_)
  have hP : va_P (dC, dI) vwCl [(x0, .inr (1, [.ref q5, .int (nI 0), .int (-1), .null, .int (nI 0), .int (nI 0)])), (q5, .inr (0, [.int (nI 800), .ref b1_9, .ref b2_9])), (b1_9, .inl (cI, 16, .inl (aN (fun _ => 0)))), (b2_9, .inl (cB, 208, .inl (aN (fun _ => 0))))] H := hP
  have hD : va_D A [(x0, .inr (1, [.ref q5, .int (nI 0), .int (-1), .null, .int (nI 0), .int (nI 0)])), (q5, .inr (0, [.int (nI 800), .ref b1_9, .ref b2_9])), (b1_9, .inl (cI, 16, .inl (aN (fun _ => 0)))), (b2_9, .inl (cB, 208, .inl (aN (fun _ => 0))))] := hD
  refine lv_aload_n hx hb dR_init_35 rfl (lv_at hl 0 rfl) ?_
  refine lv_aload_n hx hb dR_init_36 rfl (lv_at hl 1 rfl) ?_
  refine va_putF (D := (dC, dI)) (ci := 1) (v := .ref t0) (ty := .object "CardMessages$Tape") (C := RR) (T := TR) (N := 6) hx hb hw inR tyR tyR_ok nmR hown hK hP hD hS 0 rfl rfl 3 (by decide) (hw _ w_fl_R_31) (fun _ h9 => h9) rfl hin rfl (by decide +kernel) rfl rfl (Nat.le_of_ble_eq_true rfl) dR_init_37 (fun H locs hP hD hS => ?_)
  have hP : va_P (dC, dI) vwCl [(x0, .inr (1, [.ref q5, .int (nI 0), .int (-1), .ref t0, .int (nI 0), .int (nI 0)])), (q5, .inr (0, [.int (nI 800), .ref b1_9, .ref b2_9])), (b1_9, .inl (cI, 16, .inl (aN (fun _ => 0)))), (b2_9, .inl (cB, 208, .inl (aN (fun _ => 0))))] H := hP
  have hD : va_D A [(x0, .inr (1, [.ref q5, .int (nI 0), .int (-1), .ref t0, .int (nI 0), .int (nI 0)])), (q5, .inr (0, [.int (nI 800), .ref b1_9, .ref b2_9])), (b1_9, .inl (cI, 16, .inl (aN (fun _ => 0)))), (b2_9, .inl (cB, 208, .inl (aN (fun _ => 0))))] := hD
  subst hAe
  subst hQ
  exact W.vret hx hb hr (fun t ht hW => ⟨⟨(q5, b1_9, b2_9), rfl, trivial, by rw [ht]; exact hP.sub [0, 1, 2, 3] rfl, hD.sub [0, 1, 2, 3] (by decide) rfl⟩, hS.F ht⟩) hS.2.2 dR_init_40
def rm_c_Cinit : Room := ({ frames := 3, cells := 9, slots := 862, locals := 61 } : Room)
set_option maxHeartbeats 4000000 in
set_option maxRecDepth 100000 in
theorem c_Cinit (l : Launch) (dC : Nat → ClassId) (dI : Nat → Nat → Nat) (cI : ClassId) (cB : ClassId) (x0 : Nat) (sz : Nat) : Met l yC_init wsC_init rm_c_Cinit (zM (dC, dI) [(cI, .int), (cB, .byte)] [.ref x0] [(x0, .inr (3, [.null, .null, .null]))] sz) (zSv (dC, dI) [(x0, .inr (3, [.null, .null, .null]))] sz (fun (u : Nat × Nat × Nat × Nat × Nat × Nat × Nat × Nat × Nat) => True) (fun u => [(x0, .inr (3, [.ref u.1, .ref u.2.2.2.1, .ref u.2.2.2.2.2.1])), (u.1, .inr (0, [.int (nI 800), .ref u.2.1, .ref u.2.2.1])), (u.2.1, .inl (cI, 16, .inl (aN (fun _ => 0)))), (u.2.2.1, .inl (cB, 208, .inl (aN (fun _ => 0)))), (u.2.2.2.1, .inr (2, [.ref u.2.2.2.2.1, .int (nI 0)])), (u.2.2.2.2.1, .inl (cB, 400, .inl (aB (fun _ => 0)))), (u.2.2.2.2.2.1, .inr (1, [.ref u.2.2.2.2.2.2.1, .int (nI 0), .int (-1), .ref u.2.2.2.1, .int (nI 0), .int (nI 0)])), (u.2.2.2.2.2.2.1, .inr (0, [.int (nI 800), .ref u.2.2.2.2.2.2.2.1, .ref u.2.2.2.2.2.2.2.2])), (u.2.2.2.2.2.2.2.1, .inl (cI, 16, .inl (aN (fun _ => 0)))), (u.2.2.2.2.2.2.2.2, .inl (cB, 208, .inl (aN (fun _ => 0))))])) 9 862 (va_A [(x0, .inr (3, [.null, .null, .null]))] sz) := by
  refine Met.ofW (cc := cC_init) (maxL := 1) (ret := none) (by decide) rfl ?_
  intro p e s m args below meth c s₁ Bd hml hv
  obtain ⟨rfl, hsz, hG, hP, hK, hD0⟩ := hv
  subst hsz
  have hx := Bd.exec
  have hb := Bd.bytes
  have hr := Bd.returns
  have hts := atoms_spec (ws := wsC_init) Bd.pre
  have hw : ∀ w ∈ BIG, w.before _ s = true := fun w h => hts w (List.mem_cons_of_mem _ h)
  have hown : s.vm.findClass RC = some m.cls := findClass_of_methodNamed Bd.named
  have hlocks := Bd.notSynchronized
  have hin : meth.name = "<init>" := (name_of_methodNamed Bd.named Bd.method).1
  have hD := hD0.self (sz := s.heap.size)
  obtain ⟨A, hAe⟩ : ∃ A, A = va_A [(x0, .inr (3, [.null, .null, .null]))] s.heap.size := ⟨_, rfl⟩
  have hA : ∀ q : Nat, s.heap.size ≤ q → A q := fun q h => by rw [hAe]; exact Or.inr h
  rw [← hAe] at hG hD
  have hS : va_S A s.heap s.heap [] := va_S.rf
  have hl := lv_entry ([.ref x0]) (n := 1) (Nat.le_of_ble_eq_true rfl)
  rw [lg_entry_eq]
  generalize (lg_sl ([.ref x0]) ++ List.replicate (1 - (lg_sl ([.ref x0])).length) Slot.unset).toArray = ls at hl ⊢
  have hl : lv_has ls 1 [(0, .ref x0)] := hl
  refine zq_name (fun Q hQ => ?_)
  change W p l e rm_c_Cinit s m _ below meth c _ _ _ _ Q _
  refine lv_aload_n hx hb dC_init_0 rfl (lv_at hl 0 rfl) ?_
  refine W.objInit hx hb hown (hw _ w_ml_C_1) (hw _ w_im_object) (hw _ w_co_object) rfl (by rw [hml]; exact hl.1) rfl dC_init_1 (Nat.le_of_ble_eq_true rfl) (Nat.le_of_ble_eq_true rfl) ?_
  refine W.eq (g2 := F0 m 4 ls []) rfl ?_
  refine lv_aload_n hx hb dC_init_4 rfl (lv_at hl 0 rfl) ?_
  refine va_new (ci := 0) (fs := [.int (nI 0), .null, .null]) (C := RD) (T := TD) (N := 3) hx hb hw inD tyD tyD_ok hown (hw _ w_cl_C_7) (hw _ w_is_D) (hw _ w_in_D) hK hP hD hS hA rfl (fun j hj => by rcases (show j = 0 ∨ j = 1 ∨ j = 2 by omega) with rfl | rfl | rfl <;> rfl) (Nat.le_of_ble_eq_true rfl) (Nat.le_of_ble_eq_true rfl) dC_init_5 (fun q5 H hP hD hS => ?_)
  have hP : va_P (dC, dI) vwCl [(x0, .inr (3, [.null, .null, .null])), (q5, .inr (0, [.int (nI 0), .null, .null]))] H := hP
  have hD : va_D A [(x0, .inr (3, [.null, .null, .null])), (q5, .inr (0, [.int (nI 0), .null, .null]))] := hD
  refine lv_dup hx hb dC_init_8 rfl ?_
  have hPc := hP.sub (ws' := [(q5, .inr (0, [.int (nI 0), .null, .null]))]) [1] rfl
  have hDc := hD.sub (ws' := [(q5, .inr (0, [.int (nI 0), .null, .null]))]) [1] (by decide) rfl
  have hFc := va_free (wc := [(q5, .inr (0, [.int (nI 0), .null, .null]))]) hD hS hA [1] rfl
  refine zc_Sv (va_runIN (As := []) (rest := [.ref q5, .ref x0]) ⟨hx, hb, hml, hown, hw⟩ (c_Dinit l dC dI cI cB q5 H.size) ⟨va_cnB 0 hw (gC w_co_D_init) rfl rfl rfl (hG.nm (RC, 9, yD_init) (List.mem_of_getElem? (i := 0) rfl)) (hw _ w_in_D) (by decide +kernel) ⟨Nat.le_of_ble_eq_true rfl, Nat.le_of_ble_eq_true rfl⟩, rfl, hw _ w_im_D_init⟩ (zM_S hG hS hFc hPc hDc hK) rfl rfl hl.1 rfl (lv_room (Nat.le_of_ble_eq_true rfl)) dC_init_9 ⟨Nat.le_of_ble_eq_true rfl, Nat.le_of_ble_eq_true rfl⟩) hS hFc (fun u_9 H locs h_9 hP1 hD1 hk1 hS => ?_)
  obtain ⟨b1_9, b2_9⟩ := u_9
  obtain ⟨hP, hD⟩ := va_join (wr := [(x0, .inr (3, [.null, .null, .null]))]) (w1 := [(q5, .inr (0, [.int (nI 800), .ref b1_9, .ref b2_9])), (b1_9, .inl (cI, 16, .inl (aN (fun _ => 0)))), (b2_9, .inl (cB, 208, .inl (aN (fun _ => 0))))]) hP hD [1] [0] rfl rfl (by decide) (by decide) hk1 hFc hP1 hD1
  have hP : va_P (dC, dI) vwCl [(x0, .inr (3, [.null, .null, .null])), (q5, .inr (0, [.int (nI 800), .ref b1_9, .ref b2_9])), (b1_9, .inl (cI, 16, .inl (aN (fun _ => 0)))), (b2_9, .inl (cB, 208, .inl (aN (fun _ => 0))))] H := hP
  have hD : va_D A [(x0, .inr (3, [.null, .null, .null])), (q5, .inr (0, [.int (nI 800), .ref b1_9, .ref b2_9])), (b1_9, .inl (cI, 16, .inl (aN (fun _ => 0)))), (b2_9, .inl (cB, 208, .inl (aN (fun _ => 0))))] := hD
  refine va_putF (D := (dC, dI)) (ci := 3) (v := .ref q5) (ty := .object "CardMessages$Draft") (C := RC) (T := TC) (N := 3) hx hb hw inC tyC tyC_ok nmC hown hK hP hD hS 0 rfl rfl 0 (by decide) (hw _ w_fl_C_10) (fun _ h9 => h9) rfl hin rfl (by decide +kernel) rfl rfl (Nat.le_of_ble_eq_true rfl) dC_init_12 (fun H locs hP hD hS => ?_)
  have hP : va_P (dC, dI) vwCl [(x0, .inr (3, [.ref q5, .null, .null])), (q5, .inr (0, [.int (nI 800), .ref b1_9, .ref b2_9])), (b1_9, .inl (cI, 16, .inl (aN (fun _ => 0)))), (b2_9, .inl (cB, 208, .inl (aN (fun _ => 0))))] H := hP
  have hD : va_D A [(x0, .inr (3, [.ref q5, .null, .null])), (q5, .inr (0, [.int (nI 800), .ref b1_9, .ref b2_9])), (b1_9, .inl (cI, 16, .inl (aN (fun _ => 0)))), (b2_9, .inl (cB, 208, .inl (aN (fun _ => 0))))] := hD
  refine lv_aload_n hx hb dC_init_15 rfl (lv_at hl 0 rfl) ?_
  refine va_new (ci := 2) (fs := [.null, .int (nI 0)]) (C := RT) (T := TT) (N := 2) hx hb hw inT tyT tyT_ok hown (hw _ w_cl_C_16) (hw _ w_is_T) (hw _ w_in_T) hK hP hD hS hA rfl (fun j hj => by rcases (show j = 0 ∨ j = 1 by omega) with rfl | rfl <;> rfl) (Nat.le_of_ble_eq_true rfl) (Nat.le_of_ble_eq_true rfl) dC_init_16 (fun q16 H hP hD hS => ?_)
  have hP : va_P (dC, dI) vwCl [(x0, .inr (3, [.ref q5, .null, .null])), (q5, .inr (0, [.int (nI 800), .ref b1_9, .ref b2_9])), (b1_9, .inl (cI, 16, .inl (aN (fun _ => 0)))), (b2_9, .inl (cB, 208, .inl (aN (fun _ => 0)))), (q16, .inr (2, [.null, .int (nI 0)]))] H := hP
  have hD : va_D A [(x0, .inr (3, [.ref q5, .null, .null])), (q5, .inr (0, [.int (nI 800), .ref b1_9, .ref b2_9])), (b1_9, .inl (cI, 16, .inl (aN (fun _ => 0)))), (b2_9, .inl (cB, 208, .inl (aN (fun _ => 0)))), (q16, .inr (2, [.null, .int (nI 0)]))] := hD
  refine lv_dup hx hb dC_init_19 rfl ?_
  have hPc := hP.sub (ws' := [(q16, .inr (2, [.null, .int (nI 0)]))]) [4] rfl
  have hDc := hD.sub (ws' := [(q16, .inr (2, [.null, .int (nI 0)]))]) [4] (by decide) rfl
  have hFc := va_free (wc := [(q16, .inr (2, [.null, .int (nI 0)]))]) hD hS hA [4] rfl
  refine zc_Sv (va_runIN (As := []) (rest := [.ref q16, .ref x0]) ⟨hx, hb, hml, hown, hw⟩ (c_Tinit l dC dI cI cB q16 H.size) ⟨va_cnB 0 hw (gC w_co_T_init) rfl rfl rfl (hG.nm (RC, 18, yT_init) (List.mem_of_getElem? (i := 1) rfl)) (hw _ w_in_T) (by decide +kernel) ⟨Nat.le_of_ble_eq_true rfl, Nat.le_of_ble_eq_true rfl⟩, rfl, hw _ w_im_T_init⟩ (zM_S hG hS hFc hPc hDc hK) rfl rfl hl.1 rfl (lv_room (Nat.le_of_ble_eq_true rfl)) dC_init_20 ⟨Nat.le_of_ble_eq_true rfl, Nat.le_of_ble_eq_true rfl⟩) hS hFc (fun u_20 H locs h_20 hP1 hD1 hk1 hS => ?_)
  obtain ⟨hP, hD⟩ := va_join (wr := [(x0, .inr (3, [.ref q5, .null, .null])), (q5, .inr (0, [.int (nI 800), .ref b1_9, .ref b2_9])), (b1_9, .inl (cI, 16, .inl (aN (fun _ => 0)))), (b2_9, .inl (cB, 208, .inl (aN (fun _ => 0))))]) (w1 := [(q16, .inr (2, [.ref u_20, .int (nI 0)])), (u_20, .inl (cB, 400, .inl (aB (fun _ => 0))))]) hP hD [4] [0, 1, 2, 3] rfl rfl (by decide) (by decide) hk1 hFc hP1 hD1
  have hP : va_P (dC, dI) vwCl [(x0, .inr (3, [.ref q5, .null, .null])), (q5, .inr (0, [.int (nI 800), .ref b1_9, .ref b2_9])), (b1_9, .inl (cI, 16, .inl (aN (fun _ => 0)))), (b2_9, .inl (cB, 208, .inl (aN (fun _ => 0)))), (q16, .inr (2, [.ref u_20, .int (nI 0)])), (u_20, .inl (cB, 400, .inl (aB (fun _ => 0))))] H := hP
  have hD : va_D A [(x0, .inr (3, [.ref q5, .null, .null])), (q5, .inr (0, [.int (nI 800), .ref b1_9, .ref b2_9])), (b1_9, .inl (cI, 16, .inl (aN (fun _ => 0)))), (b2_9, .inl (cB, 208, .inl (aN (fun _ => 0)))), (q16, .inr (2, [.ref u_20, .int (nI 0)])), (u_20, .inl (cB, 400, .inl (aB (fun _ => 0))))] := hD
  refine va_putF (D := (dC, dI)) (ci := 3) (v := .ref q16) (ty := .object "CardMessages$Tape") (C := RC) (T := TC) (N := 3) hx hb hw inC tyC tyC_ok nmC hown hK hP hD hS 0 rfl rfl 1 (by decide) (hw _ w_fl_C_19) (fun _ h9 => h9) rfl hin rfl (by decide +kernel) rfl rfl (Nat.le_of_ble_eq_true rfl) dC_init_23 (fun H locs hP hD hS => ?_)
  have hP : va_P (dC, dI) vwCl [(x0, .inr (3, [.ref q5, .ref q16, .null])), (q5, .inr (0, [.int (nI 800), .ref b1_9, .ref b2_9])), (b1_9, .inl (cI, 16, .inl (aN (fun _ => 0)))), (b2_9, .inl (cB, 208, .inl (aN (fun _ => 0)))), (q16, .inr (2, [.ref u_20, .int (nI 0)])), (u_20, .inl (cB, 400, .inl (aB (fun _ => 0))))] H := hP
  have hD : va_D A [(x0, .inr (3, [.ref q5, .ref q16, .null])), (q5, .inr (0, [.int (nI 800), .ref b1_9, .ref b2_9])), (b1_9, .inl (cI, 16, .inl (aN (fun _ => 0)))), (b2_9, .inl (cB, 208, .inl (aN (fun _ => 0)))), (q16, .inr (2, [.ref u_20, .int (nI 0)])), (u_20, .inl (cB, 400, .inl (aB (fun _ => 0))))] := hD
  refine lv_aload_n hx hb dC_init_26 rfl (lv_at hl 0 rfl) ?_
  refine va_new (ci := 1) (fs := [.null, .int (nI 0), .int (nI 0), .null, .int (nI 0), .int (nI 0)]) (C := RR) (T := TR) (N := 6) hx hb hw inR tyR tyR_ok hown (hw _ w_cl_C_23) (hw _ w_is_R) (hw _ w_in_R) hK hP hD hS hA rfl (fun j hj => by rcases (show j = 0 ∨ j = 1 ∨ j = 2 ∨ j = 3 ∨ j = 4 ∨ j = 5 by omega) with rfl | rfl | rfl | rfl | rfl | rfl <;> rfl) (Nat.le_of_ble_eq_true rfl) (Nat.le_of_ble_eq_true rfl) dC_init_27 (fun q27 H hP hD hS => ?_)
  have hP : va_P (dC, dI) vwCl [(x0, .inr (3, [.ref q5, .ref q16, .null])), (q5, .inr (0, [.int (nI 800), .ref b1_9, .ref b2_9])), (b1_9, .inl (cI, 16, .inl (aN (fun _ => 0)))), (b2_9, .inl (cB, 208, .inl (aN (fun _ => 0)))), (q16, .inr (2, [.ref u_20, .int (nI 0)])), (u_20, .inl (cB, 400, .inl (aB (fun _ => 0)))), (q27, .inr (1, [.null, .int (nI 0), .int (nI 0), .null, .int (nI 0), .int (nI 0)]))] H := hP
  have hD : va_D A [(x0, .inr (3, [.ref q5, .ref q16, .null])), (q5, .inr (0, [.int (nI 800), .ref b1_9, .ref b2_9])), (b1_9, .inl (cI, 16, .inl (aN (fun _ => 0)))), (b2_9, .inl (cB, 208, .inl (aN (fun _ => 0)))), (q16, .inr (2, [.ref u_20, .int (nI 0)])), (u_20, .inl (cB, 400, .inl (aB (fun _ => 0)))), (q27, .inr (1, [.null, .int (nI 0), .int (nI 0), .null, .int (nI 0), .int (nI 0)]))] := hD
  refine lv_dup hx hb dC_init_30 rfl ?_
  refine lv_aload_n hx hb dC_init_31 rfl (lv_at hl 0 rfl) ?_
  refine va_get (D := (dC, dI)) (ci := 3) (v := .ref q16) (C := RC) (T := TC) (N := 3) hx hb hw inC hown hK hP 0 rfl rfl 1 (by decide) (hw _ w_fl_C_19) (fun _ h9 => h9) rfl dC_init_32 ?_
  have hPc := hP.sub (ws' := [(q27, .inr (1, [.null, .int (nI 0), .int (nI 0), .null, .int (nI 0), .int (nI 0)]))]) [6] rfl
  have hDc := hD.sub (ws' := [(q27, .inr (1, [.null, .int (nI 0), .int (nI 0), .null, .int (nI 0), .int (nI 0)]))]) [6] (by decide) rfl
  have hFc := va_free (wc := [(q27, .inr (1, [.null, .int (nI 0), .int (nI 0), .null, .int (nI 0), .int (nI 0)]))]) hD hS hA [6] rfl
  refine zc_Sv (va_runI (As := [.ref q16]) (rest := [.ref q27, .ref x0]) ⟨hx, hb, hml, hown, hw⟩ (c_Rinit l dC dI cI cB q27 q16 H.size) (cwI 1 hw (gC w_co_R_init) rfl rfl rfl (hw _ w_in_R) (hw _ w_ml_C_25) (hw _ w_im_R_init) rfl (by decide +kernel) ⟨Nat.le_of_ble_eq_true rfl, Nat.le_of_ble_eq_true rfl⟩) (zM_S hG hS hFc hPc hDc hK) rfl rfl hl.1 rfl (lv_room (Nat.le_of_ble_eq_true rfl)) dC_init_35 ⟨Nat.le_of_ble_eq_true rfl, Nat.le_of_ble_eq_true rfl⟩) hS hFc (fun u_35 H locs h_35 hP1 hD1 hk1 hS => ?_)
  obtain ⟨b0_35, b1_35, b2_35⟩ := u_35
  obtain ⟨hP, hD⟩ := va_join (wr := [(x0, .inr (3, [.ref q5, .ref q16, .null])), (q5, .inr (0, [.int (nI 800), .ref b1_9, .ref b2_9])), (b1_9, .inl (cI, 16, .inl (aN (fun _ => 0)))), (b2_9, .inl (cB, 208, .inl (aN (fun _ => 0)))), (q16, .inr (2, [.ref u_20, .int (nI 0)])), (u_20, .inl (cB, 400, .inl (aB (fun _ => 0))))]) (w1 := [(q27, .inr (1, [.ref b0_35, .int (nI 0), .int (-1), .ref q16, .int (nI 0), .int (nI 0)])), (b0_35, .inr (0, [.int (nI 800), .ref b1_35, .ref b2_35])), (b1_35, .inl (cI, 16, .inl (aN (fun _ => 0)))), (b2_35, .inl (cB, 208, .inl (aN (fun _ => 0))))]) hP hD [6] [0, 1, 2, 3, 4, 5] rfl rfl (by decide) (by decide) hk1 hFc hP1 hD1
  have hP : va_P (dC, dI) vwCl [(x0, .inr (3, [.ref q5, .ref q16, .null])), (q5, .inr (0, [.int (nI 800), .ref b1_9, .ref b2_9])), (b1_9, .inl (cI, 16, .inl (aN (fun _ => 0)))), (b2_9, .inl (cB, 208, .inl (aN (fun _ => 0)))), (q16, .inr (2, [.ref u_20, .int (nI 0)])), (u_20, .inl (cB, 400, .inl (aB (fun _ => 0)))), (q27, .inr (1, [.ref b0_35, .int (nI 0), .int (-1), .ref q16, .int (nI 0), .int (nI 0)])), (b0_35, .inr (0, [.int (nI 800), .ref b1_35, .ref b2_35])), (b1_35, .inl (cI, 16, .inl (aN (fun _ => 0)))), (b2_35, .inl (cB, 208, .inl (aN (fun _ => 0))))] H := hP
  have hD : va_D A [(x0, .inr (3, [.ref q5, .ref q16, .null])), (q5, .inr (0, [.int (nI 800), .ref b1_9, .ref b2_9])), (b1_9, .inl (cI, 16, .inl (aN (fun _ => 0)))), (b2_9, .inl (cB, 208, .inl (aN (fun _ => 0)))), (q16, .inr (2, [.ref u_20, .int (nI 0)])), (u_20, .inl (cB, 400, .inl (aB (fun _ => 0)))), (q27, .inr (1, [.ref b0_35, .int (nI 0), .int (-1), .ref q16, .int (nI 0), .int (nI 0)])), (b0_35, .inr (0, [.int (nI 800), .ref b1_35, .ref b2_35])), (b1_35, .inl (cI, 16, .inl (aN (fun _ => 0)))), (b2_35, .inl (cB, 208, .inl (aN (fun _ => 0))))] := hD
  refine va_putF (D := (dC, dI)) (ci := 3) (v := .ref q27) (ty := .object "CardMessages$Reader") (C := RC) (T := TC) (N := 3) hx hb hw inC tyC tyC_ok nmC hown hK hP hD hS 0 rfl rfl 2 (by decide) (hw _ w_fl_C_28) (fun _ h9 => h9) rfl hin rfl (by decide +kernel) rfl rfl (Nat.le_of_ble_eq_true rfl) dC_init_38 (fun H locs hP hD hS => ?_)
  have hP : va_P (dC, dI) vwCl [(x0, .inr (3, [.ref q5, .ref q16, .ref q27])), (q5, .inr (0, [.int (nI 800), .ref b1_9, .ref b2_9])), (b1_9, .inl (cI, 16, .inl (aN (fun _ => 0)))), (b2_9, .inl (cB, 208, .inl (aN (fun _ => 0)))), (q16, .inr (2, [.ref u_20, .int (nI 0)])), (u_20, .inl (cB, 400, .inl (aB (fun _ => 0)))), (q27, .inr (1, [.ref b0_35, .int (nI 0), .int (-1), .ref q16, .int (nI 0), .int (nI 0)])), (b0_35, .inr (0, [.int (nI 800), .ref b1_35, .ref b2_35])), (b1_35, .inl (cI, 16, .inl (aN (fun _ => 0)))), (b2_35, .inl (cB, 208, .inl (aN (fun _ => 0))))] H := hP
  have hD : va_D A [(x0, .inr (3, [.ref q5, .ref q16, .ref q27])), (q5, .inr (0, [.int (nI 800), .ref b1_9, .ref b2_9])), (b1_9, .inl (cI, 16, .inl (aN (fun _ => 0)))), (b2_9, .inl (cB, 208, .inl (aN (fun _ => 0)))), (q16, .inr (2, [.ref u_20, .int (nI 0)])), (u_20, .inl (cB, 400, .inl (aB (fun _ => 0)))), (q27, .inr (1, [.ref b0_35, .int (nI 0), .int (-1), .ref q16, .int (nI 0), .int (nI 0)])), (b0_35, .inr (0, [.int (nI 800), .ref b1_35, .ref b2_35])), (b1_35, .inl (cI, 16, .inl (aN (fun _ => 0)))), (b2_35, .inl (cB, 208, .inl (aN (fun _ => 0))))] := hD
  subst hAe
  subst hQ
  exact W.vret hx hb hr (fun t ht hW => ⟨⟨(q5, b1_9, b2_9, q16, u_20, q27, b0_35, b1_35, b2_35), rfl, trivial, by rw [ht]; exact hP.sub [0, 1, 2, 3, 4, 5, 6, 7, 8, 9] rfl, hD.sub [0, 1, 2, 3, 4, 5, 6, 7, 8, 9] (by decide) rfl⟩, hS.F ht⟩) hS.2.2 dC_init_41
def rm_c_Minit : Room := ({ frames := 1, cells := 9, slots := 1828, locals := 21 } : Room)
set_option maxHeartbeats 4000000 in
set_option maxRecDepth 100000 in
theorem c_Minit (l : Launch) (dC : Nat → ClassId) (dI : Nat → Nat → Nat) (cI : ClassId) (cB : ClassId) (m0 : Nat) (sz : Nat) : Met l yM_init wsM_init rm_c_Minit (zM (dC, dI) [(cI, .int), (cB, .byte)] [.ref m0] [(m0, .inr (4, [.null, .null, .null, .int (nI 0), .int (nI 0), .null, .null, .int (nI 0), .null, .null, .null, .int (nI 0), .int (nI 0), .int (nI 0), .int (nI 0), .int (nI 0), .null]))] sz) (zSv (dC, dI) [(m0, .inr (4, [.null, .null, .null, .int (nI 0), .int (nI 0), .null, .null, .int (nI 0), .null, .null, .null, .int (nI 0), .int (nI 0), .int (nI 0), .int (nI 0), .int (nI 0), .null]))] sz (fun (u : Nat × Nat × Nat × Nat × Nat × Nat × Nat × Nat × Nat) => True) (fun u => [(m0, .inr (4, [.ref u.1, .ref u.2.1, .ref u.2.2.1, .int (nI 0), .int (nI 800), .ref u.2.2.2.1, .ref u.2.2.2.2.1, .int (nI 0), .ref u.2.2.2.2.2.1, .ref u.2.2.2.2.2.2.1, .ref u.2.2.2.2.2.2.2.1, .int (nI 0), .int (nI 0), .int (nI 0), .int (nI 0), .int (nI 0), .ref u.2.2.2.2.2.2.2.2])), (u.1, .inl (cI, 16, .inl (aN fFI))), (u.2.1, .inl (cI, 16, .inl (aN fMM))), (u.2.2.1, .inl (cI, 16, .inl (aN fFO))), (u.2.2.2.1, .inl (cI, 672, .inl (aN (fun _ => 0)))), (u.2.2.2.2.1, .inl (cI, 16, .inl (aP (zc (fun _ => 1) 16)))), (u.2.2.2.2.2.1, .inl (cI, 672, .inl (aN (fun _ => 0)))), (u.2.2.2.2.2.2.1, .inl (cI, 16, .inl (aP (zc (fun _ => 1) 16)))), (u.2.2.2.2.2.2.2.1, .inl (cI, 400, .inl (aN (fun _ => 0)))), (u.2.2.2.2.2.2.2.2, .inl (cI, 4, .inl (aN (fun _ => 0))))])) 9 1828 (va_A [(m0, .inr (4, [.null, .null, .null, .int (nI 0), .int (nI 0), .null, .null, .int (nI 0), .null, .null, .null, .int (nI 0), .int (nI 0), .int (nI 0), .int (nI 0), .int (nI 0), .null]))] sz) := by
  refine Met.ofW (cc := cM_init) (maxL := 1) (ret := none) (by decide) rfl ?_
  intro p e s m args below meth c s₁ Bd hml hv
  obtain ⟨rfl, hsz, hG, hP, hK, hD0⟩ := hv
  subst hsz
  have hx := Bd.exec
  have hb := Bd.bytes
  have hr := Bd.returns
  have hts := atoms_spec (ws := wsM_init) Bd.pre
  have hw : ∀ w ∈ BIG, w.before _ s = true := fun w h => hts w (List.mem_cons_of_mem _ h)
  have hown : s.vm.findClass RM = some m.cls := findClass_of_methodNamed Bd.named
  have hlocks := Bd.notSynchronized
  have hin : meth.name = "<init>" := (name_of_methodNamed Bd.named Bd.method).1
  have hD := hD0.self (sz := s.heap.size)
  obtain ⟨A, hAe⟩ : ∃ A, A = va_A [(m0, .inr (4, [.null, .null, .null, .int (nI 0), .int (nI 0), .null, .null, .int (nI 0), .null, .null, .null, .int (nI 0), .int (nI 0), .int (nI 0), .int (nI 0), .int (nI 0), .null]))] s.heap.size := ⟨_, rfl⟩
  have hA : ∀ q : Nat, s.heap.size ≤ q → A q := fun q h => by rw [hAe]; exact Or.inr h
  rw [← hAe] at hG hD
  have hS : va_S A s.heap s.heap [] := va_S.rf
  have hl := lv_entry ([.ref m0]) (n := 1) (Nat.le_of_ble_eq_true rfl)
  rw [lg_entry_eq]
  generalize (lg_sl ([.ref m0]) ++ List.replicate (1 - (lg_sl ([.ref m0])).length) Slot.unset).toArray = ls at hl ⊢
  have hl : lv_has ls 1 [(0, .ref m0)] := hl
  refine zq_name (fun Q hQ => ?_)
  change W p l e rm_c_Minit s m _ below meth c _ _ _ _ Q _
  refine lv_aload_n hx hb dM_init_0 rfl (lv_at hl 0 rfl) ?_
  refine W.objInit hx hb hown (hw _ w_ml_M_1) (hw _ w_im_object) (hw _ w_co_object) rfl (by rw [hml]; exact hl.1) rfl dM_init_1 (Nat.le_of_ble_eq_true rfl) (Nat.le_of_ble_eq_true rfl) ?_
  refine W.eq (g2 := F0 m 4 ls []) rfl ?_
  refine lv_aload_n hx hb dM_init_4 rfl (lv_at hl 0 rfl) ?_
  refine lv_bipush (v := nI 16) hx hb dM_init_5 (by decide) ?_
  refine za_new (n := 16) (f9 := aN (fun _ => 0)) hx hb (hw _ w_ac_int) rfl hK hP hD hS hA 0 rfl (aN_0) (by decide) rfl (by decide) (Nat.le_of_ble_eq_true rfl) (Nat.le_of_ble_eq_true rfl) dM_init_7 (fun q7 H hP hD hS => ?_)
  have hP : va_P (dC, dI) vwCl [(m0, .inr (4, [.null, .null, .null, .int (nI 0), .int (nI 0), .null, .null, .int (nI 0), .null, .null, .null, .int (nI 0), .int (nI 0), .int (nI 0), .int (nI 0), .int (nI 0), .null])), (q7, .inl (cI, 16, .inl (aN (fun _ => 0))))] H := hP
  have hD : va_D A [(m0, .inr (4, [.null, .null, .null, .int (nI 0), .int (nI 0), .null, .null, .int (nI 0), .null, .null, .null, .int (nI 0), .int (nI 0), .int (nI 0), .int (nI 0), .int (nI 0), .null])), (q7, .inl (cI, 16, .inl (aN (fun _ => 0))))] := hD
  refine lv_dup hx hb dM_init_9 rfl ?_
  refine lv_iconst (v := nI 0) hx hb dM_init_10 (by decide) ?_
  refine lv_iconst (v := nI 2) hx hb dM_init_11 (by decide) ?_
  refine za_ist hx hb hK hP hD hS 1 0 rfl rfl (by omega) (by decide) dM_init_12 (fun H locs hP hD hS => ?_)
  have hP : va_P (dC, dI) vwCl [(m0, .inr (4, [.null, .null, .null, .int (nI 0), .int (nI 0), .null, .null, .int (nI 0), .null, .null, .null, .int (nI 0), .int (nI 0), .int (nI 0), .int (nI 0), .int (nI 0), .null])), (q7, .inl (cI, 16, .inl (aN (nup (fun _ => 0) 0 2))))] H := hP
  have hD : va_D A [(m0, .inr (4, [.null, .null, .null, .int (nI 0), .int (nI 0), .null, .null, .int (nI 0), .null, .null, .null, .int (nI 0), .int (nI 0), .int (nI 0), .int (nI 0), .int (nI 0), .null])), (q7, .inl (cI, 16, .inl (aN (nup (fun _ => 0) 0 2))))] := hD
  refine lv_dup hx hb dM_init_13 rfl ?_
  refine lv_iconst (v := nI 1) hx hb dM_init_14 (by decide) ?_
  refine lv_iconst (v := nI 3) hx hb dM_init_15 (by decide) ?_
  refine za_ist hx hb hK hP hD hS 1 0 rfl rfl (by omega) (by decide) dM_init_16 (fun H locs hP hD hS => ?_)
  have hP : va_P (dC, dI) vwCl [(m0, .inr (4, [.null, .null, .null, .int (nI 0), .int (nI 0), .null, .null, .int (nI 0), .null, .null, .null, .int (nI 0), .int (nI 0), .int (nI 0), .int (nI 0), .int (nI 0), .null])), (q7, .inl (cI, 16, .inl (aN (nup (nup (fun _ => 0) 0 2) 1 3))))] H := hP
  have hD : va_D A [(m0, .inr (4, [.null, .null, .null, .int (nI 0), .int (nI 0), .null, .null, .int (nI 0), .null, .null, .null, .int (nI 0), .int (nI 0), .int (nI 0), .int (nI 0), .int (nI 0), .null])), (q7, .inl (cI, 16, .inl (aN (nup (nup (fun _ => 0) 0 2) 1 3))))] := hD
  refine lv_dup hx hb dM_init_17 rfl ?_
  refine lv_iconst (v := nI 2) hx hb dM_init_18 (by decide) ?_
  refine lv_iconst (v := nI 4) hx hb dM_init_19 (by decide) ?_
  refine za_ist hx hb hK hP hD hS 1 0 rfl rfl (by omega) (by decide) dM_init_20 (fun H locs hP hD hS => ?_)
  have hP : va_P (dC, dI) vwCl [(m0, .inr (4, [.null, .null, .null, .int (nI 0), .int (nI 0), .null, .null, .int (nI 0), .null, .null, .null, .int (nI 0), .int (nI 0), .int (nI 0), .int (nI 0), .int (nI 0), .null])), (q7, .inl (cI, 16, .inl (aN (nup (nup (nup (fun _ => 0) 0 2) 1 3) 2 4))))] H := hP
  have hD : va_D A [(m0, .inr (4, [.null, .null, .null, .int (nI 0), .int (nI 0), .null, .null, .int (nI 0), .null, .null, .null, .int (nI 0), .int (nI 0), .int (nI 0), .int (nI 0), .int (nI 0), .null])), (q7, .inl (cI, 16, .inl (aN (nup (nup (nup (fun _ => 0) 0 2) 1 3) 2 4))))] := hD
  refine lv_dup hx hb dM_init_21 rfl ?_
  refine lv_iconst (v := nI 3) hx hb dM_init_22 (by decide) ?_
  refine lv_bipush (v := nI 11) hx hb dM_init_23 (by decide) ?_
  refine za_ist hx hb hK hP hD hS 1 0 rfl rfl (by omega) (by decide) dM_init_25 (fun H locs hP hD hS => ?_)
  have hP : va_P (dC, dI) vwCl [(m0, .inr (4, [.null, .null, .null, .int (nI 0), .int (nI 0), .null, .null, .int (nI 0), .null, .null, .null, .int (nI 0), .int (nI 0), .int (nI 0), .int (nI 0), .int (nI 0), .null])), (q7, .inl (cI, 16, .inl (aN (nup (nup (nup (nup (fun _ => 0) 0 2) 1 3) 2 4) 3 11))))] H := hP
  have hD : va_D A [(m0, .inr (4, [.null, .null, .null, .int (nI 0), .int (nI 0), .null, .null, .int (nI 0), .null, .null, .null, .int (nI 0), .int (nI 0), .int (nI 0), .int (nI 0), .int (nI 0), .null])), (q7, .inl (cI, 16, .inl (aN (nup (nup (nup (nup (fun _ => 0) 0 2) 1 3) 2 4) 3 11))))] := hD
  refine lv_dup hx hb dM_init_26 rfl ?_
  refine lv_iconst (v := nI 4) hx hb dM_init_27 (by decide) ?_
  refine lv_bipush (v := nI 32) hx hb dM_init_28 (by decide) ?_
  refine za_ist hx hb hK hP hD hS 1 0 rfl rfl (by omega) (by decide) dM_init_30 (fun H locs hP hD hS => ?_)
  have hP : va_P (dC, dI) vwCl [(m0, .inr (4, [.null, .null, .null, .int (nI 0), .int (nI 0), .null, .null, .int (nI 0), .null, .null, .null, .int (nI 0), .int (nI 0), .int (nI 0), .int (nI 0), .int (nI 0), .null])), (q7, .inl (cI, 16, .inl (aN (nup (nup (nup (nup (nup (fun _ => 0) 0 2) 1 3) 2 4) 3 11) 4 32))))] H := hP
  have hD : va_D A [(m0, .inr (4, [.null, .null, .null, .int (nI 0), .int (nI 0), .null, .null, .int (nI 0), .null, .null, .null, .int (nI 0), .int (nI 0), .int (nI 0), .int (nI 0), .int (nI 0), .null])), (q7, .inl (cI, 16, .inl (aN (nup (nup (nup (nup (nup (fun _ => 0) 0 2) 1 3) 2 4) 3 11) 4 32))))] := hD
  refine lv_dup hx hb dM_init_31 rfl ?_
  refine lv_iconst (v := nI 5) hx hb dM_init_32 (by decide) ?_
  refine lv_bipush (v := nI 37) hx hb dM_init_33 (by decide) ?_
  refine za_ist hx hb hK hP hD hS 1 0 rfl rfl (by omega) (by decide) dM_init_35 (fun H locs hP hD hS => ?_)
  have hP : va_P (dC, dI) vwCl [(m0, .inr (4, [.null, .null, .null, .int (nI 0), .int (nI 0), .null, .null, .int (nI 0), .null, .null, .null, .int (nI 0), .int (nI 0), .int (nI 0), .int (nI 0), .int (nI 0), .null])), (q7, .inl (cI, 16, .inl (aN (nup (nup (nup (nup (nup (nup (fun _ => 0) 0 2) 1 3) 2 4) 3 11) 4 32) 5 37))))] H := hP
  have hD : va_D A [(m0, .inr (4, [.null, .null, .null, .int (nI 0), .int (nI 0), .null, .null, .int (nI 0), .null, .null, .null, .int (nI 0), .int (nI 0), .int (nI 0), .int (nI 0), .int (nI 0), .null])), (q7, .inl (cI, 16, .inl (aN (nup (nup (nup (nup (nup (nup (fun _ => 0) 0 2) 1 3) 2 4) 3 11) 4 32) 5 37))))] := hD
  refine lv_dup hx hb dM_init_36 rfl ?_
  refine lv_bipush (v := nI 6) hx hb dM_init_37 (by decide) ?_
  refine lv_bipush (v := nI 38) hx hb dM_init_39 (by decide) ?_
  refine za_ist hx hb hK hP hD hS 1 0 rfl rfl (by omega) (by decide) dM_init_41 (fun H locs hP hD hS => ?_)
  have hP : va_P (dC, dI) vwCl [(m0, .inr (4, [.null, .null, .null, .int (nI 0), .int (nI 0), .null, .null, .int (nI 0), .null, .null, .null, .int (nI 0), .int (nI 0), .int (nI 0), .int (nI 0), .int (nI 0), .null])), (q7, .inl (cI, 16, .inl (aN (nup (nup (nup (nup (nup (nup (nup (fun _ => 0) 0 2) 1 3) 2 4) 3 11) 4 32) 5 37) 6 38))))] H := hP
  have hD : va_D A [(m0, .inr (4, [.null, .null, .null, .int (nI 0), .int (nI 0), .null, .null, .int (nI 0), .null, .null, .null, .int (nI 0), .int (nI 0), .int (nI 0), .int (nI 0), .int (nI 0), .null])), (q7, .inl (cI, 16, .inl (aN (nup (nup (nup (nup (nup (nup (nup (fun _ => 0) 0 2) 1 3) 2 4) 3 11) 4 32) 5 37) 6 38))))] := hD
  refine lv_dup hx hb dM_init_42 rfl ?_
  refine lv_bipush (v := nI 7) hx hb dM_init_43 (by decide) ?_
  refine lv_bipush (v := nI 39) hx hb dM_init_45 (by decide) ?_
  refine za_ist hx hb hK hP hD hS 1 0 rfl rfl (by omega) (by decide) dM_init_47 (fun H locs hP hD hS => ?_)
  have hP : va_P (dC, dI) vwCl [(m0, .inr (4, [.null, .null, .null, .int (nI 0), .int (nI 0), .null, .null, .int (nI 0), .null, .null, .null, .int (nI 0), .int (nI 0), .int (nI 0), .int (nI 0), .int (nI 0), .null])), (q7, .inl (cI, 16, .inl (aN (nup (nup (nup (nup (nup (nup (nup (nup (fun _ => 0) 0 2) 1 3) 2 4) 3 11) 4 32) 5 37) 6 38) 7 39))))] H := hP
  have hD : va_D A [(m0, .inr (4, [.null, .null, .null, .int (nI 0), .int (nI 0), .null, .null, .int (nI 0), .null, .null, .null, .int (nI 0), .int (nI 0), .int (nI 0), .int (nI 0), .int (nI 0), .null])), (q7, .inl (cI, 16, .inl (aN (nup (nup (nup (nup (nup (nup (nup (nup (fun _ => 0) 0 2) 1 3) 2 4) 3 11) 4 32) 5 37) 6 38) 7 39))))] := hD
  refine lv_dup hx hb dM_init_48 rfl ?_
  refine lv_bipush (v := nI 8) hx hb dM_init_49 (by decide) ?_
  refine lv_bipush (v := nI 41) hx hb dM_init_51 (by decide) ?_
  refine za_ist hx hb hK hP hD hS 1 0 rfl rfl (by omega) (by decide) dM_init_53 (fun H locs hP hD hS => ?_)
  have hP : va_P (dC, dI) vwCl [(m0, .inr (4, [.null, .null, .null, .int (nI 0), .int (nI 0), .null, .null, .int (nI 0), .null, .null, .null, .int (nI 0), .int (nI 0), .int (nI 0), .int (nI 0), .int (nI 0), .null])), (q7, .inl (cI, 16, .inl (aN (nup (nup (nup (nup (nup (nup (nup (nup (nup (fun _ => 0) 0 2) 1 3) 2 4) 3 11) 4 32) 5 37) 6 38) 7 39) 8 41))))] H := hP
  have hD : va_D A [(m0, .inr (4, [.null, .null, .null, .int (nI 0), .int (nI 0), .null, .null, .int (nI 0), .null, .null, .null, .int (nI 0), .int (nI 0), .int (nI 0), .int (nI 0), .int (nI 0), .null])), (q7, .inl (cI, 16, .inl (aN (nup (nup (nup (nup (nup (nup (nup (nup (nup (fun _ => 0) 0 2) 1 3) 2 4) 3 11) 4 32) 5 37) 6 38) 7 39) 8 41))))] := hD
  refine lv_dup hx hb dM_init_54 rfl ?_
  refine lv_bipush (v := nI 9) hx hb dM_init_55 (by decide) ?_
  refine lv_bipush (v := nI 49) hx hb dM_init_57 (by decide) ?_
  refine za_ist hx hb hK hP hD hS 1 0 rfl rfl (by omega) (by decide) dM_init_59 (fun H locs hP hD hS => ?_)
  have hP : va_P (dC, dI) vwCl [(m0, .inr (4, [.null, .null, .null, .int (nI 0), .int (nI 0), .null, .null, .int (nI 0), .null, .null, .null, .int (nI 0), .int (nI 0), .int (nI 0), .int (nI 0), .int (nI 0), .null])), (q7, .inl (cI, 16, .inl (aN (nup (nup (nup (nup (nup (nup (nup (nup (nup (nup (fun _ => 0) 0 2) 1 3) 2 4) 3 11) 4 32) 5 37) 6 38) 7 39) 8 41) 9 49))))] H := hP
  have hD : va_D A [(m0, .inr (4, [.null, .null, .null, .int (nI 0), .int (nI 0), .null, .null, .int (nI 0), .null, .null, .null, .int (nI 0), .int (nI 0), .int (nI 0), .int (nI 0), .int (nI 0), .null])), (q7, .inl (cI, 16, .inl (aN (nup (nup (nup (nup (nup (nup (nup (nup (nup (nup (fun _ => 0) 0 2) 1 3) 2 4) 3 11) 4 32) 5 37) 6 38) 7 39) 8 41) 9 49))))] := hD
  refine lv_dup hx hb dM_init_60 rfl ?_
  refine lv_bipush (v := nI 10) hx hb dM_init_61 (by decide) ?_
  refine lv_bipush (v := nI 54) hx hb dM_init_63 (by decide) ?_
  refine za_ist hx hb hK hP hD hS 1 0 rfl rfl (by omega) (by decide) dM_init_65 (fun H locs hP hD hS => ?_)
  have hP : va_P (dC, dI) vwCl [(m0, .inr (4, [.null, .null, .null, .int (nI 0), .int (nI 0), .null, .null, .int (nI 0), .null, .null, .null, .int (nI 0), .int (nI 0), .int (nI 0), .int (nI 0), .int (nI 0), .null])), (q7, .inl (cI, 16, .inl (aN (nup (nup (nup (nup (nup (nup (nup (nup (nup (nup (nup (fun _ => 0) 0 2) 1 3) 2 4) 3 11) 4 32) 5 37) 6 38) 7 39) 8 41) 9 49) 10 54))))] H := hP
  have hD : va_D A [(m0, .inr (4, [.null, .null, .null, .int (nI 0), .int (nI 0), .null, .null, .int (nI 0), .null, .null, .null, .int (nI 0), .int (nI 0), .int (nI 0), .int (nI 0), .int (nI 0), .null])), (q7, .inl (cI, 16, .inl (aN (nup (nup (nup (nup (nup (nup (nup (nup (nup (nup (nup (fun _ => 0) 0 2) 1 3) 2 4) 3 11) 4 32) 5 37) 6 38) 7 39) 8 41) 9 49) 10 54))))] := hD
  refine lv_dup hx hb dM_init_66 rfl ?_
  refine lv_bipush (v := nI 11) hx hb dM_init_67 (by decide) ?_
  refine lv_bipush (v := nI 70) hx hb dM_init_69 (by decide) ?_
  refine za_ist hx hb hK hP hD hS 1 0 rfl rfl (by omega) (by decide) dM_init_71 (fun H locs hP hD hS => ?_)
  have hP : va_P (dC, dI) vwCl [(m0, .inr (4, [.null, .null, .null, .int (nI 0), .int (nI 0), .null, .null, .int (nI 0), .null, .null, .null, .int (nI 0), .int (nI 0), .int (nI 0), .int (nI 0), .int (nI 0), .null])), (q7, .inl (cI, 16, .inl (aN (nup (nup (nup (nup (nup (nup (nup (nup (nup (nup (nup (nup (fun _ => 0) 0 2) 1 3) 2 4) 3 11) 4 32) 5 37) 6 38) 7 39) 8 41) 9 49) 10 54) 11 70))))] H := hP
  have hD : va_D A [(m0, .inr (4, [.null, .null, .null, .int (nI 0), .int (nI 0), .null, .null, .int (nI 0), .null, .null, .null, .int (nI 0), .int (nI 0), .int (nI 0), .int (nI 0), .int (nI 0), .null])), (q7, .inl (cI, 16, .inl (aN (nup (nup (nup (nup (nup (nup (nup (nup (nup (nup (nup (nup (fun _ => 0) 0 2) 1 3) 2 4) 3 11) 4 32) 5 37) 6 38) 7 39) 8 41) 9 49) 10 54) 11 70))))] := hD
  refine lv_dup hx hb dM_init_72 rfl ?_
  refine lv_bipush (v := nI 12) hx hb dM_init_73 (by decide) ?_
  refine lv_bipush (v := nI 74) hx hb dM_init_75 (by decide) ?_
  refine za_ist hx hb hK hP hD hS 1 0 rfl rfl (by omega) (by decide) dM_init_77 (fun H locs hP hD hS => ?_)
  have hP : va_P (dC, dI) vwCl [(m0, .inr (4, [.null, .null, .null, .int (nI 0), .int (nI 0), .null, .null, .int (nI 0), .null, .null, .null, .int (nI 0), .int (nI 0), .int (nI 0), .int (nI 0), .int (nI 0), .null])), (q7, .inl (cI, 16, .inl (aN (nup (nup (nup (nup (nup (nup (nup (nup (nup (nup (nup (nup (nup (fun _ => 0) 0 2) 1 3) 2 4) 3 11) 4 32) 5 37) 6 38) 7 39) 8 41) 9 49) 10 54) 11 70) 12 74))))] H := hP
  have hD : va_D A [(m0, .inr (4, [.null, .null, .null, .int (nI 0), .int (nI 0), .null, .null, .int (nI 0), .null, .null, .null, .int (nI 0), .int (nI 0), .int (nI 0), .int (nI 0), .int (nI 0), .null])), (q7, .inl (cI, 16, .inl (aN (nup (nup (nup (nup (nup (nup (nup (nup (nup (nup (nup (nup (nup (fun _ => 0) 0 2) 1 3) 2 4) 3 11) 4 32) 5 37) 6 38) 7 39) 8 41) 9 49) 10 54) 11 70) 12 74))))] := hD
  refine lv_dup hx hb dM_init_78 rfl ?_
  refine lv_bipush (v := nI 13) hx hb dM_init_79 (by decide) ?_
  refine lv_bipush (v := nI 86) hx hb dM_init_81 (by decide) ?_
  refine za_ist hx hb hK hP hD hS 1 0 rfl rfl (by omega) (by decide) dM_init_83 (fun H locs hP hD hS => ?_)
  have hP : va_P (dC, dI) vwCl [(m0, .inr (4, [.null, .null, .null, .int (nI 0), .int (nI 0), .null, .null, .int (nI 0), .null, .null, .null, .int (nI 0), .int (nI 0), .int (nI 0), .int (nI 0), .int (nI 0), .null])), (q7, .inl (cI, 16, .inl (aN (nup (nup (nup (nup (nup (nup (nup (nup (nup (nup (nup (nup (nup (nup (fun _ => 0) 0 2) 1 3) 2 4) 3 11) 4 32) 5 37) 6 38) 7 39) 8 41) 9 49) 10 54) 11 70) 12 74) 13 86))))] H := hP
  have hD : va_D A [(m0, .inr (4, [.null, .null, .null, .int (nI 0), .int (nI 0), .null, .null, .int (nI 0), .null, .null, .null, .int (nI 0), .int (nI 0), .int (nI 0), .int (nI 0), .int (nI 0), .null])), (q7, .inl (cI, 16, .inl (aN (nup (nup (nup (nup (nup (nup (nup (nup (nup (nup (nup (nup (nup (nup (fun _ => 0) 0 2) 1 3) 2 4) 3 11) 4 32) 5 37) 6 38) 7 39) 8 41) 9 49) 10 54) 11 70) 12 74) 13 86))))] := hD
  refine lv_dup hx hb dM_init_84 rfl ?_
  refine lv_bipush (v := nI 14) hx hb dM_init_85 (by decide) ?_
  refine lv_bipush (v := nI 90) hx hb dM_init_87 (by decide) ?_
  refine za_ist hx hb hK hP hD hS 1 0 rfl rfl (by omega) (by decide) dM_init_89 (fun H locs hP hD hS => ?_)
  have hP : va_P (dC, dI) vwCl [(m0, .inr (4, [.null, .null, .null, .int (nI 0), .int (nI 0), .null, .null, .int (nI 0), .null, .null, .null, .int (nI 0), .int (nI 0), .int (nI 0), .int (nI 0), .int (nI 0), .null])), (q7, .inl (cI, 16, .inl (aN (nup (nup (nup (nup (nup (nup (nup (nup (nup (nup (nup (nup (nup (nup (nup (fun _ => 0) 0 2) 1 3) 2 4) 3 11) 4 32) 5 37) 6 38) 7 39) 8 41) 9 49) 10 54) 11 70) 12 74) 13 86) 14 90))))] H := hP
  have hD : va_D A [(m0, .inr (4, [.null, .null, .null, .int (nI 0), .int (nI 0), .null, .null, .int (nI 0), .null, .null, .null, .int (nI 0), .int (nI 0), .int (nI 0), .int (nI 0), .int (nI 0), .null])), (q7, .inl (cI, 16, .inl (aN (nup (nup (nup (nup (nup (nup (nup (nup (nup (nup (nup (nup (nup (nup (nup (fun _ => 0) 0 2) 1 3) 2 4) 3 11) 4 32) 5 37) 6 38) 7 39) 8 41) 9 49) 10 54) 11 70) 12 74) 13 86) 14 90))))] := hD
  refine lv_dup hx hb dM_init_90 rfl ?_
  refine lv_bipush (v := nI 15) hx hb dM_init_91 (by decide) ?_
  refine lv_bipush (v := nI 95) hx hb dM_init_93 (by decide) ?_
  refine za_ist hx hb hK hP hD hS 1 0 rfl rfl (by omega) (by decide) dM_init_95 (fun H locs hP hD hS => ?_)
  have hP : va_P (dC, dI) vwCl [(m0, .inr (4, [.null, .null, .null, .int (nI 0), .int (nI 0), .null, .null, .int (nI 0), .null, .null, .null, .int (nI 0), .int (nI 0), .int (nI 0), .int (nI 0), .int (nI 0), .null])), (q7, .inl (cI, 16, .inl (aN (nup (nup (nup (nup (nup (nup (nup (nup (nup (nup (nup (nup (nup (nup (nup (nup (fun _ => 0) 0 2) 1 3) 2 4) 3 11) 4 32) 5 37) 6 38) 7 39) 8 41) 9 49) 10 54) 11 70) 12 74) 13 86) 14 90) 15 95))))] H := hP
  have hD : va_D A [(m0, .inr (4, [.null, .null, .null, .int (nI 0), .int (nI 0), .null, .null, .int (nI 0), .null, .null, .null, .int (nI 0), .int (nI 0), .int (nI 0), .int (nI 0), .int (nI 0), .null])), (q7, .inl (cI, 16, .inl (aN (nup (nup (nup (nup (nup (nup (nup (nup (nup (nup (nup (nup (nup (nup (nup (nup (fun _ => 0) 0 2) 1 3) 2 4) 3 11) 4 32) 5 37) 6 38) 7 39) 8 41) 9 49) 10 54) 11 70) 12 74) 13 86) 14 90) 15 95))))] := hD
  rw [fFI_n] at hP hD
  have hP : va_P (dC, dI) vwCl [(m0, .inr (4, [.null, .null, .null, .int (nI 0), .int (nI 0), .null, .null, .int (nI 0), .null, .null, .null, .int (nI 0), .int (nI 0), .int (nI 0), .int (nI 0), .int (nI 0), .null])), (q7, .inl (cI, 16, .inl (aN fFI)))] H := hP
  have hD : va_D A [(m0, .inr (4, [.null, .null, .null, .int (nI 0), .int (nI 0), .null, .null, .int (nI 0), .null, .null, .null, .int (nI 0), .int (nI 0), .int (nI 0), .int (nI 0), .int (nI 0), .null])), (q7, .inl (cI, 16, .inl (aN fFI)))] := hD
  refine va_putF (D := (dC, dI)) (ci := 4) (v := .ref q7) (ty := .array .int) (C := RM) (T := TM) (N := 17) hx hb hw inM tyM tyM_ok nmM hown hK hP hD hS 0 rfl rfl 0 (by decide) (hw _ w_fl_M_7) (fun _ h9 => h9) rfl hin rfl (by decide +kernel) rfl rfl (Nat.le_of_ble_eq_true rfl) dM_init_96 (fun H locs hP hD hS => ?_)
  have hP : va_P (dC, dI) vwCl [(m0, .inr (4, [.ref q7, .null, .null, .int (nI 0), .int (nI 0), .null, .null, .int (nI 0), .null, .null, .null, .int (nI 0), .int (nI 0), .int (nI 0), .int (nI 0), .int (nI 0), .null])), (q7, .inl (cI, 16, .inl (aN fFI)))] H := hP
  have hD : va_D A [(m0, .inr (4, [.ref q7, .null, .null, .int (nI 0), .int (nI 0), .null, .null, .int (nI 0), .null, .null, .null, .int (nI 0), .int (nI 0), .int (nI 0), .int (nI 0), .int (nI 0), .null])), (q7, .inl (cI, 16, .inl (aN fFI)))] := hD
  refine lv_aload_n hx hb dM_init_99 rfl (lv_at hl 0 rfl) ?_
  refine lv_bipush (v := nI 16) hx hb dM_init_100 (by decide) ?_
  refine za_new (n := 16) (f9 := aN (fun _ => 0)) hx hb (hw _ w_ac_int) rfl hK hP hD hS hA 0 rfl (aN_0) (by decide) rfl (by decide) (Nat.le_of_ble_eq_true rfl) (Nat.le_of_ble_eq_true rfl) dM_init_102 (fun q102 H hP hD hS => ?_)
  have hP : va_P (dC, dI) vwCl [(m0, .inr (4, [.ref q7, .null, .null, .int (nI 0), .int (nI 0), .null, .null, .int (nI 0), .null, .null, .null, .int (nI 0), .int (nI 0), .int (nI 0), .int (nI 0), .int (nI 0), .null])), (q7, .inl (cI, 16, .inl (aN fFI))), (q102, .inl (cI, 16, .inl (aN (fun _ => 0))))] H := hP
  have hD : va_D A [(m0, .inr (4, [.ref q7, .null, .null, .int (nI 0), .int (nI 0), .null, .null, .int (nI 0), .null, .null, .null, .int (nI 0), .int (nI 0), .int (nI 0), .int (nI 0), .int (nI 0), .null])), (q7, .inl (cI, 16, .inl (aN fFI))), (q102, .inl (cI, 16, .inl (aN (fun _ => 0))))] := hD
  refine lv_dup hx hb dM_init_104 rfl ?_
  refine lv_iconst (v := nI 0) hx hb dM_init_105 (by decide) ?_
  refine lv_bipush (v := nI 19) hx hb dM_init_106 (by decide) ?_
  refine za_ist hx hb hK hP hD hS 2 0 rfl rfl (by omega) (by decide) dM_init_108 (fun H locs hP hD hS => ?_)
  have hP : va_P (dC, dI) vwCl [(m0, .inr (4, [.ref q7, .null, .null, .int (nI 0), .int (nI 0), .null, .null, .int (nI 0), .null, .null, .null, .int (nI 0), .int (nI 0), .int (nI 0), .int (nI 0), .int (nI 0), .null])), (q7, .inl (cI, 16, .inl (aN fFI))), (q102, .inl (cI, 16, .inl (aN (nup (fun _ => 0) 0 19))))] H := hP
  have hD : va_D A [(m0, .inr (4, [.ref q7, .null, .null, .int (nI 0), .int (nI 0), .null, .null, .int (nI 0), .null, .null, .null, .int (nI 0), .int (nI 0), .int (nI 0), .int (nI 0), .int (nI 0), .null])), (q7, .inl (cI, 16, .inl (aN fFI))), (q102, .inl (cI, 16, .inl (aN (nup (fun _ => 0) 0 19))))] := hD
  refine lv_dup hx hb dM_init_109 rfl ?_
  refine lv_iconst (v := nI 1) hx hb dM_init_110 (by decide) ?_
  refine lv_bipush (v := nI 6) hx hb dM_init_111 (by decide) ?_
  refine za_ist hx hb hK hP hD hS 2 0 rfl rfl (by omega) (by decide) dM_init_113 (fun H locs hP hD hS => ?_)
  have hP : va_P (dC, dI) vwCl [(m0, .inr (4, [.ref q7, .null, .null, .int (nI 0), .int (nI 0), .null, .null, .int (nI 0), .null, .null, .null, .int (nI 0), .int (nI 0), .int (nI 0), .int (nI 0), .int (nI 0), .null])), (q7, .inl (cI, 16, .inl (aN fFI))), (q102, .inl (cI, 16, .inl (aN (nup (nup (fun _ => 0) 0 19) 1 6))))] H := hP
  have hD : va_D A [(m0, .inr (4, [.ref q7, .null, .null, .int (nI 0), .int (nI 0), .null, .null, .int (nI 0), .null, .null, .null, .int (nI 0), .int (nI 0), .int (nI 0), .int (nI 0), .int (nI 0), .null])), (q7, .inl (cI, 16, .inl (aN fFI))), (q102, .inl (cI, 16, .inl (aN (nup (nup (fun _ => 0) 0 19) 1 6))))] := hD
  refine lv_dup hx hb dM_init_114 rfl ?_
  refine lv_iconst (v := nI 2) hx hb dM_init_115 (by decide) ?_
  refine lv_bipush (v := nI 12) hx hb dM_init_116 (by decide) ?_
  refine za_ist hx hb hK hP hD hS 2 0 rfl rfl (by omega) (by decide) dM_init_118 (fun H locs hP hD hS => ?_)
  have hP : va_P (dC, dI) vwCl [(m0, .inr (4, [.ref q7, .null, .null, .int (nI 0), .int (nI 0), .null, .null, .int (nI 0), .null, .null, .null, .int (nI 0), .int (nI 0), .int (nI 0), .int (nI 0), .int (nI 0), .null])), (q7, .inl (cI, 16, .inl (aN fFI))), (q102, .inl (cI, 16, .inl (aN (nup (nup (nup (fun _ => 0) 0 19) 1 6) 2 12))))] H := hP
  have hD : va_D A [(m0, .inr (4, [.ref q7, .null, .null, .int (nI 0), .int (nI 0), .null, .null, .int (nI 0), .null, .null, .null, .int (nI 0), .int (nI 0), .int (nI 0), .int (nI 0), .int (nI 0), .null])), (q7, .inl (cI, 16, .inl (aN fFI))), (q102, .inl (cI, 16, .inl (aN (nup (nup (nup (fun _ => 0) 0 19) 1 6) 2 12))))] := hD
  refine lv_dup hx hb dM_init_119 rfl ?_
  refine lv_iconst (v := nI 3) hx hb dM_init_120 (by decide) ?_
  refine lv_bipush (v := nI 6) hx hb dM_init_121 (by decide) ?_
  refine za_ist hx hb hK hP hD hS 2 0 rfl rfl (by omega) (by decide) dM_init_123 (fun H locs hP hD hS => ?_)
  have hP : va_P (dC, dI) vwCl [(m0, .inr (4, [.ref q7, .null, .null, .int (nI 0), .int (nI 0), .null, .null, .int (nI 0), .null, .null, .null, .int (nI 0), .int (nI 0), .int (nI 0), .int (nI 0), .int (nI 0), .null])), (q7, .inl (cI, 16, .inl (aN fFI))), (q102, .inl (cI, 16, .inl (aN (nup (nup (nup (nup (fun _ => 0) 0 19) 1 6) 2 12) 3 6))))] H := hP
  have hD : va_D A [(m0, .inr (4, [.ref q7, .null, .null, .int (nI 0), .int (nI 0), .null, .null, .int (nI 0), .null, .null, .null, .int (nI 0), .int (nI 0), .int (nI 0), .int (nI 0), .int (nI 0), .null])), (q7, .inl (cI, 16, .inl (aN fFI))), (q102, .inl (cI, 16, .inl (aN (nup (nup (nup (nup (fun _ => 0) 0 19) 1 6) 2 12) 3 6))))] := hD
  refine lv_dup hx hb dM_init_124 rfl ?_
  refine lv_iconst (v := nI 4) hx hb dM_init_125 (by decide) ?_
  refine lv_bipush (v := nI 11) hx hb dM_init_126 (by decide) ?_
  refine za_ist hx hb hK hP hD hS 2 0 rfl rfl (by omega) (by decide) dM_init_128 (fun H locs hP hD hS => ?_)
  have hP : va_P (dC, dI) vwCl [(m0, .inr (4, [.ref q7, .null, .null, .int (nI 0), .int (nI 0), .null, .null, .int (nI 0), .null, .null, .null, .int (nI 0), .int (nI 0), .int (nI 0), .int (nI 0), .int (nI 0), .null])), (q7, .inl (cI, 16, .inl (aN fFI))), (q102, .inl (cI, 16, .inl (aN (nup (nup (nup (nup (nup (fun _ => 0) 0 19) 1 6) 2 12) 3 6) 4 11))))] H := hP
  have hD : va_D A [(m0, .inr (4, [.ref q7, .null, .null, .int (nI 0), .int (nI 0), .null, .null, .int (nI 0), .null, .null, .null, .int (nI 0), .int (nI 0), .int (nI 0), .int (nI 0), .int (nI 0), .null])), (q7, .inl (cI, 16, .inl (aN fFI))), (q102, .inl (cI, 16, .inl (aN (nup (nup (nup (nup (nup (fun _ => 0) 0 19) 1 6) 2 12) 3 6) 4 11))))] := hD
  refine lv_dup hx hb dM_init_129 rfl ?_
  refine lv_iconst (v := nI 5) hx hb dM_init_130 (by decide) ?_
  refine lv_bipush (v := nI 12) hx hb dM_init_131 (by decide) ?_
  refine za_ist hx hb hK hP hD hS 2 0 rfl rfl (by omega) (by decide) dM_init_133 (fun H locs hP hD hS => ?_)
  have hP : va_P (dC, dI) vwCl [(m0, .inr (4, [.ref q7, .null, .null, .int (nI 0), .int (nI 0), .null, .null, .int (nI 0), .null, .null, .null, .int (nI 0), .int (nI 0), .int (nI 0), .int (nI 0), .int (nI 0), .null])), (q7, .inl (cI, 16, .inl (aN fFI))), (q102, .inl (cI, 16, .inl (aN (nup (nup (nup (nup (nup (nup (fun _ => 0) 0 19) 1 6) 2 12) 3 6) 4 11) 5 12))))] H := hP
  have hD : va_D A [(m0, .inr (4, [.ref q7, .null, .null, .int (nI 0), .int (nI 0), .null, .null, .int (nI 0), .null, .null, .null, .int (nI 0), .int (nI 0), .int (nI 0), .int (nI 0), .int (nI 0), .null])), (q7, .inl (cI, 16, .inl (aN fFI))), (q102, .inl (cI, 16, .inl (aN (nup (nup (nup (nup (nup (nup (fun _ => 0) 0 19) 1 6) 2 12) 3 6) 4 11) 5 12))))] := hD
  refine lv_dup hx hb dM_init_134 rfl ?_
  refine lv_bipush (v := nI 6) hx hb dM_init_135 (by decide) ?_
  refine lv_bipush (v := nI 6) hx hb dM_init_137 (by decide) ?_
  refine za_ist hx hb hK hP hD hS 2 0 rfl rfl (by omega) (by decide) dM_init_139 (fun H locs hP hD hS => ?_)
  have hP : va_P (dC, dI) vwCl [(m0, .inr (4, [.ref q7, .null, .null, .int (nI 0), .int (nI 0), .null, .null, .int (nI 0), .null, .null, .null, .int (nI 0), .int (nI 0), .int (nI 0), .int (nI 0), .int (nI 0), .null])), (q7, .inl (cI, 16, .inl (aN fFI))), (q102, .inl (cI, 16, .inl (aN (nup (nup (nup (nup (nup (nup (nup (fun _ => 0) 0 19) 1 6) 2 12) 3 6) 4 11) 5 12) 6 6))))] H := hP
  have hD : va_D A [(m0, .inr (4, [.ref q7, .null, .null, .int (nI 0), .int (nI 0), .null, .null, .int (nI 0), .null, .null, .null, .int (nI 0), .int (nI 0), .int (nI 0), .int (nI 0), .int (nI 0), .null])), (q7, .inl (cI, 16, .inl (aN fFI))), (q102, .inl (cI, 16, .inl (aN (nup (nup (nup (nup (nup (nup (nup (fun _ => 0) 0 19) 1 6) 2 12) 3 6) 4 11) 5 12) 6 6))))] := hD
  refine lv_dup hx hb dM_init_140 rfl ?_
  refine lv_bipush (v := nI 7) hx hb dM_init_141 (by decide) ?_
  refine lv_iconst (v := nI 2) hx hb dM_init_143 (by decide) ?_
  refine za_ist hx hb hK hP hD hS 2 0 rfl rfl (by omega) (by decide) dM_init_144 (fun H locs hP hD hS => ?_)
  have hP : va_P (dC, dI) vwCl [(m0, .inr (4, [.ref q7, .null, .null, .int (nI 0), .int (nI 0), .null, .null, .int (nI 0), .null, .null, .null, .int (nI 0), .int (nI 0), .int (nI 0), .int (nI 0), .int (nI 0), .null])), (q7, .inl (cI, 16, .inl (aN fFI))), (q102, .inl (cI, 16, .inl (aN (nup (nup (nup (nup (nup (nup (nup (nup (fun _ => 0) 0 19) 1 6) 2 12) 3 6) 4 11) 5 12) 6 6) 7 2))))] H := hP
  have hD : va_D A [(m0, .inr (4, [.ref q7, .null, .null, .int (nI 0), .int (nI 0), .null, .null, .int (nI 0), .null, .null, .null, .int (nI 0), .int (nI 0), .int (nI 0), .int (nI 0), .int (nI 0), .null])), (q7, .inl (cI, 16, .inl (aN fFI))), (q102, .inl (cI, 16, .inl (aN (nup (nup (nup (nup (nup (nup (nup (nup (fun _ => 0) 0 19) 1 6) 2 12) 3 6) 4 11) 5 12) 6 6) 7 2))))] := hD
  refine lv_dup hx hb dM_init_145 rfl ?_
  refine lv_bipush (v := nI 8) hx hb dM_init_146 (by decide) ?_
  refine lv_bipush (v := nI 8) hx hb dM_init_148 (by decide) ?_
  refine za_ist hx hb hK hP hD hS 2 0 rfl rfl (by omega) (by decide) dM_init_150 (fun H locs hP hD hS => ?_)
  have hP : va_P (dC, dI) vwCl [(m0, .inr (4, [.ref q7, .null, .null, .int (nI 0), .int (nI 0), .null, .null, .int (nI 0), .null, .null, .null, .int (nI 0), .int (nI 0), .int (nI 0), .int (nI 0), .int (nI 0), .null])), (q7, .inl (cI, 16, .inl (aN fFI))), (q102, .inl (cI, 16, .inl (aN (nup (nup (nup (nup (nup (nup (nup (nup (nup (fun _ => 0) 0 19) 1 6) 2 12) 3 6) 4 11) 5 12) 6 6) 7 2) 8 8))))] H := hP
  have hD : va_D A [(m0, .inr (4, [.ref q7, .null, .null, .int (nI 0), .int (nI 0), .null, .null, .int (nI 0), .null, .null, .null, .int (nI 0), .int (nI 0), .int (nI 0), .int (nI 0), .int (nI 0), .null])), (q7, .inl (cI, 16, .inl (aN fFI))), (q102, .inl (cI, 16, .inl (aN (nup (nup (nup (nup (nup (nup (nup (nup (nup (fun _ => 0) 0 19) 1 6) 2 12) 3 6) 4 11) 5 12) 6 6) 7 2) 8 8))))] := hD
  refine lv_dup hx hb dM_init_151 rfl ?_
  refine lv_bipush (v := nI 9) hx hb dM_init_152 (by decide) ?_
  refine lv_iconst (v := nI 3) hx hb dM_init_154 (by decide) ?_
  refine za_ist hx hb hK hP hD hS 2 0 rfl rfl (by omega) (by decide) dM_init_155 (fun H locs hP hD hS => ?_)
  have hP : va_P (dC, dI) vwCl [(m0, .inr (4, [.ref q7, .null, .null, .int (nI 0), .int (nI 0), .null, .null, .int (nI 0), .null, .null, .null, .int (nI 0), .int (nI 0), .int (nI 0), .int (nI 0), .int (nI 0), .null])), (q7, .inl (cI, 16, .inl (aN fFI))), (q102, .inl (cI, 16, .inl (aN (nup (nup (nup (nup (nup (nup (nup (nup (nup (nup (fun _ => 0) 0 19) 1 6) 2 12) 3 6) 4 11) 5 12) 6 6) 7 2) 8 8) 9 3))))] H := hP
  have hD : va_D A [(m0, .inr (4, [.ref q7, .null, .null, .int (nI 0), .int (nI 0), .null, .null, .int (nI 0), .null, .null, .null, .int (nI 0), .int (nI 0), .int (nI 0), .int (nI 0), .int (nI 0), .null])), (q7, .inl (cI, 16, .inl (aN fFI))), (q102, .inl (cI, 16, .inl (aN (nup (nup (nup (nup (nup (nup (nup (nup (nup (nup (fun _ => 0) 0 19) 1 6) 2 12) 3 6) 4 11) 5 12) 6 6) 7 2) 8 8) 9 3))))] := hD
  refine lv_dup hx hb dM_init_156 rfl ?_
  refine lv_bipush (v := nI 10) hx hb dM_init_157 (by decide) ?_
  refine lv_bipush (v := nI 40) hx hb dM_init_159 (by decide) ?_
  refine za_ist hx hb hK hP hD hS 2 0 rfl rfl (by omega) (by decide) dM_init_161 (fun H locs hP hD hS => ?_)
  have hP : va_P (dC, dI) vwCl [(m0, .inr (4, [.ref q7, .null, .null, .int (nI 0), .int (nI 0), .null, .null, .int (nI 0), .null, .null, .null, .int (nI 0), .int (nI 0), .int (nI 0), .int (nI 0), .int (nI 0), .null])), (q7, .inl (cI, 16, .inl (aN fFI))), (q102, .inl (cI, 16, .inl (aN (nup (nup (nup (nup (nup (nup (nup (nup (nup (nup (nup (fun _ => 0) 0 19) 1 6) 2 12) 3 6) 4 11) 5 12) 6 6) 7 2) 8 8) 9 3) 10 40))))] H := hP
  have hD : va_D A [(m0, .inr (4, [.ref q7, .null, .null, .int (nI 0), .int (nI 0), .null, .null, .int (nI 0), .null, .null, .null, .int (nI 0), .int (nI 0), .int (nI 0), .int (nI 0), .int (nI 0), .null])), (q7, .inl (cI, 16, .inl (aN fFI))), (q102, .inl (cI, 16, .inl (aN (nup (nup (nup (nup (nup (nup (nup (nup (nup (nup (nup (fun _ => 0) 0 19) 1 6) 2 12) 3 6) 4 11) 5 12) 6 6) 7 2) 8 8) 9 3) 10 40))))] := hD
  refine lv_dup hx hb dM_init_162 rfl ?_
  refine lv_bipush (v := nI 11) hx hb dM_init_163 (by decide) ?_
  refine lv_iconst (v := nI 3) hx hb dM_init_165 (by decide) ?_
  refine za_ist hx hb hK hP hD hS 2 0 rfl rfl (by omega) (by decide) dM_init_166 (fun H locs hP hD hS => ?_)
  have hP : va_P (dC, dI) vwCl [(m0, .inr (4, [.ref q7, .null, .null, .int (nI 0), .int (nI 0), .null, .null, .int (nI 0), .null, .null, .null, .int (nI 0), .int (nI 0), .int (nI 0), .int (nI 0), .int (nI 0), .null])), (q7, .inl (cI, 16, .inl (aN fFI))), (q102, .inl (cI, 16, .inl (aN (nup (nup (nup (nup (nup (nup (nup (nup (nup (nup (nup (nup (fun _ => 0) 0 19) 1 6) 2 12) 3 6) 4 11) 5 12) 6 6) 7 2) 8 8) 9 3) 10 40) 11 3))))] H := hP
  have hD : va_D A [(m0, .inr (4, [.ref q7, .null, .null, .int (nI 0), .int (nI 0), .null, .null, .int (nI 0), .null, .null, .null, .int (nI 0), .int (nI 0), .int (nI 0), .int (nI 0), .int (nI 0), .null])), (q7, .inl (cI, 16, .inl (aN fFI))), (q102, .inl (cI, 16, .inl (aN (nup (nup (nup (nup (nup (nup (nup (nup (nup (nup (nup (nup (fun _ => 0) 0 19) 1 6) 2 12) 3 6) 4 11) 5 12) 6 6) 7 2) 8 8) 9 3) 10 40) 11 3))))] := hD
  refine lv_dup hx hb dM_init_167 rfl ?_
  refine lv_bipush (v := nI 12) hx hb dM_init_168 (by decide) ?_
  refine lv_bipush (v := nI 10) hx hb dM_init_170 (by decide) ?_
  refine za_ist hx hb hK hP hD hS 2 0 rfl rfl (by omega) (by decide) dM_init_172 (fun H locs hP hD hS => ?_)
  have hP : va_P (dC, dI) vwCl [(m0, .inr (4, [.ref q7, .null, .null, .int (nI 0), .int (nI 0), .null, .null, .int (nI 0), .null, .null, .null, .int (nI 0), .int (nI 0), .int (nI 0), .int (nI 0), .int (nI 0), .null])), (q7, .inl (cI, 16, .inl (aN fFI))), (q102, .inl (cI, 16, .inl (aN (nup (nup (nup (nup (nup (nup (nup (nup (nup (nup (nup (nup (nup (fun _ => 0) 0 19) 1 6) 2 12) 3 6) 4 11) 5 12) 6 6) 7 2) 8 8) 9 3) 10 40) 11 3) 12 10))))] H := hP
  have hD : va_D A [(m0, .inr (4, [.ref q7, .null, .null, .int (nI 0), .int (nI 0), .null, .null, .int (nI 0), .null, .null, .null, .int (nI 0), .int (nI 0), .int (nI 0), .int (nI 0), .int (nI 0), .null])), (q7, .inl (cI, 16, .inl (aN fFI))), (q102, .inl (cI, 16, .inl (aN (nup (nup (nup (nup (nup (nup (nup (nup (nup (nup (nup (nup (nup (fun _ => 0) 0 19) 1 6) 2 12) 3 6) 4 11) 5 12) 6 6) 7 2) 8 8) 9 3) 10 40) 11 3) 12 10))))] := hD
  refine lv_dup hx hb dM_init_173 rfl ?_
  refine lv_bipush (v := nI 13) hx hb dM_init_174 (by decide) ?_
  refine lv_bipush (v := nI 16) hx hb dM_init_176 (by decide) ?_
  refine za_ist hx hb hK hP hD hS 2 0 rfl rfl (by omega) (by decide) dM_init_178 (fun H locs hP hD hS => ?_)
  have hP : va_P (dC, dI) vwCl [(m0, .inr (4, [.ref q7, .null, .null, .int (nI 0), .int (nI 0), .null, .null, .int (nI 0), .null, .null, .null, .int (nI 0), .int (nI 0), .int (nI 0), .int (nI 0), .int (nI 0), .null])), (q7, .inl (cI, 16, .inl (aN fFI))), (q102, .inl (cI, 16, .inl (aN (nup (nup (nup (nup (nup (nup (nup (nup (nup (nup (nup (nup (nup (nup (fun _ => 0) 0 19) 1 6) 2 12) 3 6) 4 11) 5 12) 6 6) 7 2) 8 8) 9 3) 10 40) 11 3) 12 10) 13 16))))] H := hP
  have hD : va_D A [(m0, .inr (4, [.ref q7, .null, .null, .int (nI 0), .int (nI 0), .null, .null, .int (nI 0), .null, .null, .null, .int (nI 0), .int (nI 0), .int (nI 0), .int (nI 0), .int (nI 0), .null])), (q7, .inl (cI, 16, .inl (aN fFI))), (q102, .inl (cI, 16, .inl (aN (nup (nup (nup (nup (nup (nup (nup (nup (nup (nup (nup (nup (nup (nup (fun _ => 0) 0 19) 1 6) 2 12) 3 6) 4 11) 5 12) 6 6) 7 2) 8 8) 9 3) 10 40) 11 3) 12 10) 13 16))))] := hD
  refine lv_dup hx hb dM_init_179 rfl ?_
  refine lv_bipush (v := nI 14) hx hb dM_init_180 (by decide) ?_
  refine lv_bipush (v := nI 42) hx hb dM_init_182 (by decide) ?_
  refine za_ist hx hb hK hP hD hS 2 0 rfl rfl (by omega) (by decide) dM_init_184 (fun H locs hP hD hS => ?_)
  have hP : va_P (dC, dI) vwCl [(m0, .inr (4, [.ref q7, .null, .null, .int (nI 0), .int (nI 0), .null, .null, .int (nI 0), .null, .null, .null, .int (nI 0), .int (nI 0), .int (nI 0), .int (nI 0), .int (nI 0), .null])), (q7, .inl (cI, 16, .inl (aN fFI))), (q102, .inl (cI, 16, .inl (aN (nup (nup (nup (nup (nup (nup (nup (nup (nup (nup (nup (nup (nup (nup (nup (fun _ => 0) 0 19) 1 6) 2 12) 3 6) 4 11) 5 12) 6 6) 7 2) 8 8) 9 3) 10 40) 11 3) 12 10) 13 16) 14 42))))] H := hP
  have hD : va_D A [(m0, .inr (4, [.ref q7, .null, .null, .int (nI 0), .int (nI 0), .null, .null, .int (nI 0), .null, .null, .null, .int (nI 0), .int (nI 0), .int (nI 0), .int (nI 0), .int (nI 0), .null])), (q7, .inl (cI, 16, .inl (aN fFI))), (q102, .inl (cI, 16, .inl (aN (nup (nup (nup (nup (nup (nup (nup (nup (nup (nup (nup (nup (nup (nup (nup (fun _ => 0) 0 19) 1 6) 2 12) 3 6) 4 11) 5 12) 6 6) 7 2) 8 8) 9 3) 10 40) 11 3) 12 10) 13 16) 14 42))))] := hD
  refine lv_dup hx hb dM_init_185 rfl ?_
  refine lv_bipush (v := nI 15) hx hb dM_init_186 (by decide) ?_
  refine lv_bipush (v := nI 12) hx hb dM_init_188 (by decide) ?_
  refine za_ist hx hb hK hP hD hS 2 0 rfl rfl (by omega) (by decide) dM_init_190 (fun H locs hP hD hS => ?_)
  have hP : va_P (dC, dI) vwCl [(m0, .inr (4, [.ref q7, .null, .null, .int (nI 0), .int (nI 0), .null, .null, .int (nI 0), .null, .null, .null, .int (nI 0), .int (nI 0), .int (nI 0), .int (nI 0), .int (nI 0), .null])), (q7, .inl (cI, 16, .inl (aN fFI))), (q102, .inl (cI, 16, .inl (aN (nup (nup (nup (nup (nup (nup (nup (nup (nup (nup (nup (nup (nup (nup (nup (nup (fun _ => 0) 0 19) 1 6) 2 12) 3 6) 4 11) 5 12) 6 6) 7 2) 8 8) 9 3) 10 40) 11 3) 12 10) 13 16) 14 42) 15 12))))] H := hP
  have hD : va_D A [(m0, .inr (4, [.ref q7, .null, .null, .int (nI 0), .int (nI 0), .null, .null, .int (nI 0), .null, .null, .null, .int (nI 0), .int (nI 0), .int (nI 0), .int (nI 0), .int (nI 0), .null])), (q7, .inl (cI, 16, .inl (aN fFI))), (q102, .inl (cI, 16, .inl (aN (nup (nup (nup (nup (nup (nup (nup (nup (nup (nup (nup (nup (nup (nup (nup (nup (fun _ => 0) 0 19) 1 6) 2 12) 3 6) 4 11) 5 12) 6 6) 7 2) 8 8) 9 3) 10 40) 11 3) 12 10) 13 16) 14 42) 15 12))))] := hD
  rw [fMM_n] at hP hD
  have hP : va_P (dC, dI) vwCl [(m0, .inr (4, [.ref q7, .null, .null, .int (nI 0), .int (nI 0), .null, .null, .int (nI 0), .null, .null, .null, .int (nI 0), .int (nI 0), .int (nI 0), .int (nI 0), .int (nI 0), .null])), (q7, .inl (cI, 16, .inl (aN fFI))), (q102, .inl (cI, 16, .inl (aN fMM)))] H := hP
  have hD : va_D A [(m0, .inr (4, [.ref q7, .null, .null, .int (nI 0), .int (nI 0), .null, .null, .int (nI 0), .null, .null, .null, .int (nI 0), .int (nI 0), .int (nI 0), .int (nI 0), .int (nI 0), .null])), (q7, .inl (cI, 16, .inl (aN fFI))), (q102, .inl (cI, 16, .inl (aN fMM)))] := hD
  refine va_putF (D := (dC, dI)) (ci := 4) (v := .ref q102) (ty := .array .int) (C := RM) (T := TM) (N := 17) hx hb hw inM tyM tyM_ok nmM hown hK hP hD hS 0 rfl rfl 1 (by decide) (hw _ w_fl_M_13) (fun _ h9 => h9) rfl hin rfl (by decide +kernel) rfl rfl (Nat.le_of_ble_eq_true rfl) dM_init_191 (fun H locs hP hD hS => ?_)
  have hP : va_P (dC, dI) vwCl [(m0, .inr (4, [.ref q7, .ref q102, .null, .int (nI 0), .int (nI 0), .null, .null, .int (nI 0), .null, .null, .null, .int (nI 0), .int (nI 0), .int (nI 0), .int (nI 0), .int (nI 0), .null])), (q7, .inl (cI, 16, .inl (aN fFI))), (q102, .inl (cI, 16, .inl (aN fMM)))] H := hP
  have hD : va_D A [(m0, .inr (4, [.ref q7, .ref q102, .null, .int (nI 0), .int (nI 0), .null, .null, .int (nI 0), .null, .null, .null, .int (nI 0), .int (nI 0), .int (nI 0), .int (nI 0), .int (nI 0), .null])), (q7, .inl (cI, 16, .inl (aN fFI))), (q102, .inl (cI, 16, .inl (aN fMM)))] := hD
  refine lv_aload_n hx hb dM_init_194 rfl (lv_at hl 0 rfl) ?_
  refine lv_bipush (v := nI 16) hx hb dM_init_195 (by decide) ?_
  refine za_new (n := 16) (f9 := aN (fun _ => 0)) hx hb (hw _ w_ac_int) rfl hK hP hD hS hA 0 rfl (aN_0) (by decide) rfl (by decide) (Nat.le_of_ble_eq_true rfl) (Nat.le_of_ble_eq_true rfl) dM_init_197 (fun q197 H hP hD hS => ?_)
  have hP : va_P (dC, dI) vwCl [(m0, .inr (4, [.ref q7, .ref q102, .null, .int (nI 0), .int (nI 0), .null, .null, .int (nI 0), .null, .null, .null, .int (nI 0), .int (nI 0), .int (nI 0), .int (nI 0), .int (nI 0), .null])), (q7, .inl (cI, 16, .inl (aN fFI))), (q102, .inl (cI, 16, .inl (aN fMM))), (q197, .inl (cI, 16, .inl (aN (fun _ => 0))))] H := hP
  have hD : va_D A [(m0, .inr (4, [.ref q7, .ref q102, .null, .int (nI 0), .int (nI 0), .null, .null, .int (nI 0), .null, .null, .null, .int (nI 0), .int (nI 0), .int (nI 0), .int (nI 0), .int (nI 0), .null])), (q7, .inl (cI, 16, .inl (aN fFI))), (q102, .inl (cI, 16, .inl (aN fMM))), (q197, .inl (cI, 16, .inl (aN (fun _ => 0))))] := hD
  refine lv_dup hx hb dM_init_199 rfl ?_
  refine lv_iconst (v := nI 0) hx hb dM_init_200 (by decide) ?_
  refine lv_iconst (v := nI 1) hx hb dM_init_201 (by decide) ?_
  refine za_ist hx hb hK hP hD hS 3 0 rfl rfl (by omega) (by decide) dM_init_202 (fun H locs hP hD hS => ?_)
  have hP : va_P (dC, dI) vwCl [(m0, .inr (4, [.ref q7, .ref q102, .null, .int (nI 0), .int (nI 0), .null, .null, .int (nI 0), .null, .null, .null, .int (nI 0), .int (nI 0), .int (nI 0), .int (nI 0), .int (nI 0), .null])), (q7, .inl (cI, 16, .inl (aN fFI))), (q102, .inl (cI, 16, .inl (aN fMM))), (q197, .inl (cI, 16, .inl (aN (nup (fun _ => 0) 0 1))))] H := hP
  have hD : va_D A [(m0, .inr (4, [.ref q7, .ref q102, .null, .int (nI 0), .int (nI 0), .null, .null, .int (nI 0), .null, .null, .null, .int (nI 0), .int (nI 0), .int (nI 0), .int (nI 0), .int (nI 0), .null])), (q7, .inl (cI, 16, .inl (aN fFI))), (q102, .inl (cI, 16, .inl (aN fMM))), (q197, .inl (cI, 16, .inl (aN (nup (fun _ => 0) 0 1))))] := hD
  refine lv_dup hx hb dM_init_203 rfl ?_
  refine lv_iconst (v := nI 1) hx hb dM_init_204 (by decide) ?_
  refine lv_iconst (v := nI 0) hx hb dM_init_205 (by decide) ?_
  refine za_ist hx hb hK hP hD hS 3 0 rfl rfl (by omega) (by decide) dM_init_206 (fun H locs hP hD hS => ?_)
  have hP : va_P (dC, dI) vwCl [(m0, .inr (4, [.ref q7, .ref q102, .null, .int (nI 0), .int (nI 0), .null, .null, .int (nI 0), .null, .null, .null, .int (nI 0), .int (nI 0), .int (nI 0), .int (nI 0), .int (nI 0), .null])), (q7, .inl (cI, 16, .inl (aN fFI))), (q102, .inl (cI, 16, .inl (aN fMM))), (q197, .inl (cI, 16, .inl (aN (nup (nup (fun _ => 0) 0 1) 1 0))))] H := hP
  have hD : va_D A [(m0, .inr (4, [.ref q7, .ref q102, .null, .int (nI 0), .int (nI 0), .null, .null, .int (nI 0), .null, .null, .null, .int (nI 0), .int (nI 0), .int (nI 0), .int (nI 0), .int (nI 0), .null])), (q7, .inl (cI, 16, .inl (aN fFI))), (q102, .inl (cI, 16, .inl (aN fMM))), (q197, .inl (cI, 16, .inl (aN (nup (nup (fun _ => 0) 0 1) 1 0))))] := hD
  refine lv_dup hx hb dM_init_207 rfl ?_
  refine lv_iconst (v := nI 2) hx hb dM_init_208 (by decide) ?_
  refine lv_iconst (v := nI 0) hx hb dM_init_209 (by decide) ?_
  refine za_ist hx hb hK hP hD hS 3 0 rfl rfl (by omega) (by decide) dM_init_210 (fun H locs hP hD hS => ?_)
  have hP : va_P (dC, dI) vwCl [(m0, .inr (4, [.ref q7, .ref q102, .null, .int (nI 0), .int (nI 0), .null, .null, .int (nI 0), .null, .null, .null, .int (nI 0), .int (nI 0), .int (nI 0), .int (nI 0), .int (nI 0), .null])), (q7, .inl (cI, 16, .inl (aN fFI))), (q102, .inl (cI, 16, .inl (aN fMM))), (q197, .inl (cI, 16, .inl (aN (nup (nup (nup (fun _ => 0) 0 1) 1 0) 2 0))))] H := hP
  have hD : va_D A [(m0, .inr (4, [.ref q7, .ref q102, .null, .int (nI 0), .int (nI 0), .null, .null, .int (nI 0), .null, .null, .null, .int (nI 0), .int (nI 0), .int (nI 0), .int (nI 0), .int (nI 0), .null])), (q7, .inl (cI, 16, .inl (aN fFI))), (q102, .inl (cI, 16, .inl (aN fMM))), (q197, .inl (cI, 16, .inl (aN (nup (nup (nup (fun _ => 0) 0 1) 1 0) 2 0))))] := hD
  refine lv_dup hx hb dM_init_211 rfl ?_
  refine lv_iconst (v := nI 3) hx hb dM_init_212 (by decide) ?_
  refine lv_iconst (v := nI 0) hx hb dM_init_213 (by decide) ?_
  refine za_ist hx hb hK hP hD hS 3 0 rfl rfl (by omega) (by decide) dM_init_214 (fun H locs hP hD hS => ?_)
  have hP : va_P (dC, dI) vwCl [(m0, .inr (4, [.ref q7, .ref q102, .null, .int (nI 0), .int (nI 0), .null, .null, .int (nI 0), .null, .null, .null, .int (nI 0), .int (nI 0), .int (nI 0), .int (nI 0), .int (nI 0), .null])), (q7, .inl (cI, 16, .inl (aN fFI))), (q102, .inl (cI, 16, .inl (aN fMM))), (q197, .inl (cI, 16, .inl (aN (nup (nup (nup (nup (fun _ => 0) 0 1) 1 0) 2 0) 3 0))))] H := hP
  have hD : va_D A [(m0, .inr (4, [.ref q7, .ref q102, .null, .int (nI 0), .int (nI 0), .null, .null, .int (nI 0), .null, .null, .null, .int (nI 0), .int (nI 0), .int (nI 0), .int (nI 0), .int (nI 0), .null])), (q7, .inl (cI, 16, .inl (aN fFI))), (q102, .inl (cI, 16, .inl (aN fMM))), (q197, .inl (cI, 16, .inl (aN (nup (nup (nup (nup (fun _ => 0) 0 1) 1 0) 2 0) 3 0))))] := hD
  refine lv_dup hx hb dM_init_215 rfl ?_
  refine lv_iconst (v := nI 4) hx hb dM_init_216 (by decide) ?_
  refine lv_iconst (v := nI 1) hx hb dM_init_217 (by decide) ?_
  refine za_ist hx hb hK hP hD hS 3 0 rfl rfl (by omega) (by decide) dM_init_218 (fun H locs hP hD hS => ?_)
  have hP : va_P (dC, dI) vwCl [(m0, .inr (4, [.ref q7, .ref q102, .null, .int (nI 0), .int (nI 0), .null, .null, .int (nI 0), .null, .null, .null, .int (nI 0), .int (nI 0), .int (nI 0), .int (nI 0), .int (nI 0), .null])), (q7, .inl (cI, 16, .inl (aN fFI))), (q102, .inl (cI, 16, .inl (aN fMM))), (q197, .inl (cI, 16, .inl (aN (nup (nup (nup (nup (nup (fun _ => 0) 0 1) 1 0) 2 0) 3 0) 4 1))))] H := hP
  have hD : va_D A [(m0, .inr (4, [.ref q7, .ref q102, .null, .int (nI 0), .int (nI 0), .null, .null, .int (nI 0), .null, .null, .null, .int (nI 0), .int (nI 0), .int (nI 0), .int (nI 0), .int (nI 0), .null])), (q7, .inl (cI, 16, .inl (aN fFI))), (q102, .inl (cI, 16, .inl (aN fMM))), (q197, .inl (cI, 16, .inl (aN (nup (nup (nup (nup (nup (fun _ => 0) 0 1) 1 0) 2 0) 3 0) 4 1))))] := hD
  refine lv_dup hx hb dM_init_219 rfl ?_
  refine lv_iconst (v := nI 5) hx hb dM_init_220 (by decide) ?_
  refine lv_iconst (v := nI 2) hx hb dM_init_221 (by decide) ?_
  refine za_ist hx hb hK hP hD hS 3 0 rfl rfl (by omega) (by decide) dM_init_222 (fun H locs hP hD hS => ?_)
  have hP : va_P (dC, dI) vwCl [(m0, .inr (4, [.ref q7, .ref q102, .null, .int (nI 0), .int (nI 0), .null, .null, .int (nI 0), .null, .null, .null, .int (nI 0), .int (nI 0), .int (nI 0), .int (nI 0), .int (nI 0), .null])), (q7, .inl (cI, 16, .inl (aN fFI))), (q102, .inl (cI, 16, .inl (aN fMM))), (q197, .inl (cI, 16, .inl (aN (nup (nup (nup (nup (nup (nup (fun _ => 0) 0 1) 1 0) 2 0) 3 0) 4 1) 5 2))))] H := hP
  have hD : va_D A [(m0, .inr (4, [.ref q7, .ref q102, .null, .int (nI 0), .int (nI 0), .null, .null, .int (nI 0), .null, .null, .null, .int (nI 0), .int (nI 0), .int (nI 0), .int (nI 0), .int (nI 0), .null])), (q7, .inl (cI, 16, .inl (aN fFI))), (q102, .inl (cI, 16, .inl (aN fMM))), (q197, .inl (cI, 16, .inl (aN (nup (nup (nup (nup (nup (nup (fun _ => 0) 0 1) 1 0) 2 0) 3 0) 4 1) 5 2))))] := hD
  refine lv_dup hx hb dM_init_223 rfl ?_
  refine lv_bipush (v := nI 6) hx hb dM_init_224 (by decide) ?_
  refine lv_iconst (v := nI 2) hx hb dM_init_226 (by decide) ?_
  refine za_ist hx hb hK hP hD hS 3 0 rfl rfl (by omega) (by decide) dM_init_227 (fun H locs hP hD hS => ?_)
  have hP : va_P (dC, dI) vwCl [(m0, .inr (4, [.ref q7, .ref q102, .null, .int (nI 0), .int (nI 0), .null, .null, .int (nI 0), .null, .null, .null, .int (nI 0), .int (nI 0), .int (nI 0), .int (nI 0), .int (nI 0), .null])), (q7, .inl (cI, 16, .inl (aN fFI))), (q102, .inl (cI, 16, .inl (aN fMM))), (q197, .inl (cI, 16, .inl (aN (nup (nup (nup (nup (nup (nup (nup (fun _ => 0) 0 1) 1 0) 2 0) 3 0) 4 1) 5 2) 6 2))))] H := hP
  have hD : va_D A [(m0, .inr (4, [.ref q7, .ref q102, .null, .int (nI 0), .int (nI 0), .null, .null, .int (nI 0), .null, .null, .null, .int (nI 0), .int (nI 0), .int (nI 0), .int (nI 0), .int (nI 0), .null])), (q7, .inl (cI, 16, .inl (aN fFI))), (q102, .inl (cI, 16, .inl (aN fMM))), (q197, .inl (cI, 16, .inl (aN (nup (nup (nup (nup (nup (nup (nup (fun _ => 0) 0 1) 1 0) 2 0) 3 0) 4 1) 5 2) 6 2))))] := hD
  refine lv_dup hx hb dM_init_228 rfl ?_
  refine lv_bipush (v := nI 7) hx hb dM_init_229 (by decide) ?_
  refine lv_iconst (v := nI 2) hx hb dM_init_231 (by decide) ?_
  refine za_ist hx hb hK hP hD hS 3 0 rfl rfl (by omega) (by decide) dM_init_232 (fun H locs hP hD hS => ?_)
  have hP : va_P (dC, dI) vwCl [(m0, .inr (4, [.ref q7, .ref q102, .null, .int (nI 0), .int (nI 0), .null, .null, .int (nI 0), .null, .null, .null, .int (nI 0), .int (nI 0), .int (nI 0), .int (nI 0), .int (nI 0), .null])), (q7, .inl (cI, 16, .inl (aN fFI))), (q102, .inl (cI, 16, .inl (aN fMM))), (q197, .inl (cI, 16, .inl (aN (nup (nup (nup (nup (nup (nup (nup (nup (fun _ => 0) 0 1) 1 0) 2 0) 3 0) 4 1) 5 2) 6 2) 7 2))))] H := hP
  have hD : va_D A [(m0, .inr (4, [.ref q7, .ref q102, .null, .int (nI 0), .int (nI 0), .null, .null, .int (nI 0), .null, .null, .null, .int (nI 0), .int (nI 0), .int (nI 0), .int (nI 0), .int (nI 0), .null])), (q7, .inl (cI, 16, .inl (aN fFI))), (q102, .inl (cI, 16, .inl (aN fMM))), (q197, .inl (cI, 16, .inl (aN (nup (nup (nup (nup (nup (nup (nup (nup (fun _ => 0) 0 1) 1 0) 2 0) 3 0) 4 1) 5 2) 6 2) 7 2))))] := hD
  refine lv_dup hx hb dM_init_233 rfl ?_
  refine lv_bipush (v := nI 8) hx hb dM_init_234 (by decide) ?_
  refine lv_iconst (v := nI 2) hx hb dM_init_236 (by decide) ?_
  refine za_ist hx hb hK hP hD hS 3 0 rfl rfl (by omega) (by decide) dM_init_237 (fun H locs hP hD hS => ?_)
  have hP : va_P (dC, dI) vwCl [(m0, .inr (4, [.ref q7, .ref q102, .null, .int (nI 0), .int (nI 0), .null, .null, .int (nI 0), .null, .null, .null, .int (nI 0), .int (nI 0), .int (nI 0), .int (nI 0), .int (nI 0), .null])), (q7, .inl (cI, 16, .inl (aN fFI))), (q102, .inl (cI, 16, .inl (aN fMM))), (q197, .inl (cI, 16, .inl (aN (nup (nup (nup (nup (nup (nup (nup (nup (nup (fun _ => 0) 0 1) 1 0) 2 0) 3 0) 4 1) 5 2) 6 2) 7 2) 8 2))))] H := hP
  have hD : va_D A [(m0, .inr (4, [.ref q7, .ref q102, .null, .int (nI 0), .int (nI 0), .null, .null, .int (nI 0), .null, .null, .null, .int (nI 0), .int (nI 0), .int (nI 0), .int (nI 0), .int (nI 0), .null])), (q7, .inl (cI, 16, .inl (aN fFI))), (q102, .inl (cI, 16, .inl (aN fMM))), (q197, .inl (cI, 16, .inl (aN (nup (nup (nup (nup (nup (nup (nup (nup (nup (fun _ => 0) 0 1) 1 0) 2 0) 3 0) 4 1) 5 2) 6 2) 7 2) 8 2))))] := hD
  refine lv_dup hx hb dM_init_238 rfl ?_
  refine lv_bipush (v := nI 9) hx hb dM_init_239 (by decide) ?_
  refine lv_iconst (v := nI 0) hx hb dM_init_241 (by decide) ?_
  refine za_ist hx hb hK hP hD hS 3 0 rfl rfl (by omega) (by decide) dM_init_242 (fun H locs hP hD hS => ?_)
  have hP : va_P (dC, dI) vwCl [(m0, .inr (4, [.ref q7, .ref q102, .null, .int (nI 0), .int (nI 0), .null, .null, .int (nI 0), .null, .null, .null, .int (nI 0), .int (nI 0), .int (nI 0), .int (nI 0), .int (nI 0), .null])), (q7, .inl (cI, 16, .inl (aN fFI))), (q102, .inl (cI, 16, .inl (aN fMM))), (q197, .inl (cI, 16, .inl (aN (nup (nup (nup (nup (nup (nup (nup (nup (nup (nup (fun _ => 0) 0 1) 1 0) 2 0) 3 0) 4 1) 5 2) 6 2) 7 2) 8 2) 9 0))))] H := hP
  have hD : va_D A [(m0, .inr (4, [.ref q7, .ref q102, .null, .int (nI 0), .int (nI 0), .null, .null, .int (nI 0), .null, .null, .null, .int (nI 0), .int (nI 0), .int (nI 0), .int (nI 0), .int (nI 0), .null])), (q7, .inl (cI, 16, .inl (aN fFI))), (q102, .inl (cI, 16, .inl (aN fMM))), (q197, .inl (cI, 16, .inl (aN (nup (nup (nup (nup (nup (nup (nup (nup (nup (nup (fun _ => 0) 0 1) 1 0) 2 0) 3 0) 4 1) 5 2) 6 2) 7 2) 8 2) 9 0))))] := hD
  refine lv_dup hx hb dM_init_243 rfl ?_
  refine lv_bipush (v := nI 10) hx hb dM_init_244 (by decide) ?_
  refine lv_iconst (v := nI 3) hx hb dM_init_246 (by decide) ?_
  refine za_ist hx hb hK hP hD hS 3 0 rfl rfl (by omega) (by decide) dM_init_247 (fun H locs hP hD hS => ?_)
  have hP : va_P (dC, dI) vwCl [(m0, .inr (4, [.ref q7, .ref q102, .null, .int (nI 0), .int (nI 0), .null, .null, .int (nI 0), .null, .null, .null, .int (nI 0), .int (nI 0), .int (nI 0), .int (nI 0), .int (nI 0), .null])), (q7, .inl (cI, 16, .inl (aN fFI))), (q102, .inl (cI, 16, .inl (aN fMM))), (q197, .inl (cI, 16, .inl (aN (nup (nup (nup (nup (nup (nup (nup (nup (nup (nup (nup (fun _ => 0) 0 1) 1 0) 2 0) 3 0) 4 1) 5 2) 6 2) 7 2) 8 2) 9 0) 10 3))))] H := hP
  have hD : va_D A [(m0, .inr (4, [.ref q7, .ref q102, .null, .int (nI 0), .int (nI 0), .null, .null, .int (nI 0), .null, .null, .null, .int (nI 0), .int (nI 0), .int (nI 0), .int (nI 0), .int (nI 0), .null])), (q7, .inl (cI, 16, .inl (aN fFI))), (q102, .inl (cI, 16, .inl (aN fMM))), (q197, .inl (cI, 16, .inl (aN (nup (nup (nup (nup (nup (nup (nup (nup (nup (nup (nup (fun _ => 0) 0 1) 1 0) 2 0) 3 0) 4 1) 5 2) 6 2) 7 2) 8 2) 9 0) 10 3))))] := hD
  refine lv_dup hx hb dM_init_248 rfl ?_
  refine lv_bipush (v := nI 11) hx hb dM_init_249 (by decide) ?_
  refine lv_iconst (v := nI 0) hx hb dM_init_251 (by decide) ?_
  refine za_ist hx hb hK hP hD hS 3 0 rfl rfl (by omega) (by decide) dM_init_252 (fun H locs hP hD hS => ?_)
  have hP : va_P (dC, dI) vwCl [(m0, .inr (4, [.ref q7, .ref q102, .null, .int (nI 0), .int (nI 0), .null, .null, .int (nI 0), .null, .null, .null, .int (nI 0), .int (nI 0), .int (nI 0), .int (nI 0), .int (nI 0), .null])), (q7, .inl (cI, 16, .inl (aN fFI))), (q102, .inl (cI, 16, .inl (aN fMM))), (q197, .inl (cI, 16, .inl (aN (nup (nup (nup (nup (nup (nup (nup (nup (nup (nup (nup (nup (fun _ => 0) 0 1) 1 0) 2 0) 3 0) 4 1) 5 2) 6 2) 7 2) 8 2) 9 0) 10 3) 11 0))))] H := hP
  have hD : va_D A [(m0, .inr (4, [.ref q7, .ref q102, .null, .int (nI 0), .int (nI 0), .null, .null, .int (nI 0), .null, .null, .null, .int (nI 0), .int (nI 0), .int (nI 0), .int (nI 0), .int (nI 0), .null])), (q7, .inl (cI, 16, .inl (aN fFI))), (q102, .inl (cI, 16, .inl (aN fMM))), (q197, .inl (cI, 16, .inl (aN (nup (nup (nup (nup (nup (nup (nup (nup (nup (nup (nup (nup (fun _ => 0) 0 1) 1 0) 2 0) 3 0) 4 1) 5 2) 6 2) 7 2) 8 2) 9 0) 10 3) 11 0))))] := hD
  refine lv_dup hx hb dM_init_253 rfl ?_
  refine lv_bipush (v := nI 12) hx hb dM_init_254 (by decide) ?_
  refine lv_iconst (v := nI 0) hx hb dM_init_256 (by decide) ?_
  refine za_ist hx hb hK hP hD hS 3 0 rfl rfl (by omega) (by decide) dM_init_257 (fun H locs hP hD hS => ?_)
  have hP : va_P (dC, dI) vwCl [(m0, .inr (4, [.ref q7, .ref q102, .null, .int (nI 0), .int (nI 0), .null, .null, .int (nI 0), .null, .null, .null, .int (nI 0), .int (nI 0), .int (nI 0), .int (nI 0), .int (nI 0), .null])), (q7, .inl (cI, 16, .inl (aN fFI))), (q102, .inl (cI, 16, .inl (aN fMM))), (q197, .inl (cI, 16, .inl (aN (nup (nup (nup (nup (nup (nup (nup (nup (nup (nup (nup (nup (nup (fun _ => 0) 0 1) 1 0) 2 0) 3 0) 4 1) 5 2) 6 2) 7 2) 8 2) 9 0) 10 3) 11 0) 12 0))))] H := hP
  have hD : va_D A [(m0, .inr (4, [.ref q7, .ref q102, .null, .int (nI 0), .int (nI 0), .null, .null, .int (nI 0), .null, .null, .null, .int (nI 0), .int (nI 0), .int (nI 0), .int (nI 0), .int (nI 0), .null])), (q7, .inl (cI, 16, .inl (aN fFI))), (q102, .inl (cI, 16, .inl (aN fMM))), (q197, .inl (cI, 16, .inl (aN (nup (nup (nup (nup (nup (nup (nup (nup (nup (nup (nup (nup (nup (fun _ => 0) 0 1) 1 0) 2 0) 3 0) 4 1) 5 2) 6 2) 7 2) 8 2) 9 0) 10 3) 11 0) 12 0))))] := hD
  refine lv_dup hx hb dM_init_258 rfl ?_
  refine lv_bipush (v := nI 13) hx hb dM_init_259 (by decide) ?_
  refine lv_iconst (v := nI 0) hx hb dM_init_261 (by decide) ?_
  refine za_ist hx hb hK hP hD hS 3 0 rfl rfl (by omega) (by decide) dM_init_262 (fun H locs hP hD hS => ?_)
  have hP : va_P (dC, dI) vwCl [(m0, .inr (4, [.ref q7, .ref q102, .null, .int (nI 0), .int (nI 0), .null, .null, .int (nI 0), .null, .null, .null, .int (nI 0), .int (nI 0), .int (nI 0), .int (nI 0), .int (nI 0), .null])), (q7, .inl (cI, 16, .inl (aN fFI))), (q102, .inl (cI, 16, .inl (aN fMM))), (q197, .inl (cI, 16, .inl (aN (nup (nup (nup (nup (nup (nup (nup (nup (nup (nup (nup (nup (nup (nup (fun _ => 0) 0 1) 1 0) 2 0) 3 0) 4 1) 5 2) 6 2) 7 2) 8 2) 9 0) 10 3) 11 0) 12 0) 13 0))))] H := hP
  have hD : va_D A [(m0, .inr (4, [.ref q7, .ref q102, .null, .int (nI 0), .int (nI 0), .null, .null, .int (nI 0), .null, .null, .null, .int (nI 0), .int (nI 0), .int (nI 0), .int (nI 0), .int (nI 0), .null])), (q7, .inl (cI, 16, .inl (aN fFI))), (q102, .inl (cI, 16, .inl (aN fMM))), (q197, .inl (cI, 16, .inl (aN (nup (nup (nup (nup (nup (nup (nup (nup (nup (nup (nup (nup (nup (nup (fun _ => 0) 0 1) 1 0) 2 0) 3 0) 4 1) 5 2) 6 2) 7 2) 8 2) 9 0) 10 3) 11 0) 12 0) 13 0))))] := hD
  refine lv_dup hx hb dM_init_263 rfl ?_
  refine lv_bipush (v := nI 14) hx hb dM_init_264 (by decide) ?_
  refine lv_iconst (v := nI 0) hx hb dM_init_266 (by decide) ?_
  refine za_ist hx hb hK hP hD hS 3 0 rfl rfl (by omega) (by decide) dM_init_267 (fun H locs hP hD hS => ?_)
  have hP : va_P (dC, dI) vwCl [(m0, .inr (4, [.ref q7, .ref q102, .null, .int (nI 0), .int (nI 0), .null, .null, .int (nI 0), .null, .null, .null, .int (nI 0), .int (nI 0), .int (nI 0), .int (nI 0), .int (nI 0), .null])), (q7, .inl (cI, 16, .inl (aN fFI))), (q102, .inl (cI, 16, .inl (aN fMM))), (q197, .inl (cI, 16, .inl (aN (nup (nup (nup (nup (nup (nup (nup (nup (nup (nup (nup (nup (nup (nup (nup (fun _ => 0) 0 1) 1 0) 2 0) 3 0) 4 1) 5 2) 6 2) 7 2) 8 2) 9 0) 10 3) 11 0) 12 0) 13 0) 14 0))))] H := hP
  have hD : va_D A [(m0, .inr (4, [.ref q7, .ref q102, .null, .int (nI 0), .int (nI 0), .null, .null, .int (nI 0), .null, .null, .null, .int (nI 0), .int (nI 0), .int (nI 0), .int (nI 0), .int (nI 0), .null])), (q7, .inl (cI, 16, .inl (aN fFI))), (q102, .inl (cI, 16, .inl (aN fMM))), (q197, .inl (cI, 16, .inl (aN (nup (nup (nup (nup (nup (nup (nup (nup (nup (nup (nup (nup (nup (nup (nup (fun _ => 0) 0 1) 1 0) 2 0) 3 0) 4 1) 5 2) 6 2) 7 2) 8 2) 9 0) 10 3) 11 0) 12 0) 13 0) 14 0))))] := hD
  refine lv_dup hx hb dM_init_268 rfl ?_
  refine lv_bipush (v := nI 15) hx hb dM_init_269 (by decide) ?_
  refine lv_iconst (v := nI 0) hx hb dM_init_271 (by decide) ?_
  refine za_ist hx hb hK hP hD hS 3 0 rfl rfl (by omega) (by decide) dM_init_272 (fun H locs hP hD hS => ?_)
  have hP : va_P (dC, dI) vwCl [(m0, .inr (4, [.ref q7, .ref q102, .null, .int (nI 0), .int (nI 0), .null, .null, .int (nI 0), .null, .null, .null, .int (nI 0), .int (nI 0), .int (nI 0), .int (nI 0), .int (nI 0), .null])), (q7, .inl (cI, 16, .inl (aN fFI))), (q102, .inl (cI, 16, .inl (aN fMM))), (q197, .inl (cI, 16, .inl (aN (nup (nup (nup (nup (nup (nup (nup (nup (nup (nup (nup (nup (nup (nup (nup (nup (fun _ => 0) 0 1) 1 0) 2 0) 3 0) 4 1) 5 2) 6 2) 7 2) 8 2) 9 0) 10 3) 11 0) 12 0) 13 0) 14 0) 15 0))))] H := hP
  have hD : va_D A [(m0, .inr (4, [.ref q7, .ref q102, .null, .int (nI 0), .int (nI 0), .null, .null, .int (nI 0), .null, .null, .null, .int (nI 0), .int (nI 0), .int (nI 0), .int (nI 0), .int (nI 0), .null])), (q7, .inl (cI, 16, .inl (aN fFI))), (q102, .inl (cI, 16, .inl (aN fMM))), (q197, .inl (cI, 16, .inl (aN (nup (nup (nup (nup (nup (nup (nup (nup (nup (nup (nup (nup (nup (nup (nup (nup (fun _ => 0) 0 1) 1 0) 2 0) 3 0) 4 1) 5 2) 6 2) 7 2) 8 2) 9 0) 10 3) 11 0) 12 0) 13 0) 14 0) 15 0))))] := hD
  rw [fFO_n] at hP hD
  have hP : va_P (dC, dI) vwCl [(m0, .inr (4, [.ref q7, .ref q102, .null, .int (nI 0), .int (nI 0), .null, .null, .int (nI 0), .null, .null, .null, .int (nI 0), .int (nI 0), .int (nI 0), .int (nI 0), .int (nI 0), .null])), (q7, .inl (cI, 16, .inl (aN fFI))), (q102, .inl (cI, 16, .inl (aN fMM))), (q197, .inl (cI, 16, .inl (aN fFO)))] H := hP
  have hD : va_D A [(m0, .inr (4, [.ref q7, .ref q102, .null, .int (nI 0), .int (nI 0), .null, .null, .int (nI 0), .null, .null, .null, .int (nI 0), .int (nI 0), .int (nI 0), .int (nI 0), .int (nI 0), .null])), (q7, .inl (cI, 16, .inl (aN fFI))), (q102, .inl (cI, 16, .inl (aN fMM))), (q197, .inl (cI, 16, .inl (aN fFO)))] := hD
  refine va_putF (D := (dC, dI)) (ci := 4) (v := .ref q197) (ty := .array .int) (C := RM) (T := TM) (N := 17) hx hb hw inM tyM tyM_ok nmM hown hK hP hD hS 0 rfl rfl 2 (by decide) (hw _ w_fl_M_16) (fun _ h9 => h9) rfl hin rfl (by decide +kernel) rfl rfl (Nat.le_of_ble_eq_true rfl) dM_init_273 (fun H locs hP hD hS => ?_)
  have hP : va_P (dC, dI) vwCl [(m0, .inr (4, [.ref q7, .ref q102, .ref q197, .int (nI 0), .int (nI 0), .null, .null, .int (nI 0), .null, .null, .null, .int (nI 0), .int (nI 0), .int (nI 0), .int (nI 0), .int (nI 0), .null])), (q7, .inl (cI, 16, .inl (aN fFI))), (q102, .inl (cI, 16, .inl (aN fMM))), (q197, .inl (cI, 16, .inl (aN fFO)))] H := hP
  have hD : va_D A [(m0, .inr (4, [.ref q7, .ref q102, .ref q197, .int (nI 0), .int (nI 0), .null, .null, .int (nI 0), .null, .null, .null, .int (nI 0), .int (nI 0), .int (nI 0), .int (nI 0), .int (nI 0), .null])), (q7, .inl (cI, 16, .inl (aN fFI))), (q102, .inl (cI, 16, .inl (aN fMM))), (q197, .inl (cI, 16, .inl (aN fFO)))] := hD
  refine lv_aload_n hx hb dM_init_276 rfl (lv_at hl 0 rfl) ?_
  refine lv_sipush (v := nI 800) hx hb dM_init_277 (by decide) ?_
  refine va_put (D := (dC, dI)) (ci := 4) (v := .int (nI 800)) (ty := .int) (C := RM) (T := TM) (N := 17) hx hb hw inM tyM tyM_ok nmM hown hK hP hD hS 0 rfl rfl 4 (by decide) (hw _ w_fl_M_19) (fun _ h9 => h9) rfl (by decide +kernel) rfl rfl (Nat.le_of_ble_eq_true rfl) dM_init_280 (fun H locs hP hD hS => ?_)
  have hP : va_P (dC, dI) vwCl [(m0, .inr (4, [.ref q7, .ref q102, .ref q197, .int (nI 0), .int (nI 800), .null, .null, .int (nI 0), .null, .null, .null, .int (nI 0), .int (nI 0), .int (nI 0), .int (nI 0), .int (nI 0), .null])), (q7, .inl (cI, 16, .inl (aN fFI))), (q102, .inl (cI, 16, .inl (aN fMM))), (q197, .inl (cI, 16, .inl (aN fFO)))] H := hP
  have hD : va_D A [(m0, .inr (4, [.ref q7, .ref q102, .ref q197, .int (nI 0), .int (nI 800), .null, .null, .int (nI 0), .null, .null, .null, .int (nI 0), .int (nI 0), .int (nI 0), .int (nI 0), .int (nI 0), .null])), (q7, .inl (cI, 16, .inl (aN fFI))), (q102, .inl (cI, 16, .inl (aN fMM))), (q197, .inl (cI, 16, .inl (aN fFO)))] := hD
  refine lv_aload_n hx hb dM_init_283 rfl (lv_at hl 0 rfl) ?_
  refine lv_sipush (v := nI 672) hx hb dM_init_284 (by decide) ?_
  refine za_new (n := 672) (f9 := aN (fun _ => 0)) hx hb (hw _ w_ac_int) rfl hK hP hD hS hA 0 rfl (aN_0) (by decide) rfl (by decide) (Nat.le_of_ble_eq_true rfl) (Nat.le_of_ble_eq_true rfl) dM_init_287 (fun q287 H hP hD hS => ?_)
  have hP : va_P (dC, dI) vwCl [(m0, .inr (4, [.ref q7, .ref q102, .ref q197, .int (nI 0), .int (nI 800), .null, .null, .int (nI 0), .null, .null, .null, .int (nI 0), .int (nI 0), .int (nI 0), .int (nI 0), .int (nI 0), .null])), (q7, .inl (cI, 16, .inl (aN fFI))), (q102, .inl (cI, 16, .inl (aN fMM))), (q197, .inl (cI, 16, .inl (aN fFO))), (q287, .inl (cI, 672, .inl (aN (fun _ => 0))))] H := hP
  have hD : va_D A [(m0, .inr (4, [.ref q7, .ref q102, .ref q197, .int (nI 0), .int (nI 800), .null, .null, .int (nI 0), .null, .null, .null, .int (nI 0), .int (nI 0), .int (nI 0), .int (nI 0), .int (nI 0), .null])), (q7, .inl (cI, 16, .inl (aN fFI))), (q102, .inl (cI, 16, .inl (aN fMM))), (q197, .inl (cI, 16, .inl (aN fFO))), (q287, .inl (cI, 672, .inl (aN (fun _ => 0))))] := hD
  refine va_putF (D := (dC, dI)) (ci := 4) (v := .ref q287) (ty := .array .int) (C := RM) (T := TM) (N := 17) hx hb hw inM tyM tyM_ok nmM hown hK hP hD hS 0 rfl rfl 5 (by decide) (hw _ w_fl_M_23) (fun _ h9 => h9) rfl hin rfl (by decide +kernel) rfl rfl (Nat.le_of_ble_eq_true rfl) dM_init_289 (fun H locs hP hD hS => ?_)
  have hP : va_P (dC, dI) vwCl [(m0, .inr (4, [.ref q7, .ref q102, .ref q197, .int (nI 0), .int (nI 800), .ref q287, .null, .int (nI 0), .null, .null, .null, .int (nI 0), .int (nI 0), .int (nI 0), .int (nI 0), .int (nI 0), .null])), (q7, .inl (cI, 16, .inl (aN fFI))), (q102, .inl (cI, 16, .inl (aN fMM))), (q197, .inl (cI, 16, .inl (aN fFO))), (q287, .inl (cI, 672, .inl (aN (fun _ => 0))))] H := hP
  have hD : va_D A [(m0, .inr (4, [.ref q7, .ref q102, .ref q197, .int (nI 0), .int (nI 800), .ref q287, .null, .int (nI 0), .null, .null, .null, .int (nI 0), .int (nI 0), .int (nI 0), .int (nI 0), .int (nI 0), .null])), (q7, .inl (cI, 16, .inl (aN fFI))), (q102, .inl (cI, 16, .inl (aN fMM))), (q197, .inl (cI, 16, .inl (aN fFO))), (q287, .inl (cI, 672, .inl (aN (fun _ => 0))))] := hD
  refine lv_aload_n hx hb dM_init_292 rfl (lv_at hl 0 rfl) ?_
  refine lv_bipush (v := nI 16) hx hb dM_init_293 (by decide) ?_
  refine za_new (n := 16) (f9 := aP (fun _ => 1)) hx hb (hw _ w_ac_int) rfl hK hP hD hS hA 0 rfl (aP_0) (by decide) rfl (by decide) (Nat.le_of_ble_eq_true rfl) (Nat.le_of_ble_eq_true rfl) dM_init_295 (fun q295 H hP hD hS => ?_)
  have hP : va_P (dC, dI) vwCl [(m0, .inr (4, [.ref q7, .ref q102, .ref q197, .int (nI 0), .int (nI 800), .ref q287, .null, .int (nI 0), .null, .null, .null, .int (nI 0), .int (nI 0), .int (nI 0), .int (nI 0), .int (nI 0), .null])), (q7, .inl (cI, 16, .inl (aN fFI))), (q102, .inl (cI, 16, .inl (aN fMM))), (q197, .inl (cI, 16, .inl (aN fFO))), (q287, .inl (cI, 672, .inl (aN (fun _ => 0)))), (q295, .inl (cI, 16, .inl (aP (fun _ => 1))))] H := hP
  have hD : va_D A [(m0, .inr (4, [.ref q7, .ref q102, .ref q197, .int (nI 0), .int (nI 800), .ref q287, .null, .int (nI 0), .null, .null, .null, .int (nI 0), .int (nI 0), .int (nI 0), .int (nI 0), .int (nI 0), .null])), (q7, .inl (cI, 16, .inl (aN fFI))), (q102, .inl (cI, 16, .inl (aN fMM))), (q197, .inl (cI, 16, .inl (aN fFO))), (q287, .inl (cI, 672, .inl (aN (fun _ => 0)))), (q295, .inl (cI, 16, .inl (aP (fun _ => 1))))] := hD
  refine va_putF (D := (dC, dI)) (ci := 4) (v := .ref q295) (ty := .array .int) (C := RM) (T := TM) (N := 17) hx hb hw inM tyM tyM_ok nmM hown hK hP hD hS 0 rfl rfl 6 (by decide) (hw _ w_fl_M_26) (fun _ h9 => h9) rfl hin rfl (by decide +kernel) rfl rfl (Nat.le_of_ble_eq_true rfl) dM_init_297 (fun H locs hP hD hS => ?_)
  have hP : va_P (dC, dI) vwCl [(m0, .inr (4, [.ref q7, .ref q102, .ref q197, .int (nI 0), .int (nI 800), .ref q287, .ref q295, .int (nI 0), .null, .null, .null, .int (nI 0), .int (nI 0), .int (nI 0), .int (nI 0), .int (nI 0), .null])), (q7, .inl (cI, 16, .inl (aN fFI))), (q102, .inl (cI, 16, .inl (aN fMM))), (q197, .inl (cI, 16, .inl (aN fFO))), (q287, .inl (cI, 672, .inl (aN (fun _ => 0)))), (q295, .inl (cI, 16, .inl (aP (fun _ => 1))))] H := hP
  have hD : va_D A [(m0, .inr (4, [.ref q7, .ref q102, .ref q197, .int (nI 0), .int (nI 800), .ref q287, .ref q295, .int (nI 0), .null, .null, .null, .int (nI 0), .int (nI 0), .int (nI 0), .int (nI 0), .int (nI 0), .null])), (q7, .inl (cI, 16, .inl (aN fFI))), (q102, .inl (cI, 16, .inl (aN fMM))), (q197, .inl (cI, 16, .inl (aN fFO))), (q287, .inl (cI, 672, .inl (aN (fun _ => 0)))), (q295, .inl (cI, 16, .inl (aP (fun _ => 1))))] := hD
  refine lv_aload_n hx hb dM_init_300 rfl (lv_at hl 0 rfl) ?_
  refine lv_sipush (v := nI 672) hx hb dM_init_301 (by decide) ?_
  refine za_new (n := 672) (f9 := aN (fun _ => 0)) hx hb (hw _ w_ac_int) rfl hK hP hD hS hA 0 rfl (aN_0) (by decide) rfl (by decide) (Nat.le_of_ble_eq_true rfl) (Nat.le_of_ble_eq_true rfl) dM_init_304 (fun q304 H hP hD hS => ?_)
  have hP : va_P (dC, dI) vwCl [(m0, .inr (4, [.ref q7, .ref q102, .ref q197, .int (nI 0), .int (nI 800), .ref q287, .ref q295, .int (nI 0), .null, .null, .null, .int (nI 0), .int (nI 0), .int (nI 0), .int (nI 0), .int (nI 0), .null])), (q7, .inl (cI, 16, .inl (aN fFI))), (q102, .inl (cI, 16, .inl (aN fMM))), (q197, .inl (cI, 16, .inl (aN fFO))), (q287, .inl (cI, 672, .inl (aN (fun _ => 0)))), (q295, .inl (cI, 16, .inl (aP (fun _ => 1)))), (q304, .inl (cI, 672, .inl (aN (fun _ => 0))))] H := hP
  have hD : va_D A [(m0, .inr (4, [.ref q7, .ref q102, .ref q197, .int (nI 0), .int (nI 800), .ref q287, .ref q295, .int (nI 0), .null, .null, .null, .int (nI 0), .int (nI 0), .int (nI 0), .int (nI 0), .int (nI 0), .null])), (q7, .inl (cI, 16, .inl (aN fFI))), (q102, .inl (cI, 16, .inl (aN fMM))), (q197, .inl (cI, 16, .inl (aN fFO))), (q287, .inl (cI, 672, .inl (aN (fun _ => 0)))), (q295, .inl (cI, 16, .inl (aP (fun _ => 1)))), (q304, .inl (cI, 672, .inl (aN (fun _ => 0))))] := hD
  refine va_putF (D := (dC, dI)) (ci := 4) (v := .ref q304) (ty := .array .int) (C := RM) (T := TM) (N := 17) hx hb hw inM tyM tyM_ok nmM hown hK hP hD hS 0 rfl rfl 8 (by decide) (hw _ w_fl_M_29) (fun _ h9 => h9) rfl hin rfl (by decide +kernel) rfl rfl (Nat.le_of_ble_eq_true rfl) dM_init_306 (fun H locs hP hD hS => ?_)
  have hP : va_P (dC, dI) vwCl [(m0, .inr (4, [.ref q7, .ref q102, .ref q197, .int (nI 0), .int (nI 800), .ref q287, .ref q295, .int (nI 0), .ref q304, .null, .null, .int (nI 0), .int (nI 0), .int (nI 0), .int (nI 0), .int (nI 0), .null])), (q7, .inl (cI, 16, .inl (aN fFI))), (q102, .inl (cI, 16, .inl (aN fMM))), (q197, .inl (cI, 16, .inl (aN fFO))), (q287, .inl (cI, 672, .inl (aN (fun _ => 0)))), (q295, .inl (cI, 16, .inl (aP (fun _ => 1)))), (q304, .inl (cI, 672, .inl (aN (fun _ => 0))))] H := hP
  have hD : va_D A [(m0, .inr (4, [.ref q7, .ref q102, .ref q197, .int (nI 0), .int (nI 800), .ref q287, .ref q295, .int (nI 0), .ref q304, .null, .null, .int (nI 0), .int (nI 0), .int (nI 0), .int (nI 0), .int (nI 0), .null])), (q7, .inl (cI, 16, .inl (aN fFI))), (q102, .inl (cI, 16, .inl (aN fMM))), (q197, .inl (cI, 16, .inl (aN fFO))), (q287, .inl (cI, 672, .inl (aN (fun _ => 0)))), (q295, .inl (cI, 16, .inl (aP (fun _ => 1)))), (q304, .inl (cI, 672, .inl (aN (fun _ => 0))))] := hD
  refine lv_aload_n hx hb dM_init_309 rfl (lv_at hl 0 rfl) ?_
  refine lv_bipush (v := nI 16) hx hb dM_init_310 (by decide) ?_
  refine za_new (n := 16) (f9 := aP (fun _ => 1)) hx hb (hw _ w_ac_int) rfl hK hP hD hS hA 0 rfl (aP_0) (by decide) rfl (by decide) (Nat.le_of_ble_eq_true rfl) (Nat.le_of_ble_eq_true rfl) dM_init_312 (fun q312 H hP hD hS => ?_)
  have hP : va_P (dC, dI) vwCl [(m0, .inr (4, [.ref q7, .ref q102, .ref q197, .int (nI 0), .int (nI 800), .ref q287, .ref q295, .int (nI 0), .ref q304, .null, .null, .int (nI 0), .int (nI 0), .int (nI 0), .int (nI 0), .int (nI 0), .null])), (q7, .inl (cI, 16, .inl (aN fFI))), (q102, .inl (cI, 16, .inl (aN fMM))), (q197, .inl (cI, 16, .inl (aN fFO))), (q287, .inl (cI, 672, .inl (aN (fun _ => 0)))), (q295, .inl (cI, 16, .inl (aP (fun _ => 1)))), (q304, .inl (cI, 672, .inl (aN (fun _ => 0)))), (q312, .inl (cI, 16, .inl (aP (fun _ => 1))))] H := hP
  have hD : va_D A [(m0, .inr (4, [.ref q7, .ref q102, .ref q197, .int (nI 0), .int (nI 800), .ref q287, .ref q295, .int (nI 0), .ref q304, .null, .null, .int (nI 0), .int (nI 0), .int (nI 0), .int (nI 0), .int (nI 0), .null])), (q7, .inl (cI, 16, .inl (aN fFI))), (q102, .inl (cI, 16, .inl (aN fMM))), (q197, .inl (cI, 16, .inl (aN fFO))), (q287, .inl (cI, 672, .inl (aN (fun _ => 0)))), (q295, .inl (cI, 16, .inl (aP (fun _ => 1)))), (q304, .inl (cI, 672, .inl (aN (fun _ => 0)))), (q312, .inl (cI, 16, .inl (aP (fun _ => 1))))] := hD
  refine va_putF (D := (dC, dI)) (ci := 4) (v := .ref q312) (ty := .array .int) (C := RM) (T := TM) (N := 17) hx hb hw inM tyM tyM_ok nmM hown hK hP hD hS 0 rfl rfl 9 (by decide) (hw _ w_fl_M_32) (fun _ h9 => h9) rfl hin rfl (by decide +kernel) rfl rfl (Nat.le_of_ble_eq_true rfl) dM_init_314 (fun H locs hP hD hS => ?_)
  have hP : va_P (dC, dI) vwCl [(m0, .inr (4, [.ref q7, .ref q102, .ref q197, .int (nI 0), .int (nI 800), .ref q287, .ref q295, .int (nI 0), .ref q304, .ref q312, .null, .int (nI 0), .int (nI 0), .int (nI 0), .int (nI 0), .int (nI 0), .null])), (q7, .inl (cI, 16, .inl (aN fFI))), (q102, .inl (cI, 16, .inl (aN fMM))), (q197, .inl (cI, 16, .inl (aN fFO))), (q287, .inl (cI, 672, .inl (aN (fun _ => 0)))), (q295, .inl (cI, 16, .inl (aP (fun _ => 1)))), (q304, .inl (cI, 672, .inl (aN (fun _ => 0)))), (q312, .inl (cI, 16, .inl (aP (fun _ => 1))))] H := hP
  have hD : va_D A [(m0, .inr (4, [.ref q7, .ref q102, .ref q197, .int (nI 0), .int (nI 800), .ref q287, .ref q295, .int (nI 0), .ref q304, .ref q312, .null, .int (nI 0), .int (nI 0), .int (nI 0), .int (nI 0), .int (nI 0), .null])), (q7, .inl (cI, 16, .inl (aN fFI))), (q102, .inl (cI, 16, .inl (aN fMM))), (q197, .inl (cI, 16, .inl (aN fFO))), (q287, .inl (cI, 672, .inl (aN (fun _ => 0)))), (q295, .inl (cI, 16, .inl (aP (fun _ => 1)))), (q304, .inl (cI, 672, .inl (aN (fun _ => 0)))), (q312, .inl (cI, 16, .inl (aP (fun _ => 1))))] := hD
  refine lv_aload_n hx hb dM_init_317 rfl (lv_at hl 0 rfl) ?_
  refine lv_sipush (v := nI 400) hx hb dM_init_318 (by decide) ?_
  refine za_new (n := 400) (f9 := aN (fun _ => 0)) hx hb (hw _ w_ac_int) rfl hK hP hD hS hA 0 rfl (aN_0) (by decide) rfl (by decide) (Nat.le_of_ble_eq_true rfl) (Nat.le_of_ble_eq_true rfl) dM_init_321 (fun q321 H hP hD hS => ?_)
  have hP : va_P (dC, dI) vwCl [(m0, .inr (4, [.ref q7, .ref q102, .ref q197, .int (nI 0), .int (nI 800), .ref q287, .ref q295, .int (nI 0), .ref q304, .ref q312, .null, .int (nI 0), .int (nI 0), .int (nI 0), .int (nI 0), .int (nI 0), .null])), (q7, .inl (cI, 16, .inl (aN fFI))), (q102, .inl (cI, 16, .inl (aN fMM))), (q197, .inl (cI, 16, .inl (aN fFO))), (q287, .inl (cI, 672, .inl (aN (fun _ => 0)))), (q295, .inl (cI, 16, .inl (aP (fun _ => 1)))), (q304, .inl (cI, 672, .inl (aN (fun _ => 0)))), (q312, .inl (cI, 16, .inl (aP (fun _ => 1)))), (q321, .inl (cI, 400, .inl (aN (fun _ => 0))))] H := hP
  have hD : va_D A [(m0, .inr (4, [.ref q7, .ref q102, .ref q197, .int (nI 0), .int (nI 800), .ref q287, .ref q295, .int (nI 0), .ref q304, .ref q312, .null, .int (nI 0), .int (nI 0), .int (nI 0), .int (nI 0), .int (nI 0), .null])), (q7, .inl (cI, 16, .inl (aN fFI))), (q102, .inl (cI, 16, .inl (aN fMM))), (q197, .inl (cI, 16, .inl (aN fFO))), (q287, .inl (cI, 672, .inl (aN (fun _ => 0)))), (q295, .inl (cI, 16, .inl (aP (fun _ => 1)))), (q304, .inl (cI, 672, .inl (aN (fun _ => 0)))), (q312, .inl (cI, 16, .inl (aP (fun _ => 1)))), (q321, .inl (cI, 400, .inl (aN (fun _ => 0))))] := hD
  refine va_putF (D := (dC, dI)) (ci := 4) (v := .ref q321) (ty := .array .int) (C := RM) (T := TM) (N := 17) hx hb hw inM tyM tyM_ok nmM hown hK hP hD hS 0 rfl rfl 10 (by decide) (hw _ w_fl_M_35) (fun _ h9 => h9) rfl hin rfl (by decide +kernel) rfl rfl (Nat.le_of_ble_eq_true rfl) dM_init_323 (fun H locs hP hD hS => ?_)
  have hP : va_P (dC, dI) vwCl [(m0, .inr (4, [.ref q7, .ref q102, .ref q197, .int (nI 0), .int (nI 800), .ref q287, .ref q295, .int (nI 0), .ref q304, .ref q312, .ref q321, .int (nI 0), .int (nI 0), .int (nI 0), .int (nI 0), .int (nI 0), .null])), (q7, .inl (cI, 16, .inl (aN fFI))), (q102, .inl (cI, 16, .inl (aN fMM))), (q197, .inl (cI, 16, .inl (aN fFO))), (q287, .inl (cI, 672, .inl (aN (fun _ => 0)))), (q295, .inl (cI, 16, .inl (aP (fun _ => 1)))), (q304, .inl (cI, 672, .inl (aN (fun _ => 0)))), (q312, .inl (cI, 16, .inl (aP (fun _ => 1)))), (q321, .inl (cI, 400, .inl (aN (fun _ => 0))))] H := hP
  have hD : va_D A [(m0, .inr (4, [.ref q7, .ref q102, .ref q197, .int (nI 0), .int (nI 800), .ref q287, .ref q295, .int (nI 0), .ref q304, .ref q312, .ref q321, .int (nI 0), .int (nI 0), .int (nI 0), .int (nI 0), .int (nI 0), .null])), (q7, .inl (cI, 16, .inl (aN fFI))), (q102, .inl (cI, 16, .inl (aN fMM))), (q197, .inl (cI, 16, .inl (aN fFO))), (q287, .inl (cI, 672, .inl (aN (fun _ => 0)))), (q295, .inl (cI, 16, .inl (aP (fun _ => 1)))), (q304, .inl (cI, 672, .inl (aN (fun _ => 0)))), (q312, .inl (cI, 16, .inl (aP (fun _ => 1)))), (q321, .inl (cI, 400, .inl (aN (fun _ => 0))))] := hD
  refine lv_aload_n hx hb dM_init_326 rfl (lv_at hl 0 rfl) ?_
  refine lv_iconst (v := nI 4) hx hb dM_init_327 (by decide) ?_
  refine za_new (n := 4) (f9 := aN (fun _ => 0)) hx hb (hw _ w_ac_int) rfl hK hP hD hS hA 0 rfl (aN_0) (by decide) rfl (by decide) (Nat.le_of_ble_eq_true rfl) (Nat.le_of_ble_eq_true rfl) dM_init_328 (fun q328 H hP hD hS => ?_)
  have hP : va_P (dC, dI) vwCl [(m0, .inr (4, [.ref q7, .ref q102, .ref q197, .int (nI 0), .int (nI 800), .ref q287, .ref q295, .int (nI 0), .ref q304, .ref q312, .ref q321, .int (nI 0), .int (nI 0), .int (nI 0), .int (nI 0), .int (nI 0), .null])), (q7, .inl (cI, 16, .inl (aN fFI))), (q102, .inl (cI, 16, .inl (aN fMM))), (q197, .inl (cI, 16, .inl (aN fFO))), (q287, .inl (cI, 672, .inl (aN (fun _ => 0)))), (q295, .inl (cI, 16, .inl (aP (fun _ => 1)))), (q304, .inl (cI, 672, .inl (aN (fun _ => 0)))), (q312, .inl (cI, 16, .inl (aP (fun _ => 1)))), (q321, .inl (cI, 400, .inl (aN (fun _ => 0)))), (q328, .inl (cI, 4, .inl (aN (fun _ => 0))))] H := hP
  have hD : va_D A [(m0, .inr (4, [.ref q7, .ref q102, .ref q197, .int (nI 0), .int (nI 800), .ref q287, .ref q295, .int (nI 0), .ref q304, .ref q312, .ref q321, .int (nI 0), .int (nI 0), .int (nI 0), .int (nI 0), .int (nI 0), .null])), (q7, .inl (cI, 16, .inl (aN fFI))), (q102, .inl (cI, 16, .inl (aN fMM))), (q197, .inl (cI, 16, .inl (aN fFO))), (q287, .inl (cI, 672, .inl (aN (fun _ => 0)))), (q295, .inl (cI, 16, .inl (aP (fun _ => 1)))), (q304, .inl (cI, 672, .inl (aN (fun _ => 0)))), (q312, .inl (cI, 16, .inl (aP (fun _ => 1)))), (q321, .inl (cI, 400, .inl (aN (fun _ => 0)))), (q328, .inl (cI, 4, .inl (aN (fun _ => 0))))] := hD
  refine va_putF (D := (dC, dI)) (ci := 4) (v := .ref q328) (ty := .array .int) (C := RM) (T := TM) (N := 17) hx hb hw inM tyM tyM_ok nmM hown hK hP hD hS 0 rfl rfl 16 (by decide) (hw _ w_fl_M_38) (fun _ h9 => h9) rfl hin rfl (by decide +kernel) rfl rfl (Nat.le_of_ble_eq_true rfl) dM_init_330 (fun H locs hP hD hS => ?_)
  have hP : va_P (dC, dI) vwCl [(m0, .inr (4, [.ref q7, .ref q102, .ref q197, .int (nI 0), .int (nI 800), .ref q287, .ref q295, .int (nI 0), .ref q304, .ref q312, .ref q321, .int (nI 0), .int (nI 0), .int (nI 0), .int (nI 0), .int (nI 0), .ref q328])), (q7, .inl (cI, 16, .inl (aN fFI))), (q102, .inl (cI, 16, .inl (aN fMM))), (q197, .inl (cI, 16, .inl (aN fFO))), (q287, .inl (cI, 672, .inl (aN (fun _ => 0)))), (q295, .inl (cI, 16, .inl (aP (fun _ => 1)))), (q304, .inl (cI, 672, .inl (aN (fun _ => 0)))), (q312, .inl (cI, 16, .inl (aP (fun _ => 1)))), (q321, .inl (cI, 400, .inl (aN (fun _ => 0)))), (q328, .inl (cI, 4, .inl (aN (fun _ => 0))))] H := hP
  have hD : va_D A [(m0, .inr (4, [.ref q7, .ref q102, .ref q197, .int (nI 0), .int (nI 800), .ref q287, .ref q295, .int (nI 0), .ref q304, .ref q312, .ref q321, .int (nI 0), .int (nI 0), .int (nI 0), .int (nI 0), .int (nI 0), .ref q328])), (q7, .inl (cI, 16, .inl (aN fFI))), (q102, .inl (cI, 16, .inl (aN fMM))), (q197, .inl (cI, 16, .inl (aN fFO))), (q287, .inl (cI, 672, .inl (aN (fun _ => 0)))), (q295, .inl (cI, 16, .inl (aP (fun _ => 1)))), (q304, .inl (cI, 672, .inl (aN (fun _ => 0)))), (q312, .inl (cI, 16, .inl (aP (fun _ => 1)))), (q321, .inl (cI, 400, .inl (aN (fun _ => 0)))), (q328, .inl (cI, 4, .inl (aN (fun _ => 0))))] := hD
  refine lv_aload_n hx hb dM_init_333 rfl (lv_at hl 0 rfl) ?_
  refine va_get (D := (dC, dI)) (ci := 4) (v := .ref q295) (C := RM) (T := TM) (N := 17) hx hb hw inM hown hK hP 0 rfl rfl 6 (by decide) (hw _ w_fl_M_26) (fun _ h9 => h9) rfl dM_init_334 ?_
  have hPc := hP.sub (ws' := [(q295, .inl (cI, 16, .inl (aP (fun _ => 1))))]) [5] rfl
  have hDc := hD.sub (ws' := [(q295, .inl (cI, 16, .inl (aP (fun _ => 1))))]) [5] (by decide) rfl
  have hFc := va_free (wc := [(q295, .inl (cI, 16, .inl (aP (fun _ => 1))))]) hD hS hA [5] rfl
  refine zc_Mv (va_runS (As := [.ref q295]) (rest := []) ⟨hx, hb, hml, hown, hw⟩ (c_M_clear l dC dI q295 cI cB (fun _ => 1) H.size) (va_cwS 1 hw (gSt w_ml_M_41 w_st_M_clear w_in_M w_co_M_clear) rfl rfl rfl (by decide +kernel) ⟨Nat.le_of_ble_eq_true rfl, Nat.le_of_ble_eq_true rfl⟩) (zM_S hG hS hFc hPc hDc hK) rfl rfl hl.1 rfl (lv_room (Nat.le_of_ble_eq_true rfl)) dM_init_337 ⟨Nat.le_of_ble_eq_true rfl, Nat.le_of_ble_eq_true rfl⟩) hS hFc (fun H locs h_337 hP1 hD1 hk1 hS => ?_)
  obtain ⟨hP, hD⟩ := va_join (wr := [(m0, .inr (4, [.ref q7, .ref q102, .ref q197, .int (nI 0), .int (nI 800), .ref q287, .ref q295, .int (nI 0), .ref q304, .ref q312, .ref q321, .int (nI 0), .int (nI 0), .int (nI 0), .int (nI 0), .int (nI 0), .ref q328])), (q7, .inl (cI, 16, .inl (aN fFI))), (q102, .inl (cI, 16, .inl (aN fMM))), (q197, .inl (cI, 16, .inl (aN fFO))), (q287, .inl (cI, 672, .inl (aN (fun _ => 0)))), (q304, .inl (cI, 672, .inl (aN (fun _ => 0)))), (q312, .inl (cI, 16, .inl (aP (fun _ => 1)))), (q321, .inl (cI, 400, .inl (aN (fun _ => 0)))), (q328, .inl (cI, 4, .inl (aN (fun _ => 0))))]) (w1 := [(q295, .inl (cI, 16, .inl (aP (zc (fun _ => 1) 16))))]) hP hD [5] [0, 1, 2, 3, 4, 6, 7, 8, 9] rfl rfl (by decide) (by decide) hk1 hFc hP1 hD1
  have hP : va_P (dC, dI) vwCl [(m0, .inr (4, [.ref q7, .ref q102, .ref q197, .int (nI 0), .int (nI 800), .ref q287, .ref q295, .int (nI 0), .ref q304, .ref q312, .ref q321, .int (nI 0), .int (nI 0), .int (nI 0), .int (nI 0), .int (nI 0), .ref q328])), (q7, .inl (cI, 16, .inl (aN fFI))), (q102, .inl (cI, 16, .inl (aN fMM))), (q197, .inl (cI, 16, .inl (aN fFO))), (q287, .inl (cI, 672, .inl (aN (fun _ => 0)))), (q304, .inl (cI, 672, .inl (aN (fun _ => 0)))), (q312, .inl (cI, 16, .inl (aP (fun _ => 1)))), (q321, .inl (cI, 400, .inl (aN (fun _ => 0)))), (q328, .inl (cI, 4, .inl (aN (fun _ => 0)))), (q295, .inl (cI, 16, .inl (aP (zc (fun _ => 1) 16))))] H := hP
  have hD : va_D A [(m0, .inr (4, [.ref q7, .ref q102, .ref q197, .int (nI 0), .int (nI 800), .ref q287, .ref q295, .int (nI 0), .ref q304, .ref q312, .ref q321, .int (nI 0), .int (nI 0), .int (nI 0), .int (nI 0), .int (nI 0), .ref q328])), (q7, .inl (cI, 16, .inl (aN fFI))), (q102, .inl (cI, 16, .inl (aN fMM))), (q197, .inl (cI, 16, .inl (aN fFO))), (q287, .inl (cI, 672, .inl (aN (fun _ => 0)))), (q304, .inl (cI, 672, .inl (aN (fun _ => 0)))), (q312, .inl (cI, 16, .inl (aP (fun _ => 1)))), (q321, .inl (cI, 400, .inl (aN (fun _ => 0)))), (q328, .inl (cI, 4, .inl (aN (fun _ => 0)))), (q295, .inl (cI, 16, .inl (aP (zc (fun _ => 1) 16))))] := hD
  refine lv_aload_n hx hb dM_init_340 rfl (lv_at hl 0 rfl) ?_
  refine va_get (D := (dC, dI)) (ci := 4) (v := .ref q312) (C := RM) (T := TM) (N := 17) hx hb hw inM hown hK hP 0 rfl rfl 9 (by decide) (hw _ w_fl_M_32) (fun _ h9 => h9) rfl dM_init_341 ?_
  have hPc := hP.sub (ws' := [(q312, .inl (cI, 16, .inl (aP (fun _ => 1))))]) [6] rfl
  have hDc := hD.sub (ws' := [(q312, .inl (cI, 16, .inl (aP (fun _ => 1))))]) [6] (by decide) rfl
  have hFc := va_free (wc := [(q312, .inl (cI, 16, .inl (aP (fun _ => 1))))]) hD hS hA [6] rfl
  refine zc_Mv (va_runS (As := [.ref q312]) (rest := []) ⟨hx, hb, hml, hown, hw⟩ (c_M_clear l dC dI q312 cI cB (fun _ => 1) H.size) (va_cwS 1 hw (gSt w_ml_M_41 w_st_M_clear w_in_M w_co_M_clear) rfl rfl rfl (by decide +kernel) ⟨Nat.le_of_ble_eq_true rfl, Nat.le_of_ble_eq_true rfl⟩) (zM_S hG hS hFc hPc hDc hK) rfl rfl hl.1 rfl (lv_room (Nat.le_of_ble_eq_true rfl)) dM_init_344 ⟨Nat.le_of_ble_eq_true rfl, Nat.le_of_ble_eq_true rfl⟩) hS hFc (fun H locs h_344 hP1 hD1 hk1 hS => ?_)
  obtain ⟨hP, hD⟩ := va_join (wr := [(m0, .inr (4, [.ref q7, .ref q102, .ref q197, .int (nI 0), .int (nI 800), .ref q287, .ref q295, .int (nI 0), .ref q304, .ref q312, .ref q321, .int (nI 0), .int (nI 0), .int (nI 0), .int (nI 0), .int (nI 0), .ref q328])), (q7, .inl (cI, 16, .inl (aN fFI))), (q102, .inl (cI, 16, .inl (aN fMM))), (q197, .inl (cI, 16, .inl (aN fFO))), (q287, .inl (cI, 672, .inl (aN (fun _ => 0)))), (q304, .inl (cI, 672, .inl (aN (fun _ => 0)))), (q321, .inl (cI, 400, .inl (aN (fun _ => 0)))), (q328, .inl (cI, 4, .inl (aN (fun _ => 0)))), (q295, .inl (cI, 16, .inl (aP (zc (fun _ => 1) 16))))]) (w1 := [(q312, .inl (cI, 16, .inl (aP (zc (fun _ => 1) 16))))]) hP hD [6] [0, 1, 2, 3, 4, 5, 7, 8, 9] rfl rfl (by decide) (by decide) hk1 hFc hP1 hD1
  have hP : va_P (dC, dI) vwCl [(m0, .inr (4, [.ref q7, .ref q102, .ref q197, .int (nI 0), .int (nI 800), .ref q287, .ref q295, .int (nI 0), .ref q304, .ref q312, .ref q321, .int (nI 0), .int (nI 0), .int (nI 0), .int (nI 0), .int (nI 0), .ref q328])), (q7, .inl (cI, 16, .inl (aN fFI))), (q102, .inl (cI, 16, .inl (aN fMM))), (q197, .inl (cI, 16, .inl (aN fFO))), (q287, .inl (cI, 672, .inl (aN (fun _ => 0)))), (q304, .inl (cI, 672, .inl (aN (fun _ => 0)))), (q321, .inl (cI, 400, .inl (aN (fun _ => 0)))), (q328, .inl (cI, 4, .inl (aN (fun _ => 0)))), (q295, .inl (cI, 16, .inl (aP (zc (fun _ => 1) 16)))), (q312, .inl (cI, 16, .inl (aP (zc (fun _ => 1) 16))))] H := hP
  have hD : va_D A [(m0, .inr (4, [.ref q7, .ref q102, .ref q197, .int (nI 0), .int (nI 800), .ref q287, .ref q295, .int (nI 0), .ref q304, .ref q312, .ref q321, .int (nI 0), .int (nI 0), .int (nI 0), .int (nI 0), .int (nI 0), .ref q328])), (q7, .inl (cI, 16, .inl (aN fFI))), (q102, .inl (cI, 16, .inl (aN fMM))), (q197, .inl (cI, 16, .inl (aN fFO))), (q287, .inl (cI, 672, .inl (aN (fun _ => 0)))), (q304, .inl (cI, 672, .inl (aN (fun _ => 0)))), (q321, .inl (cI, 400, .inl (aN (fun _ => 0)))), (q328, .inl (cI, 4, .inl (aN (fun _ => 0)))), (q295, .inl (cI, 16, .inl (aP (zc (fun _ => 1) 16)))), (q312, .inl (cI, 16, .inl (aP (zc (fun _ => 1) 16))))] := hD
  subst hAe
  subst hQ
  exact W.vret hx hb hr (fun t ht hW => ⟨⟨(q7, q102, q197, q287, q295, q304, q312, q321, q328), rfl, trivial, by rw [ht]; exact hP.sub [0, 1, 2, 3, 4, 8, 5, 9, 6, 7] rfl, hD.sub [0, 1, 2, 3, 4, 8, 5, 9, 6, 7] (by decide) rfl⟩, hS.F ht⟩) hS.2.2 dM_init_347
