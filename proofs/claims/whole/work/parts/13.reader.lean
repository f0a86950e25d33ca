def rm_c_T_byteAt : Room := ({ frames := 0, cells := 0, slots := 0, locals := 0 } : Room)
set_option maxHeartbeats 4000000 in
set_option maxRecDepth 100000 in
theorem c_T_byteAt (l : Launch) (dC : Nat → ClassId) (dI : Nat → Nat → Nat) (t0 : Nat) (t1 : Nat) (len : Nat) (cI : ClassId) (cB : ClassId) (tp : Nat → Nat) (i : Nat) (hi : i < 400) (hti : tp i < 256) (Hc : Heap) : Met l yT_byteAt wsT_byteAt rm_c_T_byteAt (zR (dC, dI) [(cI, .int), (cB, .byte)] [.ref t0, .int (nI i)] [(t0, .inr (2, [.ref t1, .int (nI len)])), (t1, .inl (cB, 400, .inl (aB tp)))] Hc) (zRi Hc (fun r => r = nI (tp i))) 0 0 zNo := by
  refine Met.ofW (cc := cT_byteAt) (maxL := 2) (ret := (some .int)) (by decide) rfl ?_
  intro p e s m args below meth c s₁ Bd hml hv
  obtain ⟨rfl, hH, hG, hP, hK⟩ := hv
  subst hH
  have hx := Bd.exec
  have hb := Bd.bytes
  have hr := Bd.returns
  have hts := atoms_spec (ws := wsT_byteAt) Bd.pre
  have hw : ∀ w ∈ BIG, w.before _ s = true := fun w h => hts w (List.mem_cons_of_mem _ h)
  have hown : s.vm.findClass RT = some m.cls := findClass_of_methodNamed Bd.named
  have hlocks := Bd.notSynchronized
  have hS : va_S zNo s.heap s.heap [] := va_S.rf
  have hl := lv_entry ([.ref t0, .int (nI i)]) (n := 2) (Nat.le_of_ble_eq_true rfl)
  rw [lg_entry_eq]
  generalize (lg_sl ([.ref t0, .int (nI i)]) ++ List.replicate (2 - (lg_sl ([.ref t0, .int (nI i)])).length) Slot.unset).toArray = ls at hl ⊢
  have hl : lv_has ls 2 [(0, .ref t0), (1, .int (nI i))] := hl
  refine zq_name (fun Q hQ => ?_)
  change W p l e rm_c_T_byteAt s m _ below meth c _ _ _ _ Q _
  refine lv_aload_n hx hb dT_byteAt_0 rfl (lv_at hl 0 rfl) ?_
  refine va_get (D := (dC, dI)) (ci := 2) (v := .ref t1) (C := RT) (T := TT) (N := 2) hx hb hw inT hown hK hP 0 rfl rfl 0 (by decide) (hw _ w_fl_T_9) (fun _ h9 => h9) rfl dT_byteAt_1 ?_
  refine lv_iload_n hx hb dT_byteAt_4 rfl (lv_at hl 1 rfl) ?_
  refine za_Bld hx hb hK hP 1 1 rfl rfl (by omega) (by decide) dT_byteAt_5 ?_
  refine lv_sipush (v := nI 255) hx hb dT_byteAt_6 (by decide) ?_
  refine zi_and255 hx hb (by omega) dT_byteAt_9 ?_
  subst hQ
  exact W.iret (v := nI (tp i)) hx hb hr (fun t ht hW => ⟨⟨nI (tp i), (), rfl, rfl, ht⟩, hS.F ht⟩) hS.2.2 dT_byteAt_10
def rm_c_R_fail : Room := ({ frames := 0, cells := 0, slots := 0, locals := 0 } : Room)
set_option maxHeartbeats 4000000 in
set_option maxRecDepth 100000 in
theorem c_R_fail (l : Launch) (dC : Nat → ClassId) (dI : Nat → Nat → Nat) (r0 : Nat) (f0 : Nat) (fk : Nat) (fp : Int32) (t0 : Nat) (nx : Nat) (lnb : Nat) (cI : ClassId) (cB : ClassId) (k : Nat) (pl : Int32) (sz : Nat) : Met l yR_fail wsR_fail rm_c_R_fail (zM (dC, dI) [(cI, .int), (cB, .byte)] [.ref r0, .int (nI k), .int pl] [(r0, .inr (1, [.ref f0, .int (nI fk), .int fp, .ref t0, .int (nI nx), .int (nI lnb)]))] sz) (zMi (dC, dI) [(r0, .inr (1, [.ref f0, .int (nI fk), .int fp, .ref t0, .int (nI nx), .int (nI lnb)]))] [(r0, .inr (1, [.ref f0, .int (nI k), .int pl, .ref t0, .int (nI nx), .int (nI lnb)]))] sz (fun r => r = nI 0)) 0 0 (va_A [(r0, .inr (1, [.ref f0, .int (nI fk), .int fp, .ref t0, .int (nI nx), .int (nI lnb)]))] sz) := by
  refine Met.ofW (cc := cR_fail) (maxL := 3) (ret := (some .boolean)) (by decide) rfl ?_
  intro p e s m args below meth c s₁ Bd hml hv
  obtain ⟨rfl, hsz, hG, hP, hK, hD0⟩ := hv
  subst hsz
  have hx := Bd.exec
  have hb := Bd.bytes
  have hr := Bd.returns
  have hts := atoms_spec (ws := wsR_fail) Bd.pre
  have hw : ∀ w ∈ BIG, w.before _ s = true := fun w h => hts w (List.mem_cons_of_mem _ h)
  have hown : s.vm.findClass RR = some m.cls := findClass_of_methodNamed Bd.named
  have hlocks := Bd.notSynchronized
  have hD := hD0.self (sz := s.heap.size)
  obtain ⟨A, hAe⟩ : ∃ A, A = va_A [(r0, .inr (1, [.ref f0, .int (nI fk), .int fp, .ref t0, .int (nI nx), .int (nI lnb)]))] s.heap.size := ⟨_, rfl⟩
  have hA : ∀ q : Nat, s.heap.size ≤ q → A q := fun q h => by rw [hAe]; exact Or.inr h
  rw [← hAe] at hG hD
  have hS : va_S A s.heap s.heap [] := va_S.rf
  have hl := lv_entry ([.ref r0, .int (nI k), .int pl]) (n := 3) (Nat.le_of_ble_eq_true rfl)
  rw [lg_entry_eq]
  generalize (lg_sl ([.ref r0, .int (nI k), .int pl]) ++ List.replicate (3 - (lg_sl ([.ref r0, .int (nI k), .int pl])).length) Slot.unset).toArray = ls at hl ⊢
  have hl : lv_has ls 3 [(0, .ref r0), (1, .int (nI k)), (2, .int pl)] := hl
  refine zq_name (fun Q hQ => ?_)
  change W p l e rm_c_R_fail s m _ below meth c _ _ _ _ Q _
  refine lv_aload_n hx hb dR_fail_0 rfl (lv_at hl 0 rfl) ?_
  refine lv_iload_n hx hb dR_fail_1 rfl (lv_at hl 1 rfl) ?_
  refine va_put (D := (dC, dI)) (ci := 1) (v := .int (nI k)) (ty := .int) (C := RR) (T := TR) (N := 6) hx hb hw inR tyR tyR_ok nmR hown hK hP hD hS 0 rfl rfl 1 (by decide) (hw _ w_fl_R_18) (fun _ h9 => h9) rfl (by decide +kernel) rfl rfl (Nat.le_of_ble_eq_true rfl) dR_fail_2 (fun H locs hP hD hS => ?_)
  have hP : va_P (dC, dI) vwCl [(r0, .inr (1, [.ref f0, .int (nI k), .int fp, .ref t0, .int (nI nx), .int (nI lnb)]))] H := hP
  have hD : va_D A [(r0, .inr (1, [.ref f0, .int (nI k), .int fp, .ref t0, .int (nI nx), .int (nI lnb)]))] := hD
  refine lv_aload_n hx hb dR_fail_5 rfl (lv_at hl 0 rfl) ?_
  refine lv_iload_n hx hb dR_fail_6 rfl (lv_at hl 2 rfl) ?_
  refine va_put (D := (dC, dI)) (ci := 1) (v := .int pl) (ty := .int) (C := RR) (T := TR) (N := 6) hx hb hw inR tyR tyR_ok nmR hown hK hP hD hS 0 rfl rfl 2 (by decide) (hw _ w_fl_R_22) (fun _ h9 => h9) rfl (by decide +kernel) rfl rfl (Nat.le_of_ble_eq_true rfl) dR_fail_7 (fun H locs hP hD hS => ?_)
  have hP : va_P (dC, dI) vwCl [(r0, .inr (1, [.ref f0, .int (nI k), .int pl, .ref t0, .int (nI nx), .int (nI lnb)]))] H := hP
  have hD : va_D A [(r0, .inr (1, [.ref f0, .int (nI k), .int pl, .ref t0, .int (nI nx), .int (nI lnb)]))] := hD
  refine lv_iconst (v := nI 0) hx hb dR_fail_10 (by decide) ?_
  subst hAe
  subst hQ
  exact W.zret (v := nI 0) hx hb hr (by decide) (fun t ht hW => ⟨⟨nI 0, (), rfl, rfl, by rw [ht]; exact hP.sub [0] rfl, hD.sub [0] (by decide) rfl⟩, hS.F ht⟩) hS.2.2 dR_fail_11
def rm_c_reaches_ok : Room := ({ frames := 1, cells := 0, slots := 0, locals := 22 } : Room)
set_option maxHeartbeats 4000000 in
set_option maxRecDepth 100000 in
theorem c_reaches_ok (l : Launch) (dC : Nat → ClassId) (dI : Nat → Nat → Nat) (r0 : Nat) (f0 : Nat) (fk : Nat) (fp : Int32) (t0 : Nat) (nx : Nat) (lnb : Nat) (t1 : Nat) (len : Nat) (cI : ClassId) (cB : ClassId) (n : Nat) (hln : len ≤ 400) (hnl : nx ≤ len) (hn : nx + n ≤ len) (Hc : Heap) : Met l yR_reaches wsR_reaches rm_c_reaches_ok (zR (dC, dI) [(cI, .int), (cB, .byte)] [.ref r0, .int (nI n)] [(r0, .inr (1, [.ref f0, .int (nI fk), .int fp, .ref t0, .int (nI nx), .int (nI lnb)])), (t0, .inr (2, [.ref t1, .int (nI len)]))] Hc) (zRi Hc (fun r => r = nI 1)) 0 0 zNo := by
  refine Met.ofW (cc := cR_reaches) (maxL := 2) (ret := (some .boolean)) (by decide) rfl ?_
  intro p e s m args below meth c s₁ Bd hml hv
  obtain ⟨rfl, hH, hG, hP, hK⟩ := hv
  subst hH
  have hx := Bd.exec
  have hb := Bd.bytes
  have hr := Bd.returns
  have hts := atoms_spec (ws := wsR_reaches) Bd.pre
  have hw : ∀ w ∈ BIG, w.before _ s = true := fun w h => hts w (List.mem_cons_of_mem _ h)
  have hown : s.vm.findClass RR = some m.cls := findClass_of_methodNamed Bd.named
  have hlocks := Bd.notSynchronized
  have hS : va_S zNo s.heap s.heap [] := va_S.rf
  have hl := lv_entry ([.ref r0, .int (nI n)]) (n := 2) (Nat.le_of_ble_eq_true rfl)
  rw [lg_entry_eq]
  generalize (lg_sl ([.ref r0, .int (nI n)]) ++ List.replicate (2 - (lg_sl ([.ref r0, .int (nI n)])).length) Slot.unset).toArray = ls at hl ⊢
  have hl : lv_has ls 2 [(0, .ref r0), (1, .int (nI n))] := hl
  refine zq_name (fun Q hQ => ?_)
  change W p l e rm_c_reaches_ok s m _ below meth c _ _ _ _ Q _
  refine lv_iload_n hx hb dR_reaches_0 rfl (lv_at hl 1 rfl) ?_
  refine lv_aload_n hx hb dR_reaches_1 rfl (lv_at hl 0 rfl) ?_
  refine va_get (D := (dC, dI)) (ci := 1) (v := .ref t0) (C := RR) (T := TR) (N := 6) hx hb hw inR hown hK hP 0 rfl rfl 3 (by decide) (hw _ w_fl_R_31) (fun _ h9 => h9) rfl dR_reaches_2 ?_
  refine va_get (D := (dC, dI)) (ci := 2) (v := .int (nI len)) (C := RT) (T := TT) (N := 2) hx hb hw inT hown hK hP 1 rfl rfl 1 (by decide) (hw _ w_fl_R_62) (fun _ h9 => h9) rfl dR_reaches_5 ?_
  refine lv_aload_n hx hb dR_reaches_8 rfl (lv_at hl 0 rfl) ?_
  refine va_get (D := (dC, dI)) (ci := 1) (v := .int (nI nx)) (C := RR) (T := TR) (N := 6) hx hb hw inR hown hK hP 0 rfl rfl 4 (by decide) (hw _ w_fl_R_25) (fun _ h9 => h9) rfl dR_reaches_9 ?_
  refine zi_sub hx hb (by omega) dR_reaches_12 ?_
  refine zi_le (tgt := 31) hx hb (by omega) (by omega) dR_reaches_13 (by decide) (fun c_13 => ?_) (fun q => False.elim ((by omega : False)))
  refine lv_iconst (v := nI 1) hx hb dR_reaches_31 (by decide) ?_
  refine lv_goto (tgt := 36) hx hb dR_reaches_32 (by decide) ?_
  subst hQ
  exact W.zret (v := nI 1) hx hb hr (by decide) (fun t ht hW => ⟨⟨nI 1, (), rfl, rfl, ht⟩, hS.F ht⟩) hS.2.2 dR_reaches_36
def rm_c_reaches_no : Room := ({ frames := 1, cells := 0, slots := 0, locals := 22 } : Room)
set_option maxHeartbeats 4000000 in
set_option maxRecDepth 100000 in
theorem c_reaches_no (l : Launch) (dC : Nat → ClassId) (dI : Nat → Nat → Nat) (r0 : Nat) (f0 : Nat) (fk : Nat) (fp : Int32) (t0 : Nat) (nx : Nat) (lnb : Nat) (t1 : Nat) (len : Nat) (cI : ClassId) (cB : ClassId) (n : Nat) (hln : len ≤ 400) (hnl : nx ≤ len) (hn : len < nx + n) (hn2 : n < 1000) (sz : Nat) : Met l yR_reaches wsR_reaches rm_c_reaches_no (zM (dC, dI) [(cI, .int), (cB, .byte)] [.ref r0, .int (nI n)] [(r0, .inr (1, [.ref f0, .int (nI fk), .int fp, .ref t0, .int (nI nx), .int (nI lnb)])), (t0, .inr (2, [.ref t1, .int (nI len)]))] sz) (zMi (dC, dI) [(r0, .inr (1, [.ref f0, .int (nI fk), .int fp, .ref t0, .int (nI nx), .int (nI lnb)])), (t0, .inr (2, [.ref t1, .int (nI len)]))] [(r0, .inr (1, [.ref f0, .int (nI 1), .int (nI len), .ref t0, .int (nI nx), .int (nI lnb)])), (t0, .inr (2, [.ref t1, .int (nI len)]))] sz (fun r => r = nI 0)) 0 0 (va_A [(r0, .inr (1, [.ref f0, .int (nI fk), .int fp, .ref t0, .int (nI nx), .int (nI lnb)])), (t0, .inr (2, [.ref t1, .int (nI len)]))] sz) := by
  refine Met.ofW (cc := cR_reaches) (maxL := 2) (ret := (some .boolean)) (by decide) rfl ?_
  intro p e s m args below meth c s₁ Bd hml hv
  obtain ⟨rfl, hsz, hG, hP, hK, hD0⟩ := hv
  subst hsz
  have hx := Bd.exec
  have hb := Bd.bytes
  have hr := Bd.returns
  have hts := atoms_spec (ws := wsR_reaches) Bd.pre
  have hw : ∀ w ∈ BIG, w.before _ s = true := fun w h => hts w (List.mem_cons_of_mem _ h)
  have hown : s.vm.findClass RR = some m.cls := findClass_of_methodNamed Bd.named
  have hlocks := Bd.notSynchronized
  have hD := hD0.self (sz := s.heap.size)
  obtain ⟨A, hAe⟩ : ∃ A, A = va_A [(r0, .inr (1, [.ref f0, .int (nI fk), .int fp, .ref t0, .int (nI nx), .int (nI lnb)])), (t0, .inr (2, [.ref t1, .int (nI len)]))] s.heap.size := ⟨_, rfl⟩
  have hA : ∀ q : Nat, s.heap.size ≤ q → A q := fun q h => by rw [hAe]; exact Or.inr h
  rw [← hAe] at hG hD
  have hS : va_S A s.heap s.heap [] := va_S.rf
  have hl := lv_entry ([.ref r0, .int (nI n)]) (n := 2) (Nat.le_of_ble_eq_true rfl)
  rw [lg_entry_eq]
  generalize (lg_sl ([.ref r0, .int (nI n)]) ++ List.replicate (2 - (lg_sl ([.ref r0, .int (nI n)])).length) Slot.unset).toArray = ls at hl ⊢
  have hl : lv_has ls 2 [(0, .ref r0), (1, .int (nI n))] := hl
  refine zq_name (fun Q hQ => ?_)
  change W p l e rm_c_reaches_no s m _ below meth c _ _ _ _ Q _
  refine lv_iload_n hx hb dR_reaches_0 rfl (lv_at hl 1 rfl) ?_
  refine lv_aload_n hx hb dR_reaches_1 rfl (lv_at hl 0 rfl) ?_
  refine va_get (D := (dC, dI)) (ci := 1) (v := .ref t0) (C := RR) (T := TR) (N := 6) hx hb hw inR hown hK hP 0 rfl rfl 3 (by decide) (hw _ w_fl_R_31) (fun _ h9 => h9) rfl dR_reaches_2 ?_
  refine va_get (D := (dC, dI)) (ci := 2) (v := .int (nI len)) (C := RT) (T := TT) (N := 2) hx hb hw inT hown hK hP 1 rfl rfl 1 (by decide) (hw _ w_fl_R_62) (fun _ h9 => h9) rfl dR_reaches_5 ?_
  refine lv_aload_n hx hb dR_reaches_8 rfl (lv_at hl 0 rfl) ?_
  refine va_get (D := (dC, dI)) (ci := 1) (v := .int (nI nx)) (C := RR) (T := TR) (N := 6) hx hb hw inR hown hK hP 0 rfl rfl 4 (by decide) (hw _ w_fl_R_25) (fun _ h9 => h9) rfl dR_reaches_9 ?_
  refine zi_sub hx hb (by omega) dR_reaches_12 ?_
  refine zi_le (tgt := 31) hx hb (by omega) (by omega) dR_reaches_13 (by decide) (fun q => False.elim ((by omega : False))) (fun c_13 => ?_)
  refine lv_aload_n hx hb dR_reaches_16 rfl (lv_at hl 0 rfl) ?_
  refine lv_iconst (v := nI 1) hx hb dR_reaches_17 (by decide) ?_
  refine lv_aload_n hx hb dR_reaches_18 rfl (lv_at hl 0 rfl) ?_
  refine va_get (D := (dC, dI)) (ci := 1) (v := .ref t0) (C := RR) (T := TR) (N := 6) hx hb hw inR hown hK hP 0 rfl rfl 3 (by decide) (hw _ w_fl_R_31) (fun _ h9 => h9) rfl dR_reaches_19 ?_
  refine va_get (D := (dC, dI)) (ci := 2) (v := .int (nI len)) (C := RT) (T := TT) (N := 2) hx hb hw inT hown hK hP 1 rfl rfl 1 (by decide) (hw _ w_fl_R_62) (fun _ h9 => h9) rfl dR_reaches_22 ?_
  have hPc := hP.sub (ws' := [(r0, .inr (1, [.ref f0, .int (nI fk), .int fp, .ref t0, .int (nI nx), .int (nI lnb)]))]) [0] rfl
  have hDc := hD.sub (ws' := [(r0, .inr (1, [.ref f0, .int (nI fk), .int fp, .ref t0, .int (nI nx), .int (nI lnb)]))]) [0] (by decide) rfl
  have hFc := va_free (wc := [(r0, .inr (1, [.ref f0, .int (nI fk), .int fp, .ref t0, .int (nI nx), .int (nI lnb)]))]) hD hS hA [0] rfl
  refine zc_Mi (va_runV (As := [.int (nI 1), .int (nI len)]) (rest := []) ⟨hx, hb, hml, hown, hw⟩ (c_R_fail l dC dI r0 f0 fk fp t0 nx lnb cI cB 1 (nI len) s.heap.size) (cwV 2 hw (gV w_ml_R_65 w_im_R_fail w_se_R_fail w_in_R w_co_R_fail) rfl rfl rfl (by decide +kernel) ⟨Nat.le_of_ble_eq_true rfl, Nat.le_of_ble_eq_true rfl⟩) (zM_V hG hS hFc hPc hDc hK 0 rfl rfl) rfl rfl hl.1 rfl (lv_room (Nat.le_of_ble_eq_true rfl)) dR_reaches_25 ⟨Nat.le_of_ble_eq_true rfl, Nat.le_of_ble_eq_true rfl⟩) hS hFc (fun r_1 H locs h_25 hP1 hD1 hk1 hS => ?_)
  obtain ⟨hP, hD⟩ := va_join (wr := [(t0, .inr (2, [.ref t1, .int (nI len)]))]) (w1 := [(r0, .inr (1, [.ref f0, .int (nI 1), .int (nI len), .ref t0, .int (nI nx), .int (nI lnb)]))]) hP hD [0] [1] rfl rfl (by decide) (by decide) hk1 hFc hP1 hD1
  have hP : va_P (dC, dI) vwCl [(t0, .inr (2, [.ref t1, .int (nI len)])), (r0, .inr (1, [.ref f0, .int (nI 1), .int (nI len), .ref t0, .int (nI nx), .int (nI lnb)]))] H := hP
  have hD : va_D A [(t0, .inr (2, [.ref t1, .int (nI len)])), (r0, .inr (1, [.ref f0, .int (nI 1), .int (nI len), .ref t0, .int (nI nx), .int (nI lnb)]))] := hD
  subst h_25
  refine lv_if_eq (tgt := 35) hx hb dR_reaches_28 (by decide) (fun c_28 => ?_) (fun q => False.elim (absurd q (by decide)))
  refine lv_iconst (v := nI 0) hx hb dR_reaches_35 (by decide) ?_
  subst hAe
  subst hQ
  exact W.zret (v := nI 0) hx hb hr (by decide) (fun t ht hW => ⟨⟨nI 0, (), rfl, rfl, by rw [ht]; exact hP.sub [1, 0] rfl, hD.sub [1, 0] (by decide) rfl⟩, hS.F ht⟩) hS.2.2 dR_reaches_36
def rm_c_R_halfAhead : Room := ({ frames := 1, cells := 0, slots := 0, locals := 21 } : Room)
set_option maxHeartbeats 4000000 in
set_option maxRecDepth 100000 in
theorem c_R_halfAhead (l : Launch) (dC : Nat → ClassId) (dI : Nat → Nat → Nat) (r0 : Nat) (f0 : Nat) (fk : Nat) (fp : Int32) (t0 : Nat) (nx : Nat) (lnb : Nat) (t1 : Nat) (len : Nat) (cI : ClassId) (cB : ClassId) (tp : Nat → Nat) (k : Nat) (htp : ∀ j, tp j < 256) (hk : nx + k / 2 < 400) (hk2 : k < 1000) (Hc : Heap) : Met l yR_halfAhead wsR_halfAhead rm_c_R_halfAhead (zR (dC, dI) [(cI, .int), (cB, .byte)] [.ref r0, .int (nI k)] [(r0, .inr (1, [.ref f0, .int (nI fk), .int fp, .ref t0, .int (nI nx), .int (nI lnb)])), (t0, .inr (2, [.ref t1, .int (nI len)])), (t1, .inl (cB, 400, .inl (aB tp)))] Hc) (zRi Hc (fun r => r = nI (hf tp nx k))) 0 0 zNo := by
  refine Met.ofW (cc := cR_halfAhead) (maxL := 3) (ret := (some .int)) (by decide) rfl ?_
  intro p e s m args below meth c s₁ Bd hml hv
  obtain ⟨rfl, hH, hG, hP, hK⟩ := hv
  subst hH
  have hx := Bd.exec
  have hb := Bd.bytes
  have hr := Bd.returns
  have hts := atoms_spec (ws := wsR_halfAhead) Bd.pre
  have hw : ∀ w ∈ BIG, w.before _ s = true := fun w h => hts w (List.mem_cons_of_mem _ h)
  have hown : s.vm.findClass RR = some m.cls := findClass_of_methodNamed Bd.named
  have hlocks := Bd.notSynchronized
  have hS : va_S zNo s.heap s.heap [] := va_S.rf
  have hl := lv_entry ([.ref r0, .int (nI k)]) (n := 3) (Nat.le_of_ble_eq_true rfl)
  rw [lg_entry_eq]
  generalize (lg_sl ([.ref r0, .int (nI k)]) ++ List.replicate (3 - (lg_sl ([.ref r0, .int (nI k)])).length) Slot.unset).toArray = ls at hl ⊢
  have hl : lv_has ls 3 [(0, .ref r0), (1, .int (nI k))] := hl
  refine zq_name (fun Q hQ => ?_)
  change W p l e rm_c_R_halfAhead s m _ below meth c _ _ _ _ Q _
  have ht9 := htp (nx + k / 2)
  refine lv_aload_n hx hb dR_halfAhead_0 rfl (lv_at hl 0 rfl) ?_
  refine va_get (D := (dC, dI)) (ci := 1) (v := .ref t0) (C := RR) (T := TR) (N := 6) hx hb hw inR hown hK hP 0 rfl rfl 3 (by decide) (hw _ w_fl_R_31) (fun _ h9 => h9) rfl dR_halfAhead_1 ?_
  refine lv_aload_n hx hb dR_halfAhead_4 rfl (lv_at hl 0 rfl) ?_
  refine va_get (D := (dC, dI)) (ci := 1) (v := .int (nI nx)) (C := RR) (T := TR) (N := 6) hx hb hw inR hown hK hP 0 rfl rfl 4 (by decide) (hw _ w_fl_R_25) (fun _ h9 => h9) rfl dR_halfAhead_5 ?_
  refine lv_iload_n hx hb dR_halfAhead_8 rfl (lv_at hl 1 rfl) ?_
  refine lv_iconst (v := nI 2) hx hb dR_halfAhead_9 (by decide) ?_
  refine zi_div hx hb (by omega) (by omega) (by omega) dR_halfAhead_10 ?_
  refine zi_add hx hb dR_halfAhead_11 ?_
  refine zc_Ri (va_runV (As := [.int (nI (nx + (k / 2)))]) (rest := []) ⟨hx, hb, hml, hown, hw⟩ (c_T_byteAt l dC dI t0 t1 len cI cB tp (nx + (k / 2)) (by omega) (htp _) s.heap) (cwV 1 hw (gV w_ml_R_50 w_im_T_byteAt w_se_T_byteAt w_in_T w_co_T_byteAt) rfl rfl rfl (by decide +kernel) ⟨Nat.le_of_ble_eq_true rfl, Nat.le_of_ble_eq_true rfl⟩) (zR_V hG hS (hP.sub (ws' := [(t0, .inr (2, [.ref t1, .int (nI len)])), (t1, .inl (cB, 400, .inl (aB tp)))]) [1, 2] rfl) hK 0 rfl rfl) rfl rfl hl.1 rfl (lv_room (Nat.le_of_ble_eq_true rfl)) dR_halfAhead_12 ⟨Nat.le_of_ble_eq_true rfl, Nat.le_of_ble_eq_true rfl⟩) hS (fun r_1 locs h_12 hS => ?_)
  subst h_12
  refine lv_istore_n (lv' := [(2, .int (nI (tp (nx + (k / 2))))), (0, .ref r0), (1, .int (nI k))]) hx hb dR_halfAhead_15 rfl hl (by decide) rfl (fun ls hl => ?_)
  refine lv_iload_n hx hb dR_halfAhead_16 rfl (lv_at hl 2 rfl) ?_
  refine lv_iconst (v := nI 2) hx hb dR_halfAhead_17 (by decide) ?_
  refine zi_rem hx hb (by omega) (by omega) (by omega) dR_halfAhead_18 ?_
  refine zi_ne0 (tgt := 28) hx hb (by omega) dR_halfAhead_19 (by decide) (fun c_19 => ?_) (fun c_19 => ?_)
  · refine lv_iload_n hx hb dR_halfAhead_28 rfl (lv_at hl 0 rfl) ?_
    refine lv_bipush (v := nI 15) hx hb dR_halfAhead_29 (by decide) ?_
    refine zi_and hx hb 4 (by omega) (by decide) dR_halfAhead_31 ?_
    refine zi_v (b := nI ((tp (nx + (k / 2))) % 16)) rfl ?_
    refine zi_v (b := nI (hf tp nx k)) (by unfold hf; rw [if_neg c_19]) ?_
    subst hQ
    exact W.iret (v := nI (hf tp nx k)) hx hb hr (fun t ht hW => ⟨⟨nI (hf tp nx k), (), rfl, rfl, ht⟩, hS.F ht⟩) hS.2.2 dR_halfAhead_32
  · refine lv_iload_n hx hb dR_halfAhead_22 rfl (lv_at hl 0 rfl) ?_
    refine lv_iconst (v := nI 4) hx hb dR_halfAhead_23 (by decide) ?_
    refine zi_shr hx hb (by omega) (by decide) dR_halfAhead_24 ?_
    refine zi_v (b := nI ((tp (nx + (k / 2))) / 16)) rfl ?_
    refine lv_goto (tgt := 32) hx hb dR_halfAhead_25 (by decide) ?_
    refine zi_v (b := nI (hf tp nx k)) (by unfold hf; rw [if_pos c_19]) ?_
    subst hQ
    exact W.iret (v := nI (hf tp nx k)) hx hb hr (fun t ht hW => ⟨⟨nI (hf tp nx k), (), rfl, rfl, ht⟩, hS.F ht⟩) hS.2.2 dR_halfAhead_32
def rm_c_R_digitAhead : Room := ({ frames := 2, cells := 0, slots := 0, locals := 43 } : Room)
set_option maxHeartbeats 4000000 in
set_option maxRecDepth 100000 in
theorem c_R_digitAhead (l : Launch) (dC : Nat → ClassId) (dI : Nat → Nat → Nat) (r0 : Nat) (f0 : Nat) (fk : Nat) (fp : Int32) (t0 : Nat) (nx : Nat) (lnb : Nat) (t1 : Nat) (len : Nat) (cI : ClassId) (cB : ClassId) (tp : Nat → Nat) (k : Nat) (ct : Nat) (htp : ∀ j, tp j < 256) (hk : nx + (ct % 2 + k) / 2 < 400) (hk2 : ct % 2 + k < 1000) (hk3 : ct < 1000) (Hc : Heap) : Met l yR_digitAhead wsR_digitAhead rm_c_R_digitAhead (zR (dC, dI) [(cI, .int), (cB, .byte)] [.ref r0, .int (nI k), .int (nI ct)] [(r0, .inr (1, [.ref f0, .int (nI fk), .int fp, .ref t0, .int (nI nx), .int (nI lnb)])), (t0, .inr (2, [.ref t1, .int (nI len)])), (t1, .inl (cB, 400, .inl (aB tp)))] Hc) (zRi Hc (fun r => r = nI (hf tp nx (ct % 2 + k)))) 0 0 zNo := by
  refine Met.ofW (cc := cR_digitAhead) (maxL := 3) (ret := (some .int)) (by decide) rfl ?_
  intro p e s m args below meth c s₁ Bd hml hv
  obtain ⟨rfl, hH, hG, hP, hK⟩ := hv
  subst hH
  have hx := Bd.exec
  have hb := Bd.bytes
  have hr := Bd.returns
  have hts := atoms_spec (ws := wsR_digitAhead) Bd.pre
  have hw : ∀ w ∈ BIG, w.before _ s = true := fun w h => hts w (List.mem_cons_of_mem _ h)
  have hown : s.vm.findClass RR = some m.cls := findClass_of_methodNamed Bd.named
  have hlocks := Bd.notSynchronized
  have hS : va_S zNo s.heap s.heap [] := va_S.rf
  have hl := lv_entry ([.ref r0, .int (nI k), .int (nI ct)]) (n := 3) (Nat.le_of_ble_eq_true rfl)
  rw [lg_entry_eq]
  generalize (lg_sl ([.ref r0, .int (nI k), .int (nI ct)]) ++ List.replicate (3 - (lg_sl ([.ref r0, .int (nI k), .int (nI ct)])).length) Slot.unset).toArray = ls at hl ⊢
  have hl : lv_has ls 3 [(0, .ref r0), (1, .int (nI k)), (2, .int (nI ct))] := hl
  refine zq_name (fun Q hQ => ?_)
  change W p l e rm_c_R_digitAhead s m _ below meth c _ _ _ _ Q _
  refine lv_aload_n hx hb dR_digitAhead_0 rfl (lv_at hl 0 rfl) ?_
  refine lv_iload_n hx hb dR_digitAhead_1 rfl (lv_at hl 2 rfl) ?_
  refine lv_iconst (v := nI 2) hx hb dR_digitAhead_2 (by decide) ?_
  refine zi_rem hx hb (by omega) (by omega) (by omega) dR_digitAhead_3 ?_
  refine lv_iload_n hx hb dR_digitAhead_4 rfl (lv_at hl 1 rfl) ?_
  refine zi_add hx hb dR_digitAhead_5 ?_
  refine zc_Ri (va_runV (As := [.int (nI ((ct % 2) + k))]) (rest := []) ⟨hx, hb, hml, hown, hw⟩ (c_R_halfAhead l dC dI r0 f0 fk fp t0 nx lnb t1 len cI cB tp ((ct % 2) + k) htp (by omega) (by omega) s.heap) (cwV 1 hw (gV w_ml_R_123 w_im_R_halfAhead w_se_R_halfAhead w_in_R w_co_R_halfAhead) rfl rfl rfl (by decide +kernel) ⟨Nat.le_of_ble_eq_true rfl, Nat.le_of_ble_eq_true rfl⟩) (zR_V hG hS (hP.sub (ws' := [(r0, .inr (1, [.ref f0, .int (nI fk), .int fp, .ref t0, .int (nI nx), .int (nI lnb)])), (t0, .inr (2, [.ref t1, .int (nI len)])), (t1, .inl (cB, 400, .inl (aB tp)))]) [0, 1, 2] rfl) hK 0 rfl rfl) rfl rfl hl.1 rfl (lv_room (Nat.le_of_ble_eq_true rfl)) dR_digitAhead_6 ⟨Nat.le_of_ble_eq_true rfl, Nat.le_of_ble_eq_true rfl⟩) hS (fun r_1 locs h_6 hS => ?_)
  subst h_6
  subst hQ
  exact W.iret (v := nI (hf tp nx ((ct % 2) + k))) hx hb hr (fun t ht hW => ⟨⟨nI (hf tp nx ((ct % 2) + k)), (), rfl, rfl, ht⟩, hS.F ht⟩) hS.2.2 dR_digitAhead_9
def rm_c_areDigits_ok : Room := ({ frames := 2, cells := 0, slots := 0, locals := 43 } : Room)
set_option maxHeartbeats 4000000 in
set_option maxRecDepth 100000 in
theorem c_areDigits_ok (l : Launch) (dC : Nat → ClassId) (dI : Nat → Nat → Nat) (r0 : Nat) (f0 : Nat) (fk : Nat) (fp : Int32) (t0 : Nat) (nx : Nat) (lnb : Nat) (t1 : Nat) (len : Nat) (cI : ClassId) (cB : ClassId) (tp : Nat → Nat) (ct : Nat) (hln : len ≤ 400) (hnl : nx ≤ len) (htp : ∀ j, tp j < 256) (hc : ct < 100) (hd : dgF tp len nx ct = none) (Hc : Heap) : Met l yR_areDigits wsR_areDigits rm_c_areDigits_ok (zR (dC, dI) [(cI, .int), (cB, .byte)] [.ref r0, .int (nI ct)] [(r0, .inr (1, [.ref f0, .int (nI fk), .int fp, .ref t0, .int (nI nx), .int (nI lnb)])), (t0, .inr (2, [.ref t1, .int (nI len)])), (t1, .inl (cB, 400, .inl (aB tp)))] Hc) (zRi Hc (fun r => r = nI 1)) 0 0 zNo := by
  refine Met.ofW (cc := cR_areDigits) (maxL := 4) (ret := (some .boolean)) (by decide) rfl ?_
  intro p e s m args below meth c s₁ Bd hml hv
  obtain ⟨rfl, hH, hG, hP, hK⟩ := hv
  subst hH
  have hx := Bd.exec
  have hb := Bd.bytes
  have hr := Bd.returns
  have hts := atoms_spec (ws := wsR_areDigits) Bd.pre
  have hw : ∀ w ∈ BIG, w.before _ s = true := fun w h => hts w (List.mem_cons_of_mem _ h)
  have hown : s.vm.findClass RR = some m.cls := findClass_of_methodNamed Bd.named
  have hlocks := Bd.notSynchronized
  have hS : va_S zNo s.heap s.heap [] := va_S.rf
  have hl := lv_entry ([.ref r0, .int (nI ct)]) (n := 4) (Nat.le_of_ble_eq_true rfl)
  rw [lg_entry_eq]
  generalize (lg_sl ([.ref r0, .int (nI ct)]) ++ List.replicate (4 - (lg_sl ([.ref r0, .int (nI ct)])).length) Slot.unset).toArray = ls at hl ⊢
  have hl : lv_has ls 4 [(0, .ref r0), (1, .int (nI ct))] := hl
  refine zq_name (fun Q hQ => ?_)
  change W p l e rm_c_areDigits_ok s m _ below meth c _ _ _ _ Q _
  have hs9 := dgF_fit hd
  have hd := dgF_ok hd
  have hb9 : ∀ j, hf tp nx j < 16 := hf_lt htp nx
  refine lv_aload_n hx hb dR_areDigits_0 rfl (lv_at hl 0 rfl) ?_
  refine lv_iload_n hx hb dR_areDigits_1 rfl (lv_at hl 1 rfl) ?_
  refine zc_Ri (va_runSN (As := [.int (nI ct)]) (rest := [.ref r0]) ⟨hx, hb, hml, hown, hw⟩ (c_C_bytesOfDigits l dC dI cI cB ct (by omega) s.heap) ⟨va_cnB 1 hw (gC w_co_C_bytesOfDigits) rfl rfl rfl (hG.nm (RR, 110, yC_bytesOfDigits) (List.mem_of_getElem? (i := 6) rfl)) (hw _ w_in_C) (by decide +kernel) ⟨Nat.le_of_ble_eq_true rfl, Nat.le_of_ble_eq_true rfl⟩, hw _ w_st_C_bytesOfDigits, trivial⟩ (zR_S hG hS (hP.sub (ws' := []) [] rfl) hK) rfl rfl hl.1 rfl (lv_room (Nat.le_of_ble_eq_true rfl)) dR_areDigits_2 ⟨Nat.le_of_ble_eq_true rfl, Nat.le_of_ble_eq_true rfl⟩) hS (fun r_1 locs h_2 hS => ?_)
  subst h_2
  refine zc_Ri (va_runV (As := [.int (nI ((ct + 1) / 2))]) (rest := []) ⟨hx, hb, hml, hown, hw⟩ (c_reaches_ok l dC dI r0 f0 fk fp t0 nx lnb t1 len cI cB ((ct + 1) / 2) (by omega) (by omega) (by omega) s.heap) (cwV 1 hw (gV w_ml_R_79 w_im_R_reaches w_se_R_reaches w_in_R w_co_R_reaches) rfl rfl rfl (by decide +kernel) ⟨Nat.le_of_ble_eq_true rfl, Nat.le_of_ble_eq_true rfl⟩) (zR_V hG hS (hP.sub (ws' := [(r0, .inr (1, [.ref f0, .int (nI fk), .int fp, .ref t0, .int (nI nx), .int (nI lnb)])), (t0, .inr (2, [.ref t1, .int (nI len)]))]) [0, 1] rfl) hK 0 rfl rfl) rfl rfl hl.1 rfl (lv_room (Nat.le_of_ble_eq_true rfl)) dR_areDigits_5 ⟨Nat.le_of_ble_eq_true rfl, Nat.le_of_ble_eq_true rfl⟩) hS (fun r_2 locs h_5 hS => ?_)
  subst h_5
  refine lv_if_ne (tgt := 13) hx hb dR_areDigits_8 (by decide) (fun c_8 => ?_) (fun q => False.elim (absurd q (by decide)))
  refine lv_iload_n hx hb dR_areDigits_13 rfl (lv_at hl 1 rfl) ?_
  refine lv_iconst (v := nI 2) hx hb dR_areDigits_14 (by decide) ?_
  refine zi_rem hx hb (by omega) (by omega) (by omega) dR_areDigits_15 ?_
  refine lv_istore_n (lv' := [(2, .int (nI (ct % 2))), (0, .ref r0), (1, .int (nI ct))]) hx hb dR_areDigits_16 rfl hl (by decide) rfl (fun ls hl => ?_)
  refine lv_iconst (v := nI 0) hx hb dR_areDigits_17 (by decide) ?_
  refine lv_istore_n (lv' := [(3, .int (nI 0)), (2, .int (nI (ct % 2))), (0, .ref r0), (1, .int (nI ct))]) hx hb dR_areDigits_18 rfl hl (by decide) rfl (fun ls hl => ?_)
  have lp_19 : ∀ (fu : Nat) (h : Nat) (hh : h ≤ ct % 2 + ct) (hi : dgL tp nx (ct % 2) (ct % 2 + ct - h) h = none) (hms : ct % 2 + ct - h < fu) (locs : List Loc) (ls : Array Slot), lv_has ls 4 [(0, .ref r0), (1, .int (nI ct)), (2, .int (nI (ct % 2))), (3, .int (nI h))] → va_S zNo s.heap s.heap locs → W p l e rm_c_areDigits_ok s m ([.ref r0, .int (nI ct)] : List Value).toArray below meth c s.heap locs 0 0 Q (F0 m 19 ls []) := by
    intro fu
    induction fu with
    | zero => intro h hh hi hms; exact absurd hms (Nat.not_lt_zero _)
    | succ fu ih19 =>
      intro h hh hi hms locs ls hl hS
      refine lv_iload_n hx hb dR_areDigits_19 rfl (lv_at hl 3 rfl) ?_
      refine lv_iload_n hx hb dR_areDigits_20 rfl (lv_at hl 2 rfl) ?_
      refine lv_iload_n hx hb dR_areDigits_21 rfl (lv_at hl 1 rfl) ?_
      refine zi_add hx hb dR_areDigits_22 ?_
      refine zi_ge (tgt := 65) hx hb (by omega) (by omega) dR_areDigits_23 (by decide) (fun c_23 => ?_) (fun c_23 => ?_)
      · refine lv_iconst (v := nI 1) hx hb dR_areDigits_65 (by decide) ?_
        subst hQ
        exact W.zret (v := nI 1) hx hb hr (by decide) (fun t ht hW => ⟨⟨nI 1, (), rfl, rfl, ht⟩, hS.F ht⟩) hS.2.2 dR_areDigits_66
      · refine lv_aload_n hx hb dR_areDigits_26 rfl (lv_at hl 0 rfl) ?_
        refine lv_iload_n hx hb dR_areDigits_27 rfl (lv_at hl 3 rfl) ?_
        refine zc_Ri (va_runV (As := [.int (nI h)]) (rest := []) ⟨hx, hb, hml, hown, hw⟩ (c_R_halfAhead l dC dI r0 f0 fk fp t0 nx lnb t1 len cI cB tp h htp (by omega) (by omega) s.heap) (cwV 1 hw (gV w_ml_R_123 w_im_R_halfAhead w_se_R_halfAhead w_in_R w_co_R_halfAhead) rfl rfl rfl (by decide +kernel) ⟨Nat.le_of_ble_eq_true rfl, Nat.le_of_ble_eq_true rfl⟩) (zR_V hG hS (hP.sub (ws' := [(r0, .inr (1, [.ref f0, .int (nI fk), .int fp, .ref t0, .int (nI nx), .int (nI lnb)])), (t0, .inr (2, [.ref t1, .int (nI len)])), (t1, .inl (cB, 400, .inl (aB tp)))]) [0, 1, 2] rfl) hK 0 rfl rfl) rfl rfl hl.1 rfl (lv_room (Nat.le_of_ble_eq_true rfl)) dR_areDigits_28 ⟨Nat.le_of_ble_eq_true rfl, Nat.le_of_ble_eq_true rfl⟩) hS (fun r_3 locs h_28 hS => ?_)
        subst h_28
        have hb8 := hb9 h
        refine lv_iload_n hx hb dR_areDigits_31 rfl (lv_at hl 3 rfl) ?_
        refine lv_iload_n hx hb dR_areDigits_32 rfl (lv_at hl 2 rfl) ?_
        refine zi_ge (tgt := 40) hx hb (by omega) (by omega) dR_areDigits_33 (by decide) (fun c_33 => ?_) (fun c_33 => ?_)
        · refine lv_bipush (v := nI 9) hx hb dR_areDigits_40 (by decide) ?_
          refine zi_le (tgt := 59) hx hb (by omega) (by omega) dR_areDigits_42 (by decide) (fun c_42 => ?_) (fun q => False.elim ((by have h9 := hi; rw [show ct % 2 + ct - h = ct % 2 + ct - (h + 1) + 1 by omega] at h9; unfold dgL at h9; rw [if_pos (by split <;> omega)] at h9; cases h9)))
          refine lv_iinc (v := nI (h + 1)) (lv' := [(3, .int (nI (h + 1))), (0, .ref r0), (1, .int (nI ct)), (2, .int (nI (ct % 2)))]) hx hb dR_areDigits_59 hl (k := 3) rfl (zi_incr h 1) (by decide) rfl (fun ls hl => ?_)
          refine lv_goto (tgt := 19) hx hb dR_areDigits_62 (by decide) ?_
          exact ih19 (h + 1) (by omega) (by have h9 := hi; rw [show ct % 2 + ct - h = ct % 2 + ct - (h + 1) + 1 by omega] at h9; unfold dgL at h9; rw [if_neg (by split <;> omega)] at h9; exact h9) (by omega) _ _ (lv_sub hl [1, 2, 3, 0] rfl) hS
        · refine lv_iconst (v := nI 0) hx hb dR_areDigits_36 (by decide) ?_
          refine lv_goto (tgt := 42) hx hb dR_areDigits_37 (by decide) ?_
          refine zi_le (tgt := 59) hx hb (by omega) (by omega) dR_areDigits_42 (by decide) (fun c_42 => ?_) (fun q => False.elim ((by have h9 := hi; rw [show ct % 2 + ct - h = ct % 2 + ct - (h + 1) + 1 by omega] at h9; unfold dgL at h9; rw [if_pos (by split <;> omega)] at h9; cases h9)))
          refine lv_iinc (v := nI (h + 1)) (lv' := [(3, .int (nI (h + 1))), (0, .ref r0), (1, .int (nI ct)), (2, .int (nI (ct % 2)))]) hx hb dR_areDigits_59 hl (k := 3) rfl (zi_incr h 1) (by decide) rfl (fun ls hl => ?_)
          refine lv_goto (tgt := 19) hx hb dR_areDigits_62 (by decide) ?_
          exact ih19 (h + 1) (by omega) (by have h9 := hi; rw [show ct % 2 + ct - h = ct % 2 + ct - (h + 1) + 1 by omega] at h9; unfold dgL at h9; rw [if_neg (by split <;> omega)] at h9; exact h9) (by omega) _ _ (lv_sub hl [1, 2, 3, 0] rfl) hS
  exact lp_19 ((ct % 2 + ct - 0) + 1) 0 (by omega) hd (Nat.lt_succ_self _) _ _ (lv_sub hl [2, 3, 1, 0] rfl) hS
def rm_c_areDigits_no : Room := ({ frames := 2, cells := 0, slots := 0, locals := 43 } : Room)
set_option maxHeartbeats 4000000 in
set_option maxRecDepth 100000 in
theorem c_areDigits_no (l : Launch) (dC : Nat → ClassId) (dI : Nat → Nat → Nat) (r0 : Nat) (f0 : Nat) (fk : Nat) (fp : Int32) (t0 : Nat) (nx : Nat) (lnb : Nat) (t1 : Nat) (len : Nat) (cI : ClassId) (cB : ClassId) (tp : Nat → Nat) (ct : Nat) (k2 : Nat) (p2 : Nat) (hln : len ≤ 400) (hnl : nx ≤ len) (htp : ∀ j, tp j < 256) (hc : ct < 100) (hd : dgF tp len nx ct = some (k2, p2)) (sz : Nat) : Met l yR_areDigits wsR_areDigits rm_c_areDigits_no (zM (dC, dI) [(cI, .int), (cB, .byte)] [.ref r0, .int (nI ct)] [(r0, .inr (1, [.ref f0, .int (nI fk), .int fp, .ref t0, .int (nI nx), .int (nI lnb)])), (t0, .inr (2, [.ref t1, .int (nI len)])), (t1, .inl (cB, 400, .inl (aB tp)))] sz) (zMi (dC, dI) [(r0, .inr (1, [.ref f0, .int (nI fk), .int fp, .ref t0, .int (nI nx), .int (nI lnb)])), (t0, .inr (2, [.ref t1, .int (nI len)])), (t1, .inl (cB, 400, .inl (aB tp)))] [(r0, .inr (1, [.ref f0, .int (nI k2), .int (nI p2), .ref t0, .int (nI nx), .int (nI lnb)])), (t0, .inr (2, [.ref t1, .int (nI len)])), (t1, .inl (cB, 400, .inl (aB tp)))] sz (fun r => r = nI 0)) 0 0 (va_A [(r0, .inr (1, [.ref f0, .int (nI fk), .int fp, .ref t0, .int (nI nx), .int (nI lnb)])), (t0, .inr (2, [.ref t1, .int (nI len)])), (t1, .inl (cB, 400, .inl (aB tp)))] sz) := by
  refine Met.ofW (cc := cR_areDigits) (maxL := 4) (ret := (some .boolean)) (by decide) rfl ?_
  intro p e s m args below meth c s₁ Bd hml hv
  obtain ⟨rfl, hsz, hG, hP, hK, hD0⟩ := hv
  subst hsz
  have hx := Bd.exec
  have hb := Bd.bytes
  have hr := Bd.returns
  have hts := atoms_spec (ws := wsR_areDigits) Bd.pre
  have hw : ∀ w ∈ BIG, w.before _ s = true := fun w h => hts w (List.mem_cons_of_mem _ h)
  have hown : s.vm.findClass RR = some m.cls := findClass_of_methodNamed Bd.named
  have hlocks := Bd.notSynchronized
  have hD := hD0.self (sz := s.heap.size)
  obtain ⟨A, hAe⟩ : ∃ A, A = va_A [(r0, .inr (1, [.ref f0, .int (nI fk), .int fp, .ref t0, .int (nI nx), .int (nI lnb)])), (t0, .inr (2, [.ref t1, .int (nI len)])), (t1, .inl (cB, 400, .inl (aB tp)))] s.heap.size := ⟨_, rfl⟩
  have hA : ∀ q : Nat, s.heap.size ≤ q → A q := fun q h => by rw [hAe]; exact Or.inr h
  rw [← hAe] at hG hD
  have hS : va_S A s.heap s.heap [] := va_S.rf
  have hl := lv_entry ([.ref r0, .int (nI ct)]) (n := 4) (Nat.le_of_ble_eq_true rfl)
  rw [lg_entry_eq]
  generalize (lg_sl ([.ref r0, .int (nI ct)]) ++ List.replicate (4 - (lg_sl ([.ref r0, .int (nI ct)])).length) Slot.unset).toArray = ls at hl ⊢
  have hl : lv_has ls 4 [(0, .ref r0), (1, .int (nI ct))] := hl
  refine zq_name (fun Q hQ => ?_)
  change W p l e rm_c_areDigits_no s m _ below meth c _ _ _ _ Q _
  have hb9 : ∀ j, hf tp nx j < 16 := hf_lt htp nx
  by_cases hq : len < nx + (ct + 1) / 2
  · unfold dgF at hd
    rw [if_pos hq] at hd
    cases hd
    refine lv_aload_n hx hb dR_areDigits_0 rfl (lv_at hl 0 rfl) ?_
    refine lv_iload_n hx hb dR_areDigits_1 rfl (lv_at hl 1 rfl) ?_
    refine zc_Ri (va_runSN (As := [.int (nI ct)]) (rest := [.ref r0]) ⟨hx, hb, hml, hown, hw⟩ (c_C_bytesOfDigits l dC dI cI cB ct (by omega) s.heap) ⟨va_cnB 1 hw (gC w_co_C_bytesOfDigits) rfl rfl rfl (hG.nm (RR, 110, yC_bytesOfDigits) (List.mem_of_getElem? (i := 6) rfl)) (hw _ w_in_C) (by decide +kernel) ⟨Nat.le_of_ble_eq_true rfl, Nat.le_of_ble_eq_true rfl⟩, hw _ w_st_C_bytesOfDigits, trivial⟩ (zR_S hG hS (hP.sub (ws' := []) [] rfl) hK) rfl rfl hl.1 rfl (lv_room (Nat.le_of_ble_eq_true rfl)) dR_areDigits_2 ⟨Nat.le_of_ble_eq_true rfl, Nat.le_of_ble_eq_true rfl⟩) hS (fun r_1 locs h_2 hS => ?_)
    subst h_2
    have hPc := hP.sub (ws' := [(r0, .inr (1, [.ref f0, .int (nI fk), .int fp, .ref t0, .int (nI nx), .int (nI lnb)])), (t0, .inr (2, [.ref t1, .int (nI len)]))]) [0, 1] rfl
    have hDc := hD.sub (ws' := [(r0, .inr (1, [.ref f0, .int (nI fk), .int fp, .ref t0, .int (nI nx), .int (nI lnb)])), (t0, .inr (2, [.ref t1, .int (nI len)]))]) [0, 1] (by decide) rfl
    have hFc := va_free (wc := [(r0, .inr (1, [.ref f0, .int (nI fk), .int fp, .ref t0, .int (nI nx), .int (nI lnb)])), (t0, .inr (2, [.ref t1, .int (nI len)]))]) hD hS hA [0, 1] rfl
    refine zc_Mi (va_runV (As := [.int (nI ((ct + 1) / 2))]) (rest := []) ⟨hx, hb, hml, hown, hw⟩ (c_reaches_no l dC dI r0 f0 fk fp t0 nx lnb t1 len cI cB ((ct + 1) / 2) (by omega) (by omega) (by omega) (by omega) s.heap.size) (cwV 1 hw (gV w_ml_R_79 w_im_R_reaches w_se_R_reaches w_in_R w_co_R_reaches) rfl rfl rfl (by decide +kernel) ⟨Nat.le_of_ble_eq_true rfl, Nat.le_of_ble_eq_true rfl⟩) (zM_V hG hS hFc hPc hDc hK 0 rfl rfl) rfl rfl hl.1 rfl (lv_room (Nat.le_of_ble_eq_true rfl)) dR_areDigits_5 ⟨Nat.le_of_ble_eq_true rfl, Nat.le_of_ble_eq_true rfl⟩) hS hFc (fun r_2 H locs h_5 hP1 hD1 hk1 hS => ?_)
    obtain ⟨hP, hD⟩ := va_join (wr := [(t1, .inl (cB, 400, .inl (aB tp)))]) (w1 := [(r0, .inr (1, [.ref f0, .int (nI 1), .int (nI len), .ref t0, .int (nI nx), .int (nI lnb)])), (t0, .inr (2, [.ref t1, .int (nI len)]))]) hP hD [0, 1] [2] rfl rfl (by decide) (by decide) hk1 hFc hP1 hD1
    have hP : va_P (dC, dI) vwCl [(t1, .inl (cB, 400, .inl (aB tp))), (r0, .inr (1, [.ref f0, .int (nI 1), .int (nI len), .ref t0, .int (nI nx), .int (nI lnb)])), (t0, .inr (2, [.ref t1, .int (nI len)]))] H := hP
    have hD : va_D A [(t1, .inl (cB, 400, .inl (aB tp))), (r0, .inr (1, [.ref f0, .int (nI 1), .int (nI len), .ref t0, .int (nI nx), .int (nI lnb)])), (t0, .inr (2, [.ref t1, .int (nI len)]))] := hD
    subst h_5
    refine lv_if_ne (tgt := 13) hx hb dR_areDigits_8 (by decide) (fun q => False.elim (absurd q (by decide))) (fun c_8 => ?_)
    refine lv_iconst (v := nI 0) hx hb dR_areDigits_11 (by decide) ?_
    subst hAe
    subst hQ
    exact W.zret (v := nI 0) hx hb hr (by decide) (fun t ht hW => ⟨⟨nI 0, (), rfl, rfl, by rw [ht]; exact hP.sub [1, 2, 0] rfl, hD.sub [1, 2, 0] (by decide) rfl⟩, hS.F ht⟩) hS.2.2 dR_areDigits_12
  · unfold dgF at hd
    rw [if_neg hq] at hd
    refine lv_aload_n hx hb dR_areDigits_0 rfl (lv_at hl 0 rfl) ?_
    refine lv_iload_n hx hb dR_areDigits_1 rfl (lv_at hl 1 rfl) ?_
    refine zc_Ri (va_runSN (As := [.int (nI ct)]) (rest := [.ref r0]) ⟨hx, hb, hml, hown, hw⟩ (c_C_bytesOfDigits l dC dI cI cB ct (by omega) s.heap) ⟨va_cnB 1 hw (gC w_co_C_bytesOfDigits) rfl rfl rfl (hG.nm (RR, 110, yC_bytesOfDigits) (List.mem_of_getElem? (i := 6) rfl)) (hw _ w_in_C) (by decide +kernel) ⟨Nat.le_of_ble_eq_true rfl, Nat.le_of_ble_eq_true rfl⟩, hw _ w_st_C_bytesOfDigits, trivial⟩ (zR_S hG hS (hP.sub (ws' := []) [] rfl) hK) rfl rfl hl.1 rfl (lv_room (Nat.le_of_ble_eq_true rfl)) dR_areDigits_2 ⟨Nat.le_of_ble_eq_true rfl, Nat.le_of_ble_eq_true rfl⟩) hS (fun r_3 locs h_2 hS => ?_)
    subst h_2
    refine zc_Ri (va_runV (As := [.int (nI ((ct + 1) / 2))]) (rest := []) ⟨hx, hb, hml, hown, hw⟩ (c_reaches_ok l dC dI r0 f0 fk fp t0 nx lnb t1 len cI cB ((ct + 1) / 2) (by omega) (by omega) (by omega) s.heap) (cwV 1 hw (gV w_ml_R_79 w_im_R_reaches w_se_R_reaches w_in_R w_co_R_reaches) rfl rfl rfl (by decide +kernel) ⟨Nat.le_of_ble_eq_true rfl, Nat.le_of_ble_eq_true rfl⟩) (zR_V hG hS (hP.sub (ws' := [(r0, .inr (1, [.ref f0, .int (nI fk), .int fp, .ref t0, .int (nI nx), .int (nI lnb)])), (t0, .inr (2, [.ref t1, .int (nI len)]))]) [0, 1] rfl) hK 0 rfl rfl) rfl rfl hl.1 rfl (lv_room (Nat.le_of_ble_eq_true rfl)) dR_areDigits_5 ⟨Nat.le_of_ble_eq_true rfl, Nat.le_of_ble_eq_true rfl⟩) hS (fun r_4 locs h_5 hS => ?_)
    subst h_5
    refine lv_if_ne (tgt := 13) hx hb dR_areDigits_8 (by decide) (fun c_8 => ?_) (fun q => False.elim (absurd q (by decide)))
    refine lv_iload_n hx hb dR_areDigits_13 rfl (lv_at hl 1 rfl) ?_
    refine lv_iconst (v := nI 2) hx hb dR_areDigits_14 (by decide) ?_
    refine zi_rem hx hb (by omega) (by omega) (by omega) dR_areDigits_15 ?_
    refine lv_istore_n (lv' := [(2, .int (nI (ct % 2))), (0, .ref r0), (1, .int (nI ct))]) hx hb dR_areDigits_16 rfl hl (by decide) rfl (fun ls hl => ?_)
    refine lv_iconst (v := nI 0) hx hb dR_areDigits_17 (by decide) ?_
    refine lv_istore_n (lv' := [(3, .int (nI 0)), (2, .int (nI (ct % 2))), (0, .ref r0), (1, .int (nI ct))]) hx hb dR_areDigits_18 rfl hl (by decide) rfl (fun ls hl => ?_)
    have lp_19 : ∀ (fu : Nat) (h : Nat) (hh : h ≤ ct % 2 + ct) (hi : dgL tp nx (ct % 2) (ct % 2 + ct - h) h = some (k2, p2)) (hms : ct % 2 + ct - h < fu) (H : Heap) (locs : List Loc) (ls : Array Slot), lv_has ls 4 [(0, .ref r0), (1, .int (nI ct)), (2, .int (nI (ct % 2))), (3, .int (nI h))] → va_P (dC, dI) vwCl [(r0, .inr (1, [.ref f0, .int (nI fk), .int fp, .ref t0, .int (nI nx), .int (nI lnb)])), (t0, .inr (2, [.ref t1, .int (nI len)])), (t1, .inl (cB, 400, .inl (aB tp)))] H → va_D A [(r0, .inr (1, [.ref f0, .int (nI fk), .int fp, .ref t0, .int (nI nx), .int (nI lnb)])), (t0, .inr (2, [.ref t1, .int (nI len)])), (t1, .inl (cB, 400, .inl (aB tp)))] → va_S A s.heap H locs → W p l e rm_c_areDigits_no s m ([.ref r0, .int (nI ct)] : List Value).toArray below meth c H locs 0 0 Q (F0 m 19 ls []) := by
      intro fu
      induction fu with
      | zero => intro h hh hi hms; exact absurd hms (Nat.not_lt_zero _)
      | succ fu ih19 =>
        intro h hh hi hms H locs ls hl hP hD hS
        refine lv_iload_n hx hb dR_areDigits_19 rfl (lv_at hl 3 rfl) ?_
        refine lv_iload_n hx hb dR_areDigits_20 rfl (lv_at hl 2 rfl) ?_
        refine lv_iload_n hx hb dR_areDigits_21 rfl (lv_at hl 1 rfl) ?_
        refine zi_add hx hb dR_areDigits_22 ?_
        refine zi_ge (tgt := 65) hx hb (by omega) (by omega) dR_areDigits_23 (by decide) (fun q => False.elim ((by have h9 := hi; rw [show ct % 2 + ct - h = 0 by omega] at h9; cases h9))) (fun c_23 => ?_)
        refine lv_aload_n hx hb dR_areDigits_26 rfl (lv_at hl 0 rfl) ?_
        refine lv_iload_n hx hb dR_areDigits_27 rfl (lv_at hl 3 rfl) ?_
        refine zc_Ri (va_runV (As := [.int (nI h)]) (rest := []) ⟨hx, hb, hml, hown, hw⟩ (c_R_halfAhead l dC dI r0 f0 fk fp t0 nx lnb t1 len cI cB tp h htp (by omega) (by omega) H) (cwV 1 hw (gV w_ml_R_123 w_im_R_halfAhead w_se_R_halfAhead w_in_R w_co_R_halfAhead) rfl rfl rfl (by decide +kernel) ⟨Nat.le_of_ble_eq_true rfl, Nat.le_of_ble_eq_true rfl⟩) (zR_V hG hS (hP.sub (ws' := [(r0, .inr (1, [.ref f0, .int (nI fk), .int fp, .ref t0, .int (nI nx), .int (nI lnb)])), (t0, .inr (2, [.ref t1, .int (nI len)])), (t1, .inl (cB, 400, .inl (aB tp)))]) [0, 1, 2] rfl) hK 0 rfl rfl) rfl rfl hl.1 rfl (lv_room (Nat.le_of_ble_eq_true rfl)) dR_areDigits_28 ⟨Nat.le_of_ble_eq_true rfl, Nat.le_of_ble_eq_true rfl⟩) hS (fun r_5 locs h_28 hS => ?_)
        subst h_28
        have hb8 := hb9 h
        refine lv_iload_n hx hb dR_areDigits_31 rfl (lv_at hl 3 rfl) ?_
        refine lv_iload_n hx hb dR_areDigits_32 rfl (lv_at hl 2 rfl) ?_
        refine zi_ge (tgt := 40) hx hb (by omega) (by omega) dR_areDigits_33 (by decide) (fun c_33 => ?_) (fun c_33 => ?_)
        · refine lv_bipush (v := nI 9) hx hb dR_areDigits_40 (by decide) ?_
          refine zi_le (tgt := 59) hx hb (by omega) (by omega) dR_areDigits_42 (by decide) (fun c_42 => ?_) (fun c_42 => ?_)
          · refine lv_iinc (v := nI (h + 1)) (lv' := [(3, .int (nI (h + 1))), (0, .ref r0), (1, .int (nI ct)), (2, .int (nI (ct % 2)))]) hx hb dR_areDigits_59 hl (k := 3) rfl (zi_incr h 1) (by decide) rfl (fun ls hl => ?_)
            refine lv_goto (tgt := 19) hx hb dR_areDigits_62 (by decide) ?_
            exact ih19 (h + 1) (by omega) (by have h9 := hi; rw [show ct % 2 + ct - h = ct % 2 + ct - (h + 1) + 1 by omega] at h9; unfold dgL at h9; rw [if_neg (by split <;> omega)] at h9; exact h9) (by omega) _ _ _ (lv_sub hl [1, 2, 3, 0] rfl) (hP.sub [0, 1, 2] rfl) (hD.sub [0, 1, 2] (by decide) rfl) hS
          · have h9 := hi
            rw [show ct % 2 + ct - h = ct % 2 + ct - (h + 1) + 1 by omega] at h9
            unfold dgL at h9
            rw [if_pos (by split <;> omega)] at h9
            cases h9
            refine lv_aload_n hx hb dR_areDigits_45 rfl (lv_at hl 0 rfl) ?_
            refine lv_iconst (v := nI 2) hx hb dR_areDigits_46 (by decide) ?_
            refine lv_aload_n hx hb dR_areDigits_47 rfl (lv_at hl 0 rfl) ?_
            refine va_get (D := (dC, dI)) (ci := 1) (v := .int (nI nx)) (C := RR) (T := TR) (N := 6) hx hb hw inR hown hK hP 0 rfl rfl 4 (by decide) (hw _ w_fl_R_25) (fun _ h9 => h9) rfl dR_areDigits_48 ?_
            refine lv_iload_n hx hb dR_areDigits_51 rfl (lv_at hl 3 rfl) ?_
            refine lv_iconst (v := nI 2) hx hb dR_areDigits_52 (by decide) ?_
            refine zi_div hx hb (by omega) (by omega) (by omega) dR_areDigits_53 ?_
            refine zi_add hx hb dR_areDigits_54 ?_
            have hPc := hP.sub (ws' := [(r0, .inr (1, [.ref f0, .int (nI fk), .int fp, .ref t0, .int (nI nx), .int (nI lnb)]))]) [0] rfl
            have hDc := hD.sub (ws' := [(r0, .inr (1, [.ref f0, .int (nI fk), .int fp, .ref t0, .int (nI nx), .int (nI lnb)]))]) [0] (by decide) rfl
            have hFc := va_free (wc := [(r0, .inr (1, [.ref f0, .int (nI fk), .int fp, .ref t0, .int (nI nx), .int (nI lnb)]))]) hD hS hA [0] rfl
            refine zc_Mi (va_runV (As := [.int (nI 2), .int (nI (nx + (h / 2)))]) (rest := []) ⟨hx, hb, hml, hown, hw⟩ (c_R_fail l dC dI r0 f0 fk fp t0 nx lnb cI cB 2 (nI (nx + (h / 2))) H.size) (cwV 2 hw (gV w_ml_R_65 w_im_R_fail w_se_R_fail w_in_R w_co_R_fail) rfl rfl rfl (by decide +kernel) ⟨Nat.le_of_ble_eq_true rfl, Nat.le_of_ble_eq_true rfl⟩) (zM_V hG hS hFc hPc hDc hK 0 rfl rfl) rfl rfl hl.1 rfl (lv_room (Nat.le_of_ble_eq_true rfl)) dR_areDigits_55 ⟨Nat.le_of_ble_eq_true rfl, Nat.le_of_ble_eq_true rfl⟩) hS hFc (fun r_6 H locs h_55 hP1 hD1 hk1 hS => ?_)
            obtain ⟨hP, hD⟩ := va_join (wr := [(t0, .inr (2, [.ref t1, .int (nI len)])), (t1, .inl (cB, 400, .inl (aB tp)))]) (w1 := [(r0, .inr (1, [.ref f0, .int (nI 2), .int (nI (nx + (h / 2))), .ref t0, .int (nI nx), .int (nI lnb)]))]) hP hD [0] [1, 2] rfl rfl (by decide) (by decide) hk1 hFc hP1 hD1
            have hP : va_P (dC, dI) vwCl [(t0, .inr (2, [.ref t1, .int (nI len)])), (t1, .inl (cB, 400, .inl (aB tp))), (r0, .inr (1, [.ref f0, .int (nI 2), .int (nI (nx + (h / 2))), .ref t0, .int (nI nx), .int (nI lnb)]))] H := hP
            have hD : va_D A [(t0, .inr (2, [.ref t1, .int (nI len)])), (t1, .inl (cB, 400, .inl (aB tp))), (r0, .inr (1, [.ref f0, .int (nI 2), .int (nI (nx + (h / 2))), .ref t0, .int (nI nx), .int (nI lnb)]))] := hD
            subst h_55
            subst hAe
            subst hQ
            exact W.zret (v := nI 0) hx hb hr (by decide) (fun t ht hW => ⟨⟨nI 0, (), rfl, rfl, by rw [ht]; exact hP.sub [2, 0, 1] rfl, hD.sub [2, 0, 1] (by decide) rfl⟩, hS.F ht⟩) hS.2.2 dR_areDigits_58
        · refine lv_iconst (v := nI 0) hx hb dR_areDigits_36 (by decide) ?_
          refine lv_goto (tgt := 42) hx hb dR_areDigits_37 (by decide) ?_
          refine zi_le (tgt := 59) hx hb (by omega) (by omega) dR_areDigits_42 (by decide) (fun c_42 => ?_) (fun c_42 => ?_)
          · refine lv_iinc (v := nI (h + 1)) (lv' := [(3, .int (nI (h + 1))), (0, .ref r0), (1, .int (nI ct)), (2, .int (nI (ct % 2)))]) hx hb dR_areDigits_59 hl (k := 3) rfl (zi_incr h 1) (by decide) rfl (fun ls hl => ?_)
            refine lv_goto (tgt := 19) hx hb dR_areDigits_62 (by decide) ?_
            exact ih19 (h + 1) (by omega) (by have h9 := hi; rw [show ct % 2 + ct - h = ct % 2 + ct - (h + 1) + 1 by omega] at h9; unfold dgL at h9; rw [if_neg (by split <;> omega)] at h9; exact h9) (by omega) _ _ _ (lv_sub hl [1, 2, 3, 0] rfl) (hP.sub [0, 1, 2] rfl) (hD.sub [0, 1, 2] (by decide) rfl) hS
          · have h9 := hi
            rw [show ct % 2 + ct - h = ct % 2 + ct - (h + 1) + 1 by omega] at h9
            unfold dgL at h9
            rw [if_pos (by split <;> omega)] at h9
            cases h9
            refine lv_aload_n hx hb dR_areDigits_45 rfl (lv_at hl 0 rfl) ?_
            refine lv_iconst (v := nI 2) hx hb dR_areDigits_46 (by decide) ?_
            refine lv_aload_n hx hb dR_areDigits_47 rfl (lv_at hl 0 rfl) ?_
            refine va_get (D := (dC, dI)) (ci := 1) (v := .int (nI nx)) (C := RR) (T := TR) (N := 6) hx hb hw inR hown hK hP 0 rfl rfl 4 (by decide) (hw _ w_fl_R_25) (fun _ h9 => h9) rfl dR_areDigits_48 ?_
            refine lv_iload_n hx hb dR_areDigits_51 rfl (lv_at hl 3 rfl) ?_
            refine lv_iconst (v := nI 2) hx hb dR_areDigits_52 (by decide) ?_
            refine zi_div hx hb (by omega) (by omega) (by omega) dR_areDigits_53 ?_
            refine zi_add hx hb dR_areDigits_54 ?_
            have hPc := hP.sub (ws' := [(r0, .inr (1, [.ref f0, .int (nI fk), .int fp, .ref t0, .int (nI nx), .int (nI lnb)]))]) [0] rfl
            have hDc := hD.sub (ws' := [(r0, .inr (1, [.ref f0, .int (nI fk), .int fp, .ref t0, .int (nI nx), .int (nI lnb)]))]) [0] (by decide) rfl
            have hFc := va_free (wc := [(r0, .inr (1, [.ref f0, .int (nI fk), .int fp, .ref t0, .int (nI nx), .int (nI lnb)]))]) hD hS hA [0] rfl
            refine zc_Mi (va_runV (As := [.int (nI 2), .int (nI (nx + (h / 2)))]) (rest := []) ⟨hx, hb, hml, hown, hw⟩ (c_R_fail l dC dI r0 f0 fk fp t0 nx lnb cI cB 2 (nI (nx + (h / 2))) H.size) (cwV 2 hw (gV w_ml_R_65 w_im_R_fail w_se_R_fail w_in_R w_co_R_fail) rfl rfl rfl (by decide +kernel) ⟨Nat.le_of_ble_eq_true rfl, Nat.le_of_ble_eq_true rfl⟩) (zM_V hG hS hFc hPc hDc hK 0 rfl rfl) rfl rfl hl.1 rfl (lv_room (Nat.le_of_ble_eq_true rfl)) dR_areDigits_55 ⟨Nat.le_of_ble_eq_true rfl, Nat.le_of_ble_eq_true rfl⟩) hS hFc (fun r_7 H locs h_55 hP1 hD1 hk1 hS => ?_)
            obtain ⟨hP, hD⟩ := va_join (wr := [(t0, .inr (2, [.ref t1, .int (nI len)])), (t1, .inl (cB, 400, .inl (aB tp)))]) (w1 := [(r0, .inr (1, [.ref f0, .int (nI 2), .int (nI (nx + (h / 2))), .ref t0, .int (nI nx), .int (nI lnb)]))]) hP hD [0] [1, 2] rfl rfl (by decide) (by decide) hk1 hFc hP1 hD1
            have hP : va_P (dC, dI) vwCl [(t0, .inr (2, [.ref t1, .int (nI len)])), (t1, .inl (cB, 400, .inl (aB tp))), (r0, .inr (1, [.ref f0, .int (nI 2), .int (nI (nx + (h / 2))), .ref t0, .int (nI nx), .int (nI lnb)]))] H := hP
            have hD : va_D A [(t0, .inr (2, [.ref t1, .int (nI len)])), (t1, .inl (cB, 400, .inl (aB tp))), (r0, .inr (1, [.ref f0, .int (nI 2), .int (nI (nx + (h / 2))), .ref t0, .int (nI nx), .int (nI lnb)]))] := hD
            subst h_55
            subst hAe
            subst hQ
            exact W.zret (v := nI 0) hx hb hr (by decide) (fun t ht hW => ⟨⟨nI 0, (), rfl, rfl, by rw [ht]; exact hP.sub [2, 0, 1] rfl, hD.sub [2, 0, 1] (by decide) rfl⟩, hS.F ht⟩) hS.2.2 dR_areDigits_58
    exact lp_19 ((ct % 2 + ct - 0) + 1) 0 (by omega) hd (Nat.lt_succ_self _) _ _ _ (lv_sub hl [2, 3, 1, 0] rfl) (hP.sub [0, 1, 2] rfl) (hD.sub [0, 1, 2] (by decide) rfl) hS
def rm_c_walkNumber_ok : Room := ({ frames := 3, cells := 0, slots := 0, locals := 66 } : Room)
set_option maxHeartbeats 4000000 in
set_option maxRecDepth 100000 in
theorem c_walkNumber_ok (l : Launch) (dC : Nat → ClassId) (dI : Nat → Nat → Nat) (r0 : Nat) (f0 : Nat) (fk : Nat) (fp : Int32) (t0 : Nat) (nx : Nat) (lnb : Nat) (t1 : Nat) (len : Nat) (cI : ClassId) (cB : ClassId) (tp : Nat → Nat) (ct : Nat) (hln : len ≤ 400) (hnl : nx ≤ len) (htp : ∀ j, tp j < 256) (hc : ct ≤ 4) (hd : dgF tp len nx ct = none) (sz : Nat) : Met l yR_walkNumber wsR_walkNumber rm_c_walkNumber_ok (zM (dC, dI) [(cI, .int), (cB, .byte)] [.ref r0, .int (nI ct)] [(r0, .inr (1, [.ref f0, .int (nI fk), .int fp, .ref t0, .int (nI nx), .int (nI lnb)])), (t0, .inr (2, [.ref t1, .int (nI len)])), (t1, .inl (cB, 400, .inl (aB tp)))] sz) (zMi (dC, dI) [(r0, .inr (1, [.ref f0, .int (nI fk), .int fp, .ref t0, .int (nI nx), .int (nI lnb)])), (t0, .inr (2, [.ref t1, .int (nI len)])), (t1, .inl (cB, 400, .inl (aB tp)))] [(r0, .inr (1, [.ref f0, .int (nI fk), .int fp, .ref t0, .int (nI (nx + (ct + 1) / 2)), .int (nI (nmA tp nx ct ct 0 0))])), (t0, .inr (2, [.ref t1, .int (nI len)])), (t1, .inl (cB, 400, .inl (aB tp)))] sz (fun r => r = nI 1)) 0 0 (va_A [(r0, .inr (1, [.ref f0, .int (nI fk), .int fp, .ref t0, .int (nI nx), .int (nI lnb)])), (t0, .inr (2, [.ref t1, .int (nI len)])), (t1, .inl (cB, 400, .inl (aB tp)))] sz) := by
  refine Met.ofW (cc := cR_walkNumber) (maxL := 3) (ret := (some .boolean)) (by decide) rfl ?_
  intro p e s m args below meth c s₁ Bd hml hv
  obtain ⟨rfl, hsz, hG, hP, hK, hD0⟩ := hv
  subst hsz
  have hx := Bd.exec
  have hb := Bd.bytes
  have hr := Bd.returns
  have hts := atoms_spec (ws := wsR_walkNumber) Bd.pre
  have hw : ∀ w ∈ BIG, w.before _ s = true := fun w h => hts w (List.mem_cons_of_mem _ h)
  have hown : s.vm.findClass RR = some m.cls := findClass_of_methodNamed Bd.named
  have hlocks := Bd.notSynchronized
  have hD := hD0.self (sz := s.heap.size)
  obtain ⟨A, hAe⟩ : ∃ A, A = va_A [(r0, .inr (1, [.ref f0, .int (nI fk), .int fp, .ref t0, .int (nI nx), .int (nI lnb)])), (t0, .inr (2, [.ref t1, .int (nI len)])), (t1, .inl (cB, 400, .inl (aB tp)))] s.heap.size := ⟨_, rfl⟩
  have hA : ∀ q : Nat, s.heap.size ≤ q → A q := fun q h => by rw [hAe]; exact Or.inr h
  rw [← hAe] at hG hD
  have hS : va_S A s.heap s.heap [] := va_S.rf
  have hl := lv_entry ([.ref r0, .int (nI ct)]) (n := 3) (Nat.le_of_ble_eq_true rfl)
  rw [lg_entry_eq]
  generalize (lg_sl ([.ref r0, .int (nI ct)]) ++ List.replicate (3 - (lg_sl ([.ref r0, .int (nI ct)])).length) Slot.unset).toArray = ls at hl ⊢
  have hl : lv_has ls 3 [(0, .ref r0), (1, .int (nI ct))] := hl
  refine zq_name (fun Q hQ => ?_)
  change W p l e rm_c_walkNumber_ok s m _ below meth c _ _ _ _ Q _
  have hs9 := dgF_fit hd
  refine lv_aload_n hx hb dR_walkNumber_0 rfl (lv_at hl 0 rfl) ?_
  refine lv_iload_n hx hb dR_walkNumber_1 rfl (lv_at hl 1 rfl) ?_
  refine zc_Ri (va_runV (As := [.int (nI ct)]) (rest := []) ⟨hx, hb, hml, hown, hw⟩ (c_areDigits_ok l dC dI r0 f0 fk fp t0 nx lnb t1 len cI cB tp ct (by omega) (by omega) htp (by omega) hd s.heap) (cwV 1 hw (gV w_ml_R_103 w_im_R_areDigits w_se_R_areDigits w_in_R w_co_R_areDigits) rfl rfl rfl (by decide +kernel) ⟨Nat.le_of_ble_eq_true rfl, Nat.le_of_ble_eq_true rfl⟩) (zR_V hG hS (hP.sub (ws' := [(r0, .inr (1, [.ref f0, .int (nI fk), .int fp, .ref t0, .int (nI nx), .int (nI lnb)])), (t0, .inr (2, [.ref t1, .int (nI len)])), (t1, .inl (cB, 400, .inl (aB tp)))]) [0, 1, 2] rfl) hK 0 rfl rfl) rfl rfl hl.1 rfl (lv_room (Nat.le_of_ble_eq_true rfl)) dR_walkNumber_2 ⟨Nat.le_of_ble_eq_true rfl, Nat.le_of_ble_eq_true rfl⟩) hS (fun r_1 locs h_2 hS => ?_)
  subst h_2
  refine lv_if_ne (tgt := 10) hx hb dR_walkNumber_5 (by decide) (fun c_5 => ?_) (fun q => False.elim (absurd q (by decide)))
  refine lv_aload_n hx hb dR_walkNumber_10 rfl (lv_at hl 0 rfl) ?_
  refine lv_iconst (v := nI 0) hx hb dR_walkNumber_11 (by decide) ?_
  refine va_put (D := (dC, dI)) (ci := 1) (v := .int (nI 0)) (ty := .int) (C := RR) (T := TR) (N := 6) hx hb hw inR tyR tyR_ok nmR hown hK hP hD hS 0 rfl rfl 5 (by decide) (hw _ w_fl_R_28) (fun _ h9 => h9) rfl (by decide +kernel) rfl rfl (Nat.le_of_ble_eq_true rfl) dR_walkNumber_12 (fun H locs hP hD hS => ?_)
  have hP : va_P (dC, dI) vwCl [(r0, .inr (1, [.ref f0, .int (nI fk), .int fp, .ref t0, .int (nI nx), .int (nI 0)])), (t0, .inr (2, [.ref t1, .int (nI len)])), (t1, .inl (cB, 400, .inl (aB tp)))] H := hP
  have hD : va_D A [(r0, .inr (1, [.ref f0, .int (nI fk), .int fp, .ref t0, .int (nI nx), .int (nI 0)])), (t0, .inr (2, [.ref t1, .int (nI len)])), (t1, .inl (cB, 400, .inl (aB tp)))] := hD
  refine lv_iconst (v := nI 0) hx hb dR_walkNumber_15 (by decide) ?_
  refine lv_istore_n (lv' := [(2, .int (nI 0)), (0, .ref r0), (1, .int (nI ct))]) hx hb dR_walkNumber_16 rfl hl (by decide) rfl (fun ls hl => ?_)
  have lp_17 : ∀ (fu : Nat) (k : Nat) (acc : Nat) (hk : k ≤ ct) (hi : nmA tp nx ct (ct - k) k acc = nmA tp nx ct ct 0 0) (hms : ct - k < fu) (H : Heap) (locs : List Loc) (ls : Array Slot), lv_has ls 3 [(0, .ref r0), (1, .int (nI ct)), (2, .int (nI k))] → va_P (dC, dI) vwCl [(r0, .inr (1, [.ref f0, .int (nI fk), .int fp, .ref t0, .int (nI nx), .int (nI acc)])), (t0, .inr (2, [.ref t1, .int (nI len)])), (t1, .inl (cB, 400, .inl (aB tp)))] H → va_D A [(r0, .inr (1, [.ref f0, .int (nI fk), .int fp, .ref t0, .int (nI nx), .int (nI acc)])), (t0, .inr (2, [.ref t1, .int (nI len)])), (t1, .inl (cB, 400, .inl (aB tp)))] → va_S A s.heap H locs → W p l e rm_c_walkNumber_ok s m ([.ref r0, .int (nI ct)] : List Value).toArray below meth c H locs 0 0 Q (F0 m 17 ls []) := by
    intro fu
    induction fu with
    | zero => intro k acc hk hi hms; exact absurd hms (Nat.not_lt_zero _)
    | succ fu ih17 =>
      intro k acc hk hi hms H locs ls hl hP hD hS
      refine lv_iload_n hx hb dR_walkNumber_17 rfl (lv_at hl 2 rfl) ?_
      refine lv_iload_n hx hb dR_walkNumber_18 rfl (lv_at hl 1 rfl) ?_
      refine zi_ge (tgt := 46) hx hb (by omega) (by omega) dR_walkNumber_19 (by decide) (fun c_19 => ?_) (fun c_19 => ?_)
      · rw [show ct - k = 0 by omega] at hi
        have hi : acc = nmA tp nx ct ct 0 0 := hi
        subst hi
        refine lv_aload_n hx hb dR_walkNumber_46 rfl (lv_at hl 0 rfl) ?_
        refine lv_dup hx hb dR_walkNumber_47 rfl ?_
        refine va_get (D := (dC, dI)) (ci := 1) (v := .int (nI nx)) (C := RR) (T := TR) (N := 6) hx hb hw inR hown hK hP 0 rfl rfl 4 (by decide) (hw _ w_fl_R_25) (fun _ h9 => h9) rfl dR_walkNumber_48 ?_
        refine lv_iload_n hx hb dR_walkNumber_51 rfl (lv_at hl 1 rfl) ?_
        refine zc_Ri (va_runSN (As := [.int (nI ct)]) (rest := [.int (nI nx), .ref r0]) ⟨hx, hb, hml, hown, hw⟩ (c_C_bytesOfDigits l dC dI cI cB ct (by omega) H) ⟨va_cnB 1 hw (gC w_co_C_bytesOfDigits) rfl rfl rfl (hG.nm (RR, 110, yC_bytesOfDigits) (List.mem_of_getElem? (i := 6) rfl)) (hw _ w_in_C) (by decide +kernel) ⟨Nat.le_of_ble_eq_true rfl, Nat.le_of_ble_eq_true rfl⟩, hw _ w_st_C_bytesOfDigits, trivial⟩ (zR_S hG hS (hP.sub (ws' := []) [] rfl) hK) rfl rfl hl.1 rfl (lv_room (Nat.le_of_ble_eq_true rfl)) dR_walkNumber_52 ⟨Nat.le_of_ble_eq_true rfl, Nat.le_of_ble_eq_true rfl⟩) hS (fun r_2 locs h_52 hS => ?_)
        subst h_52
        refine zi_add hx hb dR_walkNumber_55 ?_
        refine va_put (D := (dC, dI)) (ci := 1) (v := .int (nI (nx + ((ct + 1) / 2)))) (ty := .int) (C := RR) (T := TR) (N := 6) hx hb hw inR tyR tyR_ok nmR hown hK hP hD hS 0 rfl rfl 4 (by decide) (hw _ w_fl_R_25) (fun _ h9 => h9) rfl (by decide +kernel) rfl rfl (Nat.le_of_ble_eq_true rfl) dR_walkNumber_56 (fun H locs hP hD hS => ?_)
        have hP : va_P (dC, dI) vwCl [(r0, .inr (1, [.ref f0, .int (nI fk), .int fp, .ref t0, .int (nI (nx + ((ct + 1) / 2))), .int (nI (nmA tp nx ct ct 0 0))])), (t0, .inr (2, [.ref t1, .int (nI len)])), (t1, .inl (cB, 400, .inl (aB tp)))] H := hP
        have hD : va_D A [(r0, .inr (1, [.ref f0, .int (nI fk), .int fp, .ref t0, .int (nI (nx + ((ct + 1) / 2))), .int (nI (nmA tp nx ct ct 0 0))])), (t0, .inr (2, [.ref t1, .int (nI len)])), (t1, .inl (cB, 400, .inl (aB tp)))] := hD
        refine lv_iconst (v := nI 1) hx hb dR_walkNumber_59 (by decide) ?_
        subst hAe
        subst hQ
        exact W.zret (v := nI 1) hx hb hr (by decide) (fun t ht hW => ⟨⟨nI 1, (), rfl, rfl, by rw [ht]; exact hP.sub [0, 1, 2] rfl, hD.sub [0, 1, 2] (by decide) rfl⟩, hS.F ht⟩) hS.2.2 dR_walkNumber_60
      · refine lv_aload_n hx hb dR_walkNumber_22 rfl (lv_at hl 0 rfl) ?_
        refine lv_aload_n hx hb dR_walkNumber_23 rfl (lv_at hl 0 rfl) ?_
        refine va_get (D := (dC, dI)) (ci := 1) (v := .int (nI acc)) (C := RR) (T := TR) (N := 6) hx hb hw inR hown hK hP 0 rfl rfl 5 (by decide) (hw _ w_fl_R_28) (fun _ h9 => h9) rfl dR_walkNumber_24 ?_
        refine lv_bipush (v := nI 10) hx hb dR_walkNumber_27 (by decide) ?_
        refine zi_mul hx hb dR_walkNumber_29 ?_
        refine lv_aload_n hx hb dR_walkNumber_30 rfl (lv_at hl 0 rfl) ?_
        refine lv_iload_n hx hb dR_walkNumber_31 rfl (lv_at hl 2 rfl) ?_
        refine lv_iload_n hx hb dR_walkNumber_32 rfl (lv_at hl 1 rfl) ?_
        refine zc_Ri (va_runV (As := [.int (nI k), .int (nI ct)]) (rest := [.int (nI (acc * 10)), .ref r0]) ⟨hx, hb, hml, hown, hw⟩ (c_R_digitAhead l dC dI r0 f0 fk fp t0 nx acc t1 len cI cB tp k ct htp (by omega) (by omega) (by omega) H) (cwV 2 hw (gV w_ml_R_106 w_im_R_digitAhead w_se_R_digitAhead w_in_R w_co_R_digitAhead) rfl rfl rfl (by decide +kernel) ⟨Nat.le_of_ble_eq_true rfl, Nat.le_of_ble_eq_true rfl⟩) (zR_V hG hS (hP.sub (ws' := [(r0, .inr (1, [.ref f0, .int (nI fk), .int fp, .ref t0, .int (nI nx), .int (nI acc)])), (t0, .inr (2, [.ref t1, .int (nI len)])), (t1, .inl (cB, 400, .inl (aB tp)))]) [0, 1, 2] rfl) hK 0 rfl rfl) rfl rfl hl.1 rfl (lv_room (Nat.le_of_ble_eq_true rfl)) dR_walkNumber_33 ⟨Nat.le_of_ble_eq_true rfl, Nat.le_of_ble_eq_true rfl⟩) hS (fun r_3 locs h_33 hS => ?_)
        subst h_33
        refine zi_add hx hb dR_walkNumber_36 ?_
        refine va_put (D := (dC, dI)) (ci := 1) (v := .int (nI ((acc * 10) + (hf tp nx (ct % 2 + k))))) (ty := .int) (C := RR) (T := TR) (N := 6) hx hb hw inR tyR tyR_ok nmR hown hK hP hD hS 0 rfl rfl 5 (by decide) (hw _ w_fl_R_28) (fun _ h9 => h9) rfl (by decide +kernel) rfl rfl (Nat.le_of_ble_eq_true rfl) dR_walkNumber_37 (fun H locs hP hD hS => ?_)
        have hP : va_P (dC, dI) vwCl [(r0, .inr (1, [.ref f0, .int (nI fk), .int fp, .ref t0, .int (nI nx), .int (nI ((acc * 10) + (hf tp nx (ct % 2 + k))))])), (t0, .inr (2, [.ref t1, .int (nI len)])), (t1, .inl (cB, 400, .inl (aB tp)))] H := hP
        have hD : va_D A [(r0, .inr (1, [.ref f0, .int (nI fk), .int fp, .ref t0, .int (nI nx), .int (nI ((acc * 10) + (hf tp nx (ct % 2 + k))))])), (t0, .inr (2, [.ref t1, .int (nI len)])), (t1, .inl (cB, 400, .inl (aB tp)))] := hD
        refine lv_iinc (v := nI (k + 1)) (lv' := [(2, .int (nI (k + 1))), (0, .ref r0), (1, .int (nI ct))]) hx hb dR_walkNumber_40 hl (k := 2) rfl (zi_incr k 1) (by decide) rfl (fun ls hl => ?_)
        refine lv_goto (tgt := 17) hx hb dR_walkNumber_43 (by decide) ?_
        exact ih17 (k + 1) ((acc * 10) + (hf tp nx (ct % 2 + k))) (by omega) (by have h9 := hi; rw [show ct - k = ct - (k + 1) + 1 by omega] at h9; exact h9) (by omega) _ _ _ (lv_sub hl [1, 2, 0] rfl) (hP.sub [0, 1, 2] rfl) (hD.sub [0, 1, 2] (by decide) rfl) hS
  exact lp_17 ((ct - 0) + 1) 0 0 (by omega) rfl (Nat.lt_succ_self _) _ _ _ (lv_sub hl [1, 2, 0] rfl) (hP.sub [0, 1, 2] rfl) (hD.sub [0, 1, 2] (by decide) rfl) hS
def rm_c_walkNumber_no : Room := ({ frames := 3, cells := 0, slots := 0, locals := 66 } : Room)
set_option maxHeartbeats 4000000 in
set_option maxRecDepth 100000 in
theorem c_walkNumber_no (l : Launch) (dC : Nat → ClassId) (dI : Nat → Nat → Nat) (r0 : Nat) (f0 : Nat) (fk : Nat) (fp : Int32) (t0 : Nat) (nx : Nat) (lnb : Nat) (t1 : Nat) (len : Nat) (cI : ClassId) (cB : ClassId) (tp : Nat → Nat) (ct : Nat) (k2 : Nat) (p2 : Nat) (hln : len ≤ 400) (hnl : nx ≤ len) (htp : ∀ j, tp j < 256) (hc : ct ≤ 4) (hd : dgF tp len nx ct = some (k2, p2)) (sz : Nat) : Met l yR_walkNumber wsR_walkNumber rm_c_walkNumber_no (zM (dC, dI) [(cI, .int), (cB, .byte)] [.ref r0, .int (nI ct)] [(r0, .inr (1, [.ref f0, .int (nI fk), .int fp, .ref t0, .int (nI nx), .int (nI lnb)])), (t0, .inr (2, [.ref t1, .int (nI len)])), (t1, .inl (cB, 400, .inl (aB tp)))] sz) (zMi (dC, dI) [(r0, .inr (1, [.ref f0, .int (nI fk), .int fp, .ref t0, .int (nI nx), .int (nI lnb)])), (t0, .inr (2, [.ref t1, .int (nI len)])), (t1, .inl (cB, 400, .inl (aB tp)))] [(r0, .inr (1, [.ref f0, .int (nI k2), .int (nI p2), .ref t0, .int (nI nx), .int (nI lnb)])), (t0, .inr (2, [.ref t1, .int (nI len)])), (t1, .inl (cB, 400, .inl (aB tp)))] sz (fun r => r = nI 0)) 0 0 (va_A [(r0, .inr (1, [.ref f0, .int (nI fk), .int fp, .ref t0, .int (nI nx), .int (nI lnb)])), (t0, .inr (2, [.ref t1, .int (nI len)])), (t1, .inl (cB, 400, .inl (aB tp)))] sz) := by
  refine Met.ofW (cc := cR_walkNumber) (maxL := 3) (ret := (some .boolean)) (by decide) rfl ?_
  intro p e s m args below meth c s₁ Bd hml hv
  obtain ⟨rfl, hsz, hG, hP, hK, hD0⟩ := hv
  subst hsz
  have hx := Bd.exec
  have hb := Bd.bytes
  have hr := Bd.returns
  have hts := atoms_spec (ws := wsR_walkNumber) Bd.pre
  have hw : ∀ w ∈ BIG, w.before _ s = true := fun w h => hts w (List.mem_cons_of_mem _ h)
  have hown : s.vm.findClass RR = some m.cls := findClass_of_methodNamed Bd.named
  have hlocks := Bd.notSynchronized
  have hD := hD0.self (sz := s.heap.size)
  obtain ⟨A, hAe⟩ : ∃ A, A = va_A [(r0, .inr (1, [.ref f0, .int (nI fk), .int fp, .ref t0, .int (nI nx), .int (nI lnb)])), (t0, .inr (2, [.ref t1, .int (nI len)])), (t1, .inl (cB, 400, .inl (aB tp)))] s.heap.size := ⟨_, rfl⟩
  have hA : ∀ q : Nat, s.heap.size ≤ q → A q := fun q h => by rw [hAe]; exact Or.inr h
  rw [← hAe] at hG hD
  have hS : va_S A s.heap s.heap [] := va_S.rf
  have hl := lv_entry ([.ref r0, .int (nI ct)]) (n := 3) (Nat.le_of_ble_eq_true rfl)
  rw [lg_entry_eq]
  generalize (lg_sl ([.ref r0, .int (nI ct)]) ++ List.replicate (3 - (lg_sl ([.ref r0, .int (nI ct)])).length) Slot.unset).toArray = ls at hl ⊢
  have hl : lv_has ls 3 [(0, .ref r0), (1, .int (nI ct))] := hl
  refine zq_name (fun Q hQ => ?_)
  change W p l e rm_c_walkNumber_no s m _ below meth c _ _ _ _ Q _
  refine lv_aload_n hx hb dR_walkNumber_0 rfl (lv_at hl 0 rfl) ?_
  refine lv_iload_n hx hb dR_walkNumber_1 rfl (lv_at hl 1 rfl) ?_
  have hPc := hP.sub (ws' := [(r0, .inr (1, [.ref f0, .int (nI fk), .int fp, .ref t0, .int (nI nx), .int (nI lnb)])), (t0, .inr (2, [.ref t1, .int (nI len)])), (t1, .inl (cB, 400, .inl (aB tp)))]) [0, 1, 2] rfl
  have hDc := hD.sub (ws' := [(r0, .inr (1, [.ref f0, .int (nI fk), .int fp, .ref t0, .int (nI nx), .int (nI lnb)])), (t0, .inr (2, [.ref t1, .int (nI len)])), (t1, .inl (cB, 400, .inl (aB tp)))]) [0, 1, 2] (by decide) rfl
  have hFc := va_free (wc := [(r0, .inr (1, [.ref f0, .int (nI fk), .int fp, .ref t0, .int (nI nx), .int (nI lnb)])), (t0, .inr (2, [.ref t1, .int (nI len)])), (t1, .inl (cB, 400, .inl (aB tp)))]) hD hS hA [0, 1, 2] rfl
  refine zc_Mi (va_runV (As := [.int (nI ct)]) (rest := []) ⟨hx, hb, hml, hown, hw⟩ (c_areDigits_no l dC dI r0 f0 fk fp t0 nx lnb t1 len cI cB tp ct k2 p2 (by omega) (by omega) htp (by omega) hd s.heap.size) (cwV 1 hw (gV w_ml_R_103 w_im_R_areDigits w_se_R_areDigits w_in_R w_co_R_areDigits) rfl rfl rfl (by decide +kernel) ⟨Nat.le_of_ble_eq_true rfl, Nat.le_of_ble_eq_true rfl⟩) (zM_V hG hS hFc hPc hDc hK 0 rfl rfl) rfl rfl hl.1 rfl (lv_room (Nat.le_of_ble_eq_true rfl)) dR_walkNumber_2 ⟨Nat.le_of_ble_eq_true rfl, Nat.le_of_ble_eq_true rfl⟩) hS hFc (fun r_1 H locs h_2 hP1 hD1 hk1 hS => ?_)
  obtain ⟨hP, hD⟩ := va_join (wr := []) (w1 := [(r0, .inr (1, [.ref f0, .int (nI k2), .int (nI p2), .ref t0, .int (nI nx), .int (nI lnb)])), (t0, .inr (2, [.ref t1, .int (nI len)])), (t1, .inl (cB, 400, .inl (aB tp)))]) hP hD [0, 1, 2] [] rfl rfl (by decide) (by decide) hk1 hFc hP1 hD1
  have hP : va_P (dC, dI) vwCl [(r0, .inr (1, [.ref f0, .int (nI k2), .int (nI p2), .ref t0, .int (nI nx), .int (nI lnb)])), (t0, .inr (2, [.ref t1, .int (nI len)])), (t1, .inl (cB, 400, .inl (aB tp)))] H := hP
  have hD : va_D A [(r0, .inr (1, [.ref f0, .int (nI k2), .int (nI p2), .ref t0, .int (nI nx), .int (nI lnb)])), (t0, .inr (2, [.ref t1, .int (nI len)])), (t1, .inl (cB, 400, .inl (aB tp)))] := hD
  subst h_2
  refine lv_if_ne (tgt := 10) hx hb dR_walkNumber_5 (by decide) (fun q => False.elim (absurd q (by decide))) (fun c_5 => ?_)
  refine lv_iconst (v := nI 0) hx hb dR_walkNumber_8 (by decide) ?_
  subst hAe
  subst hQ
  exact W.zret (v := nI 0) hx hb hr (by decide) (fun t ht hW => ⟨⟨nI 0, (), rfl, rfl, by rw [ht]; exact hP.sub [0, 1, 2] rfl, hD.sub [0, 1, 2] (by decide) rfl⟩, hS.F ht⟩) hS.2.2 dR_walkNumber_9
def rm_c_walkDigits_ok : Room := ({ frames := 3, cells := 0, slots := 0, locals := 66 } : Room)
set_option maxHeartbeats 4000000 in
set_option maxRecDepth 100000 in
theorem c_walkDigits_ok (l : Launch) (dC : Nat → ClassId) (dI : Nat → Nat → Nat) (r0 : Nat) (f0 : Nat) (fk : Nat) (fp : Int32) (t0 : Nat) (nx : Nat) (lnb : Nat) (t1 : Nat) (len : Nat) (cI : ClassId) (cB : ClassId) (tp : Nat → Nat) (f1 : Nat) (f2 : Nat) (ty : Nat) (cnt : Nat → Nat) (mk : Nat → Nat) (sl : Nat) (ct : Nat) (hln : len ≤ 400) (hnl : nx ≤ len) (htp : ∀ j, tp j < 256) (hs : sl < 16) (hb : fFM sl + ct ≤ 208) (hc : ct < 100) (hd : dgF tp len nx ct = none) (sz : Nat) : Met l yR_walkDigits wsR_walkDigits rm_c_walkDigits_ok (zM (dC, dI) [(cI, .int), (cB, .byte)] [.ref r0, .int (nI sl), .int (nI ct)] [(r0, .inr (1, [.ref f0, .int (nI fk), .int fp, .ref t0, .int (nI nx), .int (nI lnb)])), (t0, .inr (2, [.ref t1, .int (nI len)])), (t1, .inl (cB, 400, .inl (aB tp))), (f0, .inr (0, [.int (nI ty), .ref f1, .ref f2])), (f1, .inl (cI, 16, .inl (aN cnt))), (f2, .inl (cB, 208, .inl (aN mk)))] sz) (zMi (dC, dI) [(r0, .inr (1, [.ref f0, .int (nI fk), .int fp, .ref t0, .int (nI nx), .int (nI lnb)])), (t0, .inr (2, [.ref t1, .int (nI len)])), (t1, .inl (cB, 400, .inl (aB tp))), (f0, .inr (0, [.int (nI ty), .ref f1, .ref f2])), (f1, .inl (cI, 16, .inl (aN cnt))), (f2, .inl (cB, 208, .inl (aN mk)))] [(r0, .inr (1, [.ref f0, .int (nI fk), .int fp, .ref t0, .int (nI (nx + (ct + 1) / 2)), .int (nI lnb)])), (t0, .inr (2, [.ref t1, .int (nI len)])), (t1, .inl (cB, 400, .inl (aB tp))), (f0, .inr (0, [.int (nI ty), .ref f1, .ref f2])), (f1, .inl (cI, 16, .inl (aN (nup cnt sl ct)))), (f2, .inl (cB, 208, .inl (aN (dgC tp nx ct (fFM sl) ct 0 mk))))] sz (fun r => r = nI 1)) 0 0 (va_A [(r0, .inr (1, [.ref f0, .int (nI fk), .int fp, .ref t0, .int (nI nx), .int (nI lnb)])), (t0, .inr (2, [.ref t1, .int (nI len)])), (t1, .inl (cB, 400, .inl (aB tp))), (f0, .inr (0, [.int (nI ty), .ref f1, .ref f2])), (f1, .inl (cI, 16, .inl (aN cnt))), (f2, .inl (cB, 208, .inl (aN mk)))] sz) := by
  refine Met.ofW (cc := cR_walkDigits) (maxL := 4) (ret := (some .boolean)) (by decide) rfl ?_
  intro p e s m args below meth c s₁ Bd hml hv
  obtain ⟨rfl, hsz, hG, hP, hK, hD0⟩ := hv
  subst hsz
  have hx := Bd.exec
  have hb := Bd.bytes
  have hr := Bd.returns
  have hts := atoms_spec (ws := wsR_walkDigits) Bd.pre
  have hw : ∀ w ∈ BIG, w.before _ s = true := fun w h => hts w (List.mem_cons_of_mem _ h)
  have hown : s.vm.findClass RR = some m.cls := findClass_of_methodNamed Bd.named
  have hlocks := Bd.notSynchronized
  have hD := hD0.self (sz := s.heap.size)
  obtain ⟨A, hAe⟩ : ∃ A, A = va_A [(r0, .inr (1, [.ref f0, .int (nI fk), .int fp, .ref t0, .int (nI nx), .int (nI lnb)])), (t0, .inr (2, [.ref t1, .int (nI len)])), (t1, .inl (cB, 400, .inl (aB tp))), (f0, .inr (0, [.int (nI ty), .ref f1, .ref f2])), (f1, .inl (cI, 16, .inl (aN cnt))), (f2, .inl (cB, 208, .inl (aN mk)))] s.heap.size := ⟨_, rfl⟩
  have hA : ∀ q : Nat, s.heap.size ≤ q → A q := fun q h => by rw [hAe]; exact Or.inr h
  rw [← hAe] at hG hD
  have hS : va_S A s.heap s.heap [] := va_S.rf
  have hl := lv_entry ([.ref r0, .int (nI sl), .int (nI ct)]) (n := 4) (Nat.le_of_ble_eq_true rfl)
  rw [lg_entry_eq]
  generalize (lg_sl ([.ref r0, .int (nI sl), .int (nI ct)]) ++ List.replicate (4 - (lg_sl ([.ref r0, .int (nI sl), .int (nI ct)])).length) Slot.unset).toArray = ls at hl ⊢
  have hl : lv_has ls 4 [(0, .ref r0), (1, .int (nI sl)), (2, .int (nI ct))] := hl
  refine zq_name (fun Q hQ => ?_)
  change W p l e rm_c_walkDigits_ok s m _ below meth c _ _ _ _ Q _
  have hs9 := dgF_fit hd
  have hb9 : ∀ j, hf tp nx j < 16 := hf_lt htp nx
  refine lv_aload_n hx hb dR_walkDigits_0 rfl (lv_at hl 0 rfl) ?_
  refine lv_iload_n hx hb dR_walkDigits_1 rfl (lv_at hl 2 rfl) ?_
  refine zc_Ri (va_runV (As := [.int (nI ct)]) (rest := []) ⟨hx, hb, hml, hown, hw⟩ (c_areDigits_ok l dC dI r0 f0 fk fp t0 nx lnb t1 len cI cB tp ct (by omega) (by omega) htp (by omega) hd s.heap) (cwV 1 hw (gV w_ml_R_103 w_im_R_areDigits w_se_R_areDigits w_in_R w_co_R_areDigits) rfl rfl rfl (by decide +kernel) ⟨Nat.le_of_ble_eq_true rfl, Nat.le_of_ble_eq_true rfl⟩) (zR_V hG hS (hP.sub (ws' := [(r0, .inr (1, [.ref f0, .int (nI fk), .int fp, .ref t0, .int (nI nx), .int (nI lnb)])), (t0, .inr (2, [.ref t1, .int (nI len)])), (t1, .inl (cB, 400, .inl (aB tp)))]) [0, 1, 2] rfl) hK 0 rfl rfl) rfl rfl hl.1 rfl (lv_room (Nat.le_of_ble_eq_true rfl)) dR_walkDigits_2 ⟨Nat.le_of_ble_eq_true rfl, Nat.le_of_ble_eq_true rfl⟩) hS (fun r_1 locs h_2 hS => ?_)
  subst h_2
  refine lv_if_ne (tgt := 10) hx hb dR_walkDigits_5 (by decide) (fun c_5 => ?_) (fun q => False.elim (absurd q (by decide)))
  refine lv_iconst (v := nI 0) hx hb dR_walkDigits_10 (by decide) ?_
  refine lv_istore_n (lv' := [(3, .int (nI 0)), (0, .ref r0), (1, .int (nI sl)), (2, .int (nI ct))]) hx hb dR_walkDigits_11 rfl hl (by decide) rfl (fun ls hl => ?_)
  have lp_12 : ∀ (fu : Nat) (k : Nat) (f : Nat → Nat) (hk : k ≤ ct) (hi : dgC tp nx ct (fFM sl) (ct - k) k f = dgC tp nx ct (fFM sl) ct 0 mk) (hms : ct - k < fu) (H : Heap) (locs : List Loc) (ls : Array Slot), lv_has ls 4 [(0, .ref r0), (1, .int (nI sl)), (2, .int (nI ct)), (3, .int (nI k))] → va_P (dC, dI) vwCl [(r0, .inr (1, [.ref f0, .int (nI fk), .int fp, .ref t0, .int (nI nx), .int (nI lnb)])), (t0, .inr (2, [.ref t1, .int (nI len)])), (t1, .inl (cB, 400, .inl (aB tp))), (f0, .inr (0, [.int (nI ty), .ref f1, .ref f2])), (f1, .inl (cI, 16, .inl (aN cnt))), (f2, .inl (cB, 208, .inl (aN f)))] H → va_D A [(r0, .inr (1, [.ref f0, .int (nI fk), .int fp, .ref t0, .int (nI nx), .int (nI lnb)])), (t0, .inr (2, [.ref t1, .int (nI len)])), (t1, .inl (cB, 400, .inl (aB tp))), (f0, .inr (0, [.int (nI ty), .ref f1, .ref f2])), (f1, .inl (cI, 16, .inl (aN cnt))), (f2, .inl (cB, 208, .inl (aN f)))] → va_S A s.heap H locs → W p l e rm_c_walkDigits_ok s m ([.ref r0, .int (nI sl), .int (nI ct)] : List Value).toArray below meth c H locs 0 0 Q (F0 m 12 ls []) := by
    intro fu
    induction fu with
    | zero => intro k f hk hi hms; exact absurd hms (Nat.not_lt_zero _)
    | succ fu ih12 =>
      intro k f hk hi hms H locs ls hl hP hD hS
      refine lv_iload_n hx hb dR_walkDigits_12 rfl (lv_at hl 3 rfl) ?_
      refine lv_iload_n hx hb dR_walkDigits_13 rfl (lv_at hl 2 rfl) ?_
      refine zi_ge (tgt := 38) hx hb (by omega) (by omega) dR_walkDigits_14 (by decide) (fun c_14 => ?_) (fun c_14 => ?_)
      · rw [show ct - k = 0 by omega] at hi
        have hi : f = dgC tp nx ct (fFM sl) ct 0 mk := hi
        subst hi
        refine lv_aload_n hx hb dR_walkDigits_38 rfl (lv_at hl 0 rfl) ?_
        refine va_get (D := (dC, dI)) (ci := 1) (v := .ref f0) (C := RR) (T := TR) (N := 6) hx hb hw inR hown hK hP 0 rfl rfl 0 (by decide) (hw _ w_fl_R_12) (fun _ h9 => h9) rfl dR_walkDigits_39 ?_
        refine va_get (D := (dC, dI)) (ci := 0) (v := .ref f1) (C := RD) (T := TD) (N := 3) hx hb hw inD hown hK hP 3 rfl rfl 1 (by decide) (hw _ w_fl_R_117) (fun _ h9 => h9) rfl dR_walkDigits_42 ?_
        refine lv_iload_n hx hb dR_walkDigits_45 rfl (lv_at hl 1 rfl) ?_
        refine lv_iload_n hx hb dR_walkDigits_46 rfl (lv_at hl 2 rfl) ?_
        refine za_ist hx hb hK hP hD hS 4 0 rfl rfl (by omega) (by decide) dR_walkDigits_47 (fun H locs hP hD hS => ?_)
        have hP : va_P (dC, dI) vwCl [(r0, .inr (1, [.ref f0, .int (nI fk), .int fp, .ref t0, .int (nI nx), .int (nI lnb)])), (t0, .inr (2, [.ref t1, .int (nI len)])), (t1, .inl (cB, 400, .inl (aB tp))), (f0, .inr (0, [.int (nI ty), .ref f1, .ref f2])), (f1, .inl (cI, 16, .inl (aN (nup cnt sl ct)))), (f2, .inl (cB, 208, .inl (aN (dgC tp nx ct (fFM sl) ct 0 mk))))] H := hP
        have hD : va_D A [(r0, .inr (1, [.ref f0, .int (nI fk), .int fp, .ref t0, .int (nI nx), .int (nI lnb)])), (t0, .inr (2, [.ref t1, .int (nI len)])), (t1, .inl (cB, 400, .inl (aB tp))), (f0, .inr (0, [.int (nI ty), .ref f1, .ref f2])), (f1, .inl (cI, 16, .inl (aN (nup cnt sl ct)))), (f2, .inl (cB, 208, .inl (aN (dgC tp nx ct (fFM sl) ct 0 mk))))] := hD
        refine lv_aload_n hx hb dR_walkDigits_48 rfl (lv_at hl 0 rfl) ?_
        refine lv_dup hx hb dR_walkDigits_49 rfl ?_
        refine va_get (D := (dC, dI)) (ci := 1) (v := .int (nI nx)) (C := RR) (T := TR) (N := 6) hx hb hw inR hown hK hP 0 rfl rfl 4 (by decide) (hw _ w_fl_R_25) (fun _ h9 => h9) rfl dR_walkDigits_50 ?_
        refine lv_iload_n hx hb dR_walkDigits_53 rfl (lv_at hl 2 rfl) ?_
        refine zc_Ri (va_runSN (As := [.int (nI ct)]) (rest := [.int (nI nx), .ref r0]) ⟨hx, hb, hml, hown, hw⟩ (c_C_bytesOfDigits l dC dI cI cB ct (by omega) H) ⟨va_cnB 1 hw (gC w_co_C_bytesOfDigits) rfl rfl rfl (hG.nm (RR, 110, yC_bytesOfDigits) (List.mem_of_getElem? (i := 6) rfl)) (hw _ w_in_C) (by decide +kernel) ⟨Nat.le_of_ble_eq_true rfl, Nat.le_of_ble_eq_true rfl⟩, hw _ w_st_C_bytesOfDigits, trivial⟩ (zR_S hG hS (hP.sub (ws' := []) [] rfl) hK) rfl rfl hl.1 rfl (lv_room (Nat.le_of_ble_eq_true rfl)) dR_walkDigits_54 ⟨Nat.le_of_ble_eq_true rfl, Nat.le_of_ble_eq_true rfl⟩) hS (fun r_2 locs h_54 hS => ?_)
        subst h_54
        refine zi_add hx hb dR_walkDigits_57 ?_
        refine va_put (D := (dC, dI)) (ci := 1) (v := .int (nI (nx + ((ct + 1) / 2)))) (ty := .int) (C := RR) (T := TR) (N := 6) hx hb hw inR tyR tyR_ok nmR hown hK hP hD hS 0 rfl rfl 4 (by decide) (hw _ w_fl_R_25) (fun _ h9 => h9) rfl (by decide +kernel) rfl rfl (Nat.le_of_ble_eq_true rfl) dR_walkDigits_58 (fun H locs hP hD hS => ?_)
        have hP : va_P (dC, dI) vwCl [(r0, .inr (1, [.ref f0, .int (nI fk), .int fp, .ref t0, .int (nI (nx + ((ct + 1) / 2))), .int (nI lnb)])), (t0, .inr (2, [.ref t1, .int (nI len)])), (t1, .inl (cB, 400, .inl (aB tp))), (f0, .inr (0, [.int (nI ty), .ref f1, .ref f2])), (f1, .inl (cI, 16, .inl (aN (nup cnt sl ct)))), (f2, .inl (cB, 208, .inl (aN (dgC tp nx ct (fFM sl) ct 0 mk))))] H := hP
        have hD : va_D A [(r0, .inr (1, [.ref f0, .int (nI fk), .int fp, .ref t0, .int (nI (nx + ((ct + 1) / 2))), .int (nI lnb)])), (t0, .inr (2, [.ref t1, .int (nI len)])), (t1, .inl (cB, 400, .inl (aB tp))), (f0, .inr (0, [.int (nI ty), .ref f1, .ref f2])), (f1, .inl (cI, 16, .inl (aN (nup cnt sl ct)))), (f2, .inl (cB, 208, .inl (aN (dgC tp nx ct (fFM sl) ct 0 mk))))] := hD
        refine lv_iconst (v := nI 1) hx hb dR_walkDigits_61 (by decide) ?_
        subst hAe
        subst hQ
        exact W.zret (v := nI 1) hx hb hr (by decide) (fun t ht hW => ⟨⟨nI 1, (), rfl, rfl, by rw [ht]; exact hP.sub [0, 1, 2, 3, 4, 5] rfl, hD.sub [0, 1, 2, 3, 4, 5] (by decide) rfl⟩, hS.F ht⟩) hS.2.2 dR_walkDigits_62
      · refine lv_aload_n hx hb dR_walkDigits_17 rfl (lv_at hl 0 rfl) ?_
        refine va_get (D := (dC, dI)) (ci := 1) (v := .ref f0) (C := RR) (T := TR) (N := 6) hx hb hw inR hown hK hP 0 rfl rfl 0 (by decide) (hw _ w_fl_R_12) (fun _ h9 => h9) rfl dR_walkDigits_18 ?_
        refine lv_iload_n hx hb dR_walkDigits_21 rfl (lv_at hl 1 rfl) ?_
        refine lv_iload_n hx hb dR_walkDigits_22 rfl (lv_at hl 3 rfl) ?_
        refine lv_aload_n hx hb dR_walkDigits_23 rfl (lv_at hl 0 rfl) ?_
        refine lv_iload_n hx hb dR_walkDigits_24 rfl (lv_at hl 3 rfl) ?_
        refine lv_iload_n hx hb dR_walkDigits_25 rfl (lv_at hl 2 rfl) ?_
        refine zc_Ri (va_runV (As := [.int (nI k), .int (nI ct)]) (rest := [.int (nI k), .int (nI sl), .ref f0]) ⟨hx, hb, hml, hown, hw⟩ (c_R_digitAhead l dC dI r0 f0 fk fp t0 nx lnb t1 len cI cB tp k ct htp (by omega) (by omega) (by omega) H) (cwV 2 hw (gV w_ml_R_106 w_im_R_digitAhead w_se_R_digitAhead w_in_R w_co_R_digitAhead) rfl rfl rfl (by decide +kernel) ⟨Nat.le_of_ble_eq_true rfl, Nat.le_of_ble_eq_true rfl⟩) (zR_V hG hS (hP.sub (ws' := [(r0, .inr (1, [.ref f0, .int (nI fk), .int fp, .ref t0, .int (nI nx), .int (nI lnb)])), (t0, .inr (2, [.ref t1, .int (nI len)])), (t1, .inl (cB, 400, .inl (aB tp)))]) [0, 1, 2] rfl) hK 0 rfl rfl) rfl rfl hl.1 rfl (lv_room (Nat.le_of_ble_eq_true rfl)) dR_walkDigits_26 ⟨Nat.le_of_ble_eq_true rfl, Nat.le_of_ble_eq_true rfl⟩) hS (fun r_3 locs h_26 hS => ?_)
        subst h_26
        have hPc := hP.sub (ws' := [(f0, .inr (0, [.int (nI ty), .ref f1, .ref f2])), (f2, .inl (cB, 208, .inl (aN f)))]) [3, 5] rfl
        have hDc := hD.sub (ws' := [(f0, .inr (0, [.int (nI ty), .ref f1, .ref f2])), (f2, .inl (cB, 208, .inl (aN f)))]) [3, 5] (by decide) rfl
        have hFc := va_free (wc := [(f0, .inr (0, [.int (nI ty), .ref f1, .ref f2])), (f2, .inl (cB, 208, .inl (aN f)))]) hD hS hA [3, 5] rfl
        refine zc_Mv (va_runV (As := [.int (nI sl), .int (nI k), .int (nI (hf tp nx (ct % 2 + k)))]) (rest := []) ⟨hx, hb, hml, hown, hw⟩ (c_D_setMark l dC dI f0 f1 f2 cI cB ty f sl k (hf tp nx (ct % 2 + k)) (by omega) (by omega) (Nat.lt_trans (hb9 _) (by decide)) H.size) (cwV 3 hw (gV w_ml_R_113 w_im_D_setMark w_se_D_setMark w_in_D w_co_D_setMark) rfl rfl rfl (by decide +kernel) ⟨Nat.le_of_ble_eq_true rfl, Nat.le_of_ble_eq_true rfl⟩) (zM_V hG hS hFc hPc hDc hK 0 rfl rfl) rfl rfl hl.1 rfl (lv_room (Nat.le_of_ble_eq_true rfl)) dR_walkDigits_29 ⟨Nat.le_of_ble_eq_true rfl, Nat.le_of_ble_eq_true rfl⟩) hS hFc (fun H locs h_29 hP1 hD1 hk1 hS => ?_)
        obtain ⟨hP, hD⟩ := va_join (wr := [(r0, .inr (1, [.ref f0, .int (nI fk), .int fp, .ref t0, .int (nI nx), .int (nI lnb)])), (t0, .inr (2, [.ref t1, .int (nI len)])), (t1, .inl (cB, 400, .inl (aB tp))), (f1, .inl (cI, 16, .inl (aN cnt)))]) (w1 := [(f0, .inr (0, [.int (nI ty), .ref f1, .ref f2])), (f2, .inl (cB, 208, .inl (aN (nup f (fFM sl + k) (hf tp nx (ct % 2 + k))))))]) hP hD [3, 5] [0, 1, 2, 4] rfl rfl (by decide) (by decide) hk1 hFc hP1 hD1
        have hP : va_P (dC, dI) vwCl [(r0, .inr (1, [.ref f0, .int (nI fk), .int fp, .ref t0, .int (nI nx), .int (nI lnb)])), (t0, .inr (2, [.ref t1, .int (nI len)])), (t1, .inl (cB, 400, .inl (aB tp))), (f1, .inl (cI, 16, .inl (aN cnt))), (f0, .inr (0, [.int (nI ty), .ref f1, .ref f2])), (f2, .inl (cB, 208, .inl (aN (nup f (fFM sl + k) (hf tp nx (ct % 2 + k))))))] H := hP
        have hD : va_D A [(r0, .inr (1, [.ref f0, .int (nI fk), .int fp, .ref t0, .int (nI nx), .int (nI lnb)])), (t0, .inr (2, [.ref t1, .int (nI len)])), (t1, .inl (cB, 400, .inl (aB tp))), (f1, .inl (cI, 16, .inl (aN cnt))), (f0, .inr (0, [.int (nI ty), .ref f1, .ref f2])), (f2, .inl (cB, 208, .inl (aN (nup f (fFM sl + k) (hf tp nx (ct % 2 + k))))))] := hD
        refine lv_iinc (v := nI (k + 1)) (lv' := [(3, .int (nI (k + 1))), (0, .ref r0), (1, .int (nI sl)), (2, .int (nI ct))]) hx hb dR_walkDigits_32 hl (k := 3) rfl (zi_incr k 1) (by decide) rfl (fun ls hl => ?_)
        refine lv_goto (tgt := 12) hx hb dR_walkDigits_35 (by decide) ?_
        exact ih12 (k + 1) (nup f (fFM sl + k) (hf tp nx (ct % 2 + k))) (by omega) (by have h9 := hi; rw [show ct - k = ct - (k + 1) + 1 by omega] at h9; exact h9) (by omega) _ _ _ (lv_sub hl [1, 2, 3, 0] rfl) (hP.sub [0, 1, 2, 4, 3, 5] rfl) (hD.sub [0, 1, 2, 4, 3, 5] (by decide) rfl) hS
  exact lp_12 ((ct - 0) + 1) 0 mk (by omega) rfl (Nat.lt_succ_self _) _ _ _ (lv_sub hl [1, 2, 3, 0] rfl) (hP.sub [0, 1, 2, 3, 4, 5] rfl) (hD.sub [0, 1, 2, 3, 4, 5] (by decide) rfl) hS
def rm_c_walkDigits_no : Room := ({ frames := 3, cells := 0, slots := 0, locals := 66 } : Room)
set_option maxHeartbeats 4000000 in
set_option maxRecDepth 100000 in
theorem c_walkDigits_no (l : Launch) (dC : Nat → ClassId) (dI : Nat → Nat → Nat) (r0 : Nat) (f0 : Nat) (fk : Nat) (fp : Int32) (t0 : Nat) (nx : Nat) (lnb : Nat) (t1 : Nat) (len : Nat) (cI : ClassId) (cB : ClassId) (tp : Nat → Nat) (sl : Nat) (ct : Nat) (k2 : Nat) (p2 : Nat) (hln : len ≤ 400) (hnl : nx ≤ len) (htp : ∀ j, tp j < 256) (hc : ct < 100) (hd : dgF tp len nx ct = some (k2, p2)) (sz : Nat) : Met l yR_walkDigits wsR_walkDigits rm_c_walkDigits_no (zM (dC, dI) [(cI, .int), (cB, .byte)] [.ref r0, .int (nI sl), .int (nI ct)] [(r0, .inr (1, [.ref f0, .int (nI fk), .int fp, .ref t0, .int (nI nx), .int (nI lnb)])), (t0, .inr (2, [.ref t1, .int (nI len)])), (t1, .inl (cB, 400, .inl (aB tp)))] sz) (zMi (dC, dI) [(r0, .inr (1, [.ref f0, .int (nI fk), .int fp, .ref t0, .int (nI nx), .int (nI lnb)])), (t0, .inr (2, [.ref t1, .int (nI len)])), (t1, .inl (cB, 400, .inl (aB tp)))] [(r0, .inr (1, [.ref f0, .int (nI k2), .int (nI p2), .ref t0, .int (nI nx), .int (nI lnb)])), (t0, .inr (2, [.ref t1, .int (nI len)])), (t1, .inl (cB, 400, .inl (aB tp)))] sz (fun r => r = nI 0)) 0 0 (va_A [(r0, .inr (1, [.ref f0, .int (nI fk), .int fp, .ref t0, .int (nI nx), .int (nI lnb)])), (t0, .inr (2, [.ref t1, .int (nI len)])), (t1, .inl (cB, 400, .inl (aB tp)))] sz) := by
  refine Met.ofW (cc := cR_walkDigits) (maxL := 4) (ret := (some .boolean)) (by decide) rfl ?_
  intro p e s m args below meth c s₁ Bd hml hv
  obtain ⟨rfl, hsz, hG, hP, hK, hD0⟩ := hv
  subst hsz
  have hx := Bd.exec
  have hb := Bd.bytes
  have hr := Bd.returns
  have hts := atoms_spec (ws := wsR_walkDigits) Bd.pre
  have hw : ∀ w ∈ BIG, w.before _ s = true := fun w h => hts w (List.mem_cons_of_mem _ h)
  have hown : s.vm.findClass RR = some m.cls := findClass_of_methodNamed Bd.named
  have hlocks := Bd.notSynchronized
  have hD := hD0.self (sz := s.heap.size)
  obtain ⟨A, hAe⟩ : ∃ A, A = va_A [(r0, .inr (1, [.ref f0, .int (nI fk), .int fp, .ref t0, .int (nI nx), .int (nI lnb)])), (t0, .inr (2, [.ref t1, .int (nI len)])), (t1, .inl (cB, 400, .inl (aB tp)))] s.heap.size := ⟨_, rfl⟩
  have hA : ∀ q : Nat, s.heap.size ≤ q → A q := fun q h => by rw [hAe]; exact Or.inr h
  rw [← hAe] at hG hD
  have hS : va_S A s.heap s.heap [] := va_S.rf
  have hl := lv_entry ([.ref r0, .int (nI sl), .int (nI ct)]) (n := 4) (Nat.le_of_ble_eq_true rfl)
  rw [lg_entry_eq]
  generalize (lg_sl ([.ref r0, .int (nI sl), .int (nI ct)]) ++ List.replicate (4 - (lg_sl ([.ref r0, .int (nI sl), .int (nI ct)])).length) Slot.unset).toArray = ls at hl ⊢
  have hl : lv_has ls 4 [(0, .ref r0), (1, .int (nI sl)), (2, .int (nI ct))] := hl
  refine zq_name (fun Q hQ => ?_)
  change W p l e rm_c_walkDigits_no s m _ below meth c _ _ _ _ Q _
  refine lv_aload_n hx hb dR_walkDigits_0 rfl (lv_at hl 0 rfl) ?_
  refine lv_iload_n hx hb dR_walkDigits_1 rfl (lv_at hl 2 rfl) ?_
  have hPc := hP.sub (ws' := [(r0, .inr (1, [.ref f0, .int (nI fk), .int fp, .ref t0, .int (nI nx), .int (nI lnb)])), (t0, .inr (2, [.ref t1, .int (nI len)])), (t1, .inl (cB, 400, .inl (aB tp)))]) [0, 1, 2] rfl
  have hDc := hD.sub (ws' := [(r0, .inr (1, [.ref f0, .int (nI fk), .int fp, .ref t0, .int (nI nx), .int (nI lnb)])), (t0, .inr (2, [.ref t1, .int (nI len)])), (t1, .inl (cB, 400, .inl (aB tp)))]) [0, 1, 2] (by decide) rfl
  have hFc := va_free (wc := [(r0, .inr (1, [.ref f0, .int (nI fk), .int fp, .ref t0, .int (nI nx), .int (nI lnb)])), (t0, .inr (2, [.ref t1, .int (nI len)])), (t1, .inl (cB, 400, .inl (aB tp)))]) hD hS hA [0, 1, 2] rfl
  refine zc_Mi (va_runV (As := [.int (nI ct)]) (rest := []) ⟨hx, hb, hml, hown, hw⟩ (c_areDigits_no l dC dI r0 f0 fk fp t0 nx lnb t1 len cI cB tp ct k2 p2 (by omega) (by omega) htp (by omega) hd s.heap.size) (cwV 1 hw (gV w_ml_R_103 w_im_R_areDigits w_se_R_areDigits w_in_R w_co_R_areDigits) rfl rfl rfl (by decide +kernel) ⟨Nat.le_of_ble_eq_true rfl, Nat.le_of_ble_eq_true rfl⟩) (zM_V hG hS hFc hPc hDc hK 0 rfl rfl) rfl rfl hl.1 rfl (lv_room (Nat.le_of_ble_eq_true rfl)) dR_walkDigits_2 ⟨Nat.le_of_ble_eq_true rfl, Nat.le_of_ble_eq_true rfl⟩) hS hFc (fun r_1 H locs h_2 hP1 hD1 hk1 hS => ?_)
  obtain ⟨hP, hD⟩ := va_join (wr := []) (w1 := [(r0, .inr (1, [.ref f0, .int (nI k2), .int (nI p2), .ref t0, .int (nI nx), .int (nI lnb)])), (t0, .inr (2, [.ref t1, .int (nI len)])), (t1, .inl (cB, 400, .inl (aB tp)))]) hP hD [0, 1, 2] [] rfl rfl (by decide) (by decide) hk1 hFc hP1 hD1
  have hP : va_P (dC, dI) vwCl [(r0, .inr (1, [.ref f0, .int (nI k2), .int (nI p2), .ref t0, .int (nI nx), .int (nI lnb)])), (t0, .inr (2, [.ref t1, .int (nI len)])), (t1, .inl (cB, 400, .inl (aB tp)))] H := hP
  have hD : va_D A [(r0, .inr (1, [.ref f0, .int (nI k2), .int (nI p2), .ref t0, .int (nI nx), .int (nI lnb)])), (t0, .inr (2, [.ref t1, .int (nI len)])), (t1, .inl (cB, 400, .inl (aB tp)))] := hD
  subst h_2
  refine lv_if_ne (tgt := 10) hx hb dR_walkDigits_5 (by decide) (fun q => False.elim (absurd q (by decide))) (fun c_5 => ?_)
  refine lv_iconst (v := nI 0) hx hb dR_walkDigits_8 (by decide) ?_
  subst hAe
  subst hQ
  exact W.zret (v := nI 0) hx hb hr (by decide) (fun t ht hW => ⟨⟨nI 0, (), rfl, rfl, by rw [ht]; exact hP.sub [0, 1, 2] rfl, hD.sub [0, 1, 2] (by decide) rfl⟩, hS.F ht⟩) hS.2.2 dR_walkDigits_9
def rm_c_isLetter_ok : Room := ({ frames := 0, cells := 0, slots := 0, locals := 0 } : Room)
set_option maxHeartbeats 4000000 in
set_option maxRecDepth 100000 in
theorem c_isLetter_ok (l : Launch) (dC : Nat → ClassId) (dI : Nat → Nat → Nat) (cI : ClassId) (cB : ClassId) (v : Nat) (hv : v < 256) (hL : isL v = true) (Hc : Heap) : Met l yR_isLetter wsR_isLetter rm_c_isLetter_ok (zR (dC, dI) [(cI, .int), (cB, .byte)] [.int (nI v)] [] Hc) (zRi Hc (fun r => r = nI 1)) 0 0 zNo := by
  refine Met.ofW (cc := cR_isLetter) (maxL := 1) (ret := (some .boolean)) (by decide) rfl ?_
  intro p e s m args below meth c s₁ Bd hml hv
  obtain ⟨rfl, hH, hG, hP, hK⟩ := hv
  subst hH
  have hx := Bd.exec
  have hb := Bd.bytes
  have hr := Bd.returns
  have hts := atoms_spec (ws := wsR_isLetter) Bd.pre
  have hw : ∀ w ∈ BIG, w.before _ s = true := fun w h => hts w (List.mem_cons_of_mem _ h)
  have hown : s.vm.findClass RR = some m.cls := findClass_of_methodNamed Bd.named
  have hlocks := Bd.notSynchronized
  have hS : va_S zNo s.heap s.heap [] := va_S.rf
  have hl := lv_entry ([.int (nI v)]) (n := 1) (Nat.le_of_ble_eq_true rfl)
  rw [lg_entry_eq]
  generalize (lg_sl ([.int (nI v)]) ++ List.replicate (1 - (lg_sl ([.int (nI v)])).length) Slot.unset).toArray = ls at hl ⊢
  have hl : lv_has ls 1 [(0, .int (nI v))] := hl
  refine zq_name (fun Q hQ => ?_)
  change W p l e rm_c_isLetter_ok s m _ below meth c _ _ _ _ Q _
  simp only [isL, Bool.or_eq_true, Bool.and_eq_true, decide_eq_true_eq] at hL
  refine lv_iload_n hx hb dR_isLetter_0 rfl (lv_at hl 0 rfl) ?_
  refine lv_bipush (v := nI 48) hx hb dR_isLetter_1 (by decide) ?_
  refine zi_lt (tgt := 12) hx hb (by omega) (by omega) dR_isLetter_3 (by decide) (fun c_3 => ?_) (fun c_3 => ?_)
  · refine lv_iload_n hx hb dR_isLetter_12 rfl (lv_at hl 0 rfl) ?_
    refine lv_bipush (v := nI 65) hx hb dR_isLetter_13 (by decide) ?_
    refine zi_lt (tgt := 28) hx hb (by omega) (by omega) dR_isLetter_15 (by decide) (fun c_15 => ?_) (fun c_15 => ?_)
    · refine lv_iconst (v := nI 0) hx hb dR_isLetter_28 (by decide) ?_
      subst hQ
      exact W.zret (v := nI 0) hx hb hr (by decide) (fun t ht hW => ⟨⟨nI 0, (), rfl, (by exfalso; omega), ht⟩, hS.F ht⟩) hS.2.2 dR_isLetter_29
    · refine lv_iload_n hx hb dR_isLetter_18 rfl (lv_at hl 0 rfl) ?_
      refine lv_bipush (v := nI 90) hx hb dR_isLetter_19 (by decide) ?_
      refine zi_gt (tgt := 28) hx hb (by omega) (by omega) dR_isLetter_21 (by decide) (fun c_21 => ?_) (fun c_21 => ?_)
      · refine lv_iconst (v := nI 0) hx hb dR_isLetter_28 (by decide) ?_
        subst hQ
        exact W.zret (v := nI 0) hx hb hr (by decide) (fun t ht hW => ⟨⟨nI 0, (), rfl, (by exfalso; omega), ht⟩, hS.F ht⟩) hS.2.2 dR_isLetter_29
      · refine lv_iconst (v := nI 1) hx hb dR_isLetter_24 (by decide) ?_
        refine lv_goto (tgt := 29) hx hb dR_isLetter_25 (by decide) ?_
        subst hQ
        exact W.zret (v := nI 1) hx hb hr (by decide) (fun t ht hW => ⟨⟨nI 1, (), rfl, rfl, ht⟩, hS.F ht⟩) hS.2.2 dR_isLetter_29
  · refine lv_iload_n hx hb dR_isLetter_6 rfl (lv_at hl 0 rfl) ?_
    refine lv_bipush (v := nI 57) hx hb dR_isLetter_7 (by decide) ?_
    refine zi_le (tgt := 24) hx hb (by omega) (by omega) dR_isLetter_9 (by decide) (fun c_9 => ?_) (fun c_9 => ?_)
    · refine lv_iconst (v := nI 1) hx hb dR_isLetter_24 (by decide) ?_
      refine lv_goto (tgt := 29) hx hb dR_isLetter_25 (by decide) ?_
      subst hQ
      exact W.zret (v := nI 1) hx hb hr (by decide) (fun t ht hW => ⟨⟨nI 1, (), rfl, rfl, ht⟩, hS.F ht⟩) hS.2.2 dR_isLetter_29
    · refine lv_iload_n hx hb dR_isLetter_12 rfl (lv_at hl 0 rfl) ?_
      refine lv_bipush (v := nI 65) hx hb dR_isLetter_13 (by decide) ?_
      refine zi_lt (tgt := 28) hx hb (by omega) (by omega) dR_isLetter_15 (by decide) (fun c_15 => ?_) (fun c_15 => ?_)
      · refine lv_iconst (v := nI 0) hx hb dR_isLetter_28 (by decide) ?_
        subst hQ
        exact W.zret (v := nI 0) hx hb hr (by decide) (fun t ht hW => ⟨⟨nI 0, (), rfl, (by exfalso; omega), ht⟩, hS.F ht⟩) hS.2.2 dR_isLetter_29
      · refine lv_iload_n hx hb dR_isLetter_18 rfl (lv_at hl 0 rfl) ?_
        refine lv_bipush (v := nI 90) hx hb dR_isLetter_19 (by decide) ?_
        refine zi_gt (tgt := 28) hx hb (by omega) (by omega) dR_isLetter_21 (by decide) (fun c_21 => ?_) (fun c_21 => ?_)
        · refine lv_iconst (v := nI 0) hx hb dR_isLetter_28 (by decide) ?_
          subst hQ
          exact W.zret (v := nI 0) hx hb hr (by decide) (fun t ht hW => ⟨⟨nI 0, (), rfl, (by exfalso; omega), ht⟩, hS.F ht⟩) hS.2.2 dR_isLetter_29
        · refine lv_iconst (v := nI 1) hx hb dR_isLetter_24 (by decide) ?_
          refine lv_goto (tgt := 29) hx hb dR_isLetter_25 (by decide) ?_
          subst hQ
          exact W.zret (v := nI 1) hx hb hr (by decide) (fun t ht hW => ⟨⟨nI 1, (), rfl, rfl, ht⟩, hS.F ht⟩) hS.2.2 dR_isLetter_29
def rm_c_isLetter_no : Room := ({ frames := 0, cells := 0, slots := 0, locals := 0 } : Room)
set_option maxHeartbeats 4000000 in
set_option maxRecDepth 100000 in
theorem c_isLetter_no (l : Launch) (dC : Nat → ClassId) (dI : Nat → Nat → Nat) (cI : ClassId) (cB : ClassId) (v : Nat) (hv : v < 256) (hL : isL v = false) (Hc : Heap) : Met l yR_isLetter wsR_isLetter rm_c_isLetter_no (zR (dC, dI) [(cI, .int), (cB, .byte)] [.int (nI v)] [] Hc) (zRi Hc (fun r => r = nI 0)) 0 0 zNo := by
  refine Met.ofW (cc := cR_isLetter) (maxL := 1) (ret := (some .boolean)) (by decide) rfl ?_
  intro p e s m args below meth c s₁ Bd hml hv
  obtain ⟨rfl, hH, hG, hP, hK⟩ := hv
  subst hH
  have hx := Bd.exec
  have hb := Bd.bytes
  have hr := Bd.returns
  have hts := atoms_spec (ws := wsR_isLetter) Bd.pre
  have hw : ∀ w ∈ BIG, w.before _ s = true := fun w h => hts w (List.mem_cons_of_mem _ h)
  have hown : s.vm.findClass RR = some m.cls := findClass_of_methodNamed Bd.named
  have hlocks := Bd.notSynchronized
  have hS : va_S zNo s.heap s.heap [] := va_S.rf
  have hl := lv_entry ([.int (nI v)]) (n := 1) (Nat.le_of_ble_eq_true rfl)
  rw [lg_entry_eq]
  generalize (lg_sl ([.int (nI v)]) ++ List.replicate (1 - (lg_sl ([.int (nI v)])).length) Slot.unset).toArray = ls at hl ⊢
  have hl : lv_has ls 1 [(0, .int (nI v))] := hl
  refine zq_name (fun Q hQ => ?_)
  change W p l e rm_c_isLetter_no s m _ below meth c _ _ _ _ Q _
  simp only [isL, Bool.or_eq_false_iff, Bool.and_eq_false_iff, decide_eq_false_iff_not] at hL
  refine lv_iload_n hx hb dR_isLetter_0 rfl (lv_at hl 0 rfl) ?_
  refine lv_bipush (v := nI 48) hx hb dR_isLetter_1 (by decide) ?_
  refine zi_lt (tgt := 12) hx hb (by omega) (by omega) dR_isLetter_3 (by decide) (fun c_3 => ?_) (fun c_3 => ?_)
  · refine lv_iload_n hx hb dR_isLetter_12 rfl (lv_at hl 0 rfl) ?_
    refine lv_bipush (v := nI 65) hx hb dR_isLetter_13 (by decide) ?_
    refine zi_lt (tgt := 28) hx hb (by omega) (by omega) dR_isLetter_15 (by decide) (fun c_15 => ?_) (fun c_15 => ?_)
    · refine lv_iconst (v := nI 0) hx hb dR_isLetter_28 (by decide) ?_
      subst hQ
      exact W.zret (v := nI 0) hx hb hr (by decide) (fun t ht hW => ⟨⟨nI 0, (), rfl, rfl, ht⟩, hS.F ht⟩) hS.2.2 dR_isLetter_29
    · refine lv_iload_n hx hb dR_isLetter_18 rfl (lv_at hl 0 rfl) ?_
      refine lv_bipush (v := nI 90) hx hb dR_isLetter_19 (by decide) ?_
      refine zi_gt (tgt := 28) hx hb (by omega) (by omega) dR_isLetter_21 (by decide) (fun c_21 => ?_) (fun c_21 => ?_)
      · refine lv_iconst (v := nI 0) hx hb dR_isLetter_28 (by decide) ?_
        subst hQ
        exact W.zret (v := nI 0) hx hb hr (by decide) (fun t ht hW => ⟨⟨nI 0, (), rfl, rfl, ht⟩, hS.F ht⟩) hS.2.2 dR_isLetter_29
      · refine lv_iconst (v := nI 1) hx hb dR_isLetter_24 (by decide) ?_
        refine lv_goto (tgt := 29) hx hb dR_isLetter_25 (by decide) ?_
        subst hQ
        exact W.zret (v := nI 1) hx hb hr (by decide) (fun t ht hW => ⟨⟨nI 1, (), rfl, (by exfalso; omega), ht⟩, hS.F ht⟩) hS.2.2 dR_isLetter_29
  · refine lv_iload_n hx hb dR_isLetter_6 rfl (lv_at hl 0 rfl) ?_
    refine lv_bipush (v := nI 57) hx hb dR_isLetter_7 (by decide) ?_
    refine zi_le (tgt := 24) hx hb (by omega) (by omega) dR_isLetter_9 (by decide) (fun c_9 => ?_) (fun c_9 => ?_)
    · refine lv_iconst (v := nI 1) hx hb dR_isLetter_24 (by decide) ?_
      refine lv_goto (tgt := 29) hx hb dR_isLetter_25 (by decide) ?_
      subst hQ
      exact W.zret (v := nI 1) hx hb hr (by decide) (fun t ht hW => ⟨⟨nI 1, (), rfl, (by exfalso; omega), ht⟩, hS.F ht⟩) hS.2.2 dR_isLetter_29
    · refine lv_iload_n hx hb dR_isLetter_12 rfl (lv_at hl 0 rfl) ?_
      refine lv_bipush (v := nI 65) hx hb dR_isLetter_13 (by decide) ?_
      refine zi_lt (tgt := 28) hx hb (by omega) (by omega) dR_isLetter_15 (by decide) (fun c_15 => ?_) (fun c_15 => ?_)
      · refine lv_iconst (v := nI 0) hx hb dR_isLetter_28 (by decide) ?_
        subst hQ
        exact W.zret (v := nI 0) hx hb hr (by decide) (fun t ht hW => ⟨⟨nI 0, (), rfl, rfl, ht⟩, hS.F ht⟩) hS.2.2 dR_isLetter_29
      · refine lv_iload_n hx hb dR_isLetter_18 rfl (lv_at hl 0 rfl) ?_
        refine lv_bipush (v := nI 90) hx hb dR_isLetter_19 (by decide) ?_
        refine zi_gt (tgt := 28) hx hb (by omega) (by omega) dR_isLetter_21 (by decide) (fun c_21 => ?_) (fun c_21 => ?_)
        · refine lv_iconst (v := nI 0) hx hb dR_isLetter_28 (by decide) ?_
          subst hQ
          exact W.zret (v := nI 0) hx hb hr (by decide) (fun t ht hW => ⟨⟨nI 0, (), rfl, rfl, ht⟩, hS.F ht⟩) hS.2.2 dR_isLetter_29
        · refine lv_iconst (v := nI 1) hx hb dR_isLetter_24 (by decide) ?_
          refine lv_goto (tgt := 29) hx hb dR_isLetter_25 (by decide) ?_
          subst hQ
          exact W.zret (v := nI 1) hx hb hr (by decide) (fun t ht hW => ⟨⟨nI 1, (), rfl, (by exfalso; omega), ht⟩, hS.F ht⟩) hS.2.2 dR_isLetter_29
def rm_c_walkLetters_ok : Room := ({ frames := 2, cells := 0, slots := 0, locals := 43 } : Room)
set_option maxHeartbeats 4000000 in
set_option maxRecDepth 100000 in
theorem c_walkLetters_ok (l : Launch) (dC : Nat → ClassId) (dI : Nat → Nat → Nat) (r0 : Nat) (f0 : Nat) (fk : Nat) (fp : Int32) (t0 : Nat) (nx : Nat) (lnb : Nat) (t1 : Nat) (len : Nat) (cI : ClassId) (cB : ClassId) (tp : Nat → Nat) (f1 : Nat) (f2 : Nat) (ty : Nat) (cnt : Nat → Nat) (mk : Nat → Nat) (sl : Nat) (ct : Nat) (hln : len ≤ 400) (hnl : nx ≤ len) (htp : ∀ j, tp j < 256) (hs : sl < 16) (hb : fFM sl + ct ≤ 208) (hc : ct < 100) (hd : ltF tp len nx ct = none) (sz : Nat) : Met l yR_walkLetters wsR_walkLetters rm_c_walkLetters_ok (zM (dC, dI) [(cI, .int), (cB, .byte)] [.ref r0, .int (nI sl), .int (nI ct)] [(r0, .inr (1, [.ref f0, .int (nI fk), .int fp, .ref t0, .int (nI nx), .int (nI lnb)])), (t0, .inr (2, [.ref t1, .int (nI len)])), (t1, .inl (cB, 400, .inl (aB tp))), (f0, .inr (0, [.int (nI ty), .ref f1, .ref f2])), (f1, .inl (cI, 16, .inl (aN cnt))), (f2, .inl (cB, 208, .inl (aN mk)))] sz) (zMi (dC, dI) [(r0, .inr (1, [.ref f0, .int (nI fk), .int fp, .ref t0, .int (nI nx), .int (nI lnb)])), (t0, .inr (2, [.ref t1, .int (nI len)])), (t1, .inl (cB, 400, .inl (aB tp))), (f0, .inr (0, [.int (nI ty), .ref f1, .ref f2])), (f1, .inl (cI, 16, .inl (aN cnt))), (f2, .inl (cB, 208, .inl (aN mk)))] [(r0, .inr (1, [.ref f0, .int (nI fk), .int fp, .ref t0, .int (nI (nx + ct)), .int (nI lnb)])), (t0, .inr (2, [.ref t1, .int (nI len)])), (t1, .inl (cB, 400, .inl (aB tp))), (f0, .inr (0, [.int (nI ty), .ref f1, .ref f2])), (f1, .inl (cI, 16, .inl (aN (nup cnt sl ct)))), (f2, .inl (cB, 208, .inl (aN (ltC tp nx (fFM sl) ct 0 mk))))] sz (fun r => r = nI 1)) 0 0 (va_A [(r0, .inr (1, [.ref f0, .int (nI fk), .int fp, .ref t0, .int (nI nx), .int (nI lnb)])), (t0, .inr (2, [.ref t1, .int (nI len)])), (t1, .inl (cB, 400, .inl (aB tp))), (f0, .inr (0, [.int (nI ty), .ref f1, .ref f2])), (f1, .inl (cI, 16, .inl (aN cnt))), (f2, .inl (cB, 208, .inl (aN mk)))] sz) := by
  refine Met.ofW (cc := cR_walkLetters) (maxL := 5) (ret := (some .boolean)) (by decide) rfl ?_
  intro p e s m args below meth c s₁ Bd hml hv
  obtain ⟨rfl, hsz, hG, hP, hK, hD0⟩ := hv
  subst hsz
  have hx := Bd.exec
  have hb := Bd.bytes
  have hr := Bd.returns
  have hts := atoms_spec (ws := wsR_walkLetters) Bd.pre
  have hw : ∀ w ∈ BIG, w.before _ s = true := fun w h => hts w (List.mem_cons_of_mem _ h)
  have hown : s.vm.findClass RR = some m.cls := findClass_of_methodNamed Bd.named
  have hlocks := Bd.notSynchronized
  have hD := hD0.self (sz := s.heap.size)
  obtain ⟨A, hAe⟩ : ∃ A, A = va_A [(r0, .inr (1, [.ref f0, .int (nI fk), .int fp, .ref t0, .int (nI nx), .int (nI lnb)])), (t0, .inr (2, [.ref t1, .int (nI len)])), (t1, .inl (cB, 400, .inl (aB tp))), (f0, .inr (0, [.int (nI ty), .ref f1, .ref f2])), (f1, .inl (cI, 16, .inl (aN cnt))), (f2, .inl (cB, 208, .inl (aN mk)))] s.heap.size := ⟨_, rfl⟩
  have hA : ∀ q : Nat, s.heap.size ≤ q → A q := fun q h => by rw [hAe]; exact Or.inr h
  rw [← hAe] at hG hD
  have hS : va_S A s.heap s.heap [] := va_S.rf
  have hl := lv_entry ([.ref r0, .int (nI sl), .int (nI ct)]) (n := 5) (Nat.le_of_ble_eq_true rfl)
  rw [lg_entry_eq]
  generalize (lg_sl ([.ref r0, .int (nI sl), .int (nI ct)]) ++ List.replicate (5 - (lg_sl ([.ref r0, .int (nI sl), .int (nI ct)])).length) Slot.unset).toArray = ls at hl ⊢
  have hl : lv_has ls 5 [(0, .ref r0), (1, .int (nI sl)), (2, .int (nI ct))] := hl
  refine zq_name (fun Q hQ => ?_)
  change W p l e rm_c_walkLetters_ok s m _ below meth c _ _ _ _ Q _
  have hs9 := ltF_fit hd
  have hd := ltF_ok hd
  refine lv_aload_n hx hb dR_walkLetters_0 rfl (lv_at hl 0 rfl) ?_
  refine lv_iload_n hx hb dR_walkLetters_1 rfl (lv_at hl 2 rfl) ?_
  refine zc_Ri (va_runV (As := [.int (nI ct)]) (rest := []) ⟨hx, hb, hml, hown, hw⟩ (c_reaches_ok l dC dI r0 f0 fk fp t0 nx lnb t1 len cI cB ct (by omega) (by omega) (by omega) s.heap) (cwV 1 hw (gV w_ml_R_79 w_im_R_reaches w_se_R_reaches w_in_R w_co_R_reaches) rfl rfl rfl (by decide +kernel) ⟨Nat.le_of_ble_eq_true rfl, Nat.le_of_ble_eq_true rfl⟩) (zR_V hG hS (hP.sub (ws' := [(r0, .inr (1, [.ref f0, .int (nI fk), .int fp, .ref t0, .int (nI nx), .int (nI lnb)])), (t0, .inr (2, [.ref t1, .int (nI len)]))]) [0, 1] rfl) hK 0 rfl rfl) rfl rfl hl.1 rfl (lv_room (Nat.le_of_ble_eq_true rfl)) dR_walkLetters_2 ⟨Nat.le_of_ble_eq_true rfl, Nat.le_of_ble_eq_true rfl⟩) hS (fun r_1 locs h_2 hS => ?_)
  subst h_2
  refine lv_if_ne (tgt := 10) hx hb dR_walkLetters_5 (by decide) (fun c_5 => ?_) (fun q => False.elim (absurd q (by decide)))
  refine lv_iconst (v := nI 0) hx hb dR_walkLetters_10 (by decide) ?_
  refine lv_istore_n (lv' := [(3, .int (nI 0)), (0, .ref r0), (1, .int (nI sl)), (2, .int (nI ct))]) hx hb dR_walkLetters_11 rfl hl (by decide) rfl (fun ls hl => ?_)
  have lp_12 : ∀ (fu : Nat) (k : Nat) (f : Nat → Nat) (hk : k ≤ ct) (hi : ltL tp (ct - k) (nx + k) = none) (hj : ltC tp nx (fFM sl) (ct - k) k f = ltC tp nx (fFM sl) ct 0 mk) (hms : ct - k < fu) (H : Heap) (locs : List Loc) (ls : Array Slot), lv_has ls 5 [(0, .ref r0), (1, .int (nI sl)), (2, .int (nI ct)), (3, .int (nI k))] → va_P (dC, dI) vwCl [(r0, .inr (1, [.ref f0, .int (nI fk), .int fp, .ref t0, .int (nI nx), .int (nI lnb)])), (t0, .inr (2, [.ref t1, .int (nI len)])), (t1, .inl (cB, 400, .inl (aB tp))), (f0, .inr (0, [.int (nI ty), .ref f1, .ref f2])), (f1, .inl (cI, 16, .inl (aN cnt))), (f2, .inl (cB, 208, .inl (aN f)))] H → va_D A [(r0, .inr (1, [.ref f0, .int (nI fk), .int fp, .ref t0, .int (nI nx), .int (nI lnb)])), (t0, .inr (2, [.ref t1, .int (nI len)])), (t1, .inl (cB, 400, .inl (aB tp))), (f0, .inr (0, [.int (nI ty), .ref f1, .ref f2])), (f1, .inl (cI, 16, .inl (aN cnt))), (f2, .inl (cB, 208, .inl (aN f)))] → va_S A s.heap H locs → W p l e rm_c_walkLetters_ok s m ([.ref r0, .int (nI sl), .int (nI ct)] : List Value).toArray below meth c H locs 0 0 Q (F0 m 12 ls []) := by
    intro fu
    induction fu with
    | zero => intro k f hk hi hj hms; exact absurd hms (Nat.not_lt_zero _)
    | succ fu ih12 =>
      intro k f hk hi hj hms H locs ls hl hP hD hS
      refine lv_iload_n hx hb dR_walkLetters_12 rfl (lv_at hl 3 rfl) ?_
      refine lv_iload_n hx hb dR_walkLetters_13 rfl (lv_at hl 2 rfl) ?_
      refine zi_ge (tgt := 70) hx hb (by omega) (by omega) dR_walkLetters_14 (by decide) (fun c_14 => ?_) (fun c_14 => ?_)
      · rw [show ct - k = 0 by omega] at hj
        have hj : f = ltC tp nx (fFM sl) ct 0 mk := hj
        subst hj
        refine lv_aload_n hx hb dR_walkLetters_70 rfl (lv_at hl 0 rfl) ?_
        refine va_get (D := (dC, dI)) (ci := 1) (v := .ref f0) (C := RR) (T := TR) (N := 6) hx hb hw inR hown hK hP 0 rfl rfl 0 (by decide) (hw _ w_fl_R_12) (fun _ h9 => h9) rfl dR_walkLetters_71 ?_
        refine va_get (D := (dC, dI)) (ci := 0) (v := .ref f1) (C := RD) (T := TD) (N := 3) hx hb hw inD hown hK hP 3 rfl rfl 1 (by decide) (hw _ w_fl_R_117) (fun _ h9 => h9) rfl dR_walkLetters_74 ?_
        refine lv_iload_n hx hb dR_walkLetters_77 rfl (lv_at hl 1 rfl) ?_
        refine lv_iload_n hx hb dR_walkLetters_78 rfl (lv_at hl 2 rfl) ?_
        refine za_ist hx hb hK hP hD hS 4 0 rfl rfl (by omega) (by decide) dR_walkLetters_79 (fun H locs hP hD hS => ?_)
        have hP : va_P (dC, dI) vwCl [(r0, .inr (1, [.ref f0, .int (nI fk), .int fp, .ref t0, .int (nI nx), .int (nI lnb)])), (t0, .inr (2, [.ref t1, .int (nI len)])), (t1, .inl (cB, 400, .inl (aB tp))), (f0, .inr (0, [.int (nI ty), .ref f1, .ref f2])), (f1, .inl (cI, 16, .inl (aN (nup cnt sl ct)))), (f2, .inl (cB, 208, .inl (aN (ltC tp nx (fFM sl) ct 0 mk))))] H := hP
        have hD : va_D A [(r0, .inr (1, [.ref f0, .int (nI fk), .int fp, .ref t0, .int (nI nx), .int (nI lnb)])), (t0, .inr (2, [.ref t1, .int (nI len)])), (t1, .inl (cB, 400, .inl (aB tp))), (f0, .inr (0, [.int (nI ty), .ref f1, .ref f2])), (f1, .inl (cI, 16, .inl (aN (nup cnt sl ct)))), (f2, .inl (cB, 208, .inl (aN (ltC tp nx (fFM sl) ct 0 mk))))] := hD
        refine lv_aload_n hx hb dR_walkLetters_80 rfl (lv_at hl 0 rfl) ?_
        refine lv_dup hx hb dR_walkLetters_81 rfl ?_
        refine va_get (D := (dC, dI)) (ci := 1) (v := .int (nI nx)) (C := RR) (T := TR) (N := 6) hx hb hw inR hown hK hP 0 rfl rfl 4 (by decide) (hw _ w_fl_R_25) (fun _ h9 => h9) rfl dR_walkLetters_82 ?_
        refine lv_iload_n hx hb dR_walkLetters_85 rfl (lv_at hl 2 rfl) ?_
        refine zi_add hx hb dR_walkLetters_86 ?_
        refine va_put (D := (dC, dI)) (ci := 1) (v := .int (nI (nx + ct))) (ty := .int) (C := RR) (T := TR) (N := 6) hx hb hw inR tyR tyR_ok nmR hown hK hP hD hS 0 rfl rfl 4 (by decide) (hw _ w_fl_R_25) (fun _ h9 => h9) rfl (by decide +kernel) rfl rfl (Nat.le_of_ble_eq_true rfl) dR_walkLetters_87 (fun H locs hP hD hS => ?_)
        have hP : va_P (dC, dI) vwCl [(r0, .inr (1, [.ref f0, .int (nI fk), .int fp, .ref t0, .int (nI (nx + ct)), .int (nI lnb)])), (t0, .inr (2, [.ref t1, .int (nI len)])), (t1, .inl (cB, 400, .inl (aB tp))), (f0, .inr (0, [.int (nI ty), .ref f1, .ref f2])), (f1, .inl (cI, 16, .inl (aN (nup cnt sl ct)))), (f2, .inl (cB, 208, .inl (aN (ltC tp nx (fFM sl) ct 0 mk))))] H := hP
        have hD : va_D A [(r0, .inr (1, [.ref f0, .int (nI fk), .int fp, .ref t0, .int (nI (nx + ct)), .int (nI lnb)])), (t0, .inr (2, [.ref t1, .int (nI len)])), (t1, .inl (cB, 400, .inl (aB tp))), (f0, .inr (0, [.int (nI ty), .ref f1, .ref f2])), (f1, .inl (cI, 16, .inl (aN (nup cnt sl ct)))), (f2, .inl (cB, 208, .inl (aN (ltC tp nx (fFM sl) ct 0 mk))))] := hD
        refine lv_iconst (v := nI 1) hx hb dR_walkLetters_90 (by decide) ?_
        subst hAe
        subst hQ
        exact W.zret (v := nI 1) hx hb hr (by decide) (fun t ht hW => ⟨⟨nI 1, (), rfl, rfl, by rw [ht]; exact hP.sub [0, 1, 2, 3, 4, 5] rfl, hD.sub [0, 1, 2, 3, 4, 5] (by decide) rfl⟩, hS.F ht⟩) hS.2.2 dR_walkLetters_91
      · have hL : isL (tp (nx + k)) = true := by
          have h9 := hi; rw [show ct - k = ct - (k + 1) + 1 by omega] at h9; unfold ltL at h9
          cases hq : isL (tp (nx + k)) with
          | true => rfl
          | false => rw [hq] at h9; cases h9
        have ht9 := htp (nx + k)
        have hL9 := isL_lt hL
        refine lv_aload_n hx hb dR_walkLetters_17 rfl (lv_at hl 0 rfl) ?_
        refine va_get (D := (dC, dI)) (ci := 1) (v := .ref t0) (C := RR) (T := TR) (N := 6) hx hb hw inR hown hK hP 0 rfl rfl 3 (by decide) (hw _ w_fl_R_31) (fun _ h9 => h9) rfl dR_walkLetters_18 ?_
        refine lv_aload_n hx hb dR_walkLetters_21 rfl (lv_at hl 0 rfl) ?_
        refine va_get (D := (dC, dI)) (ci := 1) (v := .int (nI nx)) (C := RR) (T := TR) (N := 6) hx hb hw inR hown hK hP 0 rfl rfl 4 (by decide) (hw _ w_fl_R_25) (fun _ h9 => h9) rfl dR_walkLetters_22 ?_
        refine lv_iload_n hx hb dR_walkLetters_25 rfl (lv_at hl 3 rfl) ?_
        refine zi_add hx hb dR_walkLetters_26 ?_
        refine zc_Ri (va_runV (As := [.int (nI (nx + k))]) (rest := []) ⟨hx, hb, hml, hown, hw⟩ (c_T_byteAt l dC dI t0 t1 len cI cB tp (nx + k) (by omega) (htp _) H) (cwV 1 hw (gV w_ml_R_50 w_im_T_byteAt w_se_T_byteAt w_in_T w_co_T_byteAt) rfl rfl rfl (by decide +kernel) ⟨Nat.le_of_ble_eq_true rfl, Nat.le_of_ble_eq_true rfl⟩) (zR_V hG hS (hP.sub (ws' := [(t0, .inr (2, [.ref t1, .int (nI len)])), (t1, .inl (cB, 400, .inl (aB tp)))]) [1, 2] rfl) hK 0 rfl rfl) rfl rfl hl.1 rfl (lv_room (Nat.le_of_ble_eq_true rfl)) dR_walkLetters_27 ⟨Nat.le_of_ble_eq_true rfl, Nat.le_of_ble_eq_true rfl⟩) hS (fun r_2 locs h_27 hS => ?_)
        subst h_27
        refine lv_istore (lv' := [(4, .int (nI (tp (nx + k)))), (0, .ref r0), (1, .int (nI sl)), (2, .int (nI ct)), (3, .int (nI k))]) hx hb dR_walkLetters_30 hl (by decide) rfl (fun ls hl => ?_)
        refine lv_iload hx hb dR_walkLetters_32 (lv_at hl 0 rfl) ?_
        refine zc_Ri (va_runS (As := [.int (nI (tp (nx + k)))]) (rest := []) ⟨hx, hb, hml, hown, hw⟩ (c_isLetter_ok l dC dI cI cB (tp (nx + k)) (htp _) hL H) (va_cwS 1 hw (gSt w_ml_R_120 w_st_R_isLetter w_in_R w_co_R_isLetter) rfl rfl rfl (by decide +kernel) ⟨Nat.le_of_ble_eq_true rfl, Nat.le_of_ble_eq_true rfl⟩) (zR_S hG hS (hP.sub (ws' := []) [] rfl) hK) rfl rfl hl.1 rfl (lv_room (Nat.le_of_ble_eq_true rfl)) dR_walkLetters_34 ⟨Nat.le_of_ble_eq_true rfl, Nat.le_of_ble_eq_true rfl⟩) hS (fun r_3 locs h_34 hS => ?_)
        subst h_34
        refine lv_if_ne (tgt := 53) hx hb dR_walkLetters_37 (by decide) (fun c_37 => ?_) (fun q => False.elim (absurd q (by decide)))
        refine lv_aload_n hx hb dR_walkLetters_53 rfl (lv_at hl 1 rfl) ?_
        refine va_get (D := (dC, dI)) (ci := 1) (v := .ref f0) (C := RR) (T := TR) (N := 6) hx hb hw inR hown hK hP 0 rfl rfl 0 (by decide) (hw _ w_fl_R_12) (fun _ h9 => h9) rfl dR_walkLetters_54 ?_
        refine lv_iload_n hx hb dR_walkLetters_57 rfl (lv_at hl 2 rfl) ?_
        refine lv_iload_n hx hb dR_walkLetters_58 rfl (lv_at hl 4 rfl) ?_
        refine lv_iload hx hb dR_walkLetters_59 (lv_at hl 0 rfl) ?_
        have hPc := hP.sub (ws' := [(f0, .inr (0, [.int (nI ty), .ref f1, .ref f2])), (f2, .inl (cB, 208, .inl (aN f)))]) [3, 5] rfl
        have hDc := hD.sub (ws' := [(f0, .inr (0, [.int (nI ty), .ref f1, .ref f2])), (f2, .inl (cB, 208, .inl (aN f)))]) [3, 5] (by decide) rfl
        have hFc := va_free (wc := [(f0, .inr (0, [.int (nI ty), .ref f1, .ref f2])), (f2, .inl (cB, 208, .inl (aN f)))]) hD hS hA [3, 5] rfl
        refine zc_Mv (va_runV (As := [.int (nI sl), .int (nI k), .int (nI (tp (nx + k)))]) (rest := []) ⟨hx, hb, hml, hown, hw⟩ (c_D_setMark l dC dI f0 f1 f2 cI cB ty f sl k (tp (nx + k)) (by omega) (by omega) (by omega) H.size) (cwV 3 hw (gV w_ml_R_113 w_im_D_setMark w_se_D_setMark w_in_D w_co_D_setMark) rfl rfl rfl (by decide +kernel) ⟨Nat.le_of_ble_eq_true rfl, Nat.le_of_ble_eq_true rfl⟩) (zM_V hG hS hFc hPc hDc hK 0 rfl rfl) rfl rfl hl.1 rfl (lv_room (Nat.le_of_ble_eq_true rfl)) dR_walkLetters_61 ⟨Nat.le_of_ble_eq_true rfl, Nat.le_of_ble_eq_true rfl⟩) hS hFc (fun H locs h_61 hP1 hD1 hk1 hS => ?_)
        obtain ⟨hP, hD⟩ := va_join (wr := [(r0, .inr (1, [.ref f0, .int (nI fk), .int fp, .ref t0, .int (nI nx), .int (nI lnb)])), (t0, .inr (2, [.ref t1, .int (nI len)])), (t1, .inl (cB, 400, .inl (aB tp))), (f1, .inl (cI, 16, .inl (aN cnt)))]) (w1 := [(f0, .inr (0, [.int (nI ty), .ref f1, .ref f2])), (f2, .inl (cB, 208, .inl (aN (nup f (fFM sl + k) (tp (nx + k))))))]) hP hD [3, 5] [0, 1, 2, 4] rfl rfl (by decide) (by decide) hk1 hFc hP1 hD1
        have hP : va_P (dC, dI) vwCl [(r0, .inr (1, [.ref f0, .int (nI fk), .int fp, .ref t0, .int (nI nx), .int (nI lnb)])), (t0, .inr (2, [.ref t1, .int (nI len)])), (t1, .inl (cB, 400, .inl (aB tp))), (f1, .inl (cI, 16, .inl (aN cnt))), (f0, .inr (0, [.int (nI ty), .ref f1, .ref f2])), (f2, .inl (cB, 208, .inl (aN (nup f (fFM sl + k) (tp (nx + k))))))] H := hP
        have hD : va_D A [(r0, .inr (1, [.ref f0, .int (nI fk), .int fp, .ref t0, .int (nI nx), .int (nI lnb)])), (t0, .inr (2, [.ref t1, .int (nI len)])), (t1, .inl (cB, 400, .inl (aB tp))), (f1, .inl (cI, 16, .inl (aN cnt))), (f0, .inr (0, [.int (nI ty), .ref f1, .ref f2])), (f2, .inl (cB, 208, .inl (aN (nup f (fFM sl + k) (tp (nx + k))))))] := hD
        refine lv_iinc (v := nI (k + 1)) (lv' := [(3, .int (nI (k + 1))), (4, .int (nI (tp (nx + k)))), (0, .ref r0), (1, .int (nI sl)), (2, .int (nI ct))]) hx hb dR_walkLetters_64 hl (k := 4) rfl (zi_incr k 1) (by decide) rfl (fun ls hl => ?_)
        refine lv_goto (tgt := 12) hx hb dR_walkLetters_67 (by decide) ?_
        exact ih12 (k + 1) (nup f (fFM sl + k) (tp (nx + k))) (by omega) (by have h9 := hi; rw [show ct - k = ct - (k + 1) + 1 by omega] at h9; unfold ltL at h9; rw [if_pos hL] at h9; exact h9) (by have h9 := hj; rw [show ct - k = ct - (k + 1) + 1 by omega] at h9; exact h9) (by omega) _ _ _ (lv_sub hl [2, 3, 4, 0] rfl) (hP.sub [0, 1, 2, 4, 3, 5] rfl) (hD.sub [0, 1, 2, 4, 3, 5] (by decide) rfl) hS
  exact lp_12 ((ct - 0) + 1) 0 mk (by omega) hd rfl (Nat.lt_succ_self _) _ _ _ (lv_sub hl [1, 2, 3, 0] rfl) (hP.sub [0, 1, 2, 3, 4, 5] rfl) (hD.sub [0, 1, 2, 3, 4, 5] (by decide) rfl) hS
def rm_c_walkLetters_no : Room := ({ frames := 2, cells := 0, slots := 0, locals := 43 } : Room)
set_option maxHeartbeats 4000000 in
set_option maxRecDepth 100000 in
theorem c_walkLetters_no (l : Launch) (dC : Nat → ClassId) (dI : Nat → Nat → Nat) (r0 : Nat) (f0 : Nat) (fk : Nat) (fp : Int32) (t0 : Nat) (nx : Nat) (lnb : Nat) (t1 : Nat) (len : Nat) (cI : ClassId) (cB : ClassId) (tp : Nat → Nat) (f1 : Nat) (f2 : Nat) (ty : Nat) (cnt : Nat → Nat) (mk : Nat → Nat) (sl : Nat) (ct : Nat) (k2 : Nat) (p2 : Nat) (hln : len ≤ 400) (hnl : nx ≤ len) (htp : ∀ j, tp j < 256) (hs : sl < 16) (hb : fFM sl + ct ≤ 208) (hc : ct < 100) (hm : ∀ j, mk j < 128) (hd : ltF tp len nx ct = some (k2, p2)) (sz : Nat) : Met l yR_walkLetters wsR_walkLetters rm_c_walkLetters_no (zM (dC, dI) [(cI, .int), (cB, .byte)] [.ref r0, .int (nI sl), .int (nI ct)] [(r0, .inr (1, [.ref f0, .int (nI fk), .int fp, .ref t0, .int (nI nx), .int (nI lnb)])), (t0, .inr (2, [.ref t1, .int (nI len)])), (t1, .inl (cB, 400, .inl (aB tp))), (f0, .inr (0, [.int (nI ty), .ref f1, .ref f2])), (f1, .inl (cI, 16, .inl (aN cnt))), (f2, .inl (cB, 208, .inl (aN mk)))] sz) (zSi (dC, dI) [(r0, .inr (1, [.ref f0, .int (nI fk), .int fp, .ref t0, .int (nI nx), .int (nI lnb)])), (t0, .inr (2, [.ref t1, .int (nI len)])), (t1, .inl (cB, 400, .inl (aB tp))), (f0, .inr (0, [.int (nI ty), .ref f1, .ref f2])), (f1, .inl (cI, 16, .inl (aN cnt))), (f2, .inl (cB, 208, .inl (aN mk)))] sz (fun r (u : Nat → Nat) => r = nI 0 ∧ ∀ j, u j < 128) (fun u => [(r0, .inr (1, [.ref f0, .int (nI k2), .int (nI p2), .ref t0, .int (nI nx), .int (nI lnb)])), (t0, .inr (2, [.ref t1, .int (nI len)])), (t1, .inl (cB, 400, .inl (aB tp))), (f0, .inr (0, [.int (nI ty), .ref f1, .ref f2])), (f1, .inl (cI, 16, .inl (aN cnt))), (f2, .inl (cB, 208, .inl (aN u)))])) 0 0 (va_A [(r0, .inr (1, [.ref f0, .int (nI fk), .int fp, .ref t0, .int (nI nx), .int (nI lnb)])), (t0, .inr (2, [.ref t1, .int (nI len)])), (t1, .inl (cB, 400, .inl (aB tp))), (f0, .inr (0, [.int (nI ty), .ref f1, .ref f2])), (f1, .inl (cI, 16, .inl (aN cnt))), (f2, .inl (cB, 208, .inl (aN mk)))] sz) := by
  refine Met.ofW (cc := cR_walkLetters) (maxL := 5) (ret := (some .boolean)) (by decide) rfl ?_
  intro p e s m args below meth c s₁ Bd hml hv
  obtain ⟨rfl, hsz, hG, hP, hK, hD0⟩ := hv
  subst hsz
  have hx := Bd.exec
  have hb := Bd.bytes
  have hr := Bd.returns
  have hts := atoms_spec (ws := wsR_walkLetters) Bd.pre
  have hw : ∀ w ∈ BIG, w.before _ s = true := fun w h => hts w (List.mem_cons_of_mem _ h)
  have hown : s.vm.findClass RR = some m.cls := findClass_of_methodNamed Bd.named
  have hlocks := Bd.notSynchronized
  have hD := hD0.self (sz := s.heap.size)
  obtain ⟨A, hAe⟩ : ∃ A, A = va_A [(r0, .inr (1, [.ref f0, .int (nI fk), .int fp, .ref t0, .int (nI nx), .int (nI lnb)])), (t0, .inr (2, [.ref t1, .int (nI len)])), (t1, .inl (cB, 400, .inl (aB tp))), (f0, .inr (0, [.int (nI ty), .ref f1, .ref f2])), (f1, .inl (cI, 16, .inl (aN cnt))), (f2, .inl (cB, 208, .inl (aN mk)))] s.heap.size := ⟨_, rfl⟩
  have hA : ∀ q : Nat, s.heap.size ≤ q → A q := fun q h => by rw [hAe]; exact Or.inr h
  rw [← hAe] at hG hD
  have hS : va_S A s.heap s.heap [] := va_S.rf
  have hl := lv_entry ([.ref r0, .int (nI sl), .int (nI ct)]) (n := 5) (Nat.le_of_ble_eq_true rfl)
  rw [lg_entry_eq]
  generalize (lg_sl ([.ref r0, .int (nI sl), .int (nI ct)]) ++ List.replicate (5 - (lg_sl ([.ref r0, .int (nI sl), .int (nI ct)])).length) Slot.unset).toArray = ls at hl ⊢
  have hl : lv_has ls 5 [(0, .ref r0), (1, .int (nI sl)), (2, .int (nI ct))] := hl
  refine zq_name (fun Q hQ => ?_)
  change W p l e rm_c_walkLetters_no s m _ below meth c _ _ _ _ Q _
  by_cases hq : len < nx + ct
  · unfold ltF at hd
    rw [if_pos hq] at hd
    cases hd
    refine lv_aload_n hx hb dR_walkLetters_0 rfl (lv_at hl 0 rfl) ?_
    refine lv_iload_n hx hb dR_walkLetters_1 rfl (lv_at hl 2 rfl) ?_
    have hPc := hP.sub (ws' := [(r0, .inr (1, [.ref f0, .int (nI fk), .int fp, .ref t0, .int (nI nx), .int (nI lnb)])), (t0, .inr (2, [.ref t1, .int (nI len)]))]) [0, 1] rfl
    have hDc := hD.sub (ws' := [(r0, .inr (1, [.ref f0, .int (nI fk), .int fp, .ref t0, .int (nI nx), .int (nI lnb)])), (t0, .inr (2, [.ref t1, .int (nI len)]))]) [0, 1] (by decide) rfl
    have hFc := va_free (wc := [(r0, .inr (1, [.ref f0, .int (nI fk), .int fp, .ref t0, .int (nI nx), .int (nI lnb)])), (t0, .inr (2, [.ref t1, .int (nI len)]))]) hD hS hA [0, 1] rfl
    refine zc_Mi (va_runV (As := [.int (nI ct)]) (rest := []) ⟨hx, hb, hml, hown, hw⟩ (c_reaches_no l dC dI r0 f0 fk fp t0 nx lnb t1 len cI cB ct (by omega) (by omega) (by omega) (by omega) s.heap.size) (cwV 1 hw (gV w_ml_R_79 w_im_R_reaches w_se_R_reaches w_in_R w_co_R_reaches) rfl rfl rfl (by decide +kernel) ⟨Nat.le_of_ble_eq_true rfl, Nat.le_of_ble_eq_true rfl⟩) (zM_V hG hS hFc hPc hDc hK 0 rfl rfl) rfl rfl hl.1 rfl (lv_room (Nat.le_of_ble_eq_true rfl)) dR_walkLetters_2 ⟨Nat.le_of_ble_eq_true rfl, Nat.le_of_ble_eq_true rfl⟩) hS hFc (fun r_1 H locs h_2 hP1 hD1 hk1 hS => ?_)
    obtain ⟨hP, hD⟩ := va_join (wr := [(t1, .inl (cB, 400, .inl (aB tp))), (f0, .inr (0, [.int (nI ty), .ref f1, .ref f2])), (f1, .inl (cI, 16, .inl (aN cnt))), (f2, .inl (cB, 208, .inl (aN mk)))]) (w1 := [(r0, .inr (1, [.ref f0, .int (nI 1), .int (nI len), .ref t0, .int (nI nx), .int (nI lnb)])), (t0, .inr (2, [.ref t1, .int (nI len)]))]) hP hD [0, 1] [2, 3, 4, 5] rfl rfl (by decide) (by decide) hk1 hFc hP1 hD1
    have hP : va_P (dC, dI) vwCl [(t1, .inl (cB, 400, .inl (aB tp))), (f0, .inr (0, [.int (nI ty), .ref f1, .ref f2])), (f1, .inl (cI, 16, .inl (aN cnt))), (f2, .inl (cB, 208, .inl (aN mk))), (r0, .inr (1, [.ref f0, .int (nI 1), .int (nI len), .ref t0, .int (nI nx), .int (nI lnb)])), (t0, .inr (2, [.ref t1, .int (nI len)]))] H := hP
    have hD : va_D A [(t1, .inl (cB, 400, .inl (aB tp))), (f0, .inr (0, [.int (nI ty), .ref f1, .ref f2])), (f1, .inl (cI, 16, .inl (aN cnt))), (f2, .inl (cB, 208, .inl (aN mk))), (r0, .inr (1, [.ref f0, .int (nI 1), .int (nI len), .ref t0, .int (nI nx), .int (nI lnb)])), (t0, .inr (2, [.ref t1, .int (nI len)]))] := hD
    subst h_2
    refine lv_if_ne (tgt := 10) hx hb dR_walkLetters_5 (by decide) (fun q => False.elim (absurd q (by decide))) (fun c_5 => ?_)
    refine lv_iconst (v := nI 0) hx hb dR_walkLetters_8 (by decide) ?_
    subst hAe
    subst hQ
    exact W.zret (v := nI 0) hx hb hr (by decide) (fun t ht hW => ⟨⟨nI 0, mk, rfl, ⟨rfl, hm⟩, by rw [ht]; exact hP.sub [4, 5, 0, 1, 2, 3] rfl, hD.sub [4, 5, 0, 1, 2, 3] (by decide) rfl⟩, hS.F ht⟩) hS.2.2 dR_walkLetters_9
  · unfold ltF at hd
    rw [if_neg hq] at hd
    refine lv_aload_n hx hb dR_walkLetters_0 rfl (lv_at hl 0 rfl) ?_
    refine lv_iload_n hx hb dR_walkLetters_1 rfl (lv_at hl 2 rfl) ?_
    refine zc_Ri (va_runV (As := [.int (nI ct)]) (rest := []) ⟨hx, hb, hml, hown, hw⟩ (c_reaches_ok l dC dI r0 f0 fk fp t0 nx lnb t1 len cI cB ct (by omega) (by omega) (by omega) s.heap) (cwV 1 hw (gV w_ml_R_79 w_im_R_reaches w_se_R_reaches w_in_R w_co_R_reaches) rfl rfl rfl (by decide +kernel) ⟨Nat.le_of_ble_eq_true rfl, Nat.le_of_ble_eq_true rfl⟩) (zR_V hG hS (hP.sub (ws' := [(r0, .inr (1, [.ref f0, .int (nI fk), .int fp, .ref t0, .int (nI nx), .int (nI lnb)])), (t0, .inr (2, [.ref t1, .int (nI len)]))]) [0, 1] rfl) hK 0 rfl rfl) rfl rfl hl.1 rfl (lv_room (Nat.le_of_ble_eq_true rfl)) dR_walkLetters_2 ⟨Nat.le_of_ble_eq_true rfl, Nat.le_of_ble_eq_true rfl⟩) hS (fun r_2 locs h_2 hS => ?_)
    subst h_2
    refine lv_if_ne (tgt := 10) hx hb dR_walkLetters_5 (by decide) (fun c_5 => ?_) (fun q => False.elim (absurd q (by decide)))
    refine lv_iconst (v := nI 0) hx hb dR_walkLetters_10 (by decide) ?_
    refine lv_istore_n (lv' := [(3, .int (nI 0)), (0, .ref r0), (1, .int (nI sl)), (2, .int (nI ct))]) hx hb dR_walkLetters_11 rfl hl (by decide) rfl (fun ls hl => ?_)
    have lp_12 : ∀ (fu : Nat) (k : Nat) (f : Nat → Nat) (hk : k ≤ ct) (hi : ltL tp (ct - k) (nx + k) = some (k2, p2)) (hf9 : ∀ j, f j < 128) (hms : ct - k < fu) (H : Heap) (locs : List Loc) (ls : Array Slot), lv_has ls 5 [(0, .ref r0), (1, .int (nI sl)), (2, .int (nI ct)), (3, .int (nI k))] → va_P (dC, dI) vwCl [(r0, .inr (1, [.ref f0, .int (nI fk), .int fp, .ref t0, .int (nI nx), .int (nI lnb)])), (t0, .inr (2, [.ref t1, .int (nI len)])), (t1, .inl (cB, 400, .inl (aB tp))), (f0, .inr (0, [.int (nI ty), .ref f1, .ref f2])), (f1, .inl (cI, 16, .inl (aN cnt))), (f2, .inl (cB, 208, .inl (aN f)))] H → va_D A [(r0, .inr (1, [.ref f0, .int (nI fk), .int fp, .ref t0, .int (nI nx), .int (nI lnb)])), (t0, .inr (2, [.ref t1, .int (nI len)])), (t1, .inl (cB, 400, .inl (aB tp))), (f0, .inr (0, [.int (nI ty), .ref f1, .ref f2])), (f1, .inl (cI, 16, .inl (aN cnt))), (f2, .inl (cB, 208, .inl (aN f)))] → va_S A s.heap H locs → W p l e rm_c_walkLetters_no s m ([.ref r0, .int (nI sl), .int (nI ct)] : List Value).toArray below meth c H locs 0 0 Q (F0 m 12 ls []) := by
      intro fu
      induction fu with
      | zero => intro k f hk hi hf9 hms; exact absurd hms (Nat.not_lt_zero _)
      | succ fu ih12 =>
        intro k f hk hi hf9 hms H locs ls hl hP hD hS
        refine lv_iload_n hx hb dR_walkLetters_12 rfl (lv_at hl 3 rfl) ?_
        refine lv_iload_n hx hb dR_walkLetters_13 rfl (lv_at hl 2 rfl) ?_
        refine zi_ge (tgt := 70) hx hb (by omega) (by omega) dR_walkLetters_14 (by decide) (fun q => False.elim ((by have h9 := hi; rw [show ct - k = 0 by omega] at h9; cases h9))) (fun c_14 => ?_)
        by_cases hL : isL (tp (nx + k)) = true
        · have h9 := hi; rw [show ct - k = ct - (k + 1) + 1 by omega] at h9; unfold ltL at h9
          rw [if_pos hL] at h9
          have ht9 := htp (nx + k)
          have hL9 := isL_lt hL
          refine lv_aload_n hx hb dR_walkLetters_17 rfl (lv_at hl 0 rfl) ?_
          refine va_get (D := (dC, dI)) (ci := 1) (v := .ref t0) (C := RR) (T := TR) (N := 6) hx hb hw inR hown hK hP 0 rfl rfl 3 (by decide) (hw _ w_fl_R_31) (fun _ h9 => h9) rfl dR_walkLetters_18 ?_
          refine lv_aload_n hx hb dR_walkLetters_21 rfl (lv_at hl 0 rfl) ?_
          refine va_get (D := (dC, dI)) (ci := 1) (v := .int (nI nx)) (C := RR) (T := TR) (N := 6) hx hb hw inR hown hK hP 0 rfl rfl 4 (by decide) (hw _ w_fl_R_25) (fun _ h9 => h9) rfl dR_walkLetters_22 ?_
          refine lv_iload_n hx hb dR_walkLetters_25 rfl (lv_at hl 3 rfl) ?_
          refine zi_add hx hb dR_walkLetters_26 ?_
          refine zc_Ri (va_runV (As := [.int (nI (nx + k))]) (rest := []) ⟨hx, hb, hml, hown, hw⟩ (c_T_byteAt l dC dI t0 t1 len cI cB tp (nx + k) (by omega) (htp _) H) (cwV 1 hw (gV w_ml_R_50 w_im_T_byteAt w_se_T_byteAt w_in_T w_co_T_byteAt) rfl rfl rfl (by decide +kernel) ⟨Nat.le_of_ble_eq_true rfl, Nat.le_of_ble_eq_true rfl⟩) (zR_V hG hS (hP.sub (ws' := [(t0, .inr (2, [.ref t1, .int (nI len)])), (t1, .inl (cB, 400, .inl (aB tp)))]) [1, 2] rfl) hK 0 rfl rfl) rfl rfl hl.1 rfl (lv_room (Nat.le_of_ble_eq_true rfl)) dR_walkLetters_27 ⟨Nat.le_of_ble_eq_true rfl, Nat.le_of_ble_eq_true rfl⟩) hS (fun r_3 locs h_27 hS => ?_)
          subst h_27
          refine lv_istore (lv' := [(4, .int (nI (tp (nx + k)))), (0, .ref r0), (1, .int (nI sl)), (2, .int (nI ct)), (3, .int (nI k))]) hx hb dR_walkLetters_30 hl (by decide) rfl (fun ls hl => ?_)
          refine lv_iload hx hb dR_walkLetters_32 (lv_at hl 0 rfl) ?_
          refine zc_Ri (va_runS (As := [.int (nI (tp (nx + k)))]) (rest := []) ⟨hx, hb, hml, hown, hw⟩ (c_isLetter_ok l dC dI cI cB (tp (nx + k)) (htp _) hL H) (va_cwS 1 hw (gSt w_ml_R_120 w_st_R_isLetter w_in_R w_co_R_isLetter) rfl rfl rfl (by decide +kernel) ⟨Nat.le_of_ble_eq_true rfl, Nat.le_of_ble_eq_true rfl⟩) (zR_S hG hS (hP.sub (ws' := []) [] rfl) hK) rfl rfl hl.1 rfl (lv_room (Nat.le_of_ble_eq_true rfl)) dR_walkLetters_34 ⟨Nat.le_of_ble_eq_true rfl, Nat.le_of_ble_eq_true rfl⟩) hS (fun r_4 locs h_34 hS => ?_)
          subst h_34
          refine lv_if_ne (tgt := 53) hx hb dR_walkLetters_37 (by decide) (fun c_37 => ?_) (fun q => False.elim (absurd q (by decide)))
          refine lv_aload_n hx hb dR_walkLetters_53 rfl (lv_at hl 1 rfl) ?_
          refine va_get (D := (dC, dI)) (ci := 1) (v := .ref f0) (C := RR) (T := TR) (N := 6) hx hb hw inR hown hK hP 0 rfl rfl 0 (by decide) (hw _ w_fl_R_12) (fun _ h9 => h9) rfl dR_walkLetters_54 ?_
          refine lv_iload_n hx hb dR_walkLetters_57 rfl (lv_at hl 2 rfl) ?_
          refine lv_iload_n hx hb dR_walkLetters_58 rfl (lv_at hl 4 rfl) ?_
          refine lv_iload hx hb dR_walkLetters_59 (lv_at hl 0 rfl) ?_
          have hPc := hP.sub (ws' := [(f0, .inr (0, [.int (nI ty), .ref f1, .ref f2])), (f2, .inl (cB, 208, .inl (aN f)))]) [3, 5] rfl
          have hDc := hD.sub (ws' := [(f0, .inr (0, [.int (nI ty), .ref f1, .ref f2])), (f2, .inl (cB, 208, .inl (aN f)))]) [3, 5] (by decide) rfl
          have hFc := va_free (wc := [(f0, .inr (0, [.int (nI ty), .ref f1, .ref f2])), (f2, .inl (cB, 208, .inl (aN f)))]) hD hS hA [3, 5] rfl
          refine zc_Mv (va_runV (As := [.int (nI sl), .int (nI k), .int (nI (tp (nx + k)))]) (rest := []) ⟨hx, hb, hml, hown, hw⟩ (c_D_setMark l dC dI f0 f1 f2 cI cB ty f sl k (tp (nx + k)) (by omega) (by omega) (by omega) H.size) (cwV 3 hw (gV w_ml_R_113 w_im_D_setMark w_se_D_setMark w_in_D w_co_D_setMark) rfl rfl rfl (by decide +kernel) ⟨Nat.le_of_ble_eq_true rfl, Nat.le_of_ble_eq_true rfl⟩) (zM_V hG hS hFc hPc hDc hK 0 rfl rfl) rfl rfl hl.1 rfl (lv_room (Nat.le_of_ble_eq_true rfl)) dR_walkLetters_61 ⟨Nat.le_of_ble_eq_true rfl, Nat.le_of_ble_eq_true rfl⟩) hS hFc (fun H locs h_61 hP1 hD1 hk1 hS => ?_)
          obtain ⟨hP, hD⟩ := va_join (wr := [(r0, .inr (1, [.ref f0, .int (nI fk), .int fp, .ref t0, .int (nI nx), .int (nI lnb)])), (t0, .inr (2, [.ref t1, .int (nI len)])), (t1, .inl (cB, 400, .inl (aB tp))), (f1, .inl (cI, 16, .inl (aN cnt)))]) (w1 := [(f0, .inr (0, [.int (nI ty), .ref f1, .ref f2])), (f2, .inl (cB, 208, .inl (aN (nup f (fFM sl + k) (tp (nx + k))))))]) hP hD [3, 5] [0, 1, 2, 4] rfl rfl (by decide) (by decide) hk1 hFc hP1 hD1
          have hP : va_P (dC, dI) vwCl [(r0, .inr (1, [.ref f0, .int (nI fk), .int fp, .ref t0, .int (nI nx), .int (nI lnb)])), (t0, .inr (2, [.ref t1, .int (nI len)])), (t1, .inl (cB, 400, .inl (aB tp))), (f1, .inl (cI, 16, .inl (aN cnt))), (f0, .inr (0, [.int (nI ty), .ref f1, .ref f2])), (f2, .inl (cB, 208, .inl (aN (nup f (fFM sl + k) (tp (nx + k))))))] H := hP
          have hD : va_D A [(r0, .inr (1, [.ref f0, .int (nI fk), .int fp, .ref t0, .int (nI nx), .int (nI lnb)])), (t0, .inr (2, [.ref t1, .int (nI len)])), (t1, .inl (cB, 400, .inl (aB tp))), (f1, .inl (cI, 16, .inl (aN cnt))), (f0, .inr (0, [.int (nI ty), .ref f1, .ref f2])), (f2, .inl (cB, 208, .inl (aN (nup f (fFM sl + k) (tp (nx + k))))))] := hD
          refine lv_iinc (v := nI (k + 1)) (lv' := [(3, .int (nI (k + 1))), (4, .int (nI (tp (nx + k)))), (0, .ref r0), (1, .int (nI sl)), (2, .int (nI ct))]) hx hb dR_walkLetters_64 hl (k := 4) rfl (zi_incr k 1) (by decide) rfl (fun ls hl => ?_)
          refine lv_goto (tgt := 12) hx hb dR_walkLetters_67 (by decide) ?_
          exact ih12 (k + 1) (nup f (fFM sl + k) (tp (nx + k))) (by omega) h9 (nup_lt hf9 (by omega)) (by omega) _ _ _ (lv_sub hl [2, 3, 4, 0] rfl) (hP.sub [0, 1, 2, 4, 3, 5] rfl) (hD.sub [0, 1, 2, 4, 3, 5] (by decide) rfl) hS
        · have h9 := hi; rw [show ct - k = ct - (k + 1) + 1 by omega] at h9; unfold ltL at h9
          rw [if_neg hL] at h9
          cases h9
          have hL := Bool.eq_false_iff.mpr hL
          refine lv_aload_n hx hb dR_walkLetters_17 rfl (lv_at hl 0 rfl) ?_
          refine va_get (D := (dC, dI)) (ci := 1) (v := .ref t0) (C := RR) (T := TR) (N := 6) hx hb hw inR hown hK hP 0 rfl rfl 3 (by decide) (hw _ w_fl_R_31) (fun _ h9 => h9) rfl dR_walkLetters_18 ?_
          refine lv_aload_n hx hb dR_walkLetters_21 rfl (lv_at hl 0 rfl) ?_
          refine va_get (D := (dC, dI)) (ci := 1) (v := .int (nI nx)) (C := RR) (T := TR) (N := 6) hx hb hw inR hown hK hP 0 rfl rfl 4 (by decide) (hw _ w_fl_R_25) (fun _ h9 => h9) rfl dR_walkLetters_22 ?_
          refine lv_iload_n hx hb dR_walkLetters_25 rfl (lv_at hl 3 rfl) ?_
          refine zi_add hx hb dR_walkLetters_26 ?_
          refine zc_Ri (va_runV (As := [.int (nI (nx + k))]) (rest := []) ⟨hx, hb, hml, hown, hw⟩ (c_T_byteAt l dC dI t0 t1 len cI cB tp (nx + k) (by omega) (htp _) H) (cwV 1 hw (gV w_ml_R_50 w_im_T_byteAt w_se_T_byteAt w_in_T w_co_T_byteAt) rfl rfl rfl (by decide +kernel) ⟨Nat.le_of_ble_eq_true rfl, Nat.le_of_ble_eq_true rfl⟩) (zR_V hG hS (hP.sub (ws' := [(t0, .inr (2, [.ref t1, .int (nI len)])), (t1, .inl (cB, 400, .inl (aB tp)))]) [1, 2] rfl) hK 0 rfl rfl) rfl rfl hl.1 rfl (lv_room (Nat.le_of_ble_eq_true rfl)) dR_walkLetters_27 ⟨Nat.le_of_ble_eq_true rfl, Nat.le_of_ble_eq_true rfl⟩) hS (fun r_6 locs h_27 hS => ?_)
          subst h_27
          refine lv_istore (lv' := [(4, .int (nI (tp (nx + k)))), (0, .ref r0), (1, .int (nI sl)), (2, .int (nI ct)), (3, .int (nI k))]) hx hb dR_walkLetters_30 hl (by decide) rfl (fun ls hl => ?_)
          refine lv_iload hx hb dR_walkLetters_32 (lv_at hl 0 rfl) ?_
          refine zc_Ri (va_runS (As := [.int (nI (tp (nx + k)))]) (rest := []) ⟨hx, hb, hml, hown, hw⟩ (c_isLetter_no l dC dI cI cB (tp (nx + k)) (htp _) hL H) (va_cwS 1 hw (gSt w_ml_R_120 w_st_R_isLetter w_in_R w_co_R_isLetter) rfl rfl rfl (by decide +kernel) ⟨Nat.le_of_ble_eq_true rfl, Nat.le_of_ble_eq_true rfl⟩) (zR_S hG hS (hP.sub (ws' := []) [] rfl) hK) rfl rfl hl.1 rfl (lv_room (Nat.le_of_ble_eq_true rfl)) dR_walkLetters_34 ⟨Nat.le_of_ble_eq_true rfl, Nat.le_of_ble_eq_true rfl⟩) hS (fun r_7 locs h_34 hS => ?_)
          subst h_34
          refine lv_if_ne (tgt := 53) hx hb dR_walkLetters_37 (by decide) (fun q => False.elim (absurd q (by decide))) (fun c_37 => ?_)
          refine lv_aload_n hx hb dR_walkLetters_40 rfl (lv_at hl 1 rfl) ?_
          refine lv_bipush (v := nI 6) hx hb dR_walkLetters_41 (by decide) ?_
          refine lv_aload_n hx hb dR_walkLetters_43 rfl (lv_at hl 1 rfl) ?_
          refine va_get (D := (dC, dI)) (ci := 1) (v := .int (nI nx)) (C := RR) (T := TR) (N := 6) hx hb hw inR hown hK hP 0 rfl rfl 4 (by decide) (hw _ w_fl_R_25) (fun _ h9 => h9) rfl dR_walkLetters_44 ?_
          refine lv_iload_n hx hb dR_walkLetters_47 rfl (lv_at hl 4 rfl) ?_
          refine zi_add hx hb dR_walkLetters_48 ?_
          have hPc := hP.sub (ws' := [(r0, .inr (1, [.ref f0, .int (nI fk), .int fp, .ref t0, .int (nI nx), .int (nI lnb)]))]) [0] rfl
          have hDc := hD.sub (ws' := [(r0, .inr (1, [.ref f0, .int (nI fk), .int fp, .ref t0, .int (nI nx), .int (nI lnb)]))]) [0] (by decide) rfl
          have hFc := va_free (wc := [(r0, .inr (1, [.ref f0, .int (nI fk), .int fp, .ref t0, .int (nI nx), .int (nI lnb)]))]) hD hS hA [0] rfl
          refine zc_Mi (va_runV (As := [.int (nI 6), .int (nI (nx + k))]) (rest := []) ⟨hx, hb, hml, hown, hw⟩ (c_R_fail l dC dI r0 f0 fk fp t0 nx lnb cI cB 6 (nI (nx + k)) H.size) (cwV 2 hw (gV w_ml_R_65 w_im_R_fail w_se_R_fail w_in_R w_co_R_fail) rfl rfl rfl (by decide +kernel) ⟨Nat.le_of_ble_eq_true rfl, Nat.le_of_ble_eq_true rfl⟩) (zM_V hG hS hFc hPc hDc hK 0 rfl rfl) rfl rfl hl.1 rfl (lv_room (Nat.le_of_ble_eq_true rfl)) dR_walkLetters_49 ⟨Nat.le_of_ble_eq_true rfl, Nat.le_of_ble_eq_true rfl⟩) hS hFc (fun r_8 H locs h_49 hP1 hD1 hk1 hS => ?_)
          obtain ⟨hP, hD⟩ := va_join (wr := [(t0, .inr (2, [.ref t1, .int (nI len)])), (t1, .inl (cB, 400, .inl (aB tp))), (f0, .inr (0, [.int (nI ty), .ref f1, .ref f2])), (f1, .inl (cI, 16, .inl (aN cnt))), (f2, .inl (cB, 208, .inl (aN f)))]) (w1 := [(r0, .inr (1, [.ref f0, .int (nI 6), .int (nI (nx + k)), .ref t0, .int (nI nx), .int (nI lnb)]))]) hP hD [0] [1, 2, 3, 4, 5] rfl rfl (by decide) (by decide) hk1 hFc hP1 hD1
          have hP : va_P (dC, dI) vwCl [(t0, .inr (2, [.ref t1, .int (nI len)])), (t1, .inl (cB, 400, .inl (aB tp))), (f0, .inr (0, [.int (nI ty), .ref f1, .ref f2])), (f1, .inl (cI, 16, .inl (aN cnt))), (f2, .inl (cB, 208, .inl (aN f))), (r0, .inr (1, [.ref f0, .int (nI 6), .int (nI (nx + k)), .ref t0, .int (nI nx), .int (nI lnb)]))] H := hP
          have hD : va_D A [(t0, .inr (2, [.ref t1, .int (nI len)])), (t1, .inl (cB, 400, .inl (aB tp))), (f0, .inr (0, [.int (nI ty), .ref f1, .ref f2])), (f1, .inl (cI, 16, .inl (aN cnt))), (f2, .inl (cB, 208, .inl (aN f))), (r0, .inr (1, [.ref f0, .int (nI 6), .int (nI (nx + k)), .ref t0, .int (nI nx), .int (nI lnb)]))] := hD
          subst h_49
          subst hAe
          subst hQ
          exact W.zret (v := nI 0) hx hb hr (by decide) (fun t ht hW => ⟨⟨nI 0, f, rfl, ⟨rfl, hf9⟩, by rw [ht]; exact hP.sub [5, 0, 1, 2, 3, 4] rfl, hD.sub [5, 0, 1, 2, 3, 4] (by decide) rfl⟩, hS.F ht⟩) hS.2.2 dR_walkLetters_52
    exact lp_12 ((ct - 0) + 1) 0 mk (by omega) hd hm (Nat.lt_succ_self _) _ _ _ (lv_sub hl [1, 2, 3, 0] rfl) (hP.sub [0, 1, 2, 3, 4, 5] rfl) (hD.sub [0, 1, 2, 3, 4, 5] (by decide) rfl) hS
