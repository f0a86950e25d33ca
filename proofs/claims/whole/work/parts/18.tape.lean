def rm_c_T_append : Room := ({ frames := 0, cells := 0, slots := 0, locals := 0 } : Room)
set_option maxHeartbeats 4000000 in
set_option maxRecDepth 100000 in
theorem c_T_append (l : Launch) (dC : Nat → ClassId) (dI : Nat → Nat → Nat) (t0 : Nat) (t1 : Nat) (cI : ClassId) (cB : ClassId) (len : Nat) (tp : Nat → Nat) (a1 : Nat) (hl9 : len < 400) (sz : Nat) : Met l yT_append wsT_append rm_c_T_append (zM (dC, dI) [(cI, .int), (cB, .byte)] [.ref t0, .int (nI a1)] [(t0, .inr (2, [.ref t1, .int (nI len)])), (t1, .inl (cB, 400, .inl (aB tp)))] sz) (zMv (dC, dI) [(t0, .inr (2, [.ref t1, .int (nI len)])), (t1, .inl (cB, 400, .inl (aB tp)))] [(t0, .inr (2, [.ref t1, .int (nI (len + 1))])), (t1, .inl (cB, 400, .inl (aB (nup tp len a1))))] sz (True)) 0 0 (va_A [(t0, .inr (2, [.ref t1, .int (nI len)])), (t1, .inl (cB, 400, .inl (aB tp)))] sz) := by
  refine Met.ofW (cc := cT_append) (maxL := 2) (ret := none) (by decide) rfl ?_
  intro p e s m args below meth c s₁ Bd hml hv
  obtain ⟨rfl, hsz, hG, hP, hK, hD0⟩ := hv
  subst hsz
  have hx := Bd.exec
  have hb := Bd.bytes
  have hr := Bd.returns
  have hts := atoms_spec (ws := wsT_append) Bd.pre
  have hw : ∀ w ∈ BIG, w.before _ s = true := fun w h => hts w (List.mem_cons_of_mem _ h)
  have hown : s.vm.findClass RT = some m.cls := findClass_of_methodNamed Bd.named
  have hlocks := Bd.notSynchronized
  have hD := hD0.self (sz := s.heap.size)
  obtain ⟨A, hAe⟩ : ∃ A, A = va_A [(t0, .inr (2, [.ref t1, .int (nI len)])), (t1, .inl (cB, 400, .inl (aB tp)))] s.heap.size := ⟨_, rfl⟩
  have hA : ∀ q : Nat, s.heap.size ≤ q → A q := fun q h => by rw [hAe]; exact Or.inr h
  rw [← hAe] at hG hD
  have hS : va_S A s.heap s.heap [] := va_S.rf
  have hl := lv_entry ([.ref t0, .int (nI a1)]) (n := 2) (Nat.le_of_ble_eq_true rfl)
  rw [lg_entry_eq]
  generalize (lg_sl ([.ref t0, .int (nI a1)]) ++ List.replicate (2 - (lg_sl ([.ref t0, .int (nI a1)])).length) Slot.unset).toArray = ls at hl ⊢
  have hl : lv_has ls 2 [(0, .ref t0), (1, .int (nI a1))] := hl
  refine zq_name (fun Q hQ => ?_)
  change W p l e rm_c_T_append s m _ below meth c _ _ _ _ Q _
  refine lv_aload_n hx hb dT_append_0 rfl (lv_at hl 0 rfl) ?_
  refine va_get (D := (dC, dI)) (ci := 2) (v := .int (nI len)) (C := RT) (T := TT) (N := 2) hx hb hw inT hown hK hP 0 rfl rfl 1 (by decide) (hw _ w_fl_T_15) (fun _ h9 => h9) rfl dT_append_1 ?_
  refine lv_sipush (v := nI 400) hx hb dT_append_4 (by decide) ?_
  refine zi_ge (tgt := 31) hx hb (by omega) (by omega) dT_append_7 (by decide) (fun q => False.elim ((by omega : False))) (fun c_7 => ?_)
  refine lv_aload_n hx hb dT_append_10 rfl (lv_at hl 0 rfl) ?_
  refine va_get (D := (dC, dI)) (ci := 2) (v := .ref t1) (C := RT) (T := TT) (N := 2) hx hb hw inT hown hK hP 0 rfl rfl 0 (by decide) (hw _ w_fl_T_9) (fun _ h9 => h9) rfl dT_append_11 ?_
  refine lv_aload_n hx hb dT_append_14 rfl (lv_at hl 0 rfl) ?_
  refine va_get (D := (dC, dI)) (ci := 2) (v := .int (nI len)) (C := RT) (T := TT) (N := 2) hx hb hw inT hown hK hP 0 rfl rfl 1 (by decide) (hw _ w_fl_T_15) (fun _ h9 => h9) rfl dT_append_15 ?_
  refine lv_iload_n hx hb dT_append_18 rfl (lv_at hl 1 rfl) ?_
  refine zi_b hx hb dT_append_19 ?_
  refine za_Bst hx hb hK hP hD hS 1 1 rfl rfl (by omega) (by decide) dT_append_20 (fun H locs hP hD hS => ?_)
  have hP : va_P (dC, dI) vwCl [(t0, .inr (2, [.ref t1, .int (nI len)])), (t1, .inl (cB, 400, .inl (aB (nup tp len a1))))] H := hP
  have hD : va_D A [(t0, .inr (2, [.ref t1, .int (nI len)])), (t1, .inl (cB, 400, .inl (aB (nup tp len a1))))] := hD
  refine lv_aload_n hx hb dT_append_21 rfl (lv_at hl 0 rfl) ?_
  refine lv_dup hx hb dT_append_22 rfl ?_
  refine va_get (D := (dC, dI)) (ci := 2) (v := .int (nI len)) (C := RT) (T := TT) (N := 2) hx hb hw inT hown hK hP 0 rfl rfl 1 (by decide) (hw _ w_fl_T_15) (fun _ h9 => h9) rfl dT_append_23 ?_
  refine lv_iconst (v := nI 1) hx hb dT_append_26 (by decide) ?_
  refine zi_add hx hb dT_append_27 ?_
  refine va_put (D := (dC, dI)) (ci := 2) (v := .int (nI (len + 1))) (ty := .int) (C := RT) (T := TT) (N := 2) hx hb hw inT tyT tyT_ok nmT hown hK hP hD hS 0 rfl rfl 1 (by decide) (hw _ w_fl_T_15) (fun _ h9 => h9) rfl (by decide +kernel) rfl rfl (Nat.le_of_ble_eq_true rfl) dT_append_28 (fun H locs hP hD hS => ?_)
  have hP : va_P (dC, dI) vwCl [(t0, .inr (2, [.ref t1, .int (nI (len + 1))])), (t1, .inl (cB, 400, .inl (aB (nup tp len a1))))] H := hP
  have hD : va_D A [(t0, .inr (2, [.ref t1, .int (nI (len + 1))])), (t1, .inl (cB, 400, .inl (aB (nup tp len a1))))] := hD
  subst hAe
  subst hQ
  exact W.vret hx hb hr (fun t ht hW => ⟨⟨(), rfl, trivial, by rw [ht]; exact hP.sub [0, 1] rfl, hD.sub [0, 1] (by decide) rfl⟩, hS.F ht⟩) hS.2.2 dT_append_31
def rm_c_appendx : Room := ({ frames := 0, cells := 0, slots := 0, locals := 0 } : Room)
set_option maxHeartbeats 4000000 in
set_option maxRecDepth 100000 in
theorem c_appendx (l : Launch) (dC : Nat → ClassId) (dI : Nat → Nat → Nat) (t0 : Nat) (t1 : Nat) (cI : ClassId) (cB : ClassId) (len : Nat) (tp : Nat → Nat) (x1 : Int32) (hl9 : len < 400) (sz : Nat) : Met l yT_append wsT_append rm_c_appendx (zM (dC, dI) [(cI, .int), (cB, .byte)] [.ref t0, .int x1] [(t0, .inr (2, [.ref t1, .int (nI len)])), (t1, .inl (cB, 400, .inl (aB tp)))] sz) (zMv (dC, dI) [(t0, .inr (2, [.ref t1, .int (nI len)])), (t1, .inl (cB, 400, .inl (aB tp)))] [(t0, .inr (2, [.ref t1, .int (nI (len + 1))])), (t1, .inl (cB, 400, .inl (aB (nup tp len (x1.toBitVec.toNat % 256)))))] sz (True)) 0 0 (va_A [(t0, .inr (2, [.ref t1, .int (nI len)])), (t1, .inl (cB, 400, .inl (aB tp)))] sz) := by
  refine Met.ofW (cc := cT_append) (maxL := 2) (ret := none) (by decide) rfl ?_
  intro p e s m args below meth c s₁ Bd hml hv
  obtain ⟨rfl, hsz, hG, hP, hK, hD0⟩ := hv
  subst hsz
  have hx := Bd.exec
  have hb := Bd.bytes
  have hr := Bd.returns
  have hts := atoms_spec (ws := wsT_append) Bd.pre
  have hw : ∀ w ∈ BIG, w.before _ s = true := fun w h => hts w (List.mem_cons_of_mem _ h)
  have hown : s.vm.findClass RT = some m.cls := findClass_of_methodNamed Bd.named
  have hlocks := Bd.notSynchronized
  have hD := hD0.self (sz := s.heap.size)
  obtain ⟨A, hAe⟩ : ∃ A, A = va_A [(t0, .inr (2, [.ref t1, .int (nI len)])), (t1, .inl (cB, 400, .inl (aB tp)))] s.heap.size := ⟨_, rfl⟩
  have hA : ∀ q : Nat, s.heap.size ≤ q → A q := fun q h => by rw [hAe]; exact Or.inr h
  rw [← hAe] at hG hD
  have hS : va_S A s.heap s.heap [] := va_S.rf
  have hl := lv_entry ([.ref t0, .int x1]) (n := 2) (Nat.le_of_ble_eq_true rfl)
  rw [lg_entry_eq]
  generalize (lg_sl ([.ref t0, .int x1]) ++ List.replicate (2 - (lg_sl ([.ref t0, .int x1])).length) Slot.unset).toArray = ls at hl ⊢
  have hl : lv_has ls 2 [(0, .ref t0), (1, .int x1)] := hl
  refine zq_name (fun Q hQ => ?_)
  change W p l e rm_c_appendx s m _ below meth c _ _ _ _ Q _
  refine lv_aload_n hx hb dT_append_0 rfl (lv_at hl 0 rfl) ?_
  refine va_get (D := (dC, dI)) (ci := 2) (v := .int (nI len)) (C := RT) (T := TT) (N := 2) hx hb hw inT hown hK hP 0 rfl rfl 1 (by decide) (hw _ w_fl_T_15) (fun _ h9 => h9) rfl dT_append_1 ?_
  refine lv_sipush (v := nI 400) hx hb dT_append_4 (by decide) ?_
  refine zi_ge (tgt := 31) hx hb (by omega) (by omega) dT_append_7 (by decide) (fun q => False.elim ((by omega : False))) (fun c_7 => ?_)
  refine lv_aload_n hx hb dT_append_10 rfl (lv_at hl 0 rfl) ?_
  refine va_get (D := (dC, dI)) (ci := 2) (v := .ref t1) (C := RT) (T := TT) (N := 2) hx hb hw inT hown hK hP 0 rfl rfl 0 (by decide) (hw _ w_fl_T_9) (fun _ h9 => h9) rfl dT_append_11 ?_
  refine lv_aload_n hx hb dT_append_14 rfl (lv_at hl 0 rfl) ?_
  refine va_get (D := (dC, dI)) (ci := 2) (v := .int (nI len)) (C := RT) (T := TT) (N := 2) hx hb hw inT hown hK hP 0 rfl rfl 1 (by decide) (hw _ w_fl_T_15) (fun _ h9 => h9) rfl dT_append_15 ?_
  refine lv_iload_n hx hb dT_append_18 rfl (lv_at hl 1 rfl) ?_
  refine lv_i2b hx hb dT_append_19 rfl ?_
  refine zi_v (b := sB (x1.toBitVec.toNat % 256)) (sB_of x1) ?_
  refine za_Bst hx hb hK hP hD hS 1 1 rfl rfl (by omega) (by decide) dT_append_20 (fun H locs hP hD hS => ?_)
  have hP : va_P (dC, dI) vwCl [(t0, .inr (2, [.ref t1, .int (nI len)])), (t1, .inl (cB, 400, .inl (aB (nup tp len (x1.toBitVec.toNat % 256)))))] H := hP
  have hD : va_D A [(t0, .inr (2, [.ref t1, .int (nI len)])), (t1, .inl (cB, 400, .inl (aB (nup tp len (x1.toBitVec.toNat % 256)))))] := hD
  refine lv_aload_n hx hb dT_append_21 rfl (lv_at hl 0 rfl) ?_
  refine lv_dup hx hb dT_append_22 rfl ?_
  refine va_get (D := (dC, dI)) (ci := 2) (v := .int (nI len)) (C := RT) (T := TT) (N := 2) hx hb hw inT hown hK hP 0 rfl rfl 1 (by decide) (hw _ w_fl_T_15) (fun _ h9 => h9) rfl dT_append_23 ?_
  refine lv_iconst (v := nI 1) hx hb dT_append_26 (by decide) ?_
  refine zi_add hx hb dT_append_27 ?_
  refine va_put (D := (dC, dI)) (ci := 2) (v := .int (nI (len + 1))) (ty := .int) (C := RT) (T := TT) (N := 2) hx hb hw inT tyT tyT_ok nmT hown hK hP hD hS 0 rfl rfl 1 (by decide) (hw _ w_fl_T_15) (fun _ h9 => h9) rfl (by decide +kernel) rfl rfl (Nat.le_of_ble_eq_true rfl) dT_append_28 (fun H locs hP hD hS => ?_)
  have hP : va_P (dC, dI) vwCl [(t0, .inr (2, [.ref t1, .int (nI (len + 1))])), (t1, .inl (cB, 400, .inl (aB (nup tp len (x1.toBitVec.toNat % 256)))))] H := hP
  have hD : va_D A [(t0, .inr (2, [.ref t1, .int (nI (len + 1))])), (t1, .inl (cB, 400, .inl (aB (nup tp len (x1.toBitVec.toNat % 256)))))] := hD
  subst hAe
  subst hQ
  exact W.vret hx hb hr (fun t ht hW => ⟨⟨(), rfl, trivial, by rw [ht]; exact hP.sub [0, 1] rfl, hD.sub [0, 1] (by decide) rfl⟩, hS.F ht⟩) hS.2.2 dT_append_31
def rm_c_T_appendPair : Room := ({ frames := 1, cells := 0, slots := 0, locals := 21 } : Room)
set_option maxHeartbeats 4000000 in
set_option maxRecDepth 100000 in
theorem c_T_appendPair (l : Launch) (dC : Nat → ClassId) (dI : Nat → Nat → Nat) (t0 : Nat) (t1 : Nat) (cI : ClassId) (cB : ClassId) (len : Nat) (tp : Nat → Nat) (a1 : Nat) (a2 : Nat) (hl9 : len < 400) (ha1 : a1 < 16) (ha2 : a2 < 16) (sz : Nat) : Met l yT_appendPair wsT_appendPair rm_c_T_appendPair (zM (dC, dI) [(cI, .int), (cB, .byte)] [.ref t0, .int (nI a1), .int (nI a2)] [(t0, .inr (2, [.ref t1, .int (nI len)])), (t1, .inl (cB, 400, .inl (aB tp)))] sz) (zMv (dC, dI) [(t0, .inr (2, [.ref t1, .int (nI len)])), (t1, .inl (cB, 400, .inl (aB tp)))] [(t0, .inr (2, [.ref t1, .int (nI (len + 1))])), (t1, .inl (cB, 400, .inl (aB (nup tp len (a1 * 16 + a2)))))] sz (True)) 0 0 (va_A [(t0, .inr (2, [.ref t1, .int (nI len)])), (t1, .inl (cB, 400, .inl (aB tp)))] sz) := by
  refine Met.ofW (cc := cT_appendPair) (maxL := 3) (ret := none) (by decide) rfl ?_
  intro p e s m args below meth c s₁ Bd hml hv
  obtain ⟨rfl, hsz, hG, hP, hK, hD0⟩ := hv
  subst hsz
  have hx := Bd.exec
  have hb := Bd.bytes
  have hr := Bd.returns
  have hts := atoms_spec (ws := wsT_appendPair) Bd.pre
  have hw : ∀ w ∈ BIG, w.before _ s = true := fun w h => hts w (List.mem_cons_of_mem _ h)
  have hown : s.vm.findClass RT = some m.cls := findClass_of_methodNamed Bd.named
  have hlocks := Bd.notSynchronized
  have hD := hD0.self (sz := s.heap.size)
  obtain ⟨A, hAe⟩ : ∃ A, A = va_A [(t0, .inr (2, [.ref t1, .int (nI len)])), (t1, .inl (cB, 400, .inl (aB tp)))] s.heap.size := ⟨_, rfl⟩
  have hA : ∀ q : Nat, s.heap.size ≤ q → A q := fun q h => by rw [hAe]; exact Or.inr h
  rw [← hAe] at hG hD
  have hS : va_S A s.heap s.heap [] := va_S.rf
  have hl := lv_entry ([.ref t0, .int (nI a1), .int (nI a2)]) (n := 3) (Nat.le_of_ble_eq_true rfl)
  rw [lg_entry_eq]
  generalize (lg_sl ([.ref t0, .int (nI a1), .int (nI a2)]) ++ List.replicate (3 - (lg_sl ([.ref t0, .int (nI a1), .int (nI a2)])).length) Slot.unset).toArray = ls at hl ⊢
  have hl : lv_has ls 3 [(0, .ref t0), (1, .int (nI a1)), (2, .int (nI a2))] := hl
  refine zq_name (fun Q hQ => ?_)
  change W p l e rm_c_T_appendPair s m _ below meth c _ _ _ _ Q _
  refine lv_aload_n hx hb dT_appendPair_0 rfl (lv_at hl 0 rfl) ?_
  refine lv_iload_n hx hb dT_appendPair_1 rfl (lv_at hl 1 rfl) ?_
  refine lv_iconst (v := nI 4) hx hb dT_appendPair_2 (by decide) ?_
  refine zi_shl hx hb (by omega) (by decide) dT_appendPair_3 ?_
  refine zi_v (b := nI (a1 * 16)) rfl ?_
  refine lv_iload_n hx hb dT_appendPair_4 rfl (lv_at hl 2 rfl) ?_
  refine lv_ior hx hb dT_appendPair_5 ?_
  refine zi_v (b := nI (a1 * 16 + a2)) (or16 ha1 ha2) ?_
  have hPc := hP.sub (ws' := [(t0, .inr (2, [.ref t1, .int (nI len)])), (t1, .inl (cB, 400, .inl (aB tp)))]) [0, 1] rfl
  have hDc := hD.sub (ws' := [(t0, .inr (2, [.ref t1, .int (nI len)])), (t1, .inl (cB, 400, .inl (aB tp)))]) [0, 1] (by decide) rfl
  have hFc := va_free (wc := [(t0, .inr (2, [.ref t1, .int (nI len)])), (t1, .inl (cB, 400, .inl (aB tp)))]) hD hS hA [0, 1] rfl
  refine zc_Mv (va_runV (As := [.int (nI (a1 * 16 + a2))]) (rest := []) ⟨hx, hb, hml, hown, hw⟩ (c_T_append l dC dI t0 t1 cI cB len tp (a1 * 16 + a2) (by omega) s.heap.size) (cwV 1 hw (gV w_ml_T_44 w_im_T_append w_se_T_append w_in_T w_co_T_append) rfl rfl rfl (by decide +kernel) ⟨Nat.le_of_ble_eq_true rfl, Nat.le_of_ble_eq_true rfl⟩) (zM_V hG hS hFc hPc hDc hK 0 rfl rfl) rfl rfl hl.1 rfl (lv_room (Nat.le_of_ble_eq_true rfl)) dT_appendPair_6 ⟨Nat.le_of_ble_eq_true rfl, Nat.le_of_ble_eq_true rfl⟩) hS hFc (fun H locs h_6 hP1 hD1 hk1 hS => ?_)
  obtain ⟨hP, hD⟩ := va_join (wr := []) (w1 := [(t0, .inr (2, [.ref t1, .int (nI (len + 1))])), (t1, .inl (cB, 400, .inl (aB (nup tp len (a1 * 16 + a2)))))]) hP hD [0, 1] [] rfl rfl (by decide) (by decide) hk1 hFc hP1 hD1
  have hP : va_P (dC, dI) vwCl [(t0, .inr (2, [.ref t1, .int (nI (len + 1))])), (t1, .inl (cB, 400, .inl (aB (nup tp len (a1 * 16 + a2)))))] H := hP
  have hD : va_D A [(t0, .inr (2, [.ref t1, .int (nI (len + 1))])), (t1, .inl (cB, 400, .inl (aB (nup tp len (a1 * 16 + a2)))))] := hD
  subst hAe
  subst hQ
  exact W.vret hx hb hr (fun t ht hW => ⟨⟨(), rfl, trivial, by rw [ht]; exact hP.sub [0, 1] rfl, hD.sub [0, 1] (by decide) rfl⟩, hS.F ht⟩) hS.2.2 dT_appendPair_9
def rm_c_T_flip : Room := ({ frames := 0, cells := 0, slots := 0, locals := 0 } : Room)
set_option maxHeartbeats 4000000 in
set_option maxRecDepth 100000 in
theorem c_T_flip (l : Launch) (dC : Nat → ClassId) (dI : Nat → Nat → Nat) (t0 : Nat) (t1 : Nat) (cI : ClassId) (cB : ClassId) (len : Nat) (tp : Nat → Nat) (i : Nat) (x : Nat) (hi : i < 400) (sz : Nat) : Met l yT_flip wsT_flip rm_c_T_flip (zM (dC, dI) [(cI, .int), (cB, .byte)] [.ref t0, .int (nI i), .int (nI x)] [(t0, .inr (2, [.ref t1, .int (nI len)])), (t1, .inl (cB, 400, .inl (aB tp)))] sz) (zMv (dC, dI) [(t0, .inr (2, [.ref t1, .int (nI len)])), (t1, .inl (cB, 400, .inl (aB tp)))] [(t0, .inr (2, [.ref t1, .int (nI len)])), (t1, .inl (cB, 400, .inl (aB (nup tp i (tp i ^^^ x)))))] sz (True)) 0 0 (va_A [(t0, .inr (2, [.ref t1, .int (nI len)])), (t1, .inl (cB, 400, .inl (aB tp)))] sz) := by
  refine Met.ofW (cc := cT_flip) (maxL := 3) (ret := none) (by decide) rfl ?_
  intro p e s m args below meth c s₁ Bd hml hv
  obtain ⟨rfl, hsz, hG, hP, hK, hD0⟩ := hv
  subst hsz
  have hx := Bd.exec
  have hb := Bd.bytes
  have hr := Bd.returns
  have hts := atoms_spec (ws := wsT_flip) Bd.pre
  have hw : ∀ w ∈ BIG, w.before _ s = true := fun w h => hts w (List.mem_cons_of_mem _ h)
  have hown : s.vm.findClass RT = some m.cls := findClass_of_methodNamed Bd.named
  have hlocks := Bd.notSynchronized
  have hD := hD0.self (sz := s.heap.size)
  obtain ⟨A, hAe⟩ : ∃ A, A = va_A [(t0, .inr (2, [.ref t1, .int (nI len)])), (t1, .inl (cB, 400, .inl (aB tp)))] s.heap.size := ⟨_, rfl⟩
  have hA : ∀ q : Nat, s.heap.size ≤ q → A q := fun q h => by rw [hAe]; exact Or.inr h
  rw [← hAe] at hG hD
  have hS : va_S A s.heap s.heap [] := va_S.rf
  have hl := lv_entry ([.ref t0, .int (nI i), .int (nI x)]) (n := 3) (Nat.le_of_ble_eq_true rfl)
  rw [lg_entry_eq]
  generalize (lg_sl ([.ref t0, .int (nI i), .int (nI x)]) ++ List.replicate (3 - (lg_sl ([.ref t0, .int (nI i), .int (nI x)])).length) Slot.unset).toArray = ls at hl ⊢
  have hl : lv_has ls 3 [(0, .ref t0), (1, .int (nI i)), (2, .int (nI x))] := hl
  refine zq_name (fun Q hQ => ?_)
  change W p l e rm_c_T_flip s m _ below meth c _ _ _ _ Q _
  refine lv_aload_n hx hb dT_flip_0 rfl (lv_at hl 0 rfl) ?_
  refine va_get (D := (dC, dI)) (ci := 2) (v := .ref t1) (C := RT) (T := TT) (N := 2) hx hb hw inT hown hK hP 0 rfl rfl 0 (by decide) (hw _ w_fl_T_9) (fun _ h9 => h9) rfl dT_flip_1 ?_
  refine lv_iload_n hx hb dT_flip_4 rfl (lv_at hl 1 rfl) ?_
  refine lv_aload_n hx hb dT_flip_5 rfl (lv_at hl 0 rfl) ?_
  refine va_get (D := (dC, dI)) (ci := 2) (v := .ref t1) (C := RT) (T := TT) (N := 2) hx hb hw inT hown hK hP 0 rfl rfl 0 (by decide) (hw _ w_fl_T_9) (fun _ h9 => h9) rfl dT_flip_6 ?_
  refine lv_iload_n hx hb dT_flip_9 rfl (lv_at hl 1 rfl) ?_
  refine za_Bld hx hb hK hP 1 1 rfl rfl (by omega) (by decide) dT_flip_10 ?_
  refine lv_iload_n hx hb dT_flip_11 rfl (lv_at hl 2 rfl) ?_
  refine lv_ixor hx hb dT_flip_12 ?_
  refine lv_i2b hx hb dT_flip_13 rfl ?_
  refine zi_v (b := sB (tp i ^^^ x)) (sB_xor (tp i) x) ?_
  refine za_Bst hx hb hK hP hD hS 1 1 rfl rfl (by omega) (by decide) dT_flip_14 (fun H locs hP hD hS => ?_)
  have hP : va_P (dC, dI) vwCl [(t0, .inr (2, [.ref t1, .int (nI len)])), (t1, .inl (cB, 400, .inl (aB (nup tp i (tp i ^^^ x)))))] H := hP
  have hD : va_D A [(t0, .inr (2, [.ref t1, .int (nI len)])), (t1, .inl (cB, 400, .inl (aB (nup tp i (tp i ^^^ x)))))] := hD
  subst hAe
  subst hQ
  exact W.vret hx hb hr (fun t ht hW => ⟨⟨(), rfl, trivial, by rw [ht]; exact hP.sub [0, 1] rfl, hD.sub [0, 1] (by decide) rfl⟩, hS.F ht⟩) hS.2.2 dT_flip_15
def rm_c_T_appendNumber : Room := ({ frames := 2, cells := 0, slots := 0, locals := 43 } : Room)
set_option maxHeartbeats 4000000 in
set_option maxRecDepth 100000 in
theorem c_T_appendNumber (l : Launch) (dC : Nat → ClassId) (dI : Nat → Nat → Nat) (t0 : Nat) (t1 : Nat) (cI : ClassId) (cB : ClassId) (len : Nat) (tp : Nat → Nat) (v : Nat) (dc : Nat) (hl9 : len + 2 ≤ 400) (hv : v < 10000) (hdc : dc < 100) (sz : Nat) : Met l yT_appendNumber wsT_appendNumber rm_c_T_appendNumber (zM (dC, dI) [(cI, .int), (cB, .byte)] [.ref t0, .int (nI v), .int (nI dc)] [(t0, .inr (2, [.ref t1, .int (nI len)])), (t1, .inl (cB, 400, .inl (aB tp)))] sz) (zMv (dC, dI) [(t0, .inr (2, [.ref t1, .int (nI len)])), (t1, .inl (cB, 400, .inl (aB tp)))] [(t0, .inr (2, [.ref t1, .int (nI (len + (anb v dc).length))])), (t1, .inl (cB, 400, .inl (aB (apl tp len (anb v dc)))))] sz (True)) 0 0 (va_A [(t0, .inr (2, [.ref t1, .int (nI len)])), (t1, .inl (cB, 400, .inl (aB tp)))] sz) := by
  refine Met.ofW (cc := cT_appendNumber) (maxL := 3) (ret := none) (by decide) rfl ?_
  intro p e s m args below meth c s₁ Bd hml hv
  obtain ⟨rfl, hsz, hG, hP, hK, hD0⟩ := hv
  subst hsz
  have hx := Bd.exec
  have hb := Bd.bytes
  have hr := Bd.returns
  have hts := atoms_spec (ws := wsT_appendNumber) Bd.pre
  have hw : ∀ w ∈ BIG, w.before _ s = true := fun w h => hts w (List.mem_cons_of_mem _ h)
  have hown : s.vm.findClass RT = some m.cls := findClass_of_methodNamed Bd.named
  have hlocks := Bd.notSynchronized
  have hD := hD0.self (sz := s.heap.size)
  obtain ⟨A, hAe⟩ : ∃ A, A = va_A [(t0, .inr (2, [.ref t1, .int (nI len)])), (t1, .inl (cB, 400, .inl (aB tp)))] s.heap.size := ⟨_, rfl⟩
  have hA : ∀ q : Nat, s.heap.size ≤ q → A q := fun q h => by rw [hAe]; exact Or.inr h
  rw [← hAe] at hG hD
  have hS : va_S A s.heap s.heap [] := va_S.rf
  have hl := lv_entry ([.ref t0, .int (nI v), .int (nI dc)]) (n := 3) (Nat.le_of_ble_eq_true rfl)
  rw [lg_entry_eq]
  generalize (lg_sl ([.ref t0, .int (nI v), .int (nI dc)]) ++ List.replicate (3 - (lg_sl ([.ref t0, .int (nI v), .int (nI dc)])).length) Slot.unset).toArray = ls at hl ⊢
  have hl : lv_has ls 3 [(0, .ref t0), (1, .int (nI v)), (2, .int (nI dc))] := hl
  refine zq_name (fun Q hQ => ?_)
  change W p l e rm_c_T_appendNumber s m _ below meth c _ _ _ _ Q _
  by_cases hq : (dc + 1) / 2 = 2
  · refine lv_iload_n hx hb dT_appendNumber_0 rfl (lv_at hl 2 rfl) ?_
    refine zc_Ri (va_runSN (As := [.int (nI dc)]) (rest := []) ⟨hx, hb, hml, hown, hw⟩ (c_C_bytesOfDigits l dC dI cI cB dc (by omega) s.heap) ⟨va_cnB 1 hw (gC w_co_C_bytesOfDigits) rfl rfl rfl (hG.nm (RT, 78, yC_bytesOfDigits) (List.mem_of_getElem? (i := 3) rfl)) (hw _ w_in_C) (by decide +kernel) ⟨Nat.le_of_ble_eq_true rfl, Nat.le_of_ble_eq_true rfl⟩, hw _ w_st_C_bytesOfDigits, trivial⟩ (zR_S hG hS (hP.sub (ws' := []) [] rfl) hK) rfl rfl hl.1 rfl (lv_room (Nat.le_of_ble_eq_true rfl)) dT_appendNumber_1 ⟨Nat.le_of_ble_eq_true rfl, Nat.le_of_ble_eq_true rfl⟩) hS (fun r_1 locs h_1 hS => ?_)
    subst h_1
    refine lv_iconst (v := nI 2) hx hb dT_appendNumber_4 (by decide) ?_
    refine zi_ne (tgt := 27) hx hb (by omega) (by omega) dT_appendNumber_5 (by decide) (fun q => False.elim ((q hq : False))) (fun c_5 => ?_)
    refine lv_aload_n hx hb dT_appendNumber_8 rfl (lv_at hl 0 rfl) ?_
    refine lv_iload_n hx hb dT_appendNumber_9 rfl (lv_at hl 1 rfl) ?_
    refine lv_sipush (v := nI 1000) hx hb dT_appendNumber_10 (by decide) ?_
    refine zi_div hx hb (by omega) (by omega) (by omega) dT_appendNumber_13 ?_
    refine lv_bipush (v := nI 10) hx hb dT_appendNumber_14 (by decide) ?_
    refine zi_rem hx hb (by omega) (by omega) (by omega) dT_appendNumber_16 ?_
    refine lv_iload_n hx hb dT_appendNumber_17 rfl (lv_at hl 1 rfl) ?_
    refine lv_bipush (v := nI 100) hx hb dT_appendNumber_18 (by decide) ?_
    refine zi_div hx hb (by omega) (by omega) (by omega) dT_appendNumber_20 ?_
    refine lv_bipush (v := nI 10) hx hb dT_appendNumber_21 (by decide) ?_
    refine zi_rem hx hb (by omega) (by omega) (by omega) dT_appendNumber_23 ?_
    have hPc := hP.sub (ws' := [(t0, .inr (2, [.ref t1, .int (nI len)])), (t1, .inl (cB, 400, .inl (aB tp)))]) [0, 1] rfl
    have hDc := hD.sub (ws' := [(t0, .inr (2, [.ref t1, .int (nI len)])), (t1, .inl (cB, 400, .inl (aB tp)))]) [0, 1] (by decide) rfl
    have hFc := va_free (wc := [(t0, .inr (2, [.ref t1, .int (nI len)])), (t1, .inl (cB, 400, .inl (aB tp)))]) hD hS hA [0, 1] rfl
    refine zc_Mv (va_runV (As := [.int (nI ((v / 1000) % 10)), .int (nI ((v / 100) % 10))]) (rest := []) ⟨hx, hb, hml, hown, hw⟩ (c_T_appendPair l dC dI t0 t1 cI cB len tp ((v / 1000) % 10) ((v / 100) % 10) (by omega) (by omega) (by omega) s.heap.size) (cwV 2 hw (gV w_ml_T_81 w_im_T_appendPair w_se_T_appendPair w_in_T w_co_T_appendPair) rfl rfl rfl (by decide +kernel) ⟨Nat.le_of_ble_eq_true rfl, Nat.le_of_ble_eq_true rfl⟩) (zM_V hG hS hFc hPc hDc hK 0 rfl rfl) rfl rfl hl.1 rfl (lv_room (Nat.le_of_ble_eq_true rfl)) dT_appendNumber_24 ⟨Nat.le_of_ble_eq_true rfl, Nat.le_of_ble_eq_true rfl⟩) hS hFc (fun H locs h_24 hP1 hD1 hk1 hS => ?_)
    obtain ⟨hP, hD⟩ := va_join (wr := []) (w1 := [(t0, .inr (2, [.ref t1, .int (nI (len + 1))])), (t1, .inl (cB, 400, .inl (aB (nup tp len (((v / 1000) % 10) * 16 + ((v / 100) % 10))))))]) hP hD [0, 1] [] rfl rfl (by decide) (by decide) hk1 hFc hP1 hD1
    have hP : va_P (dC, dI) vwCl [(t0, .inr (2, [.ref t1, .int (nI (len + 1))])), (t1, .inl (cB, 400, .inl (aB (nup tp len (((v / 1000) % 10) * 16 + ((v / 100) % 10))))))] H := hP
    have hD : va_D A [(t0, .inr (2, [.ref t1, .int (nI (len + 1))])), (t1, .inl (cB, 400, .inl (aB (nup tp len (((v / 1000) % 10) * 16 + ((v / 100) % 10))))))] := hD
    refine lv_aload_n hx hb dT_appendNumber_27 rfl (lv_at hl 0 rfl) ?_
    refine lv_iload_n hx hb dT_appendNumber_28 rfl (lv_at hl 1 rfl) ?_
    refine lv_bipush (v := nI 10) hx hb dT_appendNumber_29 (by decide) ?_
    refine zi_div hx hb (by omega) (by omega) (by omega) dT_appendNumber_31 ?_
    refine lv_bipush (v := nI 10) hx hb dT_appendNumber_32 (by decide) ?_
    refine zi_rem hx hb (by omega) (by omega) (by omega) dT_appendNumber_34 ?_
    refine lv_iload_n hx hb dT_appendNumber_35 rfl (lv_at hl 1 rfl) ?_
    refine lv_bipush (v := nI 10) hx hb dT_appendNumber_36 (by decide) ?_
    refine zi_rem hx hb (by omega) (by omega) (by omega) dT_appendNumber_38 ?_
    have hPc := hP.sub (ws' := [(t0, .inr (2, [.ref t1, .int (nI (len + 1))])), (t1, .inl (cB, 400, .inl (aB (nup tp len (((v / 1000) % 10) * 16 + ((v / 100) % 10))))))]) [0, 1] rfl
    have hDc := hD.sub (ws' := [(t0, .inr (2, [.ref t1, .int (nI (len + 1))])), (t1, .inl (cB, 400, .inl (aB (nup tp len (((v / 1000) % 10) * 16 + ((v / 100) % 10))))))]) [0, 1] (by decide) rfl
    have hFc := va_free (wc := [(t0, .inr (2, [.ref t1, .int (nI (len + 1))])), (t1, .inl (cB, 400, .inl (aB (nup tp len (((v / 1000) % 10) * 16 + ((v / 100) % 10))))))]) hD hS hA [0, 1] rfl
    refine zc_Mv (va_runV (As := [.int (nI ((v / 10) % 10)), .int (nI (v % 10))]) (rest := []) ⟨hx, hb, hml, hown, hw⟩ (c_T_appendPair l dC dI t0 t1 cI cB (len + 1) (nup tp len (((v / 1000) % 10) * 16 + ((v / 100) % 10))) ((v / 10) % 10) (v % 10) (by omega) (by omega) (by omega) H.size) (cwV 2 hw (gV w_ml_T_81 w_im_T_appendPair w_se_T_appendPair w_in_T w_co_T_appendPair) rfl rfl rfl (by decide +kernel) ⟨Nat.le_of_ble_eq_true rfl, Nat.le_of_ble_eq_true rfl⟩) (zM_V hG hS hFc hPc hDc hK 0 rfl rfl) rfl rfl hl.1 rfl (lv_room (Nat.le_of_ble_eq_true rfl)) dT_appendNumber_39 ⟨Nat.le_of_ble_eq_true rfl, Nat.le_of_ble_eq_true rfl⟩) hS hFc (fun H locs h_39 hP1 hD1 hk1 hS => ?_)
    obtain ⟨hP, hD⟩ := va_join (wr := []) (w1 := [(t0, .inr (2, [.ref t1, .int (nI ((len + 1) + 1))])), (t1, .inl (cB, 400, .inl (aB (nup (nup tp len (((v / 1000) % 10) * 16 + ((v / 100) % 10))) (len + 1) (((v / 10) % 10) * 16 + (v % 10))))))]) hP hD [0, 1] [] rfl rfl (by decide) (by decide) hk1 hFc hP1 hD1
    have hP : va_P (dC, dI) vwCl [(t0, .inr (2, [.ref t1, .int (nI ((len + 1) + 1))])), (t1, .inl (cB, 400, .inl (aB (nup (nup tp len (((v / 1000) % 10) * 16 + ((v / 100) % 10))) (len + 1) (((v / 10) % 10) * 16 + (v % 10))))))] H := hP
    have hD : va_D A [(t0, .inr (2, [.ref t1, .int (nI ((len + 1) + 1))])), (t1, .inl (cB, 400, .inl (aB (nup (nup tp len (((v / 1000) % 10) * 16 + ((v / 100) % 10))) (len + 1) (((v / 10) % 10) * 16 + (v % 10))))))] := hD
    have e9 : anb v dc = [v / 1000 % 10 * 16 + v / 100 % 10, v / 10 % 10 * 16 + v % 10] := by unfold anb; rw [if_pos hq]; rfl
    rw [e9] at hQ
    subst hAe
    subst hQ
    exact W.vret hx hb hr (fun t ht hW => ⟨⟨(), rfl, trivial, by rw [ht]; exact hP.sub [0, 1] rfl, hD.sub [0, 1] (by decide) rfl⟩, hS.F ht⟩) hS.2.2 dT_appendNumber_42
  · refine lv_iload_n hx hb dT_appendNumber_0 rfl (lv_at hl 2 rfl) ?_
    refine zc_Ri (va_runSN (As := [.int (nI dc)]) (rest := []) ⟨hx, hb, hml, hown, hw⟩ (c_C_bytesOfDigits l dC dI cI cB dc (by omega) s.heap) ⟨va_cnB 1 hw (gC w_co_C_bytesOfDigits) rfl rfl rfl (hG.nm (RT, 78, yC_bytesOfDigits) (List.mem_of_getElem? (i := 3) rfl)) (hw _ w_in_C) (by decide +kernel) ⟨Nat.le_of_ble_eq_true rfl, Nat.le_of_ble_eq_true rfl⟩, hw _ w_st_C_bytesOfDigits, trivial⟩ (zR_S hG hS (hP.sub (ws' := []) [] rfl) hK) rfl rfl hl.1 rfl (lv_room (Nat.le_of_ble_eq_true rfl)) dT_appendNumber_1 ⟨Nat.le_of_ble_eq_true rfl, Nat.le_of_ble_eq_true rfl⟩) hS (fun r_4 locs h_1 hS => ?_)
    subst h_1
    refine lv_iconst (v := nI 2) hx hb dT_appendNumber_4 (by decide) ?_
    refine zi_ne (tgt := 27) hx hb (by omega) (by omega) dT_appendNumber_5 (by decide) (fun c_5 => ?_) (fun q => False.elim ((hq q : False)))
    refine lv_aload_n hx hb dT_appendNumber_27 rfl (lv_at hl 0 rfl) ?_
    refine lv_iload_n hx hb dT_appendNumber_28 rfl (lv_at hl 1 rfl) ?_
    refine lv_bipush (v := nI 10) hx hb dT_appendNumber_29 (by decide) ?_
    refine zi_div hx hb (by omega) (by omega) (by omega) dT_appendNumber_31 ?_
    refine lv_bipush (v := nI 10) hx hb dT_appendNumber_32 (by decide) ?_
    refine zi_rem hx hb (by omega) (by omega) (by omega) dT_appendNumber_34 ?_
    refine lv_iload_n hx hb dT_appendNumber_35 rfl (lv_at hl 1 rfl) ?_
    refine lv_bipush (v := nI 10) hx hb dT_appendNumber_36 (by decide) ?_
    refine zi_rem hx hb (by omega) (by omega) (by omega) dT_appendNumber_38 ?_
    have hPc := hP.sub (ws' := [(t0, .inr (2, [.ref t1, .int (nI len)])), (t1, .inl (cB, 400, .inl (aB tp)))]) [0, 1] rfl
    have hDc := hD.sub (ws' := [(t0, .inr (2, [.ref t1, .int (nI len)])), (t1, .inl (cB, 400, .inl (aB tp)))]) [0, 1] (by decide) rfl
    have hFc := va_free (wc := [(t0, .inr (2, [.ref t1, .int (nI len)])), (t1, .inl (cB, 400, .inl (aB tp)))]) hD hS hA [0, 1] rfl
    refine zc_Mv (va_runV (As := [.int (nI ((v / 10) % 10)), .int (nI (v % 10))]) (rest := []) ⟨hx, hb, hml, hown, hw⟩ (c_T_appendPair l dC dI t0 t1 cI cB len tp ((v / 10) % 10) (v % 10) (by omega) (by omega) (by omega) s.heap.size) (cwV 2 hw (gV w_ml_T_81 w_im_T_appendPair w_se_T_appendPair w_in_T w_co_T_appendPair) rfl rfl rfl (by decide +kernel) ⟨Nat.le_of_ble_eq_true rfl, Nat.le_of_ble_eq_true rfl⟩) (zM_V hG hS hFc hPc hDc hK 0 rfl rfl) rfl rfl hl.1 rfl (lv_room (Nat.le_of_ble_eq_true rfl)) dT_appendNumber_39 ⟨Nat.le_of_ble_eq_true rfl, Nat.le_of_ble_eq_true rfl⟩) hS hFc (fun H locs h_39 hP1 hD1 hk1 hS => ?_)
    obtain ⟨hP, hD⟩ := va_join (wr := []) (w1 := [(t0, .inr (2, [.ref t1, .int (nI (len + 1))])), (t1, .inl (cB, 400, .inl (aB (nup tp len (((v / 10) % 10) * 16 + (v % 10))))))]) hP hD [0, 1] [] rfl rfl (by decide) (by decide) hk1 hFc hP1 hD1
    have hP : va_P (dC, dI) vwCl [(t0, .inr (2, [.ref t1, .int (nI (len + 1))])), (t1, .inl (cB, 400, .inl (aB (nup tp len (((v / 10) % 10) * 16 + (v % 10))))))] H := hP
    have hD : va_D A [(t0, .inr (2, [.ref t1, .int (nI (len + 1))])), (t1, .inl (cB, 400, .inl (aB (nup tp len (((v / 10) % 10) * 16 + (v % 10))))))] := hD
    have e9 : anb v dc = [v / 10 % 10 * 16 + v % 10] := by unfold anb; rw [if_neg hq]; rfl
    rw [e9] at hQ
    subst hAe
    subst hQ
    exact W.vret hx hb hr (fun t ht hW => ⟨⟨(), rfl, trivial, by rw [ht]; exact hP.sub [0, 1] rfl, hD.sub [0, 1] (by decide) rfl⟩, hS.F ht⟩) hS.2.2 dT_appendNumber_42
def rm_c_T_appendLetters : Room := ({ frames := 1, cells := 0, slots := 0, locals := 22 } : Room)
set_option maxHeartbeats 4000000 in
set_option maxRecDepth 100000 in
theorem c_T_appendLetters (l : Launch) (dC : Nat → ClassId) (dI : Nat → Nat → Nat) (t0 : Nat) (t1 : Nat) (cI : ClassId) (cB : ClassId) (len : Nat) (tp : Nat → Nat) (h0 : Nat) (h1 : Nat) (h2 : Nat) (ty : Nat) (mk : Nat → Nat) (sl : Nat) (ct : Nat) (hl9 : len + ct ≤ 400) (hs : sl < 16) (hk : fFM sl + ct ≤ 208) (hm : ∀ j, mk j < 128) (sz : Nat) : Met l yT_appendLetters wsT_appendLetters rm_c_T_appendLetters (zM (dC, dI) [(cI, .int), (cB, .byte)] [.ref t0, .ref h0, .int (nI sl), .int (nI ct)] [(t0, .inr (2, [.ref t1, .int (nI len)])), (t1, .inl (cB, 400, .inl (aB tp))), (h0, .inr (0, [.int (nI ty), .ref h1, .ref h2])), (h2, .inl (cB, 208, .inl (aN mk)))] sz) (zMv (dC, dI) [(t0, .inr (2, [.ref t1, .int (nI len)])), (t1, .inl (cB, 400, .inl (aB tp))), (h0, .inr (0, [.int (nI ty), .ref h1, .ref h2])), (h2, .inl (cB, 208, .inl (aN mk)))] [(t0, .inr (2, [.ref t1, .int (nI (len + (lB mk (fFM sl) ct 0).length))])), (t1, .inl (cB, 400, .inl (aB (apl tp len (lB mk (fFM sl) ct 0))))), (h0, .inr (0, [.int (nI ty), .ref h1, .ref h2])), (h2, .inl (cB, 208, .inl (aN mk)))] sz (True)) 0 0 (va_A [(t0, .inr (2, [.ref t1, .int (nI len)])), (t1, .inl (cB, 400, .inl (aB tp))), (h0, .inr (0, [.int (nI ty), .ref h1, .ref h2])), (h2, .inl (cB, 208, .inl (aN mk)))] sz) := by
  refine Met.ofW (cc := cT_appendLetters) (maxL := 5) (ret := none) (by decide) rfl ?_
  intro p e s m args below meth c s₁ Bd hml hv
  obtain ⟨rfl, hsz, hG, hP, hK, hD0⟩ := hv
  subst hsz
  have hx := Bd.exec
  have hb := Bd.bytes
  have hr := Bd.returns
  have hts := atoms_spec (ws := wsT_appendLetters) Bd.pre
  have hw : ∀ w ∈ BIG, w.before _ s = true := fun w h => hts w (List.mem_cons_of_mem _ h)
  have hown : s.vm.findClass RT = some m.cls := findClass_of_methodNamed Bd.named
  have hlocks := Bd.notSynchronized
  have hD := hD0.self (sz := s.heap.size)
  obtain ⟨A, hAe⟩ : ∃ A, A = va_A [(t0, .inr (2, [.ref t1, .int (nI len)])), (t1, .inl (cB, 400, .inl (aB tp))), (h0, .inr (0, [.int (nI ty), .ref h1, .ref h2])), (h2, .inl (cB, 208, .inl (aN mk)))] s.heap.size := ⟨_, rfl⟩
  have hA : ∀ q : Nat, s.heap.size ≤ q → A q := fun q h => by rw [hAe]; exact Or.inr h
  rw [← hAe] at hG hD
  have hS : va_S A s.heap s.heap [] := va_S.rf
  have hl := lv_entry ([.ref t0, .ref h0, .int (nI sl), .int (nI ct)]) (n := 5) (Nat.le_of_ble_eq_true rfl)
  rw [lg_entry_eq]
  generalize (lg_sl ([.ref t0, .ref h0, .int (nI sl), .int (nI ct)]) ++ List.replicate (5 - (lg_sl ([.ref t0, .ref h0, .int (nI sl), .int (nI ct)])).length) Slot.unset).toArray = ls at hl ⊢
  have hl : lv_has ls 5 [(0, .ref t0), (1, .ref h0), (2, .int (nI sl)), (3, .int (nI ct))] := hl
  refine zq_name (fun Q hQ => ?_)
  change W p l e rm_c_T_appendLetters s m _ below meth c _ _ _ _ Q _
  refine lv_iconst (v := nI 0) hx hb dT_appendLetters_0 (by decide) ?_
  refine lv_istore (lv' := [(4, .int (nI 0)), (0, .ref t0), (1, .ref h0), (2, .int (nI sl)), (3, .int (nI ct))]) hx hb dT_appendLetters_1 hl (by decide) rfl (fun ls hl => ?_)
  have lp_3 : ∀ (fu : Nat) (k : Nat) (q : Nat) (f : Nat → Nat) (hkc : k ≤ ct) (hq : q = len + k) (hi : apl f q (lB mk (fFM sl) (ct - k) k) = apl tp len (lB mk (fFM sl) ct 0)) (hms : ct - k < fu) (H : Heap) (locs : List Loc) (ls : Array Slot), lv_has ls 5 [(0, .ref t0), (1, .ref h0), (2, .int (nI sl)), (3, .int (nI ct)), (4, .int (nI k))] → va_P (dC, dI) vwCl [(t0, .inr (2, [.ref t1, .int (nI q)])), (t1, .inl (cB, 400, .inl (aB f))), (h0, .inr (0, [.int (nI ty), .ref h1, .ref h2])), (h2, .inl (cB, 208, .inl (aN mk)))] H → va_D A [(t0, .inr (2, [.ref t1, .int (nI q)])), (t1, .inl (cB, 400, .inl (aB f))), (h0, .inr (0, [.int (nI ty), .ref h1, .ref h2])), (h2, .inl (cB, 208, .inl (aN mk)))] → va_S A s.heap H locs → W p l e rm_c_T_appendLetters s m ([.ref t0, .ref h0, .int (nI sl), .int (nI ct)] : List Value).toArray below meth c H locs 0 0 Q (F0 m 3 ls []) := by
    intro fu
    induction fu with
    | zero => intro k q f hkc hq hi hms; exact absurd hms (Nat.not_lt_zero _)
    | succ fu ih3 =>
      intro k q f hkc hq hi hms H locs ls hl hP hD hS
      refine lv_iload hx hb dT_appendLetters_3 (lv_at hl 4 rfl) ?_
      refine lv_iload_n hx hb dT_appendLetters_5 rfl (lv_at hl 3 rfl) ?_
      refine zi_ge (tgt := 26) hx hb (by omega) (by omega) dT_appendLetters_6 (by decide) (fun c_6 => ?_) (fun c_6 => ?_)
      · have hi : f = apl tp len (lB mk (fFM sl) ct 0) := by have h9 := hi; rw [show ct - k = 0 by omega] at h9; exact h9
        have hq : q = len + (lB mk (fFM sl) ct 0).length := by rw [lB_len]; omega
        subst hi
        subst hq
        subst hAe
        subst hQ
        exact W.vret hx hb hr (fun t ht hW => ⟨⟨(), rfl, trivial, by rw [ht]; exact hP.sub [0, 1, 2, 3] rfl, hD.sub [0, 1, 2, 3] (by decide) rfl⟩, hS.F ht⟩) hS.2.2 dT_appendLetters_26
      · refine lv_aload_n hx hb dT_appendLetters_9 rfl (lv_at hl 0 rfl) ?_
        refine lv_aload_n hx hb dT_appendLetters_10 rfl (lv_at hl 1 rfl) ?_
        refine lv_iload_n hx hb dT_appendLetters_11 rfl (lv_at hl 2 rfl) ?_
        refine lv_iload hx hb dT_appendLetters_12 (lv_at hl 4 rfl) ?_
        refine zc_Ri (va_runV (As := [.int (nI sl), .int (nI k)]) (rest := [.ref t0]) ⟨hx, hb, hml, hown, hw⟩ (c_D_mark l dC dI h0 h1 h2 cI cB ty mk sl k (by omega) (by omega) H) (cwV 2 hw (gV w_ml_T_84 w_im_D_mark w_se_D_mark w_in_D w_co_D_mark) rfl rfl rfl (by decide +kernel) ⟨Nat.le_of_ble_eq_true rfl, Nat.le_of_ble_eq_true rfl⟩) (zR_V hG hS (hP.sub (ws' := [(h0, .inr (0, [.int (nI ty), .ref h1, .ref h2])), (h2, .inl (cB, 208, .inl (aN mk)))]) [2, 3] rfl) hK 0 rfl rfl) rfl rfl hl.1 rfl (lv_room (Nat.le_of_ble_eq_true rfl)) dT_appendLetters_14 ⟨Nat.le_of_ble_eq_true rfl, Nat.le_of_ble_eq_true rfl⟩) hS (fun r_1 locs h_14 hS => ?_)
        subst h_14
        have hPc := hP.sub (ws' := [(t0, .inr (2, [.ref t1, .int (nI q)])), (t1, .inl (cB, 400, .inl (aB f)))]) [0, 1] rfl
        have hDc := hD.sub (ws' := [(t0, .inr (2, [.ref t1, .int (nI q)])), (t1, .inl (cB, 400, .inl (aB f)))]) [0, 1] (by decide) rfl
        have hFc := va_free (wc := [(t0, .inr (2, [.ref t1, .int (nI q)])), (t1, .inl (cB, 400, .inl (aB f)))]) hD hS hA [0, 1] rfl
        refine zc_Mv (va_runV (As := [.int (nI (mk (fFM sl + k)))]) (rest := []) ⟨hx, hb, hml, hown, hw⟩ (c_T_append l dC dI t0 t1 cI cB q f (mk (fFM sl + k)) (by omega) H.size) (cwV 1 hw (gV w_ml_T_44 w_im_T_append w_se_T_append w_in_T w_co_T_append) rfl rfl rfl (by decide +kernel) ⟨Nat.le_of_ble_eq_true rfl, Nat.le_of_ble_eq_true rfl⟩) (zM_V hG hS hFc hPc hDc hK 0 rfl rfl) rfl rfl hl.1 rfl (lv_room (Nat.le_of_ble_eq_true rfl)) dT_appendLetters_17 ⟨Nat.le_of_ble_eq_true rfl, Nat.le_of_ble_eq_true rfl⟩) hS hFc (fun H locs h_17 hP1 hD1 hk1 hS => ?_)
        obtain ⟨hP, hD⟩ := va_join (wr := [(h0, .inr (0, [.int (nI ty), .ref h1, .ref h2])), (h2, .inl (cB, 208, .inl (aN mk)))]) (w1 := [(t0, .inr (2, [.ref t1, .int (nI (q + 1))])), (t1, .inl (cB, 400, .inl (aB (nup f q (mk (fFM sl + k))))))]) hP hD [0, 1] [2, 3] rfl rfl (by decide) (by decide) hk1 hFc hP1 hD1
        have hP : va_P (dC, dI) vwCl [(h0, .inr (0, [.int (nI ty), .ref h1, .ref h2])), (h2, .inl (cB, 208, .inl (aN mk))), (t0, .inr (2, [.ref t1, .int (nI (q + 1))])), (t1, .inl (cB, 400, .inl (aB (nup f q (mk (fFM sl + k))))))] H := hP
        have hD : va_D A [(h0, .inr (0, [.int (nI ty), .ref h1, .ref h2])), (h2, .inl (cB, 208, .inl (aN mk))), (t0, .inr (2, [.ref t1, .int (nI (q + 1))])), (t1, .inl (cB, 400, .inl (aB (nup f q (mk (fFM sl + k))))))] := hD
        refine lv_iinc (v := nI (k + 1)) (lv' := [(4, .int (nI (k + 1))), (0, .ref t0), (1, .ref h0), (2, .int (nI sl)), (3, .int (nI ct))]) hx hb dT_appendLetters_20 hl (k := 4) rfl (zi_incr k 1) (by decide) rfl (fun ls hl => ?_)
        refine lv_goto (tgt := 3) hx hb dT_appendLetters_23 (by decide) ?_
        exact ih3 (k + 1) (q + 1) (nup f q (mk (fFM sl + k))) (by omega) (by omega) (by have h9 := hi; rw [show ct - k = ct - (k + 1) + 1 by omega] at h9; exact h9) (by omega) _ _ _ (lv_sub hl [1, 2, 3, 4, 0] rfl) (hP.sub [2, 3, 0, 1] rfl) (hD.sub [2, 3, 0, 1] (by decide) rfl) hS
  exact lp_3 ((ct - 0) + 1) 0 len tp (by omega) (by omega) rfl (Nat.lt_succ_self _) _ _ _ (lv_sub hl [1, 2, 3, 4, 0] rfl) (hP.sub [0, 1, 2, 3] rfl) (hD.sub [0, 1, 2, 3] (by decide) rfl) hS
def rm_c_T_appendDigits : Room := ({ frames := 2, cells := 0, slots := 0, locals := 43 } : Room)
set_option maxHeartbeats 4000000 in
set_option maxRecDepth 100000 in
theorem c_T_appendDigits (l : Launch) (dC : Nat → ClassId) (dI : Nat → Nat → Nat) (t0 : Nat) (t1 : Nat) (cI : ClassId) (cB : ClassId) (len : Nat) (tp : Nat → Nat) (h0 : Nat) (h1 : Nat) (h2 : Nat) (ty : Nat) (mk : Nat → Nat) (sl : Nat) (ct : Nat) (hl9 : len + (ct + 1) / 2 ≤ 400) (hs : sl < 16) (hk : fFM sl + ct ≤ 208) (hg : ∀ j, j < ct → mk (fFM sl + j) < 16) (sz : Nat) : Met l yT_appendDigits wsT_appendDigits rm_c_T_appendDigits (zM (dC, dI) [(cI, .int), (cB, .byte)] [.ref t0, .ref h0, .int (nI sl), .int (nI ct)] [(t0, .inr (2, [.ref t1, .int (nI len)])), (t1, .inl (cB, 400, .inl (aB tp))), (h0, .inr (0, [.int (nI ty), .ref h1, .ref h2])), (h2, .inl (cB, 208, .inl (aN mk)))] sz) (zMv (dC, dI) [(t0, .inr (2, [.ref t1, .int (nI len)])), (t1, .inl (cB, 400, .inl (aB tp))), (h0, .inr (0, [.int (nI ty), .ref h1, .ref h2])), (h2, .inl (cB, 208, .inl (aN mk)))] [(t0, .inr (2, [.ref t1, .int (nI (len + (dgB mk (fFM sl) ct).length))])), (t1, .inl (cB, 400, .inl (aB (apl tp len (dgB mk (fFM sl) ct))))), (h0, .inr (0, [.int (nI ty), .ref h1, .ref h2])), (h2, .inl (cB, 208, .inl (aN mk)))] sz (True)) 0 0 (va_A [(t0, .inr (2, [.ref t1, .int (nI len)])), (t1, .inl (cB, 400, .inl (aB tp))), (h0, .inr (0, [.int (nI ty), .ref h1, .ref h2])), (h2, .inl (cB, 208, .inl (aN mk)))] sz) := by
  refine Met.ofW (cc := cT_appendDigits) (maxL := 6) (ret := none) (by decide) rfl ?_
  intro p e s m args below meth c s₁ Bd hml hv
  obtain ⟨rfl, hsz, hG, hP, hK, hD0⟩ := hv
  subst hsz
  have hx := Bd.exec
  have hb := Bd.bytes
  have hr := Bd.returns
  have hts := atoms_spec (ws := wsT_appendDigits) Bd.pre
  have hw : ∀ w ∈ BIG, w.before _ s = true := fun w h => hts w (List.mem_cons_of_mem _ h)
  have hown : s.vm.findClass RT = some m.cls := findClass_of_methodNamed Bd.named
  have hlocks := Bd.notSynchronized
  have hD := hD0.self (sz := s.heap.size)
  obtain ⟨A, hAe⟩ : ∃ A, A = va_A [(t0, .inr (2, [.ref t1, .int (nI len)])), (t1, .inl (cB, 400, .inl (aB tp))), (h0, .inr (0, [.int (nI ty), .ref h1, .ref h2])), (h2, .inl (cB, 208, .inl (aN mk)))] s.heap.size := ⟨_, rfl⟩
  have hA : ∀ q : Nat, s.heap.size ≤ q → A q := fun q h => by rw [hAe]; exact Or.inr h
  rw [← hAe] at hG hD
  have hS : va_S A s.heap s.heap [] := va_S.rf
  have hl := lv_entry ([.ref t0, .ref h0, .int (nI sl), .int (nI ct)]) (n := 6) (Nat.le_of_ble_eq_true rfl)
  rw [lg_entry_eq]
  generalize (lg_sl ([.ref t0, .ref h0, .int (nI sl), .int (nI ct)]) ++ List.replicate (6 - (lg_sl ([.ref t0, .ref h0, .int (nI sl), .int (nI ct)])).length) Slot.unset).toArray = ls at hl ⊢
  have hl : lv_has ls 6 [(0, .ref t0), (1, .ref h0), (2, .int (nI sl)), (3, .int (nI ct))] := hl
  refine zq_name (fun Q hQ => ?_)
  change W p l e rm_c_T_appendDigits s m _ below meth c _ _ _ _ Q _
  refine lv_iload_n hx hb dT_appendDigits_0 rfl (lv_at hl 3 rfl) ?_
  refine lv_iconst (v := nI 2) hx hb dT_appendDigits_1 (by decide) ?_
  refine zi_rem hx hb (by omega) (by omega) (by omega) dT_appendDigits_2 ?_
  refine lv_istore (lv' := [(4, .int (nI (ct % 2))), (0, .ref t0), (1, .ref h0), (2, .int (nI sl)), (3, .int (nI ct))]) hx hb dT_appendDigits_3 hl (by decide) rfl (fun ls hl => ?_)
  refine lv_iload hx hb dT_appendDigits_5 (lv_at hl 0 rfl) ?_
  refine zi_eq0 (tgt := 21) hx hb (by omega) dT_appendDigits_7 (by decide) (fun c_7 => ?_) (fun c_7 => ?_)
  · refine lv_iload hx hb dT_appendDigits_21 (lv_at hl 0 rfl) ?_
    refine lv_istore (lv' := [(5, .int (nI (ct % 2))), (4, .int (nI (ct % 2))), (0, .ref t0), (1, .ref h0), (2, .int (nI sl)), (3, .int (nI ct))]) hx hb dT_appendDigits_23 hl (by decide) rfl (fun ls hl => ?_)
    have lp_25 : ∀ (fu : Nat) (n : Nat) (k : Nat) (q : Nat) (f : Nat → Nat) (hkn : k + 2 * n = ct) (hq : q + n = len + (dgB mk (fFM sl) ct).length) (hi : apl f q (pB mk (fFM sl) n k) = apl tp len (dgB mk (fFM sl) ct)) (hms : n < fu) (H : Heap) (locs : List Loc) (ls : Array Slot), lv_has ls 6 [(0, .ref t0), (1, .ref h0), (2, .int (nI sl)), (3, .int (nI ct)), (5, .int (nI k))] → va_P (dC, dI) vwCl [(t0, .inr (2, [.ref t1, .int (nI q)])), (t1, .inl (cB, 400, .inl (aB f))), (h0, .inr (0, [.int (nI ty), .ref h1, .ref h2])), (h2, .inl (cB, 208, .inl (aN mk)))] H → va_D A [(t0, .inr (2, [.ref t1, .int (nI q)])), (t1, .inl (cB, 400, .inl (aB f))), (h0, .inr (0, [.int (nI ty), .ref h1, .ref h2])), (h2, .inl (cB, 208, .inl (aN mk)))] → va_S A s.heap H locs → W p l e rm_c_T_appendDigits s m ([.ref t0, .ref h0, .int (nI sl), .int (nI ct)] : List Value).toArray below meth c H locs 0 0 Q (F0 m 25 ls []) := by
      intro fu
      induction fu with
      | zero => intro n k q f hkn hq hi hms; exact absurd hms (Nat.not_lt_zero _)
      | succ fu ih25 =>
        intro n k q f hkn hq hi hms H locs ls hl hP hD hS
        have hdl := dgB_len mk (fFM sl) ct
        refine lv_iload hx hb dT_appendDigits_25 (lv_at hl 4 rfl) ?_
        refine lv_iconst (v := nI 1) hx hb dT_appendDigits_27 (by decide) ?_
        refine zi_add hx hb dT_appendDigits_28 ?_
        refine lv_iload_n hx hb dT_appendDigits_29 rfl (lv_at hl 3 rfl) ?_
        refine zi_ge (tgt := 59) hx hb (by omega) (by omega) dT_appendDigits_30 (by decide) (fun c_30 => ?_) (fun c_30 => ?_)
        · obtain rfl : n = 0 := by omega
          have hi : f = apl tp len (dgB mk (fFM sl) ct) := hi
          have hq : q = len + (dgB mk (fFM sl) ct).length := hq
          subst hi
          subst hq
          subst hAe
          subst hQ
          exact W.vret hx hb hr (fun t ht hW => ⟨⟨(), rfl, trivial, by rw [ht]; exact hP.sub [0, 1, 2, 3] rfl, hD.sub [0, 1, 2, 3] (by decide) rfl⟩, hS.F ht⟩) hS.2.2 dT_appendDigits_59
        · obtain ⟨n1, rfl⟩ : ∃ n1, n = n1 + 1 := ⟨n - 1, by omega⟩
          have hg1 := hg k (by omega)
          have hg2 := hg (k + 1) (by omega)
          refine lv_aload_n hx hb dT_appendDigits_33 rfl (lv_at hl 0 rfl) ?_
          refine lv_aload_n hx hb dT_appendDigits_34 rfl (lv_at hl 1 rfl) ?_
          refine lv_iload_n hx hb dT_appendDigits_35 rfl (lv_at hl 2 rfl) ?_
          refine lv_iload hx hb dT_appendDigits_36 (lv_at hl 4 rfl) ?_
          refine zc_Ri (va_runV (As := [.int (nI sl), .int (nI k)]) (rest := [.ref t0]) ⟨hx, hb, hml, hown, hw⟩ (c_D_mark l dC dI h0 h1 h2 cI cB ty mk sl k (by omega) (by omega) H) (cwV 2 hw (gV w_ml_T_84 w_im_D_mark w_se_D_mark w_in_D w_co_D_mark) rfl rfl rfl (by decide +kernel) ⟨Nat.le_of_ble_eq_true rfl, Nat.le_of_ble_eq_true rfl⟩) (zR_V hG hS (hP.sub (ws' := [(h0, .inr (0, [.int (nI ty), .ref h1, .ref h2])), (h2, .inl (cB, 208, .inl (aN mk)))]) [2, 3] rfl) hK 0 rfl rfl) rfl rfl hl.1 rfl (lv_room (Nat.le_of_ble_eq_true rfl)) dT_appendDigits_38 ⟨Nat.le_of_ble_eq_true rfl, Nat.le_of_ble_eq_true rfl⟩) hS (fun r_1 locs h_38 hS => ?_)
          subst h_38
          refine lv_aload_n hx hb dT_appendDigits_41 rfl (lv_at hl 1 rfl) ?_
          refine lv_iload_n hx hb dT_appendDigits_42 rfl (lv_at hl 2 rfl) ?_
          refine lv_iload hx hb dT_appendDigits_43 (lv_at hl 4 rfl) ?_
          refine lv_iconst (v := nI 1) hx hb dT_appendDigits_45 (by decide) ?_
          refine zi_add hx hb dT_appendDigits_46 ?_
          refine zc_Ri (va_runV (As := [.int (nI sl), .int (nI (k + 1))]) (rest := [.int (nI (mk (fFM sl + k))), .ref t0]) ⟨hx, hb, hml, hown, hw⟩ (c_D_mark l dC dI h0 h1 h2 cI cB ty mk sl (k + 1) (by omega) (by omega) H) (cwV 2 hw (gV w_ml_T_84 w_im_D_mark w_se_D_mark w_in_D w_co_D_mark) rfl rfl rfl (by decide +kernel) ⟨Nat.le_of_ble_eq_true rfl, Nat.le_of_ble_eq_true rfl⟩) (zR_V hG hS (hP.sub (ws' := [(h0, .inr (0, [.int (nI ty), .ref h1, .ref h2])), (h2, .inl (cB, 208, .inl (aN mk)))]) [2, 3] rfl) hK 0 rfl rfl) rfl rfl hl.1 rfl (lv_room (Nat.le_of_ble_eq_true rfl)) dT_appendDigits_47 ⟨Nat.le_of_ble_eq_true rfl, Nat.le_of_ble_eq_true rfl⟩) hS (fun r_2 locs h_47 hS => ?_)
          subst h_47
          have hPc := hP.sub (ws' := [(t0, .inr (2, [.ref t1, .int (nI q)])), (t1, .inl (cB, 400, .inl (aB f)))]) [0, 1] rfl
          have hDc := hD.sub (ws' := [(t0, .inr (2, [.ref t1, .int (nI q)])), (t1, .inl (cB, 400, .inl (aB f)))]) [0, 1] (by decide) rfl
          have hFc := va_free (wc := [(t0, .inr (2, [.ref t1, .int (nI q)])), (t1, .inl (cB, 400, .inl (aB f)))]) hD hS hA [0, 1] rfl
          refine zc_Mv (va_runV (As := [.int (nI (mk (fFM sl + k))), .int (nI (mk (fFM sl + (k + 1))))]) (rest := []) ⟨hx, hb, hml, hown, hw⟩ (c_T_appendPair l dC dI t0 t1 cI cB q f (mk (fFM sl + k)) (mk (fFM sl + (k + 1))) (by omega) hg1 hg2 H.size) (cwV 2 hw (gV w_ml_T_81 w_im_T_appendPair w_se_T_appendPair w_in_T w_co_T_appendPair) rfl rfl rfl (by decide +kernel) ⟨Nat.le_of_ble_eq_true rfl, Nat.le_of_ble_eq_true rfl⟩) (zM_V hG hS hFc hPc hDc hK 0 rfl rfl) rfl rfl hl.1 rfl (lv_room (Nat.le_of_ble_eq_true rfl)) dT_appendDigits_50 ⟨Nat.le_of_ble_eq_true rfl, Nat.le_of_ble_eq_true rfl⟩) hS hFc (fun H locs h_50 hP1 hD1 hk1 hS => ?_)
          obtain ⟨hP, hD⟩ := va_join (wr := [(h0, .inr (0, [.int (nI ty), .ref h1, .ref h2])), (h2, .inl (cB, 208, .inl (aN mk)))]) (w1 := [(t0, .inr (2, [.ref t1, .int (nI (q + 1))])), (t1, .inl (cB, 400, .inl (aB (nup f q ((mk (fFM sl + k)) * 16 + (mk (fFM sl + (k + 1))))))))]) hP hD [0, 1] [2, 3] rfl rfl (by decide) (by decide) hk1 hFc hP1 hD1
          have hP : va_P (dC, dI) vwCl [(h0, .inr (0, [.int (nI ty), .ref h1, .ref h2])), (h2, .inl (cB, 208, .inl (aN mk))), (t0, .inr (2, [.ref t1, .int (nI (q + 1))])), (t1, .inl (cB, 400, .inl (aB (nup f q ((mk (fFM sl + k)) * 16 + (mk (fFM sl + (k + 1))))))))] H := hP
          have hD : va_D A [(h0, .inr (0, [.int (nI ty), .ref h1, .ref h2])), (h2, .inl (cB, 208, .inl (aN mk))), (t0, .inr (2, [.ref t1, .int (nI (q + 1))])), (t1, .inl (cB, 400, .inl (aB (nup f q ((mk (fFM sl + k)) * 16 + (mk (fFM sl + (k + 1))))))))] := hD
          refine lv_iinc (v := nI (k + 2)) (lv' := [(5, .int (nI (k + 2))), (0, .ref t0), (1, .ref h0), (2, .int (nI sl)), (3, .int (nI ct))]) hx hb dT_appendDigits_53 hl (k := 4) rfl (zi_incr k 2) (by decide) rfl (fun ls hl => ?_)
          refine lv_goto (tgt := 25) hx hb dT_appendDigits_56 (by decide) ?_
          exact ih25 n1 (k + 2) (q + 1) (nup f q ((mk (fFM sl + k)) * 16 + (mk (fFM sl + (k + 1))))) (by omega) (by omega) hi (by omega) _ _ _ (lv_sub hl [1, 2, 3, 4, 0] rfl) (hP.sub [2, 3, 0, 1] rfl) (hD.sub [2, 3, 0, 1] (by decide) rfl) hS
    exact lp_25 ((ct / 2) + 1) (ct / 2) (ct % 2) len tp (by omega) (by rw [dgB_len]; omega) (by unfold dgB; first | (rw [if_pos c_7]; rfl) | (rw [if_neg c_7]; rfl)) (Nat.lt_succ_self _) _ _ _ (lv_sub hl [2, 3, 4, 5, 0] rfl) (hP.sub [0, 1, 2, 3] rfl) (hD.sub [0, 1, 2, 3] (by decide) rfl) hS
  · have hg0 := hg 0 (by omega)
    refine lv_aload_n hx hb dT_appendDigits_10 rfl (lv_at hl 1 rfl) ?_
    refine lv_iconst (v := nI 0) hx hb dT_appendDigits_11 (by decide) ?_
    refine lv_aload_n hx hb dT_appendDigits_12 rfl (lv_at hl 2 rfl) ?_
    refine lv_iload_n hx hb dT_appendDigits_13 rfl (lv_at hl 3 rfl) ?_
    refine lv_iconst (v := nI 0) hx hb dT_appendDigits_14 (by decide) ?_
    refine zc_Ri (va_runV (As := [.int (nI sl), .int (nI 0)]) (rest := [.int (nI 0), .ref t0]) ⟨hx, hb, hml, hown, hw⟩ (c_D_mark l dC dI h0 h1 h2 cI cB ty mk sl 0 (by omega) (by omega) s.heap) (cwV 2 hw (gV w_ml_T_84 w_im_D_mark w_se_D_mark w_in_D w_co_D_mark) rfl rfl rfl (by decide +kernel) ⟨Nat.le_of_ble_eq_true rfl, Nat.le_of_ble_eq_true rfl⟩) (zR_V hG hS (hP.sub (ws' := [(h0, .inr (0, [.int (nI ty), .ref h1, .ref h2])), (h2, .inl (cB, 208, .inl (aN mk)))]) [2, 3] rfl) hK 0 rfl rfl) rfl rfl hl.1 rfl (lv_room (Nat.le_of_ble_eq_true rfl)) dT_appendDigits_15 ⟨Nat.le_of_ble_eq_true rfl, Nat.le_of_ble_eq_true rfl⟩) hS (fun r_4 locs h_15 hS => ?_)
    subst h_15
    have hPc := hP.sub (ws' := [(t0, .inr (2, [.ref t1, .int (nI len)])), (t1, .inl (cB, 400, .inl (aB tp)))]) [0, 1] rfl
    have hDc := hD.sub (ws' := [(t0, .inr (2, [.ref t1, .int (nI len)])), (t1, .inl (cB, 400, .inl (aB tp)))]) [0, 1] (by decide) rfl
    have hFc := va_free (wc := [(t0, .inr (2, [.ref t1, .int (nI len)])), (t1, .inl (cB, 400, .inl (aB tp)))]) hD hS hA [0, 1] rfl
    refine zc_Mv (va_runV (As := [.int (nI 0), .int (nI (mk (fFM sl + 0)))]) (rest := []) ⟨hx, hb, hml, hown, hw⟩ (c_T_appendPair l dC dI t0 t1 cI cB len tp 0 (mk (fFM sl + 0)) (by omega) (by omega) hg0 s.heap.size) (cwV 2 hw (gV w_ml_T_81 w_im_T_appendPair w_se_T_appendPair w_in_T w_co_T_appendPair) rfl rfl rfl (by decide +kernel) ⟨Nat.le_of_ble_eq_true rfl, Nat.le_of_ble_eq_true rfl⟩) (zM_V hG hS hFc hPc hDc hK 0 rfl rfl) rfl rfl hl.1 rfl (lv_room (Nat.le_of_ble_eq_true rfl)) dT_appendDigits_18 ⟨Nat.le_of_ble_eq_true rfl, Nat.le_of_ble_eq_true rfl⟩) hS hFc (fun H locs h_18 hP1 hD1 hk1 hS => ?_)
    obtain ⟨hP, hD⟩ := va_join (wr := [(h0, .inr (0, [.int (nI ty), .ref h1, .ref h2])), (h2, .inl (cB, 208, .inl (aN mk)))]) (w1 := [(t0, .inr (2, [.ref t1, .int (nI (len + 1))])), (t1, .inl (cB, 400, .inl (aB (nup tp len (0 * 16 + (mk (fFM sl + 0)))))))]) hP hD [0, 1] [2, 3] rfl rfl (by decide) (by decide) hk1 hFc hP1 hD1
    have hP : va_P (dC, dI) vwCl [(h0, .inr (0, [.int (nI ty), .ref h1, .ref h2])), (h2, .inl (cB, 208, .inl (aN mk))), (t0, .inr (2, [.ref t1, .int (nI (len + 1))])), (t1, .inl (cB, 400, .inl (aB (nup tp len (0 * 16 + (mk (fFM sl + 0)))))))] H := hP
    have hD : va_D A [(h0, .inr (0, [.int (nI ty), .ref h1, .ref h2])), (h2, .inl (cB, 208, .inl (aN mk))), (t0, .inr (2, [.ref t1, .int (nI (len + 1))])), (t1, .inl (cB, 400, .inl (aB (nup tp len (0 * 16 + (mk (fFM sl + 0)))))))] := hD
    refine lv_iload hx hb dT_appendDigits_21 (lv_at hl 0 rfl) ?_
    refine lv_istore (lv' := [(5, .int (nI (ct % 2))), (4, .int (nI (ct % 2))), (0, .ref t0), (1, .ref h0), (2, .int (nI sl)), (3, .int (nI ct))]) hx hb dT_appendDigits_23 hl (by decide) rfl (fun ls hl => ?_)
    have lp_25 : ∀ (fu : Nat) (n : Nat) (k : Nat) (q : Nat) (f : Nat → Nat) (hkn : k + 2 * n = ct) (hq : q + n = len + (dgB mk (fFM sl) ct).length) (hi : apl f q (pB mk (fFM sl) n k) = apl tp len (dgB mk (fFM sl) ct)) (hms : n < fu) (H : Heap) (locs : List Loc) (ls : Array Slot), lv_has ls 6 [(0, .ref t0), (1, .ref h0), (2, .int (nI sl)), (3, .int (nI ct)), (5, .int (nI k))] → va_P (dC, dI) vwCl [(h0, .inr (0, [.int (nI ty), .ref h1, .ref h2])), (h2, .inl (cB, 208, .inl (aN mk))), (t0, .inr (2, [.ref t1, .int (nI q)])), (t1, .inl (cB, 400, .inl (aB f)))] H → va_D A [(h0, .inr (0, [.int (nI ty), .ref h1, .ref h2])), (h2, .inl (cB, 208, .inl (aN mk))), (t0, .inr (2, [.ref t1, .int (nI q)])), (t1, .inl (cB, 400, .inl (aB f)))] → va_S A s.heap H locs → W p l e rm_c_T_appendDigits s m ([.ref t0, .ref h0, .int (nI sl), .int (nI ct)] : List Value).toArray below meth c H locs 0 0 Q (F0 m 25 ls []) := by
      intro fu
      induction fu with
      | zero => intro n k q f hkn hq hi hms; exact absurd hms (Nat.not_lt_zero _)
      | succ fu ih25 =>
        intro n k q f hkn hq hi hms H locs ls hl hP hD hS
        have hdl := dgB_len mk (fFM sl) ct
        refine lv_iload hx hb dT_appendDigits_25 (lv_at hl 4 rfl) ?_
        refine lv_iconst (v := nI 1) hx hb dT_appendDigits_27 (by decide) ?_
        refine zi_add hx hb dT_appendDigits_28 ?_
        refine lv_iload_n hx hb dT_appendDigits_29 rfl (lv_at hl 3 rfl) ?_
        refine zi_ge (tgt := 59) hx hb (by omega) (by omega) dT_appendDigits_30 (by decide) (fun c_30 => ?_) (fun c_30 => ?_)
        · obtain rfl : n = 0 := by omega
          have hi : f = apl tp len (dgB mk (fFM sl) ct) := hi
          have hq : q = len + (dgB mk (fFM sl) ct).length := hq
          subst hi
          subst hq
          subst hAe
          subst hQ
          exact W.vret hx hb hr (fun t ht hW => ⟨⟨(), rfl, trivial, by rw [ht]; exact hP.sub [2, 3, 0, 1] rfl, hD.sub [2, 3, 0, 1] (by decide) rfl⟩, hS.F ht⟩) hS.2.2 dT_appendDigits_59
        · obtain ⟨n1, rfl⟩ : ∃ n1, n = n1 + 1 := ⟨n - 1, by omega⟩
          have hg1 := hg k (by omega)
          have hg2 := hg (k + 1) (by omega)
          refine lv_aload_n hx hb dT_appendDigits_33 rfl (lv_at hl 0 rfl) ?_
          refine lv_aload_n hx hb dT_appendDigits_34 rfl (lv_at hl 1 rfl) ?_
          refine lv_iload_n hx hb dT_appendDigits_35 rfl (lv_at hl 2 rfl) ?_
          refine lv_iload hx hb dT_appendDigits_36 (lv_at hl 4 rfl) ?_
          refine zc_Ri (va_runV (As := [.int (nI sl), .int (nI k)]) (rest := [.ref t0]) ⟨hx, hb, hml, hown, hw⟩ (c_D_mark l dC dI h0 h1 h2 cI cB ty mk sl k (by omega) (by omega) H) (cwV 2 hw (gV w_ml_T_84 w_im_D_mark w_se_D_mark w_in_D w_co_D_mark) rfl rfl rfl (by decide +kernel) ⟨Nat.le_of_ble_eq_true rfl, Nat.le_of_ble_eq_true rfl⟩) (zR_V hG hS (hP.sub (ws' := [(h0, .inr (0, [.int (nI ty), .ref h1, .ref h2])), (h2, .inl (cB, 208, .inl (aN mk)))]) [0, 1] rfl) hK 0 rfl rfl) rfl rfl hl.1 rfl (lv_room (Nat.le_of_ble_eq_true rfl)) dT_appendDigits_38 ⟨Nat.le_of_ble_eq_true rfl, Nat.le_of_ble_eq_true rfl⟩) hS (fun r_6 locs h_38 hS => ?_)
          subst h_38
          refine lv_aload_n hx hb dT_appendDigits_41 rfl (lv_at hl 1 rfl) ?_
          refine lv_iload_n hx hb dT_appendDigits_42 rfl (lv_at hl 2 rfl) ?_
          refine lv_iload hx hb dT_appendDigits_43 (lv_at hl 4 rfl) ?_
          refine lv_iconst (v := nI 1) hx hb dT_appendDigits_45 (by decide) ?_
          refine zi_add hx hb dT_appendDigits_46 ?_
          refine zc_Ri (va_runV (As := [.int (nI sl), .int (nI (k + 1))]) (rest := [.int (nI (mk (fFM sl + k))), .ref t0]) ⟨hx, hb, hml, hown, hw⟩ (c_D_mark l dC dI h0 h1 h2 cI cB ty mk sl (k + 1) (by omega) (by omega) H) (cwV 2 hw (gV w_ml_T_84 w_im_D_mark w_se_D_mark w_in_D w_co_D_mark) rfl rfl rfl (by decide +kernel) ⟨Nat.le_of_ble_eq_true rfl, Nat.le_of_ble_eq_true rfl⟩) (zR_V hG hS (hP.sub (ws' := [(h0, .inr (0, [.int (nI ty), .ref h1, .ref h2])), (h2, .inl (cB, 208, .inl (aN mk)))]) [0, 1] rfl) hK 0 rfl rfl) rfl rfl hl.1 rfl (lv_room (Nat.le_of_ble_eq_true rfl)) dT_appendDigits_47 ⟨Nat.le_of_ble_eq_true rfl, Nat.le_of_ble_eq_true rfl⟩) hS (fun r_7 locs h_47 hS => ?_)
          subst h_47
          have hPc := hP.sub (ws' := [(t0, .inr (2, [.ref t1, .int (nI q)])), (t1, .inl (cB, 400, .inl (aB f)))]) [2, 3] rfl
          have hDc := hD.sub (ws' := [(t0, .inr (2, [.ref t1, .int (nI q)])), (t1, .inl (cB, 400, .inl (aB f)))]) [2, 3] (by decide) rfl
          have hFc := va_free (wc := [(t0, .inr (2, [.ref t1, .int (nI q)])), (t1, .inl (cB, 400, .inl (aB f)))]) hD hS hA [2, 3] rfl
          refine zc_Mv (va_runV (As := [.int (nI (mk (fFM sl + k))), .int (nI (mk (fFM sl + (k + 1))))]) (rest := []) ⟨hx, hb, hml, hown, hw⟩ (c_T_appendPair l dC dI t0 t1 cI cB q f (mk (fFM sl + k)) (mk (fFM sl + (k + 1))) (by omega) hg1 hg2 H.size) (cwV 2 hw (gV w_ml_T_81 w_im_T_appendPair w_se_T_appendPair w_in_T w_co_T_appendPair) rfl rfl rfl (by decide +kernel) ⟨Nat.le_of_ble_eq_true rfl, Nat.le_of_ble_eq_true rfl⟩) (zM_V hG hS hFc hPc hDc hK 0 rfl rfl) rfl rfl hl.1 rfl (lv_room (Nat.le_of_ble_eq_true rfl)) dT_appendDigits_50 ⟨Nat.le_of_ble_eq_true rfl, Nat.le_of_ble_eq_true rfl⟩) hS hFc (fun H locs h_50 hP1 hD1 hk1 hS => ?_)
          obtain ⟨hP, hD⟩ := va_join (wr := [(h0, .inr (0, [.int (nI ty), .ref h1, .ref h2])), (h2, .inl (cB, 208, .inl (aN mk)))]) (w1 := [(t0, .inr (2, [.ref t1, .int (nI (q + 1))])), (t1, .inl (cB, 400, .inl (aB (nup f q ((mk (fFM sl + k)) * 16 + (mk (fFM sl + (k + 1))))))))]) hP hD [2, 3] [0, 1] rfl rfl (by decide) (by decide) hk1 hFc hP1 hD1
          have hP : va_P (dC, dI) vwCl [(h0, .inr (0, [.int (nI ty), .ref h1, .ref h2])), (h2, .inl (cB, 208, .inl (aN mk))), (t0, .inr (2, [.ref t1, .int (nI (q + 1))])), (t1, .inl (cB, 400, .inl (aB (nup f q ((mk (fFM sl + k)) * 16 + (mk (fFM sl + (k + 1))))))))] H := hP
          have hD : va_D A [(h0, .inr (0, [.int (nI ty), .ref h1, .ref h2])), (h2, .inl (cB, 208, .inl (aN mk))), (t0, .inr (2, [.ref t1, .int (nI (q + 1))])), (t1, .inl (cB, 400, .inl (aB (nup f q ((mk (fFM sl + k)) * 16 + (mk (fFM sl + (k + 1))))))))] := hD
          refine lv_iinc (v := nI (k + 2)) (lv' := [(5, .int (nI (k + 2))), (0, .ref t0), (1, .ref h0), (2, .int (nI sl)), (3, .int (nI ct))]) hx hb dT_appendDigits_53 hl (k := 4) rfl (zi_incr k 2) (by decide) rfl (fun ls hl => ?_)
          refine lv_goto (tgt := 25) hx hb dT_appendDigits_56 (by decide) ?_
          exact ih25 n1 (k + 2) (q + 1) (nup f q ((mk (fFM sl + k)) * 16 + (mk (fFM sl + (k + 1))))) (by omega) (by omega) hi (by omega) _ _ _ (lv_sub hl [1, 2, 3, 4, 0] rfl) (hP.sub [0, 1, 2, 3] rfl) (hD.sub [0, 1, 2, 3] (by decide) rfl) hS
    exact lp_25 ((ct / 2) + 1) (ct / 2) (ct % 2) (len + 1) (nup tp len (0 * 16 + (mk (fFM sl + 0)))) (by omega) (by rw [dgB_len]; omega) (by unfold dgB; first | (rw [if_pos c_7]; rfl) | (rw [if_neg c_7]; rfl)) (Nat.lt_succ_self _) _ _ _ (lv_sub hl [2, 3, 4, 5, 0] rfl) (hP.sub [0, 1, 2, 3] rfl) (hD.sub [0, 1, 2, 3] (by decide) rfl) hS
def rm_c_T_appendField : Room := ({ frames := 3, cells := 0, slots := 0, locals := 68 } : Room)
set_option maxHeartbeats 4000000 in
set_option maxRecDepth 100000 in
theorem c_T_appendField (l : Launch) (dC : Nat → ClassId) (dI : Nat → Nat → Nat) (t0 : Nat) (t1 : Nat) (cI : ClassId) (cB : ClassId) (len : Nat) (tp : Nat → Nat) (h0 : Nat) (h1 : Nat) (h2 : Nat) (ty : Nat) (cnt : Nat → Nat) (mk : Nat → Nat) (sl : Nat) (hl9 : len + 44 ≤ 400) (hs : sl < 16) (hct : cnt sl ≤ fMM sl) (hm : ∀ j, mk j < 128) (hg : fHL sl = 0 → ∀ j, j < cnt sl → mk (fFM sl + j) < 16) (sz : Nat) : Met l yT_appendField wsT_appendField rm_c_T_appendField (zM (dC, dI) [(cI, .int), (cB, .byte)] [.ref t0, .ref h0, .int (nI sl)] [(t0, .inr (2, [.ref t1, .int (nI len)])), (t1, .inl (cB, 400, .inl (aB tp))), (h0, .inr (0, [.int (nI ty), .ref h1, .ref h2])), (h1, .inl (cI, 16, .inl (aN cnt))), (h2, .inl (cB, 208, .inl (aN mk)))] sz) (zMv (dC, dI) [(t0, .inr (2, [.ref t1, .int (nI len)])), (t1, .inl (cB, 400, .inl (aB tp))), (h0, .inr (0, [.int (nI ty), .ref h1, .ref h2])), (h1, .inl (cI, 16, .inl (aN cnt))), (h2, .inl (cB, 208, .inl (aN mk)))] [(t0, .inr (2, [.ref t1, .int (nI (len + (fldB cnt mk sl).length))])), (t1, .inl (cB, 400, .inl (aB (apl tp len (fldB cnt mk sl))))), (h0, .inr (0, [.int (nI ty), .ref h1, .ref h2])), (h1, .inl (cI, 16, .inl (aN cnt))), (h2, .inl (cB, 208, .inl (aN mk)))] sz (True)) 0 0 (va_A [(t0, .inr (2, [.ref t1, .int (nI len)])), (t1, .inl (cB, 400, .inl (aB tp))), (h0, .inr (0, [.int (nI ty), .ref h1, .ref h2])), (h1, .inl (cI, 16, .inl (aN cnt))), (h2, .inl (cB, 208, .inl (aN mk)))] sz) := by
  refine Met.ofW (cc := cT_appendField) (maxL := 4) (ret := none) (by decide) rfl ?_
  intro p e s m args below meth c s₁ Bd hml hv
  obtain ⟨rfl, hsz, hG, hP, hK, hD0⟩ := hv
  subst hsz
  have hx := Bd.exec
  have hb := Bd.bytes
  have hr := Bd.returns
  have hts := atoms_spec (ws := wsT_appendField) Bd.pre
  have hw : ∀ w ∈ BIG, w.before _ s = true := fun w h => hts w (List.mem_cons_of_mem _ h)
  have hown : s.vm.findClass RT = some m.cls := findClass_of_methodNamed Bd.named
  have hlocks := Bd.notSynchronized
  have hD := hD0.self (sz := s.heap.size)
  obtain ⟨A, hAe⟩ : ∃ A, A = va_A [(t0, .inr (2, [.ref t1, .int (nI len)])), (t1, .inl (cB, 400, .inl (aB tp))), (h0, .inr (0, [.int (nI ty), .ref h1, .ref h2])), (h1, .inl (cI, 16, .inl (aN cnt))), (h2, .inl (cB, 208, .inl (aN mk)))] s.heap.size := ⟨_, rfl⟩
  have hA : ∀ q : Nat, s.heap.size ≤ q → A q := fun q h => by rw [hAe]; exact Or.inr h
  rw [← hAe] at hG hD
  have hS : va_S A s.heap s.heap [] := va_S.rf
  have hl := lv_entry ([.ref t0, .ref h0, .int (nI sl)]) (n := 4) (Nat.le_of_ble_eq_true rfl)
  rw [lg_entry_eq]
  generalize (lg_sl ([.ref t0, .ref h0, .int (nI sl)]) ++ List.replicate (4 - (lg_sl ([.ref t0, .ref h0, .int (nI sl)])).length) Slot.unset).toArray = ls at hl ⊢
  have hl : lv_has ls 4 [(0, .ref t0), (1, .ref h0), (2, .int (nI sl))] := hl
  refine zq_name (fun Q hQ => ?_)
  change W p l e rm_c_T_appendField s m _ below meth c _ _ _ _ Q _
  obtain ⟨tfCD, zfCD, afCD⟩ := hG.COUNT_DIGITS
  obtain ⟨tfHL, zfHL, afHL⟩ := hG.HAS_LETTERS
  have hcd := fCD_b sl hs
  have hmm := fMM_b sl hs
  have hfm := fFM_b sl hs
  have hhl := fHL_b sl hs
  have hal := anb_le (cnt sl) (fCD sl)
  refine lv_aload_n hx hb dT_appendField_0 rfl (lv_at hl 1 rfl) ?_
  refine va_get (D := (dC, dI)) (ci := 0) (v := .ref h1) (C := RD) (T := TD) (N := 3) hx hb hw inD hown hK hP 2 rfl rfl 1 (by decide) (hw _ w_fl_T_62) (fun _ h9 => h9) rfl dT_appendField_1 ?_
  refine lv_iload_n hx hb dT_appendField_4 rfl (lv_at hl 2 rfl) ?_
  refine za_ild hx hb hK hP 3 0 rfl rfl (by omega) (by decide) dT_appendField_5 ?_
  refine lv_istore_n (lv' := [(3, .int (nI (cnt sl))), (0, .ref t0), (1, .ref h0), (2, .int (nI sl))]) hx hb dT_appendField_6 rfl hl (by decide) rfl (fun ls hl => ?_)
  refine va_getsN hx hb zfCD hS hown (va_Nw.use rfl (hG.nf (RT, 65, "COUNT_DIGITS") (List.mem_of_getElem? (i := 1) rfl))) (fun _ h9 => h9) dT_appendField_7 ?_
  refine lv_iload_n hx hb dT_appendField_10 rfl (lv_at hl 3 rfl) ?_
  refine za_tab hx hb afCD hS (by omega) (by decide) dT_appendField_11 ?_
  refine zi_eq0 (tgt := 25) hx hb (by omega) dT_appendField_12 (by decide) (fun c_12 => ?_) (fun c_12 => ?_)
  · refine va_getsN hx hb zfHL hS hown (va_Nw.use rfl (hG.nf (RT, 68, "HAS_LETTERS") (List.mem_of_getElem? (i := 2) rfl))) (fun _ h9 => h9) dT_appendField_25 ?_
    refine lv_iload_n hx hb dT_appendField_28 rfl (lv_at hl 3 rfl) ?_
    refine za_tab hx hb afHL hS (by omega) (by decide) dT_appendField_29 ?_
    refine zi_eq0 (tgt := 43) hx hb (by omega) dT_appendField_30 (by decide) (fun c_30 => ?_) (fun c_30 => ?_)
    · refine lv_aload_n hx hb dT_appendField_43 rfl (lv_at hl 1 rfl) ?_
      refine lv_aload_n hx hb dT_appendField_44 rfl (lv_at hl 2 rfl) ?_
      refine lv_iload_n hx hb dT_appendField_45 rfl (lv_at hl 3 rfl) ?_
      refine lv_iload_n hx hb dT_appendField_46 rfl (lv_at hl 0 rfl) ?_
      have hPc := hP.sub (ws' := [(t0, .inr (2, [.ref t1, .int (nI len)])), (t1, .inl (cB, 400, .inl (aB tp))), (h0, .inr (0, [.int (nI ty), .ref h1, .ref h2])), (h2, .inl (cB, 208, .inl (aN mk)))]) [0, 1, 2, 4] rfl
      have hDc := hD.sub (ws' := [(t0, .inr (2, [.ref t1, .int (nI len)])), (t1, .inl (cB, 400, .inl (aB tp))), (h0, .inr (0, [.int (nI ty), .ref h1, .ref h2])), (h2, .inl (cB, 208, .inl (aN mk)))]) [0, 1, 2, 4] (by decide) rfl
      have hFc := va_free (wc := [(t0, .inr (2, [.ref t1, .int (nI len)])), (t1, .inl (cB, 400, .inl (aB tp))), (h0, .inr (0, [.int (nI ty), .ref h1, .ref h2])), (h2, .inl (cB, 208, .inl (aN mk)))]) hD hS hA [0, 1, 2, 4] rfl
      refine zc_Mv (va_runV (As := [.ref h0, .int (nI sl), .int (nI (cnt sl))]) (rest := []) ⟨hx, hb, hml, hown, hw⟩ (c_T_appendDigits l dC dI t0 t1 cI cB len tp h0 h1 h2 ty mk sl (cnt sl) (by omega) (by omega) (by omega) (hg c_30) s.heap.size) (cwV 3 hw (gV w_ml_T_75 w_im_T_appendDigits w_se_T_appendDigits w_in_T w_co_T_appendDigits) rfl rfl rfl (by decide +kernel) ⟨Nat.le_of_ble_eq_true rfl, Nat.le_of_ble_eq_true rfl⟩) (zM_V hG hS hFc hPc hDc hK 0 rfl rfl) rfl rfl hl.1 rfl (lv_room (Nat.le_of_ble_eq_true rfl)) dT_appendField_47 ⟨Nat.le_of_ble_eq_true rfl, Nat.le_of_ble_eq_true rfl⟩) hS hFc (fun H locs h_47 hP1 hD1 hk1 hS => ?_)
      obtain ⟨hP, hD⟩ := va_join (wr := [(h1, .inl (cI, 16, .inl (aN cnt)))]) (w1 := [(t0, .inr (2, [.ref t1, .int (nI (len + (dgB mk (fFM sl) (cnt sl)).length))])), (t1, .inl (cB, 400, .inl (aB (apl tp len (dgB mk (fFM sl) (cnt sl)))))), (h0, .inr (0, [.int (nI ty), .ref h1, .ref h2])), (h2, .inl (cB, 208, .inl (aN mk)))]) hP hD [0, 1, 2, 4] [3] rfl rfl (by decide) (by decide) hk1 hFc hP1 hD1
      have hP : va_P (dC, dI) vwCl [(h1, .inl (cI, 16, .inl (aN cnt))), (t0, .inr (2, [.ref t1, .int (nI (len + (dgB mk (fFM sl) (cnt sl)).length))])), (t1, .inl (cB, 400, .inl (aB (apl tp len (dgB mk (fFM sl) (cnt sl)))))), (h0, .inr (0, [.int (nI ty), .ref h1, .ref h2])), (h2, .inl (cB, 208, .inl (aN mk)))] H := hP
      have hD : va_D A [(h1, .inl (cI, 16, .inl (aN cnt))), (t0, .inr (2, [.ref t1, .int (nI (len + (dgB mk (fFM sl) (cnt sl)).length))])), (t1, .inl (cB, 400, .inl (aB (apl tp len (dgB mk (fFM sl) (cnt sl)))))), (h0, .inr (0, [.int (nI ty), .ref h1, .ref h2])), (h2, .inl (cB, 208, .inl (aN mk)))] := hD
      have e9 : fldB cnt mk sl = dgB mk (fFM sl) (cnt sl) := by unfold fldB; rw [if_pos c_12, if_pos c_30]; rfl
      rw [e9] at hQ
      subst hAe
      subst hQ
      exact W.vret hx hb hr (fun t ht hW => ⟨⟨(), rfl, trivial, by rw [ht]; exact hP.sub [1, 2, 3, 0, 4] rfl, hD.sub [1, 2, 3, 0, 4] (by decide) rfl⟩, hS.F ht⟩) hS.2.2 dT_appendField_50
    · refine lv_aload_n hx hb dT_appendField_33 rfl (lv_at hl 1 rfl) ?_
      refine lv_aload_n hx hb dT_appendField_34 rfl (lv_at hl 2 rfl) ?_
      refine lv_iload_n hx hb dT_appendField_35 rfl (lv_at hl 3 rfl) ?_
      refine lv_iload_n hx hb dT_appendField_36 rfl (lv_at hl 0 rfl) ?_
      have hPc := hP.sub (ws' := [(t0, .inr (2, [.ref t1, .int (nI len)])), (t1, .inl (cB, 400, .inl (aB tp))), (h0, .inr (0, [.int (nI ty), .ref h1, .ref h2])), (h2, .inl (cB, 208, .inl (aN mk)))]) [0, 1, 2, 4] rfl
      have hDc := hD.sub (ws' := [(t0, .inr (2, [.ref t1, .int (nI len)])), (t1, .inl (cB, 400, .inl (aB tp))), (h0, .inr (0, [.int (nI ty), .ref h1, .ref h2])), (h2, .inl (cB, 208, .inl (aN mk)))]) [0, 1, 2, 4] (by decide) rfl
      have hFc := va_free (wc := [(t0, .inr (2, [.ref t1, .int (nI len)])), (t1, .inl (cB, 400, .inl (aB tp))), (h0, .inr (0, [.int (nI ty), .ref h1, .ref h2])), (h2, .inl (cB, 208, .inl (aN mk)))]) hD hS hA [0, 1, 2, 4] rfl
      refine zc_Mv (va_runV (As := [.ref h0, .int (nI sl), .int (nI (cnt sl))]) (rest := []) ⟨hx, hb, hml, hown, hw⟩ (c_T_appendLetters l dC dI t0 t1 cI cB len tp h0 h1 h2 ty mk sl (cnt sl) (by omega) (by omega) (by omega) hm s.heap.size) (cwV 3 hw (gV w_ml_T_71 w_im_T_appendLetters w_se_T_appendLetters w_in_T w_co_T_appendLetters) rfl rfl rfl (by decide +kernel) ⟨Nat.le_of_ble_eq_true rfl, Nat.le_of_ble_eq_true rfl⟩) (zM_V hG hS hFc hPc hDc hK 0 rfl rfl) rfl rfl hl.1 rfl (lv_room (Nat.le_of_ble_eq_true rfl)) dT_appendField_37 ⟨Nat.le_of_ble_eq_true rfl, Nat.le_of_ble_eq_true rfl⟩) hS hFc (fun H locs h_37 hP1 hD1 hk1 hS => ?_)
      obtain ⟨hP, hD⟩ := va_join (wr := [(h1, .inl (cI, 16, .inl (aN cnt)))]) (w1 := [(t0, .inr (2, [.ref t1, .int (nI (len + (lB mk (fFM sl) (cnt sl) 0).length))])), (t1, .inl (cB, 400, .inl (aB (apl tp len (lB mk (fFM sl) (cnt sl) 0))))), (h0, .inr (0, [.int (nI ty), .ref h1, .ref h2])), (h2, .inl (cB, 208, .inl (aN mk)))]) hP hD [0, 1, 2, 4] [3] rfl rfl (by decide) (by decide) hk1 hFc hP1 hD1
      have hP : va_P (dC, dI) vwCl [(h1, .inl (cI, 16, .inl (aN cnt))), (t0, .inr (2, [.ref t1, .int (nI (len + (lB mk (fFM sl) (cnt sl) 0).length))])), (t1, .inl (cB, 400, .inl (aB (apl tp len (lB mk (fFM sl) (cnt sl) 0))))), (h0, .inr (0, [.int (nI ty), .ref h1, .ref h2])), (h2, .inl (cB, 208, .inl (aN mk)))] H := hP
      have hD : va_D A [(h1, .inl (cI, 16, .inl (aN cnt))), (t0, .inr (2, [.ref t1, .int (nI (len + (lB mk (fFM sl) (cnt sl) 0).length))])), (t1, .inl (cB, 400, .inl (aB (apl tp len (lB mk (fFM sl) (cnt sl) 0))))), (h0, .inr (0, [.int (nI ty), .ref h1, .ref h2])), (h2, .inl (cB, 208, .inl (aN mk)))] := hD
      refine lv_goto (tgt := 50) hx hb dT_appendField_40 (by decide) ?_
      have e9 : fldB cnt mk sl = lB mk (fFM sl) (cnt sl) 0 := by unfold fldB; rw [if_pos c_12, if_neg c_30]; rfl
      rw [e9] at hQ
      subst hAe
      subst hQ
      exact W.vret hx hb hr (fun t ht hW => ⟨⟨(), rfl, trivial, by rw [ht]; exact hP.sub [1, 2, 3, 0, 4] rfl, hD.sub [1, 2, 3, 0, 4] (by decide) rfl⟩, hS.F ht⟩) hS.2.2 dT_appendField_50
  · refine lv_aload_n hx hb dT_appendField_15 rfl (lv_at hl 1 rfl) ?_
    refine lv_iload_n hx hb dT_appendField_16 rfl (lv_at hl 0 rfl) ?_
    refine va_getsN hx hb zfCD hS hown (va_Nw.use rfl (hG.nf (RT, 65, "COUNT_DIGITS") (List.mem_of_getElem? (i := 1) rfl))) (fun _ h9 => h9) dT_appendField_17 ?_
    refine lv_iload_n hx hb dT_appendField_20 rfl (lv_at hl 3 rfl) ?_
    refine za_tab hx hb afCD hS (by omega) (by decide) dT_appendField_21 ?_
    have hPc := hP.sub (ws' := [(t0, .inr (2, [.ref t1, .int (nI len)])), (t1, .inl (cB, 400, .inl (aB tp)))]) [0, 1] rfl
    have hDc := hD.sub (ws' := [(t0, .inr (2, [.ref t1, .int (nI len)])), (t1, .inl (cB, 400, .inl (aB tp)))]) [0, 1] (by decide) rfl
    have hFc := va_free (wc := [(t0, .inr (2, [.ref t1, .int (nI len)])), (t1, .inl (cB, 400, .inl (aB tp)))]) hD hS hA [0, 1] rfl
    refine zc_Mv (va_runV (As := [.int (nI (cnt sl)), .int (nI (fCD sl))]) (rest := []) ⟨hx, hb, hml, hown, hw⟩ (c_T_appendNumber l dC dI t0 t1 cI cB len tp (cnt sl) (fCD sl) (by omega) (by omega) (by omega) s.heap.size) (cwV 2 hw (gV w_ml_T_24 w_im_T_appendNumber w_se_T_appendNumber w_in_T w_co_T_appendNumber) rfl rfl rfl (by decide +kernel) ⟨Nat.le_of_ble_eq_true rfl, Nat.le_of_ble_eq_true rfl⟩) (zM_V hG hS hFc hPc hDc hK 0 rfl rfl) rfl rfl hl.1 rfl (lv_room (Nat.le_of_ble_eq_true rfl)) dT_appendField_22 ⟨Nat.le_of_ble_eq_true rfl, Nat.le_of_ble_eq_true rfl⟩) hS hFc (fun H locs h_22 hP1 hD1 hk1 hS => ?_)
    obtain ⟨hP, hD⟩ := va_join (wr := [(h0, .inr (0, [.int (nI ty), .ref h1, .ref h2])), (h1, .inl (cI, 16, .inl (aN cnt))), (h2, .inl (cB, 208, .inl (aN mk)))]) (w1 := [(t0, .inr (2, [.ref t1, .int (nI (len + (anb (cnt sl) (fCD sl)).length))])), (t1, .inl (cB, 400, .inl (aB (apl tp len (anb (cnt sl) (fCD sl))))))]) hP hD [0, 1] [2, 3, 4] rfl rfl (by decide) (by decide) hk1 hFc hP1 hD1
    have hP : va_P (dC, dI) vwCl [(h0, .inr (0, [.int (nI ty), .ref h1, .ref h2])), (h1, .inl (cI, 16, .inl (aN cnt))), (h2, .inl (cB, 208, .inl (aN mk))), (t0, .inr (2, [.ref t1, .int (nI (len + (anb (cnt sl) (fCD sl)).length))])), (t1, .inl (cB, 400, .inl (aB (apl tp len (anb (cnt sl) (fCD sl))))))] H := hP
    have hD : va_D A [(h0, .inr (0, [.int (nI ty), .ref h1, .ref h2])), (h1, .inl (cI, 16, .inl (aN cnt))), (h2, .inl (cB, 208, .inl (aN mk))), (t0, .inr (2, [.ref t1, .int (nI (len + (anb (cnt sl) (fCD sl)).length))])), (t1, .inl (cB, 400, .inl (aB (apl tp len (anb (cnt sl) (fCD sl))))))] := hD
    refine va_getsN hx hb zfHL hS hown (va_Nw.use rfl (hG.nf (RT, 68, "HAS_LETTERS") (List.mem_of_getElem? (i := 2) rfl))) (fun _ h9 => h9) dT_appendField_25 ?_
    refine lv_iload_n hx hb dT_appendField_28 rfl (lv_at hl 3 rfl) ?_
    refine za_tab hx hb afHL hS (by omega) (by decide) dT_appendField_29 ?_
    refine zi_eq0 (tgt := 43) hx hb (by omega) dT_appendField_30 (by decide) (fun c_30 => ?_) (fun c_30 => ?_)
    · refine lv_aload_n hx hb dT_appendField_43 rfl (lv_at hl 1 rfl) ?_
      refine lv_aload_n hx hb dT_appendField_44 rfl (lv_at hl 2 rfl) ?_
      refine lv_iload_n hx hb dT_appendField_45 rfl (lv_at hl 3 rfl) ?_
      refine lv_iload_n hx hb dT_appendField_46 rfl (lv_at hl 0 rfl) ?_
      have hPc := hP.sub (ws' := [(t0, .inr (2, [.ref t1, .int (nI (len + (anb (cnt sl) (fCD sl)).length))])), (t1, .inl (cB, 400, .inl (aB (apl tp len (anb (cnt sl) (fCD sl)))))), (h0, .inr (0, [.int (nI ty), .ref h1, .ref h2])), (h2, .inl (cB, 208, .inl (aN mk)))]) [3, 4, 0, 2] rfl
      have hDc := hD.sub (ws' := [(t0, .inr (2, [.ref t1, .int (nI (len + (anb (cnt sl) (fCD sl)).length))])), (t1, .inl (cB, 400, .inl (aB (apl tp len (anb (cnt sl) (fCD sl)))))), (h0, .inr (0, [.int (nI ty), .ref h1, .ref h2])), (h2, .inl (cB, 208, .inl (aN mk)))]) [3, 4, 0, 2] (by decide) rfl
      have hFc := va_free (wc := [(t0, .inr (2, [.ref t1, .int (nI (len + (anb (cnt sl) (fCD sl)).length))])), (t1, .inl (cB, 400, .inl (aB (apl tp len (anb (cnt sl) (fCD sl)))))), (h0, .inr (0, [.int (nI ty), .ref h1, .ref h2])), (h2, .inl (cB, 208, .inl (aN mk)))]) hD hS hA [3, 4, 0, 2] rfl
      refine zc_Mv (va_runV (As := [.ref h0, .int (nI sl), .int (nI (cnt sl))]) (rest := []) ⟨hx, hb, hml, hown, hw⟩ (c_T_appendDigits l dC dI t0 t1 cI cB (len + (anb (cnt sl) (fCD sl)).length) (apl tp len (anb (cnt sl) (fCD sl))) h0 h1 h2 ty mk sl (cnt sl) (by omega) (by omega) (by omega) (hg c_30) H.size) (cwV 3 hw (gV w_ml_T_75 w_im_T_appendDigits w_se_T_appendDigits w_in_T w_co_T_appendDigits) rfl rfl rfl (by decide +kernel) ⟨Nat.le_of_ble_eq_true rfl, Nat.le_of_ble_eq_true rfl⟩) (zM_V hG hS hFc hPc hDc hK 0 rfl rfl) rfl rfl hl.1 rfl (lv_room (Nat.le_of_ble_eq_true rfl)) dT_appendField_47 ⟨Nat.le_of_ble_eq_true rfl, Nat.le_of_ble_eq_true rfl⟩) hS hFc (fun H locs h_47 hP1 hD1 hk1 hS => ?_)
      obtain ⟨hP, hD⟩ := va_join (wr := [(h1, .inl (cI, 16, .inl (aN cnt)))]) (w1 := [(t0, .inr (2, [.ref t1, .int (nI ((len + (anb (cnt sl) (fCD sl)).length) + (dgB mk (fFM sl) (cnt sl)).length))])), (t1, .inl (cB, 400, .inl (aB (apl (apl tp len (anb (cnt sl) (fCD sl))) (len + (anb (cnt sl) (fCD sl)).length) (dgB mk (fFM sl) (cnt sl)))))), (h0, .inr (0, [.int (nI ty), .ref h1, .ref h2])), (h2, .inl (cB, 208, .inl (aN mk)))]) hP hD [3, 4, 0, 2] [1] rfl rfl (by decide) (by decide) hk1 hFc hP1 hD1
      have hP : va_P (dC, dI) vwCl [(h1, .inl (cI, 16, .inl (aN cnt))), (t0, .inr (2, [.ref t1, .int (nI ((len + (anb (cnt sl) (fCD sl)).length) + (dgB mk (fFM sl) (cnt sl)).length))])), (t1, .inl (cB, 400, .inl (aB (apl (apl tp len (anb (cnt sl) (fCD sl))) (len + (anb (cnt sl) (fCD sl)).length) (dgB mk (fFM sl) (cnt sl)))))), (h0, .inr (0, [.int (nI ty), .ref h1, .ref h2])), (h2, .inl (cB, 208, .inl (aN mk)))] H := hP
      have hD : va_D A [(h1, .inl (cI, 16, .inl (aN cnt))), (t0, .inr (2, [.ref t1, .int (nI ((len + (anb (cnt sl) (fCD sl)).length) + (dgB mk (fFM sl) (cnt sl)).length))])), (t1, .inl (cB, 400, .inl (aB (apl (apl tp len (anb (cnt sl) (fCD sl))) (len + (anb (cnt sl) (fCD sl)).length) (dgB mk (fFM sl) (cnt sl)))))), (h0, .inr (0, [.int (nI ty), .ref h1, .ref h2])), (h2, .inl (cB, 208, .inl (aN mk)))] := hD
      have e9 : fldB cnt mk sl = anb (cnt sl) (fCD sl) ++ dgB mk (fFM sl) (cnt sl) := by unfold fldB; rw [if_neg c_12, if_pos c_30]
      rw [e9, apl_app, List.length_append, ← Nat.add_assoc] at hQ
      subst hAe
      subst hQ
      exact W.vret hx hb hr (fun t ht hW => ⟨⟨(), rfl, trivial, by rw [ht]; exact hP.sub [1, 2, 3, 0, 4] rfl, hD.sub [1, 2, 3, 0, 4] (by decide) rfl⟩, hS.F ht⟩) hS.2.2 dT_appendField_50
    · refine lv_aload_n hx hb dT_appendField_33 rfl (lv_at hl 1 rfl) ?_
      refine lv_aload_n hx hb dT_appendField_34 rfl (lv_at hl 2 rfl) ?_
      refine lv_iload_n hx hb dT_appendField_35 rfl (lv_at hl 3 rfl) ?_
      refine lv_iload_n hx hb dT_appendField_36 rfl (lv_at hl 0 rfl) ?_
      have hPc := hP.sub (ws' := [(t0, .inr (2, [.ref t1, .int (nI (len + (anb (cnt sl) (fCD sl)).length))])), (t1, .inl (cB, 400, .inl (aB (apl tp len (anb (cnt sl) (fCD sl)))))), (h0, .inr (0, [.int (nI ty), .ref h1, .ref h2])), (h2, .inl (cB, 208, .inl (aN mk)))]) [3, 4, 0, 2] rfl
      have hDc := hD.sub (ws' := [(t0, .inr (2, [.ref t1, .int (nI (len + (anb (cnt sl) (fCD sl)).length))])), (t1, .inl (cB, 400, .inl (aB (apl tp len (anb (cnt sl) (fCD sl)))))), (h0, .inr (0, [.int (nI ty), .ref h1, .ref h2])), (h2, .inl (cB, 208, .inl (aN mk)))]) [3, 4, 0, 2] (by decide) rfl
      have hFc := va_free (wc := [(t0, .inr (2, [.ref t1, .int (nI (len + (anb (cnt sl) (fCD sl)).length))])), (t1, .inl (cB, 400, .inl (aB (apl tp len (anb (cnt sl) (fCD sl)))))), (h0, .inr (0, [.int (nI ty), .ref h1, .ref h2])), (h2, .inl (cB, 208, .inl (aN mk)))]) hD hS hA [3, 4, 0, 2] rfl
      refine zc_Mv (va_runV (As := [.ref h0, .int (nI sl), .int (nI (cnt sl))]) (rest := []) ⟨hx, hb, hml, hown, hw⟩ (c_T_appendLetters l dC dI t0 t1 cI cB (len + (anb (cnt sl) (fCD sl)).length) (apl tp len (anb (cnt sl) (fCD sl))) h0 h1 h2 ty mk sl (cnt sl) (by omega) (by omega) (by omega) hm H.size) (cwV 3 hw (gV w_ml_T_71 w_im_T_appendLetters w_se_T_appendLetters w_in_T w_co_T_appendLetters) rfl rfl rfl (by decide +kernel) ⟨Nat.le_of_ble_eq_true rfl, Nat.le_of_ble_eq_true rfl⟩) (zM_V hG hS hFc hPc hDc hK 0 rfl rfl) rfl rfl hl.1 rfl (lv_room (Nat.le_of_ble_eq_true rfl)) dT_appendField_37 ⟨Nat.le_of_ble_eq_true rfl, Nat.le_of_ble_eq_true rfl⟩) hS hFc (fun H locs h_37 hP1 hD1 hk1 hS => ?_)
      obtain ⟨hP, hD⟩ := va_join (wr := [(h1, .inl (cI, 16, .inl (aN cnt)))]) (w1 := [(t0, .inr (2, [.ref t1, .int (nI ((len + (anb (cnt sl) (fCD sl)).length) + (lB mk (fFM sl) (cnt sl) 0).length))])), (t1, .inl (cB, 400, .inl (aB (apl (apl tp len (anb (cnt sl) (fCD sl))) (len + (anb (cnt sl) (fCD sl)).length) (lB mk (fFM sl) (cnt sl) 0))))), (h0, .inr (0, [.int (nI ty), .ref h1, .ref h2])), (h2, .inl (cB, 208, .inl (aN mk)))]) hP hD [3, 4, 0, 2] [1] rfl rfl (by decide) (by decide) hk1 hFc hP1 hD1
      have hP : va_P (dC, dI) vwCl [(h1, .inl (cI, 16, .inl (aN cnt))), (t0, .inr (2, [.ref t1, .int (nI ((len + (anb (cnt sl) (fCD sl)).length) + (lB mk (fFM sl) (cnt sl) 0).length))])), (t1, .inl (cB, 400, .inl (aB (apl (apl tp len (anb (cnt sl) (fCD sl))) (len + (anb (cnt sl) (fCD sl)).length) (lB mk (fFM sl) (cnt sl) 0))))), (h0, .inr (0, [.int (nI ty), .ref h1, .ref h2])), (h2, .inl (cB, 208, .inl (aN mk)))] H := hP
      have hD : va_D A [(h1, .inl (cI, 16, .inl (aN cnt))), (t0, .inr (2, [.ref t1, .int (nI ((len + (anb (cnt sl) (fCD sl)).length) + (lB mk (fFM sl) (cnt sl) 0).length))])), (t1, .inl (cB, 400, .inl (aB (apl (apl tp len (anb (cnt sl) (fCD sl))) (len + (anb (cnt sl) (fCD sl)).length) (lB mk (fFM sl) (cnt sl) 0))))), (h0, .inr (0, [.int (nI ty), .ref h1, .ref h2])), (h2, .inl (cB, 208, .inl (aN mk)))] := hD
      refine lv_goto (tgt := 50) hx hb dT_appendField_40 (by decide) ?_
      have e9 : fldB cnt mk sl = anb (cnt sl) (fCD sl) ++ lB mk (fFM sl) (cnt sl) 0 := by unfold fldB; rw [if_neg c_12, if_neg c_30]
      rw [e9, apl_app, List.length_append, ← Nat.add_assoc] at hQ
      subst hAe
      subst hQ
      exact W.vret hx hb hr (fun t ht hW => ⟨⟨(), rfl, trivial, by rw [ht]; exact hP.sub [1, 2, 3, 0, 4] rfl, hD.sub [1, 2, 3, 0, 4] (by decide) rfl⟩, hS.F ht⟩) hS.2.2 dT_appendField_50
def rm_c_has2_ok : Room := ({ frames := 1, cells := 0, slots := 0, locals := 21 } : Room)
set_option maxHeartbeats 4000000 in
set_option maxRecDepth 100000 in
theorem c_has2_ok (l : Launch) (dC : Nat → ClassId) (dI : Nat → Nat → Nat) (h0 : Nat) (h1 : Nat) (h2 : Nat) (cI : ClassId) (cB : ClassId) (ty : Nat) (cnt : Nat → Nat) (hb9 : ∀ j, j < 16 → cnt j < 2 ^ 31) (hd : s2L cnt 16 0 = true) (Hc : Heap) : Met l yT_hasFieldOfSecondMap wsT_hasFieldOfSecondMap rm_c_has2_ok (zR (dC, dI) [(cI, .int), (cB, .byte)] [.ref h0] [(h0, .inr (0, [.int (nI ty), .ref h1, .ref h2])), (h1, .inl (cI, 16, .inl (aN cnt)))] Hc) (zRi Hc (fun r => r = nI 1)) 0 0 zNo := by
  refine Met.ofW (cc := cT_hasFieldOfSecondMap) (maxL := 2) (ret := (some .boolean)) (by decide) rfl ?_
  intro p e s m args below meth c s₁ Bd hml hv
  obtain ⟨rfl, hH, hG, hP, hK⟩ := hv
  subst hH
  have hx := Bd.exec
  have hb := Bd.bytes
  have hr := Bd.returns
  have hts := atoms_spec (ws := wsT_hasFieldOfSecondMap) Bd.pre
  have hw : ∀ w ∈ BIG, w.before _ s = true := fun w h => hts w (List.mem_cons_of_mem _ h)
  have hown : s.vm.findClass RT = some m.cls := findClass_of_methodNamed Bd.named
  have hlocks := Bd.notSynchronized
  have hS : va_S zNo s.heap s.heap [] := va_S.rf
  have hl := lv_entry ([.ref h0]) (n := 2) (Nat.le_of_ble_eq_true rfl)
  rw [lg_entry_eq]
  generalize (lg_sl ([.ref h0]) ++ List.replicate (2 - (lg_sl ([.ref h0])).length) Slot.unset).toArray = ls at hl ⊢
  have hl : lv_has ls 2 [(0, .ref h0)] := hl
  refine zq_name (fun Q hQ => ?_)
  change W p l e rm_c_has2_ok s m _ below meth c _ _ _ _ Q _
  obtain ⟨tfFI, zfFI, afFI⟩ := hG.FIELDS
  refine lv_iconst (v := nI 0) hx hb dT_hasFieldOfSecondMap_0 (by decide) ?_
  refine lv_istore_n (lv' := [(1, .int (nI 0)), (0, .ref h0)]) hx hb dT_hasFieldOfSecondMap_1 rfl hl (by decide) rfl (fun ls hl => ?_)
  have lp_2 : ∀ (fu : Nat) (k : Nat) (hk : k ≤ 16) (hi : s2L cnt (16 - k) k = true) (hms : 16 - k < fu) (locs : List Loc) (ls : Array Slot), lv_has ls 2 [(0, .ref h0), (1, .int (nI k))] → va_S zNo s.heap s.heap locs → W p l e rm_c_has2_ok s m ([.ref h0] : List Value).toArray below meth c s.heap locs 0 0 Q (F0 m 2 ls []) := by
    intro fu
    induction fu with
    | zero => intro k hk hi hms; exact absurd hms (Nat.not_lt_zero _)
    | succ fu ih2 =>
      intro k hk hi hms locs ls hl hS
      refine lv_iload_n hx hb dT_hasFieldOfSecondMap_2 rfl (lv_at hl 1 rfl) ?_
      refine lv_bipush (v := nI 16) hx hb dT_hasFieldOfSecondMap_3 (by decide) ?_
      refine zi_ge (tgt := 34) hx hb (by omega) (by omega) dT_hasFieldOfSecondMap_5 (by decide) (fun q => False.elim ((by have h9 := hi; rw [show 16 - k = 0 by omega] at h9; cases h9))) (fun c_5 => ?_)
      have hfi := fFI_b k (by omega)
      refine va_getsN hx hb zfFI hS hown (va_Nw.use rfl (hG.nf (RT, 51, "FIELDS") (List.mem_of_getElem? (i := 0) rfl))) (fun _ h9 => h9) dT_hasFieldOfSecondMap_8 ?_
      refine lv_iload_n hx hb dT_hasFieldOfSecondMap_11 rfl (lv_at hl 1 rfl) ?_
      refine za_tab hx hb afFI hS (by omega) (by decide) dT_hasFieldOfSecondMap_12 ?_
      refine lv_bipush (v := nI 64) hx hb dT_hasFieldOfSecondMap_13 (by decide) ?_
      refine zi_le (tgt := 28) hx hb (by omega) (by omega) dT_hasFieldOfSecondMap_15 (by decide) (fun c_15 => ?_) (fun c_15 => ?_)
      · have h8 : s2L cnt (16 - (k + 1)) (k + 1) = true := by have h9 := hi; rw [show 16 - k = 16 - (k + 1) + 1 by omega] at h9; unfold s2L at h9; rw [if_neg (fun z => by first | exact absurd z.1 (Nat.not_lt.mpr c_15) | exact z.2 (hz_0.mp c_23))] at h9; exact h9
        refine lv_iinc (v := nI (k + 1)) (lv' := [(1, .int (nI (k + 1))), (0, .ref h0)]) hx hb dT_hasFieldOfSecondMap_28 hl (k := 1) rfl (zi_incr k 1) (by decide) rfl (fun ls hl => ?_)
        refine lv_goto (tgt := 2) hx hb dT_hasFieldOfSecondMap_31 (by decide) ?_
        exact ih2 (k + 1) (by omega) h8 (by omega) _ _ (lv_sub hl [1, 0] rfl) hS
      · refine lv_aload_n hx hb dT_hasFieldOfSecondMap_18 rfl (lv_at hl 0 rfl) ?_
        refine lv_iload_n hx hb dT_hasFieldOfSecondMap_19 rfl (lv_at hl 1 rfl) ?_
        refine zc_Ri (va_runV (As := [.int (nI k)]) (rest := []) ⟨hx, hb, hml, hown, hw⟩ (c_D_has l dC dI h0 h1 h2 cI cB ty cnt k (by omega) (hb9 k (by omega)) s.heap) (cwV 1 hw (gV w_ml_T_32 w_im_D_has w_se_D_has w_in_D w_co_D_has) rfl rfl rfl (by decide +kernel) ⟨Nat.le_of_ble_eq_true rfl, Nat.le_of_ble_eq_true rfl⟩) (zR_V hG hS (hP.sub (ws' := [(h0, .inr (0, [.int (nI ty), .ref h1, .ref h2])), (h1, .inl (cI, 16, .inl (aN cnt)))]) [0, 1] rfl) hK 0 rfl rfl) rfl rfl hl.1 rfl (lv_room (Nat.le_of_ble_eq_true rfl)) dT_hasFieldOfSecondMap_20 ⟨Nat.le_of_ble_eq_true rfl, Nat.le_of_ble_eq_true rfl⟩) hS (fun r_1 locs h_20 hS => ?_)
        subst h_20
        refine zi_eq0 (tgt := 28) hx hb (hz_lt _) dT_hasFieldOfSecondMap_23 (by decide) (fun c_23 => ?_) (fun c_23 => ?_)
        · have h8 : s2L cnt (16 - (k + 1)) (k + 1) = true := by have h9 := hi; rw [show 16 - k = 16 - (k + 1) + 1 by omega] at h9; unfold s2L at h9; rw [if_neg (fun z => by first | exact absurd z.1 (Nat.not_lt.mpr c_15) | exact z.2 (hz_0.mp c_23))] at h9; exact h9
          refine lv_iinc (v := nI (k + 1)) (lv' := [(1, .int (nI (k + 1))), (0, .ref h0)]) hx hb dT_hasFieldOfSecondMap_28 hl (k := 1) rfl (zi_incr k 1) (by decide) rfl (fun ls hl => ?_)
          refine lv_goto (tgt := 2) hx hb dT_hasFieldOfSecondMap_31 (by decide) ?_
          exact ih2 (k + 1) (by omega) h8 (by omega) _ _ (lv_sub hl [1, 0] rfl) hS
        · refine lv_iconst (v := nI 1) hx hb dT_hasFieldOfSecondMap_26 (by decide) ?_
          subst hQ
          exact W.zret (v := nI 1) hx hb hr (by decide) (fun t ht hW => ⟨⟨nI 1, (), rfl, rfl, ht⟩, hS.F ht⟩) hS.2.2 dT_hasFieldOfSecondMap_27
  exact lp_2 ((16 - 0) + 1) 0 (by omega) hd (Nat.lt_succ_self _) _ _ (lv_sub hl [1, 0] rfl) hS
def rm_c_has2_no : Room := ({ frames := 1, cells := 0, slots := 0, locals := 21 } : Room)
set_option maxHeartbeats 4000000 in
set_option maxRecDepth 100000 in
theorem c_has2_no (l : Launch) (dC : Nat → ClassId) (dI : Nat → Nat → Nat) (h0 : Nat) (h1 : Nat) (h2 : Nat) (cI : ClassId) (cB : ClassId) (ty : Nat) (cnt : Nat → Nat) (hb9 : ∀ j, j < 16 → cnt j < 2 ^ 31) (hd : s2L cnt 16 0 = false) (Hc : Heap) : Met l yT_hasFieldOfSecondMap wsT_hasFieldOfSecondMap rm_c_has2_no (zR (dC, dI) [(cI, .int), (cB, .byte)] [.ref h0] [(h0, .inr (0, [.int (nI ty), .ref h1, .ref h2])), (h1, .inl (cI, 16, .inl (aN cnt)))] Hc) (zRi Hc (fun r => r = nI 0)) 0 0 zNo := by
  refine Met.ofW (cc := cT_hasFieldOfSecondMap) (maxL := 2) (ret := (some .boolean)) (by decide) rfl ?_
  intro p e s m args below meth c s₁ Bd hml hv
  obtain ⟨rfl, hH, hG, hP, hK⟩ := hv
  subst hH
  have hx := Bd.exec
  have hb := Bd.bytes
  have hr := Bd.returns
  have hts := atoms_spec (ws := wsT_hasFieldOfSecondMap) Bd.pre
  have hw : ∀ w ∈ BIG, w.before _ s = true := fun w h => hts w (List.mem_cons_of_mem _ h)
  have hown : s.vm.findClass RT = some m.cls := findClass_of_methodNamed Bd.named
  have hlocks := Bd.notSynchronized
  have hS : va_S zNo s.heap s.heap [] := va_S.rf
  have hl := lv_entry ([.ref h0]) (n := 2) (Nat.le_of_ble_eq_true rfl)
  rw [lg_entry_eq]
  generalize (lg_sl ([.ref h0]) ++ List.replicate (2 - (lg_sl ([.ref h0])).length) Slot.unset).toArray = ls at hl ⊢
  have hl : lv_has ls 2 [(0, .ref h0)] := hl
  refine zq_name (fun Q hQ => ?_)
  change W p l e rm_c_has2_no s m _ below meth c _ _ _ _ Q _
  obtain ⟨tfFI, zfFI, afFI⟩ := hG.FIELDS
  refine lv_iconst (v := nI 0) hx hb dT_hasFieldOfSecondMap_0 (by decide) ?_
  refine lv_istore_n (lv' := [(1, .int (nI 0)), (0, .ref h0)]) hx hb dT_hasFieldOfSecondMap_1 rfl hl (by decide) rfl (fun ls hl => ?_)
  have lp_2 : ∀ (fu : Nat) (k : Nat) (hk : k ≤ 16) (hi : s2L cnt (16 - k) k = false) (hms : 16 - k < fu) (locs : List Loc) (ls : Array Slot), lv_has ls 2 [(0, .ref h0), (1, .int (nI k))] → va_S zNo s.heap s.heap locs → W p l e rm_c_has2_no s m ([.ref h0] : List Value).toArray below meth c s.heap locs 0 0 Q (F0 m 2 ls []) := by
    intro fu
    induction fu with
    | zero => intro k hk hi hms; exact absurd hms (Nat.not_lt_zero _)
    | succ fu ih2 =>
      intro k hk hi hms locs ls hl hS
      refine lv_iload_n hx hb dT_hasFieldOfSecondMap_2 rfl (lv_at hl 1 rfl) ?_
      refine lv_bipush (v := nI 16) hx hb dT_hasFieldOfSecondMap_3 (by decide) ?_
      refine zi_ge (tgt := 34) hx hb (by omega) (by omega) dT_hasFieldOfSecondMap_5 (by decide) (fun c_5 => ?_) (fun c_5 => ?_)
      · refine lv_iconst (v := nI 0) hx hb dT_hasFieldOfSecondMap_34 (by decide) ?_
        subst hQ
        exact W.zret (v := nI 0) hx hb hr (by decide) (fun t ht hW => ⟨⟨nI 0, (), rfl, rfl, ht⟩, hS.F ht⟩) hS.2.2 dT_hasFieldOfSecondMap_35
      · have hfi := fFI_b k (by omega)
        refine va_getsN hx hb zfFI hS hown (va_Nw.use rfl (hG.nf (RT, 51, "FIELDS") (List.mem_of_getElem? (i := 0) rfl))) (fun _ h9 => h9) dT_hasFieldOfSecondMap_8 ?_
        refine lv_iload_n hx hb dT_hasFieldOfSecondMap_11 rfl (lv_at hl 1 rfl) ?_
        refine za_tab hx hb afFI hS (by omega) (by decide) dT_hasFieldOfSecondMap_12 ?_
        refine lv_bipush (v := nI 64) hx hb dT_hasFieldOfSecondMap_13 (by decide) ?_
        refine zi_le (tgt := 28) hx hb (by omega) (by omega) dT_hasFieldOfSecondMap_15 (by decide) (fun c_15 => ?_) (fun c_15 => ?_)
        · have h8 : s2L cnt (16 - (k + 1)) (k + 1) = false := by have h9 := hi; rw [show 16 - k = 16 - (k + 1) + 1 by omega] at h9; unfold s2L at h9; rw [if_neg (fun z => by first | exact absurd z.1 (Nat.not_lt.mpr c_15) | exact z.2 (hz_0.mp c_23))] at h9; exact h9
          refine lv_iinc (v := nI (k + 1)) (lv' := [(1, .int (nI (k + 1))), (0, .ref h0)]) hx hb dT_hasFieldOfSecondMap_28 hl (k := 1) rfl (zi_incr k 1) (by decide) rfl (fun ls hl => ?_)
          refine lv_goto (tgt := 2) hx hb dT_hasFieldOfSecondMap_31 (by decide) ?_
          exact ih2 (k + 1) (by omega) h8 (by omega) _ _ (lv_sub hl [1, 0] rfl) hS
        · refine lv_aload_n hx hb dT_hasFieldOfSecondMap_18 rfl (lv_at hl 0 rfl) ?_
          refine lv_iload_n hx hb dT_hasFieldOfSecondMap_19 rfl (lv_at hl 1 rfl) ?_
          refine zc_Ri (va_runV (As := [.int (nI k)]) (rest := []) ⟨hx, hb, hml, hown, hw⟩ (c_D_has l dC dI h0 h1 h2 cI cB ty cnt k (by omega) (hb9 k (by omega)) s.heap) (cwV 1 hw (gV w_ml_T_32 w_im_D_has w_se_D_has w_in_D w_co_D_has) rfl rfl rfl (by decide +kernel) ⟨Nat.le_of_ble_eq_true rfl, Nat.le_of_ble_eq_true rfl⟩) (zR_V hG hS (hP.sub (ws' := [(h0, .inr (0, [.int (nI ty), .ref h1, .ref h2])), (h1, .inl (cI, 16, .inl (aN cnt)))]) [0, 1] rfl) hK 0 rfl rfl) rfl rfl hl.1 rfl (lv_room (Nat.le_of_ble_eq_true rfl)) dT_hasFieldOfSecondMap_20 ⟨Nat.le_of_ble_eq_true rfl, Nat.le_of_ble_eq_true rfl⟩) hS (fun r_1 locs h_20 hS => ?_)
          subst h_20
          refine zi_eq0 (tgt := 28) hx hb (hz_lt _) dT_hasFieldOfSecondMap_23 (by decide) (fun c_23 => ?_) (fun q => False.elim ((by have h9 := hi; rw [show 16 - k = 16 - (k + 1) + 1 by omega] at h9; unfold s2L at h9; rw [if_pos ⟨c_15, fun z => q (hz_0.mpr z)⟩] at h9; cases h9)))
          have h8 : s2L cnt (16 - (k + 1)) (k + 1) = false := by have h9 := hi; rw [show 16 - k = 16 - (k + 1) + 1 by omega] at h9; unfold s2L at h9; rw [if_neg (fun z => by first | exact absurd z.1 (Nat.not_lt.mpr c_15) | exact z.2 (hz_0.mp c_23))] at h9; exact h9
          refine lv_iinc (v := nI (k + 1)) (lv' := [(1, .int (nI (k + 1))), (0, .ref h0)]) hx hb dT_hasFieldOfSecondMap_28 hl (k := 1) rfl (zi_incr k 1) (by decide) rfl (fun ls hl => ?_)
          refine lv_goto (tgt := 2) hx hb dT_hasFieldOfSecondMap_31 (by decide) ?_
          exact ih2 (k + 1) (by omega) h8 (by omega) _ _ (lv_sub hl [1, 0] rfl) hS
  exact lp_2 ((16 - 0) + 1) 0 (by omega) hd (Nat.lt_succ_self _) _ _ (lv_sub hl [1, 0] rfl) hS
def rm_c_appendMaps_two : Room := ({ frames := 2, cells := 0, slots := 0, locals := 42 } : Room)
set_option maxHeartbeats 4000000 in
set_option maxRecDepth 100000 in
theorem c_appendMaps_two (l : Launch) (dC : Nat → ClassId) (dI : Nat → Nat → Nat) (t0 : Nat) (t1 : Nat) (cI : ClassId) (cB : ClassId) (len : Nat) (tp : Nat → Nat) (h0 : Nat) (h1 : Nat) (h2 : Nat) (ty : Nat) (cnt : Nat → Nat) (mk : Nat → Nat) (hl9 : len + 16 ≤ 400) (hb9 : ∀ j, j < 16 → cnt j < 2 ^ 31) (hd : s2L cnt 16 0 = true) (sz : Nat) : Met l yT_appendMaps wsT_appendMaps rm_c_appendMaps_two (zM (dC, dI) [(cI, .int), (cB, .byte)] [.ref t0, .ref h0] [(t0, .inr (2, [.ref t1, .int (nI len)])), (t1, .inl (cB, 400, .inl (aB tp))), (h0, .inr (0, [.int (nI ty), .ref h1, .ref h2])), (h1, .inl (cI, 16, .inl (aN cnt))), (h2, .inl (cB, 208, .inl (aN mk)))] sz) (zMv (dC, dI) [(t0, .inr (2, [.ref t1, .int (nI len)])), (t1, .inl (cB, 400, .inl (aB tp))), (h0, .inr (0, [.int (nI ty), .ref h1, .ref h2])), (h1, .inl (cI, 16, .inl (aN cnt))), (h2, .inl (cB, 208, .inl (aN mk)))] [(t0, .inr (2, [.ref t1, .int (nI (len + 16))])), (t1, .inl (cB, 400, .inl (aB (mpS len cnt 16 0 (nup (apl tp len (List.replicate 16 0)) len ((apl tp len (List.replicate 16 0)) len ^^^ 128)))))), (h0, .inr (0, [.int (nI ty), .ref h1, .ref h2])), (h1, .inl (cI, 16, .inl (aN cnt))), (h2, .inl (cB, 208, .inl (aN mk)))] sz (True)) 0 0 (va_A [(t0, .inr (2, [.ref t1, .int (nI len)])), (t1, .inl (cB, 400, .inl (aB tp))), (h0, .inr (0, [.int (nI ty), .ref h1, .ref h2])), (h1, .inl (cI, 16, .inl (aN cnt))), (h2, .inl (cB, 208, .inl (aN mk)))] sz) := by
  refine Met.ofW (cc := cT_appendMaps) (maxL := 5) (ret := none) (by decide) rfl ?_
  intro p e s m args below meth c s₁ Bd hml hv
  obtain ⟨rfl, hsz, hG, hP, hK, hD0⟩ := hv
  subst hsz
  have hx := Bd.exec
  have hb := Bd.bytes
  have hr := Bd.returns
  have hts := atoms_spec (ws := wsT_appendMaps) Bd.pre
  have hw : ∀ w ∈ BIG, w.before _ s = true := fun w h => hts w (List.mem_cons_of_mem _ h)
  have hown : s.vm.findClass RT = some m.cls := findClass_of_methodNamed Bd.named
  have hlocks := Bd.notSynchronized
  have hD := hD0.self (sz := s.heap.size)
  obtain ⟨A, hAe⟩ : ∃ A, A = va_A [(t0, .inr (2, [.ref t1, .int (nI len)])), (t1, .inl (cB, 400, .inl (aB tp))), (h0, .inr (0, [.int (nI ty), .ref h1, .ref h2])), (h1, .inl (cI, 16, .inl (aN cnt))), (h2, .inl (cB, 208, .inl (aN mk)))] s.heap.size := ⟨_, rfl⟩
  have hA : ∀ q : Nat, s.heap.size ≤ q → A q := fun q h => by rw [hAe]; exact Or.inr h
  rw [← hAe] at hG hD
  have hS : va_S A s.heap s.heap [] := va_S.rf
  have hl := lv_entry ([.ref t0, .ref h0]) (n := 5) (Nat.le_of_ble_eq_true rfl)
  rw [lg_entry_eq]
  generalize (lg_sl ([.ref t0, .ref h0]) ++ List.replicate (5 - (lg_sl ([.ref t0, .ref h0])).length) Slot.unset).toArray = ls at hl ⊢
  have hl : lv_has ls 5 [(0, .ref t0), (1, .ref h0)] := hl
  refine zq_name (fun Q hQ => ?_)
  change W p l e rm_c_appendMaps_two s m _ below meth c _ _ _ _ Q _
  obtain ⟨tfFI, zfFI, afFI⟩ := hG.FIELDS
  refine lv_aload_n hx hb dT_appendMaps_0 rfl (lv_at hl 1 rfl) ?_
  refine zc_Ri (va_runS (As := [.ref h0]) (rest := []) ⟨hx, hb, hml, hown, hw⟩ (c_has2_ok l dC dI h0 h1 h2 cI cB ty cnt hb9 hd s.heap) (va_cwS 1 hw (gSt w_ml_T_40 w_st_T_hasFieldOfSecondMap w_in_T w_co_T_hasFieldOfSecondMap) rfl rfl rfl (by decide +kernel) ⟨Nat.le_of_ble_eq_true rfl, Nat.le_of_ble_eq_true rfl⟩) (zR_S hG hS (hP.sub (ws' := [(h0, .inr (0, [.int (nI ty), .ref h1, .ref h2])), (h1, .inl (cI, 16, .inl (aN cnt)))]) [2, 3] rfl) hK) rfl rfl hl.1 rfl (lv_room (Nat.le_of_ble_eq_true rfl)) dT_appendMaps_1 ⟨Nat.le_of_ble_eq_true rfl, Nat.le_of_ble_eq_true rfl⟩) hS (fun r_1 locs h_1 hS => ?_)
  subst h_1
  refine lv_istore_n (lv' := [(2, .int (nI 1)), (0, .ref t0), (1, .ref h0)]) hx hb dT_appendMaps_4 rfl hl (by decide) rfl (fun ls hl => ?_)
  refine lv_aload_n hx hb dT_appendMaps_5 rfl (lv_at hl 1 rfl) ?_
  refine va_get (D := (dC, dI)) (ci := 2) (v := .int (nI len)) (C := RT) (T := TT) (N := 2) hx hb hw inT hown hK hP 0 rfl rfl 1 (by decide) (hw _ w_fl_T_15) (fun _ h9 => h9) rfl dT_appendMaps_6 ?_
  refine lv_istore_n (lv' := [(3, .int (nI len)), (2, .int (nI 1)), (0, .ref t0), (1, .ref h0)]) hx hb dT_appendMaps_9 rfl hl (by decide) rfl (fun ls hl => ?_)
  refine lv_iconst (v := nI 0) hx hb dT_appendMaps_10 (by decide) ?_
  refine lv_istore (lv' := [(4, .int (nI 0)), (3, .int (nI len)), (2, .int (nI 1)), (0, .ref t0), (1, .ref h0)]) hx hb dT_appendMaps_11 hl (by decide) rfl (fun ls hl => ?_)
  have lp_13 : ∀ (fu : Nat) (k : Nat) (q : Nat) (f : Nat → Nat) (hk : k ≤ 16) (hq : q = len + k) (hi : apl f q (List.replicate (16 - k) 0) = apl tp len (List.replicate 16 0)) (hms : 16 - k < fu) (H : Heap) (locs : List Loc) (ls : Array Slot), lv_has ls 5 [(0, .ref t0), (1, .ref h0), (2, .int (nI 1)), (3, .int (nI len)), (4, .int (nI k))] → va_P (dC, dI) vwCl [(t0, .inr (2, [.ref t1, .int (nI q)])), (t1, .inl (cB, 400, .inl (aB f))), (h0, .inr (0, [.int (nI ty), .ref h1, .ref h2])), (h1, .inl (cI, 16, .inl (aN cnt))), (h2, .inl (cB, 208, .inl (aN mk)))] H → va_D A [(t0, .inr (2, [.ref t1, .int (nI q)])), (t1, .inl (cB, 400, .inl (aB f))), (h0, .inr (0, [.int (nI ty), .ref h1, .ref h2])), (h1, .inl (cI, 16, .inl (aN cnt))), (h2, .inl (cB, 208, .inl (aN mk)))] → va_S A s.heap H locs → W p l e rm_c_appendMaps_two s m ([.ref t0, .ref h0] : List Value).toArray below meth c H locs 0 0 Q (F0 m 13 ls []) := by
    intro fu
    induction fu with
    | zero => intro k q f hk hq hi hms; exact absurd hms (Nat.not_lt_zero _)
    | succ fu ih13 =>
      intro k q f hk hq hi hms H locs ls hl hP hD hS
      refine lv_iload hx hb dT_appendMaps_13 (lv_at hl 4 rfl) ?_
      refine lv_iload_n hx hb dT_appendMaps_15 rfl (lv_at hl 2 rfl) ?_
      refine lv_if_eq (tgt := 24) hx hb dT_appendMaps_16 (by decide) (fun q => False.elim (absurd q (by decide))) (fun c_16 => ?_)
      refine lv_bipush (v := nI 16) hx hb dT_appendMaps_19 (by decide) ?_
      refine lv_goto (tgt := 26) hx hb dT_appendMaps_21 (by decide) ?_
      refine zi_ge (tgt := 40) hx hb (by omega) (by omega) dT_appendMaps_26 (by decide) (fun c_26 => ?_) (fun c_26 => ?_)
      · have hi : f = apl tp len (List.replicate 16 0) := by have h9 := hi; rw [show 16 - k = 0 by omega] at h9; exact h9
        obtain rfl : k = 16 := by omega
        subst hi
        subst hq
        refine lv_iload_n hx hb dT_appendMaps_40 rfl (lv_at hl 2 rfl) ?_
        refine lv_if_eq (tgt := 52) hx hb dT_appendMaps_41 (by decide) (fun q => False.elim (absurd q (by decide))) (fun c_41 => ?_)
        refine lv_aload_n hx hb dT_appendMaps_44 rfl (lv_at hl 0 rfl) ?_
        refine lv_iload_n hx hb dT_appendMaps_45 rfl (lv_at hl 3 rfl) ?_
        refine lv_sipush (v := nI 128) hx hb dT_appendMaps_46 (by decide) ?_
        have hPc := hP.sub (ws' := [(t0, .inr (2, [.ref t1, .int (nI (len + 16))])), (t1, .inl (cB, 400, .inl (aB (apl tp len (List.replicate 16 0)))))]) [0, 1] rfl
        have hDc := hD.sub (ws' := [(t0, .inr (2, [.ref t1, .int (nI (len + 16))])), (t1, .inl (cB, 400, .inl (aB (apl tp len (List.replicate 16 0)))))]) [0, 1] (by decide) rfl
        have hFc := va_free (wc := [(t0, .inr (2, [.ref t1, .int (nI (len + 16))])), (t1, .inl (cB, 400, .inl (aB (apl tp len (List.replicate 16 0)))))]) hD hS hA [0, 1] rfl
        refine zc_Mv (va_runV (As := [.int (nI len), .int (nI 128)]) (rest := []) ⟨hx, hb, hml, hown, hw⟩ (c_T_flip l dC dI t0 t1 cI cB (len + 16) (apl tp len (List.replicate 16 0)) len 128 (by omega) H.size) (cwV 2 hw (gV w_ml_T_48 w_im_T_flip w_se_T_flip w_in_T w_co_T_flip) rfl rfl rfl (by decide +kernel) ⟨Nat.le_of_ble_eq_true rfl, Nat.le_of_ble_eq_true rfl⟩) (zM_V hG hS hFc hPc hDc hK 0 rfl rfl) rfl rfl hl.1 rfl (lv_room (Nat.le_of_ble_eq_true rfl)) dT_appendMaps_49 ⟨Nat.le_of_ble_eq_true rfl, Nat.le_of_ble_eq_true rfl⟩) hS hFc (fun H locs h_49 hP1 hD1 hk1 hS => ?_)
        obtain ⟨hP, hD⟩ := va_join (wr := [(h0, .inr (0, [.int (nI ty), .ref h1, .ref h2])), (h1, .inl (cI, 16, .inl (aN cnt))), (h2, .inl (cB, 208, .inl (aN mk)))]) (w1 := [(t0, .inr (2, [.ref t1, .int (nI (len + 16))])), (t1, .inl (cB, 400, .inl (aB (nup (apl tp len (List.replicate 16 0)) len ((apl tp len (List.replicate 16 0)) len ^^^ 128)))))]) hP hD [0, 1] [2, 3, 4] rfl rfl (by decide) (by decide) hk1 hFc hP1 hD1
        have hP : va_P (dC, dI) vwCl [(h0, .inr (0, [.int (nI ty), .ref h1, .ref h2])), (h1, .inl (cI, 16, .inl (aN cnt))), (h2, .inl (cB, 208, .inl (aN mk))), (t0, .inr (2, [.ref t1, .int (nI (len + 16))])), (t1, .inl (cB, 400, .inl (aB (nup (apl tp len (List.replicate 16 0)) len ((apl tp len (List.replicate 16 0)) len ^^^ 128)))))] H := hP
        have hD : va_D A [(h0, .inr (0, [.int (nI ty), .ref h1, .ref h2])), (h1, .inl (cI, 16, .inl (aN cnt))), (h2, .inl (cB, 208, .inl (aN mk))), (t0, .inr (2, [.ref t1, .int (nI (len + 16))])), (t1, .inl (cB, 400, .inl (aB (nup (apl tp len (List.replicate 16 0)) len ((apl tp len (List.replicate 16 0)) len ^^^ 128)))))] := hD
        refine lv_iconst (v := nI 0) hx hb dT_appendMaps_52 (by decide) ?_
        refine lv_istore (lv' := [(4, .int (nI 0)), (0, .ref t0), (1, .ref h0), (2, .int (nI 1)), (3, .int (nI len))]) hx hb dT_appendMaps_53 hl (by decide) rfl (fun ls hl => ?_)
        have lp_55 : ∀ (fu : Nat) (k : Nat) (f : Nat → Nat) (hk : k ≤ 16) (hi : mpS len cnt (16 - k) k f = mpS len cnt 16 0 (nup (apl tp len (List.replicate 16 0)) len ((apl tp len (List.replicate 16 0)) len ^^^ 128))) (hms : 16 - k < fu) (H : Heap) (locs : List Loc) (ls : Array Slot), lv_has ls 5 [(0, .ref t0), (1, .ref h0), (3, .int (nI len)), (4, .int (nI k))] → va_P (dC, dI) vwCl [(h0, .inr (0, [.int (nI ty), .ref h1, .ref h2])), (h1, .inl (cI, 16, .inl (aN cnt))), (h2, .inl (cB, 208, .inl (aN mk))), (t0, .inr (2, [.ref t1, .int (nI (len + 16))])), (t1, .inl (cB, 400, .inl (aB f)))] H → va_D A [(h0, .inr (0, [.int (nI ty), .ref h1, .ref h2])), (h1, .inl (cI, 16, .inl (aN cnt))), (h2, .inl (cB, 208, .inl (aN mk))), (t0, .inr (2, [.ref t1, .int (nI (len + 16))])), (t1, .inl (cB, 400, .inl (aB f)))] → va_S A s.heap H locs → W p l e rm_c_appendMaps_two s m ([.ref t0, .ref h0] : List Value).toArray below meth c H locs 0 0 Q (F0 m 55 ls []) := by
          intro fu
          induction fu with
          | zero => intro k f hk hi hms; exact absurd hms (Nat.not_lt_zero _)
          | succ fu ih55 =>
            intro k f hk hi hms H locs ls hl hP hD hS
            refine lv_iload hx hb dT_appendMaps_55 (lv_at hl 3 rfl) ?_
            refine lv_bipush (v := nI 16) hx hb dT_appendMaps_57 (by decide) ?_
            refine zi_ge (tgt := 101) hx hb (by omega) (by omega) dT_appendMaps_59 (by decide) (fun c_59 => ?_) (fun c_59 => ?_)
            · have hi : f = mpS len cnt 16 0 (nup (apl tp len (List.replicate 16 0)) len ((apl tp len (List.replicate 16 0)) len ^^^ 128)) := by have h9 := hi; rw [show 16 - k = 0 by omega] at h9; exact h9
              subst hi
              subst hAe
              subst hQ
              exact W.vret hx hb hr (fun t ht hW => ⟨⟨(), rfl, trivial, by rw [ht]; exact hP.sub [3, 4, 0, 1, 2] rfl, hD.sub [3, 4, 0, 1, 2] (by decide) rfl⟩, hS.F ht⟩) hS.2.2 dT_appendMaps_101
            · have hfi := fFI_b k (by omega)
              refine lv_aload_n hx hb dT_appendMaps_62 rfl (lv_at hl 1 rfl) ?_
              refine lv_iload hx hb dT_appendMaps_63 (lv_at hl 3 rfl) ?_
              refine zc_Ri (va_runV (As := [.int (nI k)]) (rest := []) ⟨hx, hb, hml, hown, hw⟩ (c_D_has l dC dI h0 h1 h2 cI cB ty cnt k (by omega) (hb9 k (by omega)) H) (cwV 1 hw (gV w_ml_T_32 w_im_D_has w_se_D_has w_in_D w_co_D_has) rfl rfl rfl (by decide +kernel) ⟨Nat.le_of_ble_eq_true rfl, Nat.le_of_ble_eq_true rfl⟩) (zR_V hG hS (hP.sub (ws' := [(h0, .inr (0, [.int (nI ty), .ref h1, .ref h2])), (h1, .inl (cI, 16, .inl (aN cnt)))]) [0, 1] rfl) hK 0 rfl rfl) rfl rfl hl.1 rfl (lv_room (Nat.le_of_ble_eq_true rfl)) dT_appendMaps_65 ⟨Nat.le_of_ble_eq_true rfl, Nat.le_of_ble_eq_true rfl⟩) hS (fun r_3 locs h_65 hS => ?_)
              subst h_65
              refine zi_eq0 (tgt := 95) hx hb (hz_lt _) dT_appendMaps_68 (by decide) (fun c_68 => ?_) (fun c_68 => ?_)
              · have h8 := hi
                rw [show 16 - k = 16 - (k + 1) + 1 by omega] at h8
                unfold mpS at h8
                rw [if_pos (hz_0.mp c_68)] at h8
                refine lv_iinc (v := nI (k + 1)) (lv' := [(4, .int (nI (k + 1))), (0, .ref t0), (1, .ref h0), (3, .int (nI len))]) hx hb dT_appendMaps_95 hl (k := 3) rfl (zi_incr k 1) (by decide) rfl (fun ls hl => ?_)
                refine lv_goto (tgt := 55) hx hb dT_appendMaps_98 (by decide) ?_
                exact ih55 (k + 1) f (by omega) h8 (by omega) _ _ _ (lv_sub hl [1, 2, 3, 0] rfl) (hP.sub [0, 1, 2, 3, 4] rfl) (hD.sub [0, 1, 2, 3, 4] (by decide) rfl) hS
              · refine lv_aload_n hx hb dT_appendMaps_71 rfl (lv_at hl 0 rfl) ?_
                refine lv_iload_n hx hb dT_appendMaps_72 rfl (lv_at hl 2 rfl) ?_
                refine va_getsN hx hb zfFI hS hown (va_Nw.use rfl (hG.nf (RT, 51, "FIELDS") (List.mem_of_getElem? (i := 0) rfl))) (fun _ h9 => h9) dT_appendMaps_73 ?_
                refine lv_iload hx hb dT_appendMaps_76 (lv_at hl 3 rfl) ?_
                refine za_tab hx hb afFI hS (by omega) (by decide) dT_appendMaps_78 ?_
                refine zc_Ri (va_runSN (As := [.int (nI (fFI k))]) (rest := [.int (nI len), .ref t0]) ⟨hx, hb, hml, hown, hw⟩ (c_C_mapByte l dC dI cI cB (fFI k) (by omega) (by omega) H) ⟨va_cnB 1 hw (gC w_co_C_mapByte) rfl rfl rfl (hG.nm (RT, 55, yC_mapByte) (List.mem_of_getElem? (i := 4) rfl)) (hw _ w_in_C) (by decide +kernel) ⟨Nat.le_of_ble_eq_true rfl, Nat.le_of_ble_eq_true rfl⟩, hw _ w_st_C_mapByte, trivial⟩ (zR_S hG hS (hP.sub (ws' := []) [] rfl) hK) rfl rfl hl.1 rfl (lv_room (Nat.le_of_ble_eq_true rfl)) dT_appendMaps_79 ⟨Nat.le_of_ble_eq_true rfl, Nat.le_of_ble_eq_true rfl⟩) hS (fun r_4 locs h_79 hS => ?_)
                subst h_79
                refine zi_add hx hb dT_appendMaps_82 ?_
                refine va_getsN hx hb zfFI hS hown (va_Nw.use rfl (hG.nf (RT, 51, "FIELDS") (List.mem_of_getElem? (i := 0) rfl))) (fun _ h9 => h9) dT_appendMaps_83 ?_
                refine lv_iload hx hb dT_appendMaps_86 (lv_at hl 3 rfl) ?_
                refine za_tab hx hb afFI hS (by omega) (by decide) dT_appendMaps_88 ?_
                refine zc_Ri (va_runSN (As := [.int (nI (fFI k))]) (rest := [.int (nI (len + (((fFI k) - 1) / 8))), .ref t0]) ⟨hx, hb, hml, hown, hw⟩ (c_C_mapBit l dC dI cI cB (fFI k) (by omega) (by omega) H) ⟨va_cnB 1 hw (gC w_co_C_mapBit) rfl rfl rfl (hG.nm (RT, 59, yC_mapBit) (List.mem_of_getElem? (i := 5) rfl)) (hw _ w_in_C) (by decide +kernel) ⟨Nat.le_of_ble_eq_true rfl, Nat.le_of_ble_eq_true rfl⟩, hw _ w_st_C_mapBit, trivial⟩ (zR_S hG hS (hP.sub (ws' := []) [] rfl) hK) rfl rfl hl.1 rfl (lv_room (Nat.le_of_ble_eq_true rfl)) dT_appendMaps_89 ⟨Nat.le_of_ble_eq_true rfl, Nat.le_of_ble_eq_true rfl⟩) hS (fun r_5 locs h_89 hS => ?_)
                subst h_89
                have hPc := hP.sub (ws' := [(t0, .inr (2, [.ref t1, .int (nI (len + 16))])), (t1, .inl (cB, 400, .inl (aB f)))]) [3, 4] rfl
                have hDc := hD.sub (ws' := [(t0, .inr (2, [.ref t1, .int (nI (len + 16))])), (t1, .inl (cB, 400, .inl (aB f)))]) [3, 4] (by decide) rfl
                have hFc := va_free (wc := [(t0, .inr (2, [.ref t1, .int (nI (len + 16))])), (t1, .inl (cB, 400, .inl (aB f)))]) hD hS hA [3, 4] rfl
                refine zc_Mv (va_runV (As := [.int (nI (len + (((fFI k) - 1) / 8))), .int (nI (128 / 2 ^ (((fFI k) - 1) % 8)))]) (rest := []) ⟨hx, hb, hml, hown, hw⟩ (c_T_flip l dC dI t0 t1 cI cB (len + 16) f (len + (((fFI k) - 1) / 8)) (128 / 2 ^ (((fFI k) - 1) % 8)) (by omega) H.size) (cwV 2 hw (gV w_ml_T_48 w_im_T_flip w_se_T_flip w_in_T w_co_T_flip) rfl rfl rfl (by decide +kernel) ⟨Nat.le_of_ble_eq_true rfl, Nat.le_of_ble_eq_true rfl⟩) (zM_V hG hS hFc hPc hDc hK 0 rfl rfl) rfl rfl hl.1 rfl (lv_room (Nat.le_of_ble_eq_true rfl)) dT_appendMaps_92 ⟨Nat.le_of_ble_eq_true rfl, Nat.le_of_ble_eq_true rfl⟩) hS hFc (fun H locs h_92 hP1 hD1 hk1 hS => ?_)
                obtain ⟨hP, hD⟩ := va_join (wr := [(h0, .inr (0, [.int (nI ty), .ref h1, .ref h2])), (h1, .inl (cI, 16, .inl (aN cnt))), (h2, .inl (cB, 208, .inl (aN mk)))]) (w1 := [(t0, .inr (2, [.ref t1, .int (nI (len + 16))])), (t1, .inl (cB, 400, .inl (aB (nup f (len + (((fFI k) - 1) / 8)) (f (len + (((fFI k) - 1) / 8)) ^^^ (128 / 2 ^ (((fFI k) - 1) % 8)))))))]) hP hD [3, 4] [0, 1, 2] rfl rfl (by decide) (by decide) hk1 hFc hP1 hD1
                have hP : va_P (dC, dI) vwCl [(h0, .inr (0, [.int (nI ty), .ref h1, .ref h2])), (h1, .inl (cI, 16, .inl (aN cnt))), (h2, .inl (cB, 208, .inl (aN mk))), (t0, .inr (2, [.ref t1, .int (nI (len + 16))])), (t1, .inl (cB, 400, .inl (aB (nup f (len + (((fFI k) - 1) / 8)) (f (len + (((fFI k) - 1) / 8)) ^^^ (128 / 2 ^ (((fFI k) - 1) % 8)))))))] H := hP
                have hD : va_D A [(h0, .inr (0, [.int (nI ty), .ref h1, .ref h2])), (h1, .inl (cI, 16, .inl (aN cnt))), (h2, .inl (cB, 208, .inl (aN mk))), (t0, .inr (2, [.ref t1, .int (nI (len + 16))])), (t1, .inl (cB, 400, .inl (aB (nup f (len + (((fFI k) - 1) / 8)) (f (len + (((fFI k) - 1) / 8)) ^^^ (128 / 2 ^ (((fFI k) - 1) % 8)))))))] := hD
                have h8 := hi
                rw [show 16 - k = 16 - (k + 1) + 1 by omega] at h8
                unfold mpS at h8
                rw [if_neg (fun z => c_68 (hz_0.mpr z))] at h8
                refine lv_iinc (v := nI (k + 1)) (lv' := [(4, .int (nI (k + 1))), (0, .ref t0), (1, .ref h0), (3, .int (nI len))]) hx hb dT_appendMaps_95 hl (k := 3) rfl (zi_incr k 1) (by decide) rfl (fun ls hl => ?_)
                refine lv_goto (tgt := 55) hx hb dT_appendMaps_98 (by decide) ?_
                exact ih55 (k + 1) (nup f (len + (((fFI k) - 1) / 8)) (f (len + (((fFI k) - 1) / 8)) ^^^ (128 / 2 ^ (((fFI k) - 1) % 8)))) (by omega) h8 (by omega) _ _ _ (lv_sub hl [1, 2, 3, 0] rfl) (hP.sub [0, 1, 2, 3, 4] rfl) (hD.sub [0, 1, 2, 3, 4] (by decide) rfl) hS
        exact lp_55 ((16 - 0) + 1) 0 (nup (apl tp len (List.replicate 16 0)) len ((apl tp len (List.replicate 16 0)) len ^^^ 128)) (by omega) rfl (Nat.lt_succ_self _) _ _ _ (lv_sub hl [1, 2, 4, 0] rfl) (hP.sub [0, 1, 2, 3, 4] rfl) (hD.sub [0, 1, 2, 3, 4] (by decide) rfl) hS
      · refine lv_aload_n hx hb dT_appendMaps_29 rfl (lv_at hl 0 rfl) ?_
        refine lv_iconst (v := nI 0) hx hb dT_appendMaps_30 (by decide) ?_
        have hPc := hP.sub (ws' := [(t0, .inr (2, [.ref t1, .int (nI q)])), (t1, .inl (cB, 400, .inl (aB f)))]) [0, 1] rfl
        have hDc := hD.sub (ws' := [(t0, .inr (2, [.ref t1, .int (nI q)])), (t1, .inl (cB, 400, .inl (aB f)))]) [0, 1] (by decide) rfl
        have hFc := va_free (wc := [(t0, .inr (2, [.ref t1, .int (nI q)])), (t1, .inl (cB, 400, .inl (aB f)))]) hD hS hA [0, 1] rfl
        refine zc_Mv (va_runV (As := [.int (nI 0)]) (rest := []) ⟨hx, hb, hml, hown, hw⟩ (c_T_append l dC dI t0 t1 cI cB q f 0 (by omega) H.size) (cwV 1 hw (gV w_ml_T_44 w_im_T_append w_se_T_append w_in_T w_co_T_append) rfl rfl rfl (by decide +kernel) ⟨Nat.le_of_ble_eq_true rfl, Nat.le_of_ble_eq_true rfl⟩) (zM_V hG hS hFc hPc hDc hK 0 rfl rfl) rfl rfl hl.1 rfl (lv_room (Nat.le_of_ble_eq_true rfl)) dT_appendMaps_31 ⟨Nat.le_of_ble_eq_true rfl, Nat.le_of_ble_eq_true rfl⟩) hS hFc (fun H locs h_31 hP1 hD1 hk1 hS => ?_)
        obtain ⟨hP, hD⟩ := va_join (wr := [(h0, .inr (0, [.int (nI ty), .ref h1, .ref h2])), (h1, .inl (cI, 16, .inl (aN cnt))), (h2, .inl (cB, 208, .inl (aN mk)))]) (w1 := [(t0, .inr (2, [.ref t1, .int (nI (q + 1))])), (t1, .inl (cB, 400, .inl (aB (nup f q 0))))]) hP hD [0, 1] [2, 3, 4] rfl rfl (by decide) (by decide) hk1 hFc hP1 hD1
        have hP : va_P (dC, dI) vwCl [(h0, .inr (0, [.int (nI ty), .ref h1, .ref h2])), (h1, .inl (cI, 16, .inl (aN cnt))), (h2, .inl (cB, 208, .inl (aN mk))), (t0, .inr (2, [.ref t1, .int (nI (q + 1))])), (t1, .inl (cB, 400, .inl (aB (nup f q 0))))] H := hP
        have hD : va_D A [(h0, .inr (0, [.int (nI ty), .ref h1, .ref h2])), (h1, .inl (cI, 16, .inl (aN cnt))), (h2, .inl (cB, 208, .inl (aN mk))), (t0, .inr (2, [.ref t1, .int (nI (q + 1))])), (t1, .inl (cB, 400, .inl (aB (nup f q 0))))] := hD
        refine lv_iinc (v := nI (k + 1)) (lv' := [(4, .int (nI (k + 1))), (0, .ref t0), (1, .ref h0), (2, .int (nI 1)), (3, .int (nI len))]) hx hb dT_appendMaps_34 hl (k := 4) rfl (zi_incr k 1) (by decide) rfl (fun ls hl => ?_)
        refine lv_goto (tgt := 13) hx hb dT_appendMaps_37 (by decide) ?_
        exact ih13 (k + 1) (q + 1) (nup f q 0) (by omega) (by omega) (by have h9 := hi; rw [show 16 - k = 16 - (k + 1) + 1 by omega] at h9; exact h9) (by omega) _ _ _ (lv_sub hl [1, 2, 3, 4, 0] rfl) (hP.sub [3, 4, 0, 1, 2] rfl) (hD.sub [3, 4, 0, 1, 2] (by decide) rfl) hS
  exact lp_13 ((16 - 0) + 1) 0 len tp (by omega) (by omega) rfl (Nat.lt_succ_self _) _ _ _ (lv_sub hl [3, 4, 2, 1, 0] rfl) (hP.sub [0, 1, 2, 3, 4] rfl) (hD.sub [0, 1, 2, 3, 4] (by decide) rfl) hS
def rm_c_appendMaps_one : Room := ({ frames := 2, cells := 0, slots := 0, locals := 42 } : Room)
set_option maxHeartbeats 4000000 in
set_option maxRecDepth 100000 in
theorem c_appendMaps_one (l : Launch) (dC : Nat → ClassId) (dI : Nat → Nat → Nat) (t0 : Nat) (t1 : Nat) (cI : ClassId) (cB : ClassId) (len : Nat) (tp : Nat → Nat) (h0 : Nat) (h1 : Nat) (h2 : Nat) (ty : Nat) (cnt : Nat → Nat) (mk : Nat → Nat) (hl9 : len + 16 ≤ 400) (hb9 : ∀ j, j < 16 → cnt j < 2 ^ 31) (hd : s2L cnt 16 0 = false) (sz : Nat) : Met l yT_appendMaps wsT_appendMaps rm_c_appendMaps_one (zM (dC, dI) [(cI, .int), (cB, .byte)] [.ref t0, .ref h0] [(t0, .inr (2, [.ref t1, .int (nI len)])), (t1, .inl (cB, 400, .inl (aB tp))), (h0, .inr (0, [.int (nI ty), .ref h1, .ref h2])), (h1, .inl (cI, 16, .inl (aN cnt))), (h2, .inl (cB, 208, .inl (aN mk)))] sz) (zMv (dC, dI) [(t0, .inr (2, [.ref t1, .int (nI len)])), (t1, .inl (cB, 400, .inl (aB tp))), (h0, .inr (0, [.int (nI ty), .ref h1, .ref h2])), (h1, .inl (cI, 16, .inl (aN cnt))), (h2, .inl (cB, 208, .inl (aN mk)))] [(t0, .inr (2, [.ref t1, .int (nI (len + 8))])), (t1, .inl (cB, 400, .inl (aB (mpS len cnt 16 0 (apl tp len (List.replicate 8 0)))))), (h0, .inr (0, [.int (nI ty), .ref h1, .ref h2])), (h1, .inl (cI, 16, .inl (aN cnt))), (h2, .inl (cB, 208, .inl (aN mk)))] sz (True)) 0 0 (va_A [(t0, .inr (2, [.ref t1, .int (nI len)])), (t1, .inl (cB, 400, .inl (aB tp))), (h0, .inr (0, [.int (nI ty), .ref h1, .ref h2])), (h1, .inl (cI, 16, .inl (aN cnt))), (h2, .inl (cB, 208, .inl (aN mk)))] sz) := by
  refine Met.ofW (cc := cT_appendMaps) (maxL := 5) (ret := none) (by decide) rfl ?_
  intro p e s m args below meth c s₁ Bd hml hv
  obtain ⟨rfl, hsz, hG, hP, hK, hD0⟩ := hv
  subst hsz
  have hx := Bd.exec
  have hb := Bd.bytes
  have hr := Bd.returns
  have hts := atoms_spec (ws := wsT_appendMaps) Bd.pre
  have hw : ∀ w ∈ BIG, w.before _ s = true := fun w h => hts w (List.mem_cons_of_mem _ h)
  have hown : s.vm.findClass RT = some m.cls := findClass_of_methodNamed Bd.named
  have hlocks := Bd.notSynchronized
  have hD := hD0.self (sz := s.heap.size)
  obtain ⟨A, hAe⟩ : ∃ A, A = va_A [(t0, .inr (2, [.ref t1, .int (nI len)])), (t1, .inl (cB, 400, .inl (aB tp))), (h0, .inr (0, [.int (nI ty), .ref h1, .ref h2])), (h1, .inl (cI, 16, .inl (aN cnt))), (h2, .inl (cB, 208, .inl (aN mk)))] s.heap.size := ⟨_, rfl⟩
  have hA : ∀ q : Nat, s.heap.size ≤ q → A q := fun q h => by rw [hAe]; exact Or.inr h
  rw [← hAe] at hG hD
  have hS : va_S A s.heap s.heap [] := va_S.rf
  have hl := lv_entry ([.ref t0, .ref h0]) (n := 5) (Nat.le_of_ble_eq_true rfl)
  rw [lg_entry_eq]
  generalize (lg_sl ([.ref t0, .ref h0]) ++ List.replicate (5 - (lg_sl ([.ref t0, .ref h0])).length) Slot.unset).toArray = ls at hl ⊢
  have hl : lv_has ls 5 [(0, .ref t0), (1, .ref h0)] := hl
  refine zq_name (fun Q hQ => ?_)
  change W p l e rm_c_appendMaps_one s m _ below meth c _ _ _ _ Q _
  obtain ⟨tfFI, zfFI, afFI⟩ := hG.FIELDS
  refine lv_aload_n hx hb dT_appendMaps_0 rfl (lv_at hl 1 rfl) ?_
  refine zc_Ri (va_runS (As := [.ref h0]) (rest := []) ⟨hx, hb, hml, hown, hw⟩ (c_has2_no l dC dI h0 h1 h2 cI cB ty cnt hb9 hd s.heap) (va_cwS 1 hw (gSt w_ml_T_40 w_st_T_hasFieldOfSecondMap w_in_T w_co_T_hasFieldOfSecondMap) rfl rfl rfl (by decide +kernel) ⟨Nat.le_of_ble_eq_true rfl, Nat.le_of_ble_eq_true rfl⟩) (zR_S hG hS (hP.sub (ws' := [(h0, .inr (0, [.int (nI ty), .ref h1, .ref h2])), (h1, .inl (cI, 16, .inl (aN cnt)))]) [2, 3] rfl) hK) rfl rfl hl.1 rfl (lv_room (Nat.le_of_ble_eq_true rfl)) dT_appendMaps_1 ⟨Nat.le_of_ble_eq_true rfl, Nat.le_of_ble_eq_true rfl⟩) hS (fun r_1 locs h_1 hS => ?_)
  subst h_1
  refine lv_istore_n (lv' := [(2, .int (nI 0)), (0, .ref t0), (1, .ref h0)]) hx hb dT_appendMaps_4 rfl hl (by decide) rfl (fun ls hl => ?_)
  refine lv_aload_n hx hb dT_appendMaps_5 rfl (lv_at hl 1 rfl) ?_
  refine va_get (D := (dC, dI)) (ci := 2) (v := .int (nI len)) (C := RT) (T := TT) (N := 2) hx hb hw inT hown hK hP 0 rfl rfl 1 (by decide) (hw _ w_fl_T_15) (fun _ h9 => h9) rfl dT_appendMaps_6 ?_
  refine lv_istore_n (lv' := [(3, .int (nI len)), (2, .int (nI 0)), (0, .ref t0), (1, .ref h0)]) hx hb dT_appendMaps_9 rfl hl (by decide) rfl (fun ls hl => ?_)
  refine lv_iconst (v := nI 0) hx hb dT_appendMaps_10 (by decide) ?_
  refine lv_istore (lv' := [(4, .int (nI 0)), (3, .int (nI len)), (2, .int (nI 0)), (0, .ref t0), (1, .ref h0)]) hx hb dT_appendMaps_11 hl (by decide) rfl (fun ls hl => ?_)
  have lp_13 : ∀ (fu : Nat) (k : Nat) (q : Nat) (f : Nat → Nat) (hk : k ≤ 8) (hq : q = len + k) (hi : apl f q (List.replicate (8 - k) 0) = apl tp len (List.replicate 8 0)) (hms : 8 - k < fu) (H : Heap) (locs : List Loc) (ls : Array Slot), lv_has ls 5 [(0, .ref t0), (1, .ref h0), (2, .int (nI 0)), (3, .int (nI len)), (4, .int (nI k))] → va_P (dC, dI) vwCl [(t0, .inr (2, [.ref t1, .int (nI q)])), (t1, .inl (cB, 400, .inl (aB f))), (h0, .inr (0, [.int (nI ty), .ref h1, .ref h2])), (h1, .inl (cI, 16, .inl (aN cnt))), (h2, .inl (cB, 208, .inl (aN mk)))] H → va_D A [(t0, .inr (2, [.ref t1, .int (nI q)])), (t1, .inl (cB, 400, .inl (aB f))), (h0, .inr (0, [.int (nI ty), .ref h1, .ref h2])), (h1, .inl (cI, 16, .inl (aN cnt))), (h2, .inl (cB, 208, .inl (aN mk)))] → va_S A s.heap H locs → W p l e rm_c_appendMaps_one s m ([.ref t0, .ref h0] : List Value).toArray below meth c H locs 0 0 Q (F0 m 13 ls []) := by
    intro fu
    induction fu with
    | zero => intro k q f hk hq hi hms; exact absurd hms (Nat.not_lt_zero _)
    | succ fu ih13 =>
      intro k q f hk hq hi hms H locs ls hl hP hD hS
      refine lv_iload hx hb dT_appendMaps_13 (lv_at hl 4 rfl) ?_
      refine lv_iload_n hx hb dT_appendMaps_15 rfl (lv_at hl 2 rfl) ?_
      refine lv_if_eq (tgt := 24) hx hb dT_appendMaps_16 (by decide) (fun c_16 => ?_) (fun q => False.elim (absurd q (by decide)))
      refine lv_bipush (v := nI 8) hx hb dT_appendMaps_24 (by decide) ?_
      refine zi_ge (tgt := 40) hx hb (by omega) (by omega) dT_appendMaps_26 (by decide) (fun c_26 => ?_) (fun c_26 => ?_)
      · have hi : f = apl tp len (List.replicate 8 0) := by have h9 := hi; rw [show 8 - k = 0 by omega] at h9; exact h9
        obtain rfl : k = 8 := by omega
        subst hi
        subst hq
        refine lv_iload_n hx hb dT_appendMaps_40 rfl (lv_at hl 2 rfl) ?_
        refine lv_if_eq (tgt := 52) hx hb dT_appendMaps_41 (by decide) (fun c_41 => ?_) (fun q => False.elim (absurd q (by decide)))
        refine lv_iconst (v := nI 0) hx hb dT_appendMaps_52 (by decide) ?_
        refine lv_istore (lv' := [(4, .int (nI 0)), (0, .ref t0), (1, .ref h0), (2, .int (nI 0)), (3, .int (nI len))]) hx hb dT_appendMaps_53 hl (by decide) rfl (fun ls hl => ?_)
        have lp_55 : ∀ (fu : Nat) (k : Nat) (f : Nat → Nat) (hk : k ≤ 16) (hi : mpS len cnt (16 - k) k f = mpS len cnt 16 0 (apl tp len (List.replicate 8 0))) (hms : 16 - k < fu) (H : Heap) (locs : List Loc) (ls : Array Slot), lv_has ls 5 [(0, .ref t0), (1, .ref h0), (3, .int (nI len)), (4, .int (nI k))] → va_P (dC, dI) vwCl [(t0, .inr (2, [.ref t1, .int (nI (len + 8))])), (t1, .inl (cB, 400, .inl (aB f))), (h0, .inr (0, [.int (nI ty), .ref h1, .ref h2])), (h1, .inl (cI, 16, .inl (aN cnt))), (h2, .inl (cB, 208, .inl (aN mk)))] H → va_D A [(t0, .inr (2, [.ref t1, .int (nI (len + 8))])), (t1, .inl (cB, 400, .inl (aB f))), (h0, .inr (0, [.int (nI ty), .ref h1, .ref h2])), (h1, .inl (cI, 16, .inl (aN cnt))), (h2, .inl (cB, 208, .inl (aN mk)))] → va_S A s.heap H locs → W p l e rm_c_appendMaps_one s m ([.ref t0, .ref h0] : List Value).toArray below meth c H locs 0 0 Q (F0 m 55 ls []) := by
          intro fu
          induction fu with
          | zero => intro k f hk hi hms; exact absurd hms (Nat.not_lt_zero _)
          | succ fu ih55 =>
            intro k f hk hi hms H locs ls hl hP hD hS
            refine lv_iload hx hb dT_appendMaps_55 (lv_at hl 3 rfl) ?_
            refine lv_bipush (v := nI 16) hx hb dT_appendMaps_57 (by decide) ?_
            refine zi_ge (tgt := 101) hx hb (by omega) (by omega) dT_appendMaps_59 (by decide) (fun c_59 => ?_) (fun c_59 => ?_)
            · have hi : f = mpS len cnt 16 0 (apl tp len (List.replicate 8 0)) := by have h9 := hi; rw [show 16 - k = 0 by omega] at h9; exact h9
              subst hi
              subst hAe
              subst hQ
              exact W.vret hx hb hr (fun t ht hW => ⟨⟨(), rfl, trivial, by rw [ht]; exact hP.sub [0, 1, 2, 3, 4] rfl, hD.sub [0, 1, 2, 3, 4] (by decide) rfl⟩, hS.F ht⟩) hS.2.2 dT_appendMaps_101
            · have hfi := fFI_b k (by omega)
              refine lv_aload_n hx hb dT_appendMaps_62 rfl (lv_at hl 1 rfl) ?_
              refine lv_iload hx hb dT_appendMaps_63 (lv_at hl 3 rfl) ?_
              refine zc_Ri (va_runV (As := [.int (nI k)]) (rest := []) ⟨hx, hb, hml, hown, hw⟩ (c_D_has l dC dI h0 h1 h2 cI cB ty cnt k (by omega) (hb9 k (by omega)) H) (cwV 1 hw (gV w_ml_T_32 w_im_D_has w_se_D_has w_in_D w_co_D_has) rfl rfl rfl (by decide +kernel) ⟨Nat.le_of_ble_eq_true rfl, Nat.le_of_ble_eq_true rfl⟩) (zR_V hG hS (hP.sub (ws' := [(h0, .inr (0, [.int (nI ty), .ref h1, .ref h2])), (h1, .inl (cI, 16, .inl (aN cnt)))]) [2, 3] rfl) hK 0 rfl rfl) rfl rfl hl.1 rfl (lv_room (Nat.le_of_ble_eq_true rfl)) dT_appendMaps_65 ⟨Nat.le_of_ble_eq_true rfl, Nat.le_of_ble_eq_true rfl⟩) hS (fun r_2 locs h_65 hS => ?_)
              subst h_65
              refine zi_eq0 (tgt := 95) hx hb (hz_lt _) dT_appendMaps_68 (by decide) (fun c_68 => ?_) (fun c_68 => ?_)
              · have h8 := hi
                rw [show 16 - k = 16 - (k + 1) + 1 by omega] at h8
                unfold mpS at h8
                rw [if_pos (hz_0.mp c_68)] at h8
                refine lv_iinc (v := nI (k + 1)) (lv' := [(4, .int (nI (k + 1))), (0, .ref t0), (1, .ref h0), (3, .int (nI len))]) hx hb dT_appendMaps_95 hl (k := 3) rfl (zi_incr k 1) (by decide) rfl (fun ls hl => ?_)
                refine lv_goto (tgt := 55) hx hb dT_appendMaps_98 (by decide) ?_
                exact ih55 (k + 1) f (by omega) h8 (by omega) _ _ _ (lv_sub hl [1, 2, 3, 0] rfl) (hP.sub [0, 1, 2, 3, 4] rfl) (hD.sub [0, 1, 2, 3, 4] (by decide) rfl) hS
              · refine lv_aload_n hx hb dT_appendMaps_71 rfl (lv_at hl 0 rfl) ?_
                refine lv_iload_n hx hb dT_appendMaps_72 rfl (lv_at hl 2 rfl) ?_
                refine va_getsN hx hb zfFI hS hown (va_Nw.use rfl (hG.nf (RT, 51, "FIELDS") (List.mem_of_getElem? (i := 0) rfl))) (fun _ h9 => h9) dT_appendMaps_73 ?_
                refine lv_iload hx hb dT_appendMaps_76 (lv_at hl 3 rfl) ?_
                refine za_tab hx hb afFI hS (by omega) (by decide) dT_appendMaps_78 ?_
                refine zc_Ri (va_runSN (As := [.int (nI (fFI k))]) (rest := [.int (nI len), .ref t0]) ⟨hx, hb, hml, hown, hw⟩ (c_C_mapByte l dC dI cI cB (fFI k) (by omega) (by omega) H) ⟨va_cnB 1 hw (gC w_co_C_mapByte) rfl rfl rfl (hG.nm (RT, 55, yC_mapByte) (List.mem_of_getElem? (i := 4) rfl)) (hw _ w_in_C) (by decide +kernel) ⟨Nat.le_of_ble_eq_true rfl, Nat.le_of_ble_eq_true rfl⟩, hw _ w_st_C_mapByte, trivial⟩ (zR_S hG hS (hP.sub (ws' := []) [] rfl) hK) rfl rfl hl.1 rfl (lv_room (Nat.le_of_ble_eq_true rfl)) dT_appendMaps_79 ⟨Nat.le_of_ble_eq_true rfl, Nat.le_of_ble_eq_true rfl⟩) hS (fun r_3 locs h_79 hS => ?_)
                subst h_79
                refine zi_add hx hb dT_appendMaps_82 ?_
                refine va_getsN hx hb zfFI hS hown (va_Nw.use rfl (hG.nf (RT, 51, "FIELDS") (List.mem_of_getElem? (i := 0) rfl))) (fun _ h9 => h9) dT_appendMaps_83 ?_
                refine lv_iload hx hb dT_appendMaps_86 (lv_at hl 3 rfl) ?_
                refine za_tab hx hb afFI hS (by omega) (by decide) dT_appendMaps_88 ?_
                refine zc_Ri (va_runSN (As := [.int (nI (fFI k))]) (rest := [.int (nI (len + (((fFI k) - 1) / 8))), .ref t0]) ⟨hx, hb, hml, hown, hw⟩ (c_C_mapBit l dC dI cI cB (fFI k) (by omega) (by omega) H) ⟨va_cnB 1 hw (gC w_co_C_mapBit) rfl rfl rfl (hG.nm (RT, 59, yC_mapBit) (List.mem_of_getElem? (i := 5) rfl)) (hw _ w_in_C) (by decide +kernel) ⟨Nat.le_of_ble_eq_true rfl, Nat.le_of_ble_eq_true rfl⟩, hw _ w_st_C_mapBit, trivial⟩ (zR_S hG hS (hP.sub (ws' := []) [] rfl) hK) rfl rfl hl.1 rfl (lv_room (Nat.le_of_ble_eq_true rfl)) dT_appendMaps_89 ⟨Nat.le_of_ble_eq_true rfl, Nat.le_of_ble_eq_true rfl⟩) hS (fun r_4 locs h_89 hS => ?_)
                subst h_89
                have hPc := hP.sub (ws' := [(t0, .inr (2, [.ref t1, .int (nI (len + 8))])), (t1, .inl (cB, 400, .inl (aB f)))]) [0, 1] rfl
                have hDc := hD.sub (ws' := [(t0, .inr (2, [.ref t1, .int (nI (len + 8))])), (t1, .inl (cB, 400, .inl (aB f)))]) [0, 1] (by decide) rfl
                have hFc := va_free (wc := [(t0, .inr (2, [.ref t1, .int (nI (len + 8))])), (t1, .inl (cB, 400, .inl (aB f)))]) hD hS hA [0, 1] rfl
                refine zc_Mv (va_runV (As := [.int (nI (len + (((fFI k) - 1) / 8))), .int (nI (128 / 2 ^ (((fFI k) - 1) % 8)))]) (rest := []) ⟨hx, hb, hml, hown, hw⟩ (c_T_flip l dC dI t0 t1 cI cB (len + 8) f (len + (((fFI k) - 1) / 8)) (128 / 2 ^ (((fFI k) - 1) % 8)) (by omega) H.size) (cwV 2 hw (gV w_ml_T_48 w_im_T_flip w_se_T_flip w_in_T w_co_T_flip) rfl rfl rfl (by decide +kernel) ⟨Nat.le_of_ble_eq_true rfl, Nat.le_of_ble_eq_true rfl⟩) (zM_V hG hS hFc hPc hDc hK 0 rfl rfl) rfl rfl hl.1 rfl (lv_room (Nat.le_of_ble_eq_true rfl)) dT_appendMaps_92 ⟨Nat.le_of_ble_eq_true rfl, Nat.le_of_ble_eq_true rfl⟩) hS hFc (fun H locs h_92 hP1 hD1 hk1 hS => ?_)
                obtain ⟨hP, hD⟩ := va_join (wr := [(h0, .inr (0, [.int (nI ty), .ref h1, .ref h2])), (h1, .inl (cI, 16, .inl (aN cnt))), (h2, .inl (cB, 208, .inl (aN mk)))]) (w1 := [(t0, .inr (2, [.ref t1, .int (nI (len + 8))])), (t1, .inl (cB, 400, .inl (aB (nup f (len + (((fFI k) - 1) / 8)) (f (len + (((fFI k) - 1) / 8)) ^^^ (128 / 2 ^ (((fFI k) - 1) % 8)))))))]) hP hD [0, 1] [2, 3, 4] rfl rfl (by decide) (by decide) hk1 hFc hP1 hD1
                have hP : va_P (dC, dI) vwCl [(h0, .inr (0, [.int (nI ty), .ref h1, .ref h2])), (h1, .inl (cI, 16, .inl (aN cnt))), (h2, .inl (cB, 208, .inl (aN mk))), (t0, .inr (2, [.ref t1, .int (nI (len + 8))])), (t1, .inl (cB, 400, .inl (aB (nup f (len + (((fFI k) - 1) / 8)) (f (len + (((fFI k) - 1) / 8)) ^^^ (128 / 2 ^ (((fFI k) - 1) % 8)))))))] H := hP
                have hD : va_D A [(h0, .inr (0, [.int (nI ty), .ref h1, .ref h2])), (h1, .inl (cI, 16, .inl (aN cnt))), (h2, .inl (cB, 208, .inl (aN mk))), (t0, .inr (2, [.ref t1, .int (nI (len + 8))])), (t1, .inl (cB, 400, .inl (aB (nup f (len + (((fFI k) - 1) / 8)) (f (len + (((fFI k) - 1) / 8)) ^^^ (128 / 2 ^ (((fFI k) - 1) % 8)))))))] := hD
                have h8 := hi
                rw [show 16 - k = 16 - (k + 1) + 1 by omega] at h8
                unfold mpS at h8
                rw [if_neg (fun z => c_68 (hz_0.mpr z))] at h8
                refine lv_iinc (v := nI (k + 1)) (lv' := [(4, .int (nI (k + 1))), (0, .ref t0), (1, .ref h0), (3, .int (nI len))]) hx hb dT_appendMaps_95 hl (k := 3) rfl (zi_incr k 1) (by decide) rfl (fun ls hl => ?_)
                refine lv_goto (tgt := 55) hx hb dT_appendMaps_98 (by decide) ?_
                exact ih55 (k + 1) (nup f (len + (((fFI k) - 1) / 8)) (f (len + (((fFI k) - 1) / 8)) ^^^ (128 / 2 ^ (((fFI k) - 1) % 8)))) (by omega) h8 (by omega) _ _ _ (lv_sub hl [1, 2, 3, 0] rfl) (hP.sub [3, 4, 0, 1, 2] rfl) (hD.sub [3, 4, 0, 1, 2] (by decide) rfl) hS
        exact lp_55 ((16 - 0) + 1) 0 (apl tp len (List.replicate 8 0)) (by omega) rfl (Nat.lt_succ_self _) _ _ _ (lv_sub hl [1, 2, 4, 0] rfl) (hP.sub [0, 1, 2, 3, 4] rfl) (hD.sub [0, 1, 2, 3, 4] (by decide) rfl) hS
      · refine lv_aload_n hx hb dT_appendMaps_29 rfl (lv_at hl 0 rfl) ?_
        refine lv_iconst (v := nI 0) hx hb dT_appendMaps_30 (by decide) ?_
        have hPc := hP.sub (ws' := [(t0, .inr (2, [.ref t1, .int (nI q)])), (t1, .inl (cB, 400, .inl (aB f)))]) [0, 1] rfl
        have hDc := hD.sub (ws' := [(t0, .inr (2, [.ref t1, .int (nI q)])), (t1, .inl (cB, 400, .inl (aB f)))]) [0, 1] (by decide) rfl
        have hFc := va_free (wc := [(t0, .inr (2, [.ref t1, .int (nI q)])), (t1, .inl (cB, 400, .inl (aB f)))]) hD hS hA [0, 1] rfl
        refine zc_Mv (va_runV (As := [.int (nI 0)]) (rest := []) ⟨hx, hb, hml, hown, hw⟩ (c_T_append l dC dI t0 t1 cI cB q f 0 (by omega) H.size) (cwV 1 hw (gV w_ml_T_44 w_im_T_append w_se_T_append w_in_T w_co_T_append) rfl rfl rfl (by decide +kernel) ⟨Nat.le_of_ble_eq_true rfl, Nat.le_of_ble_eq_true rfl⟩) (zM_V hG hS hFc hPc hDc hK 0 rfl rfl) rfl rfl hl.1 rfl (lv_room (Nat.le_of_ble_eq_true rfl)) dT_appendMaps_31 ⟨Nat.le_of_ble_eq_true rfl, Nat.le_of_ble_eq_true rfl⟩) hS hFc (fun H locs h_31 hP1 hD1 hk1 hS => ?_)
        obtain ⟨hP, hD⟩ := va_join (wr := [(h0, .inr (0, [.int (nI ty), .ref h1, .ref h2])), (h1, .inl (cI, 16, .inl (aN cnt))), (h2, .inl (cB, 208, .inl (aN mk)))]) (w1 := [(t0, .inr (2, [.ref t1, .int (nI (q + 1))])), (t1, .inl (cB, 400, .inl (aB (nup f q 0))))]) hP hD [0, 1] [2, 3, 4] rfl rfl (by decide) (by decide) hk1 hFc hP1 hD1
        have hP : va_P (dC, dI) vwCl [(h0, .inr (0, [.int (nI ty), .ref h1, .ref h2])), (h1, .inl (cI, 16, .inl (aN cnt))), (h2, .inl (cB, 208, .inl (aN mk))), (t0, .inr (2, [.ref t1, .int (nI (q + 1))])), (t1, .inl (cB, 400, .inl (aB (nup f q 0))))] H := hP
        have hD : va_D A [(h0, .inr (0, [.int (nI ty), .ref h1, .ref h2])), (h1, .inl (cI, 16, .inl (aN cnt))), (h2, .inl (cB, 208, .inl (aN mk))), (t0, .inr (2, [.ref t1, .int (nI (q + 1))])), (t1, .inl (cB, 400, .inl (aB (nup f q 0))))] := hD
        refine lv_iinc (v := nI (k + 1)) (lv' := [(4, .int (nI (k + 1))), (0, .ref t0), (1, .ref h0), (2, .int (nI 0)), (3, .int (nI len))]) hx hb dT_appendMaps_34 hl (k := 4) rfl (zi_incr k 1) (by decide) rfl (fun ls hl => ?_)
        refine lv_goto (tgt := 13) hx hb dT_appendMaps_37 (by decide) ?_
        exact ih13 (k + 1) (q + 1) (nup f q 0) (by omega) (by omega) (by have h9 := hi; rw [show 8 - k = 8 - (k + 1) + 1 by omega] at h9; exact h9) (by omega) _ _ _ (lv_sub hl [1, 2, 3, 4, 0] rfl) (hP.sub [3, 4, 0, 1, 2] rfl) (hD.sub [3, 4, 0, 1, 2] (by decide) rfl) hS
  exact lp_13 ((8 - 0) + 1) 0 len tp (by omega) (by omega) rfl (Nat.lt_succ_self _) _ _ _ (lv_sub hl [3, 4, 2, 1, 0] rfl) (hP.sub [0, 1, 2, 3, 4] rfl) (hD.sub [0, 1, 2, 3, 4] (by decide) rfl) hS
def rm_c_write_two : Room := ({ frames := 4, cells := 0, slots := 0, locals := 91 } : Room)
set_option maxHeartbeats 4000000 in
set_option maxRecDepth 100000 in
theorem c_write_two (l : Launch) (dC : Nat → ClassId) (dI : Nat → Nat → Nat) (t0 : Nat) (t1 : Nat) (cI : ClassId) (cB : ClassId) (len : Nat) (tp : Nat → Nat) (h0 : Nat) (h1 : Nat) (h2 : Nat) (ty : Nat) (cnt : Nat → Nat) (mk : Nat → Nat) (hty : ty < 10000) (hct : ∀ j, j < 16 → cnt j ≤ fMM j) (hm : ∀ j, mk j < 128) (hg : ∀ sl, sl < 16 → fHL sl = 0 → ∀ j, j < cnt sl → mk (fFM sl + j) < 16) (hd : s2L cnt 16 0 = true) (sz : Nat) : Met l yT_write wsT_write rm_c_write_two (zM (dC, dI) [(cI, .int), (cB, .byte)] [.ref t0, .ref h0] [(t0, .inr (2, [.ref t1, .int (nI len)])), (t1, .inl (cB, 400, .inl (aB tp))), (h0, .inr (0, [.int (nI ty), .ref h1, .ref h2])), (h1, .inl (cI, 16, .inl (aN cnt))), (h2, .inl (cB, 208, .inl (aN mk)))] sz) (zMv (dC, dI) [(t0, .inr (2, [.ref t1, .int (nI len)])), (t1, .inl (cB, 400, .inl (aB tp))), (h0, .inr (0, [.int (nI ty), .ref h1, .ref h2])), (h1, .inl (cI, 16, .inl (aN cnt))), (h2, .inl (cB, 208, .inl (aN mk)))] [(t0, .inr (2, [.ref t1, .int (nI (18 + (flB cnt mk 16 0).length))])), (t1, .inl (cB, 400, .inl (aB (apl (mpS 2 cnt 16 0 (nup (apl (apl tp 0 (anb ty 4)) 2 (List.replicate 16 0)) 2 ((apl (apl tp 0 (anb ty 4)) 2 (List.replicate 16 0)) 2 ^^^ 128))) 18 (flB cnt mk 16 0))))), (h0, .inr (0, [.int (nI ty), .ref h1, .ref h2])), (h1, .inl (cI, 16, .inl (aN cnt))), (h2, .inl (cB, 208, .inl (aN mk)))] sz (True)) 0 0 (va_A [(t0, .inr (2, [.ref t1, .int (nI len)])), (t1, .inl (cB, 400, .inl (aB tp))), (h0, .inr (0, [.int (nI ty), .ref h1, .ref h2])), (h1, .inl (cI, 16, .inl (aN cnt))), (h2, .inl (cB, 208, .inl (aN mk)))] sz) := by
  refine Met.ofW (cc := cT_write) (maxL := 3) (ret := none) (by decide) rfl ?_
  intro p e s m args below meth c s₁ Bd hml hv
  obtain ⟨rfl, hsz, hG, hP, hK, hD0⟩ := hv
  subst hsz
  have hx := Bd.exec
  have hb := Bd.bytes
  have hr := Bd.returns
  have hts := atoms_spec (ws := wsT_write) Bd.pre
  have hw : ∀ w ∈ BIG, w.before _ s = true := fun w h => hts w (List.mem_cons_of_mem _ h)
  have hown : s.vm.findClass RT = some m.cls := findClass_of_methodNamed Bd.named
  have hlocks := Bd.notSynchronized
  have hD := hD0.self (sz := s.heap.size)
  obtain ⟨A, hAe⟩ : ∃ A, A = va_A [(t0, .inr (2, [.ref t1, .int (nI len)])), (t1, .inl (cB, 400, .inl (aB tp))), (h0, .inr (0, [.int (nI ty), .ref h1, .ref h2])), (h1, .inl (cI, 16, .inl (aN cnt))), (h2, .inl (cB, 208, .inl (aN mk)))] s.heap.size := ⟨_, rfl⟩
  have hA : ∀ q : Nat, s.heap.size ≤ q → A q := fun q h => by rw [hAe]; exact Or.inr h
  rw [← hAe] at hG hD
  have hS : va_S A s.heap s.heap [] := va_S.rf
  have hl := lv_entry ([.ref t0, .ref h0]) (n := 3) (Nat.le_of_ble_eq_true rfl)
  rw [lg_entry_eq]
  generalize (lg_sl ([.ref t0, .ref h0]) ++ List.replicate (3 - (lg_sl ([.ref t0, .ref h0])).length) Slot.unset).toArray = ls at hl ⊢
  have hl : lv_has ls 3 [(0, .ref t0), (1, .ref h0)] := hl
  refine zq_name (fun Q hQ => ?_)
  change W p l e rm_c_write_two s m _ below meth c _ _ _ _ Q _
  have hb9 : ∀ j, j < 16 → cnt j < 2 ^ 31 := fun j hj => by have := hct j hj; have := (fMM_b j hj).2; omega
  refine lv_aload_n hx hb dT_write_0 rfl (lv_at hl 0 rfl) ?_
  refine lv_iconst (v := nI 0) hx hb dT_write_1 (by decide) ?_
  refine va_put (D := (dC, dI)) (ci := 2) (v := .int (nI 0)) (ty := .int) (C := RT) (T := TT) (N := 2) hx hb hw inT tyT tyT_ok nmT hown hK hP hD hS 0 rfl rfl 1 (by decide) (hw _ w_fl_T_15) (fun _ h9 => h9) rfl (by decide +kernel) rfl rfl (Nat.le_of_ble_eq_true rfl) dT_write_2 (fun H locs hP hD hS => ?_)
  have hP : va_P (dC, dI) vwCl [(t0, .inr (2, [.ref t1, .int (nI 0)])), (t1, .inl (cB, 400, .inl (aB tp))), (h0, .inr (0, [.int (nI ty), .ref h1, .ref h2])), (h1, .inl (cI, 16, .inl (aN cnt))), (h2, .inl (cB, 208, .inl (aN mk)))] H := hP
  have hD : va_D A [(t0, .inr (2, [.ref t1, .int (nI 0)])), (t1, .inl (cB, 400, .inl (aB tp))), (h0, .inr (0, [.int (nI ty), .ref h1, .ref h2])), (h1, .inl (cI, 16, .inl (aN cnt))), (h2, .inl (cB, 208, .inl (aN mk)))] := hD
  refine lv_aload_n hx hb dT_write_5 rfl (lv_at hl 0 rfl) ?_
  refine lv_aload_n hx hb dT_write_6 rfl (lv_at hl 1 rfl) ?_
  refine va_get (D := (dC, dI)) (ci := 0) (v := .int (nI ty)) (C := RD) (T := TD) (N := 3) hx hb hw inD hown hK hP 2 rfl rfl 0 (by decide) (hw _ w_fl_T_19) (fun _ h9 => h9) rfl dT_write_7 ?_
  refine lv_iconst (v := nI 4) hx hb dT_write_10 (by decide) ?_
  have hPc := hP.sub (ws' := [(t0, .inr (2, [.ref t1, .int (nI 0)])), (t1, .inl (cB, 400, .inl (aB tp)))]) [0, 1] rfl
  have hDc := hD.sub (ws' := [(t0, .inr (2, [.ref t1, .int (nI 0)])), (t1, .inl (cB, 400, .inl (aB tp)))]) [0, 1] (by decide) rfl
  have hFc := va_free (wc := [(t0, .inr (2, [.ref t1, .int (nI 0)])), (t1, .inl (cB, 400, .inl (aB tp)))]) hD hS hA [0, 1] rfl
  refine zc_Mv (va_runV (As := [.int (nI ty), .int (nI 4)]) (rest := []) ⟨hx, hb, hml, hown, hw⟩ (c_T_appendNumber l dC dI t0 t1 cI cB 0 tp ty 4 (by omega) (by omega) (by omega) H.size) (cwV 2 hw (gV w_ml_T_24 w_im_T_appendNumber w_se_T_appendNumber w_in_T w_co_T_appendNumber) rfl rfl rfl (by decide +kernel) ⟨Nat.le_of_ble_eq_true rfl, Nat.le_of_ble_eq_true rfl⟩) (zM_V hG hS hFc hPc hDc hK 0 rfl rfl) rfl rfl hl.1 rfl (lv_room (Nat.le_of_ble_eq_true rfl)) dT_write_11 ⟨Nat.le_of_ble_eq_true rfl, Nat.le_of_ble_eq_true rfl⟩) hS hFc (fun H locs h_11 hP1 hD1 hk1 hS => ?_)
  obtain ⟨hP, hD⟩ := va_join (wr := [(h0, .inr (0, [.int (nI ty), .ref h1, .ref h2])), (h1, .inl (cI, 16, .inl (aN cnt))), (h2, .inl (cB, 208, .inl (aN mk)))]) (w1 := [(t0, .inr (2, [.ref t1, .int (nI (0 + (anb ty 4).length))])), (t1, .inl (cB, 400, .inl (aB (apl tp 0 (anb ty 4)))))]) hP hD [0, 1] [2, 3, 4] rfl rfl (by decide) (by decide) hk1 hFc hP1 hD1
  have hP : va_P (dC, dI) vwCl [(h0, .inr (0, [.int (nI ty), .ref h1, .ref h2])), (h1, .inl (cI, 16, .inl (aN cnt))), (h2, .inl (cB, 208, .inl (aN mk))), (t0, .inr (2, [.ref t1, .int (nI (0 + (anb ty 4).length))])), (t1, .inl (cB, 400, .inl (aB (apl tp 0 (anb ty 4)))))] H := hP
  have hD : va_D A [(h0, .inr (0, [.int (nI ty), .ref h1, .ref h2])), (h1, .inl (cI, 16, .inl (aN cnt))), (h2, .inl (cB, 208, .inl (aN mk))), (t0, .inr (2, [.ref t1, .int (nI (0 + (anb ty 4).length))])), (t1, .inl (cB, 400, .inl (aB (apl tp 0 (anb ty 4)))))] := hD
  have e9 : (anb ty 4).length = 2 := rfl
  rw [e9] at hP hD
  have hP : va_P (dC, dI) vwCl [(h0, .inr (0, [.int (nI ty), .ref h1, .ref h2])), (h1, .inl (cI, 16, .inl (aN cnt))), (h2, .inl (cB, 208, .inl (aN mk))), (t0, .inr (2, [.ref t1, .int (nI 2)])), (t1, .inl (cB, 400, .inl (aB (apl tp 0 (anb ty 4)))))] H := hP
  have hD : va_D A [(h0, .inr (0, [.int (nI ty), .ref h1, .ref h2])), (h1, .inl (cI, 16, .inl (aN cnt))), (h2, .inl (cB, 208, .inl (aN mk))), (t0, .inr (2, [.ref t1, .int (nI 2)])), (t1, .inl (cB, 400, .inl (aB (apl tp 0 (anb ty 4)))))] := hD
  refine lv_aload_n hx hb dT_write_14 rfl (lv_at hl 0 rfl) ?_
  refine lv_aload_n hx hb dT_write_15 rfl (lv_at hl 1 rfl) ?_
  have hPc := hP.sub (ws' := [(t0, .inr (2, [.ref t1, .int (nI 2)])), (t1, .inl (cB, 400, .inl (aB (apl tp 0 (anb ty 4))))), (h0, .inr (0, [.int (nI ty), .ref h1, .ref h2])), (h1, .inl (cI, 16, .inl (aN cnt))), (h2, .inl (cB, 208, .inl (aN mk)))]) [3, 4, 0, 1, 2] rfl
  have hDc := hD.sub (ws' := [(t0, .inr (2, [.ref t1, .int (nI 2)])), (t1, .inl (cB, 400, .inl (aB (apl tp 0 (anb ty 4))))), (h0, .inr (0, [.int (nI ty), .ref h1, .ref h2])), (h1, .inl (cI, 16, .inl (aN cnt))), (h2, .inl (cB, 208, .inl (aN mk)))]) [3, 4, 0, 1, 2] (by decide) rfl
  have hFc := va_free (wc := [(t0, .inr (2, [.ref t1, .int (nI 2)])), (t1, .inl (cB, 400, .inl (aB (apl tp 0 (anb ty 4))))), (h0, .inr (0, [.int (nI ty), .ref h1, .ref h2])), (h1, .inl (cI, 16, .inl (aN cnt))), (h2, .inl (cB, 208, .inl (aN mk)))]) hD hS hA [3, 4, 0, 1, 2] rfl
  refine zc_Mv (va_runV (As := [.ref h0]) (rest := []) ⟨hx, hb, hml, hown, hw⟩ (c_appendMaps_two l dC dI t0 t1 cI cB 2 (apl tp 0 (anb ty 4)) h0 h1 h2 ty cnt mk (by omega) hb9 hd H.size) (cwV 1 hw (gV w_ml_T_28 w_im_T_appendMaps w_se_T_appendMaps w_in_T w_co_T_appendMaps) rfl rfl rfl (by decide +kernel) ⟨Nat.le_of_ble_eq_true rfl, Nat.le_of_ble_eq_true rfl⟩) (zM_V hG hS hFc hPc hDc hK 0 rfl rfl) rfl rfl hl.1 rfl (lv_room (Nat.le_of_ble_eq_true rfl)) dT_write_16 ⟨Nat.le_of_ble_eq_true rfl, Nat.le_of_ble_eq_true rfl⟩) hS hFc (fun H locs h_16 hP1 hD1 hk1 hS => ?_)
  obtain ⟨hP, hD⟩ := va_join (wr := []) (w1 := [(t0, .inr (2, [.ref t1, .int (nI (2 + 16))])), (t1, .inl (cB, 400, .inl (aB (mpS 2 cnt 16 0 (nup (apl (apl tp 0 (anb ty 4)) 2 (List.replicate 16 0)) 2 ((apl (apl tp 0 (anb ty 4)) 2 (List.replicate 16 0)) 2 ^^^ 128)))))), (h0, .inr (0, [.int (nI ty), .ref h1, .ref h2])), (h1, .inl (cI, 16, .inl (aN cnt))), (h2, .inl (cB, 208, .inl (aN mk)))]) hP hD [3, 4, 0, 1, 2] [] rfl rfl (by decide) (by decide) hk1 hFc hP1 hD1
  have hP : va_P (dC, dI) vwCl [(t0, .inr (2, [.ref t1, .int (nI (2 + 16))])), (t1, .inl (cB, 400, .inl (aB (mpS 2 cnt 16 0 (nup (apl (apl tp 0 (anb ty 4)) 2 (List.replicate 16 0)) 2 ((apl (apl tp 0 (anb ty 4)) 2 (List.replicate 16 0)) 2 ^^^ 128)))))), (h0, .inr (0, [.int (nI ty), .ref h1, .ref h2])), (h1, .inl (cI, 16, .inl (aN cnt))), (h2, .inl (cB, 208, .inl (aN mk)))] H := hP
  have hD : va_D A [(t0, .inr (2, [.ref t1, .int (nI (2 + 16))])), (t1, .inl (cB, 400, .inl (aB (mpS 2 cnt 16 0 (nup (apl (apl tp 0 (anb ty 4)) 2 (List.replicate 16 0)) 2 ((apl (apl tp 0 (anb ty 4)) 2 (List.replicate 16 0)) 2 ^^^ 128)))))), (h0, .inr (0, [.int (nI ty), .ref h1, .ref h2])), (h1, .inl (cI, 16, .inl (aN cnt))), (h2, .inl (cB, 208, .inl (aN mk)))] := hD
  have hP : va_P (dC, dI) vwCl [(t0, .inr (2, [.ref t1, .int (nI 18)])), (t1, .inl (cB, 400, .inl (aB (mpS 2 cnt 16 0 (nup (apl (apl tp 0 (anb ty 4)) 2 (List.replicate 16 0)) 2 ((apl (apl tp 0 (anb ty 4)) 2 (List.replicate 16 0)) 2 ^^^ 128)))))), (h0, .inr (0, [.int (nI ty), .ref h1, .ref h2])), (h1, .inl (cI, 16, .inl (aN cnt))), (h2, .inl (cB, 208, .inl (aN mk)))] H := hP
  have hD : va_D A [(t0, .inr (2, [.ref t1, .int (nI 18)])), (t1, .inl (cB, 400, .inl (aB (mpS 2 cnt 16 0 (nup (apl (apl tp 0 (anb ty 4)) 2 (List.replicate 16 0)) 2 ((apl (apl tp 0 (anb ty 4)) 2 (List.replicate 16 0)) 2 ^^^ 128)))))), (h0, .inr (0, [.int (nI ty), .ref h1, .ref h2])), (h1, .inl (cI, 16, .inl (aN cnt))), (h2, .inl (cB, 208, .inl (aN mk)))] := hD
  refine lv_iconst (v := nI 0) hx hb dT_write_19 (by decide) ?_
  refine lv_istore_n (lv' := [(2, .int (nI 0)), (0, .ref t0), (1, .ref h0)]) hx hb dT_write_20 rfl hl (by decide) rfl (fun ls hl => ?_)
  have lp_21 : ∀ (fu : Nat) (k : Nat) (q : Nat) (f : Nat → Nat) (hk : k ≤ 16) (hr9 : q + fRM k ≤ 162) (hn : q + (flB cnt mk (16 - k) k).length = 18 + (flB cnt mk 16 0).length) (hi : apl f q (flB cnt mk (16 - k) k) = apl (mpS 2 cnt 16 0 (nup (apl (apl tp 0 (anb ty 4)) 2 (List.replicate 16 0)) 2 ((apl (apl tp 0 (anb ty 4)) 2 (List.replicate 16 0)) 2 ^^^ 128))) 18 (flB cnt mk 16 0)) (hms : 16 - k < fu) (H : Heap) (locs : List Loc) (ls : Array Slot), lv_has ls 3 [(0, .ref t0), (1, .ref h0), (2, .int (nI k))] → va_P (dC, dI) vwCl [(t0, .inr (2, [.ref t1, .int (nI q)])), (t1, .inl (cB, 400, .inl (aB f))), (h0, .inr (0, [.int (nI ty), .ref h1, .ref h2])), (h1, .inl (cI, 16, .inl (aN cnt))), (h2, .inl (cB, 208, .inl (aN mk)))] H → va_D A [(t0, .inr (2, [.ref t1, .int (nI q)])), (t1, .inl (cB, 400, .inl (aB f))), (h0, .inr (0, [.int (nI ty), .ref h1, .ref h2])), (h1, .inl (cI, 16, .inl (aN cnt))), (h2, .inl (cB, 208, .inl (aN mk)))] → va_S A s.heap H locs → W p l e rm_c_write_two s m ([.ref t0, .ref h0] : List Value).toArray below meth c H locs 0 0 Q (F0 m 21 ls []) := by
    intro fu
    induction fu with
    | zero => intro k q f hk hr9 hn hi hms; exact absurd hms (Nat.not_lt_zero _)
    | succ fu ih21 =>
      intro k q f hk hr9 hn hi hms H locs ls hl hP hD hS
      refine lv_iload_n hx hb dT_write_21 rfl (lv_at hl 2 rfl) ?_
      refine lv_bipush (v := nI 16) hx hb dT_write_22 (by decide) ?_
      refine zi_ge (tgt := 47) hx hb (by omega) (by omega) dT_write_24 (by decide) (fun c_24 => ?_) (fun c_24 => ?_)
      · have hi : f = apl (mpS 2 cnt 16 0 (nup (apl (apl tp 0 (anb ty 4)) 2 (List.replicate 16 0)) 2 ((apl (apl tp 0 (anb ty 4)) 2 (List.replicate 16 0)) 2 ^^^ 128))) 18 (flB cnt mk 16 0) := by have h9 := hi; rw [show 16 - k = 0 by omega] at h9; exact h9
        have hn : q = 18 + (flB cnt mk 16 0).length := by have h9 := hn; rw [show 16 - k = 0 by omega] at h9; exact h9
        subst hi
        subst hn
        subst hAe
        subst hQ
        exact W.vret hx hb hr (fun t ht hW => ⟨⟨(), rfl, trivial, by rw [ht]; exact hP.sub [0, 1, 2, 3, 4] rfl, hD.sub [0, 1, 2, 3, 4] (by decide) rfl⟩, hS.F ht⟩) hS.2.2 dT_write_47
      · refine lv_aload_n hx hb dT_write_27 rfl (lv_at hl 1 rfl) ?_
        refine lv_iload_n hx hb dT_write_28 rfl (lv_at hl 2 rfl) ?_
        refine zc_Ri (va_runV (As := [.int (nI k)]) (rest := []) ⟨hx, hb, hml, hown, hw⟩ (c_D_has l dC dI h0 h1 h2 cI cB ty cnt k (by omega) (hb9 k (by omega)) H) (cwV 1 hw (gV w_ml_T_32 w_im_D_has w_se_D_has w_in_D w_co_D_has) rfl rfl rfl (by decide +kernel) ⟨Nat.le_of_ble_eq_true rfl, Nat.le_of_ble_eq_true rfl⟩) (zR_V hG hS (hP.sub (ws' := [(h0, .inr (0, [.int (nI ty), .ref h1, .ref h2])), (h1, .inl (cI, 16, .inl (aN cnt)))]) [2, 3] rfl) hK 0 rfl rfl) rfl rfl hl.1 rfl (lv_room (Nat.le_of_ble_eq_true rfl)) dT_write_29 ⟨Nat.le_of_ble_eq_true rfl, Nat.le_of_ble_eq_true rfl⟩) hS (fun r_3 locs h_29 hS => ?_)
        subst h_29
        refine zi_eq0 (tgt := 41) hx hb (hz_lt _) dT_write_32 (by decide) (fun c_32 => ?_) (fun c_32 => ?_)
        · have hrs := fRM_s k (by omega)
          have h8 := hi
          rw [show 16 - k = 16 - (k + 1) + 1 by omega] at h8
          unfold flB at h8
          rw [if_pos (hz_0.mp c_32), List.nil_append] at h8
          have h7 := hn
          rw [show 16 - k = 16 - (k + 1) + 1 by omega] at h7
          unfold flB at h7
          rw [if_pos (hz_0.mp c_32), List.nil_append] at h7
          refine lv_iinc (v := nI (k + 1)) (lv' := [(2, .int (nI (k + 1))), (0, .ref t0), (1, .ref h0)]) hx hb dT_write_41 hl (k := 2) rfl (zi_incr k 1) (by decide) rfl (fun ls hl => ?_)
          refine lv_goto (tgt := 21) hx hb dT_write_44 (by decide) ?_
          exact ih21 (k + 1) q f (by omega) (by omega) h7 h8 (by omega) _ _ _ (lv_sub hl [1, 2, 0] rfl) (hP.sub [0, 1, 2, 3, 4] rfl) (hD.sub [0, 1, 2, 3, 4] (by decide) rfl) hS
        · refine lv_aload_n hx hb dT_write_35 rfl (lv_at hl 0 rfl) ?_
          refine lv_aload_n hx hb dT_write_36 rfl (lv_at hl 1 rfl) ?_
          refine lv_iload_n hx hb dT_write_37 rfl (lv_at hl 2 rfl) ?_
          have hPc := hP.sub (ws' := [(t0, .inr (2, [.ref t1, .int (nI q)])), (t1, .inl (cB, 400, .inl (aB f))), (h0, .inr (0, [.int (nI ty), .ref h1, .ref h2])), (h1, .inl (cI, 16, .inl (aN cnt))), (h2, .inl (cB, 208, .inl (aN mk)))]) [0, 1, 2, 3, 4] rfl
          have hDc := hD.sub (ws' := [(t0, .inr (2, [.ref t1, .int (nI q)])), (t1, .inl (cB, 400, .inl (aB f))), (h0, .inr (0, [.int (nI ty), .ref h1, .ref h2])), (h1, .inl (cI, 16, .inl (aN cnt))), (h2, .inl (cB, 208, .inl (aN mk)))]) [0, 1, 2, 3, 4] (by decide) rfl
          have hFc := va_free (wc := [(t0, .inr (2, [.ref t1, .int (nI q)])), (t1, .inl (cB, 400, .inl (aB f))), (h0, .inr (0, [.int (nI ty), .ref h1, .ref h2])), (h1, .inl (cI, 16, .inl (aN cnt))), (h2, .inl (cB, 208, .inl (aN mk)))]) hD hS hA [0, 1, 2, 3, 4] rfl
          refine zc_Mv (va_runV (As := [.ref h0, .int (nI k)]) (rest := []) ⟨hx, hb, hml, hown, hw⟩ (c_T_appendField l dC dI t0 t1 cI cB q f h0 h1 h2 ty cnt mk k (by omega) (by omega) (hct k (by omega)) hm (hg k (by omega)) H.size) (cwV 2 hw (gV w_ml_T_36 w_im_T_appendField w_se_T_appendField w_in_T w_co_T_appendField) rfl rfl rfl (by decide +kernel) ⟨Nat.le_of_ble_eq_true rfl, Nat.le_of_ble_eq_true rfl⟩) (zM_V hG hS hFc hPc hDc hK 0 rfl rfl) rfl rfl hl.1 rfl (lv_room (Nat.le_of_ble_eq_true rfl)) dT_write_38 ⟨Nat.le_of_ble_eq_true rfl, Nat.le_of_ble_eq_true rfl⟩) hS hFc (fun H locs h_38 hP1 hD1 hk1 hS => ?_)
          obtain ⟨hP, hD⟩ := va_join (wr := []) (w1 := [(t0, .inr (2, [.ref t1, .int (nI (q + (fldB cnt mk k).length))])), (t1, .inl (cB, 400, .inl (aB (apl f q (fldB cnt mk k))))), (h0, .inr (0, [.int (nI ty), .ref h1, .ref h2])), (h1, .inl (cI, 16, .inl (aN cnt))), (h2, .inl (cB, 208, .inl (aN mk)))]) hP hD [0, 1, 2, 3, 4] [] rfl rfl (by decide) (by decide) hk1 hFc hP1 hD1
          have hP : va_P (dC, dI) vwCl [(t0, .inr (2, [.ref t1, .int (nI (q + (fldB cnt mk k).length))])), (t1, .inl (cB, 400, .inl (aB (apl f q (fldB cnt mk k))))), (h0, .inr (0, [.int (nI ty), .ref h1, .ref h2])), (h1, .inl (cI, 16, .inl (aN cnt))), (h2, .inl (cB, 208, .inl (aN mk)))] H := hP
          have hD : va_D A [(t0, .inr (2, [.ref t1, .int (nI (q + (fldB cnt mk k).length))])), (t1, .inl (cB, 400, .inl (aB (apl f q (fldB cnt mk k))))), (h0, .inr (0, [.int (nI ty), .ref h1, .ref h2])), (h1, .inl (cI, 16, .inl (aN cnt))), (h2, .inl (cB, 208, .inl (aN mk)))] := hD
          have hlf := fldB_le (cnt := cnt) (mk := mk) (sl := k) (hct k (by omega))
          have hrs := fRM_s k (by omega)
          have h8 := hi
          rw [show 16 - k = 16 - (k + 1) + 1 by omega] at h8
          unfold flB at h8
          rw [if_neg (fun z => c_32 (hz_0.mpr z)), apl_app] at h8
          have h7 := hn
          rw [show 16 - k = 16 - (k + 1) + 1 by omega] at h7
          unfold flB at h7
          rw [if_neg (fun z => c_32 (hz_0.mpr z)), List.length_append, ← Nat.add_assoc] at h7
          refine lv_iinc (v := nI (k + 1)) (lv' := [(2, .int (nI (k + 1))), (0, .ref t0), (1, .ref h0)]) hx hb dT_write_41 hl (k := 2) rfl (zi_incr k 1) (by decide) rfl (fun ls hl => ?_)
          refine lv_goto (tgt := 21) hx hb dT_write_44 (by decide) ?_
          exact ih21 (k + 1) (q + (fldB cnt mk k).length) (apl f q (fldB cnt mk k)) (by omega) (by omega) h7 h8 (by omega) _ _ _ (lv_sub hl [1, 2, 0] rfl) (hP.sub [0, 1, 2, 3, 4] rfl) (hD.sub [0, 1, 2, 3, 4] (by decide) rfl) hS
  exact lp_21 ((16 - 0) + 1) 0 18 (mpS 2 cnt 16 0 (nup (apl (apl tp 0 (anb ty 4)) 2 (List.replicate 16 0)) 2 ((apl (apl tp 0 (anb ty 4)) 2 (List.replicate 16 0)) 2 ^^^ 128))) (by omega) (by decide) rfl rfl (Nat.lt_succ_self _) _ _ _ (lv_sub hl [1, 2, 0] rfl) (hP.sub [0, 1, 2, 3, 4] rfl) (hD.sub [0, 1, 2, 3, 4] (by decide) rfl) hS
def rm_c_write_one : Room := ({ frames := 4, cells := 0, slots := 0, locals := 91 } : Room)
set_option maxHeartbeats 4000000 in
set_option maxRecDepth 100000 in
theorem c_write_one (l : Launch) (dC : Nat → ClassId) (dI : Nat → Nat → Nat) (t0 : Nat) (t1 : Nat) (cI : ClassId) (cB : ClassId) (len : Nat) (tp : Nat → Nat) (h0 : Nat) (h1 : Nat) (h2 : Nat) (ty : Nat) (cnt : Nat → Nat) (mk : Nat → Nat) (hty : ty < 10000) (hct : ∀ j, j < 16 → cnt j ≤ fMM j) (hm : ∀ j, mk j < 128) (hg : ∀ sl, sl < 16 → fHL sl = 0 → ∀ j, j < cnt sl → mk (fFM sl + j) < 16) (hd : s2L cnt 16 0 = false) (sz : Nat) : Met l yT_write wsT_write rm_c_write_one (zM (dC, dI) [(cI, .int), (cB, .byte)] [.ref t0, .ref h0] [(t0, .inr (2, [.ref t1, .int (nI len)])), (t1, .inl (cB, 400, .inl (aB tp))), (h0, .inr (0, [.int (nI ty), .ref h1, .ref h2])), (h1, .inl (cI, 16, .inl (aN cnt))), (h2, .inl (cB, 208, .inl (aN mk)))] sz) (zMv (dC, dI) [(t0, .inr (2, [.ref t1, .int (nI len)])), (t1, .inl (cB, 400, .inl (aB tp))), (h0, .inr (0, [.int (nI ty), .ref h1, .ref h2])), (h1, .inl (cI, 16, .inl (aN cnt))), (h2, .inl (cB, 208, .inl (aN mk)))] [(t0, .inr (2, [.ref t1, .int (nI (10 + (flB cnt mk 16 0).length))])), (t1, .inl (cB, 400, .inl (aB (apl (mpS 2 cnt 16 0 (apl (apl tp 0 (anb ty 4)) 2 (List.replicate 8 0))) 10 (flB cnt mk 16 0))))), (h0, .inr (0, [.int (nI ty), .ref h1, .ref h2])), (h1, .inl (cI, 16, .inl (aN cnt))), (h2, .inl (cB, 208, .inl (aN mk)))] sz (True)) 0 0 (va_A [(t0, .inr (2, [.ref t1, .int (nI len)])), (t1, .inl (cB, 400, .inl (aB tp))), (h0, .inr (0, [.int (nI ty), .ref h1, .ref h2])), (h1, .inl (cI, 16, .inl (aN cnt))), (h2, .inl (cB, 208, .inl (aN mk)))] sz) := by
  refine Met.ofW (cc := cT_write) (maxL := 3) (ret := none) (by decide) rfl ?_
  intro p e s m args below meth c s₁ Bd hml hv
  obtain ⟨rfl, hsz, hG, hP, hK, hD0⟩ := hv
  subst hsz
  have hx := Bd.exec
  have hb := Bd.bytes
  have hr := Bd.returns
  have hts := atoms_spec (ws := wsT_write) Bd.pre
  have hw : ∀ w ∈ BIG, w.before _ s = true := fun w h => hts w (List.mem_cons_of_mem _ h)
  have hown : s.vm.findClass RT = some m.cls := findClass_of_methodNamed Bd.named
  have hlocks := Bd.notSynchronized
  have hD := hD0.self (sz := s.heap.size)
  obtain ⟨A, hAe⟩ : ∃ A, A = va_A [(t0, .inr (2, [.ref t1, .int (nI len)])), (t1, .inl (cB, 400, .inl (aB tp))), (h0, .inr (0, [.int (nI ty), .ref h1, .ref h2])), (h1, .inl (cI, 16, .inl (aN cnt))), (h2, .inl (cB, 208, .inl (aN mk)))] s.heap.size := ⟨_, rfl⟩
  have hA : ∀ q : Nat, s.heap.size ≤ q → A q := fun q h => by rw [hAe]; exact Or.inr h
  rw [← hAe] at hG hD
  have hS : va_S A s.heap s.heap [] := va_S.rf
  have hl := lv_entry ([.ref t0, .ref h0]) (n := 3) (Nat.le_of_ble_eq_true rfl)
  rw [lg_entry_eq]
  generalize (lg_sl ([.ref t0, .ref h0]) ++ List.replicate (3 - (lg_sl ([.ref t0, .ref h0])).length) Slot.unset).toArray = ls at hl ⊢
  have hl : lv_has ls 3 [(0, .ref t0), (1, .ref h0)] := hl
  refine zq_name (fun Q hQ => ?_)
  change W p l e rm_c_write_one s m _ below meth c _ _ _ _ Q _
  have hb9 : ∀ j, j < 16 → cnt j < 2 ^ 31 := fun j hj => by have := hct j hj; have := (fMM_b j hj).2; omega
  refine lv_aload_n hx hb dT_write_0 rfl (lv_at hl 0 rfl) ?_
  refine lv_iconst (v := nI 0) hx hb dT_write_1 (by decide) ?_
  refine va_put (D := (dC, dI)) (ci := 2) (v := .int (nI 0)) (ty := .int) (C := RT) (T := TT) (N := 2) hx hb hw inT tyT tyT_ok nmT hown hK hP hD hS 0 rfl rfl 1 (by decide) (hw _ w_fl_T_15) (fun _ h9 => h9) rfl (by decide +kernel) rfl rfl (Nat.le_of_ble_eq_true rfl) dT_write_2 (fun H locs hP hD hS => ?_)
  have hP : va_P (dC, dI) vwCl [(t0, .inr (2, [.ref t1, .int (nI 0)])), (t1, .inl (cB, 400, .inl (aB tp))), (h0, .inr (0, [.int (nI ty), .ref h1, .ref h2])), (h1, .inl (cI, 16, .inl (aN cnt))), (h2, .inl (cB, 208, .inl (aN mk)))] H := hP
  have hD : va_D A [(t0, .inr (2, [.ref t1, .int (nI 0)])), (t1, .inl (cB, 400, .inl (aB tp))), (h0, .inr (0, [.int (nI ty), .ref h1, .ref h2])), (h1, .inl (cI, 16, .inl (aN cnt))), (h2, .inl (cB, 208, .inl (aN mk)))] := hD
  refine lv_aload_n hx hb dT_write_5 rfl (lv_at hl 0 rfl) ?_
  refine lv_aload_n hx hb dT_write_6 rfl (lv_at hl 1 rfl) ?_
  refine va_get (D := (dC, dI)) (ci := 0) (v := .int (nI ty)) (C := RD) (T := TD) (N := 3) hx hb hw inD hown hK hP 2 rfl rfl 0 (by decide) (hw _ w_fl_T_19) (fun _ h9 => h9) rfl dT_write_7 ?_
  refine lv_iconst (v := nI 4) hx hb dT_write_10 (by decide) ?_
  have hPc := hP.sub (ws' := [(t0, .inr (2, [.ref t1, .int (nI 0)])), (t1, .inl (cB, 400, .inl (aB tp)))]) [0, 1] rfl
  have hDc := hD.sub (ws' := [(t0, .inr (2, [.ref t1, .int (nI 0)])), (t1, .inl (cB, 400, .inl (aB tp)))]) [0, 1] (by decide) rfl
  have hFc := va_free (wc := [(t0, .inr (2, [.ref t1, .int (nI 0)])), (t1, .inl (cB, 400, .inl (aB tp)))]) hD hS hA [0, 1] rfl
  refine zc_Mv (va_runV (As := [.int (nI ty), .int (nI 4)]) (rest := []) ⟨hx, hb, hml, hown, hw⟩ (c_T_appendNumber l dC dI t0 t1 cI cB 0 tp ty 4 (by omega) (by omega) (by omega) H.size) (cwV 2 hw (gV w_ml_T_24 w_im_T_appendNumber w_se_T_appendNumber w_in_T w_co_T_appendNumber) rfl rfl rfl (by decide +kernel) ⟨Nat.le_of_ble_eq_true rfl, Nat.le_of_ble_eq_true rfl⟩) (zM_V hG hS hFc hPc hDc hK 0 rfl rfl) rfl rfl hl.1 rfl (lv_room (Nat.le_of_ble_eq_true rfl)) dT_write_11 ⟨Nat.le_of_ble_eq_true rfl, Nat.le_of_ble_eq_true rfl⟩) hS hFc (fun H locs h_11 hP1 hD1 hk1 hS => ?_)
  obtain ⟨hP, hD⟩ := va_join (wr := [(h0, .inr (0, [.int (nI ty), .ref h1, .ref h2])), (h1, .inl (cI, 16, .inl (aN cnt))), (h2, .inl (cB, 208, .inl (aN mk)))]) (w1 := [(t0, .inr (2, [.ref t1, .int (nI (0 + (anb ty 4).length))])), (t1, .inl (cB, 400, .inl (aB (apl tp 0 (anb ty 4)))))]) hP hD [0, 1] [2, 3, 4] rfl rfl (by decide) (by decide) hk1 hFc hP1 hD1
  have hP : va_P (dC, dI) vwCl [(h0, .inr (0, [.int (nI ty), .ref h1, .ref h2])), (h1, .inl (cI, 16, .inl (aN cnt))), (h2, .inl (cB, 208, .inl (aN mk))), (t0, .inr (2, [.ref t1, .int (nI (0 + (anb ty 4).length))])), (t1, .inl (cB, 400, .inl (aB (apl tp 0 (anb ty 4)))))] H := hP
  have hD : va_D A [(h0, .inr (0, [.int (nI ty), .ref h1, .ref h2])), (h1, .inl (cI, 16, .inl (aN cnt))), (h2, .inl (cB, 208, .inl (aN mk))), (t0, .inr (2, [.ref t1, .int (nI (0 + (anb ty 4).length))])), (t1, .inl (cB, 400, .inl (aB (apl tp 0 (anb ty 4)))))] := hD
  have e9 : (anb ty 4).length = 2 := rfl
  rw [e9] at hP hD
  have hP : va_P (dC, dI) vwCl [(h0, .inr (0, [.int (nI ty), .ref h1, .ref h2])), (h1, .inl (cI, 16, .inl (aN cnt))), (h2, .inl (cB, 208, .inl (aN mk))), (t0, .inr (2, [.ref t1, .int (nI 2)])), (t1, .inl (cB, 400, .inl (aB (apl tp 0 (anb ty 4)))))] H := hP
  have hD : va_D A [(h0, .inr (0, [.int (nI ty), .ref h1, .ref h2])), (h1, .inl (cI, 16, .inl (aN cnt))), (h2, .inl (cB, 208, .inl (aN mk))), (t0, .inr (2, [.ref t1, .int (nI 2)])), (t1, .inl (cB, 400, .inl (aB (apl tp 0 (anb ty 4)))))] := hD
  refine lv_aload_n hx hb dT_write_14 rfl (lv_at hl 0 rfl) ?_
  refine lv_aload_n hx hb dT_write_15 rfl (lv_at hl 1 rfl) ?_
  have hPc := hP.sub (ws' := [(t0, .inr (2, [.ref t1, .int (nI 2)])), (t1, .inl (cB, 400, .inl (aB (apl tp 0 (anb ty 4))))), (h0, .inr (0, [.int (nI ty), .ref h1, .ref h2])), (h1, .inl (cI, 16, .inl (aN cnt))), (h2, .inl (cB, 208, .inl (aN mk)))]) [3, 4, 0, 1, 2] rfl
  have hDc := hD.sub (ws' := [(t0, .inr (2, [.ref t1, .int (nI 2)])), (t1, .inl (cB, 400, .inl (aB (apl tp 0 (anb ty 4))))), (h0, .inr (0, [.int (nI ty), .ref h1, .ref h2])), (h1, .inl (cI, 16, .inl (aN cnt))), (h2, .inl (cB, 208, .inl (aN mk)))]) [3, 4, 0, 1, 2] (by decide) rfl
  have hFc := va_free (wc := [(t0, .inr (2, [.ref t1, .int (nI 2)])), (t1, .inl (cB, 400, .inl (aB (apl tp 0 (anb ty 4))))), (h0, .inr (0, [.int (nI ty), .ref h1, .ref h2])), (h1, .inl (cI, 16, .inl (aN cnt))), (h2, .inl (cB, 208, .inl (aN mk)))]) hD hS hA [3, 4, 0, 1, 2] rfl
  refine zc_Mv (va_runV (As := [.ref h0]) (rest := []) ⟨hx, hb, hml, hown, hw⟩ (c_appendMaps_one l dC dI t0 t1 cI cB 2 (apl tp 0 (anb ty 4)) h0 h1 h2 ty cnt mk (by omega) hb9 hd H.size) (cwV 1 hw (gV w_ml_T_28 w_im_T_appendMaps w_se_T_appendMaps w_in_T w_co_T_appendMaps) rfl rfl rfl (by decide +kernel) ⟨Nat.le_of_ble_eq_true rfl, Nat.le_of_ble_eq_true rfl⟩) (zM_V hG hS hFc hPc hDc hK 0 rfl rfl) rfl rfl hl.1 rfl (lv_room (Nat.le_of_ble_eq_true rfl)) dT_write_16 ⟨Nat.le_of_ble_eq_true rfl, Nat.le_of_ble_eq_true rfl⟩) hS hFc (fun H locs h_16 hP1 hD1 hk1 hS => ?_)
  obtain ⟨hP, hD⟩ := va_join (wr := []) (w1 := [(t0, .inr (2, [.ref t1, .int (nI (2 + 8))])), (t1, .inl (cB, 400, .inl (aB (mpS 2 cnt 16 0 (apl (apl tp 0 (anb ty 4)) 2 (List.replicate 8 0)))))), (h0, .inr (0, [.int (nI ty), .ref h1, .ref h2])), (h1, .inl (cI, 16, .inl (aN cnt))), (h2, .inl (cB, 208, .inl (aN mk)))]) hP hD [3, 4, 0, 1, 2] [] rfl rfl (by decide) (by decide) hk1 hFc hP1 hD1
  have hP : va_P (dC, dI) vwCl [(t0, .inr (2, [.ref t1, .int (nI (2 + 8))])), (t1, .inl (cB, 400, .inl (aB (mpS 2 cnt 16 0 (apl (apl tp 0 (anb ty 4)) 2 (List.replicate 8 0)))))), (h0, .inr (0, [.int (nI ty), .ref h1, .ref h2])), (h1, .inl (cI, 16, .inl (aN cnt))), (h2, .inl (cB, 208, .inl (aN mk)))] H := hP
  have hD : va_D A [(t0, .inr (2, [.ref t1, .int (nI (2 + 8))])), (t1, .inl (cB, 400, .inl (aB (mpS 2 cnt 16 0 (apl (apl tp 0 (anb ty 4)) 2 (List.replicate 8 0)))))), (h0, .inr (0, [.int (nI ty), .ref h1, .ref h2])), (h1, .inl (cI, 16, .inl (aN cnt))), (h2, .inl (cB, 208, .inl (aN mk)))] := hD
  have hP : va_P (dC, dI) vwCl [(t0, .inr (2, [.ref t1, .int (nI 10)])), (t1, .inl (cB, 400, .inl (aB (mpS 2 cnt 16 0 (apl (apl tp 0 (anb ty 4)) 2 (List.replicate 8 0)))))), (h0, .inr (0, [.int (nI ty), .ref h1, .ref h2])), (h1, .inl (cI, 16, .inl (aN cnt))), (h2, .inl (cB, 208, .inl (aN mk)))] H := hP
  have hD : va_D A [(t0, .inr (2, [.ref t1, .int (nI 10)])), (t1, .inl (cB, 400, .inl (aB (mpS 2 cnt 16 0 (apl (apl tp 0 (anb ty 4)) 2 (List.replicate 8 0)))))), (h0, .inr (0, [.int (nI ty), .ref h1, .ref h2])), (h1, .inl (cI, 16, .inl (aN cnt))), (h2, .inl (cB, 208, .inl (aN mk)))] := hD
  refine lv_iconst (v := nI 0) hx hb dT_write_19 (by decide) ?_
  refine lv_istore_n (lv' := [(2, .int (nI 0)), (0, .ref t0), (1, .ref h0)]) hx hb dT_write_20 rfl hl (by decide) rfl (fun ls hl => ?_)
  have lp_21 : ∀ (fu : Nat) (k : Nat) (q : Nat) (f : Nat → Nat) (hk : k ≤ 16) (hr9 : q + fRM k ≤ 162) (hn : q + (flB cnt mk (16 - k) k).length = 10 + (flB cnt mk 16 0).length) (hi : apl f q (flB cnt mk (16 - k) k) = apl (mpS 2 cnt 16 0 (apl (apl tp 0 (anb ty 4)) 2 (List.replicate 8 0))) 10 (flB cnt mk 16 0)) (hms : 16 - k < fu) (H : Heap) (locs : List Loc) (ls : Array Slot), lv_has ls 3 [(0, .ref t0), (1, .ref h0), (2, .int (nI k))] → va_P (dC, dI) vwCl [(t0, .inr (2, [.ref t1, .int (nI q)])), (t1, .inl (cB, 400, .inl (aB f))), (h0, .inr (0, [.int (nI ty), .ref h1, .ref h2])), (h1, .inl (cI, 16, .inl (aN cnt))), (h2, .inl (cB, 208, .inl (aN mk)))] H → va_D A [(t0, .inr (2, [.ref t1, .int (nI q)])), (t1, .inl (cB, 400, .inl (aB f))), (h0, .inr (0, [.int (nI ty), .ref h1, .ref h2])), (h1, .inl (cI, 16, .inl (aN cnt))), (h2, .inl (cB, 208, .inl (aN mk)))] → va_S A s.heap H locs → W p l e rm_c_write_one s m ([.ref t0, .ref h0] : List Value).toArray below meth c H locs 0 0 Q (F0 m 21 ls []) := by
    intro fu
    induction fu with
    | zero => intro k q f hk hr9 hn hi hms; exact absurd hms (Nat.not_lt_zero _)
    | succ fu ih21 =>
      intro k q f hk hr9 hn hi hms H locs ls hl hP hD hS
      refine lv_iload_n hx hb dT_write_21 rfl (lv_at hl 2 rfl) ?_
      refine lv_bipush (v := nI 16) hx hb dT_write_22 (by decide) ?_
      refine zi_ge (tgt := 47) hx hb (by omega) (by omega) dT_write_24 (by decide) (fun c_24 => ?_) (fun c_24 => ?_)
      · have hi : f = apl (mpS 2 cnt 16 0 (apl (apl tp 0 (anb ty 4)) 2 (List.replicate 8 0))) 10 (flB cnt mk 16 0) := by have h9 := hi; rw [show 16 - k = 0 by omega] at h9; exact h9
        have hn : q = 10 + (flB cnt mk 16 0).length := by have h9 := hn; rw [show 16 - k = 0 by omega] at h9; exact h9
        subst hi
        subst hn
        subst hAe
        subst hQ
        exact W.vret hx hb hr (fun t ht hW => ⟨⟨(), rfl, trivial, by rw [ht]; exact hP.sub [0, 1, 2, 3, 4] rfl, hD.sub [0, 1, 2, 3, 4] (by decide) rfl⟩, hS.F ht⟩) hS.2.2 dT_write_47
      · refine lv_aload_n hx hb dT_write_27 rfl (lv_at hl 1 rfl) ?_
        refine lv_iload_n hx hb dT_write_28 rfl (lv_at hl 2 rfl) ?_
        refine zc_Ri (va_runV (As := [.int (nI k)]) (rest := []) ⟨hx, hb, hml, hown, hw⟩ (c_D_has l dC dI h0 h1 h2 cI cB ty cnt k (by omega) (hb9 k (by omega)) H) (cwV 1 hw (gV w_ml_T_32 w_im_D_has w_se_D_has w_in_D w_co_D_has) rfl rfl rfl (by decide +kernel) ⟨Nat.le_of_ble_eq_true rfl, Nat.le_of_ble_eq_true rfl⟩) (zR_V hG hS (hP.sub (ws' := [(h0, .inr (0, [.int (nI ty), .ref h1, .ref h2])), (h1, .inl (cI, 16, .inl (aN cnt)))]) [2, 3] rfl) hK 0 rfl rfl) rfl rfl hl.1 rfl (lv_room (Nat.le_of_ble_eq_true rfl)) dT_write_29 ⟨Nat.le_of_ble_eq_true rfl, Nat.le_of_ble_eq_true rfl⟩) hS (fun r_3 locs h_29 hS => ?_)
        subst h_29
        refine zi_eq0 (tgt := 41) hx hb (hz_lt _) dT_write_32 (by decide) (fun c_32 => ?_) (fun c_32 => ?_)
        · have hrs := fRM_s k (by omega)
          have h8 := hi
          rw [show 16 - k = 16 - (k + 1) + 1 by omega] at h8
          unfold flB at h8
          rw [if_pos (hz_0.mp c_32), List.nil_append] at h8
          have h7 := hn
          rw [show 16 - k = 16 - (k + 1) + 1 by omega] at h7
          unfold flB at h7
          rw [if_pos (hz_0.mp c_32), List.nil_append] at h7
          refine lv_iinc (v := nI (k + 1)) (lv' := [(2, .int (nI (k + 1))), (0, .ref t0), (1, .ref h0)]) hx hb dT_write_41 hl (k := 2) rfl (zi_incr k 1) (by decide) rfl (fun ls hl => ?_)
          refine lv_goto (tgt := 21) hx hb dT_write_44 (by decide) ?_
          exact ih21 (k + 1) q f (by omega) (by omega) h7 h8 (by omega) _ _ _ (lv_sub hl [1, 2, 0] rfl) (hP.sub [0, 1, 2, 3, 4] rfl) (hD.sub [0, 1, 2, 3, 4] (by decide) rfl) hS
        · refine lv_aload_n hx hb dT_write_35 rfl (lv_at hl 0 rfl) ?_
          refine lv_aload_n hx hb dT_write_36 rfl (lv_at hl 1 rfl) ?_
          refine lv_iload_n hx hb dT_write_37 rfl (lv_at hl 2 rfl) ?_
          have hPc := hP.sub (ws' := [(t0, .inr (2, [.ref t1, .int (nI q)])), (t1, .inl (cB, 400, .inl (aB f))), (h0, .inr (0, [.int (nI ty), .ref h1, .ref h2])), (h1, .inl (cI, 16, .inl (aN cnt))), (h2, .inl (cB, 208, .inl (aN mk)))]) [0, 1, 2, 3, 4] rfl
          have hDc := hD.sub (ws' := [(t0, .inr (2, [.ref t1, .int (nI q)])), (t1, .inl (cB, 400, .inl (aB f))), (h0, .inr (0, [.int (nI ty), .ref h1, .ref h2])), (h1, .inl (cI, 16, .inl (aN cnt))), (h2, .inl (cB, 208, .inl (aN mk)))]) [0, 1, 2, 3, 4] (by decide) rfl
          have hFc := va_free (wc := [(t0, .inr (2, [.ref t1, .int (nI q)])), (t1, .inl (cB, 400, .inl (aB f))), (h0, .inr (0, [.int (nI ty), .ref h1, .ref h2])), (h1, .inl (cI, 16, .inl (aN cnt))), (h2, .inl (cB, 208, .inl (aN mk)))]) hD hS hA [0, 1, 2, 3, 4] rfl
          refine zc_Mv (va_runV (As := [.ref h0, .int (nI k)]) (rest := []) ⟨hx, hb, hml, hown, hw⟩ (c_T_appendField l dC dI t0 t1 cI cB q f h0 h1 h2 ty cnt mk k (by omega) (by omega) (hct k (by omega)) hm (hg k (by omega)) H.size) (cwV 2 hw (gV w_ml_T_36 w_im_T_appendField w_se_T_appendField w_in_T w_co_T_appendField) rfl rfl rfl (by decide +kernel) ⟨Nat.le_of_ble_eq_true rfl, Nat.le_of_ble_eq_true rfl⟩) (zM_V hG hS hFc hPc hDc hK 0 rfl rfl) rfl rfl hl.1 rfl (lv_room (Nat.le_of_ble_eq_true rfl)) dT_write_38 ⟨Nat.le_of_ble_eq_true rfl, Nat.le_of_ble_eq_true rfl⟩) hS hFc (fun H locs h_38 hP1 hD1 hk1 hS => ?_)
          obtain ⟨hP, hD⟩ := va_join (wr := []) (w1 := [(t0, .inr (2, [.ref t1, .int (nI (q + (fldB cnt mk k).length))])), (t1, .inl (cB, 400, .inl (aB (apl f q (fldB cnt mk k))))), (h0, .inr (0, [.int (nI ty), .ref h1, .ref h2])), (h1, .inl (cI, 16, .inl (aN cnt))), (h2, .inl (cB, 208, .inl (aN mk)))]) hP hD [0, 1, 2, 3, 4] [] rfl rfl (by decide) (by decide) hk1 hFc hP1 hD1
          have hP : va_P (dC, dI) vwCl [(t0, .inr (2, [.ref t1, .int (nI (q + (fldB cnt mk k).length))])), (t1, .inl (cB, 400, .inl (aB (apl f q (fldB cnt mk k))))), (h0, .inr (0, [.int (nI ty), .ref h1, .ref h2])), (h1, .inl (cI, 16, .inl (aN cnt))), (h2, .inl (cB, 208, .inl (aN mk)))] H := hP
          have hD : va_D A [(t0, .inr (2, [.ref t1, .int (nI (q + (fldB cnt mk k).length))])), (t1, .inl (cB, 400, .inl (aB (apl f q (fldB cnt mk k))))), (h0, .inr (0, [.int (nI ty), .ref h1, .ref h2])), (h1, .inl (cI, 16, .inl (aN cnt))), (h2, .inl (cB, 208, .inl (aN mk)))] := hD
          have hlf := fldB_le (cnt := cnt) (mk := mk) (sl := k) (hct k (by omega))
          have hrs := fRM_s k (by omega)
          have h8 := hi
          rw [show 16 - k = 16 - (k + 1) + 1 by omega] at h8
          unfold flB at h8
          rw [if_neg (fun z => c_32 (hz_0.mpr z)), apl_app] at h8
          have h7 := hn
          rw [show 16 - k = 16 - (k + 1) + 1 by omega] at h7
          unfold flB at h7
          rw [if_neg (fun z => c_32 (hz_0.mpr z)), List.length_append, ← Nat.add_assoc] at h7
          refine lv_iinc (v := nI (k + 1)) (lv' := [(2, .int (nI (k + 1))), (0, .ref t0), (1, .ref h0)]) hx hb dT_write_41 hl (k := 2) rfl (zi_incr k 1) (by decide) rfl (fun ls hl => ?_)
          refine lv_goto (tgt := 21) hx hb dT_write_44 (by decide) ?_
          exact ih21 (k + 1) (q + (fldB cnt mk k).length) (apl f q (fldB cnt mk k)) (by omega) (by omega) h7 h8 (by omega) _ _ _ (lv_sub hl [1, 2, 0] rfl) (hP.sub [0, 1, 2, 3, 4] rfl) (hD.sub [0, 1, 2, 3, 4] (by decide) rfl) hS
  exact lp_21 ((16 - 0) + 1) 0 10 (mpS 2 cnt 16 0 (apl (apl tp 0 (anb ty 4)) 2 (List.replicate 8 0))) (by omega) (by decide) rfl rfl (Nat.lt_succ_self _) _ _ _ (lv_sub hl [1, 2, 0] rfl) (hP.sub [0, 1, 2, 3, 4] rfl) (hD.sub [0, 1, 2, 3, 4] (by decide) rfl) hS
