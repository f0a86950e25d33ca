def rm_h_message_ok : Room := ({ frames := 7, cells := 0, slots := 0, locals := 112 } : Room)
set_option maxHeartbeats 4000000 in
set_option maxRecDepth 100000 in
theorem h_message_ok (l : Launch) (dC : Nat → ClassId) (dI : Nat → Nat → Nat) (x0 : Nat) (h0 : Nat) (h1 : Nat) (h2 : Nat) (cI : ClassId) (cB : ClassId) (ty : Nat) (cnt : Nat → Nat) (mk : Nat → Nat) (t0 : Nat) (r0 : Nat) (n : Nat) (lo : Nat) (cL : ClassId) (fo : Nat → Int64) (hn : n ≤ 9999) (sz : Nat) : Met l yL_message wsL_message rm_h_message_ok (zM (dC, dI) [(cI, .int), (cB, .byte), (cL, .long)] [.ref x0, .int (nI n)] [(x0, .inr (3, [.ref h0, .ref t0, .ref r0])), (h0, .inr (0, [.int (nI ty), .ref h1, .ref h2])), (h1, .inl (cI, 16, .inl (aN cnt))), (h2, .inl (cB, 208, .inl (aN mk)))] sz) (zMi (dC, dI) [(x0, .inr (3, [.ref h0, .ref t0, .ref r0])), (h0, .inr (0, [.int (nI ty), .ref h1, .ref h2])), (h1, .inl (cI, 16, .inl (aN cnt))), (h2, .inl (cB, 208, .inl (aN mk)))] [(x0, .inr (3, [.ref h0, .ref t0, .ref r0])), (h0, .inr (0, [.int (nI n), .ref h1, .ref h2])), (h1, .inl (cI, 16, .inl (aN (zc cnt 16)))), (h2, .inl (cB, 208, .inl (aN mk)))] sz (fun r => r = nI 0)) 0 0 (va_A [(x0, .inr (3, [.ref h0, .ref t0, .ref r0])), (h0, .inr (0, [.int (nI ty), .ref h1, .ref h2])), (h1, .inl (cI, 16, .inl (aN cnt))), (h2, .inl (cB, 208, .inl (aN mk)))] sz) := by
  refine MetH.ofW (cc := cL_message) (maxL := 3) (ret := (some .int)) (by decide) rfl ?_
  intro p e s m args below meth c s₁ Bd hml ⟨xe, htab, hh1, hh2, hh3, hh4⟩ hv
  obtain ⟨rfl, hsz, hG, hP, hK, hD0⟩ := hv
  subst hsz
  have hx := Bd.exec
  have hb := Bd.bytes
  have hr := Bd.returns
  have hts := atoms_spec (ws := wsL_message) Bd.pre
  have hw : ∀ w ∈ BIG, w.before _ s = true := fun w h => hts w (List.mem_cons_of_mem _ h)
  have hown : s.vm.findClass RL = some m.cls := findClass_of_methodNamed Bd.named
  have hlocks := Bd.notSynchronized
  have hD := hD0.self (sz := s.heap.size)
  obtain ⟨A, hAe⟩ : ∃ A, A = va_A [(x0, .inr (3, [.ref h0, .ref t0, .ref r0])), (h0, .inr (0, [.int (nI ty), .ref h1, .ref h2])), (h1, .inl (cI, 16, .inl (aN cnt))), (h2, .inl (cB, 208, .inl (aN mk)))] s.heap.size := ⟨_, rfl⟩
  have hA : ∀ q : Nat, s.heap.size ≤ q → A q := fun q h => by rw [hAe]; exact Or.inr h
  rw [← hAe] at hG hD
  have hS : va_S A s.heap s.heap [] := va_S.rf
  have hl := lv_entry ([.ref x0, .int (nI n)]) (n := 3) (Nat.le_of_ble_eq_true rfl)
  rw [lg_entry_eq]
  generalize (lg_sl ([.ref x0, .int (nI n)]) ++ List.replicate (3 - (lg_sl ([.ref x0, .int (nI n)])).length) Slot.unset).toArray = ls at hl ⊢
  have hl : lv_has ls 3 [(0, .ref x0), (1, .int (nI n))] := hl
  refine zq_name (fun Q hQ => ?_)
  change W p l e rm_h_message_ok s m _ below meth c _ _ _ _ Q _
  refine lv_aload_n hx hb dL_message_0 rfl (lv_at hl 0 rfl) ?_
  refine lv_iload_n hx hb dL_message_1 rfl (lv_at hl 1 rfl) ?_
  have hPc := hP.sub (ws' := [(x0, .inr (3, [.ref h0, .ref t0, .ref r0])), (h0, .inr (0, [.int (nI ty), .ref h1, .ref h2])), (h1, .inl (cI, 16, .inl (aN cnt))), (h2, .inl (cB, 208, .inl (aN mk)))]) [0, 1, 2, 3] rfl
  have hDc := hD.sub (ws' := [(x0, .inr (3, [.ref h0, .ref t0, .ref r0])), (h0, .inr (0, [.int (nI ty), .ref h1, .ref h2])), (h1, .inl (cI, 16, .inl (aN cnt))), (h2, .inl (cB, 208, .inl (aN mk)))]) [0, 1, 2, 3] (by decide) rfl
  have hFc := va_free (wc := [(x0, .inr (3, [.ref h0, .ref t0, .ref r0])), (h0, .inr (0, [.int (nI ty), .ref h1, .ref h2])), (h1, .inl (cI, 16, .inl (aN cnt))), (h2, .inl (cB, 208, .inl (aN mk)))]) hD hS hA [0, 1, 2, 3] rfl
  refine zc_Mv (va_runV (As := [.int (nI n)]) (rest := []) ⟨hx, hb, hml, hown, hw⟩ (c_message_ok l dC dI x0 h0 h1 h2 cI cB ty cnt mk t0 r0 n hn s.heap.size) (cwV 1 hw (gV w_ml_L_7 w_im_C_message w_se_C_message w_in_C w_co_C_message) rfl rfl rfl (by decide +kernel) ⟨Nat.le_of_ble_eq_true rfl, Nat.le_of_ble_eq_true rfl⟩) (zM_V hG hS hFc hPc hDc (hK.sub (tys' := [(cI, .int), (cB, .byte)]) [0, 1] rfl) 0 rfl rfl) rfl rfl hl.1 rfl (lv_room (Nat.le_of_ble_eq_true rfl)) dL_message_2 ⟨Nat.le_of_ble_eq_true rfl, Nat.le_of_ble_eq_true rfl⟩) hS hFc (fun H locs h_2 hP1 hD1 hk1 hS => ?_)
  obtain ⟨hP, hD⟩ := va_join (wr := []) (w1 := [(x0, .inr (3, [.ref h0, .ref t0, .ref r0])), (h0, .inr (0, [.int (nI n), .ref h1, .ref h2])), (h1, .inl (cI, 16, .inl (aN (zc cnt 16)))), (h2, .inl (cB, 208, .inl (aN mk)))]) hP hD [0, 1, 2, 3] [] rfl rfl (by decide) (by decide) hk1 hFc hP1 hD1
  have hP : va_P (dC, dI) vwCl [(x0, .inr (3, [.ref h0, .ref t0, .ref r0])), (h0, .inr (0, [.int (nI n), .ref h1, .ref h2])), (h1, .inl (cI, 16, .inl (aN (zc cnt 16)))), (h2, .inl (cB, 208, .inl (aN mk)))] H := hP
  have hD : va_D A [(x0, .inr (3, [.ref h0, .ref t0, .ref r0])), (h0, .inr (0, [.int (nI n), .ref h1, .ref h2])), (h1, .inl (cI, 16, .inl (aN (zc cnt 16)))), (h2, .inl (cB, 208, .inl (aN mk)))] := hD
  refine lv_goto (tgt := 11) hx hb dL_message_5 (by decide) ?_
  refine lv_iconst (v := nI 0) hx hb dL_message_11 (by decide) ?_
  subst hAe
  subst hQ
  exact W.iret (v := nI 0) hx hb hr (fun t ht hW => ⟨⟨nI 0, (), rfl, rfl, by rw [ht]; exact hP.sub [0, 1, 2, 3] rfl, hD.sub [0, 1, 2, 3] (by decide) rfl⟩, hS.F ht⟩) hS.2.2 dL_message_12
def rm_h_message_no : Room := ({ frames := 7, cells := 1, slots := 6, locals := 112 } : Room)
set_option maxHeartbeats 4000000 in
set_option maxRecDepth 100000 in
theorem h_message_no (l : Launch) (dC : Nat → ClassId) (dI : Nat → Nat → Nat) (x0 : Nat) (h0 : Nat) (t0 : Nat) (r0 : Nat) (cI : ClassId) (cB : ClassId) (x9 : Int32) (lo : Nat) (cL : ClassId) (fo : Nat → Int64) (hx9 : x9 < 0 ∨ nI 9999 < x9) (hfl : l.flags = pinnedFlags ++ [noTraceFlag]) (sz : Nat) : Met l yL_message wsL_message rm_h_message_no (zM (dC, dI) [(cI, .int), (cB, .byte), (cL, .long)] [.ref x0, .int x9] [(x0, .inr (3, [.ref h0, .ref t0, .ref r0]))] sz) (zMi (dC, dI) [(x0, .inr (3, [.ref h0, .ref t0, .ref r0]))] [(x0, .inr (3, [.ref h0, .ref t0, .ref r0]))] sz (fun r => r = nI 1)) 1 6 (va_A [(x0, .inr (3, [.ref h0, .ref t0, .ref r0]))] sz) := by
  refine MetH.ofW (cc := cL_message) (maxL := 3) (ret := (some .int)) (by decide) rfl ?_
  intro p e s m args below meth c s₁ Bd hml ⟨xe, htab, hh1, hh2, hh3, hh4⟩ hv
  obtain ⟨rfl, hsz, hG, hP, hK, hD0⟩ := hv
  subst hsz
  have hx := Bd.exec
  have hb := Bd.bytes
  have hr := Bd.returns
  have hts := atoms_spec (ws := wsL_message) Bd.pre
  have hw : ∀ w ∈ BIG, w.before _ s = true := fun w h => hts w (List.mem_cons_of_mem _ h)
  have hown : s.vm.findClass RL = some m.cls := findClass_of_methodNamed Bd.named
  have hlocks := Bd.notSynchronized
  have hD := hD0.self (sz := s.heap.size)
  obtain ⟨A, hAe⟩ : ∃ A, A = va_A [(x0, .inr (3, [.ref h0, .ref t0, .ref r0]))] s.heap.size := ⟨_, rfl⟩
  have hA : ∀ q : Nat, s.heap.size ≤ q → A q := fun q h => by rw [hAe]; exact Or.inr h
  rw [← hAe] at hG hD
  have hS : va_S A s.heap s.heap [] := va_S.rf
  have hl := lv_entry ([.ref x0, .int x9]) (n := 3) (Nat.le_of_ble_eq_true rfl)
  rw [lg_entry_eq]
  generalize (lg_sl ([.ref x0, .int x9]) ++ List.replicate (3 - (lg_sl ([.ref x0, .int x9])).length) Slot.unset).toArray = ls at hl ⊢
  have hl : lv_has ls 3 [(0, .ref x0), (1, .int x9)] := hl
  refine zq_name (fun Q hQ => ?_)
  change W p l e rm_h_message_no s m _ below meth c _ _ _ _ Q _
  refine lv_aload_n hx hb dL_message_0 rfl (lv_at hl 0 rfl) ?_
  refine lv_iload_n hx hb dL_message_1 rfl (lv_at hl 1 rfl) ?_
  refine zx_runV (As := [.int x9]) (rest := []) ⟨hx, hb, hml, hown, hw⟩ (x_message l dC dI x0 h0 t0 r0 cI cB x9 hx9 hfl s.heap) (cwV 1 hw (gV w_ml_L_7 w_im_C_message w_se_C_message w_in_C w_co_C_message) rfl rfl rfl (by decide +kernel) ⟨Nat.le_of_ble_eq_true rfl, Nat.le_of_ble_eq_true rfl⟩) (zT_V hG hA hS (hP.sub (ws' := [(x0, .inr (3, [.ref h0, .ref t0, .ref r0]))]) [0] rfl) (hK.sub (tys' := [(cI, .int), (cB, .byte)]) [0, 1] rfl) 0 rfl rfl) rfl rfl hl.1 rfl (lv_room (Nat.le_of_ble_eq_true rfl)) dL_message_2 ⟨Nat.le_of_ble_eq_true rfl, Nat.le_of_ble_eq_true rfl⟩ (fun xa9 ce H9 hz9 hk9 hx1 hx2 hx3 => ?_)
  refine zx_catch hown htab (by rw [hh1, hh2]; exact ⟨Nat.le_of_ble_eq_true rfl, Nat.le_of_ble_eq_true rfl⟩) (by rw [hh4]; decide) (by rw [hh4]; exact hw _ w_cl_L_13) hx1 hx2 hx3 rfl ?_
  refine W.eq (g2 := F0 m 8 ls [.ref xa9]) (by rw [hh3]) ?_
  have hP := hP.kept (H1 := H9) (fun k q h9 => hk9 _ ((hP k q h9).lt))
  have hS := zx_S hS hz9 hk9
  have hP : va_P (dC, dI) vwCl [(x0, .inr (3, [.ref h0, .ref t0, .ref r0]))] H9 := hP
  have hD : va_D A [(x0, .inr (3, [.ref h0, .ref t0, .ref r0]))] := hD
  refine lv_astore_n (lv' := [(2, .ref xa9), (0, .ref x0), (1, .int x9)]) hx hb dL_message_8 rfl hl (by decide) rfl (fun ls hl => ?_)
  refine lv_iconst (v := nI 1) hx hb dL_message_9 (by decide) ?_
  subst hAe
  subst hQ
  exact W.iret (v := nI 1) hx hb hr (fun t ht hW => ⟨⟨nI 1, (), rfl, rfl, by rw [ht]; exact hP.sub [0] rfl, hD.sub [0] (by decide) rfl⟩, hS.F ht⟩) hS.2.2 dL_message_10
def rm_h_digits_ok : Room := ({ frames := 9, cells := 0, slots := 0, locals := 158 } : Room)
set_option maxHeartbeats 4000000 in
set_option maxRecDepth 100000 in
theorem h_digits_ok (l : Launch) (dC : Nat → ClassId) (dI : Nat → Nat → Nat) (x0 : Nat) (h0 : Nat) (h1 : Nat) (h2 : Nat) (cI : ClassId) (cB : ClassId) (ty : Nat) (cnt : Nat → Nat) (mk : Nat → Nat) (t0 : Nat) (r0 : Nat) (k : Nat) (n : Nat) (lo : Nat) (cL : ClassId) (fo : Nat → Int64) (hk : k < 16) (hh : fHL k = 0) (hn : n < 2 ^ 63) (hd : dcn n ≤ fMM k) (sz : Nat) : Met l yL_digits wsL_digits rm_h_digits_ok (zM (dC, dI) [(cI, .int), (cB, .byte), (cL, .long)] [.ref x0, .int (nI (fFI k)), .long (lN n)] [(x0, .inr (3, [.ref h0, .ref t0, .ref r0])), (h0, .inr (0, [.int (nI ty), .ref h1, .ref h2])), (h1, .inl (cI, 16, .inl (aN cnt))), (h2, .inl (cB, 208, .inl (aN mk)))] sz) (zMi (dC, dI) [(x0, .inr (3, [.ref h0, .ref t0, .ref r0])), (h0, .inr (0, [.int (nI ty), .ref h1, .ref h2])), (h1, .inl (cI, 16, .inl (aN cnt))), (h2, .inl (cB, 208, .inl (aN mk)))] [(x0, .inr (3, [.ref h0, .ref t0, .ref r0])), (h0, .inr (0, [.int (nI ty), .ref h1, .ref h2])), (h1, .inl (cI, 16, .inl (aN (nup cnt k (dct k n))))), (h2, .inl (cB, 208, .inl (aN (ds mk (fFM k + 0) (dct k n) n))))] sz (fun r => r = nI 0)) 0 0 (va_A [(x0, .inr (3, [.ref h0, .ref t0, .ref r0])), (h0, .inr (0, [.int (nI ty), .ref h1, .ref h2])), (h1, .inl (cI, 16, .inl (aN cnt))), (h2, .inl (cB, 208, .inl (aN mk)))] sz) := by
  refine MetH.ofW (cc := cL_digits) (maxL := 5) (ret := (some .int)) (by decide) rfl ?_
  intro p e s m args below meth c s₁ Bd hml ⟨xe, htab, hh1, hh2, hh3, hh4⟩ hv
  obtain ⟨rfl, hsz, hG, hP, hK, hD0⟩ := hv
  subst hsz
  have hx := Bd.exec
  have hb := Bd.bytes
  have hr := Bd.returns
  have hts := atoms_spec (ws := wsL_digits) Bd.pre
  have hw : ∀ w ∈ BIG, w.before _ s = true := fun w h => hts w (List.mem_cons_of_mem _ h)
  have hown : s.vm.findClass RL = some m.cls := findClass_of_methodNamed Bd.named
  have hlocks := Bd.notSynchronized
  have hD := hD0.self (sz := s.heap.size)
  obtain ⟨A, hAe⟩ : ∃ A, A = va_A [(x0, .inr (3, [.ref h0, .ref t0, .ref r0])), (h0, .inr (0, [.int (nI ty), .ref h1, .ref h2])), (h1, .inl (cI, 16, .inl (aN cnt))), (h2, .inl (cB, 208, .inl (aN mk)))] s.heap.size := ⟨_, rfl⟩
  have hA : ∀ q : Nat, s.heap.size ≤ q → A q := fun q h => by rw [hAe]; exact Or.inr h
  rw [← hAe] at hG hD
  have hS : va_S A s.heap s.heap [] := va_S.rf
  have hl := lv_entry ([.ref x0, .int (nI (fFI k)), .long (lN n)]) (n := 5) (Nat.le_of_ble_eq_true rfl)
  rw [lg_entry_eq]
  generalize (lg_sl ([.ref x0, .int (nI (fFI k)), .long (lN n)]) ++ List.replicate (5 - (lg_sl ([.ref x0, .int (nI (fFI k)), .long (lN n)])).length) Slot.unset).toArray = ls at hl ⊢
  have hl : lv_has ls 5 [(0, .ref x0), (1, .int (nI (fFI k))), (2, .long (lN n))] := hl
  refine zq_name (fun Q hQ => ?_)
  change W p l e rm_h_digits_ok s m _ below meth c _ _ _ _ Q _
  refine lv_aload_n hx hb dL_digits_0 rfl (lv_at hl 0 rfl) ?_
  refine lv_iload_n hx hb dL_digits_1 rfl (lv_at hl 1 rfl) ?_
  refine lv_lload_n hx hb dL_digits_2 rfl (lv_at hl 2 rfl) ?_
  have hPc := hP.sub (ws' := [(x0, .inr (3, [.ref h0, .ref t0, .ref r0])), (h0, .inr (0, [.int (nI ty), .ref h1, .ref h2])), (h1, .inl (cI, 16, .inl (aN cnt))), (h2, .inl (cB, 208, .inl (aN mk)))]) [0, 1, 2, 3] rfl
  have hDc := hD.sub (ws' := [(x0, .inr (3, [.ref h0, .ref t0, .ref r0])), (h0, .inr (0, [.int (nI ty), .ref h1, .ref h2])), (h1, .inl (cI, 16, .inl (aN cnt))), (h2, .inl (cB, 208, .inl (aN mk)))]) [0, 1, 2, 3] (by decide) rfl
  have hFc := va_free (wc := [(x0, .inr (3, [.ref h0, .ref t0, .ref r0])), (h0, .inr (0, [.int (nI ty), .ref h1, .ref h2])), (h1, .inl (cI, 16, .inl (aN cnt))), (h2, .inl (cB, 208, .inl (aN mk)))]) hD hS hA [0, 1, 2, 3] rfl
  refine zc_Mv (va_runV (As := [.int (nI (fFI k)), .long (lN n)]) (rest := []) ⟨hx, hb, hml, hown, hw⟩ (c_digits_ok l dC dI x0 h0 h1 h2 cI cB ty cnt mk t0 r0 k n hk hh hn hd s.heap.size) (cwV 2 hw (gV w_ml_L_15 w_im_C_digits w_se_C_digits w_in_C w_co_C_digits) rfl rfl rfl (by decide +kernel) ⟨Nat.le_of_ble_eq_true rfl, Nat.le_of_ble_eq_true rfl⟩) (zM_V hG hS hFc hPc hDc (hK.sub (tys' := [(cI, .int), (cB, .byte)]) [0, 1] rfl) 0 rfl rfl) rfl rfl hl.1 rfl (lv_room (Nat.le_of_ble_eq_true rfl)) dL_digits_3 ⟨Nat.le_of_ble_eq_true rfl, Nat.le_of_ble_eq_true rfl⟩) hS hFc (fun H locs h_3 hP1 hD1 hk1 hS => ?_)
  obtain ⟨hP, hD⟩ := va_join (wr := []) (w1 := [(x0, .inr (3, [.ref h0, .ref t0, .ref r0])), (h0, .inr (0, [.int (nI ty), .ref h1, .ref h2])), (h1, .inl (cI, 16, .inl (aN (nup cnt k (dct k n))))), (h2, .inl (cB, 208, .inl (aN (ds mk (fFM k + 0) (dct k n) n))))]) hP hD [0, 1, 2, 3] [] rfl rfl (by decide) (by decide) hk1 hFc hP1 hD1
  have hP : va_P (dC, dI) vwCl [(x0, .inr (3, [.ref h0, .ref t0, .ref r0])), (h0, .inr (0, [.int (nI ty), .ref h1, .ref h2])), (h1, .inl (cI, 16, .inl (aN (nup cnt k (dct k n))))), (h2, .inl (cB, 208, .inl (aN (ds mk (fFM k + 0) (dct k n) n))))] H := hP
  have hD : va_D A [(x0, .inr (3, [.ref h0, .ref t0, .ref r0])), (h0, .inr (0, [.int (nI ty), .ref h1, .ref h2])), (h1, .inl (cI, 16, .inl (aN (nup cnt k (dct k n))))), (h2, .inl (cB, 208, .inl (aN (ds mk (fFM k + 0) (dct k n) n))))] := hD
  refine lv_goto (tgt := 13) hx hb dL_digits_6 (by decide) ?_
  refine lv_iconst (v := nI 0) hx hb dL_digits_13 (by decide) ?_
  subst hAe
  subst hQ
  exact W.iret (v := nI 0) hx hb hr (fun t ht hW => ⟨⟨nI 0, (), rfl, rfl, by rw [ht]; exact hP.sub [0, 1, 2, 3] rfl, hD.sub [0, 1, 2, 3] (by decide) rfl⟩, hS.F ht⟩) hS.2.2 dL_digits_14
def rm_h_digits_no1 : Room := ({ frames := 9, cells := 1, slots := 6, locals := 158 } : Room)
set_option maxHeartbeats 4000000 in
set_option maxRecDepth 100000 in
theorem h_digits_no1 (l : Launch) (dC : Nat → ClassId) (dI : Nat → Nat → Nat) (x0 : Nat) (h0 : Nat) (t0 : Nat) (r0 : Nat) (cI : ClassId) (cB : ClassId) (x9 : Int32) (v : Int64) (lo : Nat) (cL : ClassId) (fo : Nat → Int64) (hx9 : ∀ j, j < 16 → nI (fFI j) ≠ x9) (hfl : l.flags = pinnedFlags ++ [noTraceFlag]) (sz : Nat) : Met l yL_digits wsL_digits rm_h_digits_no1 (zM (dC, dI) [(cI, .int), (cB, .byte), (cL, .long)] [.ref x0, .int x9, .long v] [(x0, .inr (3, [.ref h0, .ref t0, .ref r0]))] sz) (zMi (dC, dI) [(x0, .inr (3, [.ref h0, .ref t0, .ref r0]))] [(x0, .inr (3, [.ref h0, .ref t0, .ref r0]))] sz (fun r => r = nI 1)) 1 6 (va_A [(x0, .inr (3, [.ref h0, .ref t0, .ref r0]))] sz) := by
  refine MetH.ofW (cc := cL_digits) (maxL := 5) (ret := (some .int)) (by decide) rfl ?_
  intro p e s m args below meth c s₁ Bd hml ⟨xe, htab, hh1, hh2, hh3, hh4⟩ hv
  obtain ⟨rfl, hsz, hG, hP, hK, hD0⟩ := hv
  subst hsz
  have hx := Bd.exec
  have hb := Bd.bytes
  have hr := Bd.returns
  have hts := atoms_spec (ws := wsL_digits) Bd.pre
  have hw : ∀ w ∈ BIG, w.before _ s = true := fun w h => hts w (List.mem_cons_of_mem _ h)
  have hown : s.vm.findClass RL = some m.cls := findClass_of_methodNamed Bd.named
  have hlocks := Bd.notSynchronized
  have hD := hD0.self (sz := s.heap.size)
  obtain ⟨A, hAe⟩ : ∃ A, A = va_A [(x0, .inr (3, [.ref h0, .ref t0, .ref r0]))] s.heap.size := ⟨_, rfl⟩
  have hA : ∀ q : Nat, s.heap.size ≤ q → A q := fun q h => by rw [hAe]; exact Or.inr h
  rw [← hAe] at hG hD
  have hS : va_S A s.heap s.heap [] := va_S.rf
  have hl := lv_entry ([.ref x0, .int x9, .long v]) (n := 5) (Nat.le_of_ble_eq_true rfl)
  rw [lg_entry_eq]
  generalize (lg_sl ([.ref x0, .int x9, .long v]) ++ List.replicate (5 - (lg_sl ([.ref x0, .int x9, .long v])).length) Slot.unset).toArray = ls at hl ⊢
  have hl : lv_has ls 5 [(0, .ref x0), (1, .int x9), (2, .long v)] := hl
  refine zq_name (fun Q hQ => ?_)
  change W p l e rm_h_digits_no1 s m _ below meth c _ _ _ _ Q _
  refine lv_aload_n hx hb dL_digits_0 rfl (lv_at hl 0 rfl) ?_
  refine lv_iload_n hx hb dL_digits_1 rfl (lv_at hl 1 rfl) ?_
  refine lv_lload_n hx hb dL_digits_2 rfl (lv_at hl 2 rfl) ?_
  refine zx_runV (As := [.int x9, .long v]) (rest := []) ⟨hx, hb, hml, hown, hw⟩ (x_digits_1 l dC dI x0 h0 t0 r0 cI cB x9 v hx9 hfl s.heap) (cwV 2 hw (gV w_ml_L_15 w_im_C_digits w_se_C_digits w_in_C w_co_C_digits) rfl rfl rfl (by decide +kernel) ⟨Nat.le_of_ble_eq_true rfl, Nat.le_of_ble_eq_true rfl⟩) (zT_V hG hA hS (hP.sub (ws' := [(x0, .inr (3, [.ref h0, .ref t0, .ref r0]))]) [0] rfl) (hK.sub (tys' := [(cI, .int), (cB, .byte)]) [0, 1] rfl) 0 rfl rfl) rfl rfl hl.1 rfl (lv_room (Nat.le_of_ble_eq_true rfl)) dL_digits_3 ⟨Nat.le_of_ble_eq_true rfl, Nat.le_of_ble_eq_true rfl⟩ (fun xa9 ce H9 hz9 hk9 hx1 hx2 hx3 => ?_)
  refine zx_catch hown htab (by rw [hh1, hh2]; exact ⟨Nat.le_of_ble_eq_true rfl, Nat.le_of_ble_eq_true rfl⟩) (by rw [hh4]; decide) (by rw [hh4]; exact hw _ w_cl_L_13) hx1 hx2 hx3 rfl ?_
  refine W.eq (g2 := F0 m 9 ls [.ref xa9]) (by rw [hh3]) ?_
  have hP := hP.kept (H1 := H9) (fun k q h9 => hk9 _ ((hP k q h9).lt))
  have hS := zx_S hS hz9 hk9
  have hP : va_P (dC, dI) vwCl [(x0, .inr (3, [.ref h0, .ref t0, .ref r0]))] H9 := hP
  have hD : va_D A [(x0, .inr (3, [.ref h0, .ref t0, .ref r0]))] := hD
  refine lv_astore (lv' := [(4, .ref xa9), (0, .ref x0), (1, .int x9), (2, .long v)]) hx hb dL_digits_9 hl (by decide) rfl (fun ls hl => ?_)
  refine lv_iconst (v := nI 1) hx hb dL_digits_11 (by decide) ?_
  subst hAe
  subst hQ
  exact W.iret (v := nI 1) hx hb hr (fun t ht hW => ⟨⟨nI 1, (), rfl, rfl, by rw [ht]; exact hP.sub [0] rfl, hD.sub [0] (by decide) rfl⟩, hS.F ht⟩) hS.2.2 dL_digits_12
def rm_h_digits_no2 : Room := ({ frames := 9, cells := 1, slots := 6, locals := 158 } : Room)
set_option maxHeartbeats 4000000 in
set_option maxRecDepth 100000 in
theorem h_digits_no2 (l : Launch) (dC : Nat → ClassId) (dI : Nat → Nat → Nat) (x0 : Nat) (h0 : Nat) (t0 : Nat) (r0 : Nat) (cI : ClassId) (cB : ClassId) (k : Nat) (v : Int64) (lo : Nat) (cL : ClassId) (fo : Nat → Int64) (hk : k < 16) (hh : fHL k ≠ 0) (hfl : l.flags = pinnedFlags ++ [noTraceFlag]) (sz : Nat) : Met l yL_digits wsL_digits rm_h_digits_no2 (zM (dC, dI) [(cI, .int), (cB, .byte), (cL, .long)] [.ref x0, .int (nI (fFI k)), .long v] [(x0, .inr (3, [.ref h0, .ref t0, .ref r0]))] sz) (zMi (dC, dI) [(x0, .inr (3, [.ref h0, .ref t0, .ref r0]))] [(x0, .inr (3, [.ref h0, .ref t0, .ref r0]))] sz (fun r => r = nI 1)) 1 6 (va_A [(x0, .inr (3, [.ref h0, .ref t0, .ref r0]))] sz) := by
  refine MetH.ofW (cc := cL_digits) (maxL := 5) (ret := (some .int)) (by decide) rfl ?_
  intro p e s m args below meth c s₁ Bd hml ⟨xe, htab, hh1, hh2, hh3, hh4⟩ hv
  obtain ⟨rfl, hsz, hG, hP, hK, hD0⟩ := hv
  subst hsz
  have hx := Bd.exec
  have hb := Bd.bytes
  have hr := Bd.returns
  have hts := atoms_spec (ws := wsL_digits) Bd.pre
  have hw : ∀ w ∈ BIG, w.before _ s = true := fun w h => hts w (List.mem_cons_of_mem _ h)
  have hown : s.vm.findClass RL = some m.cls := findClass_of_methodNamed Bd.named
  have hlocks := Bd.notSynchronized
  have hD := hD0.self (sz := s.heap.size)
  obtain ⟨A, hAe⟩ : ∃ A, A = va_A [(x0, .inr (3, [.ref h0, .ref t0, .ref r0]))] s.heap.size := ⟨_, rfl⟩
  have hA : ∀ q : Nat, s.heap.size ≤ q → A q := fun q h => by rw [hAe]; exact Or.inr h
  rw [← hAe] at hG hD
  have hS : va_S A s.heap s.heap [] := va_S.rf
  have hl := lv_entry ([.ref x0, .int (nI (fFI k)), .long v]) (n := 5) (Nat.le_of_ble_eq_true rfl)
  rw [lg_entry_eq]
  generalize (lg_sl ([.ref x0, .int (nI (fFI k)), .long v]) ++ List.replicate (5 - (lg_sl ([.ref x0, .int (nI (fFI k)), .long v])).length) Slot.unset).toArray = ls at hl ⊢
  have hl : lv_has ls 5 [(0, .ref x0), (1, .int (nI (fFI k))), (2, .long v)] := hl
  refine zq_name (fun Q hQ => ?_)
  change W p l e rm_h_digits_no2 s m _ below meth c _ _ _ _ Q _
  refine lv_aload_n hx hb dL_digits_0 rfl (lv_at hl 0 rfl) ?_
  refine lv_iload_n hx hb dL_digits_1 rfl (lv_at hl 1 rfl) ?_
  refine lv_lload_n hx hb dL_digits_2 rfl (lv_at hl 2 rfl) ?_
  refine zx_runV (As := [.int (nI (fFI k)), .long v]) (rest := []) ⟨hx, hb, hml, hown, hw⟩ (x_digits_2 l dC dI x0 h0 t0 r0 cI cB k v hk hh hfl s.heap) (cwV 2 hw (gV w_ml_L_15 w_im_C_digits w_se_C_digits w_in_C w_co_C_digits) rfl rfl rfl (by decide +kernel) ⟨Nat.le_of_ble_eq_true rfl, Nat.le_of_ble_eq_true rfl⟩) (zT_V hG hA hS (hP.sub (ws' := [(x0, .inr (3, [.ref h0, .ref t0, .ref r0]))]) [0] rfl) (hK.sub (tys' := [(cI, .int), (cB, .byte)]) [0, 1] rfl) 0 rfl rfl) rfl rfl hl.1 rfl (lv_room (Nat.le_of_ble_eq_true rfl)) dL_digits_3 ⟨Nat.le_of_ble_eq_true rfl, Nat.le_of_ble_eq_true rfl⟩ (fun xa9 ce H9 hz9 hk9 hx1 hx2 hx3 => ?_)
  refine zx_catch hown htab (by rw [hh1, hh2]; exact ⟨Nat.le_of_ble_eq_true rfl, Nat.le_of_ble_eq_true rfl⟩) (by rw [hh4]; decide) (by rw [hh4]; exact hw _ w_cl_L_13) hx1 hx2 hx3 rfl ?_
  refine W.eq (g2 := F0 m 9 ls [.ref xa9]) (by rw [hh3]) ?_
  have hP := hP.kept (H1 := H9) (fun k q h9 => hk9 _ ((hP k q h9).lt))
  have hS := zx_S hS hz9 hk9
  have hP : va_P (dC, dI) vwCl [(x0, .inr (3, [.ref h0, .ref t0, .ref r0]))] H9 := hP
  have hD : va_D A [(x0, .inr (3, [.ref h0, .ref t0, .ref r0]))] := hD
  refine lv_astore (lv' := [(4, .ref xa9), (0, .ref x0), (1, .int (nI (fFI k))), (2, .long v)]) hx hb dL_digits_9 hl (by decide) rfl (fun ls hl => ?_)
  refine lv_iconst (v := nI 1) hx hb dL_digits_11 (by decide) ?_
  subst hAe
  subst hQ
  exact W.iret (v := nI 1) hx hb hr (fun t ht hW => ⟨⟨nI 1, (), rfl, rfl, by rw [ht]; exact hP.sub [0] rfl, hD.sub [0] (by decide) rfl⟩, hS.F ht⟩) hS.2.2 dL_digits_12
def rm_h_digits_no3 : Room := ({ frames := 9, cells := 1, slots := 6, locals := 158 } : Room)
set_option maxHeartbeats 4000000 in
set_option maxRecDepth 100000 in
theorem h_digits_no3 (l : Launch) (dC : Nat → ClassId) (dI : Nat → Nat → Nat) (x0 : Nat) (h0 : Nat) (t0 : Nat) (r0 : Nat) (cI : ClassId) (cB : ClassId) (k : Nat) (v : Int64) (lo : Nat) (cL : ClassId) (fo : Nat → Int64) (hk : k < 16) (hh : fHL k = 0) (hv : v < 0) (hfl : l.flags = pinnedFlags ++ [noTraceFlag]) (sz : Nat) : Met l yL_digits wsL_digits rm_h_digits_no3 (zM (dC, dI) [(cI, .int), (cB, .byte), (cL, .long)] [.ref x0, .int (nI (fFI k)), .long v] [(x0, .inr (3, [.ref h0, .ref t0, .ref r0]))] sz) (zMi (dC, dI) [(x0, .inr (3, [.ref h0, .ref t0, .ref r0]))] [(x0, .inr (3, [.ref h0, .ref t0, .ref r0]))] sz (fun r => r = nI 1)) 1 6 (va_A [(x0, .inr (3, [.ref h0, .ref t0, .ref r0]))] sz) := by
  refine MetH.ofW (cc := cL_digits) (maxL := 5) (ret := (some .int)) (by decide) rfl ?_
  intro p e s m args below meth c s₁ Bd hml ⟨xe, htab, hh1, hh2, hh3, hh4⟩ hv
  obtain ⟨rfl, hsz, hG, hP, hK, hD0⟩ := hv
  subst hsz
  have hx := Bd.exec
  have hb := Bd.bytes
  have hr := Bd.returns
  have hts := atoms_spec (ws := wsL_digits) Bd.pre
  have hw : ∀ w ∈ BIG, w.before _ s = true := fun w h => hts w (List.mem_cons_of_mem _ h)
  have hown : s.vm.findClass RL = some m.cls := findClass_of_methodNamed Bd.named
  have hlocks := Bd.notSynchronized
  have hD := hD0.self (sz := s.heap.size)
  obtain ⟨A, hAe⟩ : ∃ A, A = va_A [(x0, .inr (3, [.ref h0, .ref t0, .ref r0]))] s.heap.size := ⟨_, rfl⟩
  have hA : ∀ q : Nat, s.heap.size ≤ q → A q := fun q h => by rw [hAe]; exact Or.inr h
  rw [← hAe] at hG hD
  have hS : va_S A s.heap s.heap [] := va_S.rf
  have hl := lv_entry ([.ref x0, .int (nI (fFI k)), .long v]) (n := 5) (Nat.le_of_ble_eq_true rfl)
  rw [lg_entry_eq]
  generalize (lg_sl ([.ref x0, .int (nI (fFI k)), .long v]) ++ List.replicate (5 - (lg_sl ([.ref x0, .int (nI (fFI k)), .long v])).length) Slot.unset).toArray = ls at hl ⊢
  have hl : lv_has ls 5 [(0, .ref x0), (1, .int (nI (fFI k))), (2, .long v)] := hl
  refine zq_name (fun Q hQ => ?_)
  change W p l e rm_h_digits_no3 s m _ below meth c _ _ _ _ Q _
  refine lv_aload_n hx hb dL_digits_0 rfl (lv_at hl 0 rfl) ?_
  refine lv_iload_n hx hb dL_digits_1 rfl (lv_at hl 1 rfl) ?_
  refine lv_lload_n hx hb dL_digits_2 rfl (lv_at hl 2 rfl) ?_
  refine zx_runV (As := [.int (nI (fFI k)), .long v]) (rest := []) ⟨hx, hb, hml, hown, hw⟩ (x_digits_3 l dC dI x0 h0 t0 r0 cI cB k v hk hh hv hfl s.heap) (cwV 2 hw (gV w_ml_L_15 w_im_C_digits w_se_C_digits w_in_C w_co_C_digits) rfl rfl rfl (by decide +kernel) ⟨Nat.le_of_ble_eq_true rfl, Nat.le_of_ble_eq_true rfl⟩) (zT_V hG hA hS (hP.sub (ws' := [(x0, .inr (3, [.ref h0, .ref t0, .ref r0]))]) [0] rfl) (hK.sub (tys' := [(cI, .int), (cB, .byte)]) [0, 1] rfl) 0 rfl rfl) rfl rfl hl.1 rfl (lv_room (Nat.le_of_ble_eq_true rfl)) dL_digits_3 ⟨Nat.le_of_ble_eq_true rfl, Nat.le_of_ble_eq_true rfl⟩ (fun xa9 ce H9 hz9 hk9 hx1 hx2 hx3 => ?_)
  refine zx_catch hown htab (by rw [hh1, hh2]; exact ⟨Nat.le_of_ble_eq_true rfl, Nat.le_of_ble_eq_true rfl⟩) (by rw [hh4]; decide) (by rw [hh4]; exact hw _ w_cl_L_13) hx1 hx2 hx3 rfl ?_
  refine W.eq (g2 := F0 m 9 ls [.ref xa9]) (by rw [hh3]) ?_
  have hP := hP.kept (H1 := H9) (fun k q h9 => hk9 _ ((hP k q h9).lt))
  have hS := zx_S hS hz9 hk9
  have hP : va_P (dC, dI) vwCl [(x0, .inr (3, [.ref h0, .ref t0, .ref r0]))] H9 := hP
  have hD : va_D A [(x0, .inr (3, [.ref h0, .ref t0, .ref r0]))] := hD
  refine lv_astore (lv' := [(4, .ref xa9), (0, .ref x0), (1, .int (nI (fFI k))), (2, .long v)]) hx hb dL_digits_9 hl (by decide) rfl (fun ls hl => ?_)
  refine lv_iconst (v := nI 1) hx hb dL_digits_11 (by decide) ?_
  subst hAe
  subst hQ
  exact W.iret (v := nI 1) hx hb hr (fun t ht hW => ⟨⟨nI 1, (), rfl, rfl, by rw [ht]; exact hP.sub [0] rfl, hD.sub [0] (by decide) rfl⟩, hS.F ht⟩) hS.2.2 dL_digits_12
def rm_h_digits_no4 : Room := ({ frames := 9, cells := 1, slots := 6, locals := 158 } : Room)
set_option maxHeartbeats 4000000 in
set_option maxRecDepth 100000 in
theorem h_digits_no4 (l : Launch) (dC : Nat → ClassId) (dI : Nat → Nat → Nat) (x0 : Nat) (h0 : Nat) (t0 : Nat) (r0 : Nat) (cI : ClassId) (cB : ClassId) (k : Nat) (n : Nat) (lo : Nat) (cL : ClassId) (fo : Nat → Int64) (hk : k < 16) (hh : fHL k = 0) (hn : n < 2 ^ 63) (hd : fMM k < dcn n) (hfl : l.flags = pinnedFlags ++ [noTraceFlag]) (sz : Nat) : Met l yL_digits wsL_digits rm_h_digits_no4 (zM (dC, dI) [(cI, .int), (cB, .byte), (cL, .long)] [.ref x0, .int (nI (fFI k)), .long (lN n)] [(x0, .inr (3, [.ref h0, .ref t0, .ref r0]))] sz) (zMi (dC, dI) [(x0, .inr (3, [.ref h0, .ref t0, .ref r0]))] [(x0, .inr (3, [.ref h0, .ref t0, .ref r0]))] sz (fun r => r = nI 1)) 1 6 (va_A [(x0, .inr (3, [.ref h0, .ref t0, .ref r0]))] sz) := by
  refine MetH.ofW (cc := cL_digits) (maxL := 5) (ret := (some .int)) (by decide) rfl ?_
  intro p e s m args below meth c s₁ Bd hml ⟨xe, htab, hh1, hh2, hh3, hh4⟩ hv
  obtain ⟨rfl, hsz, hG, hP, hK, hD0⟩ := hv
  subst hsz
  have hx := Bd.exec
  have hb := Bd.bytes
  have hr := Bd.returns
  have hts := atoms_spec (ws := wsL_digits) Bd.pre
  have hw : ∀ w ∈ BIG, w.before _ s = true := fun w h => hts w (List.mem_cons_of_mem _ h)
  have hown : s.vm.findClass RL = some m.cls := findClass_of_methodNamed Bd.named
  have hlocks := Bd.notSynchronized
  have hD := hD0.self (sz := s.heap.size)
  obtain ⟨A, hAe⟩ : ∃ A, A = va_A [(x0, .inr (3, [.ref h0, .ref t0, .ref r0]))] s.heap.size := ⟨_, rfl⟩
  have hA : ∀ q : Nat, s.heap.size ≤ q → A q := fun q h => by rw [hAe]; exact Or.inr h
  rw [← hAe] at hG hD
  have hS : va_S A s.heap s.heap [] := va_S.rf
  have hl := lv_entry ([.ref x0, .int (nI (fFI k)), .long (lN n)]) (n := 5) (Nat.le_of_ble_eq_true rfl)
  rw [lg_entry_eq]
  generalize (lg_sl ([.ref x0, .int (nI (fFI k)), .long (lN n)]) ++ List.replicate (5 - (lg_sl ([.ref x0, .int (nI (fFI k)), .long (lN n)])).length) Slot.unset).toArray = ls at hl ⊢
  have hl : lv_has ls 5 [(0, .ref x0), (1, .int (nI (fFI k))), (2, .long (lN n))] := hl
  refine zq_name (fun Q hQ => ?_)
  change W p l e rm_h_digits_no4 s m _ below meth c _ _ _ _ Q _
  refine lv_aload_n hx hb dL_digits_0 rfl (lv_at hl 0 rfl) ?_
  refine lv_iload_n hx hb dL_digits_1 rfl (lv_at hl 1 rfl) ?_
  refine lv_lload_n hx hb dL_digits_2 rfl (lv_at hl 2 rfl) ?_
  refine zx_runV (As := [.int (nI (fFI k)), .long (lN n)]) (rest := []) ⟨hx, hb, hml, hown, hw⟩ (x_digits_4 l dC dI x0 h0 t0 r0 cI cB k n hk hh hn hd hfl s.heap) (cwV 2 hw (gV w_ml_L_15 w_im_C_digits w_se_C_digits w_in_C w_co_C_digits) rfl rfl rfl (by decide +kernel) ⟨Nat.le_of_ble_eq_true rfl, Nat.le_of_ble_eq_true rfl⟩) (zT_V hG hA hS (hP.sub (ws' := [(x0, .inr (3, [.ref h0, .ref t0, .ref r0]))]) [0] rfl) (hK.sub (tys' := [(cI, .int), (cB, .byte)]) [0, 1] rfl) 0 rfl rfl) rfl rfl hl.1 rfl (lv_room (Nat.le_of_ble_eq_true rfl)) dL_digits_3 ⟨Nat.le_of_ble_eq_true rfl, Nat.le_of_ble_eq_true rfl⟩ (fun xa9 ce H9 hz9 hk9 hx1 hx2 hx3 => ?_)
  refine zx_catch hown htab (by rw [hh1, hh2]; exact ⟨Nat.le_of_ble_eq_true rfl, Nat.le_of_ble_eq_true rfl⟩) (by rw [hh4]; decide) (by rw [hh4]; exact hw _ w_cl_L_13) hx1 hx2 hx3 rfl ?_
  refine W.eq (g2 := F0 m 9 ls [.ref xa9]) (by rw [hh3]) ?_
  have hP := hP.kept (H1 := H9) (fun k q h9 => hk9 _ ((hP k q h9).lt))
  have hS := zx_S hS hz9 hk9
  have hP : va_P (dC, dI) vwCl [(x0, .inr (3, [.ref h0, .ref t0, .ref r0]))] H9 := hP
  have hD : va_D A [(x0, .inr (3, [.ref h0, .ref t0, .ref r0]))] := hD
  refine lv_astore (lv' := [(4, .ref xa9), (0, .ref x0), (1, .int (nI (fFI k))), (2, .long (lN n))]) hx hb dL_digits_9 hl (by decide) rfl (fun ls hl => ?_)
  refine lv_iconst (v := nI 1) hx hb dL_digits_11 (by decide) ?_
  subst hAe
  subst hQ
  exact W.iret (v := nI 1) hx hb hr (fun t ht hW => ⟨⟨nI 1, (), rfl, rfl, by rw [ht]; exact hP.sub [0] rfl, hD.sub [0] (by decide) rfl⟩, hS.F ht⟩) hS.2.2 dL_digits_12
def rm_h_letters_ok : Room := ({ frames := 8, cells := 0, slots := 0, locals := 138 } : Room)
set_option maxHeartbeats 4000000 in
set_option maxRecDepth 100000 in
theorem h_letters_ok (l : Launch) (dC : Nat → ClassId) (dI : Nat → Nat → Nat) (x0 : Nat) (h0 : Nat) (h1 : Nat) (h2 : Nat) (cI : ClassId) (cB : ClassId) (ty : Nat) (cnt : Nat → Nat) (mk : Nat → Nat) (t0 : Nat) (r0 : Nat) (k : Nat) (v : Int64) (n : Nat) (lo : Nat) (cL : ClassId) (fo : Nat → Int64) (hk : k < 16) (hh : fHL k ≠ 0) (hn0 : fCD k = 0 → n = 0) (hn1 : fCD k ≠ 0 → 1 ≤ n ∧ n ≤ fMM k) (hn2 : n < 2 ^ 31) (sz : Nat) : Met l yL_letters wsL_letters rm_h_letters_ok (zM (dC, dI) [(cI, .int), (cB, .byte), (cL, .long)] [.ref x0, .int (nI (fFI k)), .long v, .int (nI n)] [(x0, .inr (3, [.ref h0, .ref t0, .ref r0])), (h0, .inr (0, [.int (nI ty), .ref h1, .ref h2])), (h1, .inl (cI, 16, .inl (aN cnt))), (h2, .inl (cB, 208, .inl (aN mk)))] sz) (zMi (dC, dI) [(x0, .inr (3, [.ref h0, .ref t0, .ref r0])), (h0, .inr (0, [.int (nI ty), .ref h1, .ref h2])), (h1, .inl (cI, 16, .inl (aN cnt))), (h2, .inl (cB, 208, .inl (aN mk)))] [(x0, .inr (3, [.ref h0, .ref t0, .ref r0])), (h0, .inr (0, [.int (nI ty), .ref h1, .ref h2])), (h1, .inl (cI, 16, .inl (aN (nup cnt k (lct k n))))), (h2, .inl (cB, 208, .inl (aN (lset v (fFM k) (lct k n) 0 mk))))] sz (fun r => r = nI 0)) 0 0 (va_A [(x0, .inr (3, [.ref h0, .ref t0, .ref r0])), (h0, .inr (0, [.int (nI ty), .ref h1, .ref h2])), (h1, .inl (cI, 16, .inl (aN cnt))), (h2, .inl (cB, 208, .inl (aN mk)))] sz) := by
  refine MetH.ofW (cc := cL_letters) (maxL := 6) (ret := (some .int)) (by decide) rfl ?_
  intro p e s m args below meth c s₁ Bd hml ⟨xe, htab, hh1, hh2, hh3, hh4⟩ hv
  obtain ⟨rfl, hsz, hG, hP, hK, hD0⟩ := hv
  subst hsz
  have hx := Bd.exec
  have hb := Bd.bytes
  have hr := Bd.returns
  have hts := atoms_spec (ws := wsL_letters) Bd.pre
  have hw : ∀ w ∈ BIG, w.before _ s = true := fun w h => hts w (List.mem_cons_of_mem _ h)
  have hown : s.vm.findClass RL = some m.cls := findClass_of_methodNamed Bd.named
  have hlocks := Bd.notSynchronized
  have hD := hD0.self (sz := s.heap.size)
  obtain ⟨A, hAe⟩ : ∃ A, A = va_A [(x0, .inr (3, [.ref h0, .ref t0, .ref r0])), (h0, .inr (0, [.int (nI ty), .ref h1, .ref h2])), (h1, .inl (cI, 16, .inl (aN cnt))), (h2, .inl (cB, 208, .inl (aN mk)))] s.heap.size := ⟨_, rfl⟩
  have hA : ∀ q : Nat, s.heap.size ≤ q → A q := fun q h => by rw [hAe]; exact Or.inr h
  rw [← hAe] at hG hD
  have hS : va_S A s.heap s.heap [] := va_S.rf
  have hl := lv_entry ([.ref x0, .int (nI (fFI k)), .long v, .int (nI n)]) (n := 6) (Nat.le_of_ble_eq_true rfl)
  rw [lg_entry_eq]
  generalize (lg_sl ([.ref x0, .int (nI (fFI k)), .long v, .int (nI n)]) ++ List.replicate (6 - (lg_sl ([.ref x0, .int (nI (fFI k)), .long v, .int (nI n)])).length) Slot.unset).toArray = ls at hl ⊢
  have hl : lv_has ls 6 [(0, .ref x0), (1, .int (nI (fFI k))), (2, .long v), (4, .int (nI n))] := hl
  refine zq_name (fun Q hQ => ?_)
  change W p l e rm_h_letters_ok s m _ below meth c _ _ _ _ Q _
  refine lv_aload_n hx hb dL_letters_0 rfl (lv_at hl 0 rfl) ?_
  refine lv_iload_n hx hb dL_letters_1 rfl (lv_at hl 1 rfl) ?_
  refine lv_lload_n hx hb dL_letters_2 rfl (lv_at hl 2 rfl) ?_
  refine lv_iload hx hb dL_letters_3 (lv_at hl 3 rfl) ?_
  have hPc := hP.sub (ws' := [(x0, .inr (3, [.ref h0, .ref t0, .ref r0])), (h0, .inr (0, [.int (nI ty), .ref h1, .ref h2])), (h1, .inl (cI, 16, .inl (aN cnt))), (h2, .inl (cB, 208, .inl (aN mk)))]) [0, 1, 2, 3] rfl
  have hDc := hD.sub (ws' := [(x0, .inr (3, [.ref h0, .ref t0, .ref r0])), (h0, .inr (0, [.int (nI ty), .ref h1, .ref h2])), (h1, .inl (cI, 16, .inl (aN cnt))), (h2, .inl (cB, 208, .inl (aN mk)))]) [0, 1, 2, 3] (by decide) rfl
  have hFc := va_free (wc := [(x0, .inr (3, [.ref h0, .ref t0, .ref r0])), (h0, .inr (0, [.int (nI ty), .ref h1, .ref h2])), (h1, .inl (cI, 16, .inl (aN cnt))), (h2, .inl (cB, 208, .inl (aN mk)))]) hD hS hA [0, 1, 2, 3] rfl
  refine zc_Mv (va_runV (As := [.int (nI (fFI k)), .long v, .int (nI n)]) (rest := []) ⟨hx, hb, hml, hown, hw⟩ (c_letters_ok l dC dI x0 h0 h1 h2 cI cB ty cnt mk t0 r0 k v n hk hh hn0 hn1 hn2 s.heap.size) (cwV 3 hw (gV w_ml_L_19 w_im_C_letters w_se_C_letters w_in_C w_co_C_letters) rfl rfl rfl (by decide +kernel) ⟨Nat.le_of_ble_eq_true rfl, Nat.le_of_ble_eq_true rfl⟩) (zM_V hG hS hFc hPc hDc (hK.sub (tys' := [(cI, .int), (cB, .byte)]) [0, 1] rfl) 0 rfl rfl) rfl rfl hl.1 rfl (lv_room (Nat.le_of_ble_eq_true rfl)) dL_letters_5 ⟨Nat.le_of_ble_eq_true rfl, Nat.le_of_ble_eq_true rfl⟩) hS hFc (fun H locs h_5 hP1 hD1 hk1 hS => ?_)
  obtain ⟨hP, hD⟩ := va_join (wr := []) (w1 := [(x0, .inr (3, [.ref h0, .ref t0, .ref r0])), (h0, .inr (0, [.int (nI ty), .ref h1, .ref h2])), (h1, .inl (cI, 16, .inl (aN (nup cnt k (lct k n))))), (h2, .inl (cB, 208, .inl (aN (lset v (fFM k) (lct k n) 0 mk))))]) hP hD [0, 1, 2, 3] [] rfl rfl (by decide) (by decide) hk1 hFc hP1 hD1
  have hP : va_P (dC, dI) vwCl [(x0, .inr (3, [.ref h0, .ref t0, .ref r0])), (h0, .inr (0, [.int (nI ty), .ref h1, .ref h2])), (h1, .inl (cI, 16, .inl (aN (nup cnt k (lct k n))))), (h2, .inl (cB, 208, .inl (aN (lset v (fFM k) (lct k n) 0 mk))))] H := hP
  have hD : va_D A [(x0, .inr (3, [.ref h0, .ref t0, .ref r0])), (h0, .inr (0, [.int (nI ty), .ref h1, .ref h2])), (h1, .inl (cI, 16, .inl (aN (nup cnt k (lct k n))))), (h2, .inl (cB, 208, .inl (aN (lset v (fFM k) (lct k n) 0 mk))))] := hD
  refine lv_goto (tgt := 15) hx hb dL_letters_8 (by decide) ?_
  refine lv_iconst (v := nI 0) hx hb dL_letters_15 (by decide) ?_
  subst hAe
  subst hQ
  exact W.iret (v := nI 0) hx hb hr (fun t ht hW => ⟨⟨nI 0, (), rfl, rfl, by rw [ht]; exact hP.sub [0, 1, 2, 3] rfl, hD.sub [0, 1, 2, 3] (by decide) rfl⟩, hS.F ht⟩) hS.2.2 dL_letters_16
def rm_h_letters_no1 : Room := ({ frames := 8, cells := 1, slots := 6, locals := 138 } : Room)
set_option maxHeartbeats 4000000 in
set_option maxRecDepth 100000 in
theorem h_letters_no1 (l : Launch) (dC : Nat → ClassId) (dI : Nat → Nat → Nat) (x0 : Nat) (h0 : Nat) (t0 : Nat) (r0 : Nat) (cI : ClassId) (cB : ClassId) (x9 : Int32) (v : Int64) (y9 : Int32) (lo : Nat) (cL : ClassId) (fo : Nat → Int64) (hx9 : ∀ j, j < 16 → nI (fFI j) ≠ x9) (hfl : l.flags = pinnedFlags ++ [noTraceFlag]) (sz : Nat) : Met l yL_letters wsL_letters rm_h_letters_no1 (zM (dC, dI) [(cI, .int), (cB, .byte), (cL, .long)] [.ref x0, .int x9, .long v, .int y9] [(x0, .inr (3, [.ref h0, .ref t0, .ref r0]))] sz) (zMi (dC, dI) [(x0, .inr (3, [.ref h0, .ref t0, .ref r0]))] [(x0, .inr (3, [.ref h0, .ref t0, .ref r0]))] sz (fun r => r = nI 1)) 1 6 (va_A [(x0, .inr (3, [.ref h0, .ref t0, .ref r0]))] sz) := by
  refine MetH.ofW (cc := cL_letters) (maxL := 6) (ret := (some .int)) (by decide) rfl ?_
  intro p e s m args below meth c s₁ Bd hml ⟨xe, htab, hh1, hh2, hh3, hh4⟩ hv
  obtain ⟨rfl, hsz, hG, hP, hK, hD0⟩ := hv
  subst hsz
  have hx := Bd.exec
  have hb := Bd.bytes
  have hr := Bd.returns
  have hts := atoms_spec (ws := wsL_letters) Bd.pre
  have hw : ∀ w ∈ BIG, w.before _ s = true := fun w h => hts w (List.mem_cons_of_mem _ h)
  have hown : s.vm.findClass RL = some m.cls := findClass_of_methodNamed Bd.named
  have hlocks := Bd.notSynchronized
  have hD := hD0.self (sz := s.heap.size)
  obtain ⟨A, hAe⟩ : ∃ A, A = va_A [(x0, .inr (3, [.ref h0, .ref t0, .ref r0]))] s.heap.size := ⟨_, rfl⟩
  have hA : ∀ q : Nat, s.heap.size ≤ q → A q := fun q h => by rw [hAe]; exact Or.inr h
  rw [← hAe] at hG hD
  have hS : va_S A s.heap s.heap [] := va_S.rf
  have hl := lv_entry ([.ref x0, .int x9, .long v, .int y9]) (n := 6) (Nat.le_of_ble_eq_true rfl)
  rw [lg_entry_eq]
  generalize (lg_sl ([.ref x0, .int x9, .long v, .int y9]) ++ List.replicate (6 - (lg_sl ([.ref x0, .int x9, .long v, .int y9])).length) Slot.unset).toArray = ls at hl ⊢
  have hl : lv_has ls 6 [(0, .ref x0), (1, .int x9), (2, .long v), (4, .int y9)] := hl
  refine zq_name (fun Q hQ => ?_)
  change W p l e rm_h_letters_no1 s m _ below meth c _ _ _ _ Q _
  refine lv_aload_n hx hb dL_letters_0 rfl (lv_at hl 0 rfl) ?_
  refine lv_iload_n hx hb dL_letters_1 rfl (lv_at hl 1 rfl) ?_
  refine lv_lload_n hx hb dL_letters_2 rfl (lv_at hl 2 rfl) ?_
  refine lv_iload hx hb dL_letters_3 (lv_at hl 3 rfl) ?_
  refine zx_runV (As := [.int x9, .long v, .int y9]) (rest := []) ⟨hx, hb, hml, hown, hw⟩ (x_letters_1 l dC dI x0 h0 t0 r0 cI cB x9 v y9 hx9 hfl s.heap) (cwV 3 hw (gV w_ml_L_19 w_im_C_letters w_se_C_letters w_in_C w_co_C_letters) rfl rfl rfl (by decide +kernel) ⟨Nat.le_of_ble_eq_true rfl, Nat.le_of_ble_eq_true rfl⟩) (zT_V hG hA hS (hP.sub (ws' := [(x0, .inr (3, [.ref h0, .ref t0, .ref r0]))]) [0] rfl) (hK.sub (tys' := [(cI, .int), (cB, .byte)]) [0, 1] rfl) 0 rfl rfl) rfl rfl hl.1 rfl (lv_room (Nat.le_of_ble_eq_true rfl)) dL_letters_5 ⟨Nat.le_of_ble_eq_true rfl, Nat.le_of_ble_eq_true rfl⟩ (fun xa9 ce H9 hz9 hk9 hx1 hx2 hx3 => ?_)
  refine zx_catch hown htab (by rw [hh1, hh2]; exact ⟨Nat.le_of_ble_eq_true rfl, Nat.le_of_ble_eq_true rfl⟩) (by rw [hh4]; decide) (by rw [hh4]; exact hw _ w_cl_L_13) hx1 hx2 hx3 rfl ?_
  refine W.eq (g2 := F0 m 11 ls [.ref xa9]) (by rw [hh3]) ?_
  have hP := hP.kept (H1 := H9) (fun k q h9 => hk9 _ ((hP k q h9).lt))
  have hS := zx_S hS hz9 hk9
  have hP : va_P (dC, dI) vwCl [(x0, .inr (3, [.ref h0, .ref t0, .ref r0]))] H9 := hP
  have hD : va_D A [(x0, .inr (3, [.ref h0, .ref t0, .ref r0]))] := hD
  refine lv_astore (lv' := [(5, .ref xa9), (0, .ref x0), (1, .int x9), (2, .long v), (4, .int y9)]) hx hb dL_letters_11 hl (by decide) rfl (fun ls hl => ?_)
  refine lv_iconst (v := nI 1) hx hb dL_letters_13 (by decide) ?_
  subst hAe
  subst hQ
  exact W.iret (v := nI 1) hx hb hr (fun t ht hW => ⟨⟨nI 1, (), rfl, rfl, by rw [ht]; exact hP.sub [0] rfl, hD.sub [0] (by decide) rfl⟩, hS.F ht⟩) hS.2.2 dL_letters_14
def rm_h_letters_no2 : Room := ({ frames := 8, cells := 1, slots := 6, locals := 138 } : Room)
set_option maxHeartbeats 4000000 in
set_option maxRecDepth 100000 in
theorem h_letters_no2 (l : Launch) (dC : Nat → ClassId) (dI : Nat → Nat → Nat) (x0 : Nat) (h0 : Nat) (t0 : Nat) (r0 : Nat) (cI : ClassId) (cB : ClassId) (k : Nat) (v : Int64) (y9 : Int32) (lo : Nat) (cL : ClassId) (fo : Nat → Int64) (hk : k < 16) (hh : fHL k = 0) (hfl : l.flags = pinnedFlags ++ [noTraceFlag]) (sz : Nat) : Met l yL_letters wsL_letters rm_h_letters_no2 (zM (dC, dI) [(cI, .int), (cB, .byte), (cL, .long)] [.ref x0, .int (nI (fFI k)), .long v, .int y9] [(x0, .inr (3, [.ref h0, .ref t0, .ref r0]))] sz) (zMi (dC, dI) [(x0, .inr (3, [.ref h0, .ref t0, .ref r0]))] [(x0, .inr (3, [.ref h0, .ref t0, .ref r0]))] sz (fun r => r = nI 1)) 1 6 (va_A [(x0, .inr (3, [.ref h0, .ref t0, .ref r0]))] sz) := by
  refine MetH.ofW (cc := cL_letters) (maxL := 6) (ret := (some .int)) (by decide) rfl ?_
  intro p e s m args below meth c s₁ Bd hml ⟨xe, htab, hh1, hh2, hh3, hh4⟩ hv
  obtain ⟨rfl, hsz, hG, hP, hK, hD0⟩ := hv
  subst hsz
  have hx := Bd.exec
  have hb := Bd.bytes
  have hr := Bd.returns
  have hts := atoms_spec (ws := wsL_letters) Bd.pre
  have hw : ∀ w ∈ BIG, w.before _ s = true := fun w h => hts w (List.mem_cons_of_mem _ h)
  have hown : s.vm.findClass RL = some m.cls := findClass_of_methodNamed Bd.named
  have hlocks := Bd.notSynchronized
  have hD := hD0.self (sz := s.heap.size)
  obtain ⟨A, hAe⟩ : ∃ A, A = va_A [(x0, .inr (3, [.ref h0, .ref t0, .ref r0]))] s.heap.size := ⟨_, rfl⟩
  have hA : ∀ q : Nat, s.heap.size ≤ q → A q := fun q h => by rw [hAe]; exact Or.inr h
  rw [← hAe] at hG hD
  have hS : va_S A s.heap s.heap [] := va_S.rf
  have hl := lv_entry ([.ref x0, .int (nI (fFI k)), .long v, .int y9]) (n := 6) (Nat.le_of_ble_eq_true rfl)
  rw [lg_entry_eq]
  generalize (lg_sl ([.ref x0, .int (nI (fFI k)), .long v, .int y9]) ++ List.replicate (6 - (lg_sl ([.ref x0, .int (nI (fFI k)), .long v, .int y9])).length) Slot.unset).toArray = ls at hl ⊢
  have hl : lv_has ls 6 [(0, .ref x0), (1, .int (nI (fFI k))), (2, .long v), (4, .int y9)] := hl
  refine zq_name (fun Q hQ => ?_)
  change W p l e rm_h_letters_no2 s m _ below meth c _ _ _ _ Q _
  refine lv_aload_n hx hb dL_letters_0 rfl (lv_at hl 0 rfl) ?_
  refine lv_iload_n hx hb dL_letters_1 rfl (lv_at hl 1 rfl) ?_
  refine lv_lload_n hx hb dL_letters_2 rfl (lv_at hl 2 rfl) ?_
  refine lv_iload hx hb dL_letters_3 (lv_at hl 3 rfl) ?_
  refine zx_runV (As := [.int (nI (fFI k)), .long v, .int y9]) (rest := []) ⟨hx, hb, hml, hown, hw⟩ (x_letters_2 l dC dI x0 h0 t0 r0 cI cB k v y9 hk hh hfl s.heap) (cwV 3 hw (gV w_ml_L_19 w_im_C_letters w_se_C_letters w_in_C w_co_C_letters) rfl rfl rfl (by decide +kernel) ⟨Nat.le_of_ble_eq_true rfl, Nat.le_of_ble_eq_true rfl⟩) (zT_V hG hA hS (hP.sub (ws' := [(x0, .inr (3, [.ref h0, .ref t0, .ref r0]))]) [0] rfl) (hK.sub (tys' := [(cI, .int), (cB, .byte)]) [0, 1] rfl) 0 rfl rfl) rfl rfl hl.1 rfl (lv_room (Nat.le_of_ble_eq_true rfl)) dL_letters_5 ⟨Nat.le_of_ble_eq_true rfl, Nat.le_of_ble_eq_true rfl⟩ (fun xa9 ce H9 hz9 hk9 hx1 hx2 hx3 => ?_)
  refine zx_catch hown htab (by rw [hh1, hh2]; exact ⟨Nat.le_of_ble_eq_true rfl, Nat.le_of_ble_eq_true rfl⟩) (by rw [hh4]; decide) (by rw [hh4]; exact hw _ w_cl_L_13) hx1 hx2 hx3 rfl ?_
  refine W.eq (g2 := F0 m 11 ls [.ref xa9]) (by rw [hh3]) ?_
  have hP := hP.kept (H1 := H9) (fun k q h9 => hk9 _ ((hP k q h9).lt))
  have hS := zx_S hS hz9 hk9
  have hP : va_P (dC, dI) vwCl [(x0, .inr (3, [.ref h0, .ref t0, .ref r0]))] H9 := hP
  have hD : va_D A [(x0, .inr (3, [.ref h0, .ref t0, .ref r0]))] := hD
  refine lv_astore (lv' := [(5, .ref xa9), (0, .ref x0), (1, .int (nI (fFI k))), (2, .long v), (4, .int y9)]) hx hb dL_letters_11 hl (by decide) rfl (fun ls hl => ?_)
  refine lv_iconst (v := nI 1) hx hb dL_letters_13 (by decide) ?_
  subst hAe
  subst hQ
  exact W.iret (v := nI 1) hx hb hr (fun t ht hW => ⟨⟨nI 1, (), rfl, rfl, by rw [ht]; exact hP.sub [0] rfl, hD.sub [0] (by decide) rfl⟩, hS.F ht⟩) hS.2.2 dL_letters_14
def rm_h_letters_no3 : Room := ({ frames := 8, cells := 1, slots := 6, locals := 138 } : Room)
set_option maxHeartbeats 4000000 in
set_option maxRecDepth 100000 in
theorem h_letters_no3 (l : Launch) (dC : Nat → ClassId) (dI : Nat → Nat → Nat) (x0 : Nat) (h0 : Nat) (t0 : Nat) (r0 : Nat) (cI : ClassId) (cB : ClassId) (k : Nat) (v : Int64) (y9 : Int32) (lo : Nat) (cL : ClassId) (fo : Nat → Int64) (hk : k < 16) (hh : fHL k ≠ 0) (hy : (fCD k = 0 ∧ y9 ≠ 0) ∨ (fCD k ≠ 0 ∧ (y9 < nI 1 ∨ nI 40 < y9))) (hfl : l.flags = pinnedFlags ++ [noTraceFlag]) (sz : Nat) : Met l yL_letters wsL_letters rm_h_letters_no3 (zM (dC, dI) [(cI, .int), (cB, .byte), (cL, .long)] [.ref x0, .int (nI (fFI k)), .long v, .int y9] [(x0, .inr (3, [.ref h0, .ref t0, .ref r0]))] sz) (zMi (dC, dI) [(x0, .inr (3, [.ref h0, .ref t0, .ref r0]))] [(x0, .inr (3, [.ref h0, .ref t0, .ref r0]))] sz (fun r => r = nI 1)) 1 6 (va_A [(x0, .inr (3, [.ref h0, .ref t0, .ref r0]))] sz) := by
  refine MetH.ofW (cc := cL_letters) (maxL := 6) (ret := (some .int)) (by decide) rfl ?_
  intro p e s m args below meth c s₁ Bd hml ⟨xe, htab, hh1, hh2, hh3, hh4⟩ hv
  obtain ⟨rfl, hsz, hG, hP, hK, hD0⟩ := hv
  subst hsz
  have hx := Bd.exec
  have hb := Bd.bytes
  have hr := Bd.returns
  have hts := atoms_spec (ws := wsL_letters) Bd.pre
  have hw : ∀ w ∈ BIG, w.before _ s = true := fun w h => hts w (List.mem_cons_of_mem _ h)
  have hown : s.vm.findClass RL = some m.cls := findClass_of_methodNamed Bd.named
  have hlocks := Bd.notSynchronized
  have hD := hD0.self (sz := s.heap.size)
  obtain ⟨A, hAe⟩ : ∃ A, A = va_A [(x0, .inr (3, [.ref h0, .ref t0, .ref r0]))] s.heap.size := ⟨_, rfl⟩
  have hA : ∀ q : Nat, s.heap.size ≤ q → A q := fun q h => by rw [hAe]; exact Or.inr h
  rw [← hAe] at hG hD
  have hS : va_S A s.heap s.heap [] := va_S.rf
  have hl := lv_entry ([.ref x0, .int (nI (fFI k)), .long v, .int y9]) (n := 6) (Nat.le_of_ble_eq_true rfl)
  rw [lg_entry_eq]
  generalize (lg_sl ([.ref x0, .int (nI (fFI k)), .long v, .int y9]) ++ List.replicate (6 - (lg_sl ([.ref x0, .int (nI (fFI k)), .long v, .int y9])).length) Slot.unset).toArray = ls at hl ⊢
  have hl : lv_has ls 6 [(0, .ref x0), (1, .int (nI (fFI k))), (2, .long v), (4, .int y9)] := hl
  refine zq_name (fun Q hQ => ?_)
  change W p l e rm_h_letters_no3 s m _ below meth c _ _ _ _ Q _
  refine lv_aload_n hx hb dL_letters_0 rfl (lv_at hl 0 rfl) ?_
  refine lv_iload_n hx hb dL_letters_1 rfl (lv_at hl 1 rfl) ?_
  refine lv_lload_n hx hb dL_letters_2 rfl (lv_at hl 2 rfl) ?_
  refine lv_iload hx hb dL_letters_3 (lv_at hl 3 rfl) ?_
  refine zx_runV (As := [.int (nI (fFI k)), .long v, .int y9]) (rest := []) ⟨hx, hb, hml, hown, hw⟩ (x_letters_3 l dC dI x0 h0 t0 r0 cI cB k v y9 hk hh hy hfl s.heap) (cwV 3 hw (gV w_ml_L_19 w_im_C_letters w_se_C_letters w_in_C w_co_C_letters) rfl rfl rfl (by decide +kernel) ⟨Nat.le_of_ble_eq_true rfl, Nat.le_of_ble_eq_true rfl⟩) (zT_V hG hA hS (hP.sub (ws' := [(x0, .inr (3, [.ref h0, .ref t0, .ref r0]))]) [0] rfl) (hK.sub (tys' := [(cI, .int), (cB, .byte)]) [0, 1] rfl) 0 rfl rfl) rfl rfl hl.1 rfl (lv_room (Nat.le_of_ble_eq_true rfl)) dL_letters_5 ⟨Nat.le_of_ble_eq_true rfl, Nat.le_of_ble_eq_true rfl⟩ (fun xa9 ce H9 hz9 hk9 hx1 hx2 hx3 => ?_)
  refine zx_catch hown htab (by rw [hh1, hh2]; exact ⟨Nat.le_of_ble_eq_true rfl, Nat.le_of_ble_eq_true rfl⟩) (by rw [hh4]; decide) (by rw [hh4]; exact hw _ w_cl_L_13) hx1 hx2 hx3 rfl ?_
  refine W.eq (g2 := F0 m 11 ls [.ref xa9]) (by rw [hh3]) ?_
  have hP := hP.kept (H1 := H9) (fun k q h9 => hk9 _ ((hP k q h9).lt))
  have hS := zx_S hS hz9 hk9
  have hP : va_P (dC, dI) vwCl [(x0, .inr (3, [.ref h0, .ref t0, .ref r0]))] H9 := hP
  have hD : va_D A [(x0, .inr (3, [.ref h0, .ref t0, .ref r0]))] := hD
  refine lv_astore (lv' := [(5, .ref xa9), (0, .ref x0), (1, .int (nI (fFI k))), (2, .long v), (4, .int y9)]) hx hb dL_letters_11 hl (by decide) rfl (fun ls hl => ?_)
  refine lv_iconst (v := nI 1) hx hb dL_letters_13 (by decide) ?_
  subst hAe
  subst hQ
  exact W.iret (v := nI 1) hx hb hr (fun t ht hW => ⟨⟨nI 1, (), rfl, rfl, by rw [ht]; exact hP.sub [0] rfl, hD.sub [0] (by decide) rfl⟩, hS.F ht⟩) hS.2.2 dL_letters_14
def rm_h_original_ok : Room := ({ frames := 7, cells := 0, slots := 0, locals := 114 } : Room)
set_option maxHeartbeats 4000000 in
set_option maxRecDepth 100000 in
theorem h_original_ok (l : Launch) (dC : Nat → ClassId) (dI : Nat → Nat → Nat) (x0 : Nat) (h0 : Nat) (h1 : Nat) (h2 : Nat) (cI : ClassId) (cB : ClassId) (ty : Nat) (cnt : Nat → Nat) (mk : Nat → Nat) (t0 : Nat) (r0 : Nat) (a1 : Nat) (a2 : Nat) (a3 : Nat) (lo : Nat) (cL : ClassId) (fo : Nat → Int64) (ha1 : a1 ≤ 9999) (ha2 : a2 ≤ 999999) (ha3 : a3 ≤ 99999) (sz : Nat) : Met l yL_original wsL_original rm_h_original_ok (zM (dC, dI) [(cI, .int), (cB, .byte), (cL, .long)] [.ref x0, .int (nI a1), .int (nI a2), .int (nI a3)] [(x0, .inr (3, [.ref h0, .ref t0, .ref r0])), (h0, .inr (0, [.int (nI ty), .ref h1, .ref h2])), (h1, .inl (cI, 16, .inl (aN cnt))), (h2, .inl (cB, 208, .inl (aN mk)))] sz) (zMi (dC, dI) [(x0, .inr (3, [.ref h0, .ref t0, .ref r0])), (h0, .inr (0, [.int (nI ty), .ref h1, .ref h2])), (h1, .inl (cI, 16, .inl (aN cnt))), (h2, .inl (cB, 208, .inl (aN mk)))] [(x0, .inr (3, [.ref h0, .ref t0, .ref r0])), (h0, .inr (0, [.int (nI ty), .ref h1, .ref h2])), (h1, .inl (cI, 16, .inl (aN (nup cnt 14 (fMM 14))))), (h2, .inl (cB, 208, .inl (aN (ds (ds (ds (ds (ds mk (fFM 14 + 0) 4 a1) (fFM 14 + 4) 6 a2) (fFM 14 + 10) 10 0) (fFM 14 + 20) 11 a3) (fFM 14 + 31) 11 0))))] sz (fun r => r = nI 0)) 0 0 (va_A [(x0, .inr (3, [.ref h0, .ref t0, .ref r0])), (h0, .inr (0, [.int (nI ty), .ref h1, .ref h2])), (h1, .inl (cI, 16, .inl (aN cnt))), (h2, .inl (cB, 208, .inl (aN mk)))] sz) := by
  refine MetH.ofW (cc := cL_original) (maxL := 5) (ret := (some .int)) (by decide) rfl ?_
  intro p e s m args below meth c s₁ Bd hml ⟨xe, htab, hh1, hh2, hh3, hh4⟩ hv
  obtain ⟨rfl, hsz, hG, hP, hK, hD0⟩ := hv
  subst hsz
  have hx := Bd.exec
  have hb := Bd.bytes
  have hr := Bd.returns
  have hts := atoms_spec (ws := wsL_original) Bd.pre
  have hw : ∀ w ∈ BIG, w.before _ s = true := fun w h => hts w (List.mem_cons_of_mem _ h)
  have hown : s.vm.findClass RL = some m.cls := findClass_of_methodNamed Bd.named
  have hlocks := Bd.notSynchronized
  have hD := hD0.self (sz := s.heap.size)
  obtain ⟨A, hAe⟩ : ∃ A, A = va_A [(x0, .inr (3, [.ref h0, .ref t0, .ref r0])), (h0, .inr (0, [.int (nI ty), .ref h1, .ref h2])), (h1, .inl (cI, 16, .inl (aN cnt))), (h2, .inl (cB, 208, .inl (aN mk)))] s.heap.size := ⟨_, rfl⟩
  have hA : ∀ q : Nat, s.heap.size ≤ q → A q := fun q h => by rw [hAe]; exact Or.inr h
  rw [← hAe] at hG hD
  have hS : va_S A s.heap s.heap [] := va_S.rf
  have hl := lv_entry ([.ref x0, .int (nI a1), .int (nI a2), .int (nI a3)]) (n := 5) (Nat.le_of_ble_eq_true rfl)
  rw [lg_entry_eq]
  generalize (lg_sl ([.ref x0, .int (nI a1), .int (nI a2), .int (nI a3)]) ++ List.replicate (5 - (lg_sl ([.ref x0, .int (nI a1), .int (nI a2), .int (nI a3)])).length) Slot.unset).toArray = ls at hl ⊢
  have hl : lv_has ls 5 [(0, .ref x0), (1, .int (nI a1)), (2, .int (nI a2)), (3, .int (nI a3))] := hl
  refine zq_name (fun Q hQ => ?_)
  change W p l e rm_h_original_ok s m _ below meth c _ _ _ _ Q _
  refine lv_aload_n hx hb dL_original_0 rfl (lv_at hl 0 rfl) ?_
  refine lv_iload_n hx hb dL_original_1 rfl (lv_at hl 1 rfl) ?_
  refine lv_iload_n hx hb dL_original_2 rfl (lv_at hl 2 rfl) ?_
  refine lv_iload_n hx hb dL_original_3 rfl (lv_at hl 3 rfl) ?_
  have hPc := hP.sub (ws' := [(x0, .inr (3, [.ref h0, .ref t0, .ref r0])), (h0, .inr (0, [.int (nI ty), .ref h1, .ref h2])), (h1, .inl (cI, 16, .inl (aN cnt))), (h2, .inl (cB, 208, .inl (aN mk)))]) [0, 1, 2, 3] rfl
  have hDc := hD.sub (ws' := [(x0, .inr (3, [.ref h0, .ref t0, .ref r0])), (h0, .inr (0, [.int (nI ty), .ref h1, .ref h2])), (h1, .inl (cI, 16, .inl (aN cnt))), (h2, .inl (cB, 208, .inl (aN mk)))]) [0, 1, 2, 3] (by decide) rfl
  have hFc := va_free (wc := [(x0, .inr (3, [.ref h0, .ref t0, .ref r0])), (h0, .inr (0, [.int (nI ty), .ref h1, .ref h2])), (h1, .inl (cI, 16, .inl (aN cnt))), (h2, .inl (cB, 208, .inl (aN mk)))]) hD hS hA [0, 1, 2, 3] rfl
  refine zc_Mv (va_runV (As := [.int (nI a1), .int (nI a2), .int (nI a3)]) (rest := []) ⟨hx, hb, hml, hown, hw⟩ (c_original_ok l dC dI x0 h0 h1 h2 cI cB ty cnt mk t0 r0 a1 a2 a3 ha1 ha2 ha3 s.heap.size) (cwV 3 hw (gV w_ml_L_23 w_im_C_original w_se_C_original w_in_C w_co_C_original) rfl rfl rfl (by decide +kernel) ⟨Nat.le_of_ble_eq_true rfl, Nat.le_of_ble_eq_true rfl⟩) (zM_V hG hS hFc hPc hDc (hK.sub (tys' := [(cI, .int), (cB, .byte)]) [0, 1] rfl) 0 rfl rfl) rfl rfl hl.1 rfl (lv_room (Nat.le_of_ble_eq_true rfl)) dL_original_4 ⟨Nat.le_of_ble_eq_true rfl, Nat.le_of_ble_eq_true rfl⟩) hS hFc (fun H locs h_4 hP1 hD1 hk1 hS => ?_)
  obtain ⟨hP, hD⟩ := va_join (wr := []) (w1 := [(x0, .inr (3, [.ref h0, .ref t0, .ref r0])), (h0, .inr (0, [.int (nI ty), .ref h1, .ref h2])), (h1, .inl (cI, 16, .inl (aN (nup cnt 14 (fMM 14))))), (h2, .inl (cB, 208, .inl (aN (ds (ds (ds (ds (ds mk (fFM 14 + 0) 4 a1) (fFM 14 + 4) 6 a2) (fFM 14 + 10) 10 0) (fFM 14 + 20) 11 a3) (fFM 14 + 31) 11 0))))]) hP hD [0, 1, 2, 3] [] rfl rfl (by decide) (by decide) hk1 hFc hP1 hD1
  have hP : va_P (dC, dI) vwCl [(x0, .inr (3, [.ref h0, .ref t0, .ref r0])), (h0, .inr (0, [.int (nI ty), .ref h1, .ref h2])), (h1, .inl (cI, 16, .inl (aN (nup cnt 14 (fMM 14))))), (h2, .inl (cB, 208, .inl (aN (ds (ds (ds (ds (ds mk (fFM 14 + 0) 4 a1) (fFM 14 + 4) 6 a2) (fFM 14 + 10) 10 0) (fFM 14 + 20) 11 a3) (fFM 14 + 31) 11 0))))] H := hP
  have hD : va_D A [(x0, .inr (3, [.ref h0, .ref t0, .ref r0])), (h0, .inr (0, [.int (nI ty), .ref h1, .ref h2])), (h1, .inl (cI, 16, .inl (aN (nup cnt 14 (fMM 14))))), (h2, .inl (cB, 208, .inl (aN (ds (ds (ds (ds (ds mk (fFM 14 + 0) 4 a1) (fFM 14 + 4) 6 a2) (fFM 14 + 10) 10 0) (fFM 14 + 20) 11 a3) (fFM 14 + 31) 11 0))))] := hD
  refine lv_goto (tgt := 14) hx hb dL_original_7 (by decide) ?_
  refine lv_iconst (v := nI 0) hx hb dL_original_14 (by decide) ?_
  subst hAe
  subst hQ
  exact W.iret (v := nI 0) hx hb hr (fun t ht hW => ⟨⟨nI 0, (), rfl, rfl, by rw [ht]; exact hP.sub [0, 1, 2, 3] rfl, hD.sub [0, 1, 2, 3] (by decide) rfl⟩, hS.F ht⟩) hS.2.2 dL_original_15
def rm_h_original_no : Room := ({ frames := 7, cells := 1, slots := 6, locals := 114 } : Room)
set_option maxHeartbeats 4000000 in
set_option maxRecDepth 100000 in
theorem h_original_no (l : Launch) (dC : Nat → ClassId) (dI : Nat → Nat → Nat) (x0 : Nat) (h0 : Nat) (t0 : Nat) (r0 : Nat) (cI : ClassId) (cB : ClassId) (x1 : Int32) (x2 : Int32) (x3 : Int32) (lo : Nat) (cL : ClassId) (fo : Nat → Int64) (hx9 : x1 < 0 ∨ nI 9999 < x1 ∨ x2 < 0 ∨ nI 999999 < x2 ∨ x3 < 0 ∨ nI 99999 < x3) (hfl : l.flags = pinnedFlags ++ [noTraceFlag]) (sz : Nat) : Met l yL_original wsL_original rm_h_original_no (zM (dC, dI) [(cI, .int), (cB, .byte), (cL, .long)] [.ref x0, .int x1, .int x2, .int x3] [(x0, .inr (3, [.ref h0, .ref t0, .ref r0]))] sz) (zMi (dC, dI) [(x0, .inr (3, [.ref h0, .ref t0, .ref r0]))] [(x0, .inr (3, [.ref h0, .ref t0, .ref r0]))] sz (fun r => r = nI 1)) 1 6 (va_A [(x0, .inr (3, [.ref h0, .ref t0, .ref r0]))] sz) := by
  refine MetH.ofW (cc := cL_original) (maxL := 5) (ret := (some .int)) (by decide) rfl ?_
  intro p e s m args below meth c s₁ Bd hml ⟨xe, htab, hh1, hh2, hh3, hh4⟩ hv
  obtain ⟨rfl, hsz, hG, hP, hK, hD0⟩ := hv
  subst hsz
  have hx := Bd.exec
  have hb := Bd.bytes
  have hr := Bd.returns
  have hts := atoms_spec (ws := wsL_original) Bd.pre
  have hw : ∀ w ∈ BIG, w.before _ s = true := fun w h => hts w (List.mem_cons_of_mem _ h)
  have hown : s.vm.findClass RL = some m.cls := findClass_of_methodNamed Bd.named
  have hlocks := Bd.notSynchronized
  have hD := hD0.self (sz := s.heap.size)
  obtain ⟨A, hAe⟩ : ∃ A, A = va_A [(x0, .inr (3, [.ref h0, .ref t0, .ref r0]))] s.heap.size := ⟨_, rfl⟩
  have hA : ∀ q : Nat, s.heap.size ≤ q → A q := fun q h => by rw [hAe]; exact Or.inr h
  rw [← hAe] at hG hD
  have hS : va_S A s.heap s.heap [] := va_S.rf
  have hl := lv_entry ([.ref x0, .int x1, .int x2, .int x3]) (n := 5) (Nat.le_of_ble_eq_true rfl)
  rw [lg_entry_eq]
  generalize (lg_sl ([.ref x0, .int x1, .int x2, .int x3]) ++ List.replicate (5 - (lg_sl ([.ref x0, .int x1, .int x2, .int x3])).length) Slot.unset).toArray = ls at hl ⊢
  have hl : lv_has ls 5 [(0, .ref x0), (1, .int x1), (2, .int x2), (3, .int x3)] := hl
  refine zq_name (fun Q hQ => ?_)
  change W p l e rm_h_original_no s m _ below meth c _ _ _ _ Q _
  refine lv_aload_n hx hb dL_original_0 rfl (lv_at hl 0 rfl) ?_
  refine lv_iload_n hx hb dL_original_1 rfl (lv_at hl 1 rfl) ?_
  refine lv_iload_n hx hb dL_original_2 rfl (lv_at hl 2 rfl) ?_
  refine lv_iload_n hx hb dL_original_3 rfl (lv_at hl 3 rfl) ?_
  refine zx_runV (As := [.int x1, .int x2, .int x3]) (rest := []) ⟨hx, hb, hml, hown, hw⟩ (x_original l dC dI x0 h0 t0 r0 cI cB x1 x2 x3 hx9 hfl s.heap) (cwV 3 hw (gV w_ml_L_23 w_im_C_original w_se_C_original w_in_C w_co_C_original) rfl rfl rfl (by decide +kernel) ⟨Nat.le_of_ble_eq_true rfl, Nat.le_of_ble_eq_true rfl⟩) (zT_V hG hA hS (hP.sub (ws' := [(x0, .inr (3, [.ref h0, .ref t0, .ref r0]))]) [0] rfl) (hK.sub (tys' := [(cI, .int), (cB, .byte)]) [0, 1] rfl) 0 rfl rfl) rfl rfl hl.1 rfl (lv_room (Nat.le_of_ble_eq_true rfl)) dL_original_4 ⟨Nat.le_of_ble_eq_true rfl, Nat.le_of_ble_eq_true rfl⟩ (fun xa9 ce H9 hz9 hk9 hx1 hx2 hx3 => ?_)
  refine zx_catch hown htab (by rw [hh1, hh2]; exact ⟨Nat.le_of_ble_eq_true rfl, Nat.le_of_ble_eq_true rfl⟩) (by rw [hh4]; decide) (by rw [hh4]; exact hw _ w_cl_L_13) hx1 hx2 hx3 rfl ?_
  refine W.eq (g2 := F0 m 10 ls [.ref xa9]) (by rw [hh3]) ?_
  have hP := hP.kept (H1 := H9) (fun k q h9 => hk9 _ ((hP k q h9).lt))
  have hS := zx_S hS hz9 hk9
  have hP : va_P (dC, dI) vwCl [(x0, .inr (3, [.ref h0, .ref t0, .ref r0]))] H9 := hP
  have hD : va_D A [(x0, .inr (3, [.ref h0, .ref t0, .ref r0]))] := hD
  refine lv_astore (lv' := [(4, .ref xa9), (0, .ref x0), (1, .int x1), (2, .int x2), (3, .int x3)]) hx hb dL_original_10 hl (by decide) rfl (fun ls hl => ?_)
  refine lv_iconst (v := nI 1) hx hb dL_original_12 (by decide) ?_
  subst hAe
  subst hQ
  exact W.iret (v := nI 1) hx hb hr (fun t ht hW => ⟨⟨nI 1, (), rfl, rfl, by rw [ht]; exact hP.sub [0] rfl, hD.sub [0] (by decide) rfl⟩, hS.F ht⟩) hS.2.2 dL_original_13
def rm_h_omit_ok : Room := ({ frames := 8, cells := 0, slots := 0, locals := 135 } : Room)
set_option maxHeartbeats 4000000 in
set_option maxRecDepth 100000 in
theorem h_omit_ok (l : Launch) (dC : Nat → ClassId) (dI : Nat → Nat → Nat) (x0 : Nat) (h0 : Nat) (h1 : Nat) (h2 : Nat) (cI : ClassId) (cB : ClassId) (ty : Nat) (cnt : Nat → Nat) (mk : Nat → Nat) (t0 : Nat) (r0 : Nat) (k : Nat) (lo : Nat) (cL : ClassId) (fo : Nat → Int64) (hk : k < 16) (hc : ∀ j, j < 16 → cnt j < 2 ^ 31) (sz : Nat) : Met l yL_omit wsL_omit rm_h_omit_ok (zM (dC, dI) [(cI, .int), (cB, .byte), (cL, .long)] [.ref x0, .int (nI (fFI k)), .ref lo] [(x0, .inr (3, [.ref h0, .ref t0, .ref r0])), (h0, .inr (0, [.int (nI ty), .ref h1, .ref h2])), (h1, .inl (cI, 16, .inl (aN cnt))), (h2, .inl (cB, 208, .inl (aN mk))), (lo, .inl (cL, 1, .inr (.inl fo)))] sz) (zMi (dC, dI) [(x0, .inr (3, [.ref h0, .ref t0, .ref r0])), (h0, .inr (0, [.int (nI ty), .ref h1, .ref h2])), (h1, .inl (cI, 16, .inl (aN cnt))), (h2, .inl (cB, 208, .inl (aN mk))), (lo, .inl (cL, 1, .inr (.inl fo)))] [(x0, .inr (3, [.ref h0, .ref t0, .ref r0])), (h0, .inr (0, [.int (nI ty), .ref h1, .ref h2])), (h1, .inl (cI, 16, .inl (aN (nup cnt k 0)))), (h2, .inl (cB, 208, .inl (aN mk))), (lo, .inl (cL, 1, .inr (.inl (vp_updL fo 0 (lN (hz (cnt k)))))))] sz (fun r => r = nI 0)) 0 0 (va_A [(x0, .inr (3, [.ref h0, .ref t0, .ref r0])), (h0, .inr (0, [.int (nI ty), .ref h1, .ref h2])), (h1, .inl (cI, 16, .inl (aN cnt))), (h2, .inl (cB, 208, .inl (aN mk))), (lo, .inl (cL, 1, .inr (.inl fo)))] sz) := by
  refine MetH.ofW (cc := cL_omit) (maxL := 4) (ret := (some .int)) (by decide) rfl ?_
  intro p e s m args below meth c s₁ Bd hml ⟨xe, htab, hh1, hh2, hh3, hh4⟩ hv
  obtain ⟨rfl, hsz, hG, hP, hK, hD0⟩ := hv
  subst hsz
  have hx := Bd.exec
  have hb := Bd.bytes
  have hr := Bd.returns
  have hts := atoms_spec (ws := wsL_omit) Bd.pre
  have hw : ∀ w ∈ BIG, w.before _ s = true := fun w h => hts w (List.mem_cons_of_mem _ h)
  have hown : s.vm.findClass RL = some m.cls := findClass_of_methodNamed Bd.named
  have hlocks := Bd.notSynchronized
  have hD := hD0.self (sz := s.heap.size)
  obtain ⟨A, hAe⟩ : ∃ A, A = va_A [(x0, .inr (3, [.ref h0, .ref t0, .ref r0])), (h0, .inr (0, [.int (nI ty), .ref h1, .ref h2])), (h1, .inl (cI, 16, .inl (aN cnt))), (h2, .inl (cB, 208, .inl (aN mk))), (lo, .inl (cL, 1, .inr (.inl fo)))] s.heap.size := ⟨_, rfl⟩
  have hA : ∀ q : Nat, s.heap.size ≤ q → A q := fun q h => by rw [hAe]; exact Or.inr h
  rw [← hAe] at hG hD
  have hS : va_S A s.heap s.heap [] := va_S.rf
  have hl := lv_entry ([.ref x0, .int (nI (fFI k)), .ref lo]) (n := 4) (Nat.le_of_ble_eq_true rfl)
  rw [lg_entry_eq]
  generalize (lg_sl ([.ref x0, .int (nI (fFI k)), .ref lo]) ++ List.replicate (4 - (lg_sl ([.ref x0, .int (nI (fFI k)), .ref lo])).length) Slot.unset).toArray = ls at hl ⊢
  have hl : lv_has ls 4 [(0, .ref x0), (1, .int (nI (fFI k))), (2, .ref lo)] := hl
  refine zq_name (fun Q hQ => ?_)
  change W p l e rm_h_omit_ok s m _ below meth c _ _ _ _ Q _
  refine lv_aload_n hx hb dL_omit_0 rfl (lv_at hl 2 rfl) ?_
  refine lv_iconst (v := nI 0) hx hb dL_omit_1 (by decide) ?_
  refine lv_aload_n hx hb dL_omit_2 rfl (lv_at hl 0 rfl) ?_
  refine lv_iload_n hx hb dL_omit_3 rfl (lv_at hl 1 rfl) ?_
  have hPc := hP.sub (ws' := [(x0, .inr (3, [.ref h0, .ref t0, .ref r0])), (h0, .inr (0, [.int (nI ty), .ref h1, .ref h2])), (h1, .inl (cI, 16, .inl (aN cnt))), (h2, .inl (cB, 208, .inl (aN mk)))]) [0, 1, 2, 3] rfl
  have hDc := hD.sub (ws' := [(x0, .inr (3, [.ref h0, .ref t0, .ref r0])), (h0, .inr (0, [.int (nI ty), .ref h1, .ref h2])), (h1, .inl (cI, 16, .inl (aN cnt))), (h2, .inl (cB, 208, .inl (aN mk)))]) [0, 1, 2, 3] (by decide) rfl
  have hFc := va_free (wc := [(x0, .inr (3, [.ref h0, .ref t0, .ref r0])), (h0, .inr (0, [.int (nI ty), .ref h1, .ref h2])), (h1, .inl (cI, 16, .inl (aN cnt))), (h2, .inl (cB, 208, .inl (aN mk)))]) hD hS hA [0, 1, 2, 3] rfl
  refine zc_Mi (va_runV (As := [.int (nI (fFI k))]) (rest := [.int (nI 0), .ref lo]) ⟨hx, hb, hml, hown, hw⟩ (c_omit_ok l dC dI x0 h0 h1 h2 cI cB ty cnt mk t0 r0 k hk hc s.heap.size) (cwV 1 hw (gV w_ml_L_27 w_im_C_omit w_se_C_omit w_in_C w_co_C_omit) rfl rfl rfl (by decide +kernel) ⟨Nat.le_of_ble_eq_true rfl, Nat.le_of_ble_eq_true rfl⟩) (zM_V hG hS hFc hPc hDc (hK.sub (tys' := [(cI, .int), (cB, .byte)]) [0, 1] rfl) 0 rfl rfl) rfl rfl hl.1 rfl (lv_room (Nat.le_of_ble_eq_true rfl)) dL_omit_4 ⟨Nat.le_of_ble_eq_true rfl, Nat.le_of_ble_eq_true rfl⟩) hS hFc (fun r_1 H locs h_4 hP1 hD1 hk1 hS => ?_)
  obtain ⟨hP, hD⟩ := va_join (wr := [(lo, .inl (cL, 1, .inr (.inl fo)))]) (w1 := [(x0, .inr (3, [.ref h0, .ref t0, .ref r0])), (h0, .inr (0, [.int (nI ty), .ref h1, .ref h2])), (h1, .inl (cI, 16, .inl (aN (nup cnt k 0)))), (h2, .inl (cB, 208, .inl (aN mk)))]) hP hD [0, 1, 2, 3] [4] rfl rfl (by decide) (by decide) hk1 hFc hP1 hD1
  have hP : va_P (dC, dI) vwCl [(lo, .inl (cL, 1, .inr (.inl fo))), (x0, .inr (3, [.ref h0, .ref t0, .ref r0])), (h0, .inr (0, [.int (nI ty), .ref h1, .ref h2])), (h1, .inl (cI, 16, .inl (aN (nup cnt k 0)))), (h2, .inl (cB, 208, .inl (aN mk)))] H := hP
  have hD : va_D A [(lo, .inl (cL, 1, .inr (.inl fo))), (x0, .inr (3, [.ref h0, .ref t0, .ref r0])), (h0, .inr (0, [.int (nI ty), .ref h1, .ref h2])), (h1, .inl (cI, 16, .inl (aN (nup cnt k 0)))), (h2, .inl (cB, 208, .inl (aN mk)))] := hD
  subst h_4
  refine zi_eq0 (tgt := 14) hx hb (hz_lt _) dL_omit_7 (by decide) (fun c_7 => ?_) (fun c_7 => ?_)
  · refine lv_lconst (v := lN 0) hx hb dL_omit_14 (by decide) ?_
    refine zl_v (b := lN (hz (cnt k))) (by rw [hz_0.mpr (hz_0.mp c_7)]) ?_
    refine va_last hx hb hK hP hD hS 0 2 rfl rfl (vp_in_nI (by decide) (by decide)) dL_omit_15 (fun H locs hP hD hS => ?_)
    have hP : va_P (dC, dI) vwCl [(lo, .inl (cL, 1, .inr (.inl (vp_updL fo 0 (lN (hz (cnt k))))))), (x0, .inr (3, [.ref h0, .ref t0, .ref r0])), (h0, .inr (0, [.int (nI ty), .ref h1, .ref h2])), (h1, .inl (cI, 16, .inl (aN (nup cnt k 0)))), (h2, .inl (cB, 208, .inl (aN mk)))] H := hP
    have hD : va_D A [(lo, .inl (cL, 1, .inr (.inl (vp_updL fo 0 (lN (hz (cnt k))))))), (x0, .inr (3, [.ref h0, .ref t0, .ref r0])), (h0, .inr (0, [.int (nI ty), .ref h1, .ref h2])), (h1, .inl (cI, 16, .inl (aN (nup cnt k 0)))), (h2, .inl (cB, 208, .inl (aN mk)))] := hD
    refine lv_goto (tgt := 22) hx hb dL_omit_16 (by decide) ?_
    refine lv_iconst (v := nI 0) hx hb dL_omit_22 (by decide) ?_
    subst hAe
    subst hQ
    exact W.iret (v := nI 0) hx hb hr (fun t ht hW => ⟨⟨nI 0, (), rfl, rfl, by rw [ht]; exact hP.sub [1, 2, 3, 4, 0] rfl, hD.sub [1, 2, 3, 4, 0] (by decide) rfl⟩, hS.F ht⟩) hS.2.2 dL_omit_23
  · refine lv_lconst (v := lN 1) hx hb dL_omit_10 (by decide) ?_
    refine lv_goto (tgt := 15) hx hb dL_omit_11 (by decide) ?_
    refine zl_v (b := lN (hz (cnt k))) (by rw [show hz (cnt k) = 1 by have := hz_le (cnt k); omega]) ?_
    refine va_last hx hb hK hP hD hS 0 2 rfl rfl (vp_in_nI (by decide) (by decide)) dL_omit_15 (fun H locs hP hD hS => ?_)
    have hP : va_P (dC, dI) vwCl [(lo, .inl (cL, 1, .inr (.inl (vp_updL fo 0 (lN (hz (cnt k))))))), (x0, .inr (3, [.ref h0, .ref t0, .ref r0])), (h0, .inr (0, [.int (nI ty), .ref h1, .ref h2])), (h1, .inl (cI, 16, .inl (aN (nup cnt k 0)))), (h2, .inl (cB, 208, .inl (aN mk)))] H := hP
    have hD : va_D A [(lo, .inl (cL, 1, .inr (.inl (vp_updL fo 0 (lN (hz (cnt k))))))), (x0, .inr (3, [.ref h0, .ref t0, .ref r0])), (h0, .inr (0, [.int (nI ty), .ref h1, .ref h2])), (h1, .inl (cI, 16, .inl (aN (nup cnt k 0)))), (h2, .inl (cB, 208, .inl (aN mk)))] := hD
    refine lv_goto (tgt := 22) hx hb dL_omit_16 (by decide) ?_
    refine lv_iconst (v := nI 0) hx hb dL_omit_22 (by decide) ?_
    subst hAe
    subst hQ
    exact W.iret (v := nI 0) hx hb hr (fun t ht hW => ⟨⟨nI 0, (), rfl, rfl, by rw [ht]; exact hP.sub [1, 2, 3, 4, 0] rfl, hD.sub [1, 2, 3, 4, 0] (by decide) rfl⟩, hS.F ht⟩) hS.2.2 dL_omit_23
def rm_h_omit_no : Room := ({ frames := 8, cells := 1, slots := 6, locals := 135 } : Room)
set_option maxHeartbeats 4000000 in
set_option maxRecDepth 100000 in
theorem h_omit_no (l : Launch) (dC : Nat → ClassId) (dI : Nat → Nat → Nat) (x0 : Nat) (h0 : Nat) (t0 : Nat) (r0 : Nat) (cI : ClassId) (cB : ClassId) (x9 : Int32) (lo : Nat) (cL : ClassId) (fo : Nat → Int64) (hx9 : ∀ j, j < 16 → nI (fFI j) ≠ x9) (hfl : l.flags = pinnedFlags ++ [noTraceFlag]) (sz : Nat) : Met l yL_omit wsL_omit rm_h_omit_no (zM (dC, dI) [(cI, .int), (cB, .byte), (cL, .long)] [.ref x0, .int x9, .ref lo] [(x0, .inr (3, [.ref h0, .ref t0, .ref r0]))] sz) (zMi (dC, dI) [(x0, .inr (3, [.ref h0, .ref t0, .ref r0]))] [(x0, .inr (3, [.ref h0, .ref t0, .ref r0]))] sz (fun r => r = nI 1)) 1 6 (va_A [(x0, .inr (3, [.ref h0, .ref t0, .ref r0]))] sz) := by
  refine MetH.ofW (cc := cL_omit) (maxL := 4) (ret := (some .int)) (by decide) rfl ?_
  intro p e s m args below meth c s₁ Bd hml ⟨xe, htab, hh1, hh2, hh3, hh4⟩ hv
  obtain ⟨rfl, hsz, hG, hP, hK, hD0⟩ := hv
  subst hsz
  have hx := Bd.exec
  have hb := Bd.bytes
  have hr := Bd.returns
  have hts := atoms_spec (ws := wsL_omit) Bd.pre
  have hw : ∀ w ∈ BIG, w.before _ s = true := fun w h => hts w (List.mem_cons_of_mem _ h)
  have hown : s.vm.findClass RL = some m.cls := findClass_of_methodNamed Bd.named
  have hlocks := Bd.notSynchronized
  have hD := hD0.self (sz := s.heap.size)
  obtain ⟨A, hAe⟩ : ∃ A, A = va_A [(x0, .inr (3, [.ref h0, .ref t0, .ref r0]))] s.heap.size := ⟨_, rfl⟩
  have hA : ∀ q : Nat, s.heap.size ≤ q → A q := fun q h => by rw [hAe]; exact Or.inr h
  rw [← hAe] at hG hD
  have hS : va_S A s.heap s.heap [] := va_S.rf
  have hl := lv_entry ([.ref x0, .int x9, .ref lo]) (n := 4) (Nat.le_of_ble_eq_true rfl)
  rw [lg_entry_eq]
  generalize (lg_sl ([.ref x0, .int x9, .ref lo]) ++ List.replicate (4 - (lg_sl ([.ref x0, .int x9, .ref lo])).length) Slot.unset).toArray = ls at hl ⊢
  have hl : lv_has ls 4 [(0, .ref x0), (1, .int x9), (2, .ref lo)] := hl
  refine zq_name (fun Q hQ => ?_)
  change W p l e rm_h_omit_no s m _ below meth c _ _ _ _ Q _
  refine lv_aload_n hx hb dL_omit_0 rfl (lv_at hl 2 rfl) ?_
  refine lv_iconst (v := nI 0) hx hb dL_omit_1 (by decide) ?_
  refine lv_aload_n hx hb dL_omit_2 rfl (lv_at hl 0 rfl) ?_
  refine lv_iload_n hx hb dL_omit_3 rfl (lv_at hl 1 rfl) ?_
  refine zx_runV (As := [.int x9]) (rest := [.int (nI 0), .ref lo]) ⟨hx, hb, hml, hown, hw⟩ (x_omit l dC dI x0 h0 t0 r0 cI cB x9 hx9 hfl s.heap) (cwV 1 hw (gV w_ml_L_27 w_im_C_omit w_se_C_omit w_in_C w_co_C_omit) rfl rfl rfl (by decide +kernel) ⟨Nat.le_of_ble_eq_true rfl, Nat.le_of_ble_eq_true rfl⟩) (zT_V hG hA hS (hP.sub (ws' := [(x0, .inr (3, [.ref h0, .ref t0, .ref r0]))]) [0] rfl) (hK.sub (tys' := [(cI, .int), (cB, .byte)]) [0, 1] rfl) 0 rfl rfl) rfl rfl hl.1 rfl (lv_room (Nat.le_of_ble_eq_true rfl)) dL_omit_4 ⟨Nat.le_of_ble_eq_true rfl, Nat.le_of_ble_eq_true rfl⟩ (fun xa9 ce H9 hz9 hk9 hx1 hx2 hx3 => ?_)
  refine zx_catch hown htab (by rw [hh1, hh2]; exact ⟨Nat.le_of_ble_eq_true rfl, Nat.le_of_ble_eq_true rfl⟩) (by rw [hh4]; decide) (by rw [hh4]; exact hw _ w_cl_L_13) hx1 hx2 hx3 rfl ?_
  refine W.eq (g2 := F0 m 19 ls [.ref xa9]) (by rw [hh3]) ?_
  have hP := hP.kept (H1 := H9) (fun k q h9 => hk9 _ ((hP k q h9).lt))
  have hS := zx_S hS hz9 hk9
  have hP : va_P (dC, dI) vwCl [(x0, .inr (3, [.ref h0, .ref t0, .ref r0]))] H9 := hP
  have hD : va_D A [(x0, .inr (3, [.ref h0, .ref t0, .ref r0]))] := hD
  refine lv_astore_n (lv' := [(3, .ref xa9), (0, .ref x0), (1, .int x9), (2, .ref lo)]) hx hb dL_omit_19 rfl hl (by decide) rfl (fun ls hl => ?_)
  refine lv_iconst (v := nI 1) hx hb dL_omit_20 (by decide) ?_
  subst hAe
  subst hQ
  exact W.iret (v := nI 1) hx hb hr (fun t ht hW => ⟨⟨nI 1, (), rfl, rfl, by rw [ht]; exact hP.sub [0] rfl, hD.sub [0] (by decide) rfl⟩, hS.F ht⟩) hS.2.2 dL_omit_21
def rm_h_size_ok : Room := ({ frames := 8, cells := 0, slots := 0, locals := 134 } : Room)
set_option maxHeartbeats 4000000 in
set_option maxRecDepth 100000 in
theorem h_size_ok (l : Launch) (dC : Nat → ClassId) (dI : Nat → Nat → Nat) (x0 : Nat) (h0 : Nat) (h1 : Nat) (h2 : Nat) (cI : ClassId) (cB : ClassId) (ty : Nat) (cnt : Nat → Nat) (mk : Nat → Nat) (t0 : Nat) (r0 : Nat) (k : Nat) (lo : Nat) (cL : ClassId) (fo : Nat → Int64) (hk : k < 16) (hc : ∀ j, j < 16 → cnt j < 2 ^ 31) (sz : Nat) : Met l yL_size wsL_size rm_h_size_ok (zM (dC, dI) [(cI, .int), (cB, .byte), (cL, .long)] [.ref x0, .int (nI (fFI k)), .ref lo] [(x0, .inr (3, [.ref h0, .ref t0, .ref r0])), (h0, .inr (0, [.int (nI ty), .ref h1, .ref h2])), (h1, .inl (cI, 16, .inl (aN cnt))), (lo, .inl (cL, 1, .inr (.inl fo)))] sz) (zMi (dC, dI) [(x0, .inr (3, [.ref h0, .ref t0, .ref r0])), (h0, .inr (0, [.int (nI ty), .ref h1, .ref h2])), (h1, .inl (cI, 16, .inl (aN cnt))), (lo, .inl (cL, 1, .inr (.inl fo)))] [(x0, .inr (3, [.ref h0, .ref t0, .ref r0])), (h0, .inr (0, [.int (nI ty), .ref h1, .ref h2])), (h1, .inl (cI, 16, .inl (aN cnt))), (lo, .inl (cL, 1, .inr (.inl (vp_updL fo 0 ((szr (cnt k)).toInt64)))))] sz (fun r => r = nI 0)) 0 0 (va_A [(x0, .inr (3, [.ref h0, .ref t0, .ref r0])), (h0, .inr (0, [.int (nI ty), .ref h1, .ref h2])), (h1, .inl (cI, 16, .inl (aN cnt))), (lo, .inl (cL, 1, .inr (.inl fo)))] sz) := by
  refine MetH.ofW (cc := cL_size) (maxL := 4) (ret := (some .int)) (by decide) rfl ?_
  intro p e s m args below meth c s₁ Bd hml ⟨xe, htab, hh1, hh2, hh3, hh4⟩ hv
  obtain ⟨rfl, hsz, hG, hP, hK, hD0⟩ := hv
  subst hsz
  have hx := Bd.exec
  have hb := Bd.bytes
  have hr := Bd.returns
  have hts := atoms_spec (ws := wsL_size) Bd.pre
  have hw : ∀ w ∈ BIG, w.before _ s = true := fun w h => hts w (List.mem_cons_of_mem _ h)
  have hown : s.vm.findClass RL = some m.cls := findClass_of_methodNamed Bd.named
  have hlocks := Bd.notSynchronized
  have hD := hD0.self (sz := s.heap.size)
  obtain ⟨A, hAe⟩ : ∃ A, A = va_A [(x0, .inr (3, [.ref h0, .ref t0, .ref r0])), (h0, .inr (0, [.int (nI ty), .ref h1, .ref h2])), (h1, .inl (cI, 16, .inl (aN cnt))), (lo, .inl (cL, 1, .inr (.inl fo)))] s.heap.size := ⟨_, rfl⟩
  have hA : ∀ q : Nat, s.heap.size ≤ q → A q := fun q h => by rw [hAe]; exact Or.inr h
  rw [← hAe] at hG hD
  have hS : va_S A s.heap s.heap [] := va_S.rf
  have hl := lv_entry ([.ref x0, .int (nI (fFI k)), .ref lo]) (n := 4) (Nat.le_of_ble_eq_true rfl)
  rw [lg_entry_eq]
  generalize (lg_sl ([.ref x0, .int (nI (fFI k)), .ref lo]) ++ List.replicate (4 - (lg_sl ([.ref x0, .int (nI (fFI k)), .ref lo])).length) Slot.unset).toArray = ls at hl ⊢
  have hl : lv_has ls 4 [(0, .ref x0), (1, .int (nI (fFI k))), (2, .ref lo)] := hl
  refine zq_name (fun Q hQ => ?_)
  change W p l e rm_h_size_ok s m _ below meth c _ _ _ _ Q _
  refine lv_aload_n hx hb dL_size_0 rfl (lv_at hl 2 rfl) ?_
  refine lv_iconst (v := nI 0) hx hb dL_size_1 (by decide) ?_
  refine lv_aload_n hx hb dL_size_2 rfl (lv_at hl 0 rfl) ?_
  refine lv_iload_n hx hb dL_size_3 rfl (lv_at hl 1 rfl) ?_
  refine zc_Ri (va_runV (As := [.int (nI (fFI k))]) (rest := [.int (nI 0), .ref lo]) ⟨hx, hb, hml, hown, hw⟩ (c_size_ok l dC dI x0 h0 h1 h2 cI cB ty cnt mk t0 r0 k hk hc s.heap) (cwV 1 hw (gV w_ml_L_31 w_im_C_size w_se_C_size w_in_C w_co_C_size) rfl rfl rfl (by decide +kernel) ⟨Nat.le_of_ble_eq_true rfl, Nat.le_of_ble_eq_true rfl⟩) (zR_V hG hS (hP.sub (ws' := [(x0, .inr (3, [.ref h0, .ref t0, .ref r0])), (h0, .inr (0, [.int (nI ty), .ref h1, .ref h2])), (h1, .inl (cI, 16, .inl (aN cnt)))]) [0, 1, 2] rfl) (hK.sub (tys' := [(cI, .int), (cB, .byte)]) [0, 1] rfl) 0 rfl rfl) rfl rfl hl.1 rfl (lv_room (Nat.le_of_ble_eq_true rfl)) dL_size_4 ⟨Nat.le_of_ble_eq_true rfl, Nat.le_of_ble_eq_true rfl⟩) hS (fun r_1 locs h_4 hS => ?_)
  subst h_4
  refine lv_i2l hx hb dL_size_7 rfl ?_
  refine va_last hx hb hK hP hD hS 3 2 rfl rfl (vp_in_nI (by decide) (by decide)) dL_size_8 (fun H locs hP hD hS => ?_)
  have hP : va_P (dC, dI) vwCl [(x0, .inr (3, [.ref h0, .ref t0, .ref r0])), (h0, .inr (0, [.int (nI ty), .ref h1, .ref h2])), (h1, .inl (cI, 16, .inl (aN cnt))), (lo, .inl (cL, 1, .inr (.inl (vp_updL fo 0 ((szr (cnt k)).toInt64)))))] H := hP
  have hD : va_D A [(x0, .inr (3, [.ref h0, .ref t0, .ref r0])), (h0, .inr (0, [.int (nI ty), .ref h1, .ref h2])), (h1, .inl (cI, 16, .inl (aN cnt))), (lo, .inl (cL, 1, .inr (.inl (vp_updL fo 0 ((szr (cnt k)).toInt64)))))] := hD
  refine lv_goto (tgt := 15) hx hb dL_size_9 (by decide) ?_
  refine lv_iconst (v := nI 0) hx hb dL_size_15 (by decide) ?_
  subst hAe
  subst hQ
  exact W.iret (v := nI 0) hx hb hr (fun t ht hW => ⟨⟨nI 0, (), rfl, rfl, by rw [ht]; exact hP.sub [0, 1, 2, 3] rfl, hD.sub [0, 1, 2, 3] (by decide) rfl⟩, hS.F ht⟩) hS.2.2 dL_size_16
def rm_h_size_no : Room := ({ frames := 8, cells := 1, slots := 6, locals := 134 } : Room)
set_option maxHeartbeats 4000000 in
set_option maxRecDepth 100000 in
theorem h_size_no (l : Launch) (dC : Nat → ClassId) (dI : Nat → Nat → Nat) (x0 : Nat) (h0 : Nat) (t0 : Nat) (r0 : Nat) (cI : ClassId) (cB : ClassId) (x9 : Int32) (lo : Nat) (cL : ClassId) (fo : Nat → Int64) (hx9 : ∀ j, j < 16 → nI (fFI j) ≠ x9) (hfl : l.flags = pinnedFlags ++ [noTraceFlag]) (sz : Nat) : Met l yL_size wsL_size rm_h_size_no (zM (dC, dI) [(cI, .int), (cB, .byte), (cL, .long)] [.ref x0, .int x9, .ref lo] [(x0, .inr (3, [.ref h0, .ref t0, .ref r0]))] sz) (zMi (dC, dI) [(x0, .inr (3, [.ref h0, .ref t0, .ref r0]))] [(x0, .inr (3, [.ref h0, .ref t0, .ref r0]))] sz (fun r => r = nI 1)) 1 6 (va_A [(x0, .inr (3, [.ref h0, .ref t0, .ref r0]))] sz) := by
  refine MetH.ofW (cc := cL_size) (maxL := 4) (ret := (some .int)) (by decide) rfl ?_
  intro p e s m args below meth c s₁ Bd hml ⟨xe, htab, hh1, hh2, hh3, hh4⟩ hv
  obtain ⟨rfl, hsz, hG, hP, hK, hD0⟩ := hv
  subst hsz
  have hx := Bd.exec
  have hb := Bd.bytes
  have hr := Bd.returns
  have hts := atoms_spec (ws := wsL_size) Bd.pre
  have hw : ∀ w ∈ BIG, w.before _ s = true := fun w h => hts w (List.mem_cons_of_mem _ h)
  have hown : s.vm.findClass RL = some m.cls := findClass_of_methodNamed Bd.named
  have hlocks := Bd.notSynchronized
  have hD := hD0.self (sz := s.heap.size)
  obtain ⟨A, hAe⟩ : ∃ A, A = va_A [(x0, .inr (3, [.ref h0, .ref t0, .ref r0]))] s.heap.size := ⟨_, rfl⟩
  have hA : ∀ q : Nat, s.heap.size ≤ q → A q := fun q h => by rw [hAe]; exact Or.inr h
  rw [← hAe] at hG hD
  have hS : va_S A s.heap s.heap [] := va_S.rf
  have hl := lv_entry ([.ref x0, .int x9, .ref lo]) (n := 4) (Nat.le_of_ble_eq_true rfl)
  rw [lg_entry_eq]
  generalize (lg_sl ([.ref x0, .int x9, .ref lo]) ++ List.replicate (4 - (lg_sl ([.ref x0, .int x9, .ref lo])).length) Slot.unset).toArray = ls at hl ⊢
  have hl : lv_has ls 4 [(0, .ref x0), (1, .int x9), (2, .ref lo)] := hl
  refine zq_name (fun Q hQ => ?_)
  change W p l e rm_h_size_no s m _ below meth c _ _ _ _ Q _
  refine lv_aload_n hx hb dL_size_0 rfl (lv_at hl 2 rfl) ?_
  refine lv_iconst (v := nI 0) hx hb dL_size_1 (by decide) ?_
  refine lv_aload_n hx hb dL_size_2 rfl (lv_at hl 0 rfl) ?_
  refine lv_iload_n hx hb dL_size_3 rfl (lv_at hl 1 rfl) ?_
  refine zx_runV (As := [.int x9]) (rest := [.int (nI 0), .ref lo]) ⟨hx, hb, hml, hown, hw⟩ (x_size l dC dI x0 h0 t0 r0 cI cB x9 hx9 hfl s.heap) (cwV 1 hw (gV w_ml_L_31 w_im_C_size w_se_C_size w_in_C w_co_C_size) rfl rfl rfl (by decide +kernel) ⟨Nat.le_of_ble_eq_true rfl, Nat.le_of_ble_eq_true rfl⟩) (zT_V hG hA hS (hP.sub (ws' := [(x0, .inr (3, [.ref h0, .ref t0, .ref r0]))]) [0] rfl) (hK.sub (tys' := [(cI, .int), (cB, .byte)]) [0, 1] rfl) 0 rfl rfl) rfl rfl hl.1 rfl (lv_room (Nat.le_of_ble_eq_true rfl)) dL_size_4 ⟨Nat.le_of_ble_eq_true rfl, Nat.le_of_ble_eq_true rfl⟩ (fun xa9 ce H9 hz9 hk9 hx1 hx2 hx3 => ?_)
  refine zx_catch hown htab (by rw [hh1, hh2]; exact ⟨Nat.le_of_ble_eq_true rfl, Nat.le_of_ble_eq_true rfl⟩) (by rw [hh4]; decide) (by rw [hh4]; exact hw _ w_cl_L_13) hx1 hx2 hx3 rfl ?_
  refine W.eq (g2 := F0 m 12 ls [.ref xa9]) (by rw [hh3]) ?_
  have hP := hP.kept (H1 := H9) (fun k q h9 => hk9 _ ((hP k q h9).lt))
  have hS := zx_S hS hz9 hk9
  have hP : va_P (dC, dI) vwCl [(x0, .inr (3, [.ref h0, .ref t0, .ref r0]))] H9 := hP
  have hD : va_D A [(x0, .inr (3, [.ref h0, .ref t0, .ref r0]))] := hD
  refine lv_astore_n (lv' := [(3, .ref xa9), (0, .ref x0), (1, .int x9), (2, .ref lo)]) hx hb dL_size_12 rfl hl (by decide) rfl (fun ls hl => ?_)
  refine lv_iconst (v := nI 1) hx hb dL_size_13 (by decide) ?_
  subst hAe
  subst hQ
  exact W.iret (v := nI 1) hx hb hr (fun t ht hW => ⟨⟨nI 1, (), rfl, rfl, by rw [ht]; exact hP.sub [0] rfl, hD.sub [0] (by decide) rfl⟩, hS.F ht⟩) hS.2.2 dL_size_14
def rm_h_at_ok : Room := ({ frames := 8, cells := 0, slots := 0, locals := 135 } : Room)
set_option maxHeartbeats 4000000 in
set_option maxRecDepth 100000 in
theorem h_at_ok (l : Launch) (dC : Nat → ClassId) (dI : Nat → Nat → Nat) (x0 : Nat) (h0 : Nat) (h1 : Nat) (h2 : Nat) (cI : ClassId) (cB : ClassId) (ty : Nat) (cnt : Nat → Nat) (mk : Nat → Nat) (t0 : Nat) (r0 : Nat) (k : Nat) (j : Nat) (lo : Nat) (cL : ClassId) (fo : Nat → Int64) (hk : k < 16) (hj : j < cnt k) (hck : cnt k ≤ fMM k) (hm : ∀ j, mk j < 128) (sz : Nat) : Met l yL_at wsL_at rm_h_at_ok (zM (dC, dI) [(cI, .int), (cB, .byte), (cL, .long)] [.ref x0, .int (nI (fFI k)), .int (nI j), .ref lo] [(x0, .inr (3, [.ref h0, .ref t0, .ref r0])), (h0, .inr (0, [.int (nI ty), .ref h1, .ref h2])), (h1, .inl (cI, 16, .inl (aN cnt))), (h2, .inl (cB, 208, .inl (aN mk))), (lo, .inl (cL, 1, .inr (.inl fo)))] sz) (zMi (dC, dI) [(x0, .inr (3, [.ref h0, .ref t0, .ref r0])), (h0, .inr (0, [.int (nI ty), .ref h1, .ref h2])), (h1, .inl (cI, 16, .inl (aN cnt))), (h2, .inl (cB, 208, .inl (aN mk))), (lo, .inl (cL, 1, .inr (.inl fo)))] [(x0, .inr (3, [.ref h0, .ref t0, .ref r0])), (h0, .inr (0, [.int (nI ty), .ref h1, .ref h2])), (h1, .inl (cI, 16, .inl (aN cnt))), (h2, .inl (cB, 208, .inl (aN mk))), (lo, .inl (cL, 1, .inr (.inl (vp_updL fo 0 (lN (mk (fFM k + j)))))))] sz (fun r => r = nI 0)) 0 0 (va_A [(x0, .inr (3, [.ref h0, .ref t0, .ref r0])), (h0, .inr (0, [.int (nI ty), .ref h1, .ref h2])), (h1, .inl (cI, 16, .inl (aN cnt))), (h2, .inl (cB, 208, .inl (aN mk))), (lo, .inl (cL, 1, .inr (.inl fo)))] sz) := by
  refine MetH.ofW (cc := cL_at) (maxL := 5) (ret := (some .int)) (by decide) rfl ?_
  intro p e s m args below meth c s₁ Bd hml ⟨xe, htab, hh1, hh2, hh3, hh4⟩ hv
  obtain ⟨rfl, hsz, hG, hP, hK, hD0⟩ := hv
  subst hsz
  have hx := Bd.exec
  have hb := Bd.bytes
  have hr := Bd.returns
  have hts := atoms_spec (ws := wsL_at) Bd.pre
  have hw : ∀ w ∈ BIG, w.before _ s = true := fun w h => hts w (List.mem_cons_of_mem _ h)
  have hown : s.vm.findClass RL = some m.cls := findClass_of_methodNamed Bd.named
  have hlocks := Bd.notSynchronized
  have hD := hD0.self (sz := s.heap.size)
  obtain ⟨A, hAe⟩ : ∃ A, A = va_A [(x0, .inr (3, [.ref h0, .ref t0, .ref r0])), (h0, .inr (0, [.int (nI ty), .ref h1, .ref h2])), (h1, .inl (cI, 16, .inl (aN cnt))), (h2, .inl (cB, 208, .inl (aN mk))), (lo, .inl (cL, 1, .inr (.inl fo)))] s.heap.size := ⟨_, rfl⟩
  have hA : ∀ q : Nat, s.heap.size ≤ q → A q := fun q h => by rw [hAe]; exact Or.inr h
  rw [← hAe] at hG hD
  have hS : va_S A s.heap s.heap [] := va_S.rf
  have hl := lv_entry ([.ref x0, .int (nI (fFI k)), .int (nI j), .ref lo]) (n := 5) (Nat.le_of_ble_eq_true rfl)
  rw [lg_entry_eq]
  generalize (lg_sl ([.ref x0, .int (nI (fFI k)), .int (nI j), .ref lo]) ++ List.replicate (5 - (lg_sl ([.ref x0, .int (nI (fFI k)), .int (nI j), .ref lo])).length) Slot.unset).toArray = ls at hl ⊢
  have hl : lv_has ls 5 [(0, .ref x0), (1, .int (nI (fFI k))), (2, .int (nI j)), (3, .ref lo)] := hl
  refine zq_name (fun Q hQ => ?_)
  change W p l e rm_h_at_ok s m _ below meth c _ _ _ _ Q _
  refine lv_aload_n hx hb dL_at_0 rfl (lv_at hl 3 rfl) ?_
  refine lv_iconst (v := nI 0) hx hb dL_at_1 (by decide) ?_
  refine lv_aload_n hx hb dL_at_2 rfl (lv_at hl 0 rfl) ?_
  refine lv_iload_n hx hb dL_at_3 rfl (lv_at hl 1 rfl) ?_
  refine lv_iload_n hx hb dL_at_4 rfl (lv_at hl 2 rfl) ?_
  refine zc_Ri (va_runV (As := [.int (nI (fFI k)), .int (nI j)]) (rest := [.int (nI 0), .ref lo]) ⟨hx, hb, hml, hown, hw⟩ (c_at_ok l dC dI x0 h0 h1 h2 cI cB ty cnt mk t0 r0 k j hk hj hck s.heap) (cwV 2 hw (gV w_ml_L_35 w_im_C_at w_se_C_at w_in_C w_co_C_at) rfl rfl rfl (by decide +kernel) ⟨Nat.le_of_ble_eq_true rfl, Nat.le_of_ble_eq_true rfl⟩) (zR_V hG hS (hP.sub (ws' := [(x0, .inr (3, [.ref h0, .ref t0, .ref r0])), (h0, .inr (0, [.int (nI ty), .ref h1, .ref h2])), (h1, .inl (cI, 16, .inl (aN cnt))), (h2, .inl (cB, 208, .inl (aN mk)))]) [0, 1, 2, 3] rfl) (hK.sub (tys' := [(cI, .int), (cB, .byte)]) [0, 1] rfl) 0 rfl rfl) rfl rfl hl.1 rfl (lv_room (Nat.le_of_ble_eq_true rfl)) dL_at_5 ⟨Nat.le_of_ble_eq_true rfl, Nat.le_of_ble_eq_true rfl⟩) hS (fun r_1 locs h_5 hS => ?_)
  subst h_5
  refine zi_l hx hb (by have := hm (fFM k + j); omega) dL_at_8 ?_
  refine va_last hx hb hK hP hD hS 4 2 rfl rfl (vp_in_nI (by decide) (by decide)) dL_at_9 (fun H locs hP hD hS => ?_)
  have hP : va_P (dC, dI) vwCl [(x0, .inr (3, [.ref h0, .ref t0, .ref r0])), (h0, .inr (0, [.int (nI ty), .ref h1, .ref h2])), (h1, .inl (cI, 16, .inl (aN cnt))), (h2, .inl (cB, 208, .inl (aN mk))), (lo, .inl (cL, 1, .inr (.inl (vp_updL fo 0 (lN (mk (fFM k + j)))))))] H := hP
  have hD : va_D A [(x0, .inr (3, [.ref h0, .ref t0, .ref r0])), (h0, .inr (0, [.int (nI ty), .ref h1, .ref h2])), (h1, .inl (cI, 16, .inl (aN cnt))), (h2, .inl (cB, 208, .inl (aN mk))), (lo, .inl (cL, 1, .inr (.inl (vp_updL fo 0 (lN (mk (fFM k + j)))))))] := hD
  refine lv_goto (tgt := 17) hx hb dL_at_10 (by decide) ?_
  refine lv_iconst (v := nI 0) hx hb dL_at_17 (by decide) ?_
  subst hAe
  subst hQ
  exact W.iret (v := nI 0) hx hb hr (fun t ht hW => ⟨⟨nI 0, (), rfl, rfl, by rw [ht]; exact hP.sub [0, 1, 2, 3, 4] rfl, hD.sub [0, 1, 2, 3, 4] (by decide) rfl⟩, hS.F ht⟩) hS.2.2 dL_at_18
def rm_h_at_no1 : Room := ({ frames := 8, cells := 1, slots := 6, locals := 135 } : Room)
set_option maxHeartbeats 4000000 in
set_option maxRecDepth 100000 in
theorem h_at_no1 (l : Launch) (dC : Nat → ClassId) (dI : Nat → Nat → Nat) (x0 : Nat) (h0 : Nat) (t0 : Nat) (r0 : Nat) (cI : ClassId) (cB : ClassId) (x9 : Int32) (y9 : Int32) (lo : Nat) (cL : ClassId) (fo : Nat → Int64) (hx9 : ∀ j, j < 16 → nI (fFI j) ≠ x9) (hfl : l.flags = pinnedFlags ++ [noTraceFlag]) (sz : Nat) : Met l yL_at wsL_at rm_h_at_no1 (zM (dC, dI) [(cI, .int), (cB, .byte), (cL, .long)] [.ref x0, .int x9, .int y9, .ref lo] [(x0, .inr (3, [.ref h0, .ref t0, .ref r0]))] sz) (zMi (dC, dI) [(x0, .inr (3, [.ref h0, .ref t0, .ref r0]))] [(x0, .inr (3, [.ref h0, .ref t0, .ref r0]))] sz (fun r => r = nI 1)) 1 6 (va_A [(x0, .inr (3, [.ref h0, .ref t0, .ref r0]))] sz) := by
  refine MetH.ofW (cc := cL_at) (maxL := 5) (ret := (some .int)) (by decide) rfl ?_
  intro p e s m args below meth c s₁ Bd hml ⟨xe, htab, hh1, hh2, hh3, hh4⟩ hv
  obtain ⟨rfl, hsz, hG, hP, hK, hD0⟩ := hv
  subst hsz
  have hx := Bd.exec
  have hb := Bd.bytes
  have hr := Bd.returns
  have hts := atoms_spec (ws := wsL_at) Bd.pre
  have hw : ∀ w ∈ BIG, w.before _ s = true := fun w h => hts w (List.mem_cons_of_mem _ h)
  have hown : s.vm.findClass RL = some m.cls := findClass_of_methodNamed Bd.named
  have hlocks := Bd.notSynchronized
  have hD := hD0.self (sz := s.heap.size)
  obtain ⟨A, hAe⟩ : ∃ A, A = va_A [(x0, .inr (3, [.ref h0, .ref t0, .ref r0]))] s.heap.size := ⟨_, rfl⟩
  have hA : ∀ q : Nat, s.heap.size ≤ q → A q := fun q h => by rw [hAe]; exact Or.inr h
  rw [← hAe] at hG hD
  have hS : va_S A s.heap s.heap [] := va_S.rf
  have hl := lv_entry ([.ref x0, .int x9, .int y9, .ref lo]) (n := 5) (Nat.le_of_ble_eq_true rfl)
  rw [lg_entry_eq]
  generalize (lg_sl ([.ref x0, .int x9, .int y9, .ref lo]) ++ List.replicate (5 - (lg_sl ([.ref x0, .int x9, .int y9, .ref lo])).length) Slot.unset).toArray = ls at hl ⊢
  have hl : lv_has ls 5 [(0, .ref x0), (1, .int x9), (2, .int y9), (3, .ref lo)] := hl
  refine zq_name (fun Q hQ => ?_)
  change W p l e rm_h_at_no1 s m _ below meth c _ _ _ _ Q _
  refine lv_aload_n hx hb dL_at_0 rfl (lv_at hl 3 rfl) ?_
  refine lv_iconst (v := nI 0) hx hb dL_at_1 (by decide) ?_
  refine lv_aload_n hx hb dL_at_2 rfl (lv_at hl 0 rfl) ?_
  refine lv_iload_n hx hb dL_at_3 rfl (lv_at hl 1 rfl) ?_
  refine lv_iload_n hx hb dL_at_4 rfl (lv_at hl 2 rfl) ?_
  refine zx_runV (As := [.int x9, .int y9]) (rest := [.int (nI 0), .ref lo]) ⟨hx, hb, hml, hown, hw⟩ (x_at_1 l dC dI x0 h0 t0 r0 cI cB x9 y9 hx9 hfl s.heap) (cwV 2 hw (gV w_ml_L_35 w_im_C_at w_se_C_at w_in_C w_co_C_at) rfl rfl rfl (by decide +kernel) ⟨Nat.le_of_ble_eq_true rfl, Nat.le_of_ble_eq_true rfl⟩) (zT_V hG hA hS (hP.sub (ws' := [(x0, .inr (3, [.ref h0, .ref t0, .ref r0]))]) [0] rfl) (hK.sub (tys' := [(cI, .int), (cB, .byte)]) [0, 1] rfl) 0 rfl rfl) rfl rfl hl.1 rfl (lv_room (Nat.le_of_ble_eq_true rfl)) dL_at_5 ⟨Nat.le_of_ble_eq_true rfl, Nat.le_of_ble_eq_true rfl⟩ (fun xa9 ce H9 hz9 hk9 hx1 hx2 hx3 => ?_)
  refine zx_catch hown htab (by rw [hh1, hh2]; exact ⟨Nat.le_of_ble_eq_true rfl, Nat.le_of_ble_eq_true rfl⟩) (by rw [hh4]; decide) (by rw [hh4]; exact hw _ w_cl_L_13) hx1 hx2 hx3 rfl ?_
  refine W.eq (g2 := F0 m 13 ls [.ref xa9]) (by rw [hh3]) ?_
  have hP := hP.kept (H1 := H9) (fun k q h9 => hk9 _ ((hP k q h9).lt))
  have hS := zx_S hS hz9 hk9
  have hP : va_P (dC, dI) vwCl [(x0, .inr (3, [.ref h0, .ref t0, .ref r0]))] H9 := hP
  have hD : va_D A [(x0, .inr (3, [.ref h0, .ref t0, .ref r0]))] := hD
  refine lv_astore (lv' := [(4, .ref xa9), (0, .ref x0), (1, .int x9), (2, .int y9), (3, .ref lo)]) hx hb dL_at_13 hl (by decide) rfl (fun ls hl => ?_)
  refine lv_iconst (v := nI 1) hx hb dL_at_15 (by decide) ?_
  subst hAe
  subst hQ
  exact W.iret (v := nI 1) hx hb hr (fun t ht hW => ⟨⟨nI 1, (), rfl, rfl, by rw [ht]; exact hP.sub [0] rfl, hD.sub [0] (by decide) rfl⟩, hS.F ht⟩) hS.2.2 dL_at_16
def rm_h_at_no2 : Room := ({ frames := 8, cells := 1, slots := 6, locals := 135 } : Room)
set_option maxHeartbeats 4000000 in
set_option maxRecDepth 100000 in
theorem h_at_no2 (l : Launch) (dC : Nat → ClassId) (dI : Nat → Nat → Nat) (x0 : Nat) (h0 : Nat) (h1 : Nat) (h2 : Nat) (cI : ClassId) (cB : ClassId) (ty : Nat) (cnt : Nat → Nat) (mk : Nat → Nat) (t0 : Nat) (r0 : Nat) (k : Nat) (y9 : Int32) (lo : Nat) (cL : ClassId) (fo : Nat → Int64) (hk : k < 16) (hy : y9 < 0 ∨ nI (cnt k) ≤ y9) (hfl : l.flags = pinnedFlags ++ [noTraceFlag]) (sz : Nat) : Met l yL_at wsL_at rm_h_at_no2 (zM (dC, dI) [(cI, .int), (cB, .byte), (cL, .long)] [.ref x0, .int (nI (fFI k)), .int y9, .ref lo] [(x0, .inr (3, [.ref h0, .ref t0, .ref r0])), (h0, .inr (0, [.int (nI ty), .ref h1, .ref h2])), (h1, .inl (cI, 16, .inl (aN cnt))), (h2, .inl (cB, 208, .inl (aN mk)))] sz) (zMi (dC, dI) [(x0, .inr (3, [.ref h0, .ref t0, .ref r0])), (h0, .inr (0, [.int (nI ty), .ref h1, .ref h2])), (h1, .inl (cI, 16, .inl (aN cnt))), (h2, .inl (cB, 208, .inl (aN mk)))] [(x0, .inr (3, [.ref h0, .ref t0, .ref r0])), (h0, .inr (0, [.int (nI ty), .ref h1, .ref h2])), (h1, .inl (cI, 16, .inl (aN cnt))), (h2, .inl (cB, 208, .inl (aN mk)))] sz (fun r => r = nI 1)) 1 6 (va_A [(x0, .inr (3, [.ref h0, .ref t0, .ref r0])), (h0, .inr (0, [.int (nI ty), .ref h1, .ref h2])), (h1, .inl (cI, 16, .inl (aN cnt))), (h2, .inl (cB, 208, .inl (aN mk)))] sz) := by
  refine MetH.ofW (cc := cL_at) (maxL := 5) (ret := (some .int)) (by decide) rfl ?_
  intro p e s m args below meth c s₁ Bd hml ⟨xe, htab, hh1, hh2, hh3, hh4⟩ hv
  obtain ⟨rfl, hsz, hG, hP, hK, hD0⟩ := hv
  subst hsz
  have hx := Bd.exec
  have hb := Bd.bytes
  have hr := Bd.returns
  have hts := atoms_spec (ws := wsL_at) Bd.pre
  have hw : ∀ w ∈ BIG, w.before _ s = true := fun w h => hts w (List.mem_cons_of_mem _ h)
  have hown : s.vm.findClass RL = some m.cls := findClass_of_methodNamed Bd.named
  have hlocks := Bd.notSynchronized
  have hD := hD0.self (sz := s.heap.size)
  obtain ⟨A, hAe⟩ : ∃ A, A = va_A [(x0, .inr (3, [.ref h0, .ref t0, .ref r0])), (h0, .inr (0, [.int (nI ty), .ref h1, .ref h2])), (h1, .inl (cI, 16, .inl (aN cnt))), (h2, .inl (cB, 208, .inl (aN mk)))] s.heap.size := ⟨_, rfl⟩
  have hA : ∀ q : Nat, s.heap.size ≤ q → A q := fun q h => by rw [hAe]; exact Or.inr h
  rw [← hAe] at hG hD
  have hS : va_S A s.heap s.heap [] := va_S.rf
  have hl := lv_entry ([.ref x0, .int (nI (fFI k)), .int y9, .ref lo]) (n := 5) (Nat.le_of_ble_eq_true rfl)
  rw [lg_entry_eq]
  generalize (lg_sl ([.ref x0, .int (nI (fFI k)), .int y9, .ref lo]) ++ List.replicate (5 - (lg_sl ([.ref x0, .int (nI (fFI k)), .int y9, .ref lo])).length) Slot.unset).toArray = ls at hl ⊢
  have hl : lv_has ls 5 [(0, .ref x0), (1, .int (nI (fFI k))), (2, .int y9), (3, .ref lo)] := hl
  refine zq_name (fun Q hQ => ?_)
  change W p l e rm_h_at_no2 s m _ below meth c _ _ _ _ Q _
  refine lv_aload_n hx hb dL_at_0 rfl (lv_at hl 3 rfl) ?_
  refine lv_iconst (v := nI 0) hx hb dL_at_1 (by decide) ?_
  refine lv_aload_n hx hb dL_at_2 rfl (lv_at hl 0 rfl) ?_
  refine lv_iload_n hx hb dL_at_3 rfl (lv_at hl 1 rfl) ?_
  refine lv_iload_n hx hb dL_at_4 rfl (lv_at hl 2 rfl) ?_
  refine zx_runV (As := [.int (nI (fFI k)), .int y9]) (rest := [.int (nI 0), .ref lo]) ⟨hx, hb, hml, hown, hw⟩ (x_at_2 l dC dI x0 h0 h1 h2 cI cB ty cnt mk t0 r0 k y9 hk hy hfl s.heap) (cwV 2 hw (gV w_ml_L_35 w_im_C_at w_se_C_at w_in_C w_co_C_at) rfl rfl rfl (by decide +kernel) ⟨Nat.le_of_ble_eq_true rfl, Nat.le_of_ble_eq_true rfl⟩) (zT_V hG hA hS (hP.sub (ws' := [(x0, .inr (3, [.ref h0, .ref t0, .ref r0])), (h0, .inr (0, [.int (nI ty), .ref h1, .ref h2])), (h1, .inl (cI, 16, .inl (aN cnt))), (h2, .inl (cB, 208, .inl (aN mk)))]) [0, 1, 2, 3] rfl) (hK.sub (tys' := [(cI, .int), (cB, .byte)]) [0, 1] rfl) 0 rfl rfl) rfl rfl hl.1 rfl (lv_room (Nat.le_of_ble_eq_true rfl)) dL_at_5 ⟨Nat.le_of_ble_eq_true rfl, Nat.le_of_ble_eq_true rfl⟩ (fun xa9 ce H9 hz9 hk9 hx1 hx2 hx3 => ?_)
  refine zx_catch hown htab (by rw [hh1, hh2]; exact ⟨Nat.le_of_ble_eq_true rfl, Nat.le_of_ble_eq_true rfl⟩) (by rw [hh4]; decide) (by rw [hh4]; exact hw _ w_cl_L_13) hx1 hx2 hx3 rfl ?_
  refine W.eq (g2 := F0 m 13 ls [.ref xa9]) (by rw [hh3]) ?_
  have hP := hP.kept (H1 := H9) (fun k q h9 => hk9 _ ((hP k q h9).lt))
  have hS := zx_S hS hz9 hk9
  have hP : va_P (dC, dI) vwCl [(x0, .inr (3, [.ref h0, .ref t0, .ref r0])), (h0, .inr (0, [.int (nI ty), .ref h1, .ref h2])), (h1, .inl (cI, 16, .inl (aN cnt))), (h2, .inl (cB, 208, .inl (aN mk)))] H9 := hP
  have hD : va_D A [(x0, .inr (3, [.ref h0, .ref t0, .ref r0])), (h0, .inr (0, [.int (nI ty), .ref h1, .ref h2])), (h1, .inl (cI, 16, .inl (aN cnt))), (h2, .inl (cB, 208, .inl (aN mk)))] := hD
  refine lv_astore (lv' := [(4, .ref xa9), (0, .ref x0), (1, .int (nI (fFI k))), (2, .int y9), (3, .ref lo)]) hx hb dL_at_13 hl (by decide) rfl (fun ls hl => ?_)
  refine lv_iconst (v := nI 1) hx hb dL_at_15 (by decide) ?_
  subst hAe
  subst hQ
  exact W.iret (v := nI 1) hx hb hr (fun t ht hW => ⟨⟨nI 1, (), rfl, rfl, by rw [ht]; exact hP.sub [0, 1, 2, 3] rfl, hD.sub [0, 1, 2, 3] (by decide) rfl⟩, hS.F ht⟩) hS.2.2 dL_at_16
def rm_h_number_ok : Room := ({ frames := 9, cells := 0, slots := 0, locals := 155 } : Room)
set_option maxHeartbeats 4000000 in
set_option maxRecDepth 100000 in
theorem h_number_ok (l : Launch) (dC : Nat → ClassId) (dI : Nat → Nat → Nat) (x0 : Nat) (h0 : Nat) (h1 : Nat) (h2 : Nat) (cI : ClassId) (cB : ClassId) (ty : Nat) (cnt : Nat → Nat) (mk : Nat → Nat) (t0 : Nat) (r0 : Nat) (k : Nat) (lo : Nat) (cL : ClassId) (fo : Nat → Int64) (hk : k < 16) (hh : fHL k = 0) (hck : cnt k ≤ fMM k) (hm : ∀ j, mk j < 128) (sz : Nat) : Met l yL_number wsL_number rm_h_number_ok (zM (dC, dI) [(cI, .int), (cB, .byte), (cL, .long)] [.ref x0, .int (nI (fFI k)), .ref lo] [(x0, .inr (3, [.ref h0, .ref t0, .ref r0])), (h0, .inr (0, [.int (nI ty), .ref h1, .ref h2])), (h1, .inl (cI, 16, .inl (aN cnt))), (h2, .inl (cB, 208, .inl (aN mk))), (lo, .inl (cL, 1, .inr (.inl fo)))] sz) (zMi (dC, dI) [(x0, .inr (3, [.ref h0, .ref t0, .ref r0])), (h0, .inr (0, [.int (nI ty), .ref h1, .ref h2])), (h1, .inl (cI, 16, .inl (aN cnt))), (h2, .inl (cB, 208, .inl (aN mk))), (lo, .inl (cL, 1, .inr (.inl fo)))] [(x0, .inr (3, [.ref h0, .ref t0, .ref r0])), (h0, .inr (0, [.int (nI ty), .ref h1, .ref h2])), (h1, .inl (cI, 16, .inl (aN cnt))), (h2, .inl (cB, 208, .inl (aN mk))), (lo, .inl (cL, 1, .inr (.inl (vp_updL fo 0 (nbr cnt mk k)))))] sz (fun r => r = nI 0)) 0 0 (va_A [(x0, .inr (3, [.ref h0, .ref t0, .ref r0])), (h0, .inr (0, [.int (nI ty), .ref h1, .ref h2])), (h1, .inl (cI, 16, .inl (aN cnt))), (h2, .inl (cB, 208, .inl (aN mk))), (lo, .inl (cL, 1, .inr (.inl fo)))] sz) := by
  refine MetH.ofW (cc := cL_number) (maxL := 4) (ret := (some .int)) (by decide) rfl ?_
  intro p e s m args below meth c s₁ Bd hml ⟨xe, htab, hh1, hh2, hh3, hh4⟩ hv
  obtain ⟨rfl, hsz, hG, hP, hK, hD0⟩ := hv
  subst hsz
  have hx := Bd.exec
  have hb := Bd.bytes
  have hr := Bd.returns
  have hts := atoms_spec (ws := wsL_number) Bd.pre
  have hw : ∀ w ∈ BIG, w.before _ s = true := fun w h => hts w (List.mem_cons_of_mem _ h)
  have hown : s.vm.findClass RL = some m.cls := findClass_of_methodNamed Bd.named
  have hlocks := Bd.notSynchronized
  have hD := hD0.self (sz := s.heap.size)
  obtain ⟨A, hAe⟩ : ∃ A, A = va_A [(x0, .inr (3, [.ref h0, .ref t0, .ref r0])), (h0, .inr (0, [.int (nI ty), .ref h1, .ref h2])), (h1, .inl (cI, 16, .inl (aN cnt))), (h2, .inl (cB, 208, .inl (aN mk))), (lo, .inl (cL, 1, .inr (.inl fo)))] s.heap.size := ⟨_, rfl⟩
  have hA : ∀ q : Nat, s.heap.size ≤ q → A q := fun q h => by rw [hAe]; exact Or.inr h
  rw [← hAe] at hG hD
  have hS : va_S A s.heap s.heap [] := va_S.rf
  have hl := lv_entry ([.ref x0, .int (nI (fFI k)), .ref lo]) (n := 4) (Nat.le_of_ble_eq_true rfl)
  rw [lg_entry_eq]
  generalize (lg_sl ([.ref x0, .int (nI (fFI k)), .ref lo]) ++ List.replicate (4 - (lg_sl ([.ref x0, .int (nI (fFI k)), .ref lo])).length) Slot.unset).toArray = ls at hl ⊢
  have hl : lv_has ls 4 [(0, .ref x0), (1, .int (nI (fFI k))), (2, .ref lo)] := hl
  refine zq_name (fun Q hQ => ?_)
  change W p l e rm_h_number_ok s m _ below meth c _ _ _ _ Q _
  refine lv_aload_n hx hb dL_number_0 rfl (lv_at hl 2 rfl) ?_
  refine lv_iconst (v := nI 0) hx hb dL_number_1 (by decide) ?_
  refine lv_aload_n hx hb dL_number_2 rfl (lv_at hl 0 rfl) ?_
  refine lv_iload_n hx hb dL_number_3 rfl (lv_at hl 1 rfl) ?_
  refine zc_Rl (va_runV (As := [.int (nI (fFI k))]) (rest := [.int (nI 0), .ref lo]) ⟨hx, hb, hml, hown, hw⟩ (c_number_ok l dC dI x0 h0 h1 h2 cI cB ty cnt mk t0 r0 k hk hh hck hm s.heap) (cwV 1 hw (gV w_ml_L_39 w_im_C_number w_se_C_number w_in_C w_co_C_number) rfl rfl rfl (by decide +kernel) ⟨Nat.le_of_ble_eq_true rfl, Nat.le_of_ble_eq_true rfl⟩) (zR_V hG hS (hP.sub (ws' := [(x0, .inr (3, [.ref h0, .ref t0, .ref r0])), (h0, .inr (0, [.int (nI ty), .ref h1, .ref h2])), (h1, .inl (cI, 16, .inl (aN cnt))), (h2, .inl (cB, 208, .inl (aN mk)))]) [0, 1, 2, 3] rfl) (hK.sub (tys' := [(cI, .int), (cB, .byte)]) [0, 1] rfl) 0 rfl rfl) rfl rfl hl.1 rfl (lv_room (Nat.le_of_ble_eq_true rfl)) dL_number_4 ⟨Nat.le_of_ble_eq_true rfl, Nat.le_of_ble_eq_true rfl⟩) hS (fun r_1 locs h_4 hS => ?_)
  subst h_4
  refine va_last hx hb hK hP hD hS 4 2 rfl rfl (vp_in_nI (by decide) (by decide)) dL_number_7 (fun H locs hP hD hS => ?_)
  have hP : va_P (dC, dI) vwCl [(x0, .inr (3, [.ref h0, .ref t0, .ref r0])), (h0, .inr (0, [.int (nI ty), .ref h1, .ref h2])), (h1, .inl (cI, 16, .inl (aN cnt))), (h2, .inl (cB, 208, .inl (aN mk))), (lo, .inl (cL, 1, .inr (.inl (vp_updL fo 0 (nbr cnt mk k)))))] H := hP
  have hD : va_D A [(x0, .inr (3, [.ref h0, .ref t0, .ref r0])), (h0, .inr (0, [.int (nI ty), .ref h1, .ref h2])), (h1, .inl (cI, 16, .inl (aN cnt))), (h2, .inl (cB, 208, .inl (aN mk))), (lo, .inl (cL, 1, .inr (.inl (vp_updL fo 0 (nbr cnt mk k)))))] := hD
  refine lv_goto (tgt := 14) hx hb dL_number_8 (by decide) ?_
  refine lv_iconst (v := nI 0) hx hb dL_number_14 (by decide) ?_
  subst hAe
  subst hQ
  exact W.iret (v := nI 0) hx hb hr (fun t ht hW => ⟨⟨nI 0, (), rfl, rfl, by rw [ht]; exact hP.sub [0, 1, 2, 3, 4] rfl, hD.sub [0, 1, 2, 3, 4] (by decide) rfl⟩, hS.F ht⟩) hS.2.2 dL_number_15
def rm_h_number_no1 : Room := ({ frames := 9, cells := 1, slots := 6, locals := 155 } : Room)
set_option maxHeartbeats 4000000 in
set_option maxRecDepth 100000 in
theorem h_number_no1 (l : Launch) (dC : Nat → ClassId) (dI : Nat → Nat → Nat) (x0 : Nat) (h0 : Nat) (t0 : Nat) (r0 : Nat) (cI : ClassId) (cB : ClassId) (x9 : Int32) (lo : Nat) (cL : ClassId) (fo : Nat → Int64) (hx9 : ∀ j, j < 16 → nI (fFI j) ≠ x9) (hfl : l.flags = pinnedFlags ++ [noTraceFlag]) (sz : Nat) : Met l yL_number wsL_number rm_h_number_no1 (zM (dC, dI) [(cI, .int), (cB, .byte), (cL, .long)] [.ref x0, .int x9, .ref lo] [(x0, .inr (3, [.ref h0, .ref t0, .ref r0]))] sz) (zMi (dC, dI) [(x0, .inr (3, [.ref h0, .ref t0, .ref r0]))] [(x0, .inr (3, [.ref h0, .ref t0, .ref r0]))] sz (fun r => r = nI 1)) 1 6 (va_A [(x0, .inr (3, [.ref h0, .ref t0, .ref r0]))] sz) := by
  refine MetH.ofW (cc := cL_number) (maxL := 4) (ret := (some .int)) (by decide) rfl ?_
  intro p e s m args below meth c s₁ Bd hml ⟨xe, htab, hh1, hh2, hh3, hh4⟩ hv
  obtain ⟨rfl, hsz, hG, hP, hK, hD0⟩ := hv
  subst hsz
  have hx := Bd.exec
  have hb := Bd.bytes
  have hr := Bd.returns
  have hts := atoms_spec (ws := wsL_number) Bd.pre
  have hw : ∀ w ∈ BIG, w.before _ s = true := fun w h => hts w (List.mem_cons_of_mem _ h)
  have hown : s.vm.findClass RL = some m.cls := findClass_of_methodNamed Bd.named
  have hlocks := Bd.notSynchronized
  have hD := hD0.self (sz := s.heap.size)
  obtain ⟨A, hAe⟩ : ∃ A, A = va_A [(x0, .inr (3, [.ref h0, .ref t0, .ref r0]))] s.heap.size := ⟨_, rfl⟩
  have hA : ∀ q : Nat, s.heap.size ≤ q → A q := fun q h => by rw [hAe]; exact Or.inr h
  rw [← hAe] at hG hD
  have hS : va_S A s.heap s.heap [] := va_S.rf
  have hl := lv_entry ([.ref x0, .int x9, .ref lo]) (n := 4) (Nat.le_of_ble_eq_true rfl)
  rw [lg_entry_eq]
  generalize (lg_sl ([.ref x0, .int x9, .ref lo]) ++ List.replicate (4 - (lg_sl ([.ref x0, .int x9, .ref lo])).length) Slot.unset).toArray = ls at hl ⊢
  have hl : lv_has ls 4 [(0, .ref x0), (1, .int x9), (2, .ref lo)] := hl
  refine zq_name (fun Q hQ => ?_)
  change W p l e rm_h_number_no1 s m _ below meth c _ _ _ _ Q _
  refine lv_aload_n hx hb dL_number_0 rfl (lv_at hl 2 rfl) ?_
  refine lv_iconst (v := nI 0) hx hb dL_number_1 (by decide) ?_
  refine lv_aload_n hx hb dL_number_2 rfl (lv_at hl 0 rfl) ?_
  refine lv_iload_n hx hb dL_number_3 rfl (lv_at hl 1 rfl) ?_
  refine zx_runV (As := [.int x9]) (rest := [.int (nI 0), .ref lo]) ⟨hx, hb, hml, hown, hw⟩ (x_number_1 l dC dI x0 h0 t0 r0 cI cB x9 hx9 hfl s.heap) (cwV 1 hw (gV w_ml_L_39 w_im_C_number w_se_C_number w_in_C w_co_C_number) rfl rfl rfl (by decide +kernel) ⟨Nat.le_of_ble_eq_true rfl, Nat.le_of_ble_eq_true rfl⟩) (zT_V hG hA hS (hP.sub (ws' := [(x0, .inr (3, [.ref h0, .ref t0, .ref r0]))]) [0] rfl) (hK.sub (tys' := [(cI, .int), (cB, .byte)]) [0, 1] rfl) 0 rfl rfl) rfl rfl hl.1 rfl (lv_room (Nat.le_of_ble_eq_true rfl)) dL_number_4 ⟨Nat.le_of_ble_eq_true rfl, Nat.le_of_ble_eq_true rfl⟩ (fun xa9 ce H9 hz9 hk9 hx1 hx2 hx3 => ?_)
  refine zx_catch hown htab (by rw [hh1, hh2]; exact ⟨Nat.le_of_ble_eq_true rfl, Nat.le_of_ble_eq_true rfl⟩) (by rw [hh4]; decide) (by rw [hh4]; exact hw _ w_cl_L_13) hx1 hx2 hx3 rfl ?_
  refine W.eq (g2 := F0 m 11 ls [.ref xa9]) (by rw [hh3]) ?_
  have hP := hP.kept (H1 := H9) (fun k q h9 => hk9 _ ((hP k q h9).lt))
  have hS := zx_S hS hz9 hk9
  have hP : va_P (dC, dI) vwCl [(x0, .inr (3, [.ref h0, .ref t0, .ref r0]))] H9 := hP
  have hD : va_D A [(x0, .inr (3, [.ref h0, .ref t0, .ref r0]))] := hD
  refine lv_astore_n (lv' := [(3, .ref xa9), (0, .ref x0), (1, .int x9), (2, .ref lo)]) hx hb dL_number_11 rfl hl (by decide) rfl (fun ls hl => ?_)
  refine lv_iconst (v := nI 1) hx hb dL_number_12 (by decide) ?_
  subst hAe
  subst hQ
  exact W.iret (v := nI 1) hx hb hr (fun t ht hW => ⟨⟨nI 1, (), rfl, rfl, by rw [ht]; exact hP.sub [0] rfl, hD.sub [0] (by decide) rfl⟩, hS.F ht⟩) hS.2.2 dL_number_13
def rm_h_number_no2 : Room := ({ frames := 9, cells := 1, slots := 6, locals := 155 } : Room)
set_option maxHeartbeats 4000000 in
set_option maxRecDepth 100000 in
theorem h_number_no2 (l : Launch) (dC : Nat → ClassId) (dI : Nat → Nat → Nat) (x0 : Nat) (h0 : Nat) (t0 : Nat) (r0 : Nat) (cI : ClassId) (cB : ClassId) (k : Nat) (lo : Nat) (cL : ClassId) (fo : Nat → Int64) (hk : k < 16) (hh : fHL k ≠ 0) (hfl : l.flags = pinnedFlags ++ [noTraceFlag]) (sz : Nat) : Met l yL_number wsL_number rm_h_number_no2 (zM (dC, dI) [(cI, .int), (cB, .byte), (cL, .long)] [.ref x0, .int (nI (fFI k)), .ref lo] [(x0, .inr (3, [.ref h0, .ref t0, .ref r0]))] sz) (zMi (dC, dI) [(x0, .inr (3, [.ref h0, .ref t0, .ref r0]))] [(x0, .inr (3, [.ref h0, .ref t0, .ref r0]))] sz (fun r => r = nI 1)) 1 6 (va_A [(x0, .inr (3, [.ref h0, .ref t0, .ref r0]))] sz) := by
  refine MetH.ofW (cc := cL_number) (maxL := 4) (ret := (some .int)) (by decide) rfl ?_
  intro p e s m args below meth c s₁ Bd hml ⟨xe, htab, hh1, hh2, hh3, hh4⟩ hv
  obtain ⟨rfl, hsz, hG, hP, hK, hD0⟩ := hv
  subst hsz
  have hx := Bd.exec
  have hb := Bd.bytes
  have hr := Bd.returns
  have hts := atoms_spec (ws := wsL_number) Bd.pre
  have hw : ∀ w ∈ BIG, w.before _ s = true := fun w h => hts w (List.mem_cons_of_mem _ h)
  have hown : s.vm.findClass RL = some m.cls := findClass_of_methodNamed Bd.named
  have hlocks := Bd.notSynchronized
  have hD := hD0.self (sz := s.heap.size)
  obtain ⟨A, hAe⟩ : ∃ A, A = va_A [(x0, .inr (3, [.ref h0, .ref t0, .ref r0]))] s.heap.size := ⟨_, rfl⟩
  have hA : ∀ q : Nat, s.heap.size ≤ q → A q := fun q h => by rw [hAe]; exact Or.inr h
  rw [← hAe] at hG hD
  have hS : va_S A s.heap s.heap [] := va_S.rf
  have hl := lv_entry ([.ref x0, .int (nI (fFI k)), .ref lo]) (n := 4) (Nat.le_of_ble_eq_true rfl)
  rw [lg_entry_eq]
  generalize (lg_sl ([.ref x0, .int (nI (fFI k)), .ref lo]) ++ List.replicate (4 - (lg_sl ([.ref x0, .int (nI (fFI k)), .ref lo])).length) Slot.unset).toArray = ls at hl ⊢
  have hl : lv_has ls 4 [(0, .ref x0), (1, .int (nI (fFI k))), (2, .ref lo)] := hl
  refine zq_name (fun Q hQ => ?_)
  change W p l e rm_h_number_no2 s m _ below meth c _ _ _ _ Q _
  refine lv_aload_n hx hb dL_number_0 rfl (lv_at hl 2 rfl) ?_
  refine lv_iconst (v := nI 0) hx hb dL_number_1 (by decide) ?_
  refine lv_aload_n hx hb dL_number_2 rfl (lv_at hl 0 rfl) ?_
  refine lv_iload_n hx hb dL_number_3 rfl (lv_at hl 1 rfl) ?_
  refine zx_runV (As := [.int (nI (fFI k))]) (rest := [.int (nI 0), .ref lo]) ⟨hx, hb, hml, hown, hw⟩ (x_number_2 l dC dI x0 h0 t0 r0 cI cB k hk hh hfl s.heap) (cwV 1 hw (gV w_ml_L_39 w_im_C_number w_se_C_number w_in_C w_co_C_number) rfl rfl rfl (by decide +kernel) ⟨Nat.le_of_ble_eq_true rfl, Nat.le_of_ble_eq_true rfl⟩) (zT_V hG hA hS (hP.sub (ws' := [(x0, .inr (3, [.ref h0, .ref t0, .ref r0]))]) [0] rfl) (hK.sub (tys' := [(cI, .int), (cB, .byte)]) [0, 1] rfl) 0 rfl rfl) rfl rfl hl.1 rfl (lv_room (Nat.le_of_ble_eq_true rfl)) dL_number_4 ⟨Nat.le_of_ble_eq_true rfl, Nat.le_of_ble_eq_true rfl⟩ (fun xa9 ce H9 hz9 hk9 hx1 hx2 hx3 => ?_)
  refine zx_catch hown htab (by rw [hh1, hh2]; exact ⟨Nat.le_of_ble_eq_true rfl, Nat.le_of_ble_eq_true rfl⟩) (by rw [hh4]; decide) (by rw [hh4]; exact hw _ w_cl_L_13) hx1 hx2 hx3 rfl ?_
  refine W.eq (g2 := F0 m 11 ls [.ref xa9]) (by rw [hh3]) ?_
  have hP := hP.kept (H1 := H9) (fun k q h9 => hk9 _ ((hP k q h9).lt))
  have hS := zx_S hS hz9 hk9
  have hP : va_P (dC, dI) vwCl [(x0, .inr (3, [.ref h0, .ref t0, .ref r0]))] H9 := hP
  have hD : va_D A [(x0, .inr (3, [.ref h0, .ref t0, .ref r0]))] := hD
  refine lv_astore_n (lv' := [(3, .ref xa9), (0, .ref x0), (1, .int (nI (fFI k))), (2, .ref lo)]) hx hb dL_number_11 rfl hl (by decide) rfl (fun ls hl => ?_)
  refine lv_iconst (v := nI 1) hx hb dL_number_12 (by decide) ?_
  subst hAe
  subst hQ
  exact W.iret (v := nI 1) hx hb hr (fun t ht hW => ⟨⟨nI 1, (), rfl, rfl, by rw [ht]; exact hP.sub [0] rfl, hD.sub [0] (by decide) rfl⟩, hS.F ht⟩) hS.2.2 dL_number_13
def rm_h_feed_ok : Room := ({ frames := 7, cells := 0, slots := 0, locals := 113 } : Room)
set_option maxHeartbeats 4000000 in
set_option maxRecDepth 100000 in
theorem h_feed_ok (l : Launch) (dC : Nat → ClassId) (dI : Nat → Nat → Nat) (x0 : Nat) (cI : ClassId) (cB : ClassId) (t0 : Nat) (t1 : Nat) (len : Nat) (tp : Nat → Nat) (h0 : Nat) (r0 : Nat) (v : Int32) (lo : Nat) (cL : ClassId) (fo : Nat → Int64) (hl9 : len + 4 ≤ 400) (sz : Nat) : Met l yL_feed wsL_feed rm_h_feed_ok (zM (dC, dI) [(cI, .int), (cB, .byte), (cL, .long)] [.ref x0, .int v, .ref lo] [(x0, .inr (3, [.ref h0, .ref t0, .ref r0])), (t0, .inr (2, [.ref t1, .int (nI len)])), (t1, .inl (cB, 400, .inl (aB tp))), (lo, .inl (cL, 1, .inr (.inl fo)))] sz) (zMi (dC, dI) [(x0, .inr (3, [.ref h0, .ref t0, .ref r0])), (t0, .inr (2, [.ref t1, .int (nI len)])), (t1, .inl (cB, 400, .inl (aB tp))), (lo, .inl (cL, 1, .inr (.inl fo)))] [(x0, .inr (3, [.ref h0, .ref t0, .ref r0])), (t0, .inr (2, [.ref t1, .int (nI (len + 4))])), (t1, .inl (cB, 400, .inl (aB (nup (nup (nup (nup tp len (fb v 24)) (len + 1) (fb v 16)) (len + 2) (fb v 8)) (len + 3) (fb v 0))))), (lo, .inl (cL, 1, .inr (.inl (vp_updL fo 0 (lN (len + 4))))))] sz (fun r => r = nI 0)) 0 0 (va_A [(x0, .inr (3, [.ref h0, .ref t0, .ref r0])), (t0, .inr (2, [.ref t1, .int (nI len)])), (t1, .inl (cB, 400, .inl (aB tp))), (lo, .inl (cL, 1, .inr (.inl fo)))] sz) := by
  refine MetH.ofW (cc := cL_feed) (maxL := 4) (ret := (some .int)) (by decide) rfl ?_
  intro p e s m args below meth c s₁ Bd hml ⟨xe, htab, hh1, hh2, hh3, hh4⟩ hv
  obtain ⟨rfl, hsz, hG, hP, hK, hD0⟩ := hv
  subst hsz
  have hx := Bd.exec
  have hb := Bd.bytes
  have hr := Bd.returns
  have hts := atoms_spec (ws := wsL_feed) Bd.pre
  have hw : ∀ w ∈ BIG, w.before _ s = true := fun w h => hts w (List.mem_cons_of_mem _ h)
  have hown : s.vm.findClass RL = some m.cls := findClass_of_methodNamed Bd.named
  have hlocks := Bd.notSynchronized
  have hD := hD0.self (sz := s.heap.size)
  obtain ⟨A, hAe⟩ : ∃ A, A = va_A [(x0, .inr (3, [.ref h0, .ref t0, .ref r0])), (t0, .inr (2, [.ref t1, .int (nI len)])), (t1, .inl (cB, 400, .inl (aB tp))), (lo, .inl (cL, 1, .inr (.inl fo)))] s.heap.size := ⟨_, rfl⟩
  have hA : ∀ q : Nat, s.heap.size ≤ q → A q := fun q h => by rw [hAe]; exact Or.inr h
  rw [← hAe] at hG hD
  have hS : va_S A s.heap s.heap [] := va_S.rf
  have hl := lv_entry ([.ref x0, .int v, .ref lo]) (n := 4) (Nat.le_of_ble_eq_true rfl)
  rw [lg_entry_eq]
  generalize (lg_sl ([.ref x0, .int v, .ref lo]) ++ List.replicate (4 - (lg_sl ([.ref x0, .int v, .ref lo])).length) Slot.unset).toArray = ls at hl ⊢
  have hl : lv_has ls 4 [(0, .ref x0), (1, .int v), (2, .ref lo)] := hl
  refine zq_name (fun Q hQ => ?_)
  change W p l e rm_h_feed_ok s m _ below meth c _ _ _ _ Q _
  refine lv_aload_n hx hb dL_feed_0 rfl (lv_at hl 2 rfl) ?_
  refine lv_iconst (v := nI 0) hx hb dL_feed_1 (by decide) ?_
  refine lv_aload_n hx hb dL_feed_2 rfl (lv_at hl 0 rfl) ?_
  refine lv_iload_n hx hb dL_feed_3 rfl (lv_at hl 1 rfl) ?_
  have hPc := hP.sub (ws' := [(x0, .inr (3, [.ref h0, .ref t0, .ref r0])), (t0, .inr (2, [.ref t1, .int (nI len)])), (t1, .inl (cB, 400, .inl (aB tp)))]) [0, 1, 2] rfl
  have hDc := hD.sub (ws' := [(x0, .inr (3, [.ref h0, .ref t0, .ref r0])), (t0, .inr (2, [.ref t1, .int (nI len)])), (t1, .inl (cB, 400, .inl (aB tp)))]) [0, 1, 2] (by decide) rfl
  have hFc := va_free (wc := [(x0, .inr (3, [.ref h0, .ref t0, .ref r0])), (t0, .inr (2, [.ref t1, .int (nI len)])), (t1, .inl (cB, 400, .inl (aB tp)))]) hD hS hA [0, 1, 2] rfl
  refine zc_Mi (va_runV (As := [.int v]) (rest := [.int (nI 0), .ref lo]) ⟨hx, hb, hml, hown, hw⟩ (c_feed_ok l dC dI x0 cI cB t0 t1 len tp h0 r0 v hl9 s.heap.size) (cwV 1 hw (gV w_ml_L_43 w_im_C_feed w_se_C_feed w_in_C w_co_C_feed) rfl rfl rfl (by decide +kernel) ⟨Nat.le_of_ble_eq_true rfl, Nat.le_of_ble_eq_true rfl⟩) (zM_V hG hS hFc hPc hDc (hK.sub (tys' := [(cI, .int), (cB, .byte)]) [0, 1] rfl) 0 rfl rfl) rfl rfl hl.1 rfl (lv_room (Nat.le_of_ble_eq_true rfl)) dL_feed_4 ⟨Nat.le_of_ble_eq_true rfl, Nat.le_of_ble_eq_true rfl⟩) hS hFc (fun r_1 H locs h_4 hP1 hD1 hk1 hS => ?_)
  obtain ⟨hP, hD⟩ := va_join (wr := [(lo, .inl (cL, 1, .inr (.inl fo)))]) (w1 := [(x0, .inr (3, [.ref h0, .ref t0, .ref r0])), (t0, .inr (2, [.ref t1, .int (nI (len + 4))])), (t1, .inl (cB, 400, .inl (aB (nup (nup (nup (nup tp len (fb v 24)) (len + 1) (fb v 16)) (len + 2) (fb v 8)) (len + 3) (fb v 0)))))]) hP hD [0, 1, 2] [3] rfl rfl (by decide) (by decide) hk1 hFc hP1 hD1
  have hP : va_P (dC, dI) vwCl [(lo, .inl (cL, 1, .inr (.inl fo))), (x0, .inr (3, [.ref h0, .ref t0, .ref r0])), (t0, .inr (2, [.ref t1, .int (nI (len + 4))])), (t1, .inl (cB, 400, .inl (aB (nup (nup (nup (nup tp len (fb v 24)) (len + 1) (fb v 16)) (len + 2) (fb v 8)) (len + 3) (fb v 0)))))] H := hP
  have hD : va_D A [(lo, .inl (cL, 1, .inr (.inl fo))), (x0, .inr (3, [.ref h0, .ref t0, .ref r0])), (t0, .inr (2, [.ref t1, .int (nI (len + 4))])), (t1, .inl (cB, 400, .inl (aB (nup (nup (nup (nup tp len (fb v 24)) (len + 1) (fb v 16)) (len + 2) (fb v 8)) (len + 3) (fb v 0)))))] := hD
  subst h_4
  refine zi_l hx hb (by omega) dL_feed_7 ?_
  refine va_last hx hb hK hP hD hS 0 2 rfl rfl (vp_in_nI (by decide) (by decide)) dL_feed_8 (fun H locs hP hD hS => ?_)
  have hP : va_P (dC, dI) vwCl [(lo, .inl (cL, 1, .inr (.inl (vp_updL fo 0 (lN (len + 4)))))), (x0, .inr (3, [.ref h0, .ref t0, .ref r0])), (t0, .inr (2, [.ref t1, .int (nI (len + 4))])), (t1, .inl (cB, 400, .inl (aB (nup (nup (nup (nup tp len (fb v 24)) (len + 1) (fb v 16)) (len + 2) (fb v 8)) (len + 3) (fb v 0)))))] H := hP
  have hD : va_D A [(lo, .inl (cL, 1, .inr (.inl (vp_updL fo 0 (lN (len + 4)))))), (x0, .inr (3, [.ref h0, .ref t0, .ref r0])), (t0, .inr (2, [.ref t1, .int (nI (len + 4))])), (t1, .inl (cB, 400, .inl (aB (nup (nup (nup (nup tp len (fb v 24)) (len + 1) (fb v 16)) (len + 2) (fb v 8)) (len + 3) (fb v 0)))))] := hD
  refine lv_goto (tgt := 15) hx hb dL_feed_9 (by decide) ?_
  refine lv_iconst (v := nI 0) hx hb dL_feed_15 (by decide) ?_
  subst hAe
  subst hQ
  exact W.iret (v := nI 0) hx hb hr (fun t ht hW => ⟨⟨nI 0, (), rfl, rfl, by rw [ht]; exact hP.sub [1, 2, 3, 0] rfl, hD.sub [1, 2, 3, 0] (by decide) rfl⟩, hS.F ht⟩) hS.2.2 dL_feed_16
def rm_h_feed_no : Room := ({ frames := 7, cells := 1, slots := 6, locals := 113 } : Room)
set_option maxHeartbeats 4000000 in
set_option maxRecDepth 100000 in
theorem h_feed_no (l : Launch) (dC : Nat → ClassId) (dI : Nat → Nat → Nat) (x0 : Nat) (cI : ClassId) (cB : ClassId) (t0 : Nat) (t1 : Nat) (len : Nat) (tp : Nat → Nat) (h0 : Nat) (r0 : Nat) (v : Int32) (lo : Nat) (cL : ClassId) (fo : Nat → Int64) (hl9 : 400 < len + 4) (hln : len ≤ 400) (hfl : l.flags = pinnedFlags ++ [noTraceFlag]) (sz : Nat) : Met l yL_feed wsL_feed rm_h_feed_no (zM (dC, dI) [(cI, .int), (cB, .byte), (cL, .long)] [.ref x0, .int v, .ref lo] [(x0, .inr (3, [.ref h0, .ref t0, .ref r0])), (t0, .inr (2, [.ref t1, .int (nI len)])), (t1, .inl (cB, 400, .inl (aB tp)))] sz) (zMi (dC, dI) [(x0, .inr (3, [.ref h0, .ref t0, .ref r0])), (t0, .inr (2, [.ref t1, .int (nI len)])), (t1, .inl (cB, 400, .inl (aB tp)))] [(x0, .inr (3, [.ref h0, .ref t0, .ref r0])), (t0, .inr (2, [.ref t1, .int (nI len)])), (t1, .inl (cB, 400, .inl (aB tp)))] sz (fun r => r = nI 1)) 1 6 (va_A [(x0, .inr (3, [.ref h0, .ref t0, .ref r0])), (t0, .inr (2, [.ref t1, .int (nI len)])), (t1, .inl (cB, 400, .inl (aB tp)))] sz) := by
  refine MetH.ofW (cc := cL_feed) (maxL := 4) (ret := (some .int)) (by decide) rfl ?_
  intro p e s m args below meth c s₁ Bd hml ⟨xe, htab, hh1, hh2, hh3, hh4⟩ hv
  obtain ⟨rfl, hsz, hG, hP, hK, hD0⟩ := hv
  subst hsz
  have hx := Bd.exec
  have hb := Bd.bytes
  have hr := Bd.returns
  have hts := atoms_spec (ws := wsL_feed) Bd.pre
  have hw : ∀ w ∈ BIG, w.before _ s = true := fun w h => hts w (List.mem_cons_of_mem _ h)
  have hown : s.vm.findClass RL = some m.cls := findClass_of_methodNamed Bd.named
  have hlocks := Bd.notSynchronized
  have hD := hD0.self (sz := s.heap.size)
  obtain ⟨A, hAe⟩ : ∃ A, A = va_A [(x0, .inr (3, [.ref h0, .ref t0, .ref r0])), (t0, .inr (2, [.ref t1, .int (nI len)])), (t1, .inl (cB, 400, .inl (aB tp)))] s.heap.size := ⟨_, rfl⟩
  have hA : ∀ q : Nat, s.heap.size ≤ q → A q := fun q h => by rw [hAe]; exact Or.inr h
  rw [← hAe] at hG hD
  have hS : va_S A s.heap s.heap [] := va_S.rf
  have hl := lv_entry ([.ref x0, .int v, .ref lo]) (n := 4) (Nat.le_of_ble_eq_true rfl)
  rw [lg_entry_eq]
  generalize (lg_sl ([.ref x0, .int v, .ref lo]) ++ List.replicate (4 - (lg_sl ([.ref x0, .int v, .ref lo])).length) Slot.unset).toArray = ls at hl ⊢
  have hl : lv_has ls 4 [(0, .ref x0), (1, .int v), (2, .ref lo)] := hl
  refine zq_name (fun Q hQ => ?_)
  change W p l e rm_h_feed_no s m _ below meth c _ _ _ _ Q _
  refine lv_aload_n hx hb dL_feed_0 rfl (lv_at hl 2 rfl) ?_
  refine lv_iconst (v := nI 0) hx hb dL_feed_1 (by decide) ?_
  refine lv_aload_n hx hb dL_feed_2 rfl (lv_at hl 0 rfl) ?_
  refine lv_iload_n hx hb dL_feed_3 rfl (lv_at hl 1 rfl) ?_
  refine zx_runV (As := [.int v]) (rest := [.int (nI 0), .ref lo]) ⟨hx, hb, hml, hown, hw⟩ (x_feed l dC dI x0 cI cB t0 t1 len tp h0 r0 v hl9 hln hfl s.heap) (cwV 1 hw (gV w_ml_L_43 w_im_C_feed w_se_C_feed w_in_C w_co_C_feed) rfl rfl rfl (by decide +kernel) ⟨Nat.le_of_ble_eq_true rfl, Nat.le_of_ble_eq_true rfl⟩) (zT_V hG hA hS (hP.sub (ws' := [(x0, .inr (3, [.ref h0, .ref t0, .ref r0])), (t0, .inr (2, [.ref t1, .int (nI len)])), (t1, .inl (cB, 400, .inl (aB tp)))]) [0, 1, 2] rfl) (hK.sub (tys' := [(cI, .int), (cB, .byte)]) [0, 1] rfl) 0 rfl rfl) rfl rfl hl.1 rfl (lv_room (Nat.le_of_ble_eq_true rfl)) dL_feed_4 ⟨Nat.le_of_ble_eq_true rfl, Nat.le_of_ble_eq_true rfl⟩ (fun xa9 ce H9 hz9 hk9 hx1 hx2 hx3 => ?_)
  refine zx_catch hown htab (by rw [hh1, hh2]; exact ⟨Nat.le_of_ble_eq_true rfl, Nat.le_of_ble_eq_true rfl⟩) (by rw [hh4]; decide) (by rw [hh4]; exact hw _ w_cl_L_46) hx1 hx2 hx3 rfl ?_
  refine W.eq (g2 := F0 m 12 ls [.ref xa9]) (by rw [hh3]) ?_
  have hP := hP.kept (H1 := H9) (fun k q h9 => hk9 _ ((hP k q h9).lt))
  have hS := zx_S hS hz9 hk9
  have hP : va_P (dC, dI) vwCl [(x0, .inr (3, [.ref h0, .ref t0, .ref r0])), (t0, .inr (2, [.ref t1, .int (nI len)])), (t1, .inl (cB, 400, .inl (aB tp)))] H9 := hP
  have hD : va_D A [(x0, .inr (3, [.ref h0, .ref t0, .ref r0])), (t0, .inr (2, [.ref t1, .int (nI len)])), (t1, .inl (cB, 400, .inl (aB tp)))] := hD
  refine lv_astore_n (lv' := [(3, .ref xa9), (0, .ref x0), (1, .int v), (2, .ref lo)]) hx hb dL_feed_12 rfl hl (by decide) rfl (fun ls hl => ?_)
  refine lv_iconst (v := nI 1) hx hb dL_feed_13 (by decide) ?_
  subst hAe
  subst hQ
  exact W.iret (v := nI 1) hx hb hr (fun t ht hW => ⟨⟨nI 1, (), rfl, rfl, by rw [ht]; exact hP.sub [0, 1, 2] rfl, hD.sub [0, 1, 2] (by decide) rfl⟩, hS.F ht⟩) hS.2.2 dL_feed_14
def rm_h_trim_ok : Room := ({ frames := 7, cells := 0, slots := 0, locals := 112 } : Room)
set_option maxHeartbeats 4000000 in
set_option maxRecDepth 100000 in
theorem h_trim_ok (l : Launch) (dC : Nat → ClassId) (dI : Nat → Nat → Nat) (x0 : Nat) (cI : ClassId) (cB : ClassId) (t0 : Nat) (t1 : Nat) (len : Nat) (tp : Nat → Nat) (h0 : Nat) (r0 : Nat) (n : Nat) (lo : Nat) (cL : ClassId) (fo : Nat → Int64) (hln : len ≤ 400) (hn : n ≤ len) (sz : Nat) : Met l yL_trim wsL_trim rm_h_trim_ok (zM (dC, dI) [(cI, .int), (cB, .byte), (cL, .long)] [.ref x0, .int (nI n), .ref lo] [(x0, .inr (3, [.ref h0, .ref t0, .ref r0])), (t0, .inr (2, [.ref t1, .int (nI len)])), (t1, .inl (cB, 400, .inl (aB tp))), (lo, .inl (cL, 1, .inr (.inl fo)))] sz) (zMi (dC, dI) [(x0, .inr (3, [.ref h0, .ref t0, .ref r0])), (t0, .inr (2, [.ref t1, .int (nI len)])), (t1, .inl (cB, 400, .inl (aB tp))), (lo, .inl (cL, 1, .inr (.inl fo)))] [(x0, .inr (3, [.ref h0, .ref t0, .ref r0])), (t0, .inr (2, [.ref t1, .int (nI (len - n))])), (t1, .inl (cB, 400, .inl (aB tp))), (lo, .inl (cL, 1, .inr (.inl (vp_updL fo 0 (lN (len - n))))))] sz (fun r => r = nI 0)) 0 0 (va_A [(x0, .inr (3, [.ref h0, .ref t0, .ref r0])), (t0, .inr (2, [.ref t1, .int (nI len)])), (t1, .inl (cB, 400, .inl (aB tp))), (lo, .inl (cL, 1, .inr (.inl fo)))] sz) := by
  refine MetH.ofW (cc := cL_trim) (maxL := 4) (ret := (some .int)) (by decide) rfl ?_
  intro p e s m args below meth c s₁ Bd hml ⟨xe, htab, hh1, hh2, hh3, hh4⟩ hv
  obtain ⟨rfl, hsz, hG, hP, hK, hD0⟩ := hv
  subst hsz
  have hx := Bd.exec
  have hb := Bd.bytes
  have hr := Bd.returns
  have hts := atoms_spec (ws := wsL_trim) Bd.pre
  have hw : ∀ w ∈ BIG, w.before _ s = true := fun w h => hts w (List.mem_cons_of_mem _ h)
  have hown : s.vm.findClass RL = some m.cls := findClass_of_methodNamed Bd.named
  have hlocks := Bd.notSynchronized
  have hD := hD0.self (sz := s.heap.size)
  obtain ⟨A, hAe⟩ : ∃ A, A = va_A [(x0, .inr (3, [.ref h0, .ref t0, .ref r0])), (t0, .inr (2, [.ref t1, .int (nI len)])), (t1, .inl (cB, 400, .inl (aB tp))), (lo, .inl (cL, 1, .inr (.inl fo)))] s.heap.size := ⟨_, rfl⟩
  have hA : ∀ q : Nat, s.heap.size ≤ q → A q := fun q h => by rw [hAe]; exact Or.inr h
  rw [← hAe] at hG hD
  have hS : va_S A s.heap s.heap [] := va_S.rf
  have hl := lv_entry ([.ref x0, .int (nI n), .ref lo]) (n := 4) (Nat.le_of_ble_eq_true rfl)
  rw [lg_entry_eq]
  generalize (lg_sl ([.ref x0, .int (nI n), .ref lo]) ++ List.replicate (4 - (lg_sl ([.ref x0, .int (nI n), .ref lo])).length) Slot.unset).toArray = ls at hl ⊢
  have hl : lv_has ls 4 [(0, .ref x0), (1, .int (nI n)), (2, .ref lo)] := hl
  refine zq_name (fun Q hQ => ?_)
  change W p l e rm_h_trim_ok s m _ below meth c _ _ _ _ Q _
  refine lv_aload_n hx hb dL_trim_0 rfl (lv_at hl 2 rfl) ?_
  refine lv_iconst (v := nI 0) hx hb dL_trim_1 (by decide) ?_
  refine lv_aload_n hx hb dL_trim_2 rfl (lv_at hl 0 rfl) ?_
  refine lv_iload_n hx hb dL_trim_3 rfl (lv_at hl 1 rfl) ?_
  have hPc := hP.sub (ws' := [(x0, .inr (3, [.ref h0, .ref t0, .ref r0])), (t0, .inr (2, [.ref t1, .int (nI len)])), (t1, .inl (cB, 400, .inl (aB tp)))]) [0, 1, 2] rfl
  have hDc := hD.sub (ws' := [(x0, .inr (3, [.ref h0, .ref t0, .ref r0])), (t0, .inr (2, [.ref t1, .int (nI len)])), (t1, .inl (cB, 400, .inl (aB tp)))]) [0, 1, 2] (by decide) rfl
  have hFc := va_free (wc := [(x0, .inr (3, [.ref h0, .ref t0, .ref r0])), (t0, .inr (2, [.ref t1, .int (nI len)])), (t1, .inl (cB, 400, .inl (aB tp)))]) hD hS hA [0, 1, 2] rfl
  refine zc_Mi (va_runV (As := [.int (nI n)]) (rest := [.int (nI 0), .ref lo]) ⟨hx, hb, hml, hown, hw⟩ (c_trim_ok l dC dI x0 cI cB t0 t1 len tp h0 r0 n hln hn s.heap.size) (cwV 1 hw (gV w_ml_L_48 w_im_C_trim w_se_C_trim w_in_C w_co_C_trim) rfl rfl rfl (by decide +kernel) ⟨Nat.le_of_ble_eq_true rfl, Nat.le_of_ble_eq_true rfl⟩) (zM_V hG hS hFc hPc hDc (hK.sub (tys' := [(cI, .int), (cB, .byte)]) [0, 1] rfl) 0 rfl rfl) rfl rfl hl.1 rfl (lv_room (Nat.le_of_ble_eq_true rfl)) dL_trim_4 ⟨Nat.le_of_ble_eq_true rfl, Nat.le_of_ble_eq_true rfl⟩) hS hFc (fun r_1 H locs h_4 hP1 hD1 hk1 hS => ?_)
  obtain ⟨hP, hD⟩ := va_join (wr := [(lo, .inl (cL, 1, .inr (.inl fo)))]) (w1 := [(x0, .inr (3, [.ref h0, .ref t0, .ref r0])), (t0, .inr (2, [.ref t1, .int (nI (len - n))])), (t1, .inl (cB, 400, .inl (aB tp)))]) hP hD [0, 1, 2] [3] rfl rfl (by decide) (by decide) hk1 hFc hP1 hD1
  have hP : va_P (dC, dI) vwCl [(lo, .inl (cL, 1, .inr (.inl fo))), (x0, .inr (3, [.ref h0, .ref t0, .ref r0])), (t0, .inr (2, [.ref t1, .int (nI (len - n))])), (t1, .inl (cB, 400, .inl (aB tp)))] H := hP
  have hD : va_D A [(lo, .inl (cL, 1, .inr (.inl fo))), (x0, .inr (3, [.ref h0, .ref t0, .ref r0])), (t0, .inr (2, [.ref t1, .int (nI (len - n))])), (t1, .inl (cB, 400, .inl (aB tp)))] := hD
  subst h_4
  refine zi_l hx hb (by omega) dL_trim_7 ?_
  refine va_last hx hb hK hP hD hS 0 2 rfl rfl (vp_in_nI (by decide) (by decide)) dL_trim_8 (fun H locs hP hD hS => ?_)
  have hP : va_P (dC, dI) vwCl [(lo, .inl (cL, 1, .inr (.inl (vp_updL fo 0 (lN (len - n)))))), (x0, .inr (3, [.ref h0, .ref t0, .ref r0])), (t0, .inr (2, [.ref t1, .int (nI (len - n))])), (t1, .inl (cB, 400, .inl (aB tp)))] H := hP
  have hD : va_D A [(lo, .inl (cL, 1, .inr (.inl (vp_updL fo 0 (lN (len - n)))))), (x0, .inr (3, [.ref h0, .ref t0, .ref r0])), (t0, .inr (2, [.ref t1, .int (nI (len - n))])), (t1, .inl (cB, 400, .inl (aB tp)))] := hD
  refine lv_goto (tgt := 15) hx hb dL_trim_9 (by decide) ?_
  refine lv_iconst (v := nI 0) hx hb dL_trim_15 (by decide) ?_
  subst hAe
  subst hQ
  exact W.iret (v := nI 0) hx hb hr (fun t ht hW => ⟨⟨nI 0, (), rfl, rfl, by rw [ht]; exact hP.sub [1, 2, 3, 0] rfl, hD.sub [1, 2, 3, 0] (by decide) rfl⟩, hS.F ht⟩) hS.2.2 dL_trim_16
def rm_h_trim_no : Room := ({ frames := 7, cells := 1, slots := 6, locals := 112 } : Room)
set_option maxHeartbeats 4000000 in
set_option maxRecDepth 100000 in
theorem h_trim_no (l : Launch) (dC : Nat → ClassId) (dI : Nat → Nat → Nat) (x0 : Nat) (cI : ClassId) (cB : ClassId) (t0 : Nat) (t1 : Nat) (len : Nat) (tp : Nat → Nat) (h0 : Nat) (r0 : Nat) (x9 : Int32) (lo : Nat) (cL : ClassId) (fo : Nat → Int64) (hx9 : x9 < 0 ∨ nI len < x9) (hln : len ≤ 400) (hfl : l.flags = pinnedFlags ++ [noTraceFlag]) (sz : Nat) : Met l yL_trim wsL_trim rm_h_trim_no (zM (dC, dI) [(cI, .int), (cB, .byte), (cL, .long)] [.ref x0, .int x9, .ref lo] [(x0, .inr (3, [.ref h0, .ref t0, .ref r0])), (t0, .inr (2, [.ref t1, .int (nI len)])), (t1, .inl (cB, 400, .inl (aB tp)))] sz) (zMi (dC, dI) [(x0, .inr (3, [.ref h0, .ref t0, .ref r0])), (t0, .inr (2, [.ref t1, .int (nI len)])), (t1, .inl (cB, 400, .inl (aB tp)))] [(x0, .inr (3, [.ref h0, .ref t0, .ref r0])), (t0, .inr (2, [.ref t1, .int (nI len)])), (t1, .inl (cB, 400, .inl (aB tp)))] sz (fun r => r = nI 1)) 1 6 (va_A [(x0, .inr (3, [.ref h0, .ref t0, .ref r0])), (t0, .inr (2, [.ref t1, .int (nI len)])), (t1, .inl (cB, 400, .inl (aB tp)))] sz) := by
  refine MetH.ofW (cc := cL_trim) (maxL := 4) (ret := (some .int)) (by decide) rfl ?_
  intro p e s m args below meth c s₁ Bd hml ⟨xe, htab, hh1, hh2, hh3, hh4⟩ hv
  obtain ⟨rfl, hsz, hG, hP, hK, hD0⟩ := hv
  subst hsz
  have hx := Bd.exec
  have hb := Bd.bytes
  have hr := Bd.returns
  have hts := atoms_spec (ws := wsL_trim) Bd.pre
  have hw : ∀ w ∈ BIG, w.before _ s = true := fun w h => hts w (List.mem_cons_of_mem _ h)
  have hown : s.vm.findClass RL = some m.cls := findClass_of_methodNamed Bd.named
  have hlocks := Bd.notSynchronized
  have hD := hD0.self (sz := s.heap.size)
  obtain ⟨A, hAe⟩ : ∃ A, A = va_A [(x0, .inr (3, [.ref h0, .ref t0, .ref r0])), (t0, .inr (2, [.ref t1, .int (nI len)])), (t1, .inl (cB, 400, .inl (aB tp)))] s.heap.size := ⟨_, rfl⟩
  have hA : ∀ q : Nat, s.heap.size ≤ q → A q := fun q h => by rw [hAe]; exact Or.inr h
  rw [← hAe] at hG hD
  have hS : va_S A s.heap s.heap [] := va_S.rf
  have hl := lv_entry ([.ref x0, .int x9, .ref lo]) (n := 4) (Nat.le_of_ble_eq_true rfl)
  rw [lg_entry_eq]
  generalize (lg_sl ([.ref x0, .int x9, .ref lo]) ++ List.replicate (4 - (lg_sl ([.ref x0, .int x9, .ref lo])).length) Slot.unset).toArray = ls at hl ⊢
  have hl : lv_has ls 4 [(0, .ref x0), (1, .int x9), (2, .ref lo)] := hl
  refine zq_name (fun Q hQ => ?_)
  change W p l e rm_h_trim_no s m _ below meth c _ _ _ _ Q _
  refine lv_aload_n hx hb dL_trim_0 rfl (lv_at hl 2 rfl) ?_
  refine lv_iconst (v := nI 0) hx hb dL_trim_1 (by decide) ?_
  refine lv_aload_n hx hb dL_trim_2 rfl (lv_at hl 0 rfl) ?_
  refine lv_iload_n hx hb dL_trim_3 rfl (lv_at hl 1 rfl) ?_
  refine zx_runV (As := [.int x9]) (rest := [.int (nI 0), .ref lo]) ⟨hx, hb, hml, hown, hw⟩ (x_trim l dC dI x0 cI cB t0 t1 len tp h0 r0 x9 hx9 hln hfl s.heap) (cwV 1 hw (gV w_ml_L_48 w_im_C_trim w_se_C_trim w_in_C w_co_C_trim) rfl rfl rfl (by decide +kernel) ⟨Nat.le_of_ble_eq_true rfl, Nat.le_of_ble_eq_true rfl⟩) (zT_V hG hA hS (hP.sub (ws' := [(x0, .inr (3, [.ref h0, .ref t0, .ref r0])), (t0, .inr (2, [.ref t1, .int (nI len)])), (t1, .inl (cB, 400, .inl (aB tp)))]) [0, 1, 2] rfl) (hK.sub (tys' := [(cI, .int), (cB, .byte)]) [0, 1] rfl) 0 rfl rfl) rfl rfl hl.1 rfl (lv_room (Nat.le_of_ble_eq_true rfl)) dL_trim_4 ⟨Nat.le_of_ble_eq_true rfl, Nat.le_of_ble_eq_true rfl⟩ (fun xa9 ce H9 hz9 hk9 hx1 hx2 hx3 => ?_)
  refine zx_catch hown htab (by rw [hh1, hh2]; exact ⟨Nat.le_of_ble_eq_true rfl, Nat.le_of_ble_eq_true rfl⟩) (by rw [hh4]; decide) (by rw [hh4]; exact hw _ w_cl_L_13) hx1 hx2 hx3 rfl ?_
  refine W.eq (g2 := F0 m 12 ls [.ref xa9]) (by rw [hh3]) ?_
  have hP := hP.kept (H1 := H9) (fun k q h9 => hk9 _ ((hP k q h9).lt))
  have hS := zx_S hS hz9 hk9
  have hP : va_P (dC, dI) vwCl [(x0, .inr (3, [.ref h0, .ref t0, .ref r0])), (t0, .inr (2, [.ref t1, .int (nI len)])), (t1, .inl (cB, 400, .inl (aB tp)))] H9 := hP
  have hD : va_D A [(x0, .inr (3, [.ref h0, .ref t0, .ref r0])), (t0, .inr (2, [.ref t1, .int (nI len)])), (t1, .inl (cB, 400, .inl (aB tp)))] := hD
  refine lv_astore_n (lv' := [(3, .ref xa9), (0, .ref x0), (1, .int x9), (2, .ref lo)]) hx hb dL_trim_12 rfl hl (by decide) rfl (fun ls hl => ?_)
  refine lv_iconst (v := nI 1) hx hb dL_trim_13 (by decide) ?_
  subst hAe
  subst hQ
  exact W.iret (v := nI 1) hx hb hr (fun t ht hW => ⟨⟨nI 1, (), rfl, rfl, by rw [ht]; exact hP.sub [0, 1, 2] rfl, hD.sub [0, 1, 2] (by decide) rfl⟩, hS.F ht⟩) hS.2.2 dL_trim_14
def rm_h_spoil_ok : Room := ({ frames := 7, cells := 0, slots := 0, locals := 113 } : Room)
set_option maxHeartbeats 4000000 in
set_option maxRecDepth 100000 in
theorem h_spoil_ok (l : Launch) (dC : Nat → ClassId) (dI : Nat → Nat → Nat) (x0 : Nat) (cI : ClassId) (cB : ClassId) (t0 : Nat) (t1 : Nat) (len : Nat) (tp : Nat → Nat) (h0 : Nat) (r0 : Nat) (i : Nat) (x : Nat) (lo : Nat) (cL : ClassId) (fo : Nat → Int64) (hln : len ≤ 400) (hi : i < len) (hx9 : x ≤ 255) (htp : ∀ j, tp j < 256) (sz : Nat) : Met l yL_spoil wsL_spoil rm_h_spoil_ok (zM (dC, dI) [(cI, .int), (cB, .byte), (cL, .long)] [.ref x0, .int (nI i), .int (nI x), .ref lo] [(x0, .inr (3, [.ref h0, .ref t0, .ref r0])), (t0, .inr (2, [.ref t1, .int (nI len)])), (t1, .inl (cB, 400, .inl (aB tp))), (lo, .inl (cL, 1, .inr (.inl fo)))] sz) (zMi (dC, dI) [(x0, .inr (3, [.ref h0, .ref t0, .ref r0])), (t0, .inr (2, [.ref t1, .int (nI len)])), (t1, .inl (cB, 400, .inl (aB tp))), (lo, .inl (cL, 1, .inr (.inl fo)))] [(x0, .inr (3, [.ref h0, .ref t0, .ref r0])), (t0, .inr (2, [.ref t1, .int (nI len)])), (t1, .inl (cB, 400, .inl (aB (nup tp i (tp i ^^^ x))))), (lo, .inl (cL, 1, .inr (.inl (vp_updL fo 0 (lN (tp i ^^^ x))))))] sz (fun r => r = nI 0)) 0 0 (va_A [(x0, .inr (3, [.ref h0, .ref t0, .ref r0])), (t0, .inr (2, [.ref t1, .int (nI len)])), (t1, .inl (cB, 400, .inl (aB tp))), (lo, .inl (cL, 1, .inr (.inl fo)))] sz) := by
  refine MetH.ofW (cc := cL_spoil) (maxL := 5) (ret := (some .int)) (by decide) rfl ?_
  intro p e s m args below meth c s₁ Bd hml ⟨xe, htab, hh1, hh2, hh3, hh4⟩ hv
  obtain ⟨rfl, hsz, hG, hP, hK, hD0⟩ := hv
  subst hsz
  have hx := Bd.exec
  have hb := Bd.bytes
  have hr := Bd.returns
  have hts := atoms_spec (ws := wsL_spoil) Bd.pre
  have hw : ∀ w ∈ BIG, w.before _ s = true := fun w h => hts w (List.mem_cons_of_mem _ h)
  have hown : s.vm.findClass RL = some m.cls := findClass_of_methodNamed Bd.named
  have hlocks := Bd.notSynchronized
  have hD := hD0.self (sz := s.heap.size)
  obtain ⟨A, hAe⟩ : ∃ A, A = va_A [(x0, .inr (3, [.ref h0, .ref t0, .ref r0])), (t0, .inr (2, [.ref t1, .int (nI len)])), (t1, .inl (cB, 400, .inl (aB tp))), (lo, .inl (cL, 1, .inr (.inl fo)))] s.heap.size := ⟨_, rfl⟩
  have hA : ∀ q : Nat, s.heap.size ≤ q → A q := fun q h => by rw [hAe]; exact Or.inr h
  rw [← hAe] at hG hD
  have hS : va_S A s.heap s.heap [] := va_S.rf
  have hl := lv_entry ([.ref x0, .int (nI i), .int (nI x), .ref lo]) (n := 5) (Nat.le_of_ble_eq_true rfl)
  rw [lg_entry_eq]
  generalize (lg_sl ([.ref x0, .int (nI i), .int (nI x), .ref lo]) ++ List.replicate (5 - (lg_sl ([.ref x0, .int (nI i), .int (nI x), .ref lo])).length) Slot.unset).toArray = ls at hl ⊢
  have hl : lv_has ls 5 [(0, .ref x0), (1, .int (nI i)), (2, .int (nI x)), (3, .ref lo)] := hl
  refine zq_name (fun Q hQ => ?_)
  change W p l e rm_h_spoil_ok s m _ below meth c _ _ _ _ Q _
  refine lv_aload_n hx hb dL_spoil_0 rfl (lv_at hl 3 rfl) ?_
  refine lv_iconst (v := nI 0) hx hb dL_spoil_1 (by decide) ?_
  refine lv_aload_n hx hb dL_spoil_2 rfl (lv_at hl 0 rfl) ?_
  refine lv_iload_n hx hb dL_spoil_3 rfl (lv_at hl 1 rfl) ?_
  refine lv_iload_n hx hb dL_spoil_4 rfl (lv_at hl 2 rfl) ?_
  have hPc := hP.sub (ws' := [(x0, .inr (3, [.ref h0, .ref t0, .ref r0])), (t0, .inr (2, [.ref t1, .int (nI len)])), (t1, .inl (cB, 400, .inl (aB tp)))]) [0, 1, 2] rfl
  have hDc := hD.sub (ws' := [(x0, .inr (3, [.ref h0, .ref t0, .ref r0])), (t0, .inr (2, [.ref t1, .int (nI len)])), (t1, .inl (cB, 400, .inl (aB tp)))]) [0, 1, 2] (by decide) rfl
  have hFc := va_free (wc := [(x0, .inr (3, [.ref h0, .ref t0, .ref r0])), (t0, .inr (2, [.ref t1, .int (nI len)])), (t1, .inl (cB, 400, .inl (aB tp)))]) hD hS hA [0, 1, 2] rfl
  refine zc_Mi (va_runV (As := [.int (nI i), .int (nI x)]) (rest := [.int (nI 0), .ref lo]) ⟨hx, hb, hml, hown, hw⟩ (c_spoil_ok l dC dI x0 cI cB t0 t1 len tp h0 r0 i x hln hi hx9 htp s.heap.size) (cwV 2 hw (gV w_ml_L_51 w_im_C_spoil w_se_C_spoil w_in_C w_co_C_spoil) rfl rfl rfl (by decide +kernel) ⟨Nat.le_of_ble_eq_true rfl, Nat.le_of_ble_eq_true rfl⟩) (zM_V hG hS hFc hPc hDc (hK.sub (tys' := [(cI, .int), (cB, .byte)]) [0, 1] rfl) 0 rfl rfl) rfl rfl hl.1 rfl (lv_room (Nat.le_of_ble_eq_true rfl)) dL_spoil_5 ⟨Nat.le_of_ble_eq_true rfl, Nat.le_of_ble_eq_true rfl⟩) hS hFc (fun r_1 H locs h_5 hP1 hD1 hk1 hS => ?_)
  obtain ⟨hP, hD⟩ := va_join (wr := [(lo, .inl (cL, 1, .inr (.inl fo)))]) (w1 := [(x0, .inr (3, [.ref h0, .ref t0, .ref r0])), (t0, .inr (2, [.ref t1, .int (nI len)])), (t1, .inl (cB, 400, .inl (aB (nup tp i (tp i ^^^ x)))))]) hP hD [0, 1, 2] [3] rfl rfl (by decide) (by decide) hk1 hFc hP1 hD1
  have hP : va_P (dC, dI) vwCl [(lo, .inl (cL, 1, .inr (.inl fo))), (x0, .inr (3, [.ref h0, .ref t0, .ref r0])), (t0, .inr (2, [.ref t1, .int (nI len)])), (t1, .inl (cB, 400, .inl (aB (nup tp i (tp i ^^^ x)))))] H := hP
  have hD : va_D A [(lo, .inl (cL, 1, .inr (.inl fo))), (x0, .inr (3, [.ref h0, .ref t0, .ref r0])), (t0, .inr (2, [.ref t1, .int (nI len)])), (t1, .inl (cB, 400, .inl (aB (nup tp i (tp i ^^^ x)))))] := hD
  subst h_5
  refine zi_l hx hb (by have := xor_lt (htp i) (show x < 256 by omega); omega) dL_spoil_8 ?_
  refine va_last hx hb hK hP hD hS 0 2 rfl rfl (vp_in_nI (by decide) (by decide)) dL_spoil_9 (fun H locs hP hD hS => ?_)
  have hP : va_P (dC, dI) vwCl [(lo, .inl (cL, 1, .inr (.inl (vp_updL fo 0 (lN (tp i ^^^ x)))))), (x0, .inr (3, [.ref h0, .ref t0, .ref r0])), (t0, .inr (2, [.ref t1, .int (nI len)])), (t1, .inl (cB, 400, .inl (aB (nup tp i (tp i ^^^ x)))))] H := hP
  have hD : va_D A [(lo, .inl (cL, 1, .inr (.inl (vp_updL fo 0 (lN (tp i ^^^ x)))))), (x0, .inr (3, [.ref h0, .ref t0, .ref r0])), (t0, .inr (2, [.ref t1, .int (nI len)])), (t1, .inl (cB, 400, .inl (aB (nup tp i (tp i ^^^ x)))))] := hD
  refine lv_goto (tgt := 17) hx hb dL_spoil_10 (by decide) ?_
  refine lv_iconst (v := nI 0) hx hb dL_spoil_17 (by decide) ?_
  subst hAe
  subst hQ
  exact W.iret (v := nI 0) hx hb hr (fun t ht hW => ⟨⟨nI 0, (), rfl, rfl, by rw [ht]; exact hP.sub [1, 2, 3, 0] rfl, hD.sub [1, 2, 3, 0] (by decide) rfl⟩, hS.F ht⟩) hS.2.2 dL_spoil_18
def rm_h_spoil_no : Room := ({ frames := 7, cells := 1, slots := 6, locals := 113 } : Room)
set_option maxHeartbeats 4000000 in
set_option maxRecDepth 100000 in
theorem h_spoil_no (l : Launch) (dC : Nat → ClassId) (dI : Nat → Nat → Nat) (x0 : Nat) (cI : ClassId) (cB : ClassId) (t0 : Nat) (t1 : Nat) (len : Nat) (tp : Nat → Nat) (h0 : Nat) (r0 : Nat) (x1 : Int32) (x2 : Int32) (lo : Nat) (cL : ClassId) (fo : Nat → Int64) (hx9 : x1 < 0 ∨ nI len ≤ x1 ∨ x2 < 0 ∨ nI 255 < x2) (hfl : l.flags = pinnedFlags ++ [noTraceFlag]) (sz : Nat) : Met l yL_spoil wsL_spoil rm_h_spoil_no (zM (dC, dI) [(cI, .int), (cB, .byte), (cL, .long)] [.ref x0, .int x1, .int x2, .ref lo] [(x0, .inr (3, [.ref h0, .ref t0, .ref r0])), (t0, .inr (2, [.ref t1, .int (nI len)])), (t1, .inl (cB, 400, .inl (aB tp)))] sz) (zMi (dC, dI) [(x0, .inr (3, [.ref h0, .ref t0, .ref r0])), (t0, .inr (2, [.ref t1, .int (nI len)])), (t1, .inl (cB, 400, .inl (aB tp)))] [(x0, .inr (3, [.ref h0, .ref t0, .ref r0])), (t0, .inr (2, [.ref t1, .int (nI len)])), (t1, .inl (cB, 400, .inl (aB tp)))] sz (fun r => r = nI 1)) 1 6 (va_A [(x0, .inr (3, [.ref h0, .ref t0, .ref r0])), (t0, .inr (2, [.ref t1, .int (nI len)])), (t1, .inl (cB, 400, .inl (aB tp)))] sz) := by
  refine MetH.ofW (cc := cL_spoil) (maxL := 5) (ret := (some .int)) (by decide) rfl ?_
  intro p e s m args below meth c s₁ Bd hml ⟨xe, htab, hh1, hh2, hh3, hh4⟩ hv
  obtain ⟨rfl, hsz, hG, hP, hK, hD0⟩ := hv
  subst hsz
  have hx := Bd.exec
  have hb := Bd.bytes
  have hr := Bd.returns
  have hts := atoms_spec (ws := wsL_spoil) Bd.pre
  have hw : ∀ w ∈ BIG, w.before _ s = true := fun w h => hts w (List.mem_cons_of_mem _ h)
  have hown : s.vm.findClass RL = some m.cls := findClass_of_methodNamed Bd.named
  have hlocks := Bd.notSynchronized
  have hD := hD0.self (sz := s.heap.size)
  obtain ⟨A, hAe⟩ : ∃ A, A = va_A [(x0, .inr (3, [.ref h0, .ref t0, .ref r0])), (t0, .inr (2, [.ref t1, .int (nI len)])), (t1, .inl (cB, 400, .inl (aB tp)))] s.heap.size := ⟨_, rfl⟩
  have hA : ∀ q : Nat, s.heap.size ≤ q → A q := fun q h => by rw [hAe]; exact Or.inr h
  rw [← hAe] at hG hD
  have hS : va_S A s.heap s.heap [] := va_S.rf
  have hl := lv_entry ([.ref x0, .int x1, .int x2, .ref lo]) (n := 5) (Nat.le_of_ble_eq_true rfl)
  rw [lg_entry_eq]
  generalize (lg_sl ([.ref x0, .int x1, .int x2, .ref lo]) ++ List.replicate (5 - (lg_sl ([.ref x0, .int x1, .int x2, .ref lo])).length) Slot.unset).toArray = ls at hl ⊢
  have hl : lv_has ls 5 [(0, .ref x0), (1, .int x1), (2, .int x2), (3, .ref lo)] := hl
  refine zq_name (fun Q hQ => ?_)
  change W p l e rm_h_spoil_no s m _ below meth c _ _ _ _ Q _
  refine lv_aload_n hx hb dL_spoil_0 rfl (lv_at hl 3 rfl) ?_
  refine lv_iconst (v := nI 0) hx hb dL_spoil_1 (by decide) ?_
  refine lv_aload_n hx hb dL_spoil_2 rfl (lv_at hl 0 rfl) ?_
  refine lv_iload_n hx hb dL_spoil_3 rfl (lv_at hl 1 rfl) ?_
  refine lv_iload_n hx hb dL_spoil_4 rfl (lv_at hl 2 rfl) ?_
  refine zx_runV (As := [.int x1, .int x2]) (rest := [.int (nI 0), .ref lo]) ⟨hx, hb, hml, hown, hw⟩ (x_spoil l dC dI x0 cI cB t0 t1 len tp h0 r0 x1 x2 hx9 hfl s.heap) (cwV 2 hw (gV w_ml_L_51 w_im_C_spoil w_se_C_spoil w_in_C w_co_C_spoil) rfl rfl rfl (by decide +kernel) ⟨Nat.le_of_ble_eq_true rfl, Nat.le_of_ble_eq_true rfl⟩) (zT_V hG hA hS (hP.sub (ws' := [(x0, .inr (3, [.ref h0, .ref t0, .ref r0])), (t0, .inr (2, [.ref t1, .int (nI len)])), (t1, .inl (cB, 400, .inl (aB tp)))]) [0, 1, 2] rfl) (hK.sub (tys' := [(cI, .int), (cB, .byte)]) [0, 1] rfl) 0 rfl rfl) rfl rfl hl.1 rfl (lv_room (Nat.le_of_ble_eq_true rfl)) dL_spoil_5 ⟨Nat.le_of_ble_eq_true rfl, Nat.le_of_ble_eq_true rfl⟩ (fun xa9 ce H9 hz9 hk9 hx1 hx2 hx3 => ?_)
  refine zx_catch hown htab (by rw [hh1, hh2]; exact ⟨Nat.le_of_ble_eq_true rfl, Nat.le_of_ble_eq_true rfl⟩) (by rw [hh4]; decide) (by rw [hh4]; exact hw _ w_cl_L_13) hx1 hx2 hx3 rfl ?_
  refine W.eq (g2 := F0 m 13 ls [.ref xa9]) (by rw [hh3]) ?_
  have hP := hP.kept (H1 := H9) (fun k q h9 => hk9 _ ((hP k q h9).lt))
  have hS := zx_S hS hz9 hk9
  have hP : va_P (dC, dI) vwCl [(x0, .inr (3, [.ref h0, .ref t0, .ref r0])), (t0, .inr (2, [.ref t1, .int (nI len)])), (t1, .inl (cB, 400, .inl (aB tp)))] H9 := hP
  have hD : va_D A [(x0, .inr (3, [.ref h0, .ref t0, .ref r0])), (t0, .inr (2, [.ref t1, .int (nI len)])), (t1, .inl (cB, 400, .inl (aB tp)))] := hD
  refine lv_astore (lv' := [(4, .ref xa9), (0, .ref x0), (1, .int x1), (2, .int x2), (3, .ref lo)]) hx hb dL_spoil_13 hl (by decide) rfl (fun ls hl => ?_)
  refine lv_iconst (v := nI 1) hx hb dL_spoil_15 (by decide) ?_
  subst hAe
  subst hQ
  exact W.iret (v := nI 1) hx hb hr (fun t ht hW => ⟨⟨nI 1, (), rfl, rfl, by rw [ht]; exact hP.sub [0, 1, 2] rfl, hD.sub [0, 1, 2] (by decide) rfl⟩, hS.F ht⟩) hS.2.2 dL_spoil_16
def rm_h_fault_ok : Room := ({ frames := 7, cells := 0, slots := 0, locals := 157 } : Room)
set_option maxHeartbeats 4000000 in
set_option maxRecDepth 100000 in
theorem h_fault_ok (l : Launch) (dC : Nat → ClassId) (dI : Nat → Nat → Nat) (x0 : Nat) (cI : ClassId) (cB : ClassId) (t0 : Nat) (t1 : Nat) (len : Nat) (tp : Nat → Nat) (r0 : Nat) (fk : Nat) (fp : Int32) (nx : Nat) (lnb : Nat) (f0 : Nat) (f1 : Nat) (f2 : Nat) (gty : Nat) (gcnt : Nat → Nat) (gmk : Nat → Nat) (h0 : Nat) (wh : Nat) (lo : Nat) (cL : ClassId) (fo : Nat → Int64) (hln : len ≤ 400) (htp : ∀ j, tp j < 256) (hm : ∀ j, gmk j < 128) (hwh : wh ≤ 1) (hd : pF tp len = none) (sz : Nat) : Met l yL_fault wsL_fault rm_h_fault_ok (zM (dC, dI) [(cI, .int), (cB, .byte), (cL, .long)] [.ref x0, .int (nI wh), .ref lo] [(x0, .inr (3, [.ref h0, .ref t0, .ref r0])), (r0, .inr (1, [.ref f0, .int (nI fk), .int fp, .ref t0, .int (nI nx), .int (nI lnb)])), (t0, .inr (2, [.ref t1, .int (nI len)])), (t1, .inl (cB, 400, .inl (aB tp))), (f0, .inr (0, [.int (nI gty), .ref f1, .ref f2])), (f1, .inl (cI, 16, .inl (aN gcnt))), (f2, .inl (cB, 208, .inl (aN gmk))), (lo, .inl (cL, 1, .inr (.inl fo)))] sz) (zSi (dC, dI) [(x0, .inr (3, [.ref h0, .ref t0, .ref r0])), (r0, .inr (1, [.ref f0, .int (nI fk), .int fp, .ref t0, .int (nI nx), .int (nI lnb)])), (t0, .inr (2, [.ref t1, .int (nI len)])), (t1, .inl (cB, 400, .inl (aB tp))), (f0, .inr (0, [.int (nI gty), .ref f1, .ref f2])), (f1, .inl (cI, 16, .inl (aN gcnt))), (f2, .inl (cB, 208, .inl (aN gmk))), (lo, .inl (cL, 1, .inr (.inl fo)))] sz (fun r (u : Nat × Nat × Nat × (Nat → Nat) × (Nat → Nat)) => r = nI 0 ∧ (∀ j, u.2.2.2.2 j < 128)) (fun u => [(x0, .inr (3, [.ref h0, .ref t0, .ref r0])), (r0, .inr (1, [.ref f0, .int (nI 0), .int (-1), .ref t0, .int (nI u.1), .int (nI u.2.1)])), (t0, .inr (2, [.ref t1, .int (nI len)])), (t1, .inl (cB, 400, .inl (aB tp))), (f0, .inr (0, [.int (nI u.2.2.1), .ref f1, .ref f2])), (f1, .inl (cI, 16, .inl (aN u.2.2.2.1))), (f2, .inl (cB, 208, .inl (aN u.2.2.2.2))), (lo, .inl (cL, 1, .inr (.inl (vp_updL fo 0 ((if wh = 0 then nI 0 else (-1)).toInt64)))))])) 0 0 (va_A [(x0, .inr (3, [.ref h0, .ref t0, .ref r0])), (r0, .inr (1, [.ref f0, .int (nI fk), .int fp, .ref t0, .int (nI nx), .int (nI lnb)])), (t0, .inr (2, [.ref t1, .int (nI len)])), (t1, .inl (cB, 400, .inl (aB tp))), (f0, .inr (0, [.int (nI gty), .ref f1, .ref f2])), (f1, .inl (cI, 16, .inl (aN gcnt))), (f2, .inl (cB, 208, .inl (aN gmk))), (lo, .inl (cL, 1, .inr (.inl fo)))] sz) := by
  refine MetH.ofW (cc := cL_fault) (maxL := 4) (ret := (some .int)) (by decide) rfl ?_
  intro p e s m args below meth c s₁ Bd hml ⟨xe, htab, hh1, hh2, hh3, hh4⟩ hv
  obtain ⟨rfl, hsz, hG, hP, hK, hD0⟩ := hv
  subst hsz
  have hx := Bd.exec
  have hb := Bd.bytes
  have hr := Bd.returns
  have hts := atoms_spec (ws := wsL_fault) Bd.pre
  have hw : ∀ w ∈ BIG, w.before _ s = true := fun w h => hts w (List.mem_cons_of_mem _ h)
  have hown : s.vm.findClass RL = some m.cls := findClass_of_methodNamed Bd.named
  have hlocks := Bd.notSynchronized
  have hD := hD0.self (sz := s.heap.size)
  obtain ⟨A, hAe⟩ : ∃ A, A = va_A [(x0, .inr (3, [.ref h0, .ref t0, .ref r0])), (r0, .inr (1, [.ref f0, .int (nI fk), .int fp, .ref t0, .int (nI nx), .int (nI lnb)])), (t0, .inr (2, [.ref t1, .int (nI len)])), (t1, .inl (cB, 400, .inl (aB tp))), (f0, .inr (0, [.int (nI gty), .ref f1, .ref f2])), (f1, .inl (cI, 16, .inl (aN gcnt))), (f2, .inl (cB, 208, .inl (aN gmk))), (lo, .inl (cL, 1, .inr (.inl fo)))] s.heap.size := ⟨_, rfl⟩
  have hA : ∀ q : Nat, s.heap.size ≤ q → A q := fun q h => by rw [hAe]; exact Or.inr h
  rw [← hAe] at hG hD
  have hS : va_S A s.heap s.heap [] := va_S.rf
  have hl := lv_entry ([.ref x0, .int (nI wh), .ref lo]) (n := 4) (Nat.le_of_ble_eq_true rfl)
  rw [lg_entry_eq]
  generalize (lg_sl ([.ref x0, .int (nI wh), .ref lo]) ++ List.replicate (4 - (lg_sl ([.ref x0, .int (nI wh), .ref lo])).length) Slot.unset).toArray = ls at hl ⊢
  have hl : lv_has ls 4 [(0, .ref x0), (1, .int (nI wh)), (2, .ref lo)] := hl
  refine zq_name (fun Q hQ => ?_)
  change W p l e rm_h_fault_ok s m _ below meth c _ _ _ _ Q _
  refine lv_aload_n hx hb dL_fault_0 rfl (lv_at hl 2 rfl) ?_
  refine lv_iconst (v := nI 0) hx hb dL_fault_1 (by decide) ?_
  refine lv_aload_n hx hb dL_fault_2 rfl (lv_at hl 0 rfl) ?_
  refine lv_iload_n hx hb dL_fault_3 rfl (lv_at hl 1 rfl) ?_
  have hPc := hP.sub (ws' := [(x0, .inr (3, [.ref h0, .ref t0, .ref r0])), (r0, .inr (1, [.ref f0, .int (nI fk), .int fp, .ref t0, .int (nI nx), .int (nI lnb)])), (t0, .inr (2, [.ref t1, .int (nI len)])), (t1, .inl (cB, 400, .inl (aB tp))), (f0, .inr (0, [.int (nI gty), .ref f1, .ref f2])), (f1, .inl (cI, 16, .inl (aN gcnt))), (f2, .inl (cB, 208, .inl (aN gmk)))]) [0, 1, 2, 3, 4, 5, 6] rfl
  have hDc := hD.sub (ws' := [(x0, .inr (3, [.ref h0, .ref t0, .ref r0])), (r0, .inr (1, [.ref f0, .int (nI fk), .int fp, .ref t0, .int (nI nx), .int (nI lnb)])), (t0, .inr (2, [.ref t1, .int (nI len)])), (t1, .inl (cB, 400, .inl (aB tp))), (f0, .inr (0, [.int (nI gty), .ref f1, .ref f2])), (f1, .inl (cI, 16, .inl (aN gcnt))), (f2, .inl (cB, 208, .inl (aN gmk)))]) [0, 1, 2, 3, 4, 5, 6] (by decide) rfl
  have hFc := va_free (wc := [(x0, .inr (3, [.ref h0, .ref t0, .ref r0])), (r0, .inr (1, [.ref f0, .int (nI fk), .int fp, .ref t0, .int (nI nx), .int (nI lnb)])), (t0, .inr (2, [.ref t1, .int (nI len)])), (t1, .inl (cB, 400, .inl (aB tp))), (f0, .inr (0, [.int (nI gty), .ref f1, .ref f2])), (f1, .inl (cI, 16, .inl (aN gcnt))), (f2, .inl (cB, 208, .inl (aN gmk)))]) hD hS hA [0, 1, 2, 3, 4, 5, 6] rfl
  refine zc_Si (va_runV (As := [.int (nI wh)]) (rest := [.int (nI 0), .ref lo]) ⟨hx, hb, hml, hown, hw⟩ (c_fault_ok l dC dI x0 cI cB t0 t1 len tp r0 fk fp nx lnb f0 f1 f2 gty gcnt gmk h0 wh hln htp hm hwh hd s.heap.size) (cwV 1 hw (gV w_ml_L_54 w_im_C_fault w_se_C_fault w_in_C w_co_C_fault) rfl rfl rfl (by decide +kernel) ⟨Nat.le_of_ble_eq_true rfl, Nat.le_of_ble_eq_true rfl⟩) (zM_V hG hS hFc hPc hDc (hK.sub (tys' := [(cI, .int), (cB, .byte)]) [0, 1] rfl) 0 rfl rfl) rfl rfl hl.1 rfl (lv_room (Nat.le_of_ble_eq_true rfl)) dL_fault_4 ⟨Nat.le_of_ble_eq_true rfl, Nat.le_of_ble_eq_true rfl⟩) hS hFc (fun r_1 u_4 H locs h_4 hP1 hD1 hk1 hS => ?_)
  obtain ⟨n9_4, l9_4, t9_4, c9_4, m9_4⟩ := u_4
  obtain ⟨hP, hD⟩ := va_join (wr := [(lo, .inl (cL, 1, .inr (.inl fo)))]) (w1 := [(x0, .inr (3, [.ref h0, .ref t0, .ref r0])), (r0, .inr (1, [.ref f0, .int (nI 0), .int (-1), .ref t0, .int (nI n9_4), .int (nI l9_4)])), (t0, .inr (2, [.ref t1, .int (nI len)])), (t1, .inl (cB, 400, .inl (aB tp))), (f0, .inr (0, [.int (nI t9_4), .ref f1, .ref f2])), (f1, .inl (cI, 16, .inl (aN c9_4))), (f2, .inl (cB, 208, .inl (aN m9_4)))]) hP hD [0, 1, 2, 3, 4, 5, 6] [7] rfl rfl (by decide) (by decide) hk1 hFc hP1 hD1
  have hP : va_P (dC, dI) vwCl [(lo, .inl (cL, 1, .inr (.inl fo))), (x0, .inr (3, [.ref h0, .ref t0, .ref r0])), (r0, .inr (1, [.ref f0, .int (nI 0), .int (-1), .ref t0, .int (nI n9_4), .int (nI l9_4)])), (t0, .inr (2, [.ref t1, .int (nI len)])), (t1, .inl (cB, 400, .inl (aB tp))), (f0, .inr (0, [.int (nI t9_4), .ref f1, .ref f2])), (f1, .inl (cI, 16, .inl (aN c9_4))), (f2, .inl (cB, 208, .inl (aN m9_4)))] H := hP
  have hD : va_D A [(lo, .inl (cL, 1, .inr (.inl fo))), (x0, .inr (3, [.ref h0, .ref t0, .ref r0])), (r0, .inr (1, [.ref f0, .int (nI 0), .int (-1), .ref t0, .int (nI n9_4), .int (nI l9_4)])), (t0, .inr (2, [.ref t1, .int (nI len)])), (t1, .inl (cB, 400, .inl (aB tp))), (f0, .inr (0, [.int (nI t9_4), .ref f1, .ref f2])), (f1, .inl (cI, 16, .inl (aN c9_4))), (f2, .inl (cB, 208, .inl (aN m9_4)))] := hD
  obtain ⟨rfl, hu_h_4⟩ := h_4
  refine lv_i2l hx hb dL_fault_7 rfl ?_
  refine va_last hx hb hK hP hD hS 0 2 rfl rfl (vp_in_nI (by decide) (by decide)) dL_fault_8 (fun H locs hP hD hS => ?_)
  have hP : va_P (dC, dI) vwCl [(lo, .inl (cL, 1, .inr (.inl (vp_updL fo 0 ((if wh = 0 then nI 0 else (-1)).toInt64))))), (x0, .inr (3, [.ref h0, .ref t0, .ref r0])), (r0, .inr (1, [.ref f0, .int (nI 0), .int (-1), .ref t0, .int (nI n9_4), .int (nI l9_4)])), (t0, .inr (2, [.ref t1, .int (nI len)])), (t1, .inl (cB, 400, .inl (aB tp))), (f0, .inr (0, [.int (nI t9_4), .ref f1, .ref f2])), (f1, .inl (cI, 16, .inl (aN c9_4))), (f2, .inl (cB, 208, .inl (aN m9_4)))] H := hP
  have hD : va_D A [(lo, .inl (cL, 1, .inr (.inl (vp_updL fo 0 ((if wh = 0 then nI 0 else (-1)).toInt64))))), (x0, .inr (3, [.ref h0, .ref t0, .ref r0])), (r0, .inr (1, [.ref f0, .int (nI 0), .int (-1), .ref t0, .int (nI n9_4), .int (nI l9_4)])), (t0, .inr (2, [.ref t1, .int (nI len)])), (t1, .inl (cB, 400, .inl (aB tp))), (f0, .inr (0, [.int (nI t9_4), .ref f1, .ref f2])), (f1, .inl (cI, 16, .inl (aN c9_4))), (f2, .inl (cB, 208, .inl (aN m9_4)))] := hD
  refine lv_goto (tgt := 15) hx hb dL_fault_9 (by decide) ?_
  refine lv_iconst (v := nI 0) hx hb dL_fault_15 (by decide) ?_
  subst hAe
  subst hQ
  exact W.iret (v := nI 0) hx hb hr (fun t ht hW => ⟨⟨nI 0, (n9_4, l9_4, t9_4, c9_4, m9_4), rfl, ⟨rfl, hu_h_4⟩, by rw [ht]; exact hP.sub [1, 2, 3, 4, 5, 6, 7, 0] rfl, hD.sub [1, 2, 3, 4, 5, 6, 7, 0] (by decide) rfl⟩, hS.F ht⟩) hS.2.2 dL_fault_16
def rm_h_fault_no : Room := ({ frames := 7, cells := 0, slots := 0, locals := 157 } : Room)
set_option maxHeartbeats 4000000 in
set_option maxRecDepth 100000 in
theorem h_fault_no (l : Launch) (dC : Nat → ClassId) (dI : Nat → Nat → Nat) (x0 : Nat) (cI : ClassId) (cB : ClassId) (t0 : Nat) (t1 : Nat) (len : Nat) (tp : Nat → Nat) (r0 : Nat) (fk : Nat) (fp : Int32) (nx : Nat) (lnb : Nat) (f0 : Nat) (f1 : Nat) (f2 : Nat) (gty : Nat) (gcnt : Nat → Nat) (gmk : Nat → Nat) (h0 : Nat) (wh : Nat) (k2 : Nat) (p2 : Nat) (lo : Nat) (cL : ClassId) (fo : Nat → Int64) (hln : len ≤ 400) (htp : ∀ j, tp j < 256) (hm : ∀ j, gmk j < 128) (hwh : wh ≤ 1) (hd : pF tp len = some (k2, p2)) (sz : Nat) : Met l yL_fault wsL_fault rm_h_fault_no (zM (dC, dI) [(cI, .int), (cB, .byte), (cL, .long)] [.ref x0, .int (nI wh), .ref lo] [(x0, .inr (3, [.ref h0, .ref t0, .ref r0])), (r0, .inr (1, [.ref f0, .int (nI fk), .int fp, .ref t0, .int (nI nx), .int (nI lnb)])), (t0, .inr (2, [.ref t1, .int (nI len)])), (t1, .inl (cB, 400, .inl (aB tp))), (f0, .inr (0, [.int (nI gty), .ref f1, .ref f2])), (f1, .inl (cI, 16, .inl (aN gcnt))), (f2, .inl (cB, 208, .inl (aN gmk))), (lo, .inl (cL, 1, .inr (.inl fo)))] sz) (zSi (dC, dI) [(x0, .inr (3, [.ref h0, .ref t0, .ref r0])), (r0, .inr (1, [.ref f0, .int (nI fk), .int fp, .ref t0, .int (nI nx), .int (nI lnb)])), (t0, .inr (2, [.ref t1, .int (nI len)])), (t1, .inl (cB, 400, .inl (aB tp))), (f0, .inr (0, [.int (nI gty), .ref f1, .ref f2])), (f1, .inl (cI, 16, .inl (aN gcnt))), (f2, .inl (cB, 208, .inl (aN gmk))), (lo, .inl (cL, 1, .inr (.inl fo)))] sz (fun r (u : Nat × Nat × Nat × (Nat → Nat) × (Nat → Nat)) => r = nI 0 ∧ (∀ j, u.2.2.2.2 j < 128)) (fun u => [(x0, .inr (3, [.ref h0, .ref t0, .ref r0])), (r0, .inr (1, [.ref f0, .int (nI k2), .int (nI p2), .ref t0, .int (nI u.1), .int (nI u.2.1)])), (t0, .inr (2, [.ref t1, .int (nI len)])), (t1, .inl (cB, 400, .inl (aB tp))), (f0, .inr (0, [.int (nI u.2.2.1), .ref f1, .ref f2])), (f1, .inl (cI, 16, .inl (aN u.2.2.2.1))), (f2, .inl (cB, 208, .inl (aN u.2.2.2.2))), (lo, .inl (cL, 1, .inr (.inl (vp_updL fo 0 ((if wh = 0 then nI k2 else nI p2).toInt64)))))])) 0 0 (va_A [(x0, .inr (3, [.ref h0, .ref t0, .ref r0])), (r0, .inr (1, [.ref f0, .int (nI fk), .int fp, .ref t0, .int (nI nx), .int (nI lnb)])), (t0, .inr (2, [.ref t1, .int (nI len)])), (t1, .inl (cB, 400, .inl (aB tp))), (f0, .inr (0, [.int (nI gty), .ref f1, .ref f2])), (f1, .inl (cI, 16, .inl (aN gcnt))), (f2, .inl (cB, 208, .inl (aN gmk))), (lo, .inl (cL, 1, .inr (.inl fo)))] sz) := by
  refine MetH.ofW (cc := cL_fault) (maxL := 4) (ret := (some .int)) (by decide) rfl ?_
  intro p e s m args below meth c s₁ Bd hml ⟨xe, htab, hh1, hh2, hh3, hh4⟩ hv
  obtain ⟨rfl, hsz, hG, hP, hK, hD0⟩ := hv
  subst hsz
  have hx := Bd.exec
  have hb := Bd.bytes
  have hr := Bd.returns
  have hts := atoms_spec (ws := wsL_fault) Bd.pre
  have hw : ∀ w ∈ BIG, w.before _ s = true := fun w h => hts w (List.mem_cons_of_mem _ h)
  have hown : s.vm.findClass RL = some m.cls := findClass_of_methodNamed Bd.named
  have hlocks := Bd.notSynchronized
  have hD := hD0.self (sz := s.heap.size)
  obtain ⟨A, hAe⟩ : ∃ A, A = va_A [(x0, .inr (3, [.ref h0, .ref t0, .ref r0])), (r0, .inr (1, [.ref f0, .int (nI fk), .int fp, .ref t0, .int (nI nx), .int (nI lnb)])), (t0, .inr (2, [.ref t1, .int (nI len)])), (t1, .inl (cB, 400, .inl (aB tp))), (f0, .inr (0, [.int (nI gty), .ref f1, .ref f2])), (f1, .inl (cI, 16, .inl (aN gcnt))), (f2, .inl (cB, 208, .inl (aN gmk))), (lo, .inl (cL, 1, .inr (.inl fo)))] s.heap.size := ⟨_, rfl⟩
  have hA : ∀ q : Nat, s.heap.size ≤ q → A q := fun q h => by rw [hAe]; exact Or.inr h
  rw [← hAe] at hG hD
  have hS : va_S A s.heap s.heap [] := va_S.rf
  have hl := lv_entry ([.ref x0, .int (nI wh), .ref lo]) (n := 4) (Nat.le_of_ble_eq_true rfl)
  rw [lg_entry_eq]
  generalize (lg_sl ([.ref x0, .int (nI wh), .ref lo]) ++ List.replicate (4 - (lg_sl ([.ref x0, .int (nI wh), .ref lo])).length) Slot.unset).toArray = ls at hl ⊢
  have hl : lv_has ls 4 [(0, .ref x0), (1, .int (nI wh)), (2, .ref lo)] := hl
  refine zq_name (fun Q hQ => ?_)
  change W p l e rm_h_fault_no s m _ below meth c _ _ _ _ Q _
  refine lv_aload_n hx hb dL_fault_0 rfl (lv_at hl 2 rfl) ?_
  refine lv_iconst (v := nI 0) hx hb dL_fault_1 (by decide) ?_
  refine lv_aload_n hx hb dL_fault_2 rfl (lv_at hl 0 rfl) ?_
  refine lv_iload_n hx hb dL_fault_3 rfl (lv_at hl 1 rfl) ?_
  have hPc := hP.sub (ws' := [(x0, .inr (3, [.ref h0, .ref t0, .ref r0])), (r0, .inr (1, [.ref f0, .int (nI fk), .int fp, .ref t0, .int (nI nx), .int (nI lnb)])), (t0, .inr (2, [.ref t1, .int (nI len)])), (t1, .inl (cB, 400, .inl (aB tp))), (f0, .inr (0, [.int (nI gty), .ref f1, .ref f2])), (f1, .inl (cI, 16, .inl (aN gcnt))), (f2, .inl (cB, 208, .inl (aN gmk)))]) [0, 1, 2, 3, 4, 5, 6] rfl
  have hDc := hD.sub (ws' := [(x0, .inr (3, [.ref h0, .ref t0, .ref r0])), (r0, .inr (1, [.ref f0, .int (nI fk), .int fp, .ref t0, .int (nI nx), .int (nI lnb)])), (t0, .inr (2, [.ref t1, .int (nI len)])), (t1, .inl (cB, 400, .inl (aB tp))), (f0, .inr (0, [.int (nI gty), .ref f1, .ref f2])), (f1, .inl (cI, 16, .inl (aN gcnt))), (f2, .inl (cB, 208, .inl (aN gmk)))]) [0, 1, 2, 3, 4, 5, 6] (by decide) rfl
  have hFc := va_free (wc := [(x0, .inr (3, [.ref h0, .ref t0, .ref r0])), (r0, .inr (1, [.ref f0, .int (nI fk), .int fp, .ref t0, .int (nI nx), .int (nI lnb)])), (t0, .inr (2, [.ref t1, .int (nI len)])), (t1, .inl (cB, 400, .inl (aB tp))), (f0, .inr (0, [.int (nI gty), .ref f1, .ref f2])), (f1, .inl (cI, 16, .inl (aN gcnt))), (f2, .inl (cB, 208, .inl (aN gmk)))]) hD hS hA [0, 1, 2, 3, 4, 5, 6] rfl
  refine zc_Si (va_runV (As := [.int (nI wh)]) (rest := [.int (nI 0), .ref lo]) ⟨hx, hb, hml, hown, hw⟩ (c_fault_no l dC dI x0 cI cB t0 t1 len tp r0 fk fp nx lnb f0 f1 f2 gty gcnt gmk h0 wh k2 p2 hln htp hm hwh hd s.heap.size) (cwV 1 hw (gV w_ml_L_54 w_im_C_fault w_se_C_fault w_in_C w_co_C_fault) rfl rfl rfl (by decide +kernel) ⟨Nat.le_of_ble_eq_true rfl, Nat.le_of_ble_eq_true rfl⟩) (zM_V hG hS hFc hPc hDc (hK.sub (tys' := [(cI, .int), (cB, .byte)]) [0, 1] rfl) 0 rfl rfl) rfl rfl hl.1 rfl (lv_room (Nat.le_of_ble_eq_true rfl)) dL_fault_4 ⟨Nat.le_of_ble_eq_true rfl, Nat.le_of_ble_eq_true rfl⟩) hS hFc (fun r_1 u_4 H locs h_4 hP1 hD1 hk1 hS => ?_)
  obtain ⟨n9_4, l9_4, t9_4, c9_4, m9_4⟩ := u_4
  obtain ⟨hP, hD⟩ := va_join (wr := [(lo, .inl (cL, 1, .inr (.inl fo)))]) (w1 := [(x0, .inr (3, [.ref h0, .ref t0, .ref r0])), (r0, .inr (1, [.ref f0, .int (nI k2), .int (nI p2), .ref t0, .int (nI n9_4), .int (nI l9_4)])), (t0, .inr (2, [.ref t1, .int (nI len)])), (t1, .inl (cB, 400, .inl (aB tp))), (f0, .inr (0, [.int (nI t9_4), .ref f1, .ref f2])), (f1, .inl (cI, 16, .inl (aN c9_4))), (f2, .inl (cB, 208, .inl (aN m9_4)))]) hP hD [0, 1, 2, 3, 4, 5, 6] [7] rfl rfl (by decide) (by decide) hk1 hFc hP1 hD1
  have hP : va_P (dC, dI) vwCl [(lo, .inl (cL, 1, .inr (.inl fo))), (x0, .inr (3, [.ref h0, .ref t0, .ref r0])), (r0, .inr (1, [.ref f0, .int (nI k2), .int (nI p2), .ref t0, .int (nI n9_4), .int (nI l9_4)])), (t0, .inr (2, [.ref t1, .int (nI len)])), (t1, .inl (cB, 400, .inl (aB tp))), (f0, .inr (0, [.int (nI t9_4), .ref f1, .ref f2])), (f1, .inl (cI, 16, .inl (aN c9_4))), (f2, .inl (cB, 208, .inl (aN m9_4)))] H := hP
  have hD : va_D A [(lo, .inl (cL, 1, .inr (.inl fo))), (x0, .inr (3, [.ref h0, .ref t0, .ref r0])), (r0, .inr (1, [.ref f0, .int (nI k2), .int (nI p2), .ref t0, .int (nI n9_4), .int (nI l9_4)])), (t0, .inr (2, [.ref t1, .int (nI len)])), (t1, .inl (cB, 400, .inl (aB tp))), (f0, .inr (0, [.int (nI t9_4), .ref f1, .ref f2])), (f1, .inl (cI, 16, .inl (aN c9_4))), (f2, .inl (cB, 208, .inl (aN m9_4)))] := hD
  obtain ⟨rfl, hu_h_4⟩ := h_4
  refine lv_i2l hx hb dL_fault_7 rfl ?_
  refine va_last hx hb hK hP hD hS 0 2 rfl rfl (vp_in_nI (by decide) (by decide)) dL_fault_8 (fun H locs hP hD hS => ?_)
  have hP : va_P (dC, dI) vwCl [(lo, .inl (cL, 1, .inr (.inl (vp_updL fo 0 ((if wh = 0 then nI k2 else nI p2).toInt64))))), (x0, .inr (3, [.ref h0, .ref t0, .ref r0])), (r0, .inr (1, [.ref f0, .int (nI k2), .int (nI p2), .ref t0, .int (nI n9_4), .int (nI l9_4)])), (t0, .inr (2, [.ref t1, .int (nI len)])), (t1, .inl (cB, 400, .inl (aB tp))), (f0, .inr (0, [.int (nI t9_4), .ref f1, .ref f2])), (f1, .inl (cI, 16, .inl (aN c9_4))), (f2, .inl (cB, 208, .inl (aN m9_4)))] H := hP
  have hD : va_D A [(lo, .inl (cL, 1, .inr (.inl (vp_updL fo 0 ((if wh = 0 then nI k2 else nI p2).toInt64))))), (x0, .inr (3, [.ref h0, .ref t0, .ref r0])), (r0, .inr (1, [.ref f0, .int (nI k2), .int (nI p2), .ref t0, .int (nI n9_4), .int (nI l9_4)])), (t0, .inr (2, [.ref t1, .int (nI len)])), (t1, .inl (cB, 400, .inl (aB tp))), (f0, .inr (0, [.int (nI t9_4), .ref f1, .ref f2])), (f1, .inl (cI, 16, .inl (aN c9_4))), (f2, .inl (cB, 208, .inl (aN m9_4)))] := hD
  refine lv_goto (tgt := 15) hx hb dL_fault_9 (by decide) ?_
  refine lv_iconst (v := nI 0) hx hb dL_fault_15 (by decide) ?_
  subst hAe
  subst hQ
  exact W.iret (v := nI 0) hx hb hr (fun t ht hW => ⟨⟨nI 0, (n9_4, l9_4, t9_4, c9_4, m9_4), rfl, ⟨rfl, hu_h_4⟩, by rw [ht]; exact hP.sub [1, 2, 3, 4, 5, 6, 7, 0] rfl, hD.sub [1, 2, 3, 4, 5, 6, 7, 0] (by decide) rfl⟩, hS.F ht⟩) hS.2.2 dL_fault_16
def rm_h_fault_bad : Room := ({ frames := 7, cells := 1, slots := 6, locals := 157 } : Room)
set_option maxHeartbeats 4000000 in
set_option maxRecDepth 100000 in
theorem h_fault_bad (l : Launch) (dC : Nat → ClassId) (dI : Nat → Nat → Nat) (x0 : Nat) (h0 : Nat) (t0 : Nat) (r0 : Nat) (cI : ClassId) (cB : ClassId) (x9 : Int32) (lo : Nat) (cL : ClassId) (fo : Nat → Int64) (hx9 : x9 ≠ 0 ∧ x9 ≠ 1) (hfl : l.flags = pinnedFlags ++ [noTraceFlag]) (sz : Nat) : Met l yL_fault wsL_fault rm_h_fault_bad (zM (dC, dI) [(cI, .int), (cB, .byte), (cL, .long)] [.ref x0, .int x9, .ref lo] [(x0, .inr (3, [.ref h0, .ref t0, .ref r0]))] sz) (zMi (dC, dI) [(x0, .inr (3, [.ref h0, .ref t0, .ref r0]))] [(x0, .inr (3, [.ref h0, .ref t0, .ref r0]))] sz (fun r => r = nI 1)) 1 6 (va_A [(x0, .inr (3, [.ref h0, .ref t0, .ref r0]))] sz) := by
  refine MetH.ofW (cc := cL_fault) (maxL := 4) (ret := (some .int)) (by decide) rfl ?_
  intro p e s m args below meth c s₁ Bd hml ⟨xe, htab, hh1, hh2, hh3, hh4⟩ hv
  obtain ⟨rfl, hsz, hG, hP, hK, hD0⟩ := hv
  subst hsz
  have hx := Bd.exec
  have hb := Bd.bytes
  have hr := Bd.returns
  have hts := atoms_spec (ws := wsL_fault) Bd.pre
  have hw : ∀ w ∈ BIG, w.before _ s = true := fun w h => hts w (List.mem_cons_of_mem _ h)
  have hown : s.vm.findClass RL = some m.cls := findClass_of_methodNamed Bd.named
  have hlocks := Bd.notSynchronized
  have hD := hD0.self (sz := s.heap.size)
  obtain ⟨A, hAe⟩ : ∃ A, A = va_A [(x0, .inr (3, [.ref h0, .ref t0, .ref r0]))] s.heap.size := ⟨_, rfl⟩
  have hA : ∀ q : Nat, s.heap.size ≤ q → A q := fun q h => by rw [hAe]; exact Or.inr h
  rw [← hAe] at hG hD
  have hS : va_S A s.heap s.heap [] := va_S.rf
  have hl := lv_entry ([.ref x0, .int x9, .ref lo]) (n := 4) (Nat.le_of_ble_eq_true rfl)
  rw [lg_entry_eq]
  generalize (lg_sl ([.ref x0, .int x9, .ref lo]) ++ List.replicate (4 - (lg_sl ([.ref x0, .int x9, .ref lo])).length) Slot.unset).toArray = ls at hl ⊢
  have hl : lv_has ls 4 [(0, .ref x0), (1, .int x9), (2, .ref lo)] := hl
  refine zq_name (fun Q hQ => ?_)
  change W p l e rm_h_fault_bad s m _ below meth c _ _ _ _ Q _
  refine lv_aload_n hx hb dL_fault_0 rfl (lv_at hl 2 rfl) ?_
  refine lv_iconst (v := nI 0) hx hb dL_fault_1 (by decide) ?_
  refine lv_aload_n hx hb dL_fault_2 rfl (lv_at hl 0 rfl) ?_
  refine lv_iload_n hx hb dL_fault_3 rfl (lv_at hl 1 rfl) ?_
  refine zx_runV (As := [.int x9]) (rest := [.int (nI 0), .ref lo]) ⟨hx, hb, hml, hown, hw⟩ (x_fault l dC dI x0 h0 t0 r0 cI cB x9 hx9 hfl s.heap) (cwV 1 hw (gV w_ml_L_54 w_im_C_fault w_se_C_fault w_in_C w_co_C_fault) rfl rfl rfl (by decide +kernel) ⟨Nat.le_of_ble_eq_true rfl, Nat.le_of_ble_eq_true rfl⟩) (zT_V hG hA hS (hP.sub (ws' := [(x0, .inr (3, [.ref h0, .ref t0, .ref r0]))]) [0] rfl) (hK.sub (tys' := [(cI, .int), (cB, .byte)]) [0, 1] rfl) 0 rfl rfl) rfl rfl hl.1 rfl (lv_room (Nat.le_of_ble_eq_true rfl)) dL_fault_4 ⟨Nat.le_of_ble_eq_true rfl, Nat.le_of_ble_eq_true rfl⟩ (fun xa9 ce H9 hz9 hk9 hx1 hx2 hx3 => ?_)
  refine zx_catch hown htab (by rw [hh1, hh2]; exact ⟨Nat.le_of_ble_eq_true rfl, Nat.le_of_ble_eq_true rfl⟩) (by rw [hh4]; decide) (by rw [hh4]; exact hw _ w_cl_L_13) hx1 hx2 hx3 rfl ?_
  refine W.eq (g2 := F0 m 12 ls [.ref xa9]) (by rw [hh3]) ?_
  have hP := hP.kept (H1 := H9) (fun k q h9 => hk9 _ ((hP k q h9).lt))
  have hS := zx_S hS hz9 hk9
  have hP : va_P (dC, dI) vwCl [(x0, .inr (3, [.ref h0, .ref t0, .ref r0]))] H9 := hP
  have hD : va_D A [(x0, .inr (3, [.ref h0, .ref t0, .ref r0]))] := hD
  refine lv_astore_n (lv' := [(3, .ref xa9), (0, .ref x0), (1, .int x9), (2, .ref lo)]) hx hb dL_fault_12 rfl hl (by decide) rfl (fun ls hl => ?_)
  refine lv_iconst (v := nI 1) hx hb dL_fault_13 (by decide) ?_
  subst hAe
  subst hQ
  exact W.iret (v := nI 1) hx hb hr (fun t ht hW => ⟨⟨nI 1, (), rfl, rfl, by rw [ht]; exact hP.sub [0] rfl, hD.sub [0] (by decide) rfl⟩, hS.F ht⟩) hS.2.2 dL_fault_14
