def rm_c_C_bytesOfDigits : Room := ({ frames := 0, cells := 0, slots := 0, locals := 0 } : Room)
set_option maxHeartbeats 4000000 in
set_option maxRecDepth 100000 in
theorem c_C_bytesOfDigits (l : Launch) (dC : Nat → ClassId) (dI : Nat → Nat → Nat) (cI : ClassId) (cB : ClassId) (n : Nat) (hn : n < 1000) (Hc : Heap) : Met l yC_bytesOfDigits wsC_bytesOfDigits rm_c_C_bytesOfDigits (zR (dC, dI) [(cI, .int), (cB, .byte)] [.int (nI n)] [] Hc) (zRi Hc (fun r => r = nI ((n + 1) / 2))) 0 0 zNo := by
  refine Met.ofW (cc := cC_bytesOfDigits) (maxL := 1) (ret := (some .int)) (by decide) rfl ?_
  intro p e s m args below meth c s₁ Bd hml hv
  obtain ⟨rfl, hH, hG, hP, hK⟩ := hv
  subst hH
  have hx := Bd.exec
  have hb := Bd.bytes
  have hr := Bd.returns
  have hts := atoms_spec (ws := wsC_bytesOfDigits) Bd.pre
  have hw : ∀ w ∈ BIG, w.before _ s = true := fun w h => hts w (List.mem_cons_of_mem _ h)
  have hown : s.vm.findClass RC = some m.cls := findClass_of_methodNamed Bd.named
  have hlocks := Bd.notSynchronized
  have hS : va_S zNo s.heap s.heap [] := va_S.rf
  have hl := lv_entry ([.int (nI n)]) (n := 1) (Nat.le_of_ble_eq_true rfl)
  rw [lg_entry_eq]
  generalize (lg_sl ([.int (nI n)]) ++ List.replicate (1 - (lg_sl ([.int (nI n)])).length) Slot.unset).toArray = ls at hl ⊢
  have hl : lv_has ls 1 [(0, .int (nI n))] := hl
  refine zq_name (fun Q hQ => ?_)
  change W p l e rm_c_C_bytesOfDigits s m _ below meth c _ _ _ _ Q _
  refine lv_iload_n hx hb dC_bytesOfDigits_0 rfl (lv_at hl 0 rfl) ?_
  refine lv_iconst (v := nI 1) hx hb dC_bytesOfDigits_1 (by decide) ?_
  refine zi_add hx hb dC_bytesOfDigits_2 ?_
  refine lv_iconst (v := nI 2) hx hb dC_bytesOfDigits_3 (by decide) ?_
  refine zi_div hx hb (by omega) (by omega) (by omega) dC_bytesOfDigits_4 ?_
  subst hQ
  exact W.iret (v := nI ((n + 1) / 2)) hx hb hr (fun t ht hW => ⟨⟨nI ((n + 1) / 2), (), rfl, rfl, ht⟩, hS.F ht⟩) hS.2.2 dC_bytesOfDigits_5
def rm_c_C_mapByte : Room := ({ frames := 0, cells := 0, slots := 0, locals := 0 } : Room)
set_option maxHeartbeats 4000000 in
set_option maxRecDepth 100000 in
theorem c_C_mapByte (l : Launch) (dC : Nat → ClassId) (dI : Nat → Nat → Nat) (cI : ClassId) (cB : ClassId) (n : Nat) (hn : 1 ≤ n) (hn2 : n < 1000) (Hc : Heap) : Met l yC_mapByte wsC_mapByte rm_c_C_mapByte (zR (dC, dI) [(cI, .int), (cB, .byte)] [.int (nI n)] [] Hc) (zRi Hc (fun r => r = nI ((n - 1) / 8))) 0 0 zNo := by
  refine Met.ofW (cc := cC_mapByte) (maxL := 1) (ret := (some .int)) (by decide) rfl ?_
  intro p e s m args below meth c s₁ Bd hml hv
  obtain ⟨rfl, hH, hG, hP, hK⟩ := hv
  subst hH
  have hx := Bd.exec
  have hb := Bd.bytes
  have hr := Bd.returns
  have hts := atoms_spec (ws := wsC_mapByte) Bd.pre
  have hw : ∀ w ∈ BIG, w.before _ s = true := fun w h => hts w (List.mem_cons_of_mem _ h)
  have hown : s.vm.findClass RC = some m.cls := findClass_of_methodNamed Bd.named
  have hlocks := Bd.notSynchronized
  have hS : va_S zNo s.heap s.heap [] := va_S.rf
  have hl := lv_entry ([.int (nI n)]) (n := 1) (Nat.le_of_ble_eq_true rfl)
  rw [lg_entry_eq]
  generalize (lg_sl ([.int (nI n)]) ++ List.replicate (1 - (lg_sl ([.int (nI n)])).length) Slot.unset).toArray = ls at hl ⊢
  have hl : lv_has ls 1 [(0, .int (nI n))] := hl
  refine zq_name (fun Q hQ => ?_)
  change W p l e rm_c_C_mapByte s m _ below meth c _ _ _ _ Q _
  refine lv_iload_n hx hb dC_mapByte_0 rfl (lv_at hl 0 rfl) ?_
  refine lv_iconst (v := nI 1) hx hb dC_mapByte_1 (by decide) ?_
  refine zi_sub hx hb (by omega) dC_mapByte_2 ?_
  refine lv_bipush (v := nI 8) hx hb dC_mapByte_3 (by decide) ?_
  refine zi_div hx hb (by omega) (by omega) (by omega) dC_mapByte_5 ?_
  subst hQ
  exact W.iret (v := nI ((n - 1) / 8)) hx hb hr (fun t ht hW => ⟨⟨nI ((n - 1) / 8), (), rfl, rfl, ht⟩, hS.F ht⟩) hS.2.2 dC_mapByte_6
def rm_c_C_mapBit : Room := ({ frames := 0, cells := 0, slots := 0, locals := 0 } : Room)
set_option maxHeartbeats 4000000 in
set_option maxRecDepth 100000 in
theorem c_C_mapBit (l : Launch) (dC : Nat → ClassId) (dI : Nat → Nat → Nat) (cI : ClassId) (cB : ClassId) (n : Nat) (hn : 1 ≤ n) (hn2 : n < 1000) (Hc : Heap) : Met l yC_mapBit wsC_mapBit rm_c_C_mapBit (zR (dC, dI) [(cI, .int), (cB, .byte)] [.int (nI n)] [] Hc) (zRi Hc (fun r => r = nI (128 / 2 ^ ((n - 1) % 8)))) 0 0 zNo := by
  refine Met.ofW (cc := cC_mapBit) (maxL := 1) (ret := (some .int)) (by decide) rfl ?_
  intro p e s m args below meth c s₁ Bd hml hv
  obtain ⟨rfl, hH, hG, hP, hK⟩ := hv
  subst hH
  have hx := Bd.exec
  have hb := Bd.bytes
  have hr := Bd.returns
  have hts := atoms_spec (ws := wsC_mapBit) Bd.pre
  have hw : ∀ w ∈ BIG, w.before _ s = true := fun w h => hts w (List.mem_cons_of_mem _ h)
  have hown : s.vm.findClass RC = some m.cls := findClass_of_methodNamed Bd.named
  have hlocks := Bd.notSynchronized
  have hS : va_S zNo s.heap s.heap [] := va_S.rf
  have hl := lv_entry ([.int (nI n)]) (n := 1) (Nat.le_of_ble_eq_true rfl)
  rw [lg_entry_eq]
  generalize (lg_sl ([.int (nI n)]) ++ List.replicate (1 - (lg_sl ([.int (nI n)])).length) Slot.unset).toArray = ls at hl ⊢
  have hl : lv_has ls 1 [(0, .int (nI n))] := hl
  refine zq_name (fun Q hQ => ?_)
  change W p l e rm_c_C_mapBit s m _ below meth c _ _ _ _ Q _
  refine lv_sipush (v := nI 128) hx hb dC_mapBit_0 (by decide) ?_
  refine lv_iload_n hx hb dC_mapBit_3 rfl (lv_at hl 0 rfl) ?_
  refine lv_iconst (v := nI 1) hx hb dC_mapBit_4 (by decide) ?_
  refine zi_sub hx hb (by omega) dC_mapBit_5 ?_
  refine lv_bipush (v := nI 8) hx hb dC_mapBit_6 (by decide) ?_
  refine zi_rem hx hb (by omega) (by omega) (by omega) dC_mapBit_8 ?_
  refine lv_ishr hx hb dC_mapBit_9 ?_
  refine zi_v (b := nI (128 / 2 ^ ((n - 1) % 8))) (shr_N (by decide) (by omega)) ?_
  subst hQ
  exact W.iret (v := nI (128 / 2 ^ ((n - 1) % 8))) hx hb hr (fun t ht hW => ⟨⟨nI (128 / 2 ^ ((n - 1) % 8)), (), rfl, rfl, ht⟩, hS.F ht⟩) hS.2.2 dC_mapBit_10
