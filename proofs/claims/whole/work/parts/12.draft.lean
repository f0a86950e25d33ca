def rm_c_D_has : Room := ({ frames := 0, cells := 0, slots := 0, locals := 0 } : Room)
set_option maxHeartbeats 4000000 in
set_option maxRecDepth 100000 in
theorem c_D_has (l : Launch) (dC : Nat → ClassId) (dI : Nat → Nat → Nat) (h0 : Nat) (h1 : Nat) (h2 : Nat) (cI : ClassId) (cB : ClassId) (ty : Nat) (cnt : Nat → Nat) (k : Nat) (hk : k < 16) (hb9 : cnt k < 2 ^ 31) (Hc : Heap) : Met l yD_has wsD_has rm_c_D_has (zR (dC, dI) [(cI, .int), (cB, .byte)] [.ref h0, .int (nI k)] [(h0, .inr (0, [.int (nI ty), .ref h1, .ref h2])), (h1, .inl (cI, 16, .inl (aN cnt)))] Hc) (zRi Hc (fun r => r = nI (hz (cnt k)))) 0 0 zNo := by
  refine Met.ofW (cc := cD_has) (maxL := 2) (ret := (some .boolean)) (by decide) rfl ?_
  intro p e s m args below meth c s₁ Bd hml hv
  obtain ⟨rfl, hH, hG, hP, hK⟩ := hv
  subst hH
  have hx := Bd.exec
  have hb := Bd.bytes
  have hr := Bd.returns
  have hts := atoms_spec (ws := wsD_has) Bd.pre
  have hw : ∀ w ∈ BIG, w.before _ s = true := fun w h => hts w (List.mem_cons_of_mem _ h)
  have hown : s.vm.findClass RD = some m.cls := findClass_of_methodNamed Bd.named
  have hlocks := Bd.notSynchronized
  have hS : va_S zNo s.heap s.heap [] := va_S.rf
  have hl := lv_entry ([.ref h0, .int (nI k)]) (n := 2) (Nat.le_of_ble_eq_true rfl)
  rw [lg_entry_eq]
  generalize (lg_sl ([.ref h0, .int (nI k)]) ++ List.replicate (2 - (lg_sl ([.ref h0, .int (nI k)])).length) Slot.unset).toArray = ls at hl ⊢
  have hl : lv_has ls 2 [(0, .ref h0), (1, .int (nI k))] := hl
  refine zq_name (fun Q hQ => ?_)
  change W p l e rm_c_D_has s m _ below meth c _ _ _ _ Q _
  refine lv_aload_n hx hb dD_has_0 rfl (lv_at hl 0 rfl) ?_
  refine va_get (D := (dC, dI)) (ci := 0) (v := .ref h1) (C := RD) (T := TD) (N := 3) hx hb hw inD hown hK hP 0 rfl rfl 1 (by decide) (hw _ w_fl_D_15) (fun _ h9 => h9) rfl dD_has_1 ?_
  refine lv_iload_n hx hb dD_has_4 rfl (lv_at hl 1 rfl) ?_
  refine za_ild hx hb hK hP 1 0 rfl rfl (by omega) (by decide) dD_has_5 ?_
  refine zi_eq0 (tgt := 13) hx hb (by omega) dD_has_6 (by decide) (fun c_6 => ?_) (fun c_6 => ?_)
  · refine lv_iconst (v := nI 0) hx hb dD_has_13 (by decide) ?_
    subst hQ
    exact W.zret (v := nI 0) hx hb hr (by decide) (fun t ht hW => ⟨⟨nI 0, (), rfl, (by unfold hz; rw [if_pos c_6]), ht⟩, hS.F ht⟩) hS.2.2 dD_has_14
  · refine lv_iconst (v := nI 1) hx hb dD_has_9 (by decide) ?_
    refine lv_goto (tgt := 14) hx hb dD_has_10 (by decide) ?_
    subst hQ
    exact W.zret (v := nI 1) hx hb hr (by decide) (fun t ht hW => ⟨⟨nI 1, (), rfl, (by unfold hz; rw [if_neg c_6]), ht⟩, hS.F ht⟩) hS.2.2 dD_has_14
def rm_c_D_restart : Room := ({ frames := 0, cells := 0, slots := 0, locals := 0 } : Room)
set_option maxHeartbeats 4000000 in
set_option maxRecDepth 100000 in
theorem c_D_restart (l : Launch) (dC : Nat → ClassId) (dI : Nat → Nat → Nat) (h0 : Nat) (h1 : Nat) (h2 : Nat) (cI : ClassId) (cB : ClassId) (ty : Nat) (cnt : Nat → Nat) (mk : Nat → Nat) (ty2 : Nat) (sz : Nat) : Met l yD_restart wsD_restart rm_c_D_restart (zM (dC, dI) [(cI, .int), (cB, .byte)] [.ref h0, .int (nI ty2)] [(h0, .inr (0, [.int (nI ty), .ref h1, .ref h2])), (h1, .inl (cI, 16, .inl (aN cnt))), (h2, .inl (cB, 208, .inl (aN mk)))] sz) (zMv (dC, dI) [(h0, .inr (0, [.int (nI ty), .ref h1, .ref h2])), (h1, .inl (cI, 16, .inl (aN cnt))), (h2, .inl (cB, 208, .inl (aN mk)))] [(h0, .inr (0, [.int (nI ty2), .ref h1, .ref h2])), (h1, .inl (cI, 16, .inl (aN (zc cnt 16)))), (h2, .inl (cB, 208, .inl (aN mk)))] sz (True)) 0 0 (va_A [(h0, .inr (0, [.int (nI ty), .ref h1, .ref h2])), (h1, .inl (cI, 16, .inl (aN cnt))), (h2, .inl (cB, 208, .inl (aN mk)))] sz) := by
  refine Met.ofW (cc := cD_restart) (maxL := 3) (ret := none) (by decide) rfl ?_
  intro p e s m args below meth c s₁ Bd hml hv
  obtain ⟨rfl, hsz, hG, hP, hK, hD0⟩ := hv
  subst hsz
  have hx := Bd.exec
  have hb := Bd.bytes
  have hr := Bd.returns
  have hts := atoms_spec (ws := wsD_restart) Bd.pre
  have hw : ∀ w ∈ BIG, w.before _ s = true := fun w h => hts w (List.mem_cons_of_mem _ h)
  have hown : s.vm.findClass RD = some m.cls := findClass_of_methodNamed Bd.named
  have hlocks := Bd.notSynchronized
  have hD := hD0.self (sz := s.heap.size)
  obtain ⟨A, hAe⟩ : ∃ A, A = va_A [(h0, .inr (0, [.int (nI ty), .ref h1, .ref h2])), (h1, .inl (cI, 16, .inl (aN cnt))), (h2, .inl (cB, 208, .inl (aN mk)))] s.heap.size := ⟨_, rfl⟩
  have hA : ∀ q : Nat, s.heap.size ≤ q → A q := fun q h => by rw [hAe]; exact Or.inr h
  rw [← hAe] at hG hD
  have hS : va_S A s.heap s.heap [] := va_S.rf
  have hl := lv_entry ([.ref h0, .int (nI ty2)]) (n := 3) (Nat.le_of_ble_eq_true rfl)
  rw [lg_entry_eq]
  generalize (lg_sl ([.ref h0, .int (nI ty2)]) ++ List.replicate (3 - (lg_sl ([.ref h0, .int (nI ty2)])).length) Slot.unset).toArray = ls at hl ⊢
  have hl : lv_has ls 3 [(0, .ref h0), (1, .int (nI ty2))] := hl
  refine zq_name (fun Q hQ => ?_)
  change W p l e rm_c_D_restart s m _ below meth c _ _ _ _ Q _
  refine lv_aload_n hx hb dD_restart_0 rfl (lv_at hl 0 rfl) ?_
  refine lv_iload_n hx hb dD_restart_1 rfl (lv_at hl 1 rfl) ?_
  refine va_put (D := (dC, dI)) (ci := 0) (v := .int (nI ty2)) (ty := .int) (C := RD) (T := TD) (N := 3) hx hb hw inD tyD tyD_ok nmD hown hK hP hD hS 0 rfl rfl 0 (by decide) (hw _ w_fl_D_9) (fun _ h9 => h9) rfl (by decide +kernel) rfl rfl (Nat.le_of_ble_eq_true rfl) dD_restart_2 (fun H locs hP hD hS => ?_)
  have hP : va_P (dC, dI) vwCl [(h0, .inr (0, [.int (nI ty2), .ref h1, .ref h2])), (h1, .inl (cI, 16, .inl (aN cnt))), (h2, .inl (cB, 208, .inl (aN mk)))] H := hP
  have hD : va_D A [(h0, .inr (0, [.int (nI ty2), .ref h1, .ref h2])), (h1, .inl (cI, 16, .inl (aN cnt))), (h2, .inl (cB, 208, .inl (aN mk)))] := hD
  refine lv_iconst (v := nI 0) hx hb dD_restart_5 (by decide) ?_
  refine lv_istore_n (lv' := [(2, .int (nI 0)), (0, .ref h0), (1, .int (nI ty2))]) hx hb dD_restart_6 rfl hl (by decide) rfl (fun ls hl => ?_)
  have lp_7 : ∀ (fu : Nat) (k : Nat) (f : Nat → Nat) (hk : k ≤ 16) (hf : f = zc cnt k) (hms : 16 - k < fu) (H : Heap) (locs : List Loc) (ls : Array Slot), lv_has ls 3 [(0, .ref h0), (1, .int (nI ty2)), (2, .int (nI k))] → va_P (dC, dI) vwCl [(h0, .inr (0, [.int (nI ty2), .ref h1, .ref h2])), (h1, .inl (cI, 16, .inl (aN f))), (h2, .inl (cB, 208, .inl (aN mk)))] H → va_D A [(h0, .inr (0, [.int (nI ty2), .ref h1, .ref h2])), (h1, .inl (cI, 16, .inl (aN f))), (h2, .inl (cB, 208, .inl (aN mk)))] → va_S A s.heap H locs → W p l e rm_c_D_restart s m ([.ref h0, .int (nI ty2)] : List Value).toArray below meth c H locs 0 0 Q (F0 m 7 ls []) := by
    intro fu
    induction fu with
    | zero => intro k f hk hf hms; exact absurd hms (Nat.not_lt_zero _)
    | succ fu ih7 =>
      intro k f hk hf hms H locs ls hl hP hD hS
      refine lv_iload_n hx hb dD_restart_7 rfl (lv_at hl 2 rfl) ?_
      refine lv_bipush (v := nI 16) hx hb dD_restart_8 (by decide) ?_
      refine zi_ge (tgt := 26) hx hb (by omega) (by omega) dD_restart_10 (by decide) (fun c_10 => ?_) (fun c_10 => ?_)
      · obtain rfl : k = 16 := by omega
        subst hf
        subst hAe
        subst hQ
        exact W.vret hx hb hr (fun t ht hW => ⟨⟨(), rfl, trivial, by rw [ht]; exact hP.sub [0, 1, 2] rfl, hD.sub [0, 1, 2] (by decide) rfl⟩, hS.F ht⟩) hS.2.2 dD_restart_26
      · refine lv_aload_n hx hb dD_restart_13 rfl (lv_at hl 0 rfl) ?_
        refine va_get (D := (dC, dI)) (ci := 0) (v := .ref h1) (C := RD) (T := TD) (N := 3) hx hb hw inD hown hK hP 0 rfl rfl 1 (by decide) (hw _ w_fl_D_15) (fun _ h9 => h9) rfl dD_restart_14 ?_
        refine lv_iload_n hx hb dD_restart_17 rfl (lv_at hl 2 rfl) ?_
        refine lv_iconst (v := nI 0) hx hb dD_restart_18 (by decide) ?_
        refine za_ist hx hb hK hP hD hS 1 0 rfl rfl (by omega) (by decide) dD_restart_19 (fun H locs hP hD hS => ?_)
        have hP : va_P (dC, dI) vwCl [(h0, .inr (0, [.int (nI ty2), .ref h1, .ref h2])), (h1, .inl (cI, 16, .inl (aN (nup f k 0)))), (h2, .inl (cB, 208, .inl (aN mk)))] H := hP
        have hD : va_D A [(h0, .inr (0, [.int (nI ty2), .ref h1, .ref h2])), (h1, .inl (cI, 16, .inl (aN (nup f k 0)))), (h2, .inl (cB, 208, .inl (aN mk)))] := hD
        refine lv_iinc (v := nI (k + 1)) (lv' := [(2, .int (nI (k + 1))), (0, .ref h0), (1, .int (nI ty2))]) hx hb dD_restart_20 hl (k := 2) rfl (zi_incr k 1) (by decide) rfl (fun ls hl => ?_)
        refine lv_goto (tgt := 7) hx hb dD_restart_23 (by decide) ?_
        exact ih7 (k + 1) (nup f k 0) (by omega) (by rw [hf]; exact zc_s cnt k) (by omega) _ _ _ (lv_sub hl [1, 2, 0] rfl) (hP.sub [0, 1, 2] rfl) (hD.sub [0, 1, 2] (by decide) rfl) hS
  exact lp_7 ((16 - 0) + 1) 0 cnt (by omega) (zc_0 cnt) (Nat.lt_succ_self _) _ _ _ (lv_sub hl [1, 2, 0] rfl) (hP.sub [0, 1, 2] rfl) (hD.sub [0, 1, 2] (by decide) rfl) hS
def rm_c_D_become : Room := ({ frames := 1, cells := 0, slots := 0, locals := 26 } : Room)
set_option maxHeartbeats 4000000 in
set_option maxRecDepth 100000 in
theorem c_D_become (l : Launch) (dC : Nat → ClassId) (dI : Nat → Nat → Nat) (h0 : Nat) (h1 : Nat) (h2 : Nat) (cI : ClassId) (cB : ClassId) (ty : Nat) (cnt : Nat → Nat) (mk : Nat → Nat) (g0 : Nat) (g1 : Nat) (g2 : Nat) (ty2 : Nat) (cnt2 : Nat → Nat) (mk2 : Nat → Nat) (hm : ∀ j, mk2 j < 128) (sz : Nat) : Met l yD_become wsD_become rm_c_D_become (zM (dC, dI) [(cI, .int), (cB, .byte)] [.ref h0, .ref g0] [(h0, .inr (0, [.int (nI ty), .ref h1, .ref h2])), (h1, .inl (cI, 16, .inl (aN cnt))), (h2, .inl (cB, 208, .inl (aN mk))), (g0, .inr (0, [.int (nI ty2), .ref g1, .ref g2])), (g1, .inl (cI, 16, .inl (aN cnt2))), (g2, .inl (cB, 208, .inl (aN mk2)))] sz) (zMv (dC, dI) [(h0, .inr (0, [.int (nI ty), .ref h1, .ref h2])), (h1, .inl (cI, 16, .inl (aN cnt))), (h2, .inl (cB, 208, .inl (aN mk))), (g0, .inr (0, [.int (nI ty2), .ref g1, .ref g2])), (g1, .inl (cI, 16, .inl (aN cnt2))), (g2, .inl (cB, 208, .inl (aN mk2)))] [(h0, .inr (0, [.int (nI ty2), .ref h1, .ref h2])), (h1, .inl (cI, 16, .inl (aN (cp cnt2 cnt 16)))), (h2, .inl (cB, 208, .inl (aN (cp mk2 mk 208)))), (g0, .inr (0, [.int (nI ty2), .ref g1, .ref g2])), (g1, .inl (cI, 16, .inl (aN cnt2))), (g2, .inl (cB, 208, .inl (aN mk2)))] sz (True)) 0 0 (va_A [(h0, .inr (0, [.int (nI ty), .ref h1, .ref h2])), (h1, .inl (cI, 16, .inl (aN cnt))), (h2, .inl (cB, 208, .inl (aN mk))), (g0, .inr (0, [.int (nI ty2), .ref g1, .ref g2])), (g1, .inl (cI, 16, .inl (aN cnt2))), (g2, .inl (cB, 208, .inl (aN mk2)))] sz) := by
  refine Met.ofW (cc := cD_become) (maxL := 2) (ret := none) (by decide) rfl ?_
  intro p e s m args below meth c s₁ Bd hml hv
  obtain ⟨rfl, hsz, hG, hP, hK, hD0⟩ := hv
  subst hsz
  have hx := Bd.exec
  have hb := Bd.bytes
  have hr := Bd.returns
  have hts := atoms_spec (ws := wsD_become) Bd.pre
  have hw : ∀ w ∈ BIG, w.before _ s = true := fun w h => hts w (List.mem_cons_of_mem _ h)
  have hown : s.vm.findClass RD = some m.cls := findClass_of_methodNamed Bd.named
  have hlocks := Bd.notSynchronized
  have hD := hD0.self (sz := s.heap.size)
  obtain ⟨A, hAe⟩ : ∃ A, A = va_A [(h0, .inr (0, [.int (nI ty), .ref h1, .ref h2])), (h1, .inl (cI, 16, .inl (aN cnt))), (h2, .inl (cB, 208, .inl (aN mk))), (g0, .inr (0, [.int (nI ty2), .ref g1, .ref g2])), (g1, .inl (cI, 16, .inl (aN cnt2))), (g2, .inl (cB, 208, .inl (aN mk2)))] s.heap.size := ⟨_, rfl⟩
  have hA : ∀ q : Nat, s.heap.size ≤ q → A q := fun q h => by rw [hAe]; exact Or.inr h
  rw [← hAe] at hG hD
  have hS : va_S A s.heap s.heap [] := va_S.rf
  have hl := lv_entry ([.ref h0, .ref g0]) (n := 2) (Nat.le_of_ble_eq_true rfl)
  rw [lg_entry_eq]
  generalize (lg_sl ([.ref h0, .ref g0]) ++ List.replicate (2 - (lg_sl ([.ref h0, .ref g0])).length) Slot.unset).toArray = ls at hl ⊢
  have hl : lv_has ls 2 [(0, .ref h0), (1, .ref g0)] := hl
  refine zq_name (fun Q hQ => ?_)
  change W p l e rm_c_D_become s m _ below meth c _ _ _ _ Q _
  refine lv_aload_n hx hb dD_become_0 rfl (lv_at hl 0 rfl) ?_
  refine lv_aload_n hx hb dD_become_1 rfl (lv_at hl 1 rfl) ?_
  refine va_get (D := (dC, dI)) (ci := 0) (v := .int (nI ty2)) (C := RD) (T := TD) (N := 3) hx hb hw inD hown hK hP 3 rfl rfl 0 (by decide) (hw _ w_fl_D_9) (fun _ h9 => h9) rfl dD_become_2 ?_
  refine va_put (D := (dC, dI)) (ci := 0) (v := .int (nI ty2)) (ty := .int) (C := RD) (T := TD) (N := 3) hx hb hw inD tyD tyD_ok nmD hown hK hP hD hS 0 rfl rfl 0 (by decide) (hw _ w_fl_D_9) (fun _ h9 => h9) rfl (by decide +kernel) rfl rfl (Nat.le_of_ble_eq_true rfl) dD_become_5 (fun H locs hP hD hS => ?_)
  have hP : va_P (dC, dI) vwCl [(h0, .inr (0, [.int (nI ty2), .ref h1, .ref h2])), (h1, .inl (cI, 16, .inl (aN cnt))), (h2, .inl (cB, 208, .inl (aN mk))), (g0, .inr (0, [.int (nI ty2), .ref g1, .ref g2])), (g1, .inl (cI, 16, .inl (aN cnt2))), (g2, .inl (cB, 208, .inl (aN mk2)))] H := hP
  have hD : va_D A [(h0, .inr (0, [.int (nI ty2), .ref h1, .ref h2])), (h1, .inl (cI, 16, .inl (aN cnt))), (h2, .inl (cB, 208, .inl (aN mk))), (g0, .inr (0, [.int (nI ty2), .ref g1, .ref g2])), (g1, .inl (cI, 16, .inl (aN cnt2))), (g2, .inl (cB, 208, .inl (aN mk2)))] := hD
  refine lv_aload_n hx hb dD_become_8 rfl (lv_at hl 1 rfl) ?_
  refine va_get (D := (dC, dI)) (ci := 0) (v := .ref g1) (C := RD) (T := TD) (N := 3) hx hb hw inD hown hK hP 3 rfl rfl 1 (by decide) (hw _ w_fl_D_15) (fun _ h9 => h9) rfl dD_become_9 ?_
  refine lv_iconst (v := nI 0) hx hb dD_become_12 (by decide) ?_
  refine lv_aload_n hx hb dD_become_13 rfl (lv_at hl 0 rfl) ?_
  refine va_get (D := (dC, dI)) (ci := 0) (v := .ref h1) (C := RD) (T := TD) (N := 3) hx hb hw inD hown hK hP 0 rfl rfl 1 (by decide) (hw _ w_fl_D_15) (fun _ h9 => h9) rfl dD_become_14 ?_
  refine lv_iconst (v := nI 0) hx hb dD_become_17 (by decide) ?_
  refine lv_bipush (v := nI 16) hx hb dD_become_18 (by decide) ?_
  refine va_copyi hx hb (by rw [hml]; exact hl.1.symm) hown (hw _ w_ml_D_23) (hw _ w_na_copy) (hw _ w_st_copy) (hw _ w_in_System) hK hP hD hS 4 1 0 0 rfl rfl rfl rfl rfl (by decide) (by decide) (by decide) (by decide) (by decide) (fun i hi => rfl) (Nat.le_of_ble_eq_true rfl) (Nat.le_of_ble_eq_true rfl) dD_become_20 (fun H locs hP hD hS => ?_)
  rw [cp_N _ _ (by decide)] at hP hD
  have hP : va_P (dC, dI) vwCl [(h0, .inr (0, [.int (nI ty2), .ref h1, .ref h2])), (h1, .inl (cI, 16, .inl (aN (cp cnt2 cnt 16)))), (h2, .inl (cB, 208, .inl (aN mk))), (g0, .inr (0, [.int (nI ty2), .ref g1, .ref g2])), (g1, .inl (cI, 16, .inl (aN cnt2))), (g2, .inl (cB, 208, .inl (aN mk2)))] H := hP
  have hD : va_D A [(h0, .inr (0, [.int (nI ty2), .ref h1, .ref h2])), (h1, .inl (cI, 16, .inl (aN (cp cnt2 cnt 16)))), (h2, .inl (cB, 208, .inl (aN mk))), (g0, .inr (0, [.int (nI ty2), .ref g1, .ref g2])), (g1, .inl (cI, 16, .inl (aN cnt2))), (g2, .inl (cB, 208, .inl (aN mk2)))] := hD
  refine lv_aload_n hx hb dD_become_23 rfl (lv_at hl 1 rfl) ?_
  refine va_get (D := (dC, dI)) (ci := 0) (v := .ref g2) (C := RD) (T := TD) (N := 3) hx hb hw inD hown hK hP 3 rfl rfl 2 (by decide) (hw _ w_fl_D_19) (fun _ h9 => h9) rfl dD_become_24 ?_
  refine lv_iconst (v := nI 0) hx hb dD_become_27 (by decide) ?_
  refine lv_aload_n hx hb dD_become_28 rfl (lv_at hl 0 rfl) ?_
  refine va_get (D := (dC, dI)) (ci := 0) (v := .ref h2) (C := RD) (T := TD) (N := 3) hx hb hw inD hown hK hP 0 rfl rfl 2 (by decide) (hw _ w_fl_D_19) (fun _ h9 => h9) rfl dD_become_29 ?_
  refine lv_iconst (v := nI 0) hx hb dD_become_32 (by decide) ?_
  refine lv_sipush (v := nI 208) hx hb dD_become_33 (by decide) ?_
  refine va_copyi hx hb (by rw [hml]; exact hl.1.symm) hown (hw _ w_ml_D_23) (hw _ w_na_copy) (hw _ w_st_copy) (hw _ w_in_System) hK hP hD hS 5 2 1 1 rfl rfl rfl rfl rfl (by decide) (by decide) (by decide) (by decide) (by decide) (fun i _ => fit_small (hm _)) (Nat.le_of_ble_eq_true rfl) (Nat.le_of_ble_eq_true rfl) dD_become_36 (fun H locs hP hD hS => ?_)
  rw [cp_N _ _ (by decide)] at hP hD
  have hP : va_P (dC, dI) vwCl [(h0, .inr (0, [.int (nI ty2), .ref h1, .ref h2])), (h1, .inl (cI, 16, .inl (aN (cp cnt2 cnt 16)))), (h2, .inl (cB, 208, .inl (aN (cp mk2 mk 208)))), (g0, .inr (0, [.int (nI ty2), .ref g1, .ref g2])), (g1, .inl (cI, 16, .inl (aN cnt2))), (g2, .inl (cB, 208, .inl (aN mk2)))] H := hP
  have hD : va_D A [(h0, .inr (0, [.int (nI ty2), .ref h1, .ref h2])), (h1, .inl (cI, 16, .inl (aN (cp cnt2 cnt 16)))), (h2, .inl (cB, 208, .inl (aN (cp mk2 mk 208)))), (g0, .inr (0, [.int (nI ty2), .ref g1, .ref g2])), (g1, .inl (cI, 16, .inl (aN cnt2))), (g2, .inl (cB, 208, .inl (aN mk2)))] := hD
  subst hAe
  subst hQ
  exact W.vret hx hb hr (fun t ht hW => ⟨⟨(), rfl, trivial, by rw [ht]; exact hP.sub [0, 1, 2, 3, 4, 5] rfl, hD.sub [0, 1, 2, 3, 4, 5] (by decide) rfl⟩, hS.F ht⟩) hS.2.2 dD_become_39
def rm_c_D_fieldCount : Room := ({ frames := 1, cells := 0, slots := 0, locals := 21 } : Room)
set_option maxHeartbeats 4000000 in
set_option maxRecDepth 100000 in
theorem c_D_fieldCount (l : Launch) (dC : Nat → ClassId) (dI : Nat → Nat → Nat) (h0 : Nat) (h1 : Nat) (h2 : Nat) (cI : ClassId) (cB : ClassId) (ty : Nat) (cnt : Nat → Nat) (hb9 : ∀ j, j < 16 → cnt j < 2 ^ 31) (Hc : Heap) : Met l yD_fieldCount wsD_fieldCount rm_c_D_fieldCount (zR (dC, dI) [(cI, .int), (cB, .byte)] [.ref h0] [(h0, .inr (0, [.int (nI ty), .ref h1, .ref h2])), (h1, .inl (cI, 16, .inl (aN cnt)))] Hc) (zRi Hc (fun r => r = nI (fc cnt 16))) 0 0 zNo := by
  refine Met.ofW (cc := cD_fieldCount) (maxL := 3) (ret := (some .int)) (by decide) rfl ?_
  intro p e s m args below meth c s₁ Bd hml hv
  obtain ⟨rfl, hH, hG, hP, hK⟩ := hv
  subst hH
  have hx := Bd.exec
  have hb := Bd.bytes
  have hr := Bd.returns
  have hts := atoms_spec (ws := wsD_fieldCount) Bd.pre
  have hw : ∀ w ∈ BIG, w.before _ s = true := fun w h => hts w (List.mem_cons_of_mem _ h)
  have hown : s.vm.findClass RD = some m.cls := findClass_of_methodNamed Bd.named
  have hlocks := Bd.notSynchronized
  have hS : va_S zNo s.heap s.heap [] := va_S.rf
  have hl := lv_entry ([.ref h0]) (n := 3) (Nat.le_of_ble_eq_true rfl)
  rw [lg_entry_eq]
  generalize (lg_sl ([.ref h0]) ++ List.replicate (3 - (lg_sl ([.ref h0])).length) Slot.unset).toArray = ls at hl ⊢
  have hl : lv_has ls 3 [(0, .ref h0)] := hl
  refine zq_name (fun Q hQ => ?_)
  change W p l e rm_c_D_fieldCount s m _ below meth c _ _ _ _ Q _
  refine lv_iconst (v := nI 0) hx hb dD_fieldCount_0 (by decide) ?_
  refine lv_istore_n (lv' := [(1, .int (nI 0)), (0, .ref h0)]) hx hb dD_fieldCount_1 rfl hl (by decide) rfl (fun ls hl => ?_)
  refine lv_iconst (v := nI 0) hx hb dD_fieldCount_2 (by decide) ?_
  refine lv_istore_n (lv' := [(2, .int (nI 0)), (1, .int (nI 0)), (0, .ref h0)]) hx hb dD_fieldCount_3 rfl hl (by decide) rfl (fun ls hl => ?_)
  have lp_4 : ∀ (fu : Nat) (k : Nat) (n1 : Nat) (hk : k ≤ 16) (hn : n1 = fc cnt k) (hms : 16 - k < fu) (locs : List Loc) (ls : Array Slot), lv_has ls 3 [(0, .ref h0), (1, .int (nI n1)), (2, .int (nI k))] → va_S zNo s.heap s.heap locs → W p l e rm_c_D_fieldCount s m ([.ref h0] : List Value).toArray below meth c s.heap locs 0 0 Q (F0 m 4 ls []) := by
    intro fu
    induction fu with
    | zero => intro k n1 hk hn hms; exact absurd hms (Nat.not_lt_zero _)
    | succ fu ih4 =>
      intro k n1 hk hn hms locs ls hl hS
      refine lv_iload_n hx hb dD_fieldCount_4 rfl (lv_at hl 2 rfl) ?_
      refine lv_bipush (v := nI 16) hx hb dD_fieldCount_5 (by decide) ?_
      refine zi_ge (tgt := 27) hx hb (by omega) (by omega) dD_fieldCount_7 (by decide) (fun c_7 => ?_) (fun c_7 => ?_)
      · refine lv_iload_n hx hb dD_fieldCount_27 rfl (lv_at hl 1 rfl) ?_
        subst hQ
        exact W.iret (v := nI n1) hx hb hr (fun t ht hW => ⟨⟨nI n1, (), rfl, (by rw [hn, show k = 16 by omega]), ht⟩, hS.F ht⟩) hS.2.2 dD_fieldCount_28
      · refine lv_aload_n hx hb dD_fieldCount_10 rfl (lv_at hl 0 rfl) ?_
        refine lv_iload_n hx hb dD_fieldCount_11 rfl (lv_at hl 2 rfl) ?_
        refine zc_Ri (va_runV (As := [.int (nI k)]) (rest := []) ⟨hx, hb, hml, hown, hw⟩ (c_D_has l dC dI h0 h1 h2 cI cB ty cnt k (by omega) (hb9 k (by omega)) s.heap) (cwV 1 hw (gV w_ml_D_29 w_im_D_has w_se_D_has w_in_D w_co_D_has) rfl rfl rfl (by decide +kernel) ⟨Nat.le_of_ble_eq_true rfl, Nat.le_of_ble_eq_true rfl⟩) (zR_V hG hS (hP.sub (ws' := [(h0, .inr (0, [.int (nI ty), .ref h1, .ref h2])), (h1, .inl (cI, 16, .inl (aN cnt)))]) [0, 1] rfl) hK 0 rfl rfl) rfl rfl hl.1 rfl (lv_room (Nat.le_of_ble_eq_true rfl)) dD_fieldCount_12 ⟨Nat.le_of_ble_eq_true rfl, Nat.le_of_ble_eq_true rfl⟩) hS (fun r_1 locs h_12 hS => ?_)
        subst h_12
        refine zi_eq0 (tgt := 21) hx hb (hz_lt _) dD_fieldCount_15 (by decide) (fun c_15 => ?_) (fun c_15 => ?_)
        · refine lv_iinc (v := nI (k + 1)) (lv' := [(2, .int (nI (k + 1))), (0, .ref h0), (1, .int (nI n1))]) hx hb dD_fieldCount_21 hl (k := 2) rfl (zi_incr k 1) (by decide) rfl (fun ls hl => ?_)
          refine lv_goto (tgt := 4) hx hb dD_fieldCount_24 (by decide) ?_
          exact ih4 (k + 1) n1 (by omega) (by rw [hn]; show _ = fc cnt k + hz (cnt k); have := hz_le (cnt k); omega) (by omega) _ _ (lv_sub hl [1, 2, 0] rfl) hS
        · refine lv_iinc (v := nI (n1 + 1)) (lv' := [(1, .int (nI (n1 + 1))), (0, .ref h0), (2, .int (nI k))]) hx hb dD_fieldCount_18 hl (k := 1) rfl (zi_incr n1 1) (by decide) rfl (fun ls hl => ?_)
          refine lv_iinc (v := nI (k + 1)) (lv' := [(2, .int (nI (k + 1))), (1, .int (nI (n1 + 1))), (0, .ref h0)]) hx hb dD_fieldCount_21 hl (k := 2) rfl (zi_incr k 1) (by decide) rfl (fun ls hl => ?_)
          refine lv_goto (tgt := 4) hx hb dD_fieldCount_24 (by decide) ?_
          exact ih4 (k + 1) (n1 + 1) (by omega) (by rw [hn]; show _ = fc cnt k + hz (cnt k); have := hz_le (cnt k); omega) (by omega) _ _ (lv_sub hl [2, 1, 0] rfl) hS
  exact lp_4 ((16 - 0) + 1) 0 0 (by omega) rfl (Nat.lt_succ_self _) _ _ (lv_sub hl [2, 1, 0] rfl) hS
def rm_c_D_mark : Room := ({ frames := 0, cells := 0, slots := 0, locals := 0 } : Room)
set_option maxHeartbeats 4000000 in
set_option maxRecDepth 100000 in
theorem c_D_mark (l : Launch) (dC : Nat → ClassId) (dI : Nat → Nat → Nat) (h0 : Nat) (h1 : Nat) (h2 : Nat) (cI : ClassId) (cB : ClassId) (ty : Nat) (mk : Nat → Nat) (sl : Nat) (k : Nat) (hs : sl < 16) (hk : fFM sl + k < 208) (Hc : Heap) : Met l yD_mark wsD_mark rm_c_D_mark (zR (dC, dI) [(cI, .int), (cB, .byte)] [.ref h0, .int (nI sl), .int (nI k)] [(h0, .inr (0, [.int (nI ty), .ref h1, .ref h2])), (h2, .inl (cB, 208, .inl (aN mk)))] Hc) (zRi Hc (fun r => r = nI (mk (fFM sl + k)))) 0 0 zNo := by
  refine Met.ofW (cc := cD_mark) (maxL := 3) (ret := (some .int)) (by decide) rfl ?_
  intro p e s m args below meth c s₁ Bd hml hv
  obtain ⟨rfl, hH, hG, hP, hK⟩ := hv
  subst hH
  have hx := Bd.exec
  have hb := Bd.bytes
  have hr := Bd.returns
  have hts := atoms_spec (ws := wsD_mark) Bd.pre
  have hw : ∀ w ∈ BIG, w.before _ s = true := fun w h => hts w (List.mem_cons_of_mem _ h)
  have hown : s.vm.findClass RD = some m.cls := findClass_of_methodNamed Bd.named
  have hlocks := Bd.notSynchronized
  have hS : va_S zNo s.heap s.heap [] := va_S.rf
  have hl := lv_entry ([.ref h0, .int (nI sl), .int (nI k)]) (n := 3) (Nat.le_of_ble_eq_true rfl)
  rw [lg_entry_eq]
  generalize (lg_sl ([.ref h0, .int (nI sl), .int (nI k)]) ++ List.replicate (3 - (lg_sl ([.ref h0, .int (nI sl), .int (nI k)])).length) Slot.unset).toArray = ls at hl ⊢
  have hl : lv_has ls 3 [(0, .ref h0), (1, .int (nI sl)), (2, .int (nI k))] := hl
  refine zq_name (fun Q hQ => ?_)
  change W p l e rm_c_D_mark s m _ below meth c _ _ _ _ Q _
  obtain ⟨tfFM, zfFM, afFM⟩ := hG.FIRST_MARK
  refine lv_aload_n hx hb dD_mark_0 rfl (lv_at hl 0 rfl) ?_
  refine va_get (D := (dC, dI)) (ci := 0) (v := .ref h2) (C := RD) (T := TD) (N := 3) hx hb hw inD hown hK hP 0 rfl rfl 2 (by decide) (hw _ w_fl_D_19) (fun _ h9 => h9) rfl dD_mark_1 ?_
  refine va_getsN hx hb zfFM hS hown (va_Nw.use rfl (hG.nf (RD, 33, "FIRST_MARK") (List.mem_of_getElem? (i := 3) rfl))) (fun _ h9 => h9) dD_mark_4 ?_
  refine lv_iload_n hx hb dD_mark_7 rfl (lv_at hl 1 rfl) ?_
  refine za_tab hx hb afFM hS (by omega) (by decide) dD_mark_8 ?_
  refine lv_iload_n hx hb dD_mark_9 rfl (lv_at hl 2 rfl) ?_
  refine zi_add hx hb dD_mark_10 ?_
  refine za_bld hx hb hK hP 1 1 rfl rfl (by omega) (by decide) dD_mark_11 ?_
  subst hQ
  exact W.iret (v := nI (mk ((fFM sl) + k))) hx hb hr (fun t ht hW => ⟨⟨nI (mk ((fFM sl) + k)), (), rfl, rfl, ht⟩, hS.F ht⟩) hS.2.2 dD_mark_12
def rm_c_D_setMark : Room := ({ frames := 0, cells := 0, slots := 0, locals := 0 } : Room)
set_option maxHeartbeats 4000000 in
set_option maxRecDepth 100000 in
theorem c_D_setMark (l : Launch) (dC : Nat → ClassId) (dI : Nat → Nat → Nat) (h0 : Nat) (h1 : Nat) (h2 : Nat) (cI : ClassId) (cB : ClassId) (ty : Nat) (mk : Nat → Nat) (sl : Nat) (k : Nat) (v : Nat) (hs : sl < 16) (hk : fFM sl + k < 208) (hv : v < 128) (sz : Nat) : Met l yD_setMark wsD_setMark rm_c_D_setMark (zM (dC, dI) [(cI, .int), (cB, .byte)] [.ref h0, .int (nI sl), .int (nI k), .int (nI v)] [(h0, .inr (0, [.int (nI ty), .ref h1, .ref h2])), (h2, .inl (cB, 208, .inl (aN mk)))] sz) (zMv (dC, dI) [(h0, .inr (0, [.int (nI ty), .ref h1, .ref h2])), (h2, .inl (cB, 208, .inl (aN mk)))] [(h0, .inr (0, [.int (nI ty), .ref h1, .ref h2])), (h2, .inl (cB, 208, .inl (aN (nup mk (fFM sl + k) v))))] sz (True)) 0 0 (va_A [(h0, .inr (0, [.int (nI ty), .ref h1, .ref h2])), (h2, .inl (cB, 208, .inl (aN mk)))] sz) := by
  refine Met.ofW (cc := cD_setMark) (maxL := 4) (ret := none) (by decide) rfl ?_
  intro p e s m args below meth c s₁ Bd hml hv
  obtain ⟨rfl, hsz, hG, hP, hK, hD0⟩ := hv
  subst hsz
  have hx := Bd.exec
  have hb := Bd.bytes
  have hr := Bd.returns
  have hts := atoms_spec (ws := wsD_setMark) Bd.pre
  have hw : ∀ w ∈ BIG, w.before _ s = true := fun w h => hts w (List.mem_cons_of_mem _ h)
  have hown : s.vm.findClass RD = some m.cls := findClass_of_methodNamed Bd.named
  have hlocks := Bd.notSynchronized
  have hD := hD0.self (sz := s.heap.size)
  obtain ⟨A, hAe⟩ : ∃ A, A = va_A [(h0, .inr (0, [.int (nI ty), .ref h1, .ref h2])), (h2, .inl (cB, 208, .inl (aN mk)))] s.heap.size := ⟨_, rfl⟩
  have hA : ∀ q : Nat, s.heap.size ≤ q → A q := fun q h => by rw [hAe]; exact Or.inr h
  rw [← hAe] at hG hD
  have hS : va_S A s.heap s.heap [] := va_S.rf
  have hl := lv_entry ([.ref h0, .int (nI sl), .int (nI k), .int (nI v)]) (n := 4) (Nat.le_of_ble_eq_true rfl)
  rw [lg_entry_eq]
  generalize (lg_sl ([.ref h0, .int (nI sl), .int (nI k), .int (nI v)]) ++ List.replicate (4 - (lg_sl ([.ref h0, .int (nI sl), .int (nI k), .int (nI v)])).length) Slot.unset).toArray = ls at hl ⊢
  have hl : lv_has ls 4 [(0, .ref h0), (1, .int (nI sl)), (2, .int (nI k)), (3, .int (nI v))] := hl
  refine zq_name (fun Q hQ => ?_)
  change W p l e rm_c_D_setMark s m _ below meth c _ _ _ _ Q _
  obtain ⟨tfFM, zfFM, afFM⟩ := hG.FIRST_MARK
  refine lv_aload_n hx hb dD_setMark_0 rfl (lv_at hl 0 rfl) ?_
  refine va_get (D := (dC, dI)) (ci := 0) (v := .ref h2) (C := RD) (T := TD) (N := 3) hx hb hw inD hown hK hP 0 rfl rfl 2 (by decide) (hw _ w_fl_D_19) (fun _ h9 => h9) rfl dD_setMark_1 ?_
  refine va_getsN hx hb zfFM hS hown (va_Nw.use rfl (hG.nf (RD, 33, "FIRST_MARK") (List.mem_of_getElem? (i := 3) rfl))) (fun _ h9 => h9) dD_setMark_4 ?_
  refine lv_iload_n hx hb dD_setMark_7 rfl (lv_at hl 1 rfl) ?_
  refine za_tab hx hb afFM hS (by omega) (by decide) dD_setMark_8 ?_
  refine lv_iload_n hx hb dD_setMark_9 rfl (lv_at hl 2 rfl) ?_
  refine zi_add hx hb dD_setMark_10 ?_
  refine lv_iload_n hx hb dD_setMark_11 rfl (lv_at hl 3 rfl) ?_
  refine zi_bs hx hb (by omega) dD_setMark_12 ?_
  refine za_bst hx hb hK hP hD hS 1 1 rfl rfl (by omega) (by decide) (by omega) dD_setMark_13 (fun H locs hP hD hS => ?_)
  have hP : va_P (dC, dI) vwCl [(h0, .inr (0, [.int (nI ty), .ref h1, .ref h2])), (h2, .inl (cB, 208, .inl (aN (nup mk ((fFM sl) + k) v))))] H := hP
  have hD : va_D A [(h0, .inr (0, [.int (nI ty), .ref h1, .ref h2])), (h2, .inl (cB, 208, .inl (aN (nup mk ((fFM sl) + k) v))))] := hD
  subst hAe
  subst hQ
  exact W.vret hx hb hr (fun t ht hW => ⟨⟨(), rfl, trivial, by rw [ht]; exact hP.sub [0, 1] rfl, hD.sub [0, 1] (by decide) rfl⟩, hS.F ht⟩) hS.2.2 dD_setMark_14
def rm_c_D_setDigits : Room := ({ frames := 1, cells := 0, slots := 0, locals := 23 } : Room)
set_option maxHeartbeats 4000000 in
set_option maxRecDepth 100000 in
theorem c_D_setDigits (l : Launch) (dC : Nat → ClassId) (dI : Nat → Nat → Nat) (h0 : Nat) (h1 : Nat) (h2 : Nat) (cI : ClassId) (cB : ClassId) (ty : Nat) (mk : Nat → Nat) (sl : Nat) (fr : Nat) (ct : Nat) (v : Nat) (hs : sl < 16) (hk : fFM sl + fr + ct ≤ 208) (hv : v < 2 ^ 63) (sz : Nat) : Met l yD_setDigits wsD_setDigits rm_c_D_setDigits (zM (dC, dI) [(cI, .int), (cB, .byte)] [.ref h0, .int (nI sl), .int (nI fr), .int (nI ct), .long (lN v)] [(h0, .inr (0, [.int (nI ty), .ref h1, .ref h2])), (h2, .inl (cB, 208, .inl (aN mk)))] sz) (zMv (dC, dI) [(h0, .inr (0, [.int (nI ty), .ref h1, .ref h2])), (h2, .inl (cB, 208, .inl (aN mk)))] [(h0, .inr (0, [.int (nI ty), .ref h1, .ref h2])), (h2, .inl (cB, 208, .inl (aN (ds mk (fFM sl + fr) ct v))))] sz (True)) 0 0 (va_A [(h0, .inr (0, [.int (nI ty), .ref h1, .ref h2])), (h2, .inl (cB, 208, .inl (aN mk)))] sz) := by
  refine Met.ofW (cc := cD_setDigits) (maxL := 9) (ret := none) (by decide) rfl ?_
  intro p e s m args below meth c s₁ Bd hml hv
  obtain ⟨rfl, hsz, hG, hP, hK, hD0⟩ := hv
  subst hsz
  have hx := Bd.exec
  have hb := Bd.bytes
  have hr := Bd.returns
  have hts := atoms_spec (ws := wsD_setDigits) Bd.pre
  have hw : ∀ w ∈ BIG, w.before _ s = true := fun w h => hts w (List.mem_cons_of_mem _ h)
  have hown : s.vm.findClass RD = some m.cls := findClass_of_methodNamed Bd.named
  have hlocks := Bd.notSynchronized
  have hD := hD0.self (sz := s.heap.size)
  obtain ⟨A, hAe⟩ : ∃ A, A = va_A [(h0, .inr (0, [.int (nI ty), .ref h1, .ref h2])), (h2, .inl (cB, 208, .inl (aN mk)))] s.heap.size := ⟨_, rfl⟩
  have hA : ∀ q : Nat, s.heap.size ≤ q → A q := fun q h => by rw [hAe]; exact Or.inr h
  rw [← hAe] at hG hD
  have hS : va_S A s.heap s.heap [] := va_S.rf
  have hl := lv_entry ([.ref h0, .int (nI sl), .int (nI fr), .int (nI ct), .long (lN v)]) (n := 9) (Nat.le_of_ble_eq_true rfl)
  rw [lg_entry_eq]
  generalize (lg_sl ([.ref h0, .int (nI sl), .int (nI fr), .int (nI ct), .long (lN v)]) ++ List.replicate (9 - (lg_sl ([.ref h0, .int (nI sl), .int (nI fr), .int (nI ct), .long (lN v)])).length) Slot.unset).toArray = ls at hl ⊢
  have hl : lv_has ls 9 [(0, .ref h0), (1, .int (nI sl)), (2, .int (nI fr)), (3, .int (nI ct)), (4, .long (lN v))] := hl
  refine zq_name (fun Q hQ => ?_)
  change W p l e rm_c_D_setDigits s m _ below meth c _ _ _ _ Q _
  refine lv_lload hx hb dD_setDigits_0 (lv_at hl 4 rfl) ?_
  refine lv_lstore (lv' := [(6, .long (lN v)), (0, .ref h0), (1, .int (nI sl)), (2, .int (nI fr)), (3, .int (nI ct)), (4, .long (lN v))]) hx hb dD_setDigits_2 hl (by decide) rfl (fun ls hl => ?_)
  refine lv_iload_n hx hb dD_setDigits_4 rfl (lv_at hl 3 rfl) ?_
  refine lv_iload_n hx hb dD_setDigits_5 rfl (lv_at hl 4 rfl) ?_
  refine zi_add hx hb dD_setDigits_6 ?_
  refine lv_iconst (v := nI 1) hx hb dD_setDigits_7 (by decide) ?_
  refine lv_isub hx hb dD_setDigits_8 ?_
  refine lv_istore (lv' := [(8, .int ((nI (fr + ct)) - (nI 1))), (6, .long (lN v)), (0, .ref h0), (1, .int (nI sl)), (2, .int (nI fr)), (3, .int (nI ct)), (4, .long (lN v))]) hx hb dD_setDigits_9 hl (by decide) rfl (fun ls hl => ?_)
  have lp_11 : ∀ (fu : Nat) (n : Nat) (r : Nat) (f : Nat → Nat) (hn : n ≤ ct) (hr9 : r < 2 ^ 63) (hi : ds f (fFM sl + fr) n r = ds mk (fFM sl + fr) ct v) (hms : n < fu) (H : Heap) (locs : List Loc) (ls : Array Slot), lv_has ls 9 [(0, .ref h0), (1, .int (nI sl)), (2, .int (nI fr)), (3, .int (nI ct)), (6, .long (lN r)), (8, .int (pm (fr + n)))] → va_P (dC, dI) vwCl [(h0, .inr (0, [.int (nI ty), .ref h1, .ref h2])), (h2, .inl (cB, 208, .inl (aN f)))] H → va_D A [(h0, .inr (0, [.int (nI ty), .ref h1, .ref h2])), (h2, .inl (cB, 208, .inl (aN f)))] → va_S A s.heap H locs → W p l e rm_c_D_setDigits s m ([.ref h0, .int (nI sl), .int (nI fr), .int (nI ct), .long (lN v)] : List Value).toArray below meth c H locs 0 0 Q (F0 m 11 ls []) := by
    intro fu
    induction fu with
    | zero => intro n r f hn hr9 hi hms; exact absurd hms (Nat.not_lt_zero _)
    | succ fu ih11 =>
      intro n r f hn hr9 hi hms H locs ls hl hP hD hS
      refine lv_iload hx hb dD_setDigits_11 (lv_at hl 5 rfl) ?_
      refine lv_iload_n hx hb dD_setDigits_13 rfl (lv_at hl 2 rfl) ?_
      refine lv_icmp_lt (tgt := 45) hx hb dD_setDigits_14 (by decide) (fun c_14 => ?_) (fun c_14 => ?_)
      · obtain rfl : n = 0 := (pm_lt (by omega)).mp c_14
        have hi : f = ds mk (fFM sl + fr) ct v := hi
        subst hi
        subst hAe
        subst hQ
        exact W.vret hx hb hr (fun t ht hW => ⟨⟨(), rfl, trivial, by rw [ht]; exact hP.sub [0, 1] rfl, hD.sub [0, 1] (by decide) rfl⟩, hS.F ht⟩) hS.2.2 dD_setDigits_45
      · obtain ⟨n1, rfl⟩ : ∃ n1, n = n1 + 1 := ⟨n - 1, by have := mt (pm_lt (a := fr) (n := n) (by omega)).mpr c_14; omega⟩
        rw [← Nat.add_assoc, pm_s] at hl
        refine lv_aload_n hx hb dD_setDigits_17 rfl (lv_at hl 0 rfl) ?_
        refine lv_iload_n hx hb dD_setDigits_18 rfl (lv_at hl 1 rfl) ?_
        refine lv_iload hx hb dD_setDigits_19 (lv_at hl 5 rfl) ?_
        refine lv_lload hx hb dD_setDigits_21 (lv_at hl 4 rfl) ?_
        refine lv_ldc2 (v := 10) hx hb hown (hw _ w_k_D_53) dD_setDigits_23 ?_
        refine zl_c (a := 10) rfl ?_
        refine zl_rem hx hb (by omega) (by omega) (by omega) dD_setDigits_26 ?_
        refine zl_i hx hb dD_setDigits_27 ?_
        have hPc := hP.sub (ws' := [(h0, .inr (0, [.int (nI ty), .ref h1, .ref h2])), (h2, .inl (cB, 208, .inl (aN f)))]) [0, 1] rfl
        have hDc := hD.sub (ws' := [(h0, .inr (0, [.int (nI ty), .ref h1, .ref h2])), (h2, .inl (cB, 208, .inl (aN f)))]) [0, 1] (by decide) rfl
        have hFc := va_free (wc := [(h0, .inr (0, [.int (nI ty), .ref h1, .ref h2])), (h2, .inl (cB, 208, .inl (aN f)))]) hD hS hA [0, 1] rfl
        refine zc_Mv (va_runV (As := [.int (nI sl), .int (nI (fr + n1)), .int (nI (r % 10))]) (rest := []) ⟨hx, hb, hml, hown, hw⟩ (c_D_setMark l dC dI h0 h1 h2 cI cB ty f sl (fr + n1) (r % 10) (by omega) (by omega) (by omega) H.size) (cwV 3 hw (gV w_ml_D_43 w_im_D_setMark w_se_D_setMark w_in_D w_co_D_setMark) rfl rfl rfl (by decide +kernel) ⟨Nat.le_of_ble_eq_true rfl, Nat.le_of_ble_eq_true rfl⟩) (zM_V hG hS hFc hPc hDc hK 0 rfl rfl) rfl rfl hl.1 rfl (lv_room (Nat.le_of_ble_eq_true rfl)) dD_setDigits_28 ⟨Nat.le_of_ble_eq_true rfl, Nat.le_of_ble_eq_true rfl⟩) hS hFc (fun H locs h_28 hP1 hD1 hk1 hS => ?_)
        obtain ⟨hP, hD⟩ := va_join (wr := []) (w1 := [(h0, .inr (0, [.int (nI ty), .ref h1, .ref h2])), (h2, .inl (cB, 208, .inl (aN (nup f (fFM sl + (fr + n1)) (r % 10)))))]) hP hD [0, 1] [] rfl rfl (by decide) (by decide) hk1 hFc hP1 hD1
        have hP : va_P (dC, dI) vwCl [(h0, .inr (0, [.int (nI ty), .ref h1, .ref h2])), (h2, .inl (cB, 208, .inl (aN (nup f (fFM sl + (fr + n1)) (r % 10)))))] H := hP
        have hD : va_D A [(h0, .inr (0, [.int (nI ty), .ref h1, .ref h2])), (h2, .inl (cB, 208, .inl (aN (nup f (fFM sl + (fr + n1)) (r % 10)))))] := hD
        refine lv_lload hx hb dD_setDigits_31 (lv_at hl 4 rfl) ?_
        refine lv_ldc2 (v := 10) hx hb hown (hw _ w_k_D_53) dD_setDigits_33 ?_
        refine zl_c (a := 10) rfl ?_
        refine zl_div hx hb (by omega) (by omega) (by omega) dD_setDigits_36 ?_
        refine lv_lstore (lv' := [(6, .long (lN (r / 10))), (0, .ref h0), (1, .int (nI sl)), (2, .int (nI fr)), (3, .int (nI ct)), (8, .int (nI (fr + n1)))]) hx hb dD_setDigits_37 hl (by decide) rfl (fun ls hl => ?_)
        refine lv_iinc (v := pm (fr + n1)) (lv' := [(8, .int (pm (fr + n1))), (6, .long (lN (r / 10))), (0, .ref h0), (1, .int (nI sl)), (2, .int (nI fr)), (3, .int (nI ct))]) hx hb dD_setDigits_39 hl (k := 5) rfl (pm_m _) (by decide) rfl (fun ls hl => ?_)
        refine lv_goto (tgt := 11) hx hb dD_setDigits_42 (by decide) ?_
        exact ih11 n1 (r / 10) (nup f (fFM sl + (fr + n1)) (r % 10)) (by omega) (by omega) (by rw [show fFM sl + (fr + n1) = fFM sl + fr + n1 by omega]; exact hi) (by omega) _ _ _ (lv_sub hl [2, 3, 4, 5, 1, 0] rfl) (hP.sub [0, 1] rfl) (hD.sub [0, 1] (by decide) rfl) hS
  exact lp_11 (ct + 1) ct v mk (by omega) (by omega) rfl (Nat.lt_succ_self _) _ _ _ (lv_sub hl [2, 3, 4, 5, 1, 0] rfl) (hP.sub [0, 1] rfl) (hD.sub [0, 1] (by decide) rfl) hS
def rm_c_D_putNumber : Room := ({ frames := 2, cells := 0, slots := 0, locals := 51 } : Room)
set_option maxHeartbeats 4000000 in
set_option maxRecDepth 100000 in
theorem c_D_putNumber (l : Launch) (dC : Nat → ClassId) (dI : Nat → Nat → Nat) (h0 : Nat) (h1 : Nat) (h2 : Nat) (cI : ClassId) (cB : ClassId) (ty : Nat) (cnt : Nat → Nat) (mk : Nat → Nat) (sl : Nat) (ct : Nat) (v : Nat) (hs : sl < 16) (hk : fFM sl + ct ≤ 208) (hv : v < 2 ^ 63) (sz : Nat) : Met l yD_putNumber wsD_putNumber rm_c_D_putNumber (zM (dC, dI) [(cI, .int), (cB, .byte)] [.ref h0, .int (nI sl), .int (nI ct), .long (lN v)] [(h0, .inr (0, [.int (nI ty), .ref h1, .ref h2])), (h1, .inl (cI, 16, .inl (aN cnt))), (h2, .inl (cB, 208, .inl (aN mk)))] sz) (zMv (dC, dI) [(h0, .inr (0, [.int (nI ty), .ref h1, .ref h2])), (h1, .inl (cI, 16, .inl (aN cnt))), (h2, .inl (cB, 208, .inl (aN mk)))] [(h0, .inr (0, [.int (nI ty), .ref h1, .ref h2])), (h1, .inl (cI, 16, .inl (aN (nup cnt sl ct)))), (h2, .inl (cB, 208, .inl (aN (ds mk (fFM sl + 0) ct v))))] sz (True)) 0 0 (va_A [(h0, .inr (0, [.int (nI ty), .ref h1, .ref h2])), (h1, .inl (cI, 16, .inl (aN cnt))), (h2, .inl (cB, 208, .inl (aN mk)))] sz) := by
  refine Met.ofW (cc := cD_putNumber) (maxL := 5) (ret := none) (by decide) rfl ?_
  intro p e s m args below meth c s₁ Bd hml hv
  obtain ⟨rfl, hsz, hG, hP, hK, hD0⟩ := hv
  subst hsz
  have hx := Bd.exec
  have hb := Bd.bytes
  have hr := Bd.returns
  have hts := atoms_spec (ws := wsD_putNumber) Bd.pre
  have hw : ∀ w ∈ BIG, w.before _ s = true := fun w h => hts w (List.mem_cons_of_mem _ h)
  have hown : s.vm.findClass RD = some m.cls := findClass_of_methodNamed Bd.named
  have hlocks := Bd.notSynchronized
  have hD := hD0.self (sz := s.heap.size)
  obtain ⟨A, hAe⟩ : ∃ A, A = va_A [(h0, .inr (0, [.int (nI ty), .ref h1, .ref h2])), (h1, .inl (cI, 16, .inl (aN cnt))), (h2, .inl (cB, 208, .inl (aN mk)))] s.heap.size := ⟨_, rfl⟩
  have hA : ∀ q : Nat, s.heap.size ≤ q → A q := fun q h => by rw [hAe]; exact Or.inr h
  rw [← hAe] at hG hD
  have hS : va_S A s.heap s.heap [] := va_S.rf
  have hl := lv_entry ([.ref h0, .int (nI sl), .int (nI ct), .long (lN v)]) (n := 5) (Nat.le_of_ble_eq_true rfl)
  rw [lg_entry_eq]
  generalize (lg_sl ([.ref h0, .int (nI sl), .int (nI ct), .long (lN v)]) ++ List.replicate (5 - (lg_sl ([.ref h0, .int (nI sl), .int (nI ct), .long (lN v)])).length) Slot.unset).toArray = ls at hl ⊢
  have hl : lv_has ls 5 [(0, .ref h0), (1, .int (nI sl)), (2, .int (nI ct)), (3, .long (lN v))] := hl
  refine zq_name (fun Q hQ => ?_)
  change W p l e rm_c_D_putNumber s m _ below meth c _ _ _ _ Q _
  refine lv_aload_n hx hb dD_putNumber_0 rfl (lv_at hl 0 rfl) ?_
  refine lv_iload_n hx hb dD_putNumber_1 rfl (lv_at hl 1 rfl) ?_
  refine lv_iconst (v := nI 0) hx hb dD_putNumber_2 (by decide) ?_
  refine lv_iload_n hx hb dD_putNumber_3 rfl (lv_at hl 2 rfl) ?_
  refine lv_lload_n hx hb dD_putNumber_4 rfl (lv_at hl 3 rfl) ?_
  have hPc := hP.sub (ws' := [(h0, .inr (0, [.int (nI ty), .ref h1, .ref h2])), (h2, .inl (cB, 208, .inl (aN mk)))]) [0, 2] rfl
  have hDc := hD.sub (ws' := [(h0, .inr (0, [.int (nI ty), .ref h1, .ref h2])), (h2, .inl (cB, 208, .inl (aN mk)))]) [0, 2] (by decide) rfl
  have hFc := va_free (wc := [(h0, .inr (0, [.int (nI ty), .ref h1, .ref h2])), (h2, .inl (cB, 208, .inl (aN mk)))]) hD hS hA [0, 2] rfl
  refine zc_Mv (va_runV (As := [.int (nI sl), .int (nI 0), .int (nI ct), .long (lN v)]) (rest := []) ⟨hx, hb, hml, hown, hw⟩ (c_D_setDigits l dC dI h0 h1 h2 cI cB ty mk sl 0 ct v (by omega) (by omega) (by omega) s.heap.size) (cwV 4 hw (gV w_ml_D_36 w_im_D_setDigits w_se_D_setDigits w_in_D w_co_D_setDigits) rfl rfl rfl (by decide +kernel) ⟨Nat.le_of_ble_eq_true rfl, Nat.le_of_ble_eq_true rfl⟩) (zM_V hG hS hFc hPc hDc hK 0 rfl rfl) rfl rfl hl.1 rfl (lv_room (Nat.le_of_ble_eq_true rfl)) dD_putNumber_5 ⟨Nat.le_of_ble_eq_true rfl, Nat.le_of_ble_eq_true rfl⟩) hS hFc (fun H locs h_5 hP1 hD1 hk1 hS => ?_)
  obtain ⟨hP, hD⟩ := va_join (wr := [(h1, .inl (cI, 16, .inl (aN cnt)))]) (w1 := [(h0, .inr (0, [.int (nI ty), .ref h1, .ref h2])), (h2, .inl (cB, 208, .inl (aN (ds mk (fFM sl + 0) ct v))))]) hP hD [0, 2] [1] rfl rfl (by decide) (by decide) hk1 hFc hP1 hD1
  have hP : va_P (dC, dI) vwCl [(h1, .inl (cI, 16, .inl (aN cnt))), (h0, .inr (0, [.int (nI ty), .ref h1, .ref h2])), (h2, .inl (cB, 208, .inl (aN (ds mk (fFM sl + 0) ct v))))] H := hP
  have hD : va_D A [(h1, .inl (cI, 16, .inl (aN cnt))), (h0, .inr (0, [.int (nI ty), .ref h1, .ref h2])), (h2, .inl (cB, 208, .inl (aN (ds mk (fFM sl + 0) ct v))))] := hD
  refine lv_aload_n hx hb dD_putNumber_8 rfl (lv_at hl 0 rfl) ?_
  refine va_get (D := (dC, dI)) (ci := 0) (v := .ref h1) (C := RD) (T := TD) (N := 3) hx hb hw inD hown hK hP 1 rfl rfl 1 (by decide) (hw _ w_fl_D_15) (fun _ h9 => h9) rfl dD_putNumber_9 ?_
  refine lv_iload_n hx hb dD_putNumber_12 rfl (lv_at hl 1 rfl) ?_
  refine lv_iload_n hx hb dD_putNumber_13 rfl (lv_at hl 2 rfl) ?_
  refine za_ist hx hb hK hP hD hS 0 0 rfl rfl (by omega) (by decide) dD_putNumber_14 (fun H locs hP hD hS => ?_)
  have hP : va_P (dC, dI) vwCl [(h1, .inl (cI, 16, .inl (aN (nup cnt sl ct)))), (h0, .inr (0, [.int (nI ty), .ref h1, .ref h2])), (h2, .inl (cB, 208, .inl (aN (ds mk (fFM sl + 0) ct v))))] H := hP
  have hD : va_D A [(h1, .inl (cI, 16, .inl (aN (nup cnt sl ct)))), (h0, .inr (0, [.int (nI ty), .ref h1, .ref h2])), (h2, .inl (cB, 208, .inl (aN (ds mk (fFM sl + 0) ct v))))] := hD
  subst hAe
  subst hQ
  exact W.vret hx hb hr (fun t ht hW => ⟨⟨(), rfl, trivial, by rw [ht]; exact hP.sub [1, 0, 2] rfl, hD.sub [1, 0, 2] (by decide) rfl⟩, hS.F ht⟩) hS.2.2 dD_putNumber_15
def rm_c_D_putOriginal : Room := ({ frames := 2, cells := 0, slots := 0, locals := 51 } : Room)
set_option maxHeartbeats 4000000 in
set_option maxRecDepth 100000 in
theorem c_D_putOriginal (l : Launch) (dC : Nat → ClassId) (dI : Nat → Nat → Nat) (h0 : Nat) (h1 : Nat) (h2 : Nat) (cI : ClassId) (cB : ClassId) (ty : Nat) (cnt : Nat → Nat) (mk : Nat → Nat) (a1 : Nat) (a2 : Nat) (a3 : Nat) (ha1 : a1 < 2 ^ 31) (ha2 : a2 < 2 ^ 31) (ha3 : a3 < 2 ^ 31) (sz : Nat) : Met l yD_putOriginal wsD_putOriginal rm_c_D_putOriginal (zM (dC, dI) [(cI, .int), (cB, .byte)] [.ref h0, .int (nI a1), .int (nI a2), .int (nI a3)] [(h0, .inr (0, [.int (nI ty), .ref h1, .ref h2])), (h1, .inl (cI, 16, .inl (aN cnt))), (h2, .inl (cB, 208, .inl (aN mk)))] sz) (zMv (dC, dI) [(h0, .inr (0, [.int (nI ty), .ref h1, .ref h2])), (h1, .inl (cI, 16, .inl (aN cnt))), (h2, .inl (cB, 208, .inl (aN mk)))] [(h0, .inr (0, [.int (nI ty), .ref h1, .ref h2])), (h1, .inl (cI, 16, .inl (aN (nup cnt 14 (fMM 14))))), (h2, .inl (cB, 208, .inl (aN (ds (ds (ds (ds (ds mk (fFM 14 + 0) 4 a1) (fFM 14 + 4) 6 a2) (fFM 14 + 10) 10 0) (fFM 14 + 20) 11 a3) (fFM 14 + 31) 11 0))))] sz (True)) 0 0 (va_A [(h0, .inr (0, [.int (nI ty), .ref h1, .ref h2])), (h1, .inl (cI, 16, .inl (aN cnt))), (h2, .inl (cB, 208, .inl (aN mk)))] sz) := by
  refine Met.ofW (cc := cD_putOriginal) (maxL := 4) (ret := none) (by decide) rfl ?_
  intro p e s m args below meth c s₁ Bd hml hv
  obtain ⟨rfl, hsz, hG, hP, hK, hD0⟩ := hv
  subst hsz
  have hx := Bd.exec
  have hb := Bd.bytes
  have hr := Bd.returns
  have hts := atoms_spec (ws := wsD_putOriginal) Bd.pre
  have hw : ∀ w ∈ BIG, w.before _ s = true := fun w h => hts w (List.mem_cons_of_mem _ h)
  have hown : s.vm.findClass RD = some m.cls := findClass_of_methodNamed Bd.named
  have hlocks := Bd.notSynchronized
  have hD := hD0.self (sz := s.heap.size)
  obtain ⟨A, hAe⟩ : ∃ A, A = va_A [(h0, .inr (0, [.int (nI ty), .ref h1, .ref h2])), (h1, .inl (cI, 16, .inl (aN cnt))), (h2, .inl (cB, 208, .inl (aN mk)))] s.heap.size := ⟨_, rfl⟩
  have hA : ∀ q : Nat, s.heap.size ≤ q → A q := fun q h => by rw [hAe]; exact Or.inr h
  rw [← hAe] at hG hD
  have hS : va_S A s.heap s.heap [] := va_S.rf
  have hl := lv_entry ([.ref h0, .int (nI a1), .int (nI a2), .int (nI a3)]) (n := 4) (Nat.le_of_ble_eq_true rfl)
  rw [lg_entry_eq]
  generalize (lg_sl ([.ref h0, .int (nI a1), .int (nI a2), .int (nI a3)]) ++ List.replicate (4 - (lg_sl ([.ref h0, .int (nI a1), .int (nI a2), .int (nI a3)])).length) Slot.unset).toArray = ls at hl ⊢
  have hl : lv_has ls 4 [(0, .ref h0), (1, .int (nI a1)), (2, .int (nI a2)), (3, .int (nI a3))] := hl
  refine zq_name (fun Q hQ => ?_)
  change W p l e rm_c_D_putOriginal s m _ below meth c _ _ _ _ Q _
  obtain ⟨tfMM, zfMM, afMM⟩ := hG.MOST_MARKS
  have h14 : fFM 14 = 154 := rfl
  refine lv_aload_n hx hb dD_putOriginal_0 rfl (lv_at hl 0 rfl) ?_
  refine lv_bipush (v := nI 14) hx hb dD_putOriginal_1 (by decide) ?_
  refine lv_iconst (v := nI 0) hx hb dD_putOriginal_3 (by decide) ?_
  refine lv_iconst (v := nI 4) hx hb dD_putOriginal_4 (by decide) ?_
  refine lv_iload_n hx hb dD_putOriginal_5 rfl (lv_at hl 1 rfl) ?_
  refine zi_l hx hb (by omega) dD_putOriginal_6 ?_
  have hPc := hP.sub (ws' := [(h0, .inr (0, [.int (nI ty), .ref h1, .ref h2])), (h2, .inl (cB, 208, .inl (aN mk)))]) [0, 2] rfl
  have hDc := hD.sub (ws' := [(h0, .inr (0, [.int (nI ty), .ref h1, .ref h2])), (h2, .inl (cB, 208, .inl (aN mk)))]) [0, 2] (by decide) rfl
  have hFc := va_free (wc := [(h0, .inr (0, [.int (nI ty), .ref h1, .ref h2])), (h2, .inl (cB, 208, .inl (aN mk)))]) hD hS hA [0, 2] rfl
  refine zc_Mv (va_runV (As := [.int (nI 14), .int (nI 0), .int (nI 4), .long (lN a1)]) (rest := []) ⟨hx, hb, hml, hown, hw⟩ (c_D_setDigits l dC dI h0 h1 h2 cI cB ty mk 14 0 4 a1 (by omega) (by omega) (by omega) s.heap.size) (cwV 4 hw (gV w_ml_D_36 w_im_D_setDigits w_se_D_setDigits w_in_D w_co_D_setDigits) rfl rfl rfl (by decide +kernel) ⟨Nat.le_of_ble_eq_true rfl, Nat.le_of_ble_eq_true rfl⟩) (zM_V hG hS hFc hPc hDc hK 0 rfl rfl) rfl rfl hl.1 rfl (lv_room (Nat.le_of_ble_eq_true rfl)) dD_putOriginal_7 ⟨Nat.le_of_ble_eq_true rfl, Nat.le_of_ble_eq_true rfl⟩) hS hFc (fun H locs h_7 hP1 hD1 hk1 hS => ?_)
  obtain ⟨hP, hD⟩ := va_join (wr := [(h1, .inl (cI, 16, .inl (aN cnt)))]) (w1 := [(h0, .inr (0, [.int (nI ty), .ref h1, .ref h2])), (h2, .inl (cB, 208, .inl (aN (ds mk (fFM 14 + 0) 4 a1))))]) hP hD [0, 2] [1] rfl rfl (by decide) (by decide) hk1 hFc hP1 hD1
  have hP : va_P (dC, dI) vwCl [(h1, .inl (cI, 16, .inl (aN cnt))), (h0, .inr (0, [.int (nI ty), .ref h1, .ref h2])), (h2, .inl (cB, 208, .inl (aN (ds mk (fFM 14 + 0) 4 a1))))] H := hP
  have hD : va_D A [(h1, .inl (cI, 16, .inl (aN cnt))), (h0, .inr (0, [.int (nI ty), .ref h1, .ref h2])), (h2, .inl (cB, 208, .inl (aN (ds mk (fFM 14 + 0) 4 a1))))] := hD
  refine lv_aload_n hx hb dD_putOriginal_10 rfl (lv_at hl 0 rfl) ?_
  refine lv_bipush (v := nI 14) hx hb dD_putOriginal_11 (by decide) ?_
  refine lv_iconst (v := nI 4) hx hb dD_putOriginal_13 (by decide) ?_
  refine lv_bipush (v := nI 6) hx hb dD_putOriginal_14 (by decide) ?_
  refine lv_iload_n hx hb dD_putOriginal_16 rfl (lv_at hl 2 rfl) ?_
  refine zi_l hx hb (by omega) dD_putOriginal_17 ?_
  have hPc := hP.sub (ws' := [(h0, .inr (0, [.int (nI ty), .ref h1, .ref h2])), (h2, .inl (cB, 208, .inl (aN (ds mk (fFM 14 + 0) 4 a1))))]) [1, 2] rfl
  have hDc := hD.sub (ws' := [(h0, .inr (0, [.int (nI ty), .ref h1, .ref h2])), (h2, .inl (cB, 208, .inl (aN (ds mk (fFM 14 + 0) 4 a1))))]) [1, 2] (by decide) rfl
  have hFc := va_free (wc := [(h0, .inr (0, [.int (nI ty), .ref h1, .ref h2])), (h2, .inl (cB, 208, .inl (aN (ds mk (fFM 14 + 0) 4 a1))))]) hD hS hA [1, 2] rfl
  refine zc_Mv (va_runV (As := [.int (nI 14), .int (nI 4), .int (nI 6), .long (lN a2)]) (rest := []) ⟨hx, hb, hml, hown, hw⟩ (c_D_setDigits l dC dI h0 h1 h2 cI cB ty (ds mk (fFM 14 + 0) 4 a1) 14 4 6 a2 (by omega) (by omega) (by omega) H.size) (cwV 4 hw (gV w_ml_D_36 w_im_D_setDigits w_se_D_setDigits w_in_D w_co_D_setDigits) rfl rfl rfl (by decide +kernel) ⟨Nat.le_of_ble_eq_true rfl, Nat.le_of_ble_eq_true rfl⟩) (zM_V hG hS hFc hPc hDc hK 0 rfl rfl) rfl rfl hl.1 rfl (lv_room (Nat.le_of_ble_eq_true rfl)) dD_putOriginal_18 ⟨Nat.le_of_ble_eq_true rfl, Nat.le_of_ble_eq_true rfl⟩) hS hFc (fun H locs h_18 hP1 hD1 hk1 hS => ?_)
  obtain ⟨hP, hD⟩ := va_join (wr := [(h1, .inl (cI, 16, .inl (aN cnt)))]) (w1 := [(h0, .inr (0, [.int (nI ty), .ref h1, .ref h2])), (h2, .inl (cB, 208, .inl (aN (ds (ds mk (fFM 14 + 0) 4 a1) (fFM 14 + 4) 6 a2))))]) hP hD [1, 2] [0] rfl rfl (by decide) (by decide) hk1 hFc hP1 hD1
  have hP : va_P (dC, dI) vwCl [(h1, .inl (cI, 16, .inl (aN cnt))), (h0, .inr (0, [.int (nI ty), .ref h1, .ref h2])), (h2, .inl (cB, 208, .inl (aN (ds (ds mk (fFM 14 + 0) 4 a1) (fFM 14 + 4) 6 a2))))] H := hP
  have hD : va_D A [(h1, .inl (cI, 16, .inl (aN cnt))), (h0, .inr (0, [.int (nI ty), .ref h1, .ref h2])), (h2, .inl (cB, 208, .inl (aN (ds (ds mk (fFM 14 + 0) 4 a1) (fFM 14 + 4) 6 a2))))] := hD
  refine lv_aload_n hx hb dD_putOriginal_21 rfl (lv_at hl 0 rfl) ?_
  refine lv_bipush (v := nI 14) hx hb dD_putOriginal_22 (by decide) ?_
  refine lv_bipush (v := nI 10) hx hb dD_putOriginal_24 (by decide) ?_
  refine lv_bipush (v := nI 10) hx hb dD_putOriginal_26 (by decide) ?_
  refine lv_lconst (v := lN 0) hx hb dD_putOriginal_28 (by decide) ?_
  have hPc := hP.sub (ws' := [(h0, .inr (0, [.int (nI ty), .ref h1, .ref h2])), (h2, .inl (cB, 208, .inl (aN (ds (ds mk (fFM 14 + 0) 4 a1) (fFM 14 + 4) 6 a2))))]) [1, 2] rfl
  have hDc := hD.sub (ws' := [(h0, .inr (0, [.int (nI ty), .ref h1, .ref h2])), (h2, .inl (cB, 208, .inl (aN (ds (ds mk (fFM 14 + 0) 4 a1) (fFM 14 + 4) 6 a2))))]) [1, 2] (by decide) rfl
  have hFc := va_free (wc := [(h0, .inr (0, [.int (nI ty), .ref h1, .ref h2])), (h2, .inl (cB, 208, .inl (aN (ds (ds mk (fFM 14 + 0) 4 a1) (fFM 14 + 4) 6 a2))))]) hD hS hA [1, 2] rfl
  refine zc_Mv (va_runV (As := [.int (nI 14), .int (nI 10), .int (nI 10), .long (lN 0)]) (rest := []) ⟨hx, hb, hml, hown, hw⟩ (c_D_setDigits l dC dI h0 h1 h2 cI cB ty (ds (ds mk (fFM 14 + 0) 4 a1) (fFM 14 + 4) 6 a2) 14 10 10 0 (by omega) (by omega) (by omega) H.size) (cwV 4 hw (gV w_ml_D_36 w_im_D_setDigits w_se_D_setDigits w_in_D w_co_D_setDigits) rfl rfl rfl (by decide +kernel) ⟨Nat.le_of_ble_eq_true rfl, Nat.le_of_ble_eq_true rfl⟩) (zM_V hG hS hFc hPc hDc hK 0 rfl rfl) rfl rfl hl.1 rfl (lv_room (Nat.le_of_ble_eq_true rfl)) dD_putOriginal_29 ⟨Nat.le_of_ble_eq_true rfl, Nat.le_of_ble_eq_true rfl⟩) hS hFc (fun H locs h_29 hP1 hD1 hk1 hS => ?_)
  obtain ⟨hP, hD⟩ := va_join (wr := [(h1, .inl (cI, 16, .inl (aN cnt)))]) (w1 := [(h0, .inr (0, [.int (nI ty), .ref h1, .ref h2])), (h2, .inl (cB, 208, .inl (aN (ds (ds (ds mk (fFM 14 + 0) 4 a1) (fFM 14 + 4) 6 a2) (fFM 14 + 10) 10 0))))]) hP hD [1, 2] [0] rfl rfl (by decide) (by decide) hk1 hFc hP1 hD1
  have hP : va_P (dC, dI) vwCl [(h1, .inl (cI, 16, .inl (aN cnt))), (h0, .inr (0, [.int (nI ty), .ref h1, .ref h2])), (h2, .inl (cB, 208, .inl (aN (ds (ds (ds mk (fFM 14 + 0) 4 a1) (fFM 14 + 4) 6 a2) (fFM 14 + 10) 10 0))))] H := hP
  have hD : va_D A [(h1, .inl (cI, 16, .inl (aN cnt))), (h0, .inr (0, [.int (nI ty), .ref h1, .ref h2])), (h2, .inl (cB, 208, .inl (aN (ds (ds (ds mk (fFM 14 + 0) 4 a1) (fFM 14 + 4) 6 a2) (fFM 14 + 10) 10 0))))] := hD
  refine lv_aload_n hx hb dD_putOriginal_32 rfl (lv_at hl 0 rfl) ?_
  refine lv_bipush (v := nI 14) hx hb dD_putOriginal_33 (by decide) ?_
  refine lv_bipush (v := nI 20) hx hb dD_putOriginal_35 (by decide) ?_
  refine lv_bipush (v := nI 11) hx hb dD_putOriginal_37 (by decide) ?_
  refine lv_iload_n hx hb dD_putOriginal_39 rfl (lv_at hl 3 rfl) ?_
  refine zi_l hx hb (by omega) dD_putOriginal_40 ?_
  have hPc := hP.sub (ws' := [(h0, .inr (0, [.int (nI ty), .ref h1, .ref h2])), (h2, .inl (cB, 208, .inl (aN (ds (ds (ds mk (fFM 14 + 0) 4 a1) (fFM 14 + 4) 6 a2) (fFM 14 + 10) 10 0))))]) [1, 2] rfl
  have hDc := hD.sub (ws' := [(h0, .inr (0, [.int (nI ty), .ref h1, .ref h2])), (h2, .inl (cB, 208, .inl (aN (ds (ds (ds mk (fFM 14 + 0) 4 a1) (fFM 14 + 4) 6 a2) (fFM 14 + 10) 10 0))))]) [1, 2] (by decide) rfl
  have hFc := va_free (wc := [(h0, .inr (0, [.int (nI ty), .ref h1, .ref h2])), (h2, .inl (cB, 208, .inl (aN (ds (ds (ds mk (fFM 14 + 0) 4 a1) (fFM 14 + 4) 6 a2) (fFM 14 + 10) 10 0))))]) hD hS hA [1, 2] rfl
  refine zc_Mv (va_runV (As := [.int (nI 14), .int (nI 20), .int (nI 11), .long (lN a3)]) (rest := []) ⟨hx, hb, hml, hown, hw⟩ (c_D_setDigits l dC dI h0 h1 h2 cI cB ty (ds (ds (ds mk (fFM 14 + 0) 4 a1) (fFM 14 + 4) 6 a2) (fFM 14 + 10) 10 0) 14 20 11 a3 (by omega) (by omega) (by omega) H.size) (cwV 4 hw (gV w_ml_D_36 w_im_D_setDigits w_se_D_setDigits w_in_D w_co_D_setDigits) rfl rfl rfl (by decide +kernel) ⟨Nat.le_of_ble_eq_true rfl, Nat.le_of_ble_eq_true rfl⟩) (zM_V hG hS hFc hPc hDc hK 0 rfl rfl) rfl rfl hl.1 rfl (lv_room (Nat.le_of_ble_eq_true rfl)) dD_putOriginal_41 ⟨Nat.le_of_ble_eq_true rfl, Nat.le_of_ble_eq_true rfl⟩) hS hFc (fun H locs h_41 hP1 hD1 hk1 hS => ?_)
  obtain ⟨hP, hD⟩ := va_join (wr := [(h1, .inl (cI, 16, .inl (aN cnt)))]) (w1 := [(h0, .inr (0, [.int (nI ty), .ref h1, .ref h2])), (h2, .inl (cB, 208, .inl (aN (ds (ds (ds (ds mk (fFM 14 + 0) 4 a1) (fFM 14 + 4) 6 a2) (fFM 14 + 10) 10 0) (fFM 14 + 20) 11 a3))))]) hP hD [1, 2] [0] rfl rfl (by decide) (by decide) hk1 hFc hP1 hD1
  have hP : va_P (dC, dI) vwCl [(h1, .inl (cI, 16, .inl (aN cnt))), (h0, .inr (0, [.int (nI ty), .ref h1, .ref h2])), (h2, .inl (cB, 208, .inl (aN (ds (ds (ds (ds mk (fFM 14 + 0) 4 a1) (fFM 14 + 4) 6 a2) (fFM 14 + 10) 10 0) (fFM 14 + 20) 11 a3))))] H := hP
  have hD : va_D A [(h1, .inl (cI, 16, .inl (aN cnt))), (h0, .inr (0, [.int (nI ty), .ref h1, .ref h2])), (h2, .inl (cB, 208, .inl (aN (ds (ds (ds (ds mk (fFM 14 + 0) 4 a1) (fFM 14 + 4) 6 a2) (fFM 14 + 10) 10 0) (fFM 14 + 20) 11 a3))))] := hD
  refine lv_aload_n hx hb dD_putOriginal_44 rfl (lv_at hl 0 rfl) ?_
  refine lv_bipush (v := nI 14) hx hb dD_putOriginal_45 (by decide) ?_
  refine lv_bipush (v := nI 31) hx hb dD_putOriginal_47 (by decide) ?_
  refine lv_bipush (v := nI 11) hx hb dD_putOriginal_49 (by decide) ?_
  refine lv_lconst (v := lN 0) hx hb dD_putOriginal_51 (by decide) ?_
  have hPc := hP.sub (ws' := [(h0, .inr (0, [.int (nI ty), .ref h1, .ref h2])), (h2, .inl (cB, 208, .inl (aN (ds (ds (ds (ds mk (fFM 14 + 0) 4 a1) (fFM 14 + 4) 6 a2) (fFM 14 + 10) 10 0) (fFM 14 + 20) 11 a3))))]) [1, 2] rfl
  have hDc := hD.sub (ws' := [(h0, .inr (0, [.int (nI ty), .ref h1, .ref h2])), (h2, .inl (cB, 208, .inl (aN (ds (ds (ds (ds mk (fFM 14 + 0) 4 a1) (fFM 14 + 4) 6 a2) (fFM 14 + 10) 10 0) (fFM 14 + 20) 11 a3))))]) [1, 2] (by decide) rfl
  have hFc := va_free (wc := [(h0, .inr (0, [.int (nI ty), .ref h1, .ref h2])), (h2, .inl (cB, 208, .inl (aN (ds (ds (ds (ds mk (fFM 14 + 0) 4 a1) (fFM 14 + 4) 6 a2) (fFM 14 + 10) 10 0) (fFM 14 + 20) 11 a3))))]) hD hS hA [1, 2] rfl
  refine zc_Mv (va_runV (As := [.int (nI 14), .int (nI 31), .int (nI 11), .long (lN 0)]) (rest := []) ⟨hx, hb, hml, hown, hw⟩ (c_D_setDigits l dC dI h0 h1 h2 cI cB ty (ds (ds (ds (ds mk (fFM 14 + 0) 4 a1) (fFM 14 + 4) 6 a2) (fFM 14 + 10) 10 0) (fFM 14 + 20) 11 a3) 14 31 11 0 (by omega) (by omega) (by omega) H.size) (cwV 4 hw (gV w_ml_D_36 w_im_D_setDigits w_se_D_setDigits w_in_D w_co_D_setDigits) rfl rfl rfl (by decide +kernel) ⟨Nat.le_of_ble_eq_true rfl, Nat.le_of_ble_eq_true rfl⟩) (zM_V hG hS hFc hPc hDc hK 0 rfl rfl) rfl rfl hl.1 rfl (lv_room (Nat.le_of_ble_eq_true rfl)) dD_putOriginal_52 ⟨Nat.le_of_ble_eq_true rfl, Nat.le_of_ble_eq_true rfl⟩) hS hFc (fun H locs h_52 hP1 hD1 hk1 hS => ?_)
  obtain ⟨hP, hD⟩ := va_join (wr := [(h1, .inl (cI, 16, .inl (aN cnt)))]) (w1 := [(h0, .inr (0, [.int (nI ty), .ref h1, .ref h2])), (h2, .inl (cB, 208, .inl (aN (ds (ds (ds (ds (ds mk (fFM 14 + 0) 4 a1) (fFM 14 + 4) 6 a2) (fFM 14 + 10) 10 0) (fFM 14 + 20) 11 a3) (fFM 14 + 31) 11 0))))]) hP hD [1, 2] [0] rfl rfl (by decide) (by decide) hk1 hFc hP1 hD1
  have hP : va_P (dC, dI) vwCl [(h1, .inl (cI, 16, .inl (aN cnt))), (h0, .inr (0, [.int (nI ty), .ref h1, .ref h2])), (h2, .inl (cB, 208, .inl (aN (ds (ds (ds (ds (ds mk (fFM 14 + 0) 4 a1) (fFM 14 + 4) 6 a2) (fFM 14 + 10) 10 0) (fFM 14 + 20) 11 a3) (fFM 14 + 31) 11 0))))] H := hP
  have hD : va_D A [(h1, .inl (cI, 16, .inl (aN cnt))), (h0, .inr (0, [.int (nI ty), .ref h1, .ref h2])), (h2, .inl (cB, 208, .inl (aN (ds (ds (ds (ds (ds mk (fFM 14 + 0) 4 a1) (fFM 14 + 4) 6 a2) (fFM 14 + 10) 10 0) (fFM 14 + 20) 11 a3) (fFM 14 + 31) 11 0))))] := hD
  refine lv_aload_n hx hb dD_putOriginal_55 rfl (lv_at hl 0 rfl) ?_
  refine va_get (D := (dC, dI)) (ci := 0) (v := .ref h1) (C := RD) (T := TD) (N := 3) hx hb hw inD hown hK hP 1 rfl rfl 1 (by decide) (hw _ w_fl_D_15) (fun _ h9 => h9) rfl dD_putOriginal_56 ?_
  refine lv_bipush (v := nI 14) hx hb dD_putOriginal_59 (by decide) ?_
  refine va_getsN hx hb zfMM hS hown (va_Nw.use rfl (hG.nf (RD, 40, "MOST_MARKS") (List.mem_of_getElem? (i := 4) rfl))) (fun _ h9 => h9) dD_putOriginal_61 ?_
  refine lv_bipush (v := nI 14) hx hb dD_putOriginal_64 (by decide) ?_
  refine za_tab hx hb afMM hS (by omega) (by decide) dD_putOriginal_66 ?_
  refine za_ist hx hb hK hP hD hS 0 0 rfl rfl (by omega) (by decide) dD_putOriginal_67 (fun H locs hP hD hS => ?_)
  have hP : va_P (dC, dI) vwCl [(h1, .inl (cI, 16, .inl (aN (nup cnt 14 (fMM 14))))), (h0, .inr (0, [.int (nI ty), .ref h1, .ref h2])), (h2, .inl (cB, 208, .inl (aN (ds (ds (ds (ds (ds mk (fFM 14 + 0) 4 a1) (fFM 14 + 4) 6 a2) (fFM 14 + 10) 10 0) (fFM 14 + 20) 11 a3) (fFM 14 + 31) 11 0))))] H := hP
  have hD : va_D A [(h1, .inl (cI, 16, .inl (aN (nup cnt 14 (fMM 14))))), (h0, .inr (0, [.int (nI ty), .ref h1, .ref h2])), (h2, .inl (cB, 208, .inl (aN (ds (ds (ds (ds (ds mk (fFM 14 + 0) 4 a1) (fFM 14 + 4) 6 a2) (fFM 14 + 10) 10 0) (fFM 14 + 20) 11 a3) (fFM 14 + 31) 11 0))))] := hD
  subst hAe
  subst hQ
  exact W.vret hx hb hr (fun t ht hW => ⟨⟨(), rfl, trivial, by rw [ht]; exact hP.sub [1, 0, 2] rfl, hD.sub [1, 0, 2] (by decide) rfl⟩, hS.F ht⟩) hS.2.2 dD_putOriginal_68
def rm_c_D_putLetters : Room := ({ frames := 1, cells := 0, slots := 0, locals := 23 } : Room)
set_option maxHeartbeats 4000000 in
set_option maxRecDepth 100000 in
theorem c_D_putLetters (l : Launch) (dC : Nat → ClassId) (dI : Nat → Nat → Nat) (h0 : Nat) (h1 : Nat) (h2 : Nat) (cI : ClassId) (cB : ClassId) (ty : Nat) (cnt : Nat → Nat) (mk : Nat → Nat) (sl : Nat) (ct : Nat) (v : Int64) (hs : sl < 16) (hk : fFM sl + ct ≤ 208) (sz : Nat) : Met l yD_putLetters wsD_putLetters rm_c_D_putLetters (zM (dC, dI) [(cI, .int), (cB, .byte)] [.ref h0, .int (nI sl), .int (nI ct), .long v] [(h0, .inr (0, [.int (nI ty), .ref h1, .ref h2])), (h1, .inl (cI, 16, .inl (aN cnt))), (h2, .inl (cB, 208, .inl (aN mk)))] sz) (zMv (dC, dI) [(h0, .inr (0, [.int (nI ty), .ref h1, .ref h2])), (h1, .inl (cI, 16, .inl (aN cnt))), (h2, .inl (cB, 208, .inl (aN mk)))] [(h0, .inr (0, [.int (nI ty), .ref h1, .ref h2])), (h1, .inl (cI, 16, .inl (aN (nup cnt sl ct)))), (h2, .inl (cB, 208, .inl (aN (lset v (fFM sl) ct 0 mk))))] sz (True)) 0 0 (va_A [(h0, .inr (0, [.int (nI ty), .ref h1, .ref h2])), (h1, .inl (cI, 16, .inl (aN cnt))), (h2, .inl (cB, 208, .inl (aN mk)))] sz) := by
  refine Met.ofW (cc := cD_putLetters) (maxL := 7) (ret := none) (by decide) rfl ?_
  intro p e s m args below meth c s₁ Bd hml hv
  obtain ⟨rfl, hsz, hG, hP, hK, hD0⟩ := hv
  subst hsz
  have hx := Bd.exec
  have hb := Bd.bytes
  have hr := Bd.returns
  have hts := atoms_spec (ws := wsD_putLetters) Bd.pre
  have hw : ∀ w ∈ BIG, w.before _ s = true := fun w h => hts w (List.mem_cons_of_mem _ h)
  have hown : s.vm.findClass RD = some m.cls := findClass_of_methodNamed Bd.named
  have hlocks := Bd.notSynchronized
  have hD := hD0.self (sz := s.heap.size)
  obtain ⟨A, hAe⟩ : ∃ A, A = va_A [(h0, .inr (0, [.int (nI ty), .ref h1, .ref h2])), (h1, .inl (cI, 16, .inl (aN cnt))), (h2, .inl (cB, 208, .inl (aN mk)))] s.heap.size := ⟨_, rfl⟩
  have hA : ∀ q : Nat, s.heap.size ≤ q → A q := fun q h => by rw [hAe]; exact Or.inr h
  rw [← hAe] at hG hD
  have hS : va_S A s.heap s.heap [] := va_S.rf
  have hl := lv_entry ([.ref h0, .int (nI sl), .int (nI ct), .long v]) (n := 7) (Nat.le_of_ble_eq_true rfl)
  rw [lg_entry_eq]
  generalize (lg_sl ([.ref h0, .int (nI sl), .int (nI ct), .long v]) ++ List.replicate (7 - (lg_sl ([.ref h0, .int (nI sl), .int (nI ct), .long v])).length) Slot.unset).toArray = ls at hl ⊢
  have hl : lv_has ls 7 [(0, .ref h0), (1, .int (nI sl)), (2, .int (nI ct)), (3, .long v)] := hl
  refine zq_name (fun Q hQ => ?_)
  change W p l e rm_c_D_putLetters s m _ below meth c _ _ _ _ Q _
  refine lv_iconst (v := nI 0) hx hb dD_putLetters_0 (by decide) ?_
  refine lv_istore (lv' := [(5, .int (nI 0)), (0, .ref h0), (1, .int (nI sl)), (2, .int (nI ct)), (3, .long v)]) hx hb dD_putLetters_1 hl (by decide) rfl (fun ls hl => ?_)
  have lp_3 : ∀ (fu : Nat) (k : Nat) (f : Nat → Nat) (hkc : k ≤ ct) (hi : lset v (fFM sl) (ct - k) k f = lset v (fFM sl) ct 0 mk) (hms : ct - k < fu) (H : Heap) (locs : List Loc) (ls : Array Slot), lv_has ls 7 [(0, .ref h0), (1, .int (nI sl)), (2, .int (nI ct)), (3, .long v), (5, .int (nI k))] → va_P (dC, dI) vwCl [(h0, .inr (0, [.int (nI ty), .ref h1, .ref h2])), (h1, .inl (cI, 16, .inl (aN cnt))), (h2, .inl (cB, 208, .inl (aN f)))] H → va_D A [(h0, .inr (0, [.int (nI ty), .ref h1, .ref h2])), (h1, .inl (cI, 16, .inl (aN cnt))), (h2, .inl (cB, 208, .inl (aN f)))] → va_S A s.heap H locs → W p l e rm_c_D_putLetters s m ([.ref h0, .int (nI sl), .int (nI ct), .long v] : List Value).toArray below meth c H locs 0 0 Q (F0 m 3 ls []) := by
    intro fu
    induction fu with
    | zero => intro k f hkc hi hms; exact absurd hms (Nat.not_lt_zero _)
    | succ fu ih3 =>
      intro k f hkc hi hms H locs ls hl hP hD hS
      refine lv_iload hx hb dD_putLetters_3 (lv_at hl 4 rfl) ?_
      refine lv_iload_n hx hb dD_putLetters_5 rfl (lv_at hl 2 rfl) ?_
      refine zi_ge (tgt := 60) hx hb (by omega) (by omega) dD_putLetters_6 (by decide) (fun c_6 => ?_) (fun c_6 => ?_)
      · rw [show ct - k = 0 by omega] at hi
        have hi : f = lset v (fFM sl) ct 0 mk := hi
        subst hi
        refine lv_aload_n hx hb dD_putLetters_60 rfl (lv_at hl 0 rfl) ?_
        refine va_get (D := (dC, dI)) (ci := 0) (v := .ref h1) (C := RD) (T := TD) (N := 3) hx hb hw inD hown hK hP 0 rfl rfl 1 (by decide) (hw _ w_fl_D_15) (fun _ h9 => h9) rfl dD_putLetters_61 ?_
        refine lv_iload_n hx hb dD_putLetters_64 rfl (lv_at hl 1 rfl) ?_
        refine lv_iload_n hx hb dD_putLetters_65 rfl (lv_at hl 2 rfl) ?_
        refine za_ist hx hb hK hP hD hS 1 0 rfl rfl (by omega) (by decide) dD_putLetters_66 (fun H locs hP hD hS => ?_)
        have hP : va_P (dC, dI) vwCl [(h0, .inr (0, [.int (nI ty), .ref h1, .ref h2])), (h1, .inl (cI, 16, .inl (aN (nup cnt sl ct)))), (h2, .inl (cB, 208, .inl (aN (lset v (fFM sl) ct 0 mk))))] H := hP
        have hD : va_D A [(h0, .inr (0, [.int (nI ty), .ref h1, .ref h2])), (h1, .inl (cI, 16, .inl (aN (nup cnt sl ct)))), (h2, .inl (cB, 208, .inl (aN (lset v (fFM sl) ct 0 mk))))] := hD
        subst hAe
        subst hQ
        exact W.vret hx hb hr (fun t ht hW => ⟨⟨(), rfl, trivial, by rw [ht]; exact hP.sub [0, 1, 2] rfl, hD.sub [0, 1, 2] (by decide) rfl⟩, hS.F ht⟩) hS.2.2 dD_putLetters_67
      · refine lv_lload_n hx hb dD_putLetters_9 rfl (lv_at hl 3 rfl) ?_
        refine lv_iconst (v := nI 5) hx hb dD_putLetters_10 (by decide) ?_
        refine lv_iload hx hb dD_putLetters_11 (lv_at hl 4 rfl) ?_
        refine lv_bipush (v := nI 12) hx hb dD_putLetters_13 (by decide) ?_
        refine zi_rem hx hb (by omega) (by omega) (by omega) dD_putLetters_15 ?_
        refine zi_mul hx hb dD_putLetters_16 ?_
        refine lv_lshr hx hb dD_putLetters_17 rfl ?_
        refine lv_l2i hx hb dD_putLetters_18 rfl ?_
        refine lv_bipush (v := nI 31) hx hb dD_putLetters_19 (by decide) ?_
        refine lv_iand hx hb dD_putLetters_21 ?_
        refine zi_v (b := nI (lt_ v k)) (pk_and _ 5 (by decide)) ?_
        have hw9 := lt_lt v k
        refine lv_istore (lv' := [(6, .int (nI (lt_ v k))), (0, .ref h0), (1, .int (nI sl)), (2, .int (nI ct)), (3, .long v), (5, .int (nI k))]) hx hb dD_putLetters_22 hl (by decide) rfl (fun ls hl => ?_)
        refine lv_aload_n hx hb dD_putLetters_24 rfl (lv_at hl 1 rfl) ?_
        refine lv_iload_n hx hb dD_putLetters_25 rfl (lv_at hl 2 rfl) ?_
        refine lv_iload hx hb dD_putLetters_26 (lv_at hl 5 rfl) ?_
        refine lv_iload hx hb dD_putLetters_28 (lv_at hl 0 rfl) ?_
        refine lv_bipush (v := nI 10) hx hb dD_putLetters_30 (by decide) ?_
        refine zi_ge (tgt := 43) hx hb (by omega) (by omega) dD_putLetters_32 (by decide) (fun c_32 => ?_) (fun c_32 => ?_)
        · refine lv_bipush (v := nI 65) hx hb dD_putLetters_43 (by decide) ?_
          refine lv_iload hx hb dD_putLetters_45 (lv_at hl 0 rfl) ?_
          refine zi_add hx hb dD_putLetters_47 ?_
          refine lv_bipush (v := nI 10) hx hb dD_putLetters_48 (by decide) ?_
          refine zi_sub hx hb (by omega) dD_putLetters_50 ?_
          refine zi_v (b := nI (lb (lt_ v k))) (by unfold lb; rw [if_neg (by omega)]) ?_
          have hPc := hP.sub (ws' := [(h0, .inr (0, [.int (nI ty), .ref h1, .ref h2])), (h2, .inl (cB, 208, .inl (aN f)))]) [0, 2] rfl
          have hDc := hD.sub (ws' := [(h0, .inr (0, [.int (nI ty), .ref h1, .ref h2])), (h2, .inl (cB, 208, .inl (aN f)))]) [0, 2] (by decide) rfl
          have hFc := va_free (wc := [(h0, .inr (0, [.int (nI ty), .ref h1, .ref h2])), (h2, .inl (cB, 208, .inl (aN f)))]) hD hS hA [0, 2] rfl
          refine zc_Mv (va_runV (As := [.int (nI sl), .int (nI k), .int (nI (lb (lt_ v k)))]) (rest := []) ⟨hx, hb, hml, hown, hw⟩ (c_D_setMark l dC dI h0 h1 h2 cI cB ty f sl k (lb (lt_ v k)) (by omega) (by omega) (lb_lt (by omega)) H.size) (cwV 3 hw (gV w_ml_D_43 w_im_D_setMark w_se_D_setMark w_in_D w_co_D_setMark) rfl rfl rfl (by decide +kernel) ⟨Nat.le_of_ble_eq_true rfl, Nat.le_of_ble_eq_true rfl⟩) (zM_V hG hS hFc hPc hDc hK 0 rfl rfl) rfl rfl hl.1 rfl (lv_room (Nat.le_of_ble_eq_true rfl)) dD_putLetters_51 ⟨Nat.le_of_ble_eq_true rfl, Nat.le_of_ble_eq_true rfl⟩) hS hFc (fun H locs h_51 hP1 hD1 hk1 hS => ?_)
          obtain ⟨hP, hD⟩ := va_join (wr := [(h1, .inl (cI, 16, .inl (aN cnt)))]) (w1 := [(h0, .inr (0, [.int (nI ty), .ref h1, .ref h2])), (h2, .inl (cB, 208, .inl (aN (nup f (fFM sl + k) (lb (lt_ v k))))))]) hP hD [0, 2] [1] rfl rfl (by decide) (by decide) hk1 hFc hP1 hD1
          have hP : va_P (dC, dI) vwCl [(h1, .inl (cI, 16, .inl (aN cnt))), (h0, .inr (0, [.int (nI ty), .ref h1, .ref h2])), (h2, .inl (cB, 208, .inl (aN (nup f (fFM sl + k) (lb (lt_ v k))))))] H := hP
          have hD : va_D A [(h1, .inl (cI, 16, .inl (aN cnt))), (h0, .inr (0, [.int (nI ty), .ref h1, .ref h2])), (h2, .inl (cB, 208, .inl (aN (nup f (fFM sl + k) (lb (lt_ v k))))))] := hD
          refine lv_iinc (v := nI (k + 1)) (lv' := [(5, .int (nI (k + 1))), (6, .int (nI (lt_ v k))), (0, .ref h0), (1, .int (nI sl)), (2, .int (nI ct)), (3, .long v)]) hx hb dD_putLetters_54 hl (k := 5) rfl (zi_incr k 1) (by decide) rfl (fun ls hl => ?_)
          refine lv_goto (tgt := 3) hx hb dD_putLetters_57 (by decide) ?_
          exact ih3 (k + 1) (nup f (fFM sl + k) (lb (lt_ v k))) (by omega) (by have h9 := hi; rw [show ct - k = ct - (k + 1) + 1 by omega] at h9; exact h9) (by omega) _ _ _ (lv_sub hl [2, 3, 4, 5, 0] rfl) (hP.sub [1, 0, 2] rfl) (hD.sub [1, 0, 2] (by decide) rfl) hS
        · refine lv_bipush (v := nI 48) hx hb dD_putLetters_35 (by decide) ?_
          refine lv_iload hx hb dD_putLetters_37 (lv_at hl 0 rfl) ?_
          refine zi_add hx hb dD_putLetters_39 ?_
          refine lv_goto (tgt := 51) hx hb dD_putLetters_40 (by decide) ?_
          refine zi_v (b := nI (lb (lt_ v k))) (by unfold lb; rw [if_pos c_32]) ?_
          have hPc := hP.sub (ws' := [(h0, .inr (0, [.int (nI ty), .ref h1, .ref h2])), (h2, .inl (cB, 208, .inl (aN f)))]) [0, 2] rfl
          have hDc := hD.sub (ws' := [(h0, .inr (0, [.int (nI ty), .ref h1, .ref h2])), (h2, .inl (cB, 208, .inl (aN f)))]) [0, 2] (by decide) rfl
          have hFc := va_free (wc := [(h0, .inr (0, [.int (nI ty), .ref h1, .ref h2])), (h2, .inl (cB, 208, .inl (aN f)))]) hD hS hA [0, 2] rfl
          refine zc_Mv (va_runV (As := [.int (nI sl), .int (nI k), .int (nI (lb (lt_ v k)))]) (rest := []) ⟨hx, hb, hml, hown, hw⟩ (c_D_setMark l dC dI h0 h1 h2 cI cB ty f sl k (lb (lt_ v k)) (by omega) (by omega) (lb_lt (by omega)) H.size) (cwV 3 hw (gV w_ml_D_43 w_im_D_setMark w_se_D_setMark w_in_D w_co_D_setMark) rfl rfl rfl (by decide +kernel) ⟨Nat.le_of_ble_eq_true rfl, Nat.le_of_ble_eq_true rfl⟩) (zM_V hG hS hFc hPc hDc hK 0 rfl rfl) rfl rfl hl.1 rfl (lv_room (Nat.le_of_ble_eq_true rfl)) dD_putLetters_51 ⟨Nat.le_of_ble_eq_true rfl, Nat.le_of_ble_eq_true rfl⟩) hS hFc (fun H locs h_51 hP1 hD1 hk1 hS => ?_)
          obtain ⟨hP, hD⟩ := va_join (wr := [(h1, .inl (cI, 16, .inl (aN cnt)))]) (w1 := [(h0, .inr (0, [.int (nI ty), .ref h1, .ref h2])), (h2, .inl (cB, 208, .inl (aN (nup f (fFM sl + k) (lb (lt_ v k))))))]) hP hD [0, 2] [1] rfl rfl (by decide) (by decide) hk1 hFc hP1 hD1
          have hP : va_P (dC, dI) vwCl [(h1, .inl (cI, 16, .inl (aN cnt))), (h0, .inr (0, [.int (nI ty), .ref h1, .ref h2])), (h2, .inl (cB, 208, .inl (aN (nup f (fFM sl + k) (lb (lt_ v k))))))] H := hP
          have hD : va_D A [(h1, .inl (cI, 16, .inl (aN cnt))), (h0, .inr (0, [.int (nI ty), .ref h1, .ref h2])), (h2, .inl (cB, 208, .inl (aN (nup f (fFM sl + k) (lb (lt_ v k))))))] := hD
          refine lv_iinc (v := nI (k + 1)) (lv' := [(5, .int (nI (k + 1))), (6, .int (nI (lt_ v k))), (0, .ref h0), (1, .int (nI sl)), (2, .int (nI ct)), (3, .long v)]) hx hb dD_putLetters_54 hl (k := 5) rfl (zi_incr k 1) (by decide) rfl (fun ls hl => ?_)
          refine lv_goto (tgt := 3) hx hb dD_putLetters_57 (by decide) ?_
          exact ih3 (k + 1) (nup f (fFM sl + k) (lb (lt_ v k))) (by omega) (by have h9 := hi; rw [show ct - k = ct - (k + 1) + 1 by omega] at h9; exact h9) (by omega) _ _ _ (lv_sub hl [2, 3, 4, 5, 0] rfl) (hP.sub [1, 0, 2] rfl) (hD.sub [1, 0, 2] (by decide) rfl) hS
  exact lp_3 ((ct - 0) + 1) 0 mk (by omega) rfl (Nat.lt_succ_self _) _ _ _ (lv_sub hl [1, 2, 3, 4, 0] rfl) (hP.sub [0, 1, 2] rfl) (hD.sub [0, 1, 2] (by decide) rfl) hS
def rm_c_D_lastDigits : Room := ({ frames := 1, cells := 0, slots := 0, locals := 22 } : Room)
set_option maxHeartbeats 4000000 in
set_option maxRecDepth 100000 in
theorem c_D_lastDigits (l : Launch) (dC : Nat → ClassId) (dI : Nat → Nat → Nat) (h0 : Nat) (h1 : Nat) (h2 : Nat) (cI : ClassId) (cB : ClassId) (ty : Nat) (cnt : Nat → Nat) (mk : Nat → Nat) (sl : Nat) (hs : sl < 16) (hk : fFM sl + cnt sl ≤ 208) (hm : ∀ j, mk j < 128) (Hc : Heap) : Met l yD_lastDigits wsD_lastDigits rm_c_D_lastDigits (zR (dC, dI) [(cI, .int), (cB, .byte)] [.ref h0, .int (nI sl)] [(h0, .inr (0, [.int (nI ty), .ref h1, .ref h2])), (h1, .inl (cI, 16, .inl (aN cnt))), (h2, .inl (cB, 208, .inl (aN mk)))] Hc) (zRl Hc (fun r => r = lN (nm_ mk (fFM sl + (cnt sl - 18)) (cnt sl - (cnt sl - 18)) 0))) 0 0 zNo := by
  refine Met.ofW (cc := cD_lastDigits) (maxL := 6) (ret := (some .long)) (by decide) rfl ?_
  intro p e s m args below meth c s₁ Bd hml hv
  obtain ⟨rfl, hH, hG, hP, hK⟩ := hv
  subst hH
  have hx := Bd.exec
  have hb := Bd.bytes
  have hr := Bd.returns
  have hts := atoms_spec (ws := wsD_lastDigits) Bd.pre
  have hw : ∀ w ∈ BIG, w.before _ s = true := fun w h => hts w (List.mem_cons_of_mem _ h)
  have hown : s.vm.findClass RD = some m.cls := findClass_of_methodNamed Bd.named
  have hlocks := Bd.notSynchronized
  have hS : va_S zNo s.heap s.heap [] := va_S.rf
  have hl := lv_entry ([.ref h0, .int (nI sl)]) (n := 6) (Nat.le_of_ble_eq_true rfl)
  rw [lg_entry_eq]
  generalize (lg_sl ([.ref h0, .int (nI sl)]) ++ List.replicate (6 - (lg_sl ([.ref h0, .int (nI sl)])).length) Slot.unset).toArray = ls at hl ⊢
  have hl : lv_has ls 6 [(0, .ref h0), (1, .int (nI sl))] := hl
  refine zq_name (fun Q hQ => ?_)
  change W p l e rm_c_D_lastDigits s m _ below meth c _ _ _ _ Q _
  refine lv_aload_n hx hb dD_lastDigits_0 rfl (lv_at hl 0 rfl) ?_
  refine va_get (D := (dC, dI)) (ci := 0) (v := .ref h1) (C := RD) (T := TD) (N := 3) hx hb hw inD hown hK hP 0 rfl rfl 1 (by decide) (hw _ w_fl_D_15) (fun _ h9 => h9) rfl dD_lastDigits_1 ?_
  refine lv_iload_n hx hb dD_lastDigits_4 rfl (lv_at hl 1 rfl) ?_
  refine za_ild hx hb hK hP 1 0 rfl rfl (by omega) (by decide) dD_lastDigits_5 ?_
  refine lv_istore_n (lv' := [(2, .int (nI (cnt sl))), (0, .ref h0), (1, .int (nI sl))]) hx hb dD_lastDigits_6 rfl hl (by decide) rfl (fun ls hl => ?_)
  refine lv_lconst (v := lN 0) hx hb dD_lastDigits_7 (by decide) ?_
  refine lv_lstore_n (lv' := [(3, .long (lN 0)), (2, .int (nI (cnt sl))), (0, .ref h0), (1, .int (nI sl))]) hx hb dD_lastDigits_8 rfl hl (by decide) rfl (fun ls hl => ?_)
  refine lv_iconst (v := nI 0) hx hb dD_lastDigits_9 (by decide) ?_
  refine lv_iload_n hx hb dD_lastDigits_10 rfl (lv_at hl 1 rfl) ?_
  refine lv_bipush (v := nI 18) hx hb dD_lastDigits_11 (by decide) ?_
  refine lv_isub hx hb dD_lastDigits_13 ?_
  refine va_mmax hx hb (by rw [hml]; exact hl.1.symm) hown (hw _ w_ml_D_47) (hw _ w_st_max) (hw _ w_in_Math) (hw _ w_co_max) (Nat.le_of_ble_eq_true rfl) (Nat.le_of_ble_eq_true rfl) (Nat.le_of_ble_eq_true rfl) (Nat.le_of_ble_eq_true rfl) dD_lastDigits_14 ?_
  refine zi_v (b := nI (cnt sl - 18)) (max_0 (by omega) (by decide)) ?_
  refine lv_istore (lv' := [(5, .int (nI (cnt sl - 18))), (3, .long (lN 0)), (2, .int (nI (cnt sl))), (0, .ref h0), (1, .int (nI sl))]) hx hb dD_lastDigits_17 hl (by decide) rfl (fun ls hl => ?_)
  have lp_19 : ∀ (fu : Nat) (k : Nat) (acc : Nat) (hkc : k ≤ cnt sl) (hi : nm_ mk (fFM sl + k) (cnt sl - k) acc = nm_ mk (fFM sl + (cnt sl - 18)) (cnt sl - (cnt sl - 18)) 0) (hms : cnt sl - k < fu) (locs : List Loc) (ls : Array Slot), lv_has ls 6 [(0, .ref h0), (1, .int (nI sl)), (2, .int (nI (cnt sl))), (3, .long (lN acc)), (5, .int (nI k))] → va_S zNo s.heap s.heap locs → W p l e rm_c_D_lastDigits s m ([.ref h0, .int (nI sl)] : List Value).toArray below meth c s.heap locs 0 0 Q (F0 m 19 ls []) := by
    intro fu
    induction fu with
    | zero => intro k acc hkc hi hms; exact absurd hms (Nat.not_lt_zero _)
    | succ fu ih19 =>
      intro k acc hkc hi hms locs ls hl hS
      refine lv_iload hx hb dD_lastDigits_19 (lv_at hl 4 rfl) ?_
      refine lv_iload_n hx hb dD_lastDigits_21 rfl (lv_at hl 2 rfl) ?_
      refine zi_ge (tgt := 46) hx hb (by omega) (by omega) dD_lastDigits_22 (by decide) (fun c_22 => ?_) (fun c_22 => ?_)
      · refine lv_lload_n hx hb dD_lastDigits_46 rfl (lv_at hl 3 rfl) ?_
        subst hQ
        exact W.lret (v := lN acc) hx hb hr (fun t ht hW => ⟨⟨lN acc, (), rfl, (by rw [← hi, show cnt sl - k = 0 by omega]; rfl), ht⟩, hS.F ht⟩) hS.2.2 dD_lastDigits_47
      · refine lv_lload_n hx hb dD_lastDigits_25 rfl (lv_at hl 3 rfl) ?_
        refine lv_ldc2 (v := 10) hx hb hown (hw _ w_k_D_53) dD_lastDigits_26 ?_
        refine zl_c (a := 10) rfl ?_
        refine zl_mul hx hb dD_lastDigits_29 ?_
        refine lv_aload_n hx hb dD_lastDigits_30 rfl (lv_at hl 0 rfl) ?_
        refine lv_iload_n hx hb dD_lastDigits_31 rfl (lv_at hl 1 rfl) ?_
        refine lv_iload hx hb dD_lastDigits_32 (lv_at hl 4 rfl) ?_
        refine zc_Ri (va_runV (As := [.int (nI sl), .int (nI k)]) (rest := [.long (lN (acc * 10))]) ⟨hx, hb, hml, hown, hw⟩ (c_D_mark l dC dI h0 h1 h2 cI cB ty mk sl k (by omega) (by omega) s.heap) (cwV 2 hw (gV w_ml_D_55 w_im_D_mark w_se_D_mark w_in_D w_co_D_mark) rfl rfl rfl (by decide +kernel) ⟨Nat.le_of_ble_eq_true rfl, Nat.le_of_ble_eq_true rfl⟩) (zR_V hG hS (hP.sub (ws' := [(h0, .inr (0, [.int (nI ty), .ref h1, .ref h2])), (h2, .inl (cB, 208, .inl (aN mk)))]) [0, 2] rfl) hK 0 rfl rfl) rfl rfl hl.1 rfl (lv_room (Nat.le_of_ble_eq_true rfl)) dD_lastDigits_34 ⟨Nat.le_of_ble_eq_true rfl, Nat.le_of_ble_eq_true rfl⟩) hS (fun r_1 locs h_34 hS => ?_)
        subst h_34
        have hm9 := hm (fFM sl + k)
        refine zi_l hx hb (by omega) dD_lastDigits_37 ?_
        refine zl_add hx hb dD_lastDigits_38 ?_
        refine lv_lstore_n (lv' := [(3, .long (lN ((acc * 10) + (mk (fFM sl + k))))), (0, .ref h0), (1, .int (nI sl)), (2, .int (nI (cnt sl))), (5, .int (nI k))]) hx hb dD_lastDigits_39 rfl hl (by decide) rfl (fun ls hl => ?_)
        refine lv_iinc (v := nI (k + 1)) (lv' := [(5, .int (nI (k + 1))), (3, .long (lN ((acc * 10) + (mk (fFM sl + k))))), (0, .ref h0), (1, .int (nI sl)), (2, .int (nI (cnt sl)))]) hx hb dD_lastDigits_40 hl (k := 4) rfl (zi_incr k 1) (by decide) rfl (fun ls hl => ?_)
        refine lv_goto (tgt := 19) hx hb dD_lastDigits_43 (by decide) ?_
        exact ih19 (k + 1) ((acc * 10) + (mk (fFM sl + k))) (by omega) (by have h9 := hi; rw [show cnt sl - k = cnt sl - (k + 1) + 1 by omega] at h9; exact h9) (by omega) _ _ (lv_sub hl [2, 3, 4, 1, 0] rfl) hS
  exact lp_19 ((cnt sl - (cnt sl - 18)) + 1) (cnt sl - 18) 0 (by omega) rfl (Nat.lt_succ_self _) _ _ (lv_sub hl [3, 4, 2, 1, 0] rfl) hS
