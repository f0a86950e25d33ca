def rm_c_walkMaps_ok : Room := ({ frames := 2, cells := 0, slots := 0, locals := 43 } : Room)
set_option maxHeartbeats 4000000 in
set_option maxRecDepth 100000 in
theorem c_walkMaps_ok (l : Launch) (dC : Nat → ClassId) (dI : Nat → Nat → Nat) (r0 : Nat) (f0 : Nat) (fk : Nat) (fp : Int32) (t0 : Nat) (nx : Nat) (lnb : Nat) (t1 : Nat) (len : Nat) (cI : ClassId) (cB : ClassId) (tp : Nat → Nat) (hln : len ≤ 400) (hnl : nx ≤ len) (htp : ∀ j, tp j < 256) (hd : mapsF tp len nx = none) (sz : Nat) : Met l yR_walkMaps wsR_walkMaps rm_c_walkMaps_ok (zM (dC, dI) [(cI, .int), (cB, .byte)] [.ref r0] [(r0, .inr (1, [.ref f0, .int (nI fk), .int fp, .ref t0, .int (nI nx), .int (nI lnb)])), (t0, .inr (2, [.ref t1, .int (nI len)])), (t1, .inl (cB, 400, .inl (aB tp)))] sz) (zMi (dC, dI) [(r0, .inr (1, [.ref f0, .int (nI fk), .int fp, .ref t0, .int (nI nx), .int (nI lnb)])), (t0, .inr (2, [.ref t1, .int (nI len)])), (t1, .inl (cB, 400, .inl (aB tp)))] [(r0, .inr (1, [.ref f0, .int (nI fk), .int fp, .ref t0, .int (nI (nx + wid tp nx)), .int (nI lnb)])), (t0, .inr (2, [.ref t1, .int (nI len)])), (t1, .inl (cB, 400, .inl (aB tp)))] sz (fun r => r = nI 1)) 0 0 (va_A [(r0, .inr (1, [.ref f0, .int (nI fk), .int fp, .ref t0, .int (nI nx), .int (nI lnb)])), (t0, .inr (2, [.ref t1, .int (nI len)])), (t1, .inl (cB, 400, .inl (aB tp)))] sz) := by
  refine Met.ofW (cc := cR_walkMaps) (maxL := 4) (ret := (some .boolean)) (by decide) rfl ?_
  intro p e s m args below meth c s₁ Bd hml hv
  obtain ⟨rfl, hsz, hG, hP, hK, hD0⟩ := hv
  subst hsz
  have hx := Bd.exec
  have hb := Bd.bytes
  have hr := Bd.returns
  have hts := atoms_spec (ws := wsR_walkMaps) Bd.pre
  have hw : ∀ w ∈ BIG, w.before _ s = true := fun w h => hts w (List.mem_cons_of_mem _ h)
  have hown : s.vm.findClass RR = some m.cls := findClass_of_methodNamed Bd.named
  have hlocks := Bd.notSynchronized
  have hD := hD0.self (sz := s.heap.size)
  obtain ⟨A, hAe⟩ : ∃ A, A = va_A [(r0, .inr (1, [.ref f0, .int (nI fk), .int fp, .ref t0, .int (nI nx), .int (nI lnb)])), (t0, .inr (2, [.ref t1, .int (nI len)])), (t1, .inl (cB, 400, .inl (aB tp)))] s.heap.size := ⟨_, rfl⟩
  have hA : ∀ q : Nat, s.heap.size ≤ q → A q := fun q h => by rw [hAe]; exact Or.inr h
  rw [← hAe] at hG hD
  have hS : va_S A s.heap s.heap [] := va_S.rf
  have hl := lv_entry ([.ref r0]) (n := 4) (Nat.le_of_ble_eq_true rfl)
  rw [lg_entry_eq]
  generalize (lg_sl ([.ref r0]) ++ List.replicate (4 - (lg_sl ([.ref r0])).length) Slot.unset).toArray = ls at hl ⊢
  have hl : lv_has ls 4 [(0, .ref r0)] := hl
  refine zq_name (fun Q hQ => ?_)
  change W p l e rm_c_walkMaps_ok s m _ below meth c _ _ _ _ Q _
  obtain ⟨tfKB, zfKB, afKB⟩ := hG.KNOWN_BITS
  obtain ⟨hl8, ⟨h8, hmp⟩ | ⟨h8, hl16, hmp, hany⟩⟩ := mapsF_ok hd
  · refine lv_aload_n hx hb dR_walkMaps_0 rfl (lv_at hl 0 rfl) ?_
    refine va_get (D := (dC, dI)) (ci := 1) (v := .int (nI nx)) (C := RR) (T := TR) (N := 6) hx hb hw inR hown hK hP 0 rfl rfl 4 (by decide) (hw _ w_fl_R_25) (fun _ h9 => h9) rfl dR_walkMaps_1 ?_
    refine lv_istore_n (lv' := [(1, .int (nI nx)), (0, .ref r0)]) hx hb dR_walkMaps_4 rfl hl (by decide) rfl (fun ls hl => ?_)
    refine lv_aload_n hx hb dR_walkMaps_5 rfl (lv_at hl 1 rfl) ?_
    refine lv_bipush (v := nI 8) hx hb dR_walkMaps_6 (by decide) ?_
    refine zc_Ri (va_runV (As := [.int (nI 8)]) (rest := []) ⟨hx, hb, hml, hown, hw⟩ (c_reaches_ok l dC dI r0 f0 fk fp t0 nx lnb t1 len cI cB 8 (by omega) (by omega) (by omega) s.heap) (cwV 1 hw (gV w_ml_R_79 w_im_R_reaches w_se_R_reaches w_in_R w_co_R_reaches) rfl rfl rfl (by decide +kernel) ⟨Nat.le_of_ble_eq_true rfl, Nat.le_of_ble_eq_true rfl⟩) (zR_V hG hS (hP.sub (ws' := [(r0, .inr (1, [.ref f0, .int (nI fk), .int fp, .ref t0, .int (nI nx), .int (nI lnb)])), (t0, .inr (2, [.ref t1, .int (nI len)]))]) [0, 1] rfl) hK 0 rfl rfl) rfl rfl hl.1 rfl (lv_room (Nat.le_of_ble_eq_true rfl)) dR_walkMaps_8 ⟨Nat.le_of_ble_eq_true rfl, Nat.le_of_ble_eq_true rfl⟩) hS (fun r_1 locs h_8 hS => ?_)
    subst h_8
    refine lv_if_ne (tgt := 16) hx hb dR_walkMaps_11 (by decide) (fun c_11 => ?_) (fun q => False.elim (absurd q (by decide)))
    refine lv_aload_n hx hb dR_walkMaps_16 rfl (lv_at hl 1 rfl) ?_
    refine lv_dup hx hb dR_walkMaps_17 rfl ?_
    refine va_get (D := (dC, dI)) (ci := 1) (v := .int (nI nx)) (C := RR) (T := TR) (N := 6) hx hb hw inR hown hK hP 0 rfl rfl 4 (by decide) (hw _ w_fl_R_25) (fun _ h9 => h9) rfl dR_walkMaps_18 ?_
    refine lv_bipush (v := nI 8) hx hb dR_walkMaps_21 (by decide) ?_
    refine zi_add hx hb dR_walkMaps_23 ?_
    refine va_put (D := (dC, dI)) (ci := 1) (v := .int (nI (nx + 8))) (ty := .int) (C := RR) (T := TR) (N := 6) hx hb hw inR tyR tyR_ok nmR hown hK hP hD hS 0 rfl rfl 4 (by decide) (hw _ w_fl_R_25) (fun _ h9 => h9) rfl (by decide +kernel) rfl rfl (Nat.le_of_ble_eq_true rfl) dR_walkMaps_24 (fun H locs hP hD hS => ?_)
    have hP : va_P (dC, dI) vwCl [(r0, .inr (1, [.ref f0, .int (nI fk), .int fp, .ref t0, .int (nI (nx + 8)), .int (nI lnb)])), (t0, .inr (2, [.ref t1, .int (nI len)])), (t1, .inl (cB, 400, .inl (aB tp)))] H := hP
    have hD : va_D A [(r0, .inr (1, [.ref f0, .int (nI fk), .int fp, .ref t0, .int (nI (nx + 8)), .int (nI lnb)])), (t0, .inr (2, [.ref t1, .int (nI len)])), (t1, .inl (cB, 400, .inl (aB tp)))] := hD
    refine lv_aload_n hx hb dR_walkMaps_27 rfl (lv_at hl 1 rfl) ?_
    refine va_get (D := (dC, dI)) (ci := 1) (v := .ref t0) (C := RR) (T := TR) (N := 6) hx hb hw inR hown hK hP 0 rfl rfl 3 (by decide) (hw _ w_fl_R_31) (fun _ h9 => h9) rfl dR_walkMaps_28 ?_
    refine lv_iload_n hx hb dR_walkMaps_31 rfl (lv_at hl 0 rfl) ?_
    refine zc_Ri (va_runV (As := [.int (nI nx)]) (rest := []) ⟨hx, hb, hml, hown, hw⟩ (c_T_byteAt l dC dI t0 t1 len cI cB tp nx (by omega) (htp _) H) (cwV 1 hw (gV w_ml_R_50 w_im_T_byteAt w_se_T_byteAt w_in_T w_co_T_byteAt) rfl rfl rfl (by decide +kernel) ⟨Nat.le_of_ble_eq_true rfl, Nat.le_of_ble_eq_true rfl⟩) (zR_V hG hS (hP.sub (ws' := [(t0, .inr (2, [.ref t1, .int (nI len)])), (t1, .inl (cB, 400, .inl (aB tp)))]) [1, 2] rfl) hK 0 rfl rfl) rfl rfl hl.1 rfl (lv_room (Nat.le_of_ble_eq_true rfl)) dR_walkMaps_32 ⟨Nat.le_of_ble_eq_true rfl, Nat.le_of_ble_eq_true rfl⟩) hS (fun r_2 locs h_32 hS => ?_)
    subst h_32
    refine lv_sipush (v := nI 128) hx hb dR_walkMaps_35 (by decide) ?_
    refine lv_iand hx hb dR_walkMaps_38 ?_
    refine zi_v (b := nI ((tp nx) &&& 128)) (nI_and _ _) ?_
    refine zi_eq0 (tgt := 46) hx hb (lt_and (by decide)) dR_walkMaps_39 (by decide) (fun c_39 => ?_) (fun q => False.elim ((q ((and_128 _ (htp _)).mpr h8))))
    refine lv_iconst (v := nI 0) hx hb dR_walkMaps_46 (by decide) ?_
    refine lv_istore_n (lv' := [(2, .int (nI 0)), (1, .int (nI nx)), (0, .ref r0)]) hx hb dR_walkMaps_47 rfl hl (by decide) rfl (fun ls hl => ?_)
    refine lv_iload_n hx hb dR_walkMaps_48 rfl (lv_at hl 0 rfl) ?_
    refine lv_if_eq (tgt := 74) hx hb dR_walkMaps_49 (by decide) (fun c_49 => ?_) (fun q => False.elim (absurd q (by decide)))
    refine lv_iload_n hx hb dR_walkMaps_74 rfl (lv_at hl 1 rfl) ?_
    refine lv_istore_n (lv' := [(3, .int (nI nx)), (2, .int (nI 0)), (1, .int (nI nx)), (0, .ref r0)]) hx hb dR_walkMaps_75 rfl hl (by decide) rfl (fun ls hl => ?_)
    have lp_76 : ∀ (fu : Nat) (j : Nat) (hj : j ≤ 8) (hi : mpL tp nx (8 - j) j = none) (hms : 8 - j < fu) (H : Heap) (locs : List Loc) (ls : Array Slot), lv_has ls 4 [(0, .ref r0), (1, .int (nI nx)), (2, .int (nI 0)), (3, .int (nI (nx + j)))] → va_P (dC, dI) vwCl [(r0, .inr (1, [.ref f0, .int (nI fk), .int fp, .ref t0, .int (nI (nx + 8)), .int (nI lnb)])), (t0, .inr (2, [.ref t1, .int (nI len)])), (t1, .inl (cB, 400, .inl (aB tp)))] H → va_D A [(r0, .inr (1, [.ref f0, .int (nI fk), .int fp, .ref t0, .int (nI (nx + 8)), .int (nI lnb)])), (t0, .inr (2, [.ref t1, .int (nI len)])), (t1, .inl (cB, 400, .inl (aB tp)))] → va_S A s.heap H locs → W p l e rm_c_walkMaps_ok s m ([.ref r0] : List Value).toArray below meth c H locs 0 0 Q (F0 m 76 ls []) := by
      intro fu
      induction fu with
      | zero => intro j hj hi hms; exact absurd hms (Nat.not_lt_zero _)
      | succ fu ih76 =>
        intro j hj hi hms H locs ls hl hP hD hS
        refine lv_iload_n hx hb dR_walkMaps_76 rfl (lv_at hl 3 rfl) ?_
        refine lv_aload_n hx hb dR_walkMaps_77 rfl (lv_at hl 0 rfl) ?_
        refine va_get (D := (dC, dI)) (ci := 1) (v := .int (nI (nx + 8))) (C := RR) (T := TR) (N := 6) hx hb hw inR hown hK hP 0 rfl rfl 4 (by decide) (hw _ w_fl_R_25) (fun _ h9 => h9) rfl dR_walkMaps_78 ?_
        refine zi_ge (tgt := 118) hx hb (by omega) (by omega) dR_walkMaps_81 (by decide) (fun c_81 => ?_) (fun c_81 => ?_)
        · refine lv_iload_n hx hb dR_walkMaps_118 rfl (lv_at hl 2 rfl) ?_
          refine lv_if_eq (tgt := 145) hx hb dR_walkMaps_119 (by decide) (fun c_119 => ?_) (fun q => False.elim (absurd q (by decide)))
          refine lv_iconst (v := nI 1) hx hb dR_walkMaps_145 (by decide) ?_
          refine lv_goto (tgt := 150) hx hb dR_walkMaps_146 (by decide) ?_
          have e9 : wid tp nx = 8 := if_pos h8
          rw [e9] at hQ
          subst hAe
          subst hQ
          exact W.zret (v := nI 1) hx hb hr (by decide) (fun t ht hW => ⟨⟨nI 1, (), rfl, rfl, by rw [ht]; exact hP.sub [0, 1, 2] rfl, hD.sub [0, 1, 2] (by decide) rfl⟩, hS.F ht⟩) hS.2.2 dR_walkMaps_150
        · have ht9 := htp (nx + j)
          refine lv_aload_n hx hb dR_walkMaps_84 rfl (lv_at hl 0 rfl) ?_
          refine va_get (D := (dC, dI)) (ci := 1) (v := .ref t0) (C := RR) (T := TR) (N := 6) hx hb hw inR hown hK hP 0 rfl rfl 3 (by decide) (hw _ w_fl_R_31) (fun _ h9 => h9) rfl dR_walkMaps_85 ?_
          refine lv_iload_n hx hb dR_walkMaps_88 rfl (lv_at hl 3 rfl) ?_
          refine zc_Ri (va_runV (As := [.int (nI (nx + j))]) (rest := []) ⟨hx, hb, hml, hown, hw⟩ (c_T_byteAt l dC dI t0 t1 len cI cB tp (nx + j) (by omega) (htp _) H) (cwV 1 hw (gV w_ml_R_50 w_im_T_byteAt w_se_T_byteAt w_in_T w_co_T_byteAt) rfl rfl rfl (by decide +kernel) ⟨Nat.le_of_ble_eq_true rfl, Nat.le_of_ble_eq_true rfl⟩) (zR_V hG hS (hP.sub (ws' := [(t0, .inr (2, [.ref t1, .int (nI len)])), (t1, .inl (cB, 400, .inl (aB tp)))]) [1, 2] rfl) hK 0 rfl rfl) rfl rfl hl.1 rfl (lv_room (Nat.le_of_ble_eq_true rfl)) dR_walkMaps_89 ⟨Nat.le_of_ble_eq_true rfl, Nat.le_of_ble_eq_true rfl⟩) hS (fun r_3 locs h_89 hS => ?_)
          subst h_89
          refine va_getsN hx hb zfKB hS hown (va_Nw.use rfl (hG.nf (RR, 82, "KNOWN_BITS") (List.mem_of_getElem? (i := 6) rfl))) (fun _ h9 => h9) dR_walkMaps_92 ?_
          refine lv_iload_n hx hb dR_walkMaps_95 rfl (lv_at hl 3 rfl) ?_
          refine lv_iload_n hx hb dR_walkMaps_96 rfl (lv_at hl 1 rfl) ?_
          refine zi_sub hx hb (by omega) dR_walkMaps_97 ?_
          refine zi_v (b := nI j) (by rw [Nat.add_sub_cancel_left]) ?_
          refine za_tab hx hb afKB hS (by omega) (by decide) dR_walkMaps_98 ?_
          refine lv_iconst (v := (-1)) hx hb dR_walkMaps_99 (by decide) ?_
          refine lv_ixor hx hb dR_walkMaps_100 ?_
          refine lv_iand hx hb dR_walkMaps_101 ?_
          refine lv_if_eq (tgt := 112) hx hb dR_walkMaps_102 (by decide) (fun c_102 => ?_) (fun q => False.elim ((by have h9 := hi; rw [show 8 - j = 8 - (j + 1) + 1 by omega] at h9; unfold mpL at h9; rw [if_neg (fun z => q ((kb_iff j (by omega) _ (htp (nx + j))).mpr z))] at h9; cases h9)))
          have c9 := (kb_iff j (by omega) _ (htp (nx + j))).mp c_102
          refine lv_iinc (v := nI ((nx + j) + 1)) (lv' := [(3, .int (nI ((nx + j) + 1))), (0, .ref r0), (1, .int (nI nx)), (2, .int (nI 0))]) hx hb dR_walkMaps_112 hl (k := 3) rfl (zi_incr (nx + j) 1) (by decide) rfl (fun ls hl => ?_)
          refine lv_goto (tgt := 76) hx hb dR_walkMaps_115 (by decide) ?_
          exact ih76 (j + 1) (by omega) (by have h9 := hi; rw [show 8 - j = 8 - (j + 1) + 1 by omega] at h9; unfold mpL at h9; rw [if_pos c9] at h9; exact h9) (by omega) _ _ _ (lv_sub hl [1, 2, 3, 0] rfl) (hP.sub [0, 1, 2] rfl) (hD.sub [0, 1, 2] (by decide) rfl) hS
    exact lp_76 ((8 - 0) + 1) 0 (by omega) hmp (Nat.lt_succ_self _) _ _ _ (lv_sub hl [3, 2, 1, 0] rfl) (hP.sub [0, 1, 2] rfl) (hD.sub [0, 1, 2] (by decide) rfl) hS
  · refine lv_aload_n hx hb dR_walkMaps_0 rfl (lv_at hl 0 rfl) ?_
    refine va_get (D := (dC, dI)) (ci := 1) (v := .int (nI nx)) (C := RR) (T := TR) (N := 6) hx hb hw inR hown hK hP 0 rfl rfl 4 (by decide) (hw _ w_fl_R_25) (fun _ h9 => h9) rfl dR_walkMaps_1 ?_
    refine lv_istore_n (lv' := [(1, .int (nI nx)), (0, .ref r0)]) hx hb dR_walkMaps_4 rfl hl (by decide) rfl (fun ls hl => ?_)
    refine lv_aload_n hx hb dR_walkMaps_5 rfl (lv_at hl 1 rfl) ?_
    refine lv_bipush (v := nI 8) hx hb dR_walkMaps_6 (by decide) ?_
    refine zc_Ri (va_runV (As := [.int (nI 8)]) (rest := []) ⟨hx, hb, hml, hown, hw⟩ (c_reaches_ok l dC dI r0 f0 fk fp t0 nx lnb t1 len cI cB 8 (by omega) (by omega) (by omega) s.heap) (cwV 1 hw (gV w_ml_R_79 w_im_R_reaches w_se_R_reaches w_in_R w_co_R_reaches) rfl rfl rfl (by decide +kernel) ⟨Nat.le_of_ble_eq_true rfl, Nat.le_of_ble_eq_true rfl⟩) (zR_V hG hS (hP.sub (ws' := [(r0, .inr (1, [.ref f0, .int (nI fk), .int fp, .ref t0, .int (nI nx), .int (nI lnb)])), (t0, .inr (2, [.ref t1, .int (nI len)]))]) [0, 1] rfl) hK 0 rfl rfl) rfl rfl hl.1 rfl (lv_room (Nat.le_of_ble_eq_true rfl)) dR_walkMaps_8 ⟨Nat.le_of_ble_eq_true rfl, Nat.le_of_ble_eq_true rfl⟩) hS (fun r_4 locs h_8 hS => ?_)
    subst h_8
    refine lv_if_ne (tgt := 16) hx hb dR_walkMaps_11 (by decide) (fun c_11 => ?_) (fun q => False.elim (absurd q (by decide)))
    refine lv_aload_n hx hb dR_walkMaps_16 rfl (lv_at hl 1 rfl) ?_
    refine lv_dup hx hb dR_walkMaps_17 rfl ?_
    refine va_get (D := (dC, dI)) (ci := 1) (v := .int (nI nx)) (C := RR) (T := TR) (N := 6) hx hb hw inR hown hK hP 0 rfl rfl 4 (by decide) (hw _ w_fl_R_25) (fun _ h9 => h9) rfl dR_walkMaps_18 ?_
    refine lv_bipush (v := nI 8) hx hb dR_walkMaps_21 (by decide) ?_
    refine zi_add hx hb dR_walkMaps_23 ?_
    refine va_put (D := (dC, dI)) (ci := 1) (v := .int (nI (nx + 8))) (ty := .int) (C := RR) (T := TR) (N := 6) hx hb hw inR tyR tyR_ok nmR hown hK hP hD hS 0 rfl rfl 4 (by decide) (hw _ w_fl_R_25) (fun _ h9 => h9) rfl (by decide +kernel) rfl rfl (Nat.le_of_ble_eq_true rfl) dR_walkMaps_24 (fun H locs hP hD hS => ?_)
    have hP : va_P (dC, dI) vwCl [(r0, .inr (1, [.ref f0, .int (nI fk), .int fp, .ref t0, .int (nI (nx + 8)), .int (nI lnb)])), (t0, .inr (2, [.ref t1, .int (nI len)])), (t1, .inl (cB, 400, .inl (aB tp)))] H := hP
    have hD : va_D A [(r0, .inr (1, [.ref f0, .int (nI fk), .int fp, .ref t0, .int (nI (nx + 8)), .int (nI lnb)])), (t0, .inr (2, [.ref t1, .int (nI len)])), (t1, .inl (cB, 400, .inl (aB tp)))] := hD
    refine lv_aload_n hx hb dR_walkMaps_27 rfl (lv_at hl 1 rfl) ?_
    refine va_get (D := (dC, dI)) (ci := 1) (v := .ref t0) (C := RR) (T := TR) (N := 6) hx hb hw inR hown hK hP 0 rfl rfl 3 (by decide) (hw _ w_fl_R_31) (fun _ h9 => h9) rfl dR_walkMaps_28 ?_
    refine lv_iload_n hx hb dR_walkMaps_31 rfl (lv_at hl 0 rfl) ?_
    refine zc_Ri (va_runV (As := [.int (nI nx)]) (rest := []) ⟨hx, hb, hml, hown, hw⟩ (c_T_byteAt l dC dI t0 t1 len cI cB tp nx (by omega) (htp _) H) (cwV 1 hw (gV w_ml_R_50 w_im_T_byteAt w_se_T_byteAt w_in_T w_co_T_byteAt) rfl rfl rfl (by decide +kernel) ⟨Nat.le_of_ble_eq_true rfl, Nat.le_of_ble_eq_true rfl⟩) (zR_V hG hS (hP.sub (ws' := [(t0, .inr (2, [.ref t1, .int (nI len)])), (t1, .inl (cB, 400, .inl (aB tp)))]) [1, 2] rfl) hK 0 rfl rfl) rfl rfl hl.1 rfl (lv_room (Nat.le_of_ble_eq_true rfl)) dR_walkMaps_32 ⟨Nat.le_of_ble_eq_true rfl, Nat.le_of_ble_eq_true rfl⟩) hS (fun r_5 locs h_32 hS => ?_)
    subst h_32
    refine lv_sipush (v := nI 128) hx hb dR_walkMaps_35 (by decide) ?_
    refine lv_iand hx hb dR_walkMaps_38 ?_
    refine zi_v (b := nI ((tp nx) &&& 128)) (nI_and _ _) ?_
    refine zi_eq0 (tgt := 46) hx hb (lt_and (by decide)) dR_walkMaps_39 (by decide) (fun q => False.elim ((h8 ((and_128 _ (htp _)).mp q)))) (fun c_39 => ?_)
    refine lv_iconst (v := nI 1) hx hb dR_walkMaps_42 (by decide) ?_
    refine lv_goto (tgt := 47) hx hb dR_walkMaps_43 (by decide) ?_
    refine lv_istore_n (lv' := [(2, .int (nI 1)), (1, .int (nI nx)), (0, .ref r0)]) hx hb dR_walkMaps_47 rfl hl (by decide) rfl (fun ls hl => ?_)
    refine lv_iload_n hx hb dR_walkMaps_48 rfl (lv_at hl 0 rfl) ?_
    refine lv_if_eq (tgt := 74) hx hb dR_walkMaps_49 (by decide) (fun q => False.elim (absurd q (by decide))) (fun c_49 => ?_)
    refine lv_aload_n hx hb dR_walkMaps_52 rfl (lv_at hl 2 rfl) ?_
    refine lv_bipush (v := nI 8) hx hb dR_walkMaps_53 (by decide) ?_
    refine zc_Ri (va_runV (As := [.int (nI 8)]) (rest := []) ⟨hx, hb, hml, hown, hw⟩ (c_reaches_ok l dC dI r0 f0 fk fp t0 (nx + 8) lnb t1 len cI cB 8 (by omega) (by omega) (by omega) H) (cwV 1 hw (gV w_ml_R_79 w_im_R_reaches w_se_R_reaches w_in_R w_co_R_reaches) rfl rfl rfl (by decide +kernel) ⟨Nat.le_of_ble_eq_true rfl, Nat.le_of_ble_eq_true rfl⟩) (zR_V hG hS (hP.sub (ws' := [(r0, .inr (1, [.ref f0, .int (nI fk), .int fp, .ref t0, .int (nI (nx + 8)), .int (nI lnb)])), (t0, .inr (2, [.ref t1, .int (nI len)]))]) [0, 1] rfl) hK 0 rfl rfl) rfl rfl hl.1 rfl (lv_room (Nat.le_of_ble_eq_true rfl)) dR_walkMaps_55 ⟨Nat.le_of_ble_eq_true rfl, Nat.le_of_ble_eq_true rfl⟩) hS (fun r_6 locs h_55 hS => ?_)
    subst h_55
    refine lv_if_ne (tgt := 63) hx hb dR_walkMaps_58 (by decide) (fun c_58 => ?_) (fun q => False.elim (absurd q (by decide)))
    refine lv_aload_n hx hb dR_walkMaps_63 rfl (lv_at hl 2 rfl) ?_
    refine lv_dup hx hb dR_walkMaps_64 rfl ?_
    refine va_get (D := (dC, dI)) (ci := 1) (v := .int (nI (nx + 8))) (C := RR) (T := TR) (N := 6) hx hb hw inR hown hK hP 0 rfl rfl 4 (by decide) (hw _ w_fl_R_25) (fun _ h9 => h9) rfl dR_walkMaps_65 ?_
    refine lv_bipush (v := nI 8) hx hb dR_walkMaps_68 (by decide) ?_
    refine zi_add hx hb dR_walkMaps_70 ?_
    refine va_put (D := (dC, dI)) (ci := 1) (v := .int (nI ((nx + 8) + 8))) (ty := .int) (C := RR) (T := TR) (N := 6) hx hb hw inR tyR tyR_ok nmR hown hK hP hD hS 0 rfl rfl 4 (by decide) (hw _ w_fl_R_25) (fun _ h9 => h9) rfl (by decide +kernel) rfl rfl (Nat.le_of_ble_eq_true rfl) dR_walkMaps_71 (fun H locs hP hD hS => ?_)
    have hP : va_P (dC, dI) vwCl [(r0, .inr (1, [.ref f0, .int (nI fk), .int fp, .ref t0, .int (nI ((nx + 8) + 8)), .int (nI lnb)])), (t0, .inr (2, [.ref t1, .int (nI len)])), (t1, .inl (cB, 400, .inl (aB tp)))] H := hP
    have hD : va_D A [(r0, .inr (1, [.ref f0, .int (nI fk), .int fp, .ref t0, .int (nI ((nx + 8) + 8)), .int (nI lnb)])), (t0, .inr (2, [.ref t1, .int (nI len)])), (t1, .inl (cB, 400, .inl (aB tp)))] := hD
    refine lv_iload_n hx hb dR_walkMaps_74 rfl (lv_at hl 1 rfl) ?_
    refine lv_istore_n (lv' := [(3, .int (nI nx)), (2, .int (nI 1)), (1, .int (nI nx)), (0, .ref r0)]) hx hb dR_walkMaps_75 rfl hl (by decide) rfl (fun ls hl => ?_)
    have lp_76 : ∀ (fu : Nat) (j : Nat) (hj : j ≤ 16) (hi : mpL tp nx (16 - j) j = none) (hms : 16 - j < fu) (H : Heap) (locs : List Loc) (ls : Array Slot), lv_has ls 4 [(0, .ref r0), (1, .int (nI nx)), (2, .int (nI 1)), (3, .int (nI (nx + j)))] → va_P (dC, dI) vwCl [(r0, .inr (1, [.ref f0, .int (nI fk), .int fp, .ref t0, .int (nI ((nx + 8) + 8)), .int (nI lnb)])), (t0, .inr (2, [.ref t1, .int (nI len)])), (t1, .inl (cB, 400, .inl (aB tp)))] H → va_D A [(r0, .inr (1, [.ref f0, .int (nI fk), .int fp, .ref t0, .int (nI ((nx + 8) + 8)), .int (nI lnb)])), (t0, .inr (2, [.ref t1, .int (nI len)])), (t1, .inl (cB, 400, .inl (aB tp)))] → va_S A s.heap H locs → W p l e rm_c_walkMaps_ok s m ([.ref r0] : List Value).toArray below meth c H locs 0 0 Q (F0 m 76 ls []) := by
      intro fu
      induction fu with
      | zero => intro j hj hi hms; exact absurd hms (Nat.not_lt_zero _)
      | succ fu ih76 =>
        intro j hj hi hms H locs ls hl hP hD hS
        refine lv_iload_n hx hb dR_walkMaps_76 rfl (lv_at hl 3 rfl) ?_
        refine lv_aload_n hx hb dR_walkMaps_77 rfl (lv_at hl 0 rfl) ?_
        refine va_get (D := (dC, dI)) (ci := 1) (v := .int (nI ((nx + 8) + 8))) (C := RR) (T := TR) (N := 6) hx hb hw inR hown hK hP 0 rfl rfl 4 (by decide) (hw _ w_fl_R_25) (fun _ h9 => h9) rfl dR_walkMaps_78 ?_
        refine zi_ge (tgt := 118) hx hb (by omega) (by omega) dR_walkMaps_81 (by decide) (fun c_81 => ?_) (fun c_81 => ?_)
        · refine lv_iload_n hx hb dR_walkMaps_118 rfl (lv_at hl 2 rfl) ?_
          refine lv_if_eq (tgt := 145) hx hb dR_walkMaps_119 (by decide) (fun q => False.elim (absurd q (by decide))) (fun c_119 => ?_)
          refine lv_aload_n hx hb dR_walkMaps_122 rfl (lv_at hl 0 rfl) ?_
          refine lv_iload_n hx hb dR_walkMaps_123 rfl (lv_at hl 1 rfl) ?_
          refine lv_bipush (v := nI 8) hx hb dR_walkMaps_124 (by decide) ?_
          refine zi_add hx hb dR_walkMaps_126 ?_
          refine zc_Ri (va_runV (As := [.int (nI (nx + 8))]) (rest := []) ⟨hx, hb, hml, hown, hw⟩ (c_hasBit_ok l dC dI r0 f0 fk fp t0 ((nx + 8) + 8) lnb t1 len cI cB tp (nx + 8) htp (by omega) hany H) (cwV 1 hw (gV w_ml_R_85 w_im_R_hasBit w_se_R_hasBit w_in_R w_co_R_hasBit) rfl rfl rfl (by decide +kernel) ⟨Nat.le_of_ble_eq_true rfl, Nat.le_of_ble_eq_true rfl⟩) (zR_V hG hS (hP.sub (ws' := [(r0, .inr (1, [.ref f0, .int (nI fk), .int fp, .ref t0, .int (nI ((nx + 8) + 8)), .int (nI lnb)])), (t0, .inr (2, [.ref t1, .int (nI len)])), (t1, .inl (cB, 400, .inl (aB tp)))]) [0, 1, 2] rfl) hK 0 rfl rfl) rfl rfl hl.1 rfl (lv_room (Nat.le_of_ble_eq_true rfl)) dR_walkMaps_127 ⟨Nat.le_of_ble_eq_true rfl, Nat.le_of_ble_eq_true rfl⟩) hS (fun r_7 locs h_127 hS => ?_)
          subst h_127
          refine lv_if_ne (tgt := 145) hx hb dR_walkMaps_130 (by decide) (fun c_130 => ?_) (fun q => False.elim (absurd q (by decide)))
          refine lv_iconst (v := nI 1) hx hb dR_walkMaps_145 (by decide) ?_
          refine lv_goto (tgt := 150) hx hb dR_walkMaps_146 (by decide) ?_
          have e9 : wid tp nx = 16 := if_neg h8
          rw [e9] at hQ
          subst hAe
          subst hQ
          exact W.zret (v := nI 1) hx hb hr (by decide) (fun t ht hW => ⟨⟨nI 1, (), rfl, rfl, by rw [ht]; exact hP.sub [0, 1, 2] rfl, hD.sub [0, 1, 2] (by decide) rfl⟩, hS.F ht⟩) hS.2.2 dR_walkMaps_150
        · have ht9 := htp (nx + j)
          refine lv_aload_n hx hb dR_walkMaps_84 rfl (lv_at hl 0 rfl) ?_
          refine va_get (D := (dC, dI)) (ci := 1) (v := .ref t0) (C := RR) (T := TR) (N := 6) hx hb hw inR hown hK hP 0 rfl rfl 3 (by decide) (hw _ w_fl_R_31) (fun _ h9 => h9) rfl dR_walkMaps_85 ?_
          refine lv_iload_n hx hb dR_walkMaps_88 rfl (lv_at hl 3 rfl) ?_
          refine zc_Ri (va_runV (As := [.int (nI (nx + j))]) (rest := []) ⟨hx, hb, hml, hown, hw⟩ (c_T_byteAt l dC dI t0 t1 len cI cB tp (nx + j) (by omega) (htp _) H) (cwV 1 hw (gV w_ml_R_50 w_im_T_byteAt w_se_T_byteAt w_in_T w_co_T_byteAt) rfl rfl rfl (by decide +kernel) ⟨Nat.le_of_ble_eq_true rfl, Nat.le_of_ble_eq_true rfl⟩) (zR_V hG hS (hP.sub (ws' := [(t0, .inr (2, [.ref t1, .int (nI len)])), (t1, .inl (cB, 400, .inl (aB tp)))]) [1, 2] rfl) hK 0 rfl rfl) rfl rfl hl.1 rfl (lv_room (Nat.le_of_ble_eq_true rfl)) dR_walkMaps_89 ⟨Nat.le_of_ble_eq_true rfl, Nat.le_of_ble_eq_true rfl⟩) hS (fun r_8 locs h_89 hS => ?_)
          subst h_89
          refine va_getsN hx hb zfKB hS hown (va_Nw.use rfl (hG.nf (RR, 82, "KNOWN_BITS") (List.mem_of_getElem? (i := 6) rfl))) (fun _ h9 => h9) dR_walkMaps_92 ?_
          refine lv_iload_n hx hb dR_walkMaps_95 rfl (lv_at hl 3 rfl) ?_
          refine lv_iload_n hx hb dR_walkMaps_96 rfl (lv_at hl 1 rfl) ?_
          refine zi_sub hx hb (by omega) dR_walkMaps_97 ?_
          refine zi_v (b := nI j) (by rw [Nat.add_sub_cancel_left]) ?_
          refine za_tab hx hb afKB hS (by omega) (by decide) dR_walkMaps_98 ?_
          refine lv_iconst (v := (-1)) hx hb dR_walkMaps_99 (by decide) ?_
          refine lv_ixor hx hb dR_walkMaps_100 ?_
          refine lv_iand hx hb dR_walkMaps_101 ?_
          refine lv_if_eq (tgt := 112) hx hb dR_walkMaps_102 (by decide) (fun c_102 => ?_) (fun q => False.elim ((by have h9 := hi; rw [show 16 - j = 16 - (j + 1) + 1 by omega] at h9; unfold mpL at h9; rw [if_neg (fun z => q ((kb_iff j (by omega) _ (htp (nx + j))).mpr z))] at h9; cases h9)))
          have c9 := (kb_iff j (by omega) _ (htp (nx + j))).mp c_102
          refine lv_iinc (v := nI ((nx + j) + 1)) (lv' := [(3, .int (nI ((nx + j) + 1))), (0, .ref r0), (1, .int (nI nx)), (2, .int (nI 1))]) hx hb dR_walkMaps_112 hl (k := 3) rfl (zi_incr (nx + j) 1) (by decide) rfl (fun ls hl => ?_)
          refine lv_goto (tgt := 76) hx hb dR_walkMaps_115 (by decide) ?_
          exact ih76 (j + 1) (by omega) (by have h9 := hi; rw [show 16 - j = 16 - (j + 1) + 1 by omega] at h9; unfold mpL at h9; rw [if_pos c9] at h9; exact h9) (by omega) _ _ _ (lv_sub hl [1, 2, 3, 0] rfl) (hP.sub [0, 1, 2] rfl) (hD.sub [0, 1, 2] (by decide) rfl) hS
    exact lp_76 ((16 - 0) + 1) 0 (by omega) hmp (Nat.lt_succ_self _) _ _ _ (lv_sub hl [3, 2, 1, 0] rfl) (hP.sub [0, 1, 2] rfl) (hD.sub [0, 1, 2] (by decide) rfl) hS
def rm_c_walkMaps_no : Room := ({ frames := 2, cells := 0, slots := 0, locals := 43 } : Room)
set_option maxHeartbeats 4000000 in
set_option maxRecDepth 100000 in
theorem c_walkMaps_no (l : Launch) (dC : Nat → ClassId) (dI : Nat → Nat → Nat) (r0 : Nat) (f0 : Nat) (fk : Nat) (fp : Int32) (t0 : Nat) (nx : Nat) (lnb : Nat) (t1 : Nat) (len : Nat) (cI : ClassId) (cB : ClassId) (tp : Nat → Nat) (k2 : Nat) (p2 : Nat) (hln : len ≤ 400) (hnl : nx ≤ len) (htp : ∀ j, tp j < 256) (hd : mapsF tp len nx = some (k2, p2)) (sz : Nat) : Met l yR_walkMaps wsR_walkMaps rm_c_walkMaps_no (zM (dC, dI) [(cI, .int), (cB, .byte)] [.ref r0] [(r0, .inr (1, [.ref f0, .int (nI fk), .int fp, .ref t0, .int (nI nx), .int (nI lnb)])), (t0, .inr (2, [.ref t1, .int (nI len)])), (t1, .inl (cB, 400, .inl (aB tp)))] sz) (zSi (dC, dI) [(r0, .inr (1, [.ref f0, .int (nI fk), .int fp, .ref t0, .int (nI nx), .int (nI lnb)])), (t0, .inr (2, [.ref t1, .int (nI len)])), (t1, .inl (cB, 400, .inl (aB tp)))] sz (fun r (u : Nat) => r = nI 0) (fun u => [(r0, .inr (1, [.ref f0, .int (nI k2), .int (nI p2), .ref t0, .int (nI u), .int (nI lnb)])), (t0, .inr (2, [.ref t1, .int (nI len)])), (t1, .inl (cB, 400, .inl (aB tp)))])) 0 0 (va_A [(r0, .inr (1, [.ref f0, .int (nI fk), .int fp, .ref t0, .int (nI nx), .int (nI lnb)])), (t0, .inr (2, [.ref t1, .int (nI len)])), (t1, .inl (cB, 400, .inl (aB tp)))] sz) := by
  refine Met.ofW (cc := cR_walkMaps) (maxL := 4) (ret := (some .boolean)) (by decide) rfl ?_
  intro p e s m args below meth c s₁ Bd hml hv
  obtain ⟨rfl, hsz, hG, hP, hK, hD0⟩ := hv
  subst hsz
  have hx := Bd.exec
  have hb := Bd.bytes
  have hr := Bd.returns
  have hts := atoms_spec (ws := wsR_walkMaps) Bd.pre
  have hw : ∀ w ∈ BIG, w.before _ s = true := fun w h => hts w (List.mem_cons_of_mem _ h)
  have hown : s.vm.findClass RR = some m.cls := findClass_of_methodNamed Bd.named
  have hlocks := Bd.notSynchronized
  have hD := hD0.self (sz := s.heap.size)
  obtain ⟨A, hAe⟩ : ∃ A, A = va_A [(r0, .inr (1, [.ref f0, .int (nI fk), .int fp, .ref t0, .int (nI nx), .int (nI lnb)])), (t0, .inr (2, [.ref t1, .int (nI len)])), (t1, .inl (cB, 400, .inl (aB tp)))] s.heap.size := ⟨_, rfl⟩
  have hA : ∀ q : Nat, s.heap.size ≤ q → A q := fun q h => by rw [hAe]; exact Or.inr h
  rw [← hAe] at hG hD
  have hS : va_S A s.heap s.heap [] := va_S.rf
  have hl := lv_entry ([.ref r0]) (n := 4) (Nat.le_of_ble_eq_true rfl)
  rw [lg_entry_eq]
  generalize (lg_sl ([.ref r0]) ++ List.replicate (4 - (lg_sl ([.ref r0])).length) Slot.unset).toArray = ls at hl ⊢
  have hl : lv_has ls 4 [(0, .ref r0)] := hl
  refine zq_name (fun Q hQ => ?_)
  change W p l e rm_c_walkMaps_no s m _ below meth c _ _ _ _ Q _
  obtain ⟨tfKB, zfKB, afKB⟩ := hG.KNOWN_BITS
  rcases mapsF_no hd with ⟨hl8, rfl, rfl⟩ | ⟨hl8, h8, hmp⟩ | ⟨hl8, h8, hl16, rfl, rfl⟩ | ⟨h8, hl16, hmp⟩ | ⟨h8, hl16, hmp, hany, rfl, rfl⟩
  · refine lv_aload_n hx hb dR_walkMaps_0 rfl (lv_at hl 0 rfl) ?_
    refine va_get (D := (dC, dI)) (ci := 1) (v := .int (nI nx)) (C := RR) (T := TR) (N := 6) hx hb hw inR hown hK hP 0 rfl rfl 4 (by decide) (hw _ w_fl_R_25) (fun _ h9 => h9) rfl dR_walkMaps_1 ?_
    refine lv_istore_n (lv' := [(1, .int (nI nx)), (0, .ref r0)]) hx hb dR_walkMaps_4 rfl hl (by decide) rfl (fun ls hl => ?_)
    refine lv_aload_n hx hb dR_walkMaps_5 rfl (lv_at hl 1 rfl) ?_
    refine lv_bipush (v := nI 8) hx hb dR_walkMaps_6 (by decide) ?_
    have hPc := hP.sub (ws' := [(r0, .inr (1, [.ref f0, .int (nI fk), .int fp, .ref t0, .int (nI nx), .int (nI lnb)])), (t0, .inr (2, [.ref t1, .int (nI len)]))]) [0, 1] rfl
    have hDc := hD.sub (ws' := [(r0, .inr (1, [.ref f0, .int (nI fk), .int fp, .ref t0, .int (nI nx), .int (nI lnb)])), (t0, .inr (2, [.ref t1, .int (nI len)]))]) [0, 1] (by decide) rfl
    have hFc := va_free (wc := [(r0, .inr (1, [.ref f0, .int (nI fk), .int fp, .ref t0, .int (nI nx), .int (nI lnb)])), (t0, .inr (2, [.ref t1, .int (nI len)]))]) hD hS hA [0, 1] rfl
    refine zc_Mi (va_runV (As := [.int (nI 8)]) (rest := []) ⟨hx, hb, hml, hown, hw⟩ (c_reaches_no l dC dI r0 f0 fk fp t0 nx lnb t1 len cI cB 8 (by omega) (by omega) (by omega) (by omega) s.heap.size) (cwV 1 hw (gV w_ml_R_79 w_im_R_reaches w_se_R_reaches w_in_R w_co_R_reaches) rfl rfl rfl (by decide +kernel) ⟨Nat.le_of_ble_eq_true rfl, Nat.le_of_ble_eq_true rfl⟩) (zM_V hG hS hFc hPc hDc hK 0 rfl rfl) rfl rfl hl.1 rfl (lv_room (Nat.le_of_ble_eq_true rfl)) dR_walkMaps_8 ⟨Nat.le_of_ble_eq_true rfl, Nat.le_of_ble_eq_true rfl⟩) hS hFc (fun r_1 H locs h_8 hP1 hD1 hk1 hS => ?_)
    obtain ⟨hP, hD⟩ := va_join (wr := [(t1, .inl (cB, 400, .inl (aB tp)))]) (w1 := [(r0, .inr (1, [.ref f0, .int (nI 1), .int (nI len), .ref t0, .int (nI nx), .int (nI lnb)])), (t0, .inr (2, [.ref t1, .int (nI len)]))]) hP hD [0, 1] [2] rfl rfl (by decide) (by decide) hk1 hFc hP1 hD1
    have hP : va_P (dC, dI) vwCl [(t1, .inl (cB, 400, .inl (aB tp))), (r0, .inr (1, [.ref f0, .int (nI 1), .int (nI len), .ref t0, .int (nI nx), .int (nI lnb)])), (t0, .inr (2, [.ref t1, .int (nI len)]))] H := hP
    have hD : va_D A [(t1, .inl (cB, 400, .inl (aB tp))), (r0, .inr (1, [.ref f0, .int (nI 1), .int (nI len), .ref t0, .int (nI nx), .int (nI lnb)])), (t0, .inr (2, [.ref t1, .int (nI len)]))] := hD
    subst h_8
    refine lv_if_ne (tgt := 16) hx hb dR_walkMaps_11 (by decide) (fun q => False.elim (absurd q (by decide))) (fun c_11 => ?_)
    refine lv_iconst (v := nI 0) hx hb dR_walkMaps_14 (by decide) ?_
    subst hAe
    subst hQ
    exact W.zret (v := nI 0) hx hb hr (by decide) (fun t ht hW => ⟨⟨nI 0, nx, rfl, rfl, by rw [ht]; exact hP.sub [1, 2, 0] rfl, hD.sub [1, 2, 0] (by decide) rfl⟩, hS.F ht⟩) hS.2.2 dR_walkMaps_15
  · refine lv_aload_n hx hb dR_walkMaps_0 rfl (lv_at hl 0 rfl) ?_
    refine va_get (D := (dC, dI)) (ci := 1) (v := .int (nI nx)) (C := RR) (T := TR) (N := 6) hx hb hw inR hown hK hP 0 rfl rfl 4 (by decide) (hw _ w_fl_R_25) (fun _ h9 => h9) rfl dR_walkMaps_1 ?_
    refine lv_istore_n (lv' := [(1, .int (nI nx)), (0, .ref r0)]) hx hb dR_walkMaps_4 rfl hl (by decide) rfl (fun ls hl => ?_)
    refine lv_aload_n hx hb dR_walkMaps_5 rfl (lv_at hl 1 rfl) ?_
    refine lv_bipush (v := nI 8) hx hb dR_walkMaps_6 (by decide) ?_
    refine zc_Ri (va_runV (As := [.int (nI 8)]) (rest := []) ⟨hx, hb, hml, hown, hw⟩ (c_reaches_ok l dC dI r0 f0 fk fp t0 nx lnb t1 len cI cB 8 (by omega) (by omega) (by omega) s.heap) (cwV 1 hw (gV w_ml_R_79 w_im_R_reaches w_se_R_reaches w_in_R w_co_R_reaches) rfl rfl rfl (by decide +kernel) ⟨Nat.le_of_ble_eq_true rfl, Nat.le_of_ble_eq_true rfl⟩) (zR_V hG hS (hP.sub (ws' := [(r0, .inr (1, [.ref f0, .int (nI fk), .int fp, .ref t0, .int (nI nx), .int (nI lnb)])), (t0, .inr (2, [.ref t1, .int (nI len)]))]) [0, 1] rfl) hK 0 rfl rfl) rfl rfl hl.1 rfl (lv_room (Nat.le_of_ble_eq_true rfl)) dR_walkMaps_8 ⟨Nat.le_of_ble_eq_true rfl, Nat.le_of_ble_eq_true rfl⟩) hS (fun r_2 locs h_8 hS => ?_)
    subst h_8
    refine lv_if_ne (tgt := 16) hx hb dR_walkMaps_11 (by decide) (fun c_11 => ?_) (fun q => False.elim (absurd q (by decide)))
    refine lv_aload_n hx hb dR_walkMaps_16 rfl (lv_at hl 1 rfl) ?_
    refine lv_dup hx hb dR_walkMaps_17 rfl ?_
    refine va_get (D := (dC, dI)) (ci := 1) (v := .int (nI nx)) (C := RR) (T := TR) (N := 6) hx hb hw inR hown hK hP 0 rfl rfl 4 (by decide) (hw _ w_fl_R_25) (fun _ h9 => h9) rfl dR_walkMaps_18 ?_
    refine lv_bipush (v := nI 8) hx hb dR_walkMaps_21 (by decide) ?_
    refine zi_add hx hb dR_walkMaps_23 ?_
    refine va_put (D := (dC, dI)) (ci := 1) (v := .int (nI (nx + 8))) (ty := .int) (C := RR) (T := TR) (N := 6) hx hb hw inR tyR tyR_ok nmR hown hK hP hD hS 0 rfl rfl 4 (by decide) (hw _ w_fl_R_25) (fun _ h9 => h9) rfl (by decide +kernel) rfl rfl (Nat.le_of_ble_eq_true rfl) dR_walkMaps_24 (fun H locs hP hD hS => ?_)
    have hP : va_P (dC, dI) vwCl [(r0, .inr (1, [.ref f0, .int (nI fk), .int fp, .ref t0, .int (nI (nx + 8)), .int (nI lnb)])), (t0, .inr (2, [.ref t1, .int (nI len)])), (t1, .inl (cB, 400, .inl (aB tp)))] H := hP
    have hD : va_D A [(r0, .inr (1, [.ref f0, .int (nI fk), .int fp, .ref t0, .int (nI (nx + 8)), .int (nI lnb)])), (t0, .inr (2, [.ref t1, .int (nI len)])), (t1, .inl (cB, 400, .inl (aB tp)))] := hD
    refine lv_aload_n hx hb dR_walkMaps_27 rfl (lv_at hl 1 rfl) ?_
    refine va_get (D := (dC, dI)) (ci := 1) (v := .ref t0) (C := RR) (T := TR) (N := 6) hx hb hw inR hown hK hP 0 rfl rfl 3 (by decide) (hw _ w_fl_R_31) (fun _ h9 => h9) rfl dR_walkMaps_28 ?_
    refine lv_iload_n hx hb dR_walkMaps_31 rfl (lv_at hl 0 rfl) ?_
    refine zc_Ri (va_runV (As := [.int (nI nx)]) (rest := []) ⟨hx, hb, hml, hown, hw⟩ (c_T_byteAt l dC dI t0 t1 len cI cB tp nx (by omega) (htp _) H) (cwV 1 hw (gV w_ml_R_50 w_im_T_byteAt w_se_T_byteAt w_in_T w_co_T_byteAt) rfl rfl rfl (by decide +kernel) ⟨Nat.le_of_ble_eq_true rfl, Nat.le_of_ble_eq_true rfl⟩) (zR_V hG hS (hP.sub (ws' := [(t0, .inr (2, [.ref t1, .int (nI len)])), (t1, .inl (cB, 400, .inl (aB tp)))]) [1, 2] rfl) hK 0 rfl rfl) rfl rfl hl.1 rfl (lv_room (Nat.le_of_ble_eq_true rfl)) dR_walkMaps_32 ⟨Nat.le_of_ble_eq_true rfl, Nat.le_of_ble_eq_true rfl⟩) hS (fun r_3 locs h_32 hS => ?_)
    subst h_32
    refine lv_sipush (v := nI 128) hx hb dR_walkMaps_35 (by decide) ?_
    refine lv_iand hx hb dR_walkMaps_38 ?_
    refine zi_v (b := nI ((tp nx) &&& 128)) (nI_and _ _) ?_
    refine zi_eq0 (tgt := 46) hx hb (lt_and (by decide)) dR_walkMaps_39 (by decide) (fun c_39 => ?_) (fun q => False.elim ((q ((and_128 _ (htp _)).mpr h8))))
    refine lv_iconst (v := nI 0) hx hb dR_walkMaps_46 (by decide) ?_
    refine lv_istore_n (lv' := [(2, .int (nI 0)), (1, .int (nI nx)), (0, .ref r0)]) hx hb dR_walkMaps_47 rfl hl (by decide) rfl (fun ls hl => ?_)
    refine lv_iload_n hx hb dR_walkMaps_48 rfl (lv_at hl 0 rfl) ?_
    refine lv_if_eq (tgt := 74) hx hb dR_walkMaps_49 (by decide) (fun c_49 => ?_) (fun q => False.elim (absurd q (by decide)))
    refine lv_iload_n hx hb dR_walkMaps_74 rfl (lv_at hl 1 rfl) ?_
    refine lv_istore_n (lv' := [(3, .int (nI nx)), (2, .int (nI 0)), (1, .int (nI nx)), (0, .ref r0)]) hx hb dR_walkMaps_75 rfl hl (by decide) rfl (fun ls hl => ?_)
    have lp_76 : ∀ (fu : Nat) (j : Nat) (hj : j ≤ 8) (hi : mpL tp nx (8 - j) j = some (k2, p2)) (hms : 8 - j < fu) (H : Heap) (locs : List Loc) (ls : Array Slot), lv_has ls 4 [(0, .ref r0), (1, .int (nI nx)), (2, .int (nI 0)), (3, .int (nI (nx + j)))] → va_P (dC, dI) vwCl [(r0, .inr (1, [.ref f0, .int (nI fk), .int fp, .ref t0, .int (nI (nx + 8)), .int (nI lnb)])), (t0, .inr (2, [.ref t1, .int (nI len)])), (t1, .inl (cB, 400, .inl (aB tp)))] H → va_D A [(r0, .inr (1, [.ref f0, .int (nI fk), .int fp, .ref t0, .int (nI (nx + 8)), .int (nI lnb)])), (t0, .inr (2, [.ref t1, .int (nI len)])), (t1, .inl (cB, 400, .inl (aB tp)))] → va_S A s.heap H locs → W p l e rm_c_walkMaps_no s m ([.ref r0] : List Value).toArray below meth c H locs 0 0 Q (F0 m 76 ls []) := by
      intro fu
      induction fu with
      | zero => intro j hj hi hms; exact absurd hms (Nat.not_lt_zero _)
      | succ fu ih76 =>
        intro j hj hi hms H locs ls hl hP hD hS
        refine lv_iload_n hx hb dR_walkMaps_76 rfl (lv_at hl 3 rfl) ?_
        refine lv_aload_n hx hb dR_walkMaps_77 rfl (lv_at hl 0 rfl) ?_
        refine va_get (D := (dC, dI)) (ci := 1) (v := .int (nI (nx + 8))) (C := RR) (T := TR) (N := 6) hx hb hw inR hown hK hP 0 rfl rfl 4 (by decide) (hw _ w_fl_R_25) (fun _ h9 => h9) rfl dR_walkMaps_78 ?_
        refine zi_ge (tgt := 118) hx hb (by omega) (by omega) dR_walkMaps_81 (by decide) (fun q => False.elim ((by have h9 := hi; rw [show 8 - j = 0 by omega] at h9; cases h9))) (fun c_81 => ?_)
        have ht9 := htp (nx + j)
        refine lv_aload_n hx hb dR_walkMaps_84 rfl (lv_at hl 0 rfl) ?_
        refine va_get (D := (dC, dI)) (ci := 1) (v := .ref t0) (C := RR) (T := TR) (N := 6) hx hb hw inR hown hK hP 0 rfl rfl 3 (by decide) (hw _ w_fl_R_31) (fun _ h9 => h9) rfl dR_walkMaps_85 ?_
        refine lv_iload_n hx hb dR_walkMaps_88 rfl (lv_at hl 3 rfl) ?_
        refine zc_Ri (va_runV (As := [.int (nI (nx + j))]) (rest := []) ⟨hx, hb, hml, hown, hw⟩ (c_T_byteAt l dC dI t0 t1 len cI cB tp (nx + j) (by omega) (htp _) H) (cwV 1 hw (gV w_ml_R_50 w_im_T_byteAt w_se_T_byteAt w_in_T w_co_T_byteAt) rfl rfl rfl (by decide +kernel) ⟨Nat.le_of_ble_eq_true rfl, Nat.le_of_ble_eq_true rfl⟩) (zR_V hG hS (hP.sub (ws' := [(t0, .inr (2, [.ref t1, .int (nI len)])), (t1, .inl (cB, 400, .inl (aB tp)))]) [1, 2] rfl) hK 0 rfl rfl) rfl rfl hl.1 rfl (lv_room (Nat.le_of_ble_eq_true rfl)) dR_walkMaps_89 ⟨Nat.le_of_ble_eq_true rfl, Nat.le_of_ble_eq_true rfl⟩) hS (fun r_4 locs h_89 hS => ?_)
        subst h_89
        refine va_getsN hx hb zfKB hS hown (va_Nw.use rfl (hG.nf (RR, 82, "KNOWN_BITS") (List.mem_of_getElem? (i := 6) rfl))) (fun _ h9 => h9) dR_walkMaps_92 ?_
        refine lv_iload_n hx hb dR_walkMaps_95 rfl (lv_at hl 3 rfl) ?_
        refine lv_iload_n hx hb dR_walkMaps_96 rfl (lv_at hl 1 rfl) ?_
        refine zi_sub hx hb (by omega) dR_walkMaps_97 ?_
        refine zi_v (b := nI j) (by rw [Nat.add_sub_cancel_left]) ?_
        refine za_tab hx hb afKB hS (by omega) (by decide) dR_walkMaps_98 ?_
        refine lv_iconst (v := (-1)) hx hb dR_walkMaps_99 (by decide) ?_
        refine lv_ixor hx hb dR_walkMaps_100 ?_
        refine lv_iand hx hb dR_walkMaps_101 ?_
        refine lv_if_eq (tgt := 112) hx hb dR_walkMaps_102 (by decide) (fun c_102 => ?_) (fun c_102 => ?_)
        · have c9 := (kb_iff j (by omega) _ (htp (nx + j))).mp c_102
          refine lv_iinc (v := nI ((nx + j) + 1)) (lv' := [(3, .int (nI ((nx + j) + 1))), (0, .ref r0), (1, .int (nI nx)), (2, .int (nI 0))]) hx hb dR_walkMaps_112 hl (k := 3) rfl (zi_incr (nx + j) 1) (by decide) rfl (fun ls hl => ?_)
          refine lv_goto (tgt := 76) hx hb dR_walkMaps_115 (by decide) ?_
          exact ih76 (j + 1) (by omega) (by have h9 := hi; rw [show 8 - j = 8 - (j + 1) + 1 by omega] at h9; unfold mpL at h9; rw [if_pos c9] at h9; exact h9) (by omega) _ _ _ (lv_sub hl [1, 2, 3, 0] rfl) (hP.sub [0, 1, 2] rfl) (hD.sub [0, 1, 2] (by decide) rfl) hS
        · have h9 := hi
          rw [show 8 - j = 8 - (j + 1) + 1 by omega] at h9
          unfold mpL at h9
          rw [if_neg (fun z => c_102 ((kb_iff j (by omega) _ (htp (nx + j))).mpr z))] at h9
          cases h9
          refine lv_aload_n hx hb dR_walkMaps_105 rfl (lv_at hl 0 rfl) ?_
          refine lv_iconst (v := nI 4) hx hb dR_walkMaps_106 (by decide) ?_
          refine lv_iload_n hx hb dR_walkMaps_107 rfl (lv_at hl 3 rfl) ?_
          have hPc := hP.sub (ws' := [(r0, .inr (1, [.ref f0, .int (nI fk), .int fp, .ref t0, .int (nI (nx + 8)), .int (nI lnb)]))]) [0] rfl
          have hDc := hD.sub (ws' := [(r0, .inr (1, [.ref f0, .int (nI fk), .int fp, .ref t0, .int (nI (nx + 8)), .int (nI lnb)]))]) [0] (by decide) rfl
          have hFc := va_free (wc := [(r0, .inr (1, [.ref f0, .int (nI fk), .int fp, .ref t0, .int (nI (nx + 8)), .int (nI lnb)]))]) hD hS hA [0] rfl
          refine zc_Mi (va_runV (As := [.int (nI 4), .int (nI (nx + j))]) (rest := []) ⟨hx, hb, hml, hown, hw⟩ (c_R_fail l dC dI r0 f0 fk fp t0 (nx + 8) lnb cI cB 4 (nI (nx + j)) H.size) (cwV 2 hw (gV w_ml_R_65 w_im_R_fail w_se_R_fail w_in_R w_co_R_fail) rfl rfl rfl (by decide +kernel) ⟨Nat.le_of_ble_eq_true rfl, Nat.le_of_ble_eq_true rfl⟩) (zM_V hG hS hFc hPc hDc hK 0 rfl rfl) rfl rfl hl.1 rfl (lv_room (Nat.le_of_ble_eq_true rfl)) dR_walkMaps_108 ⟨Nat.le_of_ble_eq_true rfl, Nat.le_of_ble_eq_true rfl⟩) hS hFc (fun r_5 H locs h_108 hP1 hD1 hk1 hS => ?_)
          obtain ⟨hP, hD⟩ := va_join (wr := [(t0, .inr (2, [.ref t1, .int (nI len)])), (t1, .inl (cB, 400, .inl (aB tp)))]) (w1 := [(r0, .inr (1, [.ref f0, .int (nI 4), .int (nI (nx + j)), .ref t0, .int (nI (nx + 8)), .int (nI lnb)]))]) hP hD [0] [1, 2] rfl rfl (by decide) (by decide) hk1 hFc hP1 hD1
          have hP : va_P (dC, dI) vwCl [(t0, .inr (2, [.ref t1, .int (nI len)])), (t1, .inl (cB, 400, .inl (aB tp))), (r0, .inr (1, [.ref f0, .int (nI 4), .int (nI (nx + j)), .ref t0, .int (nI (nx + 8)), .int (nI lnb)]))] H := hP
          have hD : va_D A [(t0, .inr (2, [.ref t1, .int (nI len)])), (t1, .inl (cB, 400, .inl (aB tp))), (r0, .inr (1, [.ref f0, .int (nI 4), .int (nI (nx + j)), .ref t0, .int (nI (nx + 8)), .int (nI lnb)]))] := hD
          subst h_108
          subst hAe
          subst hQ
          exact W.zret (v := nI 0) hx hb hr (by decide) (fun t ht hW => ⟨⟨nI 0, (nx + 8), rfl, rfl, by rw [ht]; exact hP.sub [2, 0, 1] rfl, hD.sub [2, 0, 1] (by decide) rfl⟩, hS.F ht⟩) hS.2.2 dR_walkMaps_111
    exact lp_76 ((8 - 0) + 1) 0 (by omega) hmp (Nat.lt_succ_self _) _ _ _ (lv_sub hl [3, 2, 1, 0] rfl) (hP.sub [0, 1, 2] rfl) (hD.sub [0, 1, 2] (by decide) rfl) hS
  · refine lv_aload_n hx hb dR_walkMaps_0 rfl (lv_at hl 0 rfl) ?_
    refine va_get (D := (dC, dI)) (ci := 1) (v := .int (nI nx)) (C := RR) (T := TR) (N := 6) hx hb hw inR hown hK hP 0 rfl rfl 4 (by decide) (hw _ w_fl_R_25) (fun _ h9 => h9) rfl dR_walkMaps_1 ?_
    refine lv_istore_n (lv' := [(1, .int (nI nx)), (0, .ref r0)]) hx hb dR_walkMaps_4 rfl hl (by decide) rfl (fun ls hl => ?_)
    refine lv_aload_n hx hb dR_walkMaps_5 rfl (lv_at hl 1 rfl) ?_
    refine lv_bipush (v := nI 8) hx hb dR_walkMaps_6 (by decide) ?_
    refine zc_Ri (va_runV (As := [.int (nI 8)]) (rest := []) ⟨hx, hb, hml, hown, hw⟩ (c_reaches_ok l dC dI r0 f0 fk fp t0 nx lnb t1 len cI cB 8 (by omega) (by omega) (by omega) s.heap) (cwV 1 hw (gV w_ml_R_79 w_im_R_reaches w_se_R_reaches w_in_R w_co_R_reaches) rfl rfl rfl (by decide +kernel) ⟨Nat.le_of_ble_eq_true rfl, Nat.le_of_ble_eq_true rfl⟩) (zR_V hG hS (hP.sub (ws' := [(r0, .inr (1, [.ref f0, .int (nI fk), .int fp, .ref t0, .int (nI nx), .int (nI lnb)])), (t0, .inr (2, [.ref t1, .int (nI len)]))]) [0, 1] rfl) hK 0 rfl rfl) rfl rfl hl.1 rfl (lv_room (Nat.le_of_ble_eq_true rfl)) dR_walkMaps_8 ⟨Nat.le_of_ble_eq_true rfl, Nat.le_of_ble_eq_true rfl⟩) hS (fun r_6 locs h_8 hS => ?_)
    subst h_8
    refine lv_if_ne (tgt := 16) hx hb dR_walkMaps_11 (by decide) (fun c_11 => ?_) (fun q => False.elim (absurd q (by decide)))
    refine lv_aload_n hx hb dR_walkMaps_16 rfl (lv_at hl 1 rfl) ?_
    refine lv_dup hx hb dR_walkMaps_17 rfl ?_
    refine va_get (D := (dC, dI)) (ci := 1) (v := .int (nI nx)) (C := RR) (T := TR) (N := 6) hx hb hw inR hown hK hP 0 rfl rfl 4 (by decide) (hw _ w_fl_R_25) (fun _ h9 => h9) rfl dR_walkMaps_18 ?_
    refine lv_bipush (v := nI 8) hx hb dR_walkMaps_21 (by decide) ?_
    refine zi_add hx hb dR_walkMaps_23 ?_
    refine va_put (D := (dC, dI)) (ci := 1) (v := .int (nI (nx + 8))) (ty := .int) (C := RR) (T := TR) (N := 6) hx hb hw inR tyR tyR_ok nmR hown hK hP hD hS 0 rfl rfl 4 (by decide) (hw _ w_fl_R_25) (fun _ h9 => h9) rfl (by decide +kernel) rfl rfl (Nat.le_of_ble_eq_true rfl) dR_walkMaps_24 (fun H locs hP hD hS => ?_)
    have hP : va_P (dC, dI) vwCl [(r0, .inr (1, [.ref f0, .int (nI fk), .int fp, .ref t0, .int (nI (nx + 8)), .int (nI lnb)])), (t0, .inr (2, [.ref t1, .int (nI len)])), (t1, .inl (cB, 400, .inl (aB tp)))] H := hP
    have hD : va_D A [(r0, .inr (1, [.ref f0, .int (nI fk), .int fp, .ref t0, .int (nI (nx + 8)), .int (nI lnb)])), (t0, .inr (2, [.ref t1, .int (nI len)])), (t1, .inl (cB, 400, .inl (aB tp)))] := hD
    refine lv_aload_n hx hb dR_walkMaps_27 rfl (lv_at hl 1 rfl) ?_
    refine va_get (D := (dC, dI)) (ci := 1) (v := .ref t0) (C := RR) (T := TR) (N := 6) hx hb hw inR hown hK hP 0 rfl rfl 3 (by decide) (hw _ w_fl_R_31) (fun _ h9 => h9) rfl dR_walkMaps_28 ?_
    refine lv_iload_n hx hb dR_walkMaps_31 rfl (lv_at hl 0 rfl) ?_
    refine zc_Ri (va_runV (As := [.int (nI nx)]) (rest := []) ⟨hx, hb, hml, hown, hw⟩ (c_T_byteAt l dC dI t0 t1 len cI cB tp nx (by omega) (htp _) H) (cwV 1 hw (gV w_ml_R_50 w_im_T_byteAt w_se_T_byteAt w_in_T w_co_T_byteAt) rfl rfl rfl (by decide +kernel) ⟨Nat.le_of_ble_eq_true rfl, Nat.le_of_ble_eq_true rfl⟩) (zR_V hG hS (hP.sub (ws' := [(t0, .inr (2, [.ref t1, .int (nI len)])), (t1, .inl (cB, 400, .inl (aB tp)))]) [1, 2] rfl) hK 0 rfl rfl) rfl rfl hl.1 rfl (lv_room (Nat.le_of_ble_eq_true rfl)) dR_walkMaps_32 ⟨Nat.le_of_ble_eq_true rfl, Nat.le_of_ble_eq_true rfl⟩) hS (fun r_7 locs h_32 hS => ?_)
    subst h_32
    refine lv_sipush (v := nI 128) hx hb dR_walkMaps_35 (by decide) ?_
    refine lv_iand hx hb dR_walkMaps_38 ?_
    refine zi_v (b := nI ((tp nx) &&& 128)) (nI_and _ _) ?_
    refine zi_eq0 (tgt := 46) hx hb (lt_and (by decide)) dR_walkMaps_39 (by decide) (fun q => False.elim ((h8 ((and_128 _ (htp _)).mp q)))) (fun c_39 => ?_)
    refine lv_iconst (v := nI 1) hx hb dR_walkMaps_42 (by decide) ?_
    refine lv_goto (tgt := 47) hx hb dR_walkMaps_43 (by decide) ?_
    refine lv_istore_n (lv' := [(2, .int (nI 1)), (1, .int (nI nx)), (0, .ref r0)]) hx hb dR_walkMaps_47 rfl hl (by decide) rfl (fun ls hl => ?_)
    refine lv_iload_n hx hb dR_walkMaps_48 rfl (lv_at hl 0 rfl) ?_
    refine lv_if_eq (tgt := 74) hx hb dR_walkMaps_49 (by decide) (fun q => False.elim (absurd q (by decide))) (fun c_49 => ?_)
    refine lv_aload_n hx hb dR_walkMaps_52 rfl (lv_at hl 2 rfl) ?_
    refine lv_bipush (v := nI 8) hx hb dR_walkMaps_53 (by decide) ?_
    have hPc := hP.sub (ws' := [(r0, .inr (1, [.ref f0, .int (nI fk), .int fp, .ref t0, .int (nI (nx + 8)), .int (nI lnb)])), (t0, .inr (2, [.ref t1, .int (nI len)]))]) [0, 1] rfl
    have hDc := hD.sub (ws' := [(r0, .inr (1, [.ref f0, .int (nI fk), .int fp, .ref t0, .int (nI (nx + 8)), .int (nI lnb)])), (t0, .inr (2, [.ref t1, .int (nI len)]))]) [0, 1] (by decide) rfl
    have hFc := va_free (wc := [(r0, .inr (1, [.ref f0, .int (nI fk), .int fp, .ref t0, .int (nI (nx + 8)), .int (nI lnb)])), (t0, .inr (2, [.ref t1, .int (nI len)]))]) hD hS hA [0, 1] rfl
    refine zc_Mi (va_runV (As := [.int (nI 8)]) (rest := []) ⟨hx, hb, hml, hown, hw⟩ (c_reaches_no l dC dI r0 f0 fk fp t0 (nx + 8) lnb t1 len cI cB 8 (by omega) (by omega) (by omega) (by omega) H.size) (cwV 1 hw (gV w_ml_R_79 w_im_R_reaches w_se_R_reaches w_in_R w_co_R_reaches) rfl rfl rfl (by decide +kernel) ⟨Nat.le_of_ble_eq_true rfl, Nat.le_of_ble_eq_true rfl⟩) (zM_V hG hS hFc hPc hDc hK 0 rfl rfl) rfl rfl hl.1 rfl (lv_room (Nat.le_of_ble_eq_true rfl)) dR_walkMaps_55 ⟨Nat.le_of_ble_eq_true rfl, Nat.le_of_ble_eq_true rfl⟩) hS hFc (fun r_8 H locs h_55 hP1 hD1 hk1 hS => ?_)
    obtain ⟨hP, hD⟩ := va_join (wr := [(t1, .inl (cB, 400, .inl (aB tp)))]) (w1 := [(r0, .inr (1, [.ref f0, .int (nI 1), .int (nI len), .ref t0, .int (nI (nx + 8)), .int (nI lnb)])), (t0, .inr (2, [.ref t1, .int (nI len)]))]) hP hD [0, 1] [2] rfl rfl (by decide) (by decide) hk1 hFc hP1 hD1
    have hP : va_P (dC, dI) vwCl [(t1, .inl (cB, 400, .inl (aB tp))), (r0, .inr (1, [.ref f0, .int (nI 1), .int (nI len), .ref t0, .int (nI (nx + 8)), .int (nI lnb)])), (t0, .inr (2, [.ref t1, .int (nI len)]))] H := hP
    have hD : va_D A [(t1, .inl (cB, 400, .inl (aB tp))), (r0, .inr (1, [.ref f0, .int (nI 1), .int (nI len), .ref t0, .int (nI (nx + 8)), .int (nI lnb)])), (t0, .inr (2, [.ref t1, .int (nI len)]))] := hD
    subst h_55
    refine lv_if_ne (tgt := 63) hx hb dR_walkMaps_58 (by decide) (fun q => False.elim (absurd q (by decide))) (fun c_58 => ?_)
    refine lv_iconst (v := nI 0) hx hb dR_walkMaps_61 (by decide) ?_
    subst hAe
    subst hQ
    exact W.zret (v := nI 0) hx hb hr (by decide) (fun t ht hW => ⟨⟨nI 0, (nx + 8), rfl, rfl, by rw [ht]; exact hP.sub [1, 2, 0] rfl, hD.sub [1, 2, 0] (by decide) rfl⟩, hS.F ht⟩) hS.2.2 dR_walkMaps_62
  · refine lv_aload_n hx hb dR_walkMaps_0 rfl (lv_at hl 0 rfl) ?_
    refine va_get (D := (dC, dI)) (ci := 1) (v := .int (nI nx)) (C := RR) (T := TR) (N := 6) hx hb hw inR hown hK hP 0 rfl rfl 4 (by decide) (hw _ w_fl_R_25) (fun _ h9 => h9) rfl dR_walkMaps_1 ?_
    refine lv_istore_n (lv' := [(1, .int (nI nx)), (0, .ref r0)]) hx hb dR_walkMaps_4 rfl hl (by decide) rfl (fun ls hl => ?_)
    refine lv_aload_n hx hb dR_walkMaps_5 rfl (lv_at hl 1 rfl) ?_
    refine lv_bipush (v := nI 8) hx hb dR_walkMaps_6 (by decide) ?_
    refine zc_Ri (va_runV (As := [.int (nI 8)]) (rest := []) ⟨hx, hb, hml, hown, hw⟩ (c_reaches_ok l dC dI r0 f0 fk fp t0 nx lnb t1 len cI cB 8 (by omega) (by omega) (by omega) s.heap) (cwV 1 hw (gV w_ml_R_79 w_im_R_reaches w_se_R_reaches w_in_R w_co_R_reaches) rfl rfl rfl (by decide +kernel) ⟨Nat.le_of_ble_eq_true rfl, Nat.le_of_ble_eq_true rfl⟩) (zR_V hG hS (hP.sub (ws' := [(r0, .inr (1, [.ref f0, .int (nI fk), .int fp, .ref t0, .int (nI nx), .int (nI lnb)])), (t0, .inr (2, [.ref t1, .int (nI len)]))]) [0, 1] rfl) hK 0 rfl rfl) rfl rfl hl.1 rfl (lv_room (Nat.le_of_ble_eq_true rfl)) dR_walkMaps_8 ⟨Nat.le_of_ble_eq_true rfl, Nat.le_of_ble_eq_true rfl⟩) hS (fun r_9 locs h_8 hS => ?_)
    subst h_8
    refine lv_if_ne (tgt := 16) hx hb dR_walkMaps_11 (by decide) (fun c_11 => ?_) (fun q => False.elim (absurd q (by decide)))
    refine lv_aload_n hx hb dR_walkMaps_16 rfl (lv_at hl 1 rfl) ?_
    refine lv_dup hx hb dR_walkMaps_17 rfl ?_
    refine va_get (D := (dC, dI)) (ci := 1) (v := .int (nI nx)) (C := RR) (T := TR) (N := 6) hx hb hw inR hown hK hP 0 rfl rfl 4 (by decide) (hw _ w_fl_R_25) (fun _ h9 => h9) rfl dR_walkMaps_18 ?_
    refine lv_bipush (v := nI 8) hx hb dR_walkMaps_21 (by decide) ?_
    refine zi_add hx hb dR_walkMaps_23 ?_
    refine va_put (D := (dC, dI)) (ci := 1) (v := .int (nI (nx + 8))) (ty := .int) (C := RR) (T := TR) (N := 6) hx hb hw inR tyR tyR_ok nmR hown hK hP hD hS 0 rfl rfl 4 (by decide) (hw _ w_fl_R_25) (fun _ h9 => h9) rfl (by decide +kernel) rfl rfl (Nat.le_of_ble_eq_true rfl) dR_walkMaps_24 (fun H locs hP hD hS => ?_)
    have hP : va_P (dC, dI) vwCl [(r0, .inr (1, [.ref f0, .int (nI fk), .int fp, .ref t0, .int (nI (nx + 8)), .int (nI lnb)])), (t0, .inr (2, [.ref t1, .int (nI len)])), (t1, .inl (cB, 400, .inl (aB tp)))] H := hP
    have hD : va_D A [(r0, .inr (1, [.ref f0, .int (nI fk), .int fp, .ref t0, .int (nI (nx + 8)), .int (nI lnb)])), (t0, .inr (2, [.ref t1, .int (nI len)])), (t1, .inl (cB, 400, .inl (aB tp)))] := hD
    refine lv_aload_n hx hb dR_walkMaps_27 rfl (lv_at hl 1 rfl) ?_
    refine va_get (D := (dC, dI)) (ci := 1) (v := .ref t0) (C := RR) (T := TR) (N := 6) hx hb hw inR hown hK hP 0 rfl rfl 3 (by decide) (hw _ w_fl_R_31) (fun _ h9 => h9) rfl dR_walkMaps_28 ?_
    refine lv_iload_n hx hb dR_walkMaps_31 rfl (lv_at hl 0 rfl) ?_
    refine zc_Ri (va_runV (As := [.int (nI nx)]) (rest := []) ⟨hx, hb, hml, hown, hw⟩ (c_T_byteAt l dC dI t0 t1 len cI cB tp nx (by omega) (htp _) H) (cwV 1 hw (gV w_ml_R_50 w_im_T_byteAt w_se_T_byteAt w_in_T w_co_T_byteAt) rfl rfl rfl (by decide +kernel) ⟨Nat.le_of_ble_eq_true rfl, Nat.le_of_ble_eq_true rfl⟩) (zR_V hG hS (hP.sub (ws' := [(t0, .inr (2, [.ref t1, .int (nI len)])), (t1, .inl (cB, 400, .inl (aB tp)))]) [1, 2] rfl) hK 0 rfl rfl) rfl rfl hl.1 rfl (lv_room (Nat.le_of_ble_eq_true rfl)) dR_walkMaps_32 ⟨Nat.le_of_ble_eq_true rfl, Nat.le_of_ble_eq_true rfl⟩) hS (fun r_10 locs h_32 hS => ?_)
    subst h_32
    refine lv_sipush (v := nI 128) hx hb dR_walkMaps_35 (by decide) ?_
    refine lv_iand hx hb dR_walkMaps_38 ?_
    refine zi_v (b := nI ((tp nx) &&& 128)) (nI_and _ _) ?_
    refine zi_eq0 (tgt := 46) hx hb (lt_and (by decide)) dR_walkMaps_39 (by decide) (fun q => False.elim ((h8 ((and_128 _ (htp _)).mp q)))) (fun c_39 => ?_)
    refine lv_iconst (v := nI 1) hx hb dR_walkMaps_42 (by decide) ?_
    refine lv_goto (tgt := 47) hx hb dR_walkMaps_43 (by decide) ?_
    refine lv_istore_n (lv' := [(2, .int (nI 1)), (1, .int (nI nx)), (0, .ref r0)]) hx hb dR_walkMaps_47 rfl hl (by decide) rfl (fun ls hl => ?_)
    refine lv_iload_n hx hb dR_walkMaps_48 rfl (lv_at hl 0 rfl) ?_
    refine lv_if_eq (tgt := 74) hx hb dR_walkMaps_49 (by decide) (fun q => False.elim (absurd q (by decide))) (fun c_49 => ?_)
    refine lv_aload_n hx hb dR_walkMaps_52 rfl (lv_at hl 2 rfl) ?_
    refine lv_bipush (v := nI 8) hx hb dR_walkMaps_53 (by decide) ?_
    refine zc_Ri (va_runV (As := [.int (nI 8)]) (rest := []) ⟨hx, hb, hml, hown, hw⟩ (c_reaches_ok l dC dI r0 f0 fk fp t0 (nx + 8) lnb t1 len cI cB 8 (by omega) (by omega) (by omega) H) (cwV 1 hw (gV w_ml_R_79 w_im_R_reaches w_se_R_reaches w_in_R w_co_R_reaches) rfl rfl rfl (by decide +kernel) ⟨Nat.le_of_ble_eq_true rfl, Nat.le_of_ble_eq_true rfl⟩) (zR_V hG hS (hP.sub (ws' := [(r0, .inr (1, [.ref f0, .int (nI fk), .int fp, .ref t0, .int (nI (nx + 8)), .int (nI lnb)])), (t0, .inr (2, [.ref t1, .int (nI len)]))]) [0, 1] rfl) hK 0 rfl rfl) rfl rfl hl.1 rfl (lv_room (Nat.le_of_ble_eq_true rfl)) dR_walkMaps_55 ⟨Nat.le_of_ble_eq_true rfl, Nat.le_of_ble_eq_true rfl⟩) hS (fun r_11 locs h_55 hS => ?_)
    subst h_55
    refine lv_if_ne (tgt := 63) hx hb dR_walkMaps_58 (by decide) (fun c_58 => ?_) (fun q => False.elim (absurd q (by decide)))
    refine lv_aload_n hx hb dR_walkMaps_63 rfl (lv_at hl 2 rfl) ?_
    refine lv_dup hx hb dR_walkMaps_64 rfl ?_
    refine va_get (D := (dC, dI)) (ci := 1) (v := .int (nI (nx + 8))) (C := RR) (T := TR) (N := 6) hx hb hw inR hown hK hP 0 rfl rfl 4 (by decide) (hw _ w_fl_R_25) (fun _ h9 => h9) rfl dR_walkMaps_65 ?_
    refine lv_bipush (v := nI 8) hx hb dR_walkMaps_68 (by decide) ?_
    refine zi_add hx hb dR_walkMaps_70 ?_
    refine va_put (D := (dC, dI)) (ci := 1) (v := .int (nI ((nx + 8) + 8))) (ty := .int) (C := RR) (T := TR) (N := 6) hx hb hw inR tyR tyR_ok nmR hown hK hP hD hS 0 rfl rfl 4 (by decide) (hw _ w_fl_R_25) (fun _ h9 => h9) rfl (by decide +kernel) rfl rfl (Nat.le_of_ble_eq_true rfl) dR_walkMaps_71 (fun H locs hP hD hS => ?_)
    have hP : va_P (dC, dI) vwCl [(r0, .inr (1, [.ref f0, .int (nI fk), .int fp, .ref t0, .int (nI ((nx + 8) + 8)), .int (nI lnb)])), (t0, .inr (2, [.ref t1, .int (nI len)])), (t1, .inl (cB, 400, .inl (aB tp)))] H := hP
    have hD : va_D A [(r0, .inr (1, [.ref f0, .int (nI fk), .int fp, .ref t0, .int (nI ((nx + 8) + 8)), .int (nI lnb)])), (t0, .inr (2, [.ref t1, .int (nI len)])), (t1, .inl (cB, 400, .inl (aB tp)))] := hD
    refine lv_iload_n hx hb dR_walkMaps_74 rfl (lv_at hl 1 rfl) ?_
    refine lv_istore_n (lv' := [(3, .int (nI nx)), (2, .int (nI 1)), (1, .int (nI nx)), (0, .ref r0)]) hx hb dR_walkMaps_75 rfl hl (by decide) rfl (fun ls hl => ?_)
    have lp_76 : ∀ (fu : Nat) (j : Nat) (hj : j ≤ 16) (hi : mpL tp nx (16 - j) j = some (k2, p2)) (hms : 16 - j < fu) (H : Heap) (locs : List Loc) (ls : Array Slot), lv_has ls 4 [(0, .ref r0), (1, .int (nI nx)), (2, .int (nI 1)), (3, .int (nI (nx + j)))] → va_P (dC, dI) vwCl [(r0, .inr (1, [.ref f0, .int (nI fk), .int fp, .ref t0, .int (nI ((nx + 8) + 8)), .int (nI lnb)])), (t0, .inr (2, [.ref t1, .int (nI len)])), (t1, .inl (cB, 400, .inl (aB tp)))] H → va_D A [(r0, .inr (1, [.ref f0, .int (nI fk), .int fp, .ref t0, .int (nI ((nx + 8) + 8)), .int (nI lnb)])), (t0, .inr (2, [.ref t1, .int (nI len)])), (t1, .inl (cB, 400, .inl (aB tp)))] → va_S A s.heap H locs → W p l e rm_c_walkMaps_no s m ([.ref r0] : List Value).toArray below meth c H locs 0 0 Q (F0 m 76 ls []) := by
      intro fu
      induction fu with
      | zero => intro j hj hi hms; exact absurd hms (Nat.not_lt_zero _)
      | succ fu ih76 =>
        intro j hj hi hms H locs ls hl hP hD hS
        refine lv_iload_n hx hb dR_walkMaps_76 rfl (lv_at hl 3 rfl) ?_
        refine lv_aload_n hx hb dR_walkMaps_77 rfl (lv_at hl 0 rfl) ?_
        refine va_get (D := (dC, dI)) (ci := 1) (v := .int (nI ((nx + 8) + 8))) (C := RR) (T := TR) (N := 6) hx hb hw inR hown hK hP 0 rfl rfl 4 (by decide) (hw _ w_fl_R_25) (fun _ h9 => h9) rfl dR_walkMaps_78 ?_
        refine zi_ge (tgt := 118) hx hb (by omega) (by omega) dR_walkMaps_81 (by decide) (fun q => False.elim ((by have h9 := hi; rw [show 16 - j = 0 by omega] at h9; cases h9))) (fun c_81 => ?_)
        have ht9 := htp (nx + j)
        refine lv_aload_n hx hb dR_walkMaps_84 rfl (lv_at hl 0 rfl) ?_
        refine va_get (D := (dC, dI)) (ci := 1) (v := .ref t0) (C := RR) (T := TR) (N := 6) hx hb hw inR hown hK hP 0 rfl rfl 3 (by decide) (hw _ w_fl_R_31) (fun _ h9 => h9) rfl dR_walkMaps_85 ?_
        refine lv_iload_n hx hb dR_walkMaps_88 rfl (lv_at hl 3 rfl) ?_
        refine zc_Ri (va_runV (As := [.int (nI (nx + j))]) (rest := []) ⟨hx, hb, hml, hown, hw⟩ (c_T_byteAt l dC dI t0 t1 len cI cB tp (nx + j) (by omega) (htp _) H) (cwV 1 hw (gV w_ml_R_50 w_im_T_byteAt w_se_T_byteAt w_in_T w_co_T_byteAt) rfl rfl rfl (by decide +kernel) ⟨Nat.le_of_ble_eq_true rfl, Nat.le_of_ble_eq_true rfl⟩) (zR_V hG hS (hP.sub (ws' := [(t0, .inr (2, [.ref t1, .int (nI len)])), (t1, .inl (cB, 400, .inl (aB tp)))]) [1, 2] rfl) hK 0 rfl rfl) rfl rfl hl.1 rfl (lv_room (Nat.le_of_ble_eq_true rfl)) dR_walkMaps_89 ⟨Nat.le_of_ble_eq_true rfl, Nat.le_of_ble_eq_true rfl⟩) hS (fun r_12 locs h_89 hS => ?_)
        subst h_89
        refine va_getsN hx hb zfKB hS hown (va_Nw.use rfl (hG.nf (RR, 82, "KNOWN_BITS") (List.mem_of_getElem? (i := 6) rfl))) (fun _ h9 => h9) dR_walkMaps_92 ?_
        refine lv_iload_n hx hb dR_walkMaps_95 rfl (lv_at hl 3 rfl) ?_
        refine lv_iload_n hx hb dR_walkMaps_96 rfl (lv_at hl 1 rfl) ?_
        refine zi_sub hx hb (by omega) dR_walkMaps_97 ?_
        refine zi_v (b := nI j) (by rw [Nat.add_sub_cancel_left]) ?_
        refine za_tab hx hb afKB hS (by omega) (by decide) dR_walkMaps_98 ?_
        refine lv_iconst (v := (-1)) hx hb dR_walkMaps_99 (by decide) ?_
        refine lv_ixor hx hb dR_walkMaps_100 ?_
        refine lv_iand hx hb dR_walkMaps_101 ?_
        refine lv_if_eq (tgt := 112) hx hb dR_walkMaps_102 (by decide) (fun c_102 => ?_) (fun c_102 => ?_)
        · have c9 := (kb_iff j (by omega) _ (htp (nx + j))).mp c_102
          refine lv_iinc (v := nI ((nx + j) + 1)) (lv' := [(3, .int (nI ((nx + j) + 1))), (0, .ref r0), (1, .int (nI nx)), (2, .int (nI 1))]) hx hb dR_walkMaps_112 hl (k := 3) rfl (zi_incr (nx + j) 1) (by decide) rfl (fun ls hl => ?_)
          refine lv_goto (tgt := 76) hx hb dR_walkMaps_115 (by decide) ?_
          exact ih76 (j + 1) (by omega) (by have h9 := hi; rw [show 16 - j = 16 - (j + 1) + 1 by omega] at h9; unfold mpL at h9; rw [if_pos c9] at h9; exact h9) (by omega) _ _ _ (lv_sub hl [1, 2, 3, 0] rfl) (hP.sub [0, 1, 2] rfl) (hD.sub [0, 1, 2] (by decide) rfl) hS
        · have h9 := hi
          rw [show 16 - j = 16 - (j + 1) + 1 by omega] at h9
          unfold mpL at h9
          rw [if_neg (fun z => c_102 ((kb_iff j (by omega) _ (htp (nx + j))).mpr z))] at h9
          cases h9
          refine lv_aload_n hx hb dR_walkMaps_105 rfl (lv_at hl 0 rfl) ?_
          refine lv_iconst (v := nI 4) hx hb dR_walkMaps_106 (by decide) ?_
          refine lv_iload_n hx hb dR_walkMaps_107 rfl (lv_at hl 3 rfl) ?_
          have hPc := hP.sub (ws' := [(r0, .inr (1, [.ref f0, .int (nI fk), .int fp, .ref t0, .int (nI ((nx + 8) + 8)), .int (nI lnb)]))]) [0] rfl
          have hDc := hD.sub (ws' := [(r0, .inr (1, [.ref f0, .int (nI fk), .int fp, .ref t0, .int (nI ((nx + 8) + 8)), .int (nI lnb)]))]) [0] (by decide) rfl
          have hFc := va_free (wc := [(r0, .inr (1, [.ref f0, .int (nI fk), .int fp, .ref t0, .int (nI ((nx + 8) + 8)), .int (nI lnb)]))]) hD hS hA [0] rfl
          refine zc_Mi (va_runV (As := [.int (nI 4), .int (nI (nx + j))]) (rest := []) ⟨hx, hb, hml, hown, hw⟩ (c_R_fail l dC dI r0 f0 fk fp t0 ((nx + 8) + 8) lnb cI cB 4 (nI (nx + j)) H.size) (cwV 2 hw (gV w_ml_R_65 w_im_R_fail w_se_R_fail w_in_R w_co_R_fail) rfl rfl rfl (by decide +kernel) ⟨Nat.le_of_ble_eq_true rfl, Nat.le_of_ble_eq_true rfl⟩) (zM_V hG hS hFc hPc hDc hK 0 rfl rfl) rfl rfl hl.1 rfl (lv_room (Nat.le_of_ble_eq_true rfl)) dR_walkMaps_108 ⟨Nat.le_of_ble_eq_true rfl, Nat.le_of_ble_eq_true rfl⟩) hS hFc (fun r_13 H locs h_108 hP1 hD1 hk1 hS => ?_)
          obtain ⟨hP, hD⟩ := va_join (wr := [(t0, .inr (2, [.ref t1, .int (nI len)])), (t1, .inl (cB, 400, .inl (aB tp)))]) (w1 := [(r0, .inr (1, [.ref f0, .int (nI 4), .int (nI (nx + j)), .ref t0, .int (nI ((nx + 8) + 8)), .int (nI lnb)]))]) hP hD [0] [1, 2] rfl rfl (by decide) (by decide) hk1 hFc hP1 hD1
          have hP : va_P (dC, dI) vwCl [(t0, .inr (2, [.ref t1, .int (nI len)])), (t1, .inl (cB, 400, .inl (aB tp))), (r0, .inr (1, [.ref f0, .int (nI 4), .int (nI (nx + j)), .ref t0, .int (nI ((nx + 8) + 8)), .int (nI lnb)]))] H := hP
          have hD : va_D A [(t0, .inr (2, [.ref t1, .int (nI len)])), (t1, .inl (cB, 400, .inl (aB tp))), (r0, .inr (1, [.ref f0, .int (nI 4), .int (nI (nx + j)), .ref t0, .int (nI ((nx + 8) + 8)), .int (nI lnb)]))] := hD
          subst h_108
          subst hAe
          subst hQ
          exact W.zret (v := nI 0) hx hb hr (by decide) (fun t ht hW => ⟨⟨nI 0, ((nx + 8) + 8), rfl, rfl, by rw [ht]; exact hP.sub [2, 0, 1] rfl, hD.sub [2, 0, 1] (by decide) rfl⟩, hS.F ht⟩) hS.2.2 dR_walkMaps_111
    exact lp_76 ((16 - 0) + 1) 0 (by omega) hmp (Nat.lt_succ_self _) _ _ _ (lv_sub hl [3, 2, 1, 0] rfl) (hP.sub [0, 1, 2] rfl) (hD.sub [0, 1, 2] (by decide) rfl) hS
  · refine lv_aload_n hx hb dR_walkMaps_0 rfl (lv_at hl 0 rfl) ?_
    refine va_get (D := (dC, dI)) (ci := 1) (v := .int (nI nx)) (C := RR) (T := TR) (N := 6) hx hb hw inR hown hK hP 0 rfl rfl 4 (by decide) (hw _ w_fl_R_25) (fun _ h9 => h9) rfl dR_walkMaps_1 ?_
    refine lv_istore_n (lv' := [(1, .int (nI nx)), (0, .ref r0)]) hx hb dR_walkMaps_4 rfl hl (by decide) rfl (fun ls hl => ?_)
    refine lv_aload_n hx hb dR_walkMaps_5 rfl (lv_at hl 1 rfl) ?_
    refine lv_bipush (v := nI 8) hx hb dR_walkMaps_6 (by decide) ?_
    refine zc_Ri (va_runV (As := [.int (nI 8)]) (rest := []) ⟨hx, hb, hml, hown, hw⟩ (c_reaches_ok l dC dI r0 f0 fk fp t0 nx lnb t1 len cI cB 8 (by omega) (by omega) (by omega) s.heap) (cwV 1 hw (gV w_ml_R_79 w_im_R_reaches w_se_R_reaches w_in_R w_co_R_reaches) rfl rfl rfl (by decide +kernel) ⟨Nat.le_of_ble_eq_true rfl, Nat.le_of_ble_eq_true rfl⟩) (zR_V hG hS (hP.sub (ws' := [(r0, .inr (1, [.ref f0, .int (nI fk), .int fp, .ref t0, .int (nI nx), .int (nI lnb)])), (t0, .inr (2, [.ref t1, .int (nI len)]))]) [0, 1] rfl) hK 0 rfl rfl) rfl rfl hl.1 rfl (lv_room (Nat.le_of_ble_eq_true rfl)) dR_walkMaps_8 ⟨Nat.le_of_ble_eq_true rfl, Nat.le_of_ble_eq_true rfl⟩) hS (fun r_14 locs h_8 hS => ?_)
    subst h_8
    refine lv_if_ne (tgt := 16) hx hb dR_walkMaps_11 (by decide) (fun c_11 => ?_) (fun q => False.elim (absurd q (by decide)))
    refine lv_aload_n hx hb dR_walkMaps_16 rfl (lv_at hl 1 rfl) ?_
    refine lv_dup hx hb dR_walkMaps_17 rfl ?_
    refine va_get (D := (dC, dI)) (ci := 1) (v := .int (nI nx)) (C := RR) (T := TR) (N := 6) hx hb hw inR hown hK hP 0 rfl rfl 4 (by decide) (hw _ w_fl_R_25) (fun _ h9 => h9) rfl dR_walkMaps_18 ?_
    refine lv_bipush (v := nI 8) hx hb dR_walkMaps_21 (by decide) ?_
    refine zi_add hx hb dR_walkMaps_23 ?_
    refine va_put (D := (dC, dI)) (ci := 1) (v := .int (nI (nx + 8))) (ty := .int) (C := RR) (T := TR) (N := 6) hx hb hw inR tyR tyR_ok nmR hown hK hP hD hS 0 rfl rfl 4 (by decide) (hw _ w_fl_R_25) (fun _ h9 => h9) rfl (by decide +kernel) rfl rfl (Nat.le_of_ble_eq_true rfl) dR_walkMaps_24 (fun H locs hP hD hS => ?_)
    have hP : va_P (dC, dI) vwCl [(r0, .inr (1, [.ref f0, .int (nI fk), .int fp, .ref t0, .int (nI (nx + 8)), .int (nI lnb)])), (t0, .inr (2, [.ref t1, .int (nI len)])), (t1, .inl (cB, 400, .inl (aB tp)))] H := hP
    have hD : va_D A [(r0, .inr (1, [.ref f0, .int (nI fk), .int fp, .ref t0, .int (nI (nx + 8)), .int (nI lnb)])), (t0, .inr (2, [.ref t1, .int (nI len)])), (t1, .inl (cB, 400, .inl (aB tp)))] := hD
    refine lv_aload_n hx hb dR_walkMaps_27 rfl (lv_at hl 1 rfl) ?_
    refine va_get (D := (dC, dI)) (ci := 1) (v := .ref t0) (C := RR) (T := TR) (N := 6) hx hb hw inR hown hK hP 0 rfl rfl 3 (by decide) (hw _ w_fl_R_31) (fun _ h9 => h9) rfl dR_walkMaps_28 ?_
    refine lv_iload_n hx hb dR_walkMaps_31 rfl (lv_at hl 0 rfl) ?_
    refine zc_Ri (va_runV (As := [.int (nI nx)]) (rest := []) ⟨hx, hb, hml, hown, hw⟩ (c_T_byteAt l dC dI t0 t1 len cI cB tp nx (by omega) (htp _) H) (cwV 1 hw (gV w_ml_R_50 w_im_T_byteAt w_se_T_byteAt w_in_T w_co_T_byteAt) rfl rfl rfl (by decide +kernel) ⟨Nat.le_of_ble_eq_true rfl, Nat.le_of_ble_eq_true rfl⟩) (zR_V hG hS (hP.sub (ws' := [(t0, .inr (2, [.ref t1, .int (nI len)])), (t1, .inl (cB, 400, .inl (aB tp)))]) [1, 2] rfl) hK 0 rfl rfl) rfl rfl hl.1 rfl (lv_room (Nat.le_of_ble_eq_true rfl)) dR_walkMaps_32 ⟨Nat.le_of_ble_eq_true rfl, Nat.le_of_ble_eq_true rfl⟩) hS (fun r_15 locs h_32 hS => ?_)
    subst h_32
    refine lv_sipush (v := nI 128) hx hb dR_walkMaps_35 (by decide) ?_
    refine lv_iand hx hb dR_walkMaps_38 ?_
    refine zi_v (b := nI ((tp nx) &&& 128)) (nI_and _ _) ?_
    refine zi_eq0 (tgt := 46) hx hb (lt_and (by decide)) dR_walkMaps_39 (by decide) (fun q => False.elim ((h8 ((and_128 _ (htp _)).mp q)))) (fun c_39 => ?_)
    refine lv_iconst (v := nI 1) hx hb dR_walkMaps_42 (by decide) ?_
    refine lv_goto (tgt := 47) hx hb dR_walkMaps_43 (by decide) ?_
    refine lv_istore_n (lv' := [(2, .int (nI 1)), (1, .int (nI nx)), (0, .ref r0)]) hx hb dR_walkMaps_47 rfl hl (by decide) rfl (fun ls hl => ?_)
    refine lv_iload_n hx hb dR_walkMaps_48 rfl (lv_at hl 0 rfl) ?_
    refine lv_if_eq (tgt := 74) hx hb dR_walkMaps_49 (by decide) (fun q => False.elim (absurd q (by decide))) (fun c_49 => ?_)
    refine lv_aload_n hx hb dR_walkMaps_52 rfl (lv_at hl 2 rfl) ?_
    refine lv_bipush (v := nI 8) hx hb dR_walkMaps_53 (by decide) ?_
    refine zc_Ri (va_runV (As := [.int (nI 8)]) (rest := []) ⟨hx, hb, hml, hown, hw⟩ (c_reaches_ok l dC dI r0 f0 fk fp t0 (nx + 8) lnb t1 len cI cB 8 (by omega) (by omega) (by omega) H) (cwV 1 hw (gV w_ml_R_79 w_im_R_reaches w_se_R_reaches w_in_R w_co_R_reaches) rfl rfl rfl (by decide +kernel) ⟨Nat.le_of_ble_eq_true rfl, Nat.le_of_ble_eq_true rfl⟩) (zR_V hG hS (hP.sub (ws' := [(r0, .inr (1, [.ref f0, .int (nI fk), .int fp, .ref t0, .int (nI (nx + 8)), .int (nI lnb)])), (t0, .inr (2, [.ref t1, .int (nI len)]))]) [0, 1] rfl) hK 0 rfl rfl) rfl rfl hl.1 rfl (lv_room (Nat.le_of_ble_eq_true rfl)) dR_walkMaps_55 ⟨Nat.le_of_ble_eq_true rfl, Nat.le_of_ble_eq_true rfl⟩) hS (fun r_16 locs h_55 hS => ?_)
    subst h_55
    refine lv_if_ne (tgt := 63) hx hb dR_walkMaps_58 (by decide) (fun c_58 => ?_) (fun q => False.elim (absurd q (by decide)))
    refine lv_aload_n hx hb dR_walkMaps_63 rfl (lv_at hl 2 rfl) ?_
    refine lv_dup hx hb dR_walkMaps_64 rfl ?_
    refine va_get (D := (dC, dI)) (ci := 1) (v := .int (nI (nx + 8))) (C := RR) (T := TR) (N := 6) hx hb hw inR hown hK hP 0 rfl rfl 4 (by decide) (hw _ w_fl_R_25) (fun _ h9 => h9) rfl dR_walkMaps_65 ?_
    refine lv_bipush (v := nI 8) hx hb dR_walkMaps_68 (by decide) ?_
    refine zi_add hx hb dR_walkMaps_70 ?_
    refine va_put (D := (dC, dI)) (ci := 1) (v := .int (nI ((nx + 8) + 8))) (ty := .int) (C := RR) (T := TR) (N := 6) hx hb hw inR tyR tyR_ok nmR hown hK hP hD hS 0 rfl rfl 4 (by decide) (hw _ w_fl_R_25) (fun _ h9 => h9) rfl (by decide +kernel) rfl rfl (Nat.le_of_ble_eq_true rfl) dR_walkMaps_71 (fun H locs hP hD hS => ?_)
    have hP : va_P (dC, dI) vwCl [(r0, .inr (1, [.ref f0, .int (nI fk), .int fp, .ref t0, .int (nI ((nx + 8) + 8)), .int (nI lnb)])), (t0, .inr (2, [.ref t1, .int (nI len)])), (t1, .inl (cB, 400, .inl (aB tp)))] H := hP
    have hD : va_D A [(r0, .inr (1, [.ref f0, .int (nI fk), .int fp, .ref t0, .int (nI ((nx + 8) + 8)), .int (nI lnb)])), (t0, .inr (2, [.ref t1, .int (nI len)])), (t1, .inl (cB, 400, .inl (aB tp)))] := hD
    refine lv_iload_n hx hb dR_walkMaps_74 rfl (lv_at hl 1 rfl) ?_
    refine lv_istore_n (lv' := [(3, .int (nI nx)), (2, .int (nI 1)), (1, .int (nI nx)), (0, .ref r0)]) hx hb dR_walkMaps_75 rfl hl (by decide) rfl (fun ls hl => ?_)
    have lp_76 : ∀ (fu : Nat) (j : Nat) (hj : j ≤ 16) (hi : mpL tp nx (16 - j) j = none) (hms : 16 - j < fu) (H : Heap) (locs : List Loc) (ls : Array Slot), lv_has ls 4 [(0, .ref r0), (1, .int (nI nx)), (2, .int (nI 1)), (3, .int (nI (nx + j)))] → va_P (dC, dI) vwCl [(r0, .inr (1, [.ref f0, .int (nI fk), .int fp, .ref t0, .int (nI ((nx + 8) + 8)), .int (nI lnb)])), (t0, .inr (2, [.ref t1, .int (nI len)])), (t1, .inl (cB, 400, .inl (aB tp)))] H → va_D A [(r0, .inr (1, [.ref f0, .int (nI fk), .int fp, .ref t0, .int (nI ((nx + 8) + 8)), .int (nI lnb)])), (t0, .inr (2, [.ref t1, .int (nI len)])), (t1, .inl (cB, 400, .inl (aB tp)))] → va_S A s.heap H locs → W p l e rm_c_walkMaps_no s m ([.ref r0] : List Value).toArray below meth c H locs 0 0 Q (F0 m 76 ls []) := by
      intro fu
      induction fu with
      | zero => intro j hj hi hms; exact absurd hms (Nat.not_lt_zero _)
      | succ fu ih76 =>
        intro j hj hi hms H locs ls hl hP hD hS
        refine lv_iload_n hx hb dR_walkMaps_76 rfl (lv_at hl 3 rfl) ?_
        refine lv_aload_n hx hb dR_walkMaps_77 rfl (lv_at hl 0 rfl) ?_
        refine va_get (D := (dC, dI)) (ci := 1) (v := .int (nI ((nx + 8) + 8))) (C := RR) (T := TR) (N := 6) hx hb hw inR hown hK hP 0 rfl rfl 4 (by decide) (hw _ w_fl_R_25) (fun _ h9 => h9) rfl dR_walkMaps_78 ?_
        refine zi_ge (tgt := 118) hx hb (by omega) (by omega) dR_walkMaps_81 (by decide) (fun c_81 => ?_) (fun c_81 => ?_)
        · refine lv_iload_n hx hb dR_walkMaps_118 rfl (lv_at hl 2 rfl) ?_
          refine lv_if_eq (tgt := 145) hx hb dR_walkMaps_119 (by decide) (fun q => False.elim (absurd q (by decide))) (fun c_119 => ?_)
          refine lv_aload_n hx hb dR_walkMaps_122 rfl (lv_at hl 0 rfl) ?_
          refine lv_iload_n hx hb dR_walkMaps_123 rfl (lv_at hl 1 rfl) ?_
          refine lv_bipush (v := nI 8) hx hb dR_walkMaps_124 (by decide) ?_
          refine zi_add hx hb dR_walkMaps_126 ?_
          refine zc_Ri (va_runV (As := [.int (nI (nx + 8))]) (rest := []) ⟨hx, hb, hml, hown, hw⟩ (c_hasBit_no l dC dI r0 f0 fk fp t0 ((nx + 8) + 8) lnb t1 len cI cB tp (nx + 8) htp (by omega) hany H) (cwV 1 hw (gV w_ml_R_85 w_im_R_hasBit w_se_R_hasBit w_in_R w_co_R_hasBit) rfl rfl rfl (by decide +kernel) ⟨Nat.le_of_ble_eq_true rfl, Nat.le_of_ble_eq_true rfl⟩) (zR_V hG hS (hP.sub (ws' := [(r0, .inr (1, [.ref f0, .int (nI fk), .int fp, .ref t0, .int (nI ((nx + 8) + 8)), .int (nI lnb)])), (t0, .inr (2, [.ref t1, .int (nI len)])), (t1, .inl (cB, 400, .inl (aB tp)))]) [0, 1, 2] rfl) hK 0 rfl rfl) rfl rfl hl.1 rfl (lv_room (Nat.le_of_ble_eq_true rfl)) dR_walkMaps_127 ⟨Nat.le_of_ble_eq_true rfl, Nat.le_of_ble_eq_true rfl⟩) hS (fun r_17 locs h_127 hS => ?_)
          subst h_127
          refine lv_if_ne (tgt := 145) hx hb dR_walkMaps_130 (by decide) (fun q => False.elim (absurd q (by decide))) (fun c_130 => ?_)
          refine lv_aload_n hx hb dR_walkMaps_133 rfl (lv_at hl 0 rfl) ?_
          refine lv_iconst (v := nI 4) hx hb dR_walkMaps_134 (by decide) ?_
          refine lv_iload_n hx hb dR_walkMaps_135 rfl (lv_at hl 1 rfl) ?_
          refine lv_bipush (v := nI 8) hx hb dR_walkMaps_136 (by decide) ?_
          refine zi_add hx hb dR_walkMaps_138 ?_
          have hPc := hP.sub (ws' := [(r0, .inr (1, [.ref f0, .int (nI fk), .int fp, .ref t0, .int (nI ((nx + 8) + 8)), .int (nI lnb)]))]) [0] rfl
          have hDc := hD.sub (ws' := [(r0, .inr (1, [.ref f0, .int (nI fk), .int fp, .ref t0, .int (nI ((nx + 8) + 8)), .int (nI lnb)]))]) [0] (by decide) rfl
          have hFc := va_free (wc := [(r0, .inr (1, [.ref f0, .int (nI fk), .int fp, .ref t0, .int (nI ((nx + 8) + 8)), .int (nI lnb)]))]) hD hS hA [0] rfl
          refine zc_Mi (va_runV (As := [.int (nI 4), .int (nI (nx + 8))]) (rest := []) ⟨hx, hb, hml, hown, hw⟩ (c_R_fail l dC dI r0 f0 fk fp t0 ((nx + 8) + 8) lnb cI cB 4 (nI (nx + 8)) H.size) (cwV 2 hw (gV w_ml_R_65 w_im_R_fail w_se_R_fail w_in_R w_co_R_fail) rfl rfl rfl (by decide +kernel) ⟨Nat.le_of_ble_eq_true rfl, Nat.le_of_ble_eq_true rfl⟩) (zM_V hG hS hFc hPc hDc hK 0 rfl rfl) rfl rfl hl.1 rfl (lv_room (Nat.le_of_ble_eq_true rfl)) dR_walkMaps_139 ⟨Nat.le_of_ble_eq_true rfl, Nat.le_of_ble_eq_true rfl⟩) hS hFc (fun r_18 H locs h_139 hP1 hD1 hk1 hS => ?_)
          obtain ⟨hP, hD⟩ := va_join (wr := [(t0, .inr (2, [.ref t1, .int (nI len)])), (t1, .inl (cB, 400, .inl (aB tp)))]) (w1 := [(r0, .inr (1, [.ref f0, .int (nI 4), .int (nI (nx + 8)), .ref t0, .int (nI ((nx + 8) + 8)), .int (nI lnb)]))]) hP hD [0] [1, 2] rfl rfl (by decide) (by decide) hk1 hFc hP1 hD1
          have hP : va_P (dC, dI) vwCl [(t0, .inr (2, [.ref t1, .int (nI len)])), (t1, .inl (cB, 400, .inl (aB tp))), (r0, .inr (1, [.ref f0, .int (nI 4), .int (nI (nx + 8)), .ref t0, .int (nI ((nx + 8) + 8)), .int (nI lnb)]))] H := hP
          have hD : va_D A [(t0, .inr (2, [.ref t1, .int (nI len)])), (t1, .inl (cB, 400, .inl (aB tp))), (r0, .inr (1, [.ref f0, .int (nI 4), .int (nI (nx + 8)), .ref t0, .int (nI ((nx + 8) + 8)), .int (nI lnb)]))] := hD
          subst h_139
          refine lv_if_eq (tgt := 149) hx hb dR_walkMaps_142 (by decide) (fun c_142 => ?_) (fun q => False.elim (absurd q (by decide)))
          refine lv_iconst (v := nI 0) hx hb dR_walkMaps_149 (by decide) ?_
          subst hAe
          subst hQ
          exact W.zret (v := nI 0) hx hb hr (by decide) (fun t ht hW => ⟨⟨nI 0, ((nx + 8) + 8), rfl, rfl, by rw [ht]; exact hP.sub [2, 0, 1] rfl, hD.sub [2, 0, 1] (by decide) rfl⟩, hS.F ht⟩) hS.2.2 dR_walkMaps_150
        · have ht9 := htp (nx + j)
          refine lv_aload_n hx hb dR_walkMaps_84 rfl (lv_at hl 0 rfl) ?_
          refine va_get (D := (dC, dI)) (ci := 1) (v := .ref t0) (C := RR) (T := TR) (N := 6) hx hb hw inR hown hK hP 0 rfl rfl 3 (by decide) (hw _ w_fl_R_31) (fun _ h9 => h9) rfl dR_walkMaps_85 ?_
          refine lv_iload_n hx hb dR_walkMaps_88 rfl (lv_at hl 3 rfl) ?_
          refine zc_Ri (va_runV (As := [.int (nI (nx + j))]) (rest := []) ⟨hx, hb, hml, hown, hw⟩ (c_T_byteAt l dC dI t0 t1 len cI cB tp (nx + j) (by omega) (htp _) H) (cwV 1 hw (gV w_ml_R_50 w_im_T_byteAt w_se_T_byteAt w_in_T w_co_T_byteAt) rfl rfl rfl (by decide +kernel) ⟨Nat.le_of_ble_eq_true rfl, Nat.le_of_ble_eq_true rfl⟩) (zR_V hG hS (hP.sub (ws' := [(t0, .inr (2, [.ref t1, .int (nI len)])), (t1, .inl (cB, 400, .inl (aB tp)))]) [1, 2] rfl) hK 0 rfl rfl) rfl rfl hl.1 rfl (lv_room (Nat.le_of_ble_eq_true rfl)) dR_walkMaps_89 ⟨Nat.le_of_ble_eq_true rfl, Nat.le_of_ble_eq_true rfl⟩) hS (fun r_19 locs h_89 hS => ?_)
          subst h_89
          refine va_getsN hx hb zfKB hS hown (va_Nw.use rfl (hG.nf (RR, 82, "KNOWN_BITS") (List.mem_of_getElem? (i := 6) rfl))) (fun _ h9 => h9) dR_walkMaps_92 ?_
          refine lv_iload_n hx hb dR_walkMaps_95 rfl (lv_at hl 3 rfl) ?_
          refine lv_iload_n hx hb dR_walkMaps_96 rfl (lv_at hl 1 rfl) ?_
          refine zi_sub hx hb (by omega) dR_walkMaps_97 ?_
          refine zi_v (b := nI j) (by rw [Nat.add_sub_cancel_left]) ?_
          refine za_tab hx hb afKB hS (by omega) (by decide) dR_walkMaps_98 ?_
          refine lv_iconst (v := (-1)) hx hb dR_walkMaps_99 (by decide) ?_
          refine lv_ixor hx hb dR_walkMaps_100 ?_
          refine lv_iand hx hb dR_walkMaps_101 ?_
          refine lv_if_eq (tgt := 112) hx hb dR_walkMaps_102 (by decide) (fun c_102 => ?_) (fun q => False.elim ((by have h9 := hi; rw [show 16 - j = 16 - (j + 1) + 1 by omega] at h9; unfold mpL at h9; rw [if_neg (fun z => q ((kb_iff j (by omega) _ (htp (nx + j))).mpr z))] at h9; cases h9)))
          have c9 := (kb_iff j (by omega) _ (htp (nx + j))).mp c_102
          refine lv_iinc (v := nI ((nx + j) + 1)) (lv' := [(3, .int (nI ((nx + j) + 1))), (0, .ref r0), (1, .int (nI nx)), (2, .int (nI 1))]) hx hb dR_walkMaps_112 hl (k := 3) rfl (zi_incr (nx + j) 1) (by decide) rfl (fun ls hl => ?_)
          refine lv_goto (tgt := 76) hx hb dR_walkMaps_115 (by decide) ?_
          exact ih76 (j + 1) (by omega) (by have h9 := hi; rw [show 16 - j = 16 - (j + 1) + 1 by omega] at h9; unfold mpL at h9; rw [if_pos c9] at h9; exact h9) (by omega) _ _ _ (lv_sub hl [1, 2, 3, 0] rfl) (hP.sub [0, 1, 2] rfl) (hD.sub [0, 1, 2] (by decide) rfl) hS
    exact lp_76 ((16 - 0) + 1) 0 (by omega) hmp (Nat.lt_succ_self _) _ _ _ (lv_sub hl [3, 2, 1, 0] rfl) (hP.sub [0, 1, 2] rfl) (hD.sub [0, 1, 2] (by decide) rfl) hS
def rm_c_walk_ok : Room := ({ frames := 5, cells := 0, slots := 0, locals := 112 } : Room)
set_option maxHeartbeats 4000000 in
set_option maxRecDepth 100000 in
theorem c_walk_ok (l : Launch) (dC : Nat → ClassId) (dI : Nat → Nat → Nat) (r0 : Nat) (f0 : Nat) (fk : Nat) (fp : Int32) (t0 : Nat) (nx : Nat) (lnb : Nat) (t1 : Nat) (len : Nat) (cI : ClassId) (cB : ClassId) (tp : Nat → Nat) (f1 : Nat) (f2 : Nat) (ty : Nat) (cnt : Nat → Nat) (mk : Nat → Nat) (hln : len ≤ 400) (htp : ∀ j, tp j < 256) (hm : ∀ j, mk j < 128) (hd : pF tp len = none) (sz : Nat) : Met l yR_walk wsR_walk rm_c_walk_ok (zM (dC, dI) [(cI, .int), (cB, .byte)] [.ref r0] [(r0, .inr (1, [.ref f0, .int (nI fk), .int fp, .ref t0, .int (nI nx), .int (nI lnb)])), (t0, .inr (2, [.ref t1, .int (nI len)])), (t1, .inl (cB, 400, .inl (aB tp))), (f0, .inr (0, [.int (nI ty), .ref f1, .ref f2])), (f1, .inl (cI, 16, .inl (aN cnt))), (f2, .inl (cB, 208, .inl (aN mk)))] sz) (zSi (dC, dI) [(r0, .inr (1, [.ref f0, .int (nI fk), .int fp, .ref t0, .int (nI nx), .int (nI lnb)])), (t0, .inr (2, [.ref t1, .int (nI len)])), (t1, .inl (cB, 400, .inl (aB tp))), (f0, .inr (0, [.int (nI ty), .ref f1, .ref f2])), (f1, .inl (cI, 16, .inl (aN cnt))), (f2, .inl (cB, 208, .inl (aN mk)))] sz (fun r (u : Nat × Nat) => r = nI 1) (fun u => [(r0, .inr (1, [.ref f0, .int (nI 0), .int (-1), .ref t0, .int (nI u.1), .int (nI u.2)])), (t0, .inr (2, [.ref t1, .int (nI len)])), (t1, .inl (cB, 400, .inl (aB tp))), (f0, .inr (0, [.int (nI (nmA tp 0 4 4 0 0)), .ref f1, .ref f2])), (f1, .inl (cI, 16, .inl (aN (wkC tp (wid tp 2) 16 0 (2 + wid tp 2) (zc cnt 16))))), (f2, .inl (cB, 208, .inl (aN (wkM tp (wid tp 2) 16 0 (2 + wid tp 2) mk))))])) 0 0 (va_A [(r0, .inr (1, [.ref f0, .int (nI fk), .int fp, .ref t0, .int (nI nx), .int (nI lnb)])), (t0, .inr (2, [.ref t1, .int (nI len)])), (t1, .inl (cB, 400, .inl (aB tp))), (f0, .inr (0, [.int (nI ty), .ref f1, .ref f2])), (f1, .inl (cI, 16, .inl (aN cnt))), (f2, .inl (cB, 208, .inl (aN mk)))] sz) := by
  refine Met.ofW (cc := cR_walk) (maxL := 5) (ret := (some .boolean)) (by decide) rfl ?_
  intro p e s m args below meth c s₁ Bd hml hv
  obtain ⟨rfl, hsz, hG, hP, hK, hD0⟩ := hv
  subst hsz
  have hx := Bd.exec
  have hb := Bd.bytes
  have hr := Bd.returns
  have hts := atoms_spec (ws := wsR_walk) Bd.pre
  have hw : ∀ w ∈ BIG, w.before _ s = true := fun w h => hts w (List.mem_cons_of_mem _ h)
  have hown : s.vm.findClass RR = some m.cls := findClass_of_methodNamed Bd.named
  have hlocks := Bd.notSynchronized
  have hD := hD0.self (sz := s.heap.size)
  obtain ⟨A, hAe⟩ : ∃ A, A = va_A [(r0, .inr (1, [.ref f0, .int (nI fk), .int fp, .ref t0, .int (nI nx), .int (nI lnb)])), (t0, .inr (2, [.ref t1, .int (nI len)])), (t1, .inl (cB, 400, .inl (aB tp))), (f0, .inr (0, [.int (nI ty), .ref f1, .ref f2])), (f1, .inl (cI, 16, .inl (aN cnt))), (f2, .inl (cB, 208, .inl (aN mk)))] s.heap.size := ⟨_, rfl⟩
  have hA : ∀ q : Nat, s.heap.size ≤ q → A q := fun q h => by rw [hAe]; exact Or.inr h
  rw [← hAe] at hG hD
  have hS : va_S A s.heap s.heap [] := va_S.rf
  have hl := lv_entry ([.ref r0]) (n := 5) (Nat.le_of_ble_eq_true rfl)
  rw [lg_entry_eq]
  generalize (lg_sl ([.ref r0]) ++ List.replicate (5 - (lg_sl ([.ref r0])).length) Slot.unset).toArray = ls at hl ⊢
  have hl : lv_has ls 5 [(0, .ref r0)] := hl
  refine zq_name (fun Q hQ => ?_)
  change W p l e rm_c_walk_ok s m _ below meth c _ _ _ _ Q _
  obtain ⟨tfFI, zfFI, afFI⟩ := hG.FIELDS
  obtain ⟨hd1, hty, hmp, hwk⟩ := pF_ok hd
  have hmf := mapsF_fit hmp
  have hs9 := dgF_fit hd1
  refine lv_aload_n hx hb dR_walk_0 rfl (lv_at hl 0 rfl) ?_
  refine lv_iconst (v := nI 0) hx hb dR_walk_1 (by decide) ?_
  refine va_put (D := (dC, dI)) (ci := 1) (v := .int (nI 0)) (ty := .int) (C := RR) (T := TR) (N := 6) hx hb hw inR tyR tyR_ok nmR hown hK hP hD hS 0 rfl rfl 1 (by decide) (hw _ w_fl_R_18) (fun _ h9 => h9) rfl (by decide +kernel) rfl rfl (Nat.le_of_ble_eq_true rfl) dR_walk_2 (fun H locs hP hD hS => ?_)
  have hP : va_P (dC, dI) vwCl [(r0, .inr (1, [.ref f0, .int (nI 0), .int fp, .ref t0, .int (nI nx), .int (nI lnb)])), (t0, .inr (2, [.ref t1, .int (nI len)])), (t1, .inl (cB, 400, .inl (aB tp))), (f0, .inr (0, [.int (nI ty), .ref f1, .ref f2])), (f1, .inl (cI, 16, .inl (aN cnt))), (f2, .inl (cB, 208, .inl (aN mk)))] H := hP
  have hD : va_D A [(r0, .inr (1, [.ref f0, .int (nI 0), .int fp, .ref t0, .int (nI nx), .int (nI lnb)])), (t0, .inr (2, [.ref t1, .int (nI len)])), (t1, .inl (cB, 400, .inl (aB tp))), (f0, .inr (0, [.int (nI ty), .ref f1, .ref f2])), (f1, .inl (cI, 16, .inl (aN cnt))), (f2, .inl (cB, 208, .inl (aN mk)))] := hD
  refine lv_aload_n hx hb dR_walk_5 rfl (lv_at hl 0 rfl) ?_
  refine lv_iconst (v := (-1)) hx hb dR_walk_6 (by decide) ?_
  refine va_put (D := (dC, dI)) (ci := 1) (v := .int (-1)) (ty := .int) (C := RR) (T := TR) (N := 6) hx hb hw inR tyR tyR_ok nmR hown hK hP hD hS 0 rfl rfl 2 (by decide) (hw _ w_fl_R_22) (fun _ h9 => h9) rfl (by decide +kernel) rfl rfl (Nat.le_of_ble_eq_true rfl) dR_walk_7 (fun H locs hP hD hS => ?_)
  have hP : va_P (dC, dI) vwCl [(r0, .inr (1, [.ref f0, .int (nI 0), .int (-1), .ref t0, .int (nI nx), .int (nI lnb)])), (t0, .inr (2, [.ref t1, .int (nI len)])), (t1, .inl (cB, 400, .inl (aB tp))), (f0, .inr (0, [.int (nI ty), .ref f1, .ref f2])), (f1, .inl (cI, 16, .inl (aN cnt))), (f2, .inl (cB, 208, .inl (aN mk)))] H := hP
  have hD : va_D A [(r0, .inr (1, [.ref f0, .int (nI 0), .int (-1), .ref t0, .int (nI nx), .int (nI lnb)])), (t0, .inr (2, [.ref t1, .int (nI len)])), (t1, .inl (cB, 400, .inl (aB tp))), (f0, .inr (0, [.int (nI ty), .ref f1, .ref f2])), (f1, .inl (cI, 16, .inl (aN cnt))), (f2, .inl (cB, 208, .inl (aN mk)))] := hD
  refine lv_aload_n hx hb dR_walk_10 rfl (lv_at hl 0 rfl) ?_
  refine lv_iconst (v := nI 0) hx hb dR_walk_11 (by decide) ?_
  refine va_put (D := (dC, dI)) (ci := 1) (v := .int (nI 0)) (ty := .int) (C := RR) (T := TR) (N := 6) hx hb hw inR tyR tyR_ok nmR hown hK hP hD hS 0 rfl rfl 4 (by decide) (hw _ w_fl_R_25) (fun _ h9 => h9) rfl (by decide +kernel) rfl rfl (Nat.le_of_ble_eq_true rfl) dR_walk_12 (fun H locs hP hD hS => ?_)
  have hP : va_P (dC, dI) vwCl [(r0, .inr (1, [.ref f0, .int (nI 0), .int (-1), .ref t0, .int (nI 0), .int (nI lnb)])), (t0, .inr (2, [.ref t1, .int (nI len)])), (t1, .inl (cB, 400, .inl (aB tp))), (f0, .inr (0, [.int (nI ty), .ref f1, .ref f2])), (f1, .inl (cI, 16, .inl (aN cnt))), (f2, .inl (cB, 208, .inl (aN mk)))] H := hP
  have hD : va_D A [(r0, .inr (1, [.ref f0, .int (nI 0), .int (-1), .ref t0, .int (nI 0), .int (nI lnb)])), (t0, .inr (2, [.ref t1, .int (nI len)])), (t1, .inl (cB, 400, .inl (aB tp))), (f0, .inr (0, [.int (nI ty), .ref f1, .ref f2])), (f1, .inl (cI, 16, .inl (aN cnt))), (f2, .inl (cB, 208, .inl (aN mk)))] := hD
  refine lv_aload_n hx hb dR_walk_15 rfl (lv_at hl 0 rfl) ?_
  have hPc := hP.sub (ws' := [(r0, .inr (1, [.ref f0, .int (nI 0), .int (-1), .ref t0, .int (nI 0), .int (nI lnb)])), (t0, .inr (2, [.ref t1, .int (nI len)])), (t1, .inl (cB, 400, .inl (aB tp))), (f0, .inr (0, [.int (nI ty), .ref f1, .ref f2])), (f1, .inl (cI, 16, .inl (aN cnt))), (f2, .inl (cB, 208, .inl (aN mk)))]) [0, 1, 2, 3, 4, 5] rfl
  have hDc := hD.sub (ws' := [(r0, .inr (1, [.ref f0, .int (nI 0), .int (-1), .ref t0, .int (nI 0), .int (nI lnb)])), (t0, .inr (2, [.ref t1, .int (nI len)])), (t1, .inl (cB, 400, .inl (aB tp))), (f0, .inr (0, [.int (nI ty), .ref f1, .ref f2])), (f1, .inl (cI, 16, .inl (aN cnt))), (f2, .inl (cB, 208, .inl (aN mk)))]) [0, 1, 2, 3, 4, 5] (by decide) rfl
  have hFc := va_free (wc := [(r0, .inr (1, [.ref f0, .int (nI 0), .int (-1), .ref t0, .int (nI 0), .int (nI lnb)])), (t0, .inr (2, [.ref t1, .int (nI len)])), (t1, .inl (cB, 400, .inl (aB tp))), (f0, .inr (0, [.int (nI ty), .ref f1, .ref f2])), (f1, .inl (cI, 16, .inl (aN cnt))), (f2, .inl (cB, 208, .inl (aN mk)))]) hD hS hA [0, 1, 2, 3, 4, 5] rfl
  refine zc_Mi (va_runV (As := []) (rest := []) ⟨hx, hb, hml, hown, hw⟩ (c_walkType_ok l dC dI r0 f0 0 (-1) t0 0 lnb t1 len cI cB tp f1 f2 ty cnt mk (by omega) (by omega) htp hd1 (isTy_t hty) H.size) (cwV 0 hw (gV w_ml_R_35 w_im_R_walkType w_se_R_walkType w_in_R w_co_R_walkType) rfl rfl rfl (by decide +kernel) ⟨Nat.le_of_ble_eq_true rfl, Nat.le_of_ble_eq_true rfl⟩) (zM_V hG hS hFc hPc hDc hK 0 rfl rfl) rfl rfl hl.1 rfl (lv_room (Nat.le_of_ble_eq_true rfl)) dR_walk_16 ⟨Nat.le_of_ble_eq_true rfl, Nat.le_of_ble_eq_true rfl⟩) hS hFc (fun r_1 H locs h_16 hP1 hD1 hk1 hS => ?_)
  obtain ⟨hP, hD⟩ := va_join (wr := []) (w1 := [(r0, .inr (1, [.ref f0, .int (nI 0), .int (-1), .ref t0, .int (nI (0 + 2)), .int (nI (nmA tp 0 4 4 0 0))])), (t0, .inr (2, [.ref t1, .int (nI len)])), (t1, .inl (cB, 400, .inl (aB tp))), (f0, .inr (0, [.int (nI (nmA tp 0 4 4 0 0)), .ref f1, .ref f2])), (f1, .inl (cI, 16, .inl (aN (zc cnt 16)))), (f2, .inl (cB, 208, .inl (aN mk)))]) hP hD [0, 1, 2, 3, 4, 5] [] rfl rfl (by decide) (by decide) hk1 hFc hP1 hD1
  have hP : va_P (dC, dI) vwCl [(r0, .inr (1, [.ref f0, .int (nI 0), .int (-1), .ref t0, .int (nI (0 + 2)), .int (nI (nmA tp 0 4 4 0 0))])), (t0, .inr (2, [.ref t1, .int (nI len)])), (t1, .inl (cB, 400, .inl (aB tp))), (f0, .inr (0, [.int (nI (nmA tp 0 4 4 0 0)), .ref f1, .ref f2])), (f1, .inl (cI, 16, .inl (aN (zc cnt 16)))), (f2, .inl (cB, 208, .inl (aN mk)))] H := hP
  have hD : va_D A [(r0, .inr (1, [.ref f0, .int (nI 0), .int (-1), .ref t0, .int (nI (0 + 2)), .int (nI (nmA tp 0 4 4 0 0))])), (t0, .inr (2, [.ref t1, .int (nI len)])), (t1, .inl (cB, 400, .inl (aB tp))), (f0, .inr (0, [.int (nI (nmA tp 0 4 4 0 0)), .ref f1, .ref f2])), (f1, .inl (cI, 16, .inl (aN (zc cnt 16)))), (f2, .inl (cB, 208, .inl (aN mk)))] := hD
  subst h_16
  refine lv_if_ne (tgt := 24) hx hb dR_walk_19 (by decide) (fun c_19 => ?_) (fun q => False.elim (absurd q (by decide)))
  have hP : va_P (dC, dI) vwCl [(r0, .inr (1, [.ref f0, .int (nI 0), .int (-1), .ref t0, .int (nI 2), .int (nI (nmA tp 0 4 4 0 0))])), (t0, .inr (2, [.ref t1, .int (nI len)])), (t1, .inl (cB, 400, .inl (aB tp))), (f0, .inr (0, [.int (nI (nmA tp 0 4 4 0 0)), .ref f1, .ref f2])), (f1, .inl (cI, 16, .inl (aN (zc cnt 16)))), (f2, .inl (cB, 208, .inl (aN mk)))] H := hP
  have hD : va_D A [(r0, .inr (1, [.ref f0, .int (nI 0), .int (-1), .ref t0, .int (nI 2), .int (nI (nmA tp 0 4 4 0 0))])), (t0, .inr (2, [.ref t1, .int (nI len)])), (t1, .inl (cB, 400, .inl (aB tp))), (f0, .inr (0, [.int (nI (nmA tp 0 4 4 0 0)), .ref f1, .ref f2])), (f1, .inl (cI, 16, .inl (aN (zc cnt 16)))), (f2, .inl (cB, 208, .inl (aN mk)))] := hD
  refine lv_aload_n hx hb dR_walk_24 rfl (lv_at hl 0 rfl) ?_
  refine va_get (D := (dC, dI)) (ci := 1) (v := .int (nI 2)) (C := RR) (T := TR) (N := 6) hx hb hw inR hown hK hP 0 rfl rfl 4 (by decide) (hw _ w_fl_R_25) (fun _ h9 => h9) rfl dR_walk_25 ?_
  refine lv_istore_n (lv' := [(1, .int (nI 2)), (0, .ref r0)]) hx hb dR_walk_28 rfl hl (by decide) rfl (fun ls hl => ?_)
  refine lv_aload_n hx hb dR_walk_29 rfl (lv_at hl 1 rfl) ?_
  have hPc := hP.sub (ws' := [(r0, .inr (1, [.ref f0, .int (nI 0), .int (-1), .ref t0, .int (nI 2), .int (nI (nmA tp 0 4 4 0 0))])), (t0, .inr (2, [.ref t1, .int (nI len)])), (t1, .inl (cB, 400, .inl (aB tp)))]) [0, 1, 2] rfl
  have hDc := hD.sub (ws' := [(r0, .inr (1, [.ref f0, .int (nI 0), .int (-1), .ref t0, .int (nI 2), .int (nI (nmA tp 0 4 4 0 0))])), (t0, .inr (2, [.ref t1, .int (nI len)])), (t1, .inl (cB, 400, .inl (aB tp)))]) [0, 1, 2] (by decide) rfl
  have hFc := va_free (wc := [(r0, .inr (1, [.ref f0, .int (nI 0), .int (-1), .ref t0, .int (nI 2), .int (nI (nmA tp 0 4 4 0 0))])), (t0, .inr (2, [.ref t1, .int (nI len)])), (t1, .inl (cB, 400, .inl (aB tp)))]) hD hS hA [0, 1, 2] rfl
  refine zc_Mi (va_runV (As := []) (rest := []) ⟨hx, hb, hml, hown, hw⟩ (c_walkMaps_ok l dC dI r0 f0 0 (-1) t0 2 (nmA tp 0 4 4 0 0) t1 len cI cB tp (by omega) (by omega) htp hmp H.size) (cwV 0 hw (gV w_ml_R_39 w_im_R_walkMaps w_se_R_walkMaps w_in_R w_co_R_walkMaps) rfl rfl rfl (by decide +kernel) ⟨Nat.le_of_ble_eq_true rfl, Nat.le_of_ble_eq_true rfl⟩) (zM_V hG hS hFc hPc hDc hK 0 rfl rfl) rfl rfl hl.1 rfl (lv_room (Nat.le_of_ble_eq_true rfl)) dR_walk_30 ⟨Nat.le_of_ble_eq_true rfl, Nat.le_of_ble_eq_true rfl⟩) hS hFc (fun r_2 H locs h_30 hP1 hD1 hk1 hS => ?_)
  obtain ⟨hP, hD⟩ := va_join (wr := [(f0, .inr (0, [.int (nI (nmA tp 0 4 4 0 0)), .ref f1, .ref f2])), (f1, .inl (cI, 16, .inl (aN (zc cnt 16)))), (f2, .inl (cB, 208, .inl (aN mk)))]) (w1 := [(r0, .inr (1, [.ref f0, .int (nI 0), .int (-1), .ref t0, .int (nI (2 + wid tp 2)), .int (nI (nmA tp 0 4 4 0 0))])), (t0, .inr (2, [.ref t1, .int (nI len)])), (t1, .inl (cB, 400, .inl (aB tp)))]) hP hD [0, 1, 2] [3, 4, 5] rfl rfl (by decide) (by decide) hk1 hFc hP1 hD1
  have hP : va_P (dC, dI) vwCl [(f0, .inr (0, [.int (nI (nmA tp 0 4 4 0 0)), .ref f1, .ref f2])), (f1, .inl (cI, 16, .inl (aN (zc cnt 16)))), (f2, .inl (cB, 208, .inl (aN mk))), (r0, .inr (1, [.ref f0, .int (nI 0), .int (-1), .ref t0, .int (nI (2 + wid tp 2)), .int (nI (nmA tp 0 4 4 0 0))])), (t0, .inr (2, [.ref t1, .int (nI len)])), (t1, .inl (cB, 400, .inl (aB tp)))] H := hP
  have hD : va_D A [(f0, .inr (0, [.int (nI (nmA tp 0 4 4 0 0)), .ref f1, .ref f2])), (f1, .inl (cI, 16, .inl (aN (zc cnt 16)))), (f2, .inl (cB, 208, .inl (aN mk))), (r0, .inr (1, [.ref f0, .int (nI 0), .int (-1), .ref t0, .int (nI (2 + wid tp 2)), .int (nI (nmA tp 0 4 4 0 0))])), (t0, .inr (2, [.ref t1, .int (nI len)])), (t1, .inl (cB, 400, .inl (aB tp)))] := hD
  subst h_30
  refine lv_if_ne (tgt := 38) hx hb dR_walk_33 (by decide) (fun c_33 => ?_) (fun q => False.elim (absurd q (by decide)))
  refine lv_aload_n hx hb dR_walk_38 rfl (lv_at hl 1 rfl) ?_
  refine va_get (D := (dC, dI)) (ci := 1) (v := .int (nI (2 + wid tp 2))) (C := RR) (T := TR) (N := 6) hx hb hw inR hown hK hP 3 rfl rfl 4 (by decide) (hw _ w_fl_R_25) (fun _ h9 => h9) rfl dR_walk_39 ?_
  refine lv_istore_n (lv' := [(2, .int (nI (2 + wid tp 2))), (1, .int (nI 2)), (0, .ref r0)]) hx hb dR_walk_42 rfl hl (by decide) rfl (fun ls hl => ?_)
  refine lv_iconst (v := nI 0) hx hb dR_walk_43 (by decide) ?_
  refine lv_istore_n (lv' := [(3, .int (nI 0)), (2, .int (nI (2 + wid tp 2))), (1, .int (nI 2)), (0, .ref r0)]) hx hb dR_walk_44 rfl hl (by decide) rfl (fun ls hl => ?_)
  have lp_45 : ∀ (fu : Nat) (sl : Nat) (q : Nat) (g9 : Nat) (c9 : Nat → Nat) (m9 : Nat → Nat) (hsl : sl ≤ 16) (hq : q ≤ len) (hi : wkF tp len (wid tp 2) (16 - sl) sl q = none) (hm9 : ∀ j, m9 j < 128) (hC : wkC tp (wid tp 2) (16 - sl) sl q c9 = wkC tp (wid tp 2) 16 0 (2 + wid tp 2) (zc cnt 16)) (hM : wkM tp (wid tp 2) (16 - sl) sl q m9 = wkM tp (wid tp 2) 16 0 (2 + wid tp 2) mk) (hms : 16 - sl < fu) (H : Heap) (locs : List Loc) (ls : Array Slot), lv_has ls 5 [(0, .ref r0), (1, .int (nI 2)), (2, .int (nI (2 + wid tp 2))), (3, .int (nI sl))] → va_P (dC, dI) vwCl [(f0, .inr (0, [.int (nI (nmA tp 0 4 4 0 0)), .ref f1, .ref f2])), (f1, .inl (cI, 16, .inl (aN c9))), (f2, .inl (cB, 208, .inl (aN m9))), (r0, .inr (1, [.ref f0, .int (nI 0), .int (-1), .ref t0, .int (nI q), .int (nI g9)])), (t0, .inr (2, [.ref t1, .int (nI len)])), (t1, .inl (cB, 400, .inl (aB tp)))] H → va_D A [(f0, .inr (0, [.int (nI (nmA tp 0 4 4 0 0)), .ref f1, .ref f2])), (f1, .inl (cI, 16, .inl (aN c9))), (f2, .inl (cB, 208, .inl (aN m9))), (r0, .inr (1, [.ref f0, .int (nI 0), .int (-1), .ref t0, .int (nI q), .int (nI g9)])), (t0, .inr (2, [.ref t1, .int (nI len)])), (t1, .inl (cB, 400, .inl (aB tp)))] → va_S A s.heap H locs → W p l e rm_c_walk_ok s m ([.ref r0] : List Value).toArray below meth c H locs 0 0 Q (F0 m 45 ls []) := by
    intro fu
    induction fu with
    | zero => intro sl q g9 c9 m9 hsl hq hi hm9 hC hM hms; exact absurd hms (Nat.not_lt_zero _)
    | succ fu ih45 =>
      intro sl q g9 c9 m9 hsl hq hi hm9 hC hM hms H locs ls hl hP hD hS
      refine lv_iload_n hx hb dR_walk_45 rfl (lv_at hl 3 rfl) ?_
      refine lv_bipush (v := nI 16) hx hb dR_walk_46 (by decide) ?_
      refine zi_ge (tgt := 106) hx hb (by omega) (by omega) dR_walk_48 (by decide) (fun c_48 => ?_) (fun c_48 => ?_)
      · have hi9 := hi
        rw [show 16 - sl = 0 by omega] at hi9
        have hql : q = len := by
          unfold wkF at hi9
          split at hi9
          · assumption
          · cases hi9
        have hC9 := hC
        rw [show 16 - sl = 0 by omega] at hC9
        have hM9 := hM
        rw [show 16 - sl = 0 by omega] at hM9
        have hC9 : c9 = wkC tp (wid tp 2) 16 0 (2 + wid tp 2) (zc cnt 16) := hC9
        have hM9 : m9 = wkM tp (wid tp 2) 16 0 (2 + wid tp 2) mk := hM9
        subst hC9
        subst hM9
        refine lv_aload_n hx hb dR_walk_106 rfl (lv_at hl 0 rfl) ?_
        refine va_get (D := (dC, dI)) (ci := 1) (v := .int (nI q)) (C := RR) (T := TR) (N := 6) hx hb hw inR hown hK hP 3 rfl rfl 4 (by decide) (hw _ w_fl_R_25) (fun _ h9 => h9) rfl dR_walk_107 ?_
        refine lv_aload_n hx hb dR_walk_110 rfl (lv_at hl 0 rfl) ?_
        refine va_get (D := (dC, dI)) (ci := 1) (v := .ref t0) (C := RR) (T := TR) (N := 6) hx hb hw inR hown hK hP 3 rfl rfl 3 (by decide) (hw _ w_fl_R_31) (fun _ h9 => h9) rfl dR_walk_111 ?_
        refine va_get (D := (dC, dI)) (ci := 2) (v := .int (nI len)) (C := RT) (T := TT) (N := 2) hx hb hw inT hown hK hP 4 rfl rfl 1 (by decide) (hw _ w_fl_R_62) (fun _ h9 => h9) rfl dR_walk_114 ?_
        refine zi_eq (tgt := 133) hx hb (by omega) (by omega) dR_walk_117 (by decide) (fun c_117 => ?_) (fun q => False.elim ((q hql)))
        refine lv_iconst (v := nI 1) hx hb dR_walk_133 (by decide) ?_
        refine lv_goto (tgt := 138) hx hb dR_walk_134 (by decide) ?_
        subst hAe
        subst hQ
        exact W.zret (v := nI 1) hx hb hr (by decide) (fun t ht hW => ⟨⟨nI 1, (q, g9), rfl, rfl, by rw [ht]; exact hP.sub [3, 4, 5, 0, 1, 2] rfl, hD.sub [3, 4, 5, 0, 1, 2] (by decide) rfl⟩, hS.F ht⟩) hS.2.2 dR_walk_138
      · have hfi := fFI_b sl (by omega)
        have hwd := wid_le tp 2
        have ht9 := htp (2 + (fFI sl - 1) / 8)
        refine lv_iload_n hx hb dR_walk_51 rfl (lv_at hl 1 rfl) ?_
        refine va_getsN hx hb zfFI hS hown (va_Nw.use rfl (hG.nf (RR, 42, "FIELDS") (List.mem_of_getElem? (i := 7) rfl))) (fun _ h9 => h9) dR_walk_52 ?_
        refine lv_iload_n hx hb dR_walk_55 rfl (lv_at hl 3 rfl) ?_
        refine za_tab hx hb afFI hS (by omega) (by decide) dR_walk_56 ?_
        refine zc_Ri (va_runSN (As := [.int (nI (fFI sl))]) (rest := [.int (nI 2)]) ⟨hx, hb, hml, hown, hw⟩ (c_C_mapByte l dC dI cI cB (fFI sl) (by omega) (by omega) H) ⟨va_cnB 1 hw (gC w_co_C_mapByte) rfl rfl rfl (hG.nm (RR, 46, yC_mapByte) (List.mem_of_getElem? (i := 7) rfl)) (hw _ w_in_C) (by decide +kernel) ⟨Nat.le_of_ble_eq_true rfl, Nat.le_of_ble_eq_true rfl⟩, hw _ w_st_C_mapByte, trivial⟩ (zR_S hG hS (hP.sub (ws' := []) [] rfl) hK) rfl rfl hl.1 rfl (lv_room (Nat.le_of_ble_eq_true rfl)) dR_walk_57 ⟨Nat.le_of_ble_eq_true rfl, Nat.le_of_ble_eq_true rfl⟩) hS (fun r_3 locs h_57 hS => ?_)
        subst h_57
        refine zi_add hx hb dR_walk_60 ?_
        refine lv_istore (lv' := [(4, .int (nI (2 + (((fFI sl) - 1) / 8)))), (0, .ref r0), (1, .int (nI 2)), (2, .int (nI (2 + wid tp 2))), (3, .int (nI sl))]) hx hb dR_walk_61 hl (by decide) rfl (fun ls hl => ?_)
        refine lv_iload hx hb dR_walk_63 (lv_at hl 0 rfl) ?_
        refine lv_iload_n hx hb dR_walk_65 rfl (lv_at hl 3 rfl) ?_
        refine zi_ge (tgt := 100) hx hb (by omega) (by omega) dR_walk_66 (by decide) (fun c_66 => ?_) (fun c_66 => ?_)
        · have hp9 : prs tp (wid tp 2) sl = false := decide_eq_false (fun h => by first | exact absurd h.1 (Nat.not_lt.mpr c_66) | exact h.2 c_87)
          have hi2 := hi
          rw [show 16 - sl = 16 - (sl + 1) + 1 by omega] at hi2
          rw [wkF_out hp9] at hi2
          have hfit := hq
          have hm2 := hm9
          have hC2 := hC
          rw [show 16 - sl = 16 - (sl + 1) + 1 by omega] at hC2
          rw [wkC_out hp9] at hC2
          have hM2 := hM
          rw [show 16 - sl = 16 - (sl + 1) + 1 by omega] at hM2
          rw [wkM_out hp9] at hM2
          refine lv_iinc (v := nI (sl + 1)) (lv' := [(3, .int (nI (sl + 1))), (4, .int (nI (2 + (((fFI sl) - 1) / 8)))), (0, .ref r0), (1, .int (nI 2)), (2, .int (nI (2 + wid tp 2)))]) hx hb dR_walk_100 hl (k := 4) rfl (zi_incr sl 1) (by decide) rfl (fun ls hl => ?_)
          refine lv_goto (tgt := 45) hx hb dR_walk_103 (by decide) ?_
          exact ih45 (sl + 1) q g9 c9 m9 (by omega) hfit hi2 hm2 hC2 hM2 (by omega) _ _ _ (lv_sub hl [2, 3, 4, 0] rfl) (hP.sub [0, 1, 2, 3, 4, 5] rfl) (hD.sub [0, 1, 2, 3, 4, 5] (by decide) rfl) hS
        · refine lv_aload_n hx hb dR_walk_69 rfl (lv_at hl 1 rfl) ?_
          refine va_get (D := (dC, dI)) (ci := 1) (v := .ref t0) (C := RR) (T := TR) (N := 6) hx hb hw inR hown hK hP 3 rfl rfl 3 (by decide) (hw _ w_fl_R_31) (fun _ h9 => h9) rfl dR_walk_70 ?_
          refine lv_iload hx hb dR_walk_73 (lv_at hl 0 rfl) ?_
          refine zc_Ri (va_runV (As := [.int (nI (2 + (((fFI sl) - 1) / 8)))]) (rest := []) ⟨hx, hb, hml, hown, hw⟩ (c_T_byteAt l dC dI t0 t1 len cI cB tp (2 + (((fFI sl) - 1) / 8)) (by omega) (htp _) H) (cwV 1 hw (gV w_ml_R_50 w_im_T_byteAt w_se_T_byteAt w_in_T w_co_T_byteAt) rfl rfl rfl (by decide +kernel) ⟨Nat.le_of_ble_eq_true rfl, Nat.le_of_ble_eq_true rfl⟩) (zR_V hG hS (hP.sub (ws' := [(t0, .inr (2, [.ref t1, .int (nI len)])), (t1, .inl (cB, 400, .inl (aB tp)))]) [4, 5] rfl) hK 0 rfl rfl) rfl rfl hl.1 rfl (lv_room (Nat.le_of_ble_eq_true rfl)) dR_walk_75 ⟨Nat.le_of_ble_eq_true rfl, Nat.le_of_ble_eq_true rfl⟩) hS (fun r_4 locs h_75 hS => ?_)
          subst h_75
          refine va_getsN hx hb zfFI hS hown (va_Nw.use rfl (hG.nf (RR, 42, "FIELDS") (List.mem_of_getElem? (i := 7) rfl))) (fun _ h9 => h9) dR_walk_78 ?_
          refine lv_iload_n hx hb dR_walk_81 rfl (lv_at hl 4 rfl) ?_
          refine za_tab hx hb afFI hS (by omega) (by decide) dR_walk_82 ?_
          refine zc_Ri (va_runSN (As := [.int (nI (fFI sl))]) (rest := [.int (nI (tp (2 + (((fFI sl) - 1) / 8))))]) ⟨hx, hb, hml, hown, hw⟩ (c_C_mapBit l dC dI cI cB (fFI sl) (by omega) (by omega) H) ⟨va_cnB 1 hw (gC w_co_C_mapBit) rfl rfl rfl (hG.nm (RR, 55, yC_mapBit) (List.mem_of_getElem? (i := 8) rfl)) (hw _ w_in_C) (by decide +kernel) ⟨Nat.le_of_ble_eq_true rfl, Nat.le_of_ble_eq_true rfl⟩, hw _ w_st_C_mapBit, trivial⟩ (zR_S hG hS (hP.sub (ws' := []) [] rfl) hK) rfl rfl hl.1 rfl (lv_room (Nat.le_of_ble_eq_true rfl)) dR_walk_83 ⟨Nat.le_of_ble_eq_true rfl, Nat.le_of_ble_eq_true rfl⟩) hS (fun r_5 locs h_83 hS => ?_)
          subst h_83
          refine lv_iand hx hb dR_walk_86 ?_
          refine zi_v (b := nI ((tp (2 + (((fFI sl) - 1) / 8))) &&& (128 / 2 ^ (((fFI sl) - 1) % 8)))) (nI_and _ _) ?_
          refine zi_eq0 (tgt := 100) hx hb (lt_and (bit_lt _)) dR_walk_87 (by decide) (fun c_87 => ?_) (fun c_87 => ?_)
          · have hp9 : prs tp (wid tp 2) sl = false := decide_eq_false (fun h => by first | exact absurd h.1 (Nat.not_lt.mpr c_66) | exact h.2 c_87)
            have hi2 := hi
            rw [show 16 - sl = 16 - (sl + 1) + 1 by omega] at hi2
            rw [wkF_out hp9] at hi2
            have hfit := hq
            have hm2 := hm9
            have hC2 := hC
            rw [show 16 - sl = 16 - (sl + 1) + 1 by omega] at hC2
            rw [wkC_out hp9] at hC2
            have hM2 := hM
            rw [show 16 - sl = 16 - (sl + 1) + 1 by omega] at hM2
            rw [wkM_out hp9] at hM2
            refine lv_iinc (v := nI (sl + 1)) (lv' := [(3, .int (nI (sl + 1))), (4, .int (nI (2 + (((fFI sl) - 1) / 8)))), (0, .ref r0), (1, .int (nI 2)), (2, .int (nI (2 + wid tp 2)))]) hx hb dR_walk_100 hl (k := 4) rfl (zi_incr sl 1) (by decide) rfl (fun ls hl => ?_)
            refine lv_goto (tgt := 45) hx hb dR_walk_103 (by decide) ?_
            exact ih45 (sl + 1) q g9 c9 m9 (by omega) hfit hi2 hm2 hC2 hM2 (by omega) _ _ _ (lv_sub hl [2, 3, 4, 0] rfl) (hP.sub [0, 1, 2, 3, 4, 5] rfl) (hD.sub [0, 1, 2, 3, 4, 5] (by decide) rfl) hS
          · have hp9 : prs tp (wid tp 2) sl = true := decide_eq_true ⟨c_66, c_87⟩
            have hi9 := hi
            rw [show 16 - sl = 16 - (sl + 1) + 1 by omega] at hi9
            obtain ⟨hfd, hi2⟩ := wkF_in hi9 hp9
            have hfit := fieldF_fit hfd
            have hm2 := fMk_lt htp hfd hm9
            refine lv_aload_n hx hb dR_walk_90 rfl (lv_at hl 1 rfl) ?_
            refine lv_iload_n hx hb dR_walk_91 rfl (lv_at hl 4 rfl) ?_
            have hPc := hP.sub (ws' := [(r0, .inr (1, [.ref f0, .int (nI 0), .int (-1), .ref t0, .int (nI q), .int (nI g9)])), (t0, .inr (2, [.ref t1, .int (nI len)])), (t1, .inl (cB, 400, .inl (aB tp))), (f0, .inr (0, [.int (nI (nmA tp 0 4 4 0 0)), .ref f1, .ref f2])), (f1, .inl (cI, 16, .inl (aN c9))), (f2, .inl (cB, 208, .inl (aN m9)))]) [3, 4, 5, 0, 1, 2] rfl
            have hDc := hD.sub (ws' := [(r0, .inr (1, [.ref f0, .int (nI 0), .int (-1), .ref t0, .int (nI q), .int (nI g9)])), (t0, .inr (2, [.ref t1, .int (nI len)])), (t1, .inl (cB, 400, .inl (aB tp))), (f0, .inr (0, [.int (nI (nmA tp 0 4 4 0 0)), .ref f1, .ref f2])), (f1, .inl (cI, 16, .inl (aN c9))), (f2, .inl (cB, 208, .inl (aN m9)))]) [3, 4, 5, 0, 1, 2] (by decide) rfl
            have hFc := va_free (wc := [(r0, .inr (1, [.ref f0, .int (nI 0), .int (-1), .ref t0, .int (nI q), .int (nI g9)])), (t0, .inr (2, [.ref t1, .int (nI len)])), (t1, .inl (cB, 400, .inl (aB tp))), (f0, .inr (0, [.int (nI (nmA tp 0 4 4 0 0)), .ref f1, .ref f2])), (f1, .inl (cI, 16, .inl (aN c9))), (f2, .inl (cB, 208, .inl (aN m9)))]) hD hS hA [3, 4, 5, 0, 1, 2] rfl
            refine zc_Mi (va_runV (As := [.int (nI sl)]) (rest := []) ⟨hx, hb, hml, hown, hw⟩ (c_walkField_ok l dC dI r0 f0 0 (-1) t0 q g9 t1 len cI cB tp f1 f2 (nmA tp 0 4 4 0 0) c9 m9 sl (by omega) (by omega) htp (by omega) hfd H.size) (cwV 1 hw (gV w_ml_R_58 w_im_R_walkField w_se_R_walkField w_in_R w_co_R_walkField) rfl rfl rfl (by decide +kernel) ⟨Nat.le_of_ble_eq_true rfl, Nat.le_of_ble_eq_true rfl⟩) (zM_V hG hS hFc hPc hDc hK 0 rfl rfl) rfl rfl hl.1 rfl (lv_room (Nat.le_of_ble_eq_true rfl)) dR_walk_92 ⟨Nat.le_of_ble_eq_true rfl, Nat.le_of_ble_eq_true rfl⟩) hS hFc (fun r_6 H locs h_92 hP1 hD1 hk1 hS => ?_)
            obtain ⟨hP, hD⟩ := va_join (wr := []) (w1 := [(r0, .inr (1, [.ref f0, .int (nI 0), .int (-1), .ref t0, .int (nI (fNx tp q sl)), .int (nI (fLn tp q sl g9))])), (t0, .inr (2, [.ref t1, .int (nI len)])), (t1, .inl (cB, 400, .inl (aB tp))), (f0, .inr (0, [.int (nI (nmA tp 0 4 4 0 0)), .ref f1, .ref f2])), (f1, .inl (cI, 16, .inl (aN (nup c9 sl (fCt tp q sl))))), (f2, .inl (cB, 208, .inl (aN (fMk tp q sl m9))))]) hP hD [3, 4, 5, 0, 1, 2] [] rfl rfl (by decide) (by decide) hk1 hFc hP1 hD1
            have hP : va_P (dC, dI) vwCl [(r0, .inr (1, [.ref f0, .int (nI 0), .int (-1), .ref t0, .int (nI (fNx tp q sl)), .int (nI (fLn tp q sl g9))])), (t0, .inr (2, [.ref t1, .int (nI len)])), (t1, .inl (cB, 400, .inl (aB tp))), (f0, .inr (0, [.int (nI (nmA tp 0 4 4 0 0)), .ref f1, .ref f2])), (f1, .inl (cI, 16, .inl (aN (nup c9 sl (fCt tp q sl))))), (f2, .inl (cB, 208, .inl (aN (fMk tp q sl m9))))] H := hP
            have hD : va_D A [(r0, .inr (1, [.ref f0, .int (nI 0), .int (-1), .ref t0, .int (nI (fNx tp q sl)), .int (nI (fLn tp q sl g9))])), (t0, .inr (2, [.ref t1, .int (nI len)])), (t1, .inl (cB, 400, .inl (aB tp))), (f0, .inr (0, [.int (nI (nmA tp 0 4 4 0 0)), .ref f1, .ref f2])), (f1, .inl (cI, 16, .inl (aN (nup c9 sl (fCt tp q sl))))), (f2, .inl (cB, 208, .inl (aN (fMk tp q sl m9))))] := hD
            subst h_92
            refine lv_if_ne (tgt := 100) hx hb dR_walk_95 (by decide) (fun c_95 => ?_) (fun q => False.elim (absurd q (by decide)))
            have hC2 := hC
            rw [show 16 - sl = 16 - (sl + 1) + 1 by omega] at hC2
            rw [wkC_in hp9] at hC2
            have hM2 := hM
            rw [show 16 - sl = 16 - (sl + 1) + 1 by omega] at hM2
            rw [wkM_in hp9] at hM2
            refine lv_iinc (v := nI (sl + 1)) (lv' := [(3, .int (nI (sl + 1))), (4, .int (nI (2 + (((fFI sl) - 1) / 8)))), (0, .ref r0), (1, .int (nI 2)), (2, .int (nI (2 + wid tp 2)))]) hx hb dR_walk_100 hl (k := 4) rfl (zi_incr sl 1) (by decide) rfl (fun ls hl => ?_)
            refine lv_goto (tgt := 45) hx hb dR_walk_103 (by decide) ?_
            exact ih45 (sl + 1) (fNx tp q sl) (fLn tp q sl g9) (nup c9 sl (fCt tp q sl)) (fMk tp q sl m9) (by omega) hfit hi2 hm2 hC2 hM2 (by omega) _ _ _ (lv_sub hl [2, 3, 4, 0] rfl) (hP.sub [3, 4, 5, 0, 1, 2] rfl) (hD.sub [3, 4, 5, 0, 1, 2] (by decide) rfl) hS
  exact lp_45 ((16 - 0) + 1) 0 (2 + wid tp 2) (nmA tp 0 4 4 0 0) (zc cnt 16) mk (by omega) hmf hwk hm rfl rfl (Nat.lt_succ_self _) _ _ _ (lv_sub hl [3, 2, 1, 0] rfl) (hP.sub [0, 1, 2, 3, 4, 5] rfl) (hD.sub [0, 1, 2, 3, 4, 5] (by decide) rfl) hS
def rm_c_walk_no : Room := ({ frames := 5, cells := 0, slots := 0, locals := 112 } : Room)
set_option maxHeartbeats 4000000 in
set_option maxRecDepth 100000 in
theorem c_walk_no (l : Launch) (dC : Nat → ClassId) (dI : Nat → Nat → Nat) (r0 : Nat) (f0 : Nat) (fk : Nat) (fp : Int32) (t0 : Nat) (nx : Nat) (lnb : Nat) (t1 : Nat) (len : Nat) (cI : ClassId) (cB : ClassId) (tp : Nat → Nat) (f1 : Nat) (f2 : Nat) (ty : Nat) (cnt : Nat → Nat) (mk : Nat → Nat) (k2 : Nat) (p2 : Nat) (hln : len ≤ 400) (htp : ∀ j, tp j < 256) (hm : ∀ j, mk j < 128) (hd : pF tp len = some (k2, p2)) (sz : Nat) : Met l yR_walk wsR_walk rm_c_walk_no (zM (dC, dI) [(cI, .int), (cB, .byte)] [.ref r0] [(r0, .inr (1, [.ref f0, .int (nI fk), .int fp, .ref t0, .int (nI nx), .int (nI lnb)])), (t0, .inr (2, [.ref t1, .int (nI len)])), (t1, .inl (cB, 400, .inl (aB tp))), (f0, .inr (0, [.int (nI ty), .ref f1, .ref f2])), (f1, .inl (cI, 16, .inl (aN cnt))), (f2, .inl (cB, 208, .inl (aN mk)))] sz) (zSi (dC, dI) [(r0, .inr (1, [.ref f0, .int (nI fk), .int fp, .ref t0, .int (nI nx), .int (nI lnb)])), (t0, .inr (2, [.ref t1, .int (nI len)])), (t1, .inl (cB, 400, .inl (aB tp))), (f0, .inr (0, [.int (nI ty), .ref f1, .ref f2])), (f1, .inl (cI, 16, .inl (aN cnt))), (f2, .inl (cB, 208, .inl (aN mk)))] sz (fun r (u : Nat × Nat × Nat × (Nat → Nat) × (Nat → Nat)) => r = nI 0 ∧ ∀ j, u.2.2.2.2 j < 128) (fun u => [(r0, .inr (1, [.ref f0, .int (nI k2), .int (nI p2), .ref t0, .int (nI u.1), .int (nI u.2.1)])), (t0, .inr (2, [.ref t1, .int (nI len)])), (t1, .inl (cB, 400, .inl (aB tp))), (f0, .inr (0, [.int (nI u.2.2.1), .ref f1, .ref f2])), (f1, .inl (cI, 16, .inl (aN u.2.2.2.1))), (f2, .inl (cB, 208, .inl (aN u.2.2.2.2)))])) 0 0 (va_A [(r0, .inr (1, [.ref f0, .int (nI fk), .int fp, .ref t0, .int (nI nx), .int (nI lnb)])), (t0, .inr (2, [.ref t1, .int (nI len)])), (t1, .inl (cB, 400, .inl (aB tp))), (f0, .inr (0, [.int (nI ty), .ref f1, .ref f2])), (f1, .inl (cI, 16, .inl (aN cnt))), (f2, .inl (cB, 208, .inl (aN mk)))] sz) := by
  refine Met.ofW (cc := cR_walk) (maxL := 5) (ret := (some .boolean)) (by decide) rfl ?_
  intro p e s m args below meth c s₁ Bd hml hv
  obtain ⟨rfl, hsz, hG, hP, hK, hD0⟩ := hv
  subst hsz
  have hx := Bd.exec
  have hb := Bd.bytes
  have hr := Bd.returns
  have hts := atoms_spec (ws := wsR_walk) Bd.pre
  have hw : ∀ w ∈ BIG, w.before _ s = true := fun w h => hts w (List.mem_cons_of_mem _ h)
  have hown : s.vm.findClass RR = some m.cls := findClass_of_methodNamed Bd.named
  have hlocks := Bd.notSynchronized
  have hD := hD0.self (sz := s.heap.size)
  obtain ⟨A, hAe⟩ : ∃ A, A = va_A [(r0, .inr (1, [.ref f0, .int (nI fk), .int fp, .ref t0, .int (nI nx), .int (nI lnb)])), (t0, .inr (2, [.ref t1, .int (nI len)])), (t1, .inl (cB, 400, .inl (aB tp))), (f0, .inr (0, [.int (nI ty), .ref f1, .ref f2])), (f1, .inl (cI, 16, .inl (aN cnt))), (f2, .inl (cB, 208, .inl (aN mk)))] s.heap.size := ⟨_, rfl⟩
  have hA : ∀ q : Nat, s.heap.size ≤ q → A q := fun q h => by rw [hAe]; exact Or.inr h
  rw [← hAe] at hG hD
  have hS : va_S A s.heap s.heap [] := va_S.rf
  have hl := lv_entry ([.ref r0]) (n := 5) (Nat.le_of_ble_eq_true rfl)
  rw [lg_entry_eq]
  generalize (lg_sl ([.ref r0]) ++ List.replicate (5 - (lg_sl ([.ref r0])).length) Slot.unset).toArray = ls at hl ⊢
  have hl : lv_has ls 5 [(0, .ref r0)] := hl
  refine zq_name (fun Q hQ => ?_)
  change W p l e rm_c_walk_no s m _ below meth c _ _ _ _ Q _
  obtain ⟨tfFI, zfFI, afFI⟩ := hG.FIELDS
  rcases pF_no hd with hd1 | ⟨hd1, hty, rfl, rfl⟩ | ⟨hd1, hty, hmp⟩ | ⟨hd1, hty, hmp, hwk⟩
  · refine lv_aload_n hx hb dR_walk_0 rfl (lv_at hl 0 rfl) ?_
    refine lv_iconst (v := nI 0) hx hb dR_walk_1 (by decide) ?_
    refine va_put (D := (dC, dI)) (ci := 1) (v := .int (nI 0)) (ty := .int) (C := RR) (T := TR) (N := 6) hx hb hw inR tyR tyR_ok nmR hown hK hP hD hS 0 rfl rfl 1 (by decide) (hw _ w_fl_R_18) (fun _ h9 => h9) rfl (by decide +kernel) rfl rfl (Nat.le_of_ble_eq_true rfl) dR_walk_2 (fun H locs hP hD hS => ?_)
    have hP : va_P (dC, dI) vwCl [(r0, .inr (1, [.ref f0, .int (nI 0), .int fp, .ref t0, .int (nI nx), .int (nI lnb)])), (t0, .inr (2, [.ref t1, .int (nI len)])), (t1, .inl (cB, 400, .inl (aB tp))), (f0, .inr (0, [.int (nI ty), .ref f1, .ref f2])), (f1, .inl (cI, 16, .inl (aN cnt))), (f2, .inl (cB, 208, .inl (aN mk)))] H := hP
    have hD : va_D A [(r0, .inr (1, [.ref f0, .int (nI 0), .int fp, .ref t0, .int (nI nx), .int (nI lnb)])), (t0, .inr (2, [.ref t1, .int (nI len)])), (t1, .inl (cB, 400, .inl (aB tp))), (f0, .inr (0, [.int (nI ty), .ref f1, .ref f2])), (f1, .inl (cI, 16, .inl (aN cnt))), (f2, .inl (cB, 208, .inl (aN mk)))] := hD
    refine lv_aload_n hx hb dR_walk_5 rfl (lv_at hl 0 rfl) ?_
    refine lv_iconst (v := (-1)) hx hb dR_walk_6 (by decide) ?_
    refine va_put (D := (dC, dI)) (ci := 1) (v := .int (-1)) (ty := .int) (C := RR) (T := TR) (N := 6) hx hb hw inR tyR tyR_ok nmR hown hK hP hD hS 0 rfl rfl 2 (by decide) (hw _ w_fl_R_22) (fun _ h9 => h9) rfl (by decide +kernel) rfl rfl (Nat.le_of_ble_eq_true rfl) dR_walk_7 (fun H locs hP hD hS => ?_)
    have hP : va_P (dC, dI) vwCl [(r0, .inr (1, [.ref f0, .int (nI 0), .int (-1), .ref t0, .int (nI nx), .int (nI lnb)])), (t0, .inr (2, [.ref t1, .int (nI len)])), (t1, .inl (cB, 400, .inl (aB tp))), (f0, .inr (0, [.int (nI ty), .ref f1, .ref f2])), (f1, .inl (cI, 16, .inl (aN cnt))), (f2, .inl (cB, 208, .inl (aN mk)))] H := hP
    have hD : va_D A [(r0, .inr (1, [.ref f0, .int (nI 0), .int (-1), .ref t0, .int (nI nx), .int (nI lnb)])), (t0, .inr (2, [.ref t1, .int (nI len)])), (t1, .inl (cB, 400, .inl (aB tp))), (f0, .inr (0, [.int (nI ty), .ref f1, .ref f2])), (f1, .inl (cI, 16, .inl (aN cnt))), (f2, .inl (cB, 208, .inl (aN mk)))] := hD
    refine lv_aload_n hx hb dR_walk_10 rfl (lv_at hl 0 rfl) ?_
    refine lv_iconst (v := nI 0) hx hb dR_walk_11 (by decide) ?_
    refine va_put (D := (dC, dI)) (ci := 1) (v := .int (nI 0)) (ty := .int) (C := RR) (T := TR) (N := 6) hx hb hw inR tyR tyR_ok nmR hown hK hP hD hS 0 rfl rfl 4 (by decide) (hw _ w_fl_R_25) (fun _ h9 => h9) rfl (by decide +kernel) rfl rfl (Nat.le_of_ble_eq_true rfl) dR_walk_12 (fun H locs hP hD hS => ?_)
    have hP : va_P (dC, dI) vwCl [(r0, .inr (1, [.ref f0, .int (nI 0), .int (-1), .ref t0, .int (nI 0), .int (nI lnb)])), (t0, .inr (2, [.ref t1, .int (nI len)])), (t1, .inl (cB, 400, .inl (aB tp))), (f0, .inr (0, [.int (nI ty), .ref f1, .ref f2])), (f1, .inl (cI, 16, .inl (aN cnt))), (f2, .inl (cB, 208, .inl (aN mk)))] H := hP
    have hD : va_D A [(r0, .inr (1, [.ref f0, .int (nI 0), .int (-1), .ref t0, .int (nI 0), .int (nI lnb)])), (t0, .inr (2, [.ref t1, .int (nI len)])), (t1, .inl (cB, 400, .inl (aB tp))), (f0, .inr (0, [.int (nI ty), .ref f1, .ref f2])), (f1, .inl (cI, 16, .inl (aN cnt))), (f2, .inl (cB, 208, .inl (aN mk)))] := hD
    refine lv_aload_n hx hb dR_walk_15 rfl (lv_at hl 0 rfl) ?_
    have hPc := hP.sub (ws' := [(r0, .inr (1, [.ref f0, .int (nI 0), .int (-1), .ref t0, .int (nI 0), .int (nI lnb)])), (t0, .inr (2, [.ref t1, .int (nI len)])), (t1, .inl (cB, 400, .inl (aB tp)))]) [0, 1, 2] rfl
    have hDc := hD.sub (ws' := [(r0, .inr (1, [.ref f0, .int (nI 0), .int (-1), .ref t0, .int (nI 0), .int (nI lnb)])), (t0, .inr (2, [.ref t1, .int (nI len)])), (t1, .inl (cB, 400, .inl (aB tp)))]) [0, 1, 2] (by decide) rfl
    have hFc := va_free (wc := [(r0, .inr (1, [.ref f0, .int (nI 0), .int (-1), .ref t0, .int (nI 0), .int (nI lnb)])), (t0, .inr (2, [.ref t1, .int (nI len)])), (t1, .inl (cB, 400, .inl (aB tp)))]) hD hS hA [0, 1, 2] rfl
    refine zc_Mi (va_runV (As := []) (rest := []) ⟨hx, hb, hml, hown, hw⟩ (c_walkType_no1 l dC dI r0 f0 0 (-1) t0 0 lnb t1 len cI cB tp k2 p2 (by omega) (by omega) htp hd1 H.size) (cwV 0 hw (gV w_ml_R_35 w_im_R_walkType w_se_R_walkType w_in_R w_co_R_walkType) rfl rfl rfl (by decide +kernel) ⟨Nat.le_of_ble_eq_true rfl, Nat.le_of_ble_eq_true rfl⟩) (zM_V hG hS hFc hPc hDc hK 0 rfl rfl) rfl rfl hl.1 rfl (lv_room (Nat.le_of_ble_eq_true rfl)) dR_walk_16 ⟨Nat.le_of_ble_eq_true rfl, Nat.le_of_ble_eq_true rfl⟩) hS hFc (fun r_1 H locs h_16 hP1 hD1 hk1 hS => ?_)
    obtain ⟨hP, hD⟩ := va_join (wr := [(f0, .inr (0, [.int (nI ty), .ref f1, .ref f2])), (f1, .inl (cI, 16, .inl (aN cnt))), (f2, .inl (cB, 208, .inl (aN mk)))]) (w1 := [(r0, .inr (1, [.ref f0, .int (nI k2), .int (nI p2), .ref t0, .int (nI 0), .int (nI lnb)])), (t0, .inr (2, [.ref t1, .int (nI len)])), (t1, .inl (cB, 400, .inl (aB tp)))]) hP hD [0, 1, 2] [3, 4, 5] rfl rfl (by decide) (by decide) hk1 hFc hP1 hD1
    have hP : va_P (dC, dI) vwCl [(f0, .inr (0, [.int (nI ty), .ref f1, .ref f2])), (f1, .inl (cI, 16, .inl (aN cnt))), (f2, .inl (cB, 208, .inl (aN mk))), (r0, .inr (1, [.ref f0, .int (nI k2), .int (nI p2), .ref t0, .int (nI 0), .int (nI lnb)])), (t0, .inr (2, [.ref t1, .int (nI len)])), (t1, .inl (cB, 400, .inl (aB tp)))] H := hP
    have hD : va_D A [(f0, .inr (0, [.int (nI ty), .ref f1, .ref f2])), (f1, .inl (cI, 16, .inl (aN cnt))), (f2, .inl (cB, 208, .inl (aN mk))), (r0, .inr (1, [.ref f0, .int (nI k2), .int (nI p2), .ref t0, .int (nI 0), .int (nI lnb)])), (t0, .inr (2, [.ref t1, .int (nI len)])), (t1, .inl (cB, 400, .inl (aB tp)))] := hD
    subst h_16
    refine lv_if_ne (tgt := 24) hx hb dR_walk_19 (by decide) (fun q => False.elim (absurd q (by decide))) (fun c_19 => ?_)
    refine lv_iconst (v := nI 0) hx hb dR_walk_22 (by decide) ?_
    subst hAe
    subst hQ
    exact W.zret (v := nI 0) hx hb hr (by decide) (fun t ht hW => ⟨⟨nI 0, (0, lnb, ty, cnt, mk), rfl, ⟨rfl, hm⟩, by rw [ht]; exact hP.sub [3, 4, 5, 0, 1, 2] rfl, hD.sub [3, 4, 5, 0, 1, 2] (by decide) rfl⟩, hS.F ht⟩) hS.2.2 dR_walk_23
  · have hs9 := dgF_fit hd1
    refine lv_aload_n hx hb dR_walk_0 rfl (lv_at hl 0 rfl) ?_
    refine lv_iconst (v := nI 0) hx hb dR_walk_1 (by decide) ?_
    refine va_put (D := (dC, dI)) (ci := 1) (v := .int (nI 0)) (ty := .int) (C := RR) (T := TR) (N := 6) hx hb hw inR tyR tyR_ok nmR hown hK hP hD hS 0 rfl rfl 1 (by decide) (hw _ w_fl_R_18) (fun _ h9 => h9) rfl (by decide +kernel) rfl rfl (Nat.le_of_ble_eq_true rfl) dR_walk_2 (fun H locs hP hD hS => ?_)
    have hP : va_P (dC, dI) vwCl [(r0, .inr (1, [.ref f0, .int (nI 0), .int fp, .ref t0, .int (nI nx), .int (nI lnb)])), (t0, .inr (2, [.ref t1, .int (nI len)])), (t1, .inl (cB, 400, .inl (aB tp))), (f0, .inr (0, [.int (nI ty), .ref f1, .ref f2])), (f1, .inl (cI, 16, .inl (aN cnt))), (f2, .inl (cB, 208, .inl (aN mk)))] H := hP
    have hD : va_D A [(r0, .inr (1, [.ref f0, .int (nI 0), .int fp, .ref t0, .int (nI nx), .int (nI lnb)])), (t0, .inr (2, [.ref t1, .int (nI len)])), (t1, .inl (cB, 400, .inl (aB tp))), (f0, .inr (0, [.int (nI ty), .ref f1, .ref f2])), (f1, .inl (cI, 16, .inl (aN cnt))), (f2, .inl (cB, 208, .inl (aN mk)))] := hD
    refine lv_aload_n hx hb dR_walk_5 rfl (lv_at hl 0 rfl) ?_
    refine lv_iconst (v := (-1)) hx hb dR_walk_6 (by decide) ?_
    refine va_put (D := (dC, dI)) (ci := 1) (v := .int (-1)) (ty := .int) (C := RR) (T := TR) (N := 6) hx hb hw inR tyR tyR_ok nmR hown hK hP hD hS 0 rfl rfl 2 (by decide) (hw _ w_fl_R_22) (fun _ h9 => h9) rfl (by decide +kernel) rfl rfl (Nat.le_of_ble_eq_true rfl) dR_walk_7 (fun H locs hP hD hS => ?_)
    have hP : va_P (dC, dI) vwCl [(r0, .inr (1, [.ref f0, .int (nI 0), .int (-1), .ref t0, .int (nI nx), .int (nI lnb)])), (t0, .inr (2, [.ref t1, .int (nI len)])), (t1, .inl (cB, 400, .inl (aB tp))), (f0, .inr (0, [.int (nI ty), .ref f1, .ref f2])), (f1, .inl (cI, 16, .inl (aN cnt))), (f2, .inl (cB, 208, .inl (aN mk)))] H := hP
    have hD : va_D A [(r0, .inr (1, [.ref f0, .int (nI 0), .int (-1), .ref t0, .int (nI nx), .int (nI lnb)])), (t0, .inr (2, [.ref t1, .int (nI len)])), (t1, .inl (cB, 400, .inl (aB tp))), (f0, .inr (0, [.int (nI ty), .ref f1, .ref f2])), (f1, .inl (cI, 16, .inl (aN cnt))), (f2, .inl (cB, 208, .inl (aN mk)))] := hD
    refine lv_aload_n hx hb dR_walk_10 rfl (lv_at hl 0 rfl) ?_
    refine lv_iconst (v := nI 0) hx hb dR_walk_11 (by decide) ?_
    refine va_put (D := (dC, dI)) (ci := 1) (v := .int (nI 0)) (ty := .int) (C := RR) (T := TR) (N := 6) hx hb hw inR tyR tyR_ok nmR hown hK hP hD hS 0 rfl rfl 4 (by decide) (hw _ w_fl_R_25) (fun _ h9 => h9) rfl (by decide +kernel) rfl rfl (Nat.le_of_ble_eq_true rfl) dR_walk_12 (fun H locs hP hD hS => ?_)
    have hP : va_P (dC, dI) vwCl [(r0, .inr (1, [.ref f0, .int (nI 0), .int (-1), .ref t0, .int (nI 0), .int (nI lnb)])), (t0, .inr (2, [.ref t1, .int (nI len)])), (t1, .inl (cB, 400, .inl (aB tp))), (f0, .inr (0, [.int (nI ty), .ref f1, .ref f2])), (f1, .inl (cI, 16, .inl (aN cnt))), (f2, .inl (cB, 208, .inl (aN mk)))] H := hP
    have hD : va_D A [(r0, .inr (1, [.ref f0, .int (nI 0), .int (-1), .ref t0, .int (nI 0), .int (nI lnb)])), (t0, .inr (2, [.ref t1, .int (nI len)])), (t1, .inl (cB, 400, .inl (aB tp))), (f0, .inr (0, [.int (nI ty), .ref f1, .ref f2])), (f1, .inl (cI, 16, .inl (aN cnt))), (f2, .inl (cB, 208, .inl (aN mk)))] := hD
    refine lv_aload_n hx hb dR_walk_15 rfl (lv_at hl 0 rfl) ?_
    have hPc := hP.sub (ws' := [(r0, .inr (1, [.ref f0, .int (nI 0), .int (-1), .ref t0, .int (nI 0), .int (nI lnb)])), (t0, .inr (2, [.ref t1, .int (nI len)])), (t1, .inl (cB, 400, .inl (aB tp)))]) [0, 1, 2] rfl
    have hDc := hD.sub (ws' := [(r0, .inr (1, [.ref f0, .int (nI 0), .int (-1), .ref t0, .int (nI 0), .int (nI lnb)])), (t0, .inr (2, [.ref t1, .int (nI len)])), (t1, .inl (cB, 400, .inl (aB tp)))]) [0, 1, 2] (by decide) rfl
    have hFc := va_free (wc := [(r0, .inr (1, [.ref f0, .int (nI 0), .int (-1), .ref t0, .int (nI 0), .int (nI lnb)])), (t0, .inr (2, [.ref t1, .int (nI len)])), (t1, .inl (cB, 400, .inl (aB tp)))]) hD hS hA [0, 1, 2] rfl
    refine zc_Mi (va_runV (As := []) (rest := []) ⟨hx, hb, hml, hown, hw⟩ (c_walkType_no2 l dC dI r0 f0 0 (-1) t0 0 lnb t1 len cI cB tp (by omega) (by omega) htp hd1 (isTy_f hty) H.size) (cwV 0 hw (gV w_ml_R_35 w_im_R_walkType w_se_R_walkType w_in_R w_co_R_walkType) rfl rfl rfl (by decide +kernel) ⟨Nat.le_of_ble_eq_true rfl, Nat.le_of_ble_eq_true rfl⟩) (zM_V hG hS hFc hPc hDc hK 0 rfl rfl) rfl rfl hl.1 rfl (lv_room (Nat.le_of_ble_eq_true rfl)) dR_walk_16 ⟨Nat.le_of_ble_eq_true rfl, Nat.le_of_ble_eq_true rfl⟩) hS hFc (fun r_2 H locs h_16 hP1 hD1 hk1 hS => ?_)
    obtain ⟨hP, hD⟩ := va_join (wr := [(f0, .inr (0, [.int (nI ty), .ref f1, .ref f2])), (f1, .inl (cI, 16, .inl (aN cnt))), (f2, .inl (cB, 208, .inl (aN mk)))]) (w1 := [(r0, .inr (1, [.ref f0, .int (nI 3), .int (nI 0), .ref t0, .int (nI (0 + 2)), .int (nI (nmA tp 0 4 4 0 0))])), (t0, .inr (2, [.ref t1, .int (nI len)])), (t1, .inl (cB, 400, .inl (aB tp)))]) hP hD [0, 1, 2] [3, 4, 5] rfl rfl (by decide) (by decide) hk1 hFc hP1 hD1
    have hP : va_P (dC, dI) vwCl [(f0, .inr (0, [.int (nI ty), .ref f1, .ref f2])), (f1, .inl (cI, 16, .inl (aN cnt))), (f2, .inl (cB, 208, .inl (aN mk))), (r0, .inr (1, [.ref f0, .int (nI 3), .int (nI 0), .ref t0, .int (nI (0 + 2)), .int (nI (nmA tp 0 4 4 0 0))])), (t0, .inr (2, [.ref t1, .int (nI len)])), (t1, .inl (cB, 400, .inl (aB tp)))] H := hP
    have hD : va_D A [(f0, .inr (0, [.int (nI ty), .ref f1, .ref f2])), (f1, .inl (cI, 16, .inl (aN cnt))), (f2, .inl (cB, 208, .inl (aN mk))), (r0, .inr (1, [.ref f0, .int (nI 3), .int (nI 0), .ref t0, .int (nI (0 + 2)), .int (nI (nmA tp 0 4 4 0 0))])), (t0, .inr (2, [.ref t1, .int (nI len)])), (t1, .inl (cB, 400, .inl (aB tp)))] := hD
    subst h_16
    refine lv_if_ne (tgt := 24) hx hb dR_walk_19 (by decide) (fun q => False.elim (absurd q (by decide))) (fun c_19 => ?_)
    refine lv_iconst (v := nI 0) hx hb dR_walk_22 (by decide) ?_
    subst hAe
    subst hQ
    exact W.zret (v := nI 0) hx hb hr (by decide) (fun t ht hW => ⟨⟨nI 0, (0 + 2, nmA tp 0 4 4 0 0, ty, cnt, mk), rfl, ⟨rfl, hm⟩, by rw [ht]; exact hP.sub [3, 4, 5, 0, 1, 2] rfl, hD.sub [3, 4, 5, 0, 1, 2] (by decide) rfl⟩, hS.F ht⟩) hS.2.2 dR_walk_23
  · have hs9 := dgF_fit hd1
    refine lv_aload_n hx hb dR_walk_0 rfl (lv_at hl 0 rfl) ?_
    refine lv_iconst (v := nI 0) hx hb dR_walk_1 (by decide) ?_
    refine va_put (D := (dC, dI)) (ci := 1) (v := .int (nI 0)) (ty := .int) (C := RR) (T := TR) (N := 6) hx hb hw inR tyR tyR_ok nmR hown hK hP hD hS 0 rfl rfl 1 (by decide) (hw _ w_fl_R_18) (fun _ h9 => h9) rfl (by decide +kernel) rfl rfl (Nat.le_of_ble_eq_true rfl) dR_walk_2 (fun H locs hP hD hS => ?_)
    have hP : va_P (dC, dI) vwCl [(r0, .inr (1, [.ref f0, .int (nI 0), .int fp, .ref t0, .int (nI nx), .int (nI lnb)])), (t0, .inr (2, [.ref t1, .int (nI len)])), (t1, .inl (cB, 400, .inl (aB tp))), (f0, .inr (0, [.int (nI ty), .ref f1, .ref f2])), (f1, .inl (cI, 16, .inl (aN cnt))), (f2, .inl (cB, 208, .inl (aN mk)))] H := hP
    have hD : va_D A [(r0, .inr (1, [.ref f0, .int (nI 0), .int fp, .ref t0, .int (nI nx), .int (nI lnb)])), (t0, .inr (2, [.ref t1, .int (nI len)])), (t1, .inl (cB, 400, .inl (aB tp))), (f0, .inr (0, [.int (nI ty), .ref f1, .ref f2])), (f1, .inl (cI, 16, .inl (aN cnt))), (f2, .inl (cB, 208, .inl (aN mk)))] := hD
    refine lv_aload_n hx hb dR_walk_5 rfl (lv_at hl 0 rfl) ?_
    refine lv_iconst (v := (-1)) hx hb dR_walk_6 (by decide) ?_
    refine va_put (D := (dC, dI)) (ci := 1) (v := .int (-1)) (ty := .int) (C := RR) (T := TR) (N := 6) hx hb hw inR tyR tyR_ok nmR hown hK hP hD hS 0 rfl rfl 2 (by decide) (hw _ w_fl_R_22) (fun _ h9 => h9) rfl (by decide +kernel) rfl rfl (Nat.le_of_ble_eq_true rfl) dR_walk_7 (fun H locs hP hD hS => ?_)
    have hP : va_P (dC, dI) vwCl [(r0, .inr (1, [.ref f0, .int (nI 0), .int (-1), .ref t0, .int (nI nx), .int (nI lnb)])), (t0, .inr (2, [.ref t1, .int (nI len)])), (t1, .inl (cB, 400, .inl (aB tp))), (f0, .inr (0, [.int (nI ty), .ref f1, .ref f2])), (f1, .inl (cI, 16, .inl (aN cnt))), (f2, .inl (cB, 208, .inl (aN mk)))] H := hP
    have hD : va_D A [(r0, .inr (1, [.ref f0, .int (nI 0), .int (-1), .ref t0, .int (nI nx), .int (nI lnb)])), (t0, .inr (2, [.ref t1, .int (nI len)])), (t1, .inl (cB, 400, .inl (aB tp))), (f0, .inr (0, [.int (nI ty), .ref f1, .ref f2])), (f1, .inl (cI, 16, .inl (aN cnt))), (f2, .inl (cB, 208, .inl (aN mk)))] := hD
    refine lv_aload_n hx hb dR_walk_10 rfl (lv_at hl 0 rfl) ?_
    refine lv_iconst (v := nI 0) hx hb dR_walk_11 (by decide) ?_
    refine va_put (D := (dC, dI)) (ci := 1) (v := .int (nI 0)) (ty := .int) (C := RR) (T := TR) (N := 6) hx hb hw inR tyR tyR_ok nmR hown hK hP hD hS 0 rfl rfl 4 (by decide) (hw _ w_fl_R_25) (fun _ h9 => h9) rfl (by decide +kernel) rfl rfl (Nat.le_of_ble_eq_true rfl) dR_walk_12 (fun H locs hP hD hS => ?_)
    have hP : va_P (dC, dI) vwCl [(r0, .inr (1, [.ref f0, .int (nI 0), .int (-1), .ref t0, .int (nI 0), .int (nI lnb)])), (t0, .inr (2, [.ref t1, .int (nI len)])), (t1, .inl (cB, 400, .inl (aB tp))), (f0, .inr (0, [.int (nI ty), .ref f1, .ref f2])), (f1, .inl (cI, 16, .inl (aN cnt))), (f2, .inl (cB, 208, .inl (aN mk)))] H := hP
    have hD : va_D A [(r0, .inr (1, [.ref f0, .int (nI 0), .int (-1), .ref t0, .int (nI 0), .int (nI lnb)])), (t0, .inr (2, [.ref t1, .int (nI len)])), (t1, .inl (cB, 400, .inl (aB tp))), (f0, .inr (0, [.int (nI ty), .ref f1, .ref f2])), (f1, .inl (cI, 16, .inl (aN cnt))), (f2, .inl (cB, 208, .inl (aN mk)))] := hD
    refine lv_aload_n hx hb dR_walk_15 rfl (lv_at hl 0 rfl) ?_
    have hPc := hP.sub (ws' := [(r0, .inr (1, [.ref f0, .int (nI 0), .int (-1), .ref t0, .int (nI 0), .int (nI lnb)])), (t0, .inr (2, [.ref t1, .int (nI len)])), (t1, .inl (cB, 400, .inl (aB tp))), (f0, .inr (0, [.int (nI ty), .ref f1, .ref f2])), (f1, .inl (cI, 16, .inl (aN cnt))), (f2, .inl (cB, 208, .inl (aN mk)))]) [0, 1, 2, 3, 4, 5] rfl
    have hDc := hD.sub (ws' := [(r0, .inr (1, [.ref f0, .int (nI 0), .int (-1), .ref t0, .int (nI 0), .int (nI lnb)])), (t0, .inr (2, [.ref t1, .int (nI len)])), (t1, .inl (cB, 400, .inl (aB tp))), (f0, .inr (0, [.int (nI ty), .ref f1, .ref f2])), (f1, .inl (cI, 16, .inl (aN cnt))), (f2, .inl (cB, 208, .inl (aN mk)))]) [0, 1, 2, 3, 4, 5] (by decide) rfl
    have hFc := va_free (wc := [(r0, .inr (1, [.ref f0, .int (nI 0), .int (-1), .ref t0, .int (nI 0), .int (nI lnb)])), (t0, .inr (2, [.ref t1, .int (nI len)])), (t1, .inl (cB, 400, .inl (aB tp))), (f0, .inr (0, [.int (nI ty), .ref f1, .ref f2])), (f1, .inl (cI, 16, .inl (aN cnt))), (f2, .inl (cB, 208, .inl (aN mk)))]) hD hS hA [0, 1, 2, 3, 4, 5] rfl
    refine zc_Mi (va_runV (As := []) (rest := []) ⟨hx, hb, hml, hown, hw⟩ (c_walkType_ok l dC dI r0 f0 0 (-1) t0 0 lnb t1 len cI cB tp f1 f2 ty cnt mk (by omega) (by omega) htp hd1 (isTy_t hty) H.size) (cwV 0 hw (gV w_ml_R_35 w_im_R_walkType w_se_R_walkType w_in_R w_co_R_walkType) rfl rfl rfl (by decide +kernel) ⟨Nat.le_of_ble_eq_true rfl, Nat.le_of_ble_eq_true rfl⟩) (zM_V hG hS hFc hPc hDc hK 0 rfl rfl) rfl rfl hl.1 rfl (lv_room (Nat.le_of_ble_eq_true rfl)) dR_walk_16 ⟨Nat.le_of_ble_eq_true rfl, Nat.le_of_ble_eq_true rfl⟩) hS hFc (fun r_3 H locs h_16 hP1 hD1 hk1 hS => ?_)
    obtain ⟨hP, hD⟩ := va_join (wr := []) (w1 := [(r0, .inr (1, [.ref f0, .int (nI 0), .int (-1), .ref t0, .int (nI (0 + 2)), .int (nI (nmA tp 0 4 4 0 0))])), (t0, .inr (2, [.ref t1, .int (nI len)])), (t1, .inl (cB, 400, .inl (aB tp))), (f0, .inr (0, [.int (nI (nmA tp 0 4 4 0 0)), .ref f1, .ref f2])), (f1, .inl (cI, 16, .inl (aN (zc cnt 16)))), (f2, .inl (cB, 208, .inl (aN mk)))]) hP hD [0, 1, 2, 3, 4, 5] [] rfl rfl (by decide) (by decide) hk1 hFc hP1 hD1
    have hP : va_P (dC, dI) vwCl [(r0, .inr (1, [.ref f0, .int (nI 0), .int (-1), .ref t0, .int (nI (0 + 2)), .int (nI (nmA tp 0 4 4 0 0))])), (t0, .inr (2, [.ref t1, .int (nI len)])), (t1, .inl (cB, 400, .inl (aB tp))), (f0, .inr (0, [.int (nI (nmA tp 0 4 4 0 0)), .ref f1, .ref f2])), (f1, .inl (cI, 16, .inl (aN (zc cnt 16)))), (f2, .inl (cB, 208, .inl (aN mk)))] H := hP
    have hD : va_D A [(r0, .inr (1, [.ref f0, .int (nI 0), .int (-1), .ref t0, .int (nI (0 + 2)), .int (nI (nmA tp 0 4 4 0 0))])), (t0, .inr (2, [.ref t1, .int (nI len)])), (t1, .inl (cB, 400, .inl (aB tp))), (f0, .inr (0, [.int (nI (nmA tp 0 4 4 0 0)), .ref f1, .ref f2])), (f1, .inl (cI, 16, .inl (aN (zc cnt 16)))), (f2, .inl (cB, 208, .inl (aN mk)))] := hD
    subst h_16
    refine lv_if_ne (tgt := 24) hx hb dR_walk_19 (by decide) (fun c_19 => ?_) (fun q => False.elim (absurd q (by decide)))
    have hP : va_P (dC, dI) vwCl [(r0, .inr (1, [.ref f0, .int (nI 0), .int (-1), .ref t0, .int (nI 2), .int (nI (nmA tp 0 4 4 0 0))])), (t0, .inr (2, [.ref t1, .int (nI len)])), (t1, .inl (cB, 400, .inl (aB tp))), (f0, .inr (0, [.int (nI (nmA tp 0 4 4 0 0)), .ref f1, .ref f2])), (f1, .inl (cI, 16, .inl (aN (zc cnt 16)))), (f2, .inl (cB, 208, .inl (aN mk)))] H := hP
    have hD : va_D A [(r0, .inr (1, [.ref f0, .int (nI 0), .int (-1), .ref t0, .int (nI 2), .int (nI (nmA tp 0 4 4 0 0))])), (t0, .inr (2, [.ref t1, .int (nI len)])), (t1, .inl (cB, 400, .inl (aB tp))), (f0, .inr (0, [.int (nI (nmA tp 0 4 4 0 0)), .ref f1, .ref f2])), (f1, .inl (cI, 16, .inl (aN (zc cnt 16)))), (f2, .inl (cB, 208, .inl (aN mk)))] := hD
    refine lv_aload_n hx hb dR_walk_24 rfl (lv_at hl 0 rfl) ?_
    refine va_get (D := (dC, dI)) (ci := 1) (v := .int (nI 2)) (C := RR) (T := TR) (N := 6) hx hb hw inR hown hK hP 0 rfl rfl 4 (by decide) (hw _ w_fl_R_25) (fun _ h9 => h9) rfl dR_walk_25 ?_
    refine lv_istore_n (lv' := [(1, .int (nI 2)), (0, .ref r0)]) hx hb dR_walk_28 rfl hl (by decide) rfl (fun ls hl => ?_)
    refine lv_aload_n hx hb dR_walk_29 rfl (lv_at hl 1 rfl) ?_
    have hPc := hP.sub (ws' := [(r0, .inr (1, [.ref f0, .int (nI 0), .int (-1), .ref t0, .int (nI 2), .int (nI (nmA tp 0 4 4 0 0))])), (t0, .inr (2, [.ref t1, .int (nI len)])), (t1, .inl (cB, 400, .inl (aB tp)))]) [0, 1, 2] rfl
    have hDc := hD.sub (ws' := [(r0, .inr (1, [.ref f0, .int (nI 0), .int (-1), .ref t0, .int (nI 2), .int (nI (nmA tp 0 4 4 0 0))])), (t0, .inr (2, [.ref t1, .int (nI len)])), (t1, .inl (cB, 400, .inl (aB tp)))]) [0, 1, 2] (by decide) rfl
    have hFc := va_free (wc := [(r0, .inr (1, [.ref f0, .int (nI 0), .int (-1), .ref t0, .int (nI 2), .int (nI (nmA tp 0 4 4 0 0))])), (t0, .inr (2, [.ref t1, .int (nI len)])), (t1, .inl (cB, 400, .inl (aB tp)))]) hD hS hA [0, 1, 2] rfl
    refine zc_Si (va_runV (As := []) (rest := []) ⟨hx, hb, hml, hown, hw⟩ (c_walkMaps_no l dC dI r0 f0 0 (-1) t0 2 (nmA tp 0 4 4 0 0) t1 len cI cB tp k2 p2 (by omega) (by omega) htp hmp H.size) (cwV 0 hw (gV w_ml_R_39 w_im_R_walkMaps w_se_R_walkMaps w_in_R w_co_R_walkMaps) rfl rfl rfl (by decide +kernel) ⟨Nat.le_of_ble_eq_true rfl, Nat.le_of_ble_eq_true rfl⟩) (zM_V hG hS hFc hPc hDc hK 0 rfl rfl) rfl rfl hl.1 rfl (lv_room (Nat.le_of_ble_eq_true rfl)) dR_walk_30 ⟨Nat.le_of_ble_eq_true rfl, Nat.le_of_ble_eq_true rfl⟩) hS hFc (fun r_4 u_30 H locs h_30 hP1 hD1 hk1 hS => ?_)
    obtain ⟨hP, hD⟩ := va_join (wr := [(f0, .inr (0, [.int (nI (nmA tp 0 4 4 0 0)), .ref f1, .ref f2])), (f1, .inl (cI, 16, .inl (aN (zc cnt 16)))), (f2, .inl (cB, 208, .inl (aN mk)))]) (w1 := [(r0, .inr (1, [.ref f0, .int (nI k2), .int (nI p2), .ref t0, .int (nI u_30), .int (nI (nmA tp 0 4 4 0 0))])), (t0, .inr (2, [.ref t1, .int (nI len)])), (t1, .inl (cB, 400, .inl (aB tp)))]) hP hD [0, 1, 2] [3, 4, 5] rfl rfl (by decide) (by decide) hk1 hFc hP1 hD1
    have hP : va_P (dC, dI) vwCl [(f0, .inr (0, [.int (nI (nmA tp 0 4 4 0 0)), .ref f1, .ref f2])), (f1, .inl (cI, 16, .inl (aN (zc cnt 16)))), (f2, .inl (cB, 208, .inl (aN mk))), (r0, .inr (1, [.ref f0, .int (nI k2), .int (nI p2), .ref t0, .int (nI u_30), .int (nI (nmA tp 0 4 4 0 0))])), (t0, .inr (2, [.ref t1, .int (nI len)])), (t1, .inl (cB, 400, .inl (aB tp)))] H := hP
    have hD : va_D A [(f0, .inr (0, [.int (nI (nmA tp 0 4 4 0 0)), .ref f1, .ref f2])), (f1, .inl (cI, 16, .inl (aN (zc cnt 16)))), (f2, .inl (cB, 208, .inl (aN mk))), (r0, .inr (1, [.ref f0, .int (nI k2), .int (nI p2), .ref t0, .int (nI u_30), .int (nI (nmA tp 0 4 4 0 0))])), (t0, .inr (2, [.ref t1, .int (nI len)])), (t1, .inl (cB, 400, .inl (aB tp)))] := hD
    subst h_30
    refine lv_if_ne (tgt := 38) hx hb dR_walk_33 (by decide) (fun q => False.elim (absurd q (by decide))) (fun c_33 => ?_)
    refine lv_iconst (v := nI 0) hx hb dR_walk_36 (by decide) ?_
    subst hAe
    subst hQ
    exact W.zret (v := nI 0) hx hb hr (by decide) (fun t ht hW => ⟨⟨nI 0, (u_30, (nmA tp 0 4 4 0 0), nmA tp 0 4 4 0 0, zc cnt 16, mk), rfl, ⟨rfl, hm⟩, by rw [ht]; exact hP.sub [3, 4, 5, 0, 1, 2] rfl, hD.sub [3, 4, 5, 0, 1, 2] (by decide) rfl⟩, hS.F ht⟩) hS.2.2 dR_walk_37
  · have hs9 := dgF_fit hd1
    refine lv_aload_n hx hb dR_walk_0 rfl (lv_at hl 0 rfl) ?_
    refine lv_iconst (v := nI 0) hx hb dR_walk_1 (by decide) ?_
    refine va_put (D := (dC, dI)) (ci := 1) (v := .int (nI 0)) (ty := .int) (C := RR) (T := TR) (N := 6) hx hb hw inR tyR tyR_ok nmR hown hK hP hD hS 0 rfl rfl 1 (by decide) (hw _ w_fl_R_18) (fun _ h9 => h9) rfl (by decide +kernel) rfl rfl (Nat.le_of_ble_eq_true rfl) dR_walk_2 (fun H locs hP hD hS => ?_)
    have hP : va_P (dC, dI) vwCl [(r0, .inr (1, [.ref f0, .int (nI 0), .int fp, .ref t0, .int (nI nx), .int (nI lnb)])), (t0, .inr (2, [.ref t1, .int (nI len)])), (t1, .inl (cB, 400, .inl (aB tp))), (f0, .inr (0, [.int (nI ty), .ref f1, .ref f2])), (f1, .inl (cI, 16, .inl (aN cnt))), (f2, .inl (cB, 208, .inl (aN mk)))] H := hP
    have hD : va_D A [(r0, .inr (1, [.ref f0, .int (nI 0), .int fp, .ref t0, .int (nI nx), .int (nI lnb)])), (t0, .inr (2, [.ref t1, .int (nI len)])), (t1, .inl (cB, 400, .inl (aB tp))), (f0, .inr (0, [.int (nI ty), .ref f1, .ref f2])), (f1, .inl (cI, 16, .inl (aN cnt))), (f2, .inl (cB, 208, .inl (aN mk)))] := hD
    refine lv_aload_n hx hb dR_walk_5 rfl (lv_at hl 0 rfl) ?_
    refine lv_iconst (v := (-1)) hx hb dR_walk_6 (by decide) ?_
    refine va_put (D := (dC, dI)) (ci := 1) (v := .int (-1)) (ty := .int) (C := RR) (T := TR) (N := 6) hx hb hw inR tyR tyR_ok nmR hown hK hP hD hS 0 rfl rfl 2 (by decide) (hw _ w_fl_R_22) (fun _ h9 => h9) rfl (by decide +kernel) rfl rfl (Nat.le_of_ble_eq_true rfl) dR_walk_7 (fun H locs hP hD hS => ?_)
    have hP : va_P (dC, dI) vwCl [(r0, .inr (1, [.ref f0, .int (nI 0), .int (-1), .ref t0, .int (nI nx), .int (nI lnb)])), (t0, .inr (2, [.ref t1, .int (nI len)])), (t1, .inl (cB, 400, .inl (aB tp))), (f0, .inr (0, [.int (nI ty), .ref f1, .ref f2])), (f1, .inl (cI, 16, .inl (aN cnt))), (f2, .inl (cB, 208, .inl (aN mk)))] H := hP
    have hD : va_D A [(r0, .inr (1, [.ref f0, .int (nI 0), .int (-1), .ref t0, .int (nI nx), .int (nI lnb)])), (t0, .inr (2, [.ref t1, .int (nI len)])), (t1, .inl (cB, 400, .inl (aB tp))), (f0, .inr (0, [.int (nI ty), .ref f1, .ref f2])), (f1, .inl (cI, 16, .inl (aN cnt))), (f2, .inl (cB, 208, .inl (aN mk)))] := hD
    refine lv_aload_n hx hb dR_walk_10 rfl (lv_at hl 0 rfl) ?_
    refine lv_iconst (v := nI 0) hx hb dR_walk_11 (by decide) ?_
    refine va_put (D := (dC, dI)) (ci := 1) (v := .int (nI 0)) (ty := .int) (C := RR) (T := TR) (N := 6) hx hb hw inR tyR tyR_ok nmR hown hK hP hD hS 0 rfl rfl 4 (by decide) (hw _ w_fl_R_25) (fun _ h9 => h9) rfl (by decide +kernel) rfl rfl (Nat.le_of_ble_eq_true rfl) dR_walk_12 (fun H locs hP hD hS => ?_)
    have hP : va_P (dC, dI) vwCl [(r0, .inr (1, [.ref f0, .int (nI 0), .int (-1), .ref t0, .int (nI 0), .int (nI lnb)])), (t0, .inr (2, [.ref t1, .int (nI len)])), (t1, .inl (cB, 400, .inl (aB tp))), (f0, .inr (0, [.int (nI ty), .ref f1, .ref f2])), (f1, .inl (cI, 16, .inl (aN cnt))), (f2, .inl (cB, 208, .inl (aN mk)))] H := hP
    have hD : va_D A [(r0, .inr (1, [.ref f0, .int (nI 0), .int (-1), .ref t0, .int (nI 0), .int (nI lnb)])), (t0, .inr (2, [.ref t1, .int (nI len)])), (t1, .inl (cB, 400, .inl (aB tp))), (f0, .inr (0, [.int (nI ty), .ref f1, .ref f2])), (f1, .inl (cI, 16, .inl (aN cnt))), (f2, .inl (cB, 208, .inl (aN mk)))] := hD
    refine lv_aload_n hx hb dR_walk_15 rfl (lv_at hl 0 rfl) ?_
    have hPc := hP.sub (ws' := [(r0, .inr (1, [.ref f0, .int (nI 0), .int (-1), .ref t0, .int (nI 0), .int (nI lnb)])), (t0, .inr (2, [.ref t1, .int (nI len)])), (t1, .inl (cB, 400, .inl (aB tp))), (f0, .inr (0, [.int (nI ty), .ref f1, .ref f2])), (f1, .inl (cI, 16, .inl (aN cnt))), (f2, .inl (cB, 208, .inl (aN mk)))]) [0, 1, 2, 3, 4, 5] rfl
    have hDc := hD.sub (ws' := [(r0, .inr (1, [.ref f0, .int (nI 0), .int (-1), .ref t0, .int (nI 0), .int (nI lnb)])), (t0, .inr (2, [.ref t1, .int (nI len)])), (t1, .inl (cB, 400, .inl (aB tp))), (f0, .inr (0, [.int (nI ty), .ref f1, .ref f2])), (f1, .inl (cI, 16, .inl (aN cnt))), (f2, .inl (cB, 208, .inl (aN mk)))]) [0, 1, 2, 3, 4, 5] (by decide) rfl
    have hFc := va_free (wc := [(r0, .inr (1, [.ref f0, .int (nI 0), .int (-1), .ref t0, .int (nI 0), .int (nI lnb)])), (t0, .inr (2, [.ref t1, .int (nI len)])), (t1, .inl (cB, 400, .inl (aB tp))), (f0, .inr (0, [.int (nI ty), .ref f1, .ref f2])), (f1, .inl (cI, 16, .inl (aN cnt))), (f2, .inl (cB, 208, .inl (aN mk)))]) hD hS hA [0, 1, 2, 3, 4, 5] rfl
    refine zc_Mi (va_runV (As := []) (rest := []) ⟨hx, hb, hml, hown, hw⟩ (c_walkType_ok l dC dI r0 f0 0 (-1) t0 0 lnb t1 len cI cB tp f1 f2 ty cnt mk (by omega) (by omega) htp hd1 (isTy_t hty) H.size) (cwV 0 hw (gV w_ml_R_35 w_im_R_walkType w_se_R_walkType w_in_R w_co_R_walkType) rfl rfl rfl (by decide +kernel) ⟨Nat.le_of_ble_eq_true rfl, Nat.le_of_ble_eq_true rfl⟩) (zM_V hG hS hFc hPc hDc hK 0 rfl rfl) rfl rfl hl.1 rfl (lv_room (Nat.le_of_ble_eq_true rfl)) dR_walk_16 ⟨Nat.le_of_ble_eq_true rfl, Nat.le_of_ble_eq_true rfl⟩) hS hFc (fun r_5 H locs h_16 hP1 hD1 hk1 hS => ?_)
    obtain ⟨hP, hD⟩ := va_join (wr := []) (w1 := [(r0, .inr (1, [.ref f0, .int (nI 0), .int (-1), .ref t0, .int (nI (0 + 2)), .int (nI (nmA tp 0 4 4 0 0))])), (t0, .inr (2, [.ref t1, .int (nI len)])), (t1, .inl (cB, 400, .inl (aB tp))), (f0, .inr (0, [.int (nI (nmA tp 0 4 4 0 0)), .ref f1, .ref f2])), (f1, .inl (cI, 16, .inl (aN (zc cnt 16)))), (f2, .inl (cB, 208, .inl (aN mk)))]) hP hD [0, 1, 2, 3, 4, 5] [] rfl rfl (by decide) (by decide) hk1 hFc hP1 hD1
    have hP : va_P (dC, dI) vwCl [(r0, .inr (1, [.ref f0, .int (nI 0), .int (-1), .ref t0, .int (nI (0 + 2)), .int (nI (nmA tp 0 4 4 0 0))])), (t0, .inr (2, [.ref t1, .int (nI len)])), (t1, .inl (cB, 400, .inl (aB tp))), (f0, .inr (0, [.int (nI (nmA tp 0 4 4 0 0)), .ref f1, .ref f2])), (f1, .inl (cI, 16, .inl (aN (zc cnt 16)))), (f2, .inl (cB, 208, .inl (aN mk)))] H := hP
    have hD : va_D A [(r0, .inr (1, [.ref f0, .int (nI 0), .int (-1), .ref t0, .int (nI (0 + 2)), .int (nI (nmA tp 0 4 4 0 0))])), (t0, .inr (2, [.ref t1, .int (nI len)])), (t1, .inl (cB, 400, .inl (aB tp))), (f0, .inr (0, [.int (nI (nmA tp 0 4 4 0 0)), .ref f1, .ref f2])), (f1, .inl (cI, 16, .inl (aN (zc cnt 16)))), (f2, .inl (cB, 208, .inl (aN mk)))] := hD
    subst h_16
    refine lv_if_ne (tgt := 24) hx hb dR_walk_19 (by decide) (fun c_19 => ?_) (fun q => False.elim (absurd q (by decide)))
    have hP : va_P (dC, dI) vwCl [(r0, .inr (1, [.ref f0, .int (nI 0), .int (-1), .ref t0, .int (nI 2), .int (nI (nmA tp 0 4 4 0 0))])), (t0, .inr (2, [.ref t1, .int (nI len)])), (t1, .inl (cB, 400, .inl (aB tp))), (f0, .inr (0, [.int (nI (nmA tp 0 4 4 0 0)), .ref f1, .ref f2])), (f1, .inl (cI, 16, .inl (aN (zc cnt 16)))), (f2, .inl (cB, 208, .inl (aN mk)))] H := hP
    have hD : va_D A [(r0, .inr (1, [.ref f0, .int (nI 0), .int (-1), .ref t0, .int (nI 2), .int (nI (nmA tp 0 4 4 0 0))])), (t0, .inr (2, [.ref t1, .int (nI len)])), (t1, .inl (cB, 400, .inl (aB tp))), (f0, .inr (0, [.int (nI (nmA tp 0 4 4 0 0)), .ref f1, .ref f2])), (f1, .inl (cI, 16, .inl (aN (zc cnt 16)))), (f2, .inl (cB, 208, .inl (aN mk)))] := hD
    have hmf := mapsF_fit hmp
    refine lv_aload_n hx hb dR_walk_24 rfl (lv_at hl 0 rfl) ?_
    refine va_get (D := (dC, dI)) (ci := 1) (v := .int (nI 2)) (C := RR) (T := TR) (N := 6) hx hb hw inR hown hK hP 0 rfl rfl 4 (by decide) (hw _ w_fl_R_25) (fun _ h9 => h9) rfl dR_walk_25 ?_
    refine lv_istore_n (lv' := [(1, .int (nI 2)), (0, .ref r0)]) hx hb dR_walk_28 rfl hl (by decide) rfl (fun ls hl => ?_)
    refine lv_aload_n hx hb dR_walk_29 rfl (lv_at hl 1 rfl) ?_
    have hPc := hP.sub (ws' := [(r0, .inr (1, [.ref f0, .int (nI 0), .int (-1), .ref t0, .int (nI 2), .int (nI (nmA tp 0 4 4 0 0))])), (t0, .inr (2, [.ref t1, .int (nI len)])), (t1, .inl (cB, 400, .inl (aB tp)))]) [0, 1, 2] rfl
    have hDc := hD.sub (ws' := [(r0, .inr (1, [.ref f0, .int (nI 0), .int (-1), .ref t0, .int (nI 2), .int (nI (nmA tp 0 4 4 0 0))])), (t0, .inr (2, [.ref t1, .int (nI len)])), (t1, .inl (cB, 400, .inl (aB tp)))]) [0, 1, 2] (by decide) rfl
    have hFc := va_free (wc := [(r0, .inr (1, [.ref f0, .int (nI 0), .int (-1), .ref t0, .int (nI 2), .int (nI (nmA tp 0 4 4 0 0))])), (t0, .inr (2, [.ref t1, .int (nI len)])), (t1, .inl (cB, 400, .inl (aB tp)))]) hD hS hA [0, 1, 2] rfl
    refine zc_Mi (va_runV (As := []) (rest := []) ⟨hx, hb, hml, hown, hw⟩ (c_walkMaps_ok l dC dI r0 f0 0 (-1) t0 2 (nmA tp 0 4 4 0 0) t1 len cI cB tp (by omega) (by omega) htp hmp H.size) (cwV 0 hw (gV w_ml_R_39 w_im_R_walkMaps w_se_R_walkMaps w_in_R w_co_R_walkMaps) rfl rfl rfl (by decide +kernel) ⟨Nat.le_of_ble_eq_true rfl, Nat.le_of_ble_eq_true rfl⟩) (zM_V hG hS hFc hPc hDc hK 0 rfl rfl) rfl rfl hl.1 rfl (lv_room (Nat.le_of_ble_eq_true rfl)) dR_walk_30 ⟨Nat.le_of_ble_eq_true rfl, Nat.le_of_ble_eq_true rfl⟩) hS hFc (fun r_6 H locs h_30 hP1 hD1 hk1 hS => ?_)
    obtain ⟨hP, hD⟩ := va_join (wr := [(f0, .inr (0, [.int (nI (nmA tp 0 4 4 0 0)), .ref f1, .ref f2])), (f1, .inl (cI, 16, .inl (aN (zc cnt 16)))), (f2, .inl (cB, 208, .inl (aN mk)))]) (w1 := [(r0, .inr (1, [.ref f0, .int (nI 0), .int (-1), .ref t0, .int (nI (2 + wid tp 2)), .int (nI (nmA tp 0 4 4 0 0))])), (t0, .inr (2, [.ref t1, .int (nI len)])), (t1, .inl (cB, 400, .inl (aB tp)))]) hP hD [0, 1, 2] [3, 4, 5] rfl rfl (by decide) (by decide) hk1 hFc hP1 hD1
    have hP : va_P (dC, dI) vwCl [(f0, .inr (0, [.int (nI (nmA tp 0 4 4 0 0)), .ref f1, .ref f2])), (f1, .inl (cI, 16, .inl (aN (zc cnt 16)))), (f2, .inl (cB, 208, .inl (aN mk))), (r0, .inr (1, [.ref f0, .int (nI 0), .int (-1), .ref t0, .int (nI (2 + wid tp 2)), .int (nI (nmA tp 0 4 4 0 0))])), (t0, .inr (2, [.ref t1, .int (nI len)])), (t1, .inl (cB, 400, .inl (aB tp)))] H := hP
    have hD : va_D A [(f0, .inr (0, [.int (nI (nmA tp 0 4 4 0 0)), .ref f1, .ref f2])), (f1, .inl (cI, 16, .inl (aN (zc cnt 16)))), (f2, .inl (cB, 208, .inl (aN mk))), (r0, .inr (1, [.ref f0, .int (nI 0), .int (-1), .ref t0, .int (nI (2 + wid tp 2)), .int (nI (nmA tp 0 4 4 0 0))])), (t0, .inr (2, [.ref t1, .int (nI len)])), (t1, .inl (cB, 400, .inl (aB tp)))] := hD
    subst h_30
    refine lv_if_ne (tgt := 38) hx hb dR_walk_33 (by decide) (fun c_33 => ?_) (fun q => False.elim (absurd q (by decide)))
    refine lv_aload_n hx hb dR_walk_38 rfl (lv_at hl 1 rfl) ?_
    refine va_get (D := (dC, dI)) (ci := 1) (v := .int (nI (2 + wid tp 2))) (C := RR) (T := TR) (N := 6) hx hb hw inR hown hK hP 3 rfl rfl 4 (by decide) (hw _ w_fl_R_25) (fun _ h9 => h9) rfl dR_walk_39 ?_
    refine lv_istore_n (lv' := [(2, .int (nI (2 + wid tp 2))), (1, .int (nI 2)), (0, .ref r0)]) hx hb dR_walk_42 rfl hl (by decide) rfl (fun ls hl => ?_)
    refine lv_iconst (v := nI 0) hx hb dR_walk_43 (by decide) ?_
    refine lv_istore_n (lv' := [(3, .int (nI 0)), (2, .int (nI (2 + wid tp 2))), (1, .int (nI 2)), (0, .ref r0)]) hx hb dR_walk_44 rfl hl (by decide) rfl (fun ls hl => ?_)
    have lp_45 : ∀ (fu : Nat) (sl : Nat) (q : Nat) (g9 : Nat) (c9 : Nat → Nat) (m9 : Nat → Nat) (hsl : sl ≤ 16) (hq : q ≤ len) (hi : wkF tp len (wid tp 2) (16 - sl) sl q = some (k2, p2)) (hm9 : ∀ j, m9 j < 128) (hms : 16 - sl < fu) (H : Heap) (locs : List Loc) (ls : Array Slot), lv_has ls 5 [(0, .ref r0), (1, .int (nI 2)), (2, .int (nI (2 + wid tp 2))), (3, .int (nI sl))] → va_P (dC, dI) vwCl [(f0, .inr (0, [.int (nI (nmA tp 0 4 4 0 0)), .ref f1, .ref f2])), (f1, .inl (cI, 16, .inl (aN c9))), (f2, .inl (cB, 208, .inl (aN m9))), (r0, .inr (1, [.ref f0, .int (nI 0), .int (-1), .ref t0, .int (nI q), .int (nI g9)])), (t0, .inr (2, [.ref t1, .int (nI len)])), (t1, .inl (cB, 400, .inl (aB tp)))] H → va_D A [(f0, .inr (0, [.int (nI (nmA tp 0 4 4 0 0)), .ref f1, .ref f2])), (f1, .inl (cI, 16, .inl (aN c9))), (f2, .inl (cB, 208, .inl (aN m9))), (r0, .inr (1, [.ref f0, .int (nI 0), .int (-1), .ref t0, .int (nI q), .int (nI g9)])), (t0, .inr (2, [.ref t1, .int (nI len)])), (t1, .inl (cB, 400, .inl (aB tp)))] → va_S A s.heap H locs → W p l e rm_c_walk_no s m ([.ref r0] : List Value).toArray below meth c H locs 0 0 Q (F0 m 45 ls []) := by
      intro fu
      induction fu with
      | zero => intro sl q g9 c9 m9 hsl hq hi hm9 hms; exact absurd hms (Nat.not_lt_zero _)
      | succ fu ih45 =>
        intro sl q g9 c9 m9 hsl hq hi hm9 hms H locs ls hl hP hD hS
        refine lv_iload_n hx hb dR_walk_45 rfl (lv_at hl 3 rfl) ?_
        refine lv_bipush (v := nI 16) hx hb dR_walk_46 (by decide) ?_
        refine zi_ge (tgt := 106) hx hb (by omega) (by omega) dR_walk_48 (by decide) (fun c_48 => ?_) (fun c_48 => ?_)
        · have hi9 := hi
          rw [show 16 - sl = 0 by omega] at hi9
          have hql : q ≠ len := by
            intro h9; unfold wkF at hi9; rw [if_pos h9] at hi9; cases hi9
          unfold wkF at hi9
          rw [if_neg hql] at hi9
          obtain ⟨rfl, rfl⟩ : 7 = k2 ∧ q = p2 := by injection hi9 with h9; injection h9 with h1 h2; exact ⟨h1, h2⟩
          refine lv_aload_n hx hb dR_walk_106 rfl (lv_at hl 0 rfl) ?_
          refine va_get (D := (dC, dI)) (ci := 1) (v := .int (nI q)) (C := RR) (T := TR) (N := 6) hx hb hw inR hown hK hP 3 rfl rfl 4 (by decide) (hw _ w_fl_R_25) (fun _ h9 => h9) rfl dR_walk_107 ?_
          refine lv_aload_n hx hb dR_walk_110 rfl (lv_at hl 0 rfl) ?_
          refine va_get (D := (dC, dI)) (ci := 1) (v := .ref t0) (C := RR) (T := TR) (N := 6) hx hb hw inR hown hK hP 3 rfl rfl 3 (by decide) (hw _ w_fl_R_31) (fun _ h9 => h9) rfl dR_walk_111 ?_
          refine va_get (D := (dC, dI)) (ci := 2) (v := .int (nI len)) (C := RT) (T := TT) (N := 2) hx hb hw inT hown hK hP 4 rfl rfl 1 (by decide) (hw _ w_fl_R_62) (fun _ h9 => h9) rfl dR_walk_114 ?_
          refine zi_eq (tgt := 133) hx hb (by omega) (by omega) dR_walk_117 (by decide) (fun q => False.elim ((hql q))) (fun c_117 => ?_)
          refine lv_aload_n hx hb dR_walk_120 rfl (lv_at hl 0 rfl) ?_
          refine lv_bipush (v := nI 7) hx hb dR_walk_121 (by decide) ?_
          refine lv_aload_n hx hb dR_walk_123 rfl (lv_at hl 0 rfl) ?_
          refine va_get (D := (dC, dI)) (ci := 1) (v := .int (nI q)) (C := RR) (T := TR) (N := 6) hx hb hw inR hown hK hP 3 rfl rfl 4 (by decide) (hw _ w_fl_R_25) (fun _ h9 => h9) rfl dR_walk_124 ?_
          have hPc := hP.sub (ws' := [(r0, .inr (1, [.ref f0, .int (nI 0), .int (-1), .ref t0, .int (nI q), .int (nI g9)]))]) [3] rfl
          have hDc := hD.sub (ws' := [(r0, .inr (1, [.ref f0, .int (nI 0), .int (-1), .ref t0, .int (nI q), .int (nI g9)]))]) [3] (by decide) rfl
          have hFc := va_free (wc := [(r0, .inr (1, [.ref f0, .int (nI 0), .int (-1), .ref t0, .int (nI q), .int (nI g9)]))]) hD hS hA [3] rfl
          refine zc_Mi (va_runV (As := [.int (nI 7), .int (nI q)]) (rest := []) ⟨hx, hb, hml, hown, hw⟩ (c_R_fail l dC dI r0 f0 0 (-1) t0 q g9 cI cB 7 (nI q) H.size) (cwV 2 hw (gV w_ml_R_65 w_im_R_fail w_se_R_fail w_in_R w_co_R_fail) rfl rfl rfl (by decide +kernel) ⟨Nat.le_of_ble_eq_true rfl, Nat.le_of_ble_eq_true rfl⟩) (zM_V hG hS hFc hPc hDc hK 0 rfl rfl) rfl rfl hl.1 rfl (lv_room (Nat.le_of_ble_eq_true rfl)) dR_walk_127 ⟨Nat.le_of_ble_eq_true rfl, Nat.le_of_ble_eq_true rfl⟩) hS hFc (fun r_7 H locs h_127 hP1 hD1 hk1 hS => ?_)
          obtain ⟨hP, hD⟩ := va_join (wr := [(f0, .inr (0, [.int (nI (nmA tp 0 4 4 0 0)), .ref f1, .ref f2])), (f1, .inl (cI, 16, .inl (aN c9))), (f2, .inl (cB, 208, .inl (aN m9))), (t0, .inr (2, [.ref t1, .int (nI len)])), (t1, .inl (cB, 400, .inl (aB tp)))]) (w1 := [(r0, .inr (1, [.ref f0, .int (nI 7), .int (nI q), .ref t0, .int (nI q), .int (nI g9)]))]) hP hD [3] [0, 1, 2, 4, 5] rfl rfl (by decide) (by decide) hk1 hFc hP1 hD1
          have hP : va_P (dC, dI) vwCl [(f0, .inr (0, [.int (nI (nmA tp 0 4 4 0 0)), .ref f1, .ref f2])), (f1, .inl (cI, 16, .inl (aN c9))), (f2, .inl (cB, 208, .inl (aN m9))), (t0, .inr (2, [.ref t1, .int (nI len)])), (t1, .inl (cB, 400, .inl (aB tp))), (r0, .inr (1, [.ref f0, .int (nI 7), .int (nI q), .ref t0, .int (nI q), .int (nI g9)]))] H := hP
          have hD : va_D A [(f0, .inr (0, [.int (nI (nmA tp 0 4 4 0 0)), .ref f1, .ref f2])), (f1, .inl (cI, 16, .inl (aN c9))), (f2, .inl (cB, 208, .inl (aN m9))), (t0, .inr (2, [.ref t1, .int (nI len)])), (t1, .inl (cB, 400, .inl (aB tp))), (r0, .inr (1, [.ref f0, .int (nI 7), .int (nI q), .ref t0, .int (nI q), .int (nI g9)]))] := hD
          subst h_127
          refine lv_if_eq (tgt := 137) hx hb dR_walk_130 (by decide) (fun c_130 => ?_) (fun q => False.elim (absurd q (by decide)))
          refine lv_iconst (v := nI 0) hx hb dR_walk_137 (by decide) ?_
          subst hAe
          subst hQ
          exact W.zret (v := nI 0) hx hb hr (by decide) (fun t ht hW => ⟨⟨nI 0, (q, g9, nmA tp 0 4 4 0 0, c9, m9), rfl, ⟨rfl, hm9⟩, by rw [ht]; exact hP.sub [5, 3, 4, 0, 1, 2] rfl, hD.sub [5, 3, 4, 0, 1, 2] (by decide) rfl⟩, hS.F ht⟩) hS.2.2 dR_walk_138
        · have hfi := fFI_b sl (by omega)
          have hwd := wid_le tp 2
          have ht9 := htp (2 + (fFI sl - 1) / 8)
          refine lv_iload_n hx hb dR_walk_51 rfl (lv_at hl 1 rfl) ?_
          refine va_getsN hx hb zfFI hS hown (va_Nw.use rfl (hG.nf (RR, 42, "FIELDS") (List.mem_of_getElem? (i := 7) rfl))) (fun _ h9 => h9) dR_walk_52 ?_
          refine lv_iload_n hx hb dR_walk_55 rfl (lv_at hl 3 rfl) ?_
          refine za_tab hx hb afFI hS (by omega) (by decide) dR_walk_56 ?_
          refine zc_Ri (va_runSN (As := [.int (nI (fFI sl))]) (rest := [.int (nI 2)]) ⟨hx, hb, hml, hown, hw⟩ (c_C_mapByte l dC dI cI cB (fFI sl) (by omega) (by omega) H) ⟨va_cnB 1 hw (gC w_co_C_mapByte) rfl rfl rfl (hG.nm (RR, 46, yC_mapByte) (List.mem_of_getElem? (i := 7) rfl)) (hw _ w_in_C) (by decide +kernel) ⟨Nat.le_of_ble_eq_true rfl, Nat.le_of_ble_eq_true rfl⟩, hw _ w_st_C_mapByte, trivial⟩ (zR_S hG hS (hP.sub (ws' := []) [] rfl) hK) rfl rfl hl.1 rfl (lv_room (Nat.le_of_ble_eq_true rfl)) dR_walk_57 ⟨Nat.le_of_ble_eq_true rfl, Nat.le_of_ble_eq_true rfl⟩) hS (fun r_8 locs h_57 hS => ?_)
          subst h_57
          refine zi_add hx hb dR_walk_60 ?_
          refine lv_istore (lv' := [(4, .int (nI (2 + (((fFI sl) - 1) / 8)))), (0, .ref r0), (1, .int (nI 2)), (2, .int (nI (2 + wid tp 2))), (3, .int (nI sl))]) hx hb dR_walk_61 hl (by decide) rfl (fun ls hl => ?_)
          refine lv_iload hx hb dR_walk_63 (lv_at hl 0 rfl) ?_
          refine lv_iload_n hx hb dR_walk_65 rfl (lv_at hl 3 rfl) ?_
          refine zi_ge (tgt := 100) hx hb (by omega) (by omega) dR_walk_66 (by decide) (fun c_66 => ?_) (fun c_66 => ?_)
          · have hp9 : prs tp (wid tp 2) sl = false := decide_eq_false (fun h => by first | exact absurd h.1 (Nat.not_lt.mpr c_66) | exact h.2 c_87)
            have hi2 := hi
            rw [show 16 - sl = 16 - (sl + 1) + 1 by omega] at hi2
            rw [wkF_out hp9] at hi2
            have hfit := hq
            have hm2 := hm9
            refine lv_iinc (v := nI (sl + 1)) (lv' := [(3, .int (nI (sl + 1))), (4, .int (nI (2 + (((fFI sl) - 1) / 8)))), (0, .ref r0), (1, .int (nI 2)), (2, .int (nI (2 + wid tp 2)))]) hx hb dR_walk_100 hl (k := 4) rfl (zi_incr sl 1) (by decide) rfl (fun ls hl => ?_)
            refine lv_goto (tgt := 45) hx hb dR_walk_103 (by decide) ?_
            exact ih45 (sl + 1) q g9 c9 m9 (by omega) hfit hi2 hm2 (by omega) _ _ _ (lv_sub hl [2, 3, 4, 0] rfl) (hP.sub [0, 1, 2, 3, 4, 5] rfl) (hD.sub [0, 1, 2, 3, 4, 5] (by decide) rfl) hS
          · refine lv_aload_n hx hb dR_walk_69 rfl (lv_at hl 1 rfl) ?_
            refine va_get (D := (dC, dI)) (ci := 1) (v := .ref t0) (C := RR) (T := TR) (N := 6) hx hb hw inR hown hK hP 3 rfl rfl 3 (by decide) (hw _ w_fl_R_31) (fun _ h9 => h9) rfl dR_walk_70 ?_
            refine lv_iload hx hb dR_walk_73 (lv_at hl 0 rfl) ?_
            refine zc_Ri (va_runV (As := [.int (nI (2 + (((fFI sl) - 1) / 8)))]) (rest := []) ⟨hx, hb, hml, hown, hw⟩ (c_T_byteAt l dC dI t0 t1 len cI cB tp (2 + (((fFI sl) - 1) / 8)) (by omega) (htp _) H) (cwV 1 hw (gV w_ml_R_50 w_im_T_byteAt w_se_T_byteAt w_in_T w_co_T_byteAt) rfl rfl rfl (by decide +kernel) ⟨Nat.le_of_ble_eq_true rfl, Nat.le_of_ble_eq_true rfl⟩) (zR_V hG hS (hP.sub (ws' := [(t0, .inr (2, [.ref t1, .int (nI len)])), (t1, .inl (cB, 400, .inl (aB tp)))]) [4, 5] rfl) hK 0 rfl rfl) rfl rfl hl.1 rfl (lv_room (Nat.le_of_ble_eq_true rfl)) dR_walk_75 ⟨Nat.le_of_ble_eq_true rfl, Nat.le_of_ble_eq_true rfl⟩) hS (fun r_9 locs h_75 hS => ?_)
            subst h_75
            refine va_getsN hx hb zfFI hS hown (va_Nw.use rfl (hG.nf (RR, 42, "FIELDS") (List.mem_of_getElem? (i := 7) rfl))) (fun _ h9 => h9) dR_walk_78 ?_
            refine lv_iload_n hx hb dR_walk_81 rfl (lv_at hl 4 rfl) ?_
            refine za_tab hx hb afFI hS (by omega) (by decide) dR_walk_82 ?_
            refine zc_Ri (va_runSN (As := [.int (nI (fFI sl))]) (rest := [.int (nI (tp (2 + (((fFI sl) - 1) / 8))))]) ⟨hx, hb, hml, hown, hw⟩ (c_C_mapBit l dC dI cI cB (fFI sl) (by omega) (by omega) H) ⟨va_cnB 1 hw (gC w_co_C_mapBit) rfl rfl rfl (hG.nm (RR, 55, yC_mapBit) (List.mem_of_getElem? (i := 8) rfl)) (hw _ w_in_C) (by decide +kernel) ⟨Nat.le_of_ble_eq_true rfl, Nat.le_of_ble_eq_true rfl⟩, hw _ w_st_C_mapBit, trivial⟩ (zR_S hG hS (hP.sub (ws' := []) [] rfl) hK) rfl rfl hl.1 rfl (lv_room (Nat.le_of_ble_eq_true rfl)) dR_walk_83 ⟨Nat.le_of_ble_eq_true rfl, Nat.le_of_ble_eq_true rfl⟩) hS (fun r_10 locs h_83 hS => ?_)
            subst h_83
            refine lv_iand hx hb dR_walk_86 ?_
            refine zi_v (b := nI ((tp (2 + (((fFI sl) - 1) / 8))) &&& (128 / 2 ^ (((fFI sl) - 1) % 8)))) (nI_and _ _) ?_
            refine zi_eq0 (tgt := 100) hx hb (lt_and (bit_lt _)) dR_walk_87 (by decide) (fun c_87 => ?_) (fun c_87 => ?_)
            · have hp9 : prs tp (wid tp 2) sl = false := decide_eq_false (fun h => by first | exact absurd h.1 (Nat.not_lt.mpr c_66) | exact h.2 c_87)
              have hi2 := hi
              rw [show 16 - sl = 16 - (sl + 1) + 1 by omega] at hi2
              rw [wkF_out hp9] at hi2
              have hfit := hq
              have hm2 := hm9
              refine lv_iinc (v := nI (sl + 1)) (lv' := [(3, .int (nI (sl + 1))), (4, .int (nI (2 + (((fFI sl) - 1) / 8)))), (0, .ref r0), (1, .int (nI 2)), (2, .int (nI (2 + wid tp 2)))]) hx hb dR_walk_100 hl (k := 4) rfl (zi_incr sl 1) (by decide) rfl (fun ls hl => ?_)
              refine lv_goto (tgt := 45) hx hb dR_walk_103 (by decide) ?_
              exact ih45 (sl + 1) q g9 c9 m9 (by omega) hfit hi2 hm2 (by omega) _ _ _ (lv_sub hl [2, 3, 4, 0] rfl) (hP.sub [0, 1, 2, 3, 4, 5] rfl) (hD.sub [0, 1, 2, 3, 4, 5] (by decide) rfl) hS
            · have hp9 : prs tp (wid tp 2) sl = true := decide_eq_true ⟨c_66, c_87⟩
              have hi9 := hi
              rw [show 16 - sl = 16 - (sl + 1) + 1 by omega] at hi9
              rcases wkF_inN hi9 hp9 with hfd | ⟨hfd, hi2⟩
              · refine lv_aload_n hx hb dR_walk_90 rfl (lv_at hl 1 rfl) ?_
                refine lv_iload_n hx hb dR_walk_91 rfl (lv_at hl 4 rfl) ?_
                have hPc := hP.sub (ws' := [(r0, .inr (1, [.ref f0, .int (nI 0), .int (-1), .ref t0, .int (nI q), .int (nI g9)])), (t0, .inr (2, [.ref t1, .int (nI len)])), (t1, .inl (cB, 400, .inl (aB tp))), (f0, .inr (0, [.int (nI (nmA tp 0 4 4 0 0)), .ref f1, .ref f2])), (f1, .inl (cI, 16, .inl (aN c9))), (f2, .inl (cB, 208, .inl (aN m9)))]) [3, 4, 5, 0, 1, 2] rfl
                have hDc := hD.sub (ws' := [(r0, .inr (1, [.ref f0, .int (nI 0), .int (-1), .ref t0, .int (nI q), .int (nI g9)])), (t0, .inr (2, [.ref t1, .int (nI len)])), (t1, .inl (cB, 400, .inl (aB tp))), (f0, .inr (0, [.int (nI (nmA tp 0 4 4 0 0)), .ref f1, .ref f2])), (f1, .inl (cI, 16, .inl (aN c9))), (f2, .inl (cB, 208, .inl (aN m9)))]) [3, 4, 5, 0, 1, 2] (by decide) rfl
                have hFc := va_free (wc := [(r0, .inr (1, [.ref f0, .int (nI 0), .int (-1), .ref t0, .int (nI q), .int (nI g9)])), (t0, .inr (2, [.ref t1, .int (nI len)])), (t1, .inl (cB, 400, .inl (aB tp))), (f0, .inr (0, [.int (nI (nmA tp 0 4 4 0 0)), .ref f1, .ref f2])), (f1, .inl (cI, 16, .inl (aN c9))), (f2, .inl (cB, 208, .inl (aN m9)))]) hD hS hA [3, 4, 5, 0, 1, 2] rfl
                refine zc_Si (va_runV (As := [.int (nI sl)]) (rest := []) ⟨hx, hb, hml, hown, hw⟩ (c_walkField_no l dC dI r0 f0 0 (-1) t0 q g9 t1 len cI cB tp f1 f2 (nmA tp 0 4 4 0 0) c9 m9 sl k2 p2 (by omega) (by omega) htp (by omega) hm9 hfd H.size) (cwV 1 hw (gV w_ml_R_58 w_im_R_walkField w_se_R_walkField w_in_R w_co_R_walkField) rfl rfl rfl (by decide +kernel) ⟨Nat.le_of_ble_eq_true rfl, Nat.le_of_ble_eq_true rfl⟩) (zM_V hG hS hFc hPc hDc hK 0 rfl rfl) rfl rfl hl.1 rfl (lv_room (Nat.le_of_ble_eq_true rfl)) dR_walk_92 ⟨Nat.le_of_ble_eq_true rfl, Nat.le_of_ble_eq_true rfl⟩) hS hFc (fun r_11 u_92 H locs h_92 hP1 hD1 hk1 hS => ?_)
                obtain ⟨n9_92, l9_92, m9_92⟩ := u_92
                obtain ⟨hP, hD⟩ := va_join (wr := []) (w1 := [(r0, .inr (1, [.ref f0, .int (nI k2), .int (nI p2), .ref t0, .int (nI n9_92), .int (nI l9_92)])), (t0, .inr (2, [.ref t1, .int (nI len)])), (t1, .inl (cB, 400, .inl (aB tp))), (f0, .inr (0, [.int (nI (nmA tp 0 4 4 0 0)), .ref f1, .ref f2])), (f1, .inl (cI, 16, .inl (aN c9))), (f2, .inl (cB, 208, .inl (aN m9_92)))]) hP hD [3, 4, 5, 0, 1, 2] [] rfl rfl (by decide) (by decide) hk1 hFc hP1 hD1
                have hP : va_P (dC, dI) vwCl [(r0, .inr (1, [.ref f0, .int (nI k2), .int (nI p2), .ref t0, .int (nI n9_92), .int (nI l9_92)])), (t0, .inr (2, [.ref t1, .int (nI len)])), (t1, .inl (cB, 400, .inl (aB tp))), (f0, .inr (0, [.int (nI (nmA tp 0 4 4 0 0)), .ref f1, .ref f2])), (f1, .inl (cI, 16, .inl (aN c9))), (f2, .inl (cB, 208, .inl (aN m9_92)))] H := hP
                have hD : va_D A [(r0, .inr (1, [.ref f0, .int (nI k2), .int (nI p2), .ref t0, .int (nI n9_92), .int (nI l9_92)])), (t0, .inr (2, [.ref t1, .int (nI len)])), (t1, .inl (cB, 400, .inl (aB tp))), (f0, .inr (0, [.int (nI (nmA tp 0 4 4 0 0)), .ref f1, .ref f2])), (f1, .inl (cI, 16, .inl (aN c9))), (f2, .inl (cB, 208, .inl (aN m9_92)))] := hD
                obtain ⟨rfl, hu_h_92⟩ := h_92
                refine lv_if_ne (tgt := 100) hx hb dR_walk_95 (by decide) (fun q => False.elim (absurd q (by decide))) (fun c_95 => ?_)
                refine lv_iconst (v := nI 0) hx hb dR_walk_98 (by decide) ?_
                subst hAe
                subst hQ
                exact W.zret (v := nI 0) hx hb hr (by decide) (fun t ht hW => ⟨⟨nI 0, (n9_92, l9_92, (nmA tp 0 4 4 0 0), c9, m9_92), rfl, ⟨rfl, hu_h_92⟩, by rw [ht]; exact hP.sub [0, 1, 2, 3, 4, 5] rfl, hD.sub [0, 1, 2, 3, 4, 5] (by decide) rfl⟩, hS.F ht⟩) hS.2.2 dR_walk_99
              · have hfit := fieldF_fit hfd
                have hm2 := fMk_lt htp hfd hm9
                refine lv_aload_n hx hb dR_walk_90 rfl (lv_at hl 1 rfl) ?_
                refine lv_iload_n hx hb dR_walk_91 rfl (lv_at hl 4 rfl) ?_
                have hPc := hP.sub (ws' := [(r0, .inr (1, [.ref f0, .int (nI 0), .int (-1), .ref t0, .int (nI q), .int (nI g9)])), (t0, .inr (2, [.ref t1, .int (nI len)])), (t1, .inl (cB, 400, .inl (aB tp))), (f0, .inr (0, [.int (nI (nmA tp 0 4 4 0 0)), .ref f1, .ref f2])), (f1, .inl (cI, 16, .inl (aN c9))), (f2, .inl (cB, 208, .inl (aN m9)))]) [3, 4, 5, 0, 1, 2] rfl
                have hDc := hD.sub (ws' := [(r0, .inr (1, [.ref f0, .int (nI 0), .int (-1), .ref t0, .int (nI q), .int (nI g9)])), (t0, .inr (2, [.ref t1, .int (nI len)])), (t1, .inl (cB, 400, .inl (aB tp))), (f0, .inr (0, [.int (nI (nmA tp 0 4 4 0 0)), .ref f1, .ref f2])), (f1, .inl (cI, 16, .inl (aN c9))), (f2, .inl (cB, 208, .inl (aN m9)))]) [3, 4, 5, 0, 1, 2] (by decide) rfl
                have hFc := va_free (wc := [(r0, .inr (1, [.ref f0, .int (nI 0), .int (-1), .ref t0, .int (nI q), .int (nI g9)])), (t0, .inr (2, [.ref t1, .int (nI len)])), (t1, .inl (cB, 400, .inl (aB tp))), (f0, .inr (0, [.int (nI (nmA tp 0 4 4 0 0)), .ref f1, .ref f2])), (f1, .inl (cI, 16, .inl (aN c9))), (f2, .inl (cB, 208, .inl (aN m9)))]) hD hS hA [3, 4, 5, 0, 1, 2] rfl
                refine zc_Mi (va_runV (As := [.int (nI sl)]) (rest := []) ⟨hx, hb, hml, hown, hw⟩ (c_walkField_ok l dC dI r0 f0 0 (-1) t0 q g9 t1 len cI cB tp f1 f2 (nmA tp 0 4 4 0 0) c9 m9 sl (by omega) (by omega) htp (by omega) hfd H.size) (cwV 1 hw (gV w_ml_R_58 w_im_R_walkField w_se_R_walkField w_in_R w_co_R_walkField) rfl rfl rfl (by decide +kernel) ⟨Nat.le_of_ble_eq_true rfl, Nat.le_of_ble_eq_true rfl⟩) (zM_V hG hS hFc hPc hDc hK 0 rfl rfl) rfl rfl hl.1 rfl (lv_room (Nat.le_of_ble_eq_true rfl)) dR_walk_92 ⟨Nat.le_of_ble_eq_true rfl, Nat.le_of_ble_eq_true rfl⟩) hS hFc (fun r_12 H locs h_92 hP1 hD1 hk1 hS => ?_)
                obtain ⟨hP, hD⟩ := va_join (wr := []) (w1 := [(r0, .inr (1, [.ref f0, .int (nI 0), .int (-1), .ref t0, .int (nI (fNx tp q sl)), .int (nI (fLn tp q sl g9))])), (t0, .inr (2, [.ref t1, .int (nI len)])), (t1, .inl (cB, 400, .inl (aB tp))), (f0, .inr (0, [.int (nI (nmA tp 0 4 4 0 0)), .ref f1, .ref f2])), (f1, .inl (cI, 16, .inl (aN (nup c9 sl (fCt tp q sl))))), (f2, .inl (cB, 208, .inl (aN (fMk tp q sl m9))))]) hP hD [3, 4, 5, 0, 1, 2] [] rfl rfl (by decide) (by decide) hk1 hFc hP1 hD1
                have hP : va_P (dC, dI) vwCl [(r0, .inr (1, [.ref f0, .int (nI 0), .int (-1), .ref t0, .int (nI (fNx tp q sl)), .int (nI (fLn tp q sl g9))])), (t0, .inr (2, [.ref t1, .int (nI len)])), (t1, .inl (cB, 400, .inl (aB tp))), (f0, .inr (0, [.int (nI (nmA tp 0 4 4 0 0)), .ref f1, .ref f2])), (f1, .inl (cI, 16, .inl (aN (nup c9 sl (fCt tp q sl))))), (f2, .inl (cB, 208, .inl (aN (fMk tp q sl m9))))] H := hP
                have hD : va_D A [(r0, .inr (1, [.ref f0, .int (nI 0), .int (-1), .ref t0, .int (nI (fNx tp q sl)), .int (nI (fLn tp q sl g9))])), (t0, .inr (2, [.ref t1, .int (nI len)])), (t1, .inl (cB, 400, .inl (aB tp))), (f0, .inr (0, [.int (nI (nmA tp 0 4 4 0 0)), .ref f1, .ref f2])), (f1, .inl (cI, 16, .inl (aN (nup c9 sl (fCt tp q sl))))), (f2, .inl (cB, 208, .inl (aN (fMk tp q sl m9))))] := hD
                subst h_92
                refine lv_if_ne (tgt := 100) hx hb dR_walk_95 (by decide) (fun c_95 => ?_) (fun q => False.elim (absurd q (by decide)))
                refine lv_iinc (v := nI (sl + 1)) (lv' := [(3, .int (nI (sl + 1))), (4, .int (nI (2 + (((fFI sl) - 1) / 8)))), (0, .ref r0), (1, .int (nI 2)), (2, .int (nI (2 + wid tp 2)))]) hx hb dR_walk_100 hl (k := 4) rfl (zi_incr sl 1) (by decide) rfl (fun ls hl => ?_)
                refine lv_goto (tgt := 45) hx hb dR_walk_103 (by decide) ?_
                exact ih45 (sl + 1) (fNx tp q sl) (fLn tp q sl g9) (nup c9 sl (fCt tp q sl)) (fMk tp q sl m9) (by omega) hfit hi2 hm2 (by omega) _ _ _ (lv_sub hl [2, 3, 4, 0] rfl) (hP.sub [3, 4, 5, 0, 1, 2] rfl) (hD.sub [3, 4, 5, 0, 1, 2] (by decide) rfl) hS
    exact lp_45 ((16 - 0) + 1) 0 (2 + wid tp 2) (nmA tp 0 4 4 0 0) (zc cnt 16) mk (by omega) hmf hwk hm (Nat.lt_succ_self _) _ _ _ (lv_sub hl [3, 2, 1, 0] rfl) (hP.sub [0, 1, 2, 3, 4, 5] rfl) (hD.sub [0, 1, 2, 3, 4, 5] (by decide) rfl) hS
