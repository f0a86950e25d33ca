def rm_c_walkField_ok : Room := ({ frames := 4, cells := 0, slots := 0, locals := 89 } : Room)
set_option maxHeartbeats 4000000 in
set_option maxRecDepth 100000 in
theorem c_walkField_ok (l : Launch) (dC : Nat → ClassId) (dI : Nat → Nat → Nat) (r0 : Nat) (f0 : Nat) (fk : Nat) (fp : Int32) (t0 : Nat) (nx : Nat) (lnb : Nat) (t1 : Nat) (len : Nat) (cI : ClassId) (cB : ClassId) (tp : Nat → Nat) (f1 : Nat) (f2 : Nat) (ty : Nat) (cnt : Nat → Nat) (mk : Nat → Nat) (sl : Nat) (hln : len ≤ 400) (hnl : nx ≤ len) (htp : ∀ j, tp j < 256) (hs : sl < 16) (hd : fieldF tp len nx sl = none) (sz : Nat) : Met l yR_walkField wsR_walkField rm_c_walkField_ok (zM (dC, dI) [(cI, .int), (cB, .byte)] [.ref r0, .int (nI sl)] [(r0, .inr (1, [.ref f0, .int (nI fk), .int fp, .ref t0, .int (nI nx), .int (nI lnb)])), (t0, .inr (2, [.ref t1, .int (nI len)])), (t1, .inl (cB, 400, .inl (aB tp))), (f0, .inr (0, [.int (nI ty), .ref f1, .ref f2])), (f1, .inl (cI, 16, .inl (aN cnt))), (f2, .inl (cB, 208, .inl (aN mk)))] sz) (zMi (dC, dI) [(r0, .inr (1, [.ref f0, .int (nI fk), .int fp, .ref t0, .int (nI nx), .int (nI lnb)])), (t0, .inr (2, [.ref t1, .int (nI len)])), (t1, .inl (cB, 400, .inl (aB tp))), (f0, .inr (0, [.int (nI ty), .ref f1, .ref f2])), (f1, .inl (cI, 16, .inl (aN cnt))), (f2, .inl (cB, 208, .inl (aN mk)))] [(r0, .inr (1, [.ref f0, .int (nI fk), .int fp, .ref t0, .int (nI (fNx tp nx sl)), .int (nI (fLn tp nx sl lnb))])), (t0, .inr (2, [.ref t1, .int (nI len)])), (t1, .inl (cB, 400, .inl (aB tp))), (f0, .inr (0, [.int (nI ty), .ref f1, .ref f2])), (f1, .inl (cI, 16, .inl (aN (nup cnt sl (fCt tp nx sl))))), (f2, .inl (cB, 208, .inl (aN (fMk tp nx sl mk))))] sz (fun r => r = nI 1)) 0 0 (va_A [(r0, .inr (1, [.ref f0, .int (nI fk), .int fp, .ref t0, .int (nI nx), .int (nI lnb)])), (t0, .inr (2, [.ref t1, .int (nI len)])), (t1, .inl (cB, 400, .inl (aB tp))), (f0, .inr (0, [.int (nI ty), .ref f1, .ref f2])), (f1, .inl (cI, 16, .inl (aN cnt))), (f2, .inl (cB, 208, .inl (aN mk)))] sz) := by
  refine Met.ofW (cc := cR_walkField) (maxL := 4) (ret := (some .boolean)) (by decide) rfl ?_
  intro p e s m args below meth c s₁ Bd hml hv
  obtain ⟨rfl, hsz, hG, hP, hK, hD0⟩ := hv
  subst hsz
  have hx := Bd.exec
  have hb := Bd.bytes
  have hr := Bd.returns
  have hts := atoms_spec (ws := wsR_walkField) Bd.pre
  have hw : ∀ w ∈ BIG, w.before _ s = true := fun w h => hts w (List.mem_cons_of_mem _ h)
  have hown : s.vm.findClass RR = some m.cls := findClass_of_methodNamed Bd.named
  have hlocks := Bd.notSynchronized
  have hD := hD0.self (sz := s.heap.size)
  obtain ⟨A, hAe⟩ : ∃ A, A = va_A [(r0, .inr (1, [.ref f0, .int (nI fk), .int fp, .ref t0, .int (nI nx), .int (nI lnb)])), (t0, .inr (2, [.ref t1, .int (nI len)])), (t1, .inl (cB, 400, .inl (aB tp))), (f0, .inr (0, [.int (nI ty), .ref f1, .ref f2])), (f1, .inl (cI, 16, .inl (aN cnt))), (f2, .inl (cB, 208, .inl (aN mk)))] s.heap.size := ⟨_, rfl⟩
  have hA : ∀ q : Nat, s.heap.size ≤ q → A q := fun q h => by rw [hAe]; exact Or.inr h
  rw [← hAe] at hG hD
  have hS : va_S A s.heap s.heap [] := va_S.rf
  have hl := lv_entry ([.ref r0, .int (nI sl)]) (n := 4) (Nat.le_of_ble_eq_true rfl)
  rw [lg_entry_eq]
  generalize (lg_sl ([.ref r0, .int (nI sl)]) ++ List.replicate (4 - (lg_sl ([.ref r0, .int (nI sl)])).length) Slot.unset).toArray = ls at hl ⊢
  have hl : lv_has ls 4 [(0, .ref r0), (1, .int (nI sl))] := hl
  refine zq_name (fun Q hQ => ?_)
  change W p l e rm_c_walkField_ok s m _ below meth c _ _ _ _ Q _
  obtain ⟨tfMM, zfMM, afMM⟩ := hG.MOST_MARKS
  obtain ⟨tfCD, zfCD, afCD⟩ := hG.COUNT_DIGITS
  obtain ⟨tfHL, zfHL, afHL⟩ := hG.HAS_LETTERS
  have hcd := fCD_b sl hs
  have hmm := fMM_b sl hs
  have hfm := fFM_b sl hs
  have hhl := fHL_b sl hs
  refine va_getsN hx hb zfMM hS hown (va_Nw.use rfl (hG.nf (RR, 88, "MOST_MARKS") (List.mem_of_getElem? (i := 8) rfl))) (fun _ h9 => h9) dR_walkField_0 ?_
  refine lv_iload_n hx hb dR_walkField_3 rfl (lv_at hl 1 rfl) ?_
  refine za_tab hx hb afMM hS (by omega) (by decide) dR_walkField_4 ?_
  refine lv_istore_n (lv' := [(2, .int (nI (fMM sl))), (0, .ref r0), (1, .int (nI sl))]) hx hb dR_walkField_5 rfl hl (by decide) rfl (fun ls hl => ?_)
  refine va_getsN hx hb zfCD hS hown (va_Nw.use rfl (hG.nf (RR, 91, "COUNT_DIGITS") (List.mem_of_getElem? (i := 9) rfl))) (fun _ h9 => h9) dR_walkField_6 ?_
  refine lv_iload_n hx hb dR_walkField_9 rfl (lv_at hl 2 rfl) ?_
  refine za_tab hx hb afCD hS (by omega) (by decide) dR_walkField_10 ?_
  refine zi_eq0 (tgt := 59) hx hb (by omega) dR_walkField_11 (by decide) (fun c_11 => ?_) (fun c_11 => ?_)
  · have hv : valF tp len nx sl (fMM sl) = none := by have h9 := hd; unfold fieldF at h9; rw [if_pos c_11] at h9; exact h9
    refine va_getsN hx hb zfHL hS hown (va_Nw.use rfl (hG.nf (RR, 94, "HAS_LETTERS") (List.mem_of_getElem? (i := 10) rfl))) (fun _ h9 => h9) dR_walkField_59 ?_
    refine lv_iload_n hx hb dR_walkField_62 rfl (lv_at hl 2 rfl) ?_
    refine za_tab hx hb afHL hS (by omega) (by decide) dR_walkField_63 ?_
    refine zi_eq0 (tgt := 76) hx hb (by omega) dR_walkField_64 (by decide) (fun c_64 => ?_) (fun c_64 => ?_)
    · unfold valF at hv
      rw [if_pos c_64] at hv
      refine lv_aload_n hx hb dR_walkField_76 rfl (lv_at hl 1 rfl) ?_
      refine lv_iload_n hx hb dR_walkField_77 rfl (lv_at hl 2 rfl) ?_
      refine lv_iload_n hx hb dR_walkField_78 rfl (lv_at hl 0 rfl) ?_
      have hPc := hP.sub (ws' := [(r0, .inr (1, [.ref f0, .int (nI fk), .int fp, .ref t0, .int (nI nx), .int (nI lnb)])), (t0, .inr (2, [.ref t1, .int (nI len)])), (t1, .inl (cB, 400, .inl (aB tp))), (f0, .inr (0, [.int (nI ty), .ref f1, .ref f2])), (f1, .inl (cI, 16, .inl (aN cnt))), (f2, .inl (cB, 208, .inl (aN mk)))]) [0, 1, 2, 3, 4, 5] rfl
      have hDc := hD.sub (ws' := [(r0, .inr (1, [.ref f0, .int (nI fk), .int fp, .ref t0, .int (nI nx), .int (nI lnb)])), (t0, .inr (2, [.ref t1, .int (nI len)])), (t1, .inl (cB, 400, .inl (aB tp))), (f0, .inr (0, [.int (nI ty), .ref f1, .ref f2])), (f1, .inl (cI, 16, .inl (aN cnt))), (f2, .inl (cB, 208, .inl (aN mk)))]) [0, 1, 2, 3, 4, 5] (by decide) rfl
      have hFc := va_free (wc := [(r0, .inr (1, [.ref f0, .int (nI fk), .int fp, .ref t0, .int (nI nx), .int (nI lnb)])), (t0, .inr (2, [.ref t1, .int (nI len)])), (t1, .inl (cB, 400, .inl (aB tp))), (f0, .inr (0, [.int (nI ty), .ref f1, .ref f2])), (f1, .inl (cI, 16, .inl (aN cnt))), (f2, .inl (cB, 208, .inl (aN mk)))]) hD hS hA [0, 1, 2, 3, 4, 5] rfl
      refine zc_Mi (va_runV (As := [.int (nI sl), .int (nI (fMM sl))]) (rest := []) ⟨hx, hb, hml, hown, hw⟩ (c_walkDigits_ok l dC dI r0 f0 fk fp t0 nx lnb t1 len cI cB tp f1 f2 ty cnt mk sl (fMM sl) (by omega) (by omega) htp (by omega) (by omega) (by omega) hv s.heap.size) (cwV 2 hw (gV w_ml_R_100 w_im_R_walkDigits w_se_R_walkDigits w_in_R w_co_R_walkDigits) rfl rfl rfl (by decide +kernel) ⟨Nat.le_of_ble_eq_true rfl, Nat.le_of_ble_eq_true rfl⟩) (zM_V hG hS hFc hPc hDc hK 0 rfl rfl) rfl rfl hl.1 rfl (lv_room (Nat.le_of_ble_eq_true rfl)) dR_walkField_79 ⟨Nat.le_of_ble_eq_true rfl, Nat.le_of_ble_eq_true rfl⟩) hS hFc (fun r_1 H locs h_79 hP1 hD1 hk1 hS => ?_)
      obtain ⟨hP, hD⟩ := va_join (wr := []) (w1 := [(r0, .inr (1, [.ref f0, .int (nI fk), .int fp, .ref t0, .int (nI (nx + ((fMM sl) + 1) / 2)), .int (nI lnb)])), (t0, .inr (2, [.ref t1, .int (nI len)])), (t1, .inl (cB, 400, .inl (aB tp))), (f0, .inr (0, [.int (nI ty), .ref f1, .ref f2])), (f1, .inl (cI, 16, .inl (aN (nup cnt sl (fMM sl))))), (f2, .inl (cB, 208, .inl (aN (dgC tp nx (fMM sl) (fFM sl) (fMM sl) 0 mk))))]) hP hD [0, 1, 2, 3, 4, 5] [] rfl rfl (by decide) (by decide) hk1 hFc hP1 hD1
      have hP : va_P (dC, dI) vwCl [(r0, .inr (1, [.ref f0, .int (nI fk), .int fp, .ref t0, .int (nI (nx + ((fMM sl) + 1) / 2)), .int (nI lnb)])), (t0, .inr (2, [.ref t1, .int (nI len)])), (t1, .inl (cB, 400, .inl (aB tp))), (f0, .inr (0, [.int (nI ty), .ref f1, .ref f2])), (f1, .inl (cI, 16, .inl (aN (nup cnt sl (fMM sl))))), (f2, .inl (cB, 208, .inl (aN (dgC tp nx (fMM sl) (fFM sl) (fMM sl) 0 mk))))] H := hP
      have hD : va_D A [(r0, .inr (1, [.ref f0, .int (nI fk), .int fp, .ref t0, .int (nI (nx + ((fMM sl) + 1) / 2)), .int (nI lnb)])), (t0, .inr (2, [.ref t1, .int (nI len)])), (t1, .inl (cB, 400, .inl (aB tp))), (f0, .inr (0, [.int (nI ty), .ref f1, .ref f2])), (f1, .inl (cI, 16, .inl (aN (nup cnt sl (fMM sl))))), (f2, .inl (cB, 208, .inl (aN (dgC tp nx (fMM sl) (fFM sl) (fMM sl) 0 mk))))] := hD
      subst h_79
      have eC : fCt tp nx sl = fMM sl := if_pos c_11
      have eV : fVp nx sl = nx := fVp_0 c_11
      have eL : fLn tp nx sl lnb = lnb := if_pos c_11
      have eN : fNx tp nx sl = (nx) + (fMM sl + 1) / 2 := by unfold fNx vNx; rw [if_pos c_64, eV, eC]
      have eM : fMk tp nx sl mk = dgC tp (nx) (fMM sl) (fFM sl) (fMM sl) 0 mk := by unfold fMk vMk; rw [if_pos c_64, eV, eC]
      rw [eN, eM, eL, eC] at hQ
      subst hAe
      subst hQ
      exact W.zret (v := nI 1) hx hb hr (by decide) (fun t ht hW => ⟨⟨nI 1, (), rfl, rfl, by rw [ht]; exact hP.sub [0, 1, 2, 3, 4, 5] rfl, hD.sub [0, 1, 2, 3, 4, 5] (by decide) rfl⟩, hS.F ht⟩) hS.2.2 dR_walkField_82
    · unfold valF at hv
      rw [if_neg c_64] at hv
      refine lv_aload_n hx hb dR_walkField_67 rfl (lv_at hl 1 rfl) ?_
      refine lv_iload_n hx hb dR_walkField_68 rfl (lv_at hl 2 rfl) ?_
      refine lv_iload_n hx hb dR_walkField_69 rfl (lv_at hl 0 rfl) ?_
      have hPc := hP.sub (ws' := [(r0, .inr (1, [.ref f0, .int (nI fk), .int fp, .ref t0, .int (nI nx), .int (nI lnb)])), (t0, .inr (2, [.ref t1, .int (nI len)])), (t1, .inl (cB, 400, .inl (aB tp))), (f0, .inr (0, [.int (nI ty), .ref f1, .ref f2])), (f1, .inl (cI, 16, .inl (aN cnt))), (f2, .inl (cB, 208, .inl (aN mk)))]) [0, 1, 2, 3, 4, 5] rfl
      have hDc := hD.sub (ws' := [(r0, .inr (1, [.ref f0, .int (nI fk), .int fp, .ref t0, .int (nI nx), .int (nI lnb)])), (t0, .inr (2, [.ref t1, .int (nI len)])), (t1, .inl (cB, 400, .inl (aB tp))), (f0, .inr (0, [.int (nI ty), .ref f1, .ref f2])), (f1, .inl (cI, 16, .inl (aN cnt))), (f2, .inl (cB, 208, .inl (aN mk)))]) [0, 1, 2, 3, 4, 5] (by decide) rfl
      have hFc := va_free (wc := [(r0, .inr (1, [.ref f0, .int (nI fk), .int fp, .ref t0, .int (nI nx), .int (nI lnb)])), (t0, .inr (2, [.ref t1, .int (nI len)])), (t1, .inl (cB, 400, .inl (aB tp))), (f0, .inr (0, [.int (nI ty), .ref f1, .ref f2])), (f1, .inl (cI, 16, .inl (aN cnt))), (f2, .inl (cB, 208, .inl (aN mk)))]) hD hS hA [0, 1, 2, 3, 4, 5] rfl
      refine zc_Mi (va_runV (As := [.int (nI sl), .int (nI (fMM sl))]) (rest := []) ⟨hx, hb, hml, hown, hw⟩ (c_walkLetters_ok l dC dI r0 f0 fk fp t0 nx lnb t1 len cI cB tp f1 f2 ty cnt mk sl (fMM sl) (by omega) (by omega) htp (by omega) (by omega) (by omega) hv s.heap.size) (cwV 2 hw (gV w_ml_R_97 w_im_R_walkLetters w_se_R_walkLetters w_in_R w_co_R_walkLetters) rfl rfl rfl (by decide +kernel) ⟨Nat.le_of_ble_eq_true rfl, Nat.le_of_ble_eq_true rfl⟩) (zM_V hG hS hFc hPc hDc hK 0 rfl rfl) rfl rfl hl.1 rfl (lv_room (Nat.le_of_ble_eq_true rfl)) dR_walkField_70 ⟨Nat.le_of_ble_eq_true rfl, Nat.le_of_ble_eq_true rfl⟩) hS hFc (fun r_2 H locs h_70 hP1 hD1 hk1 hS => ?_)
      obtain ⟨hP, hD⟩ := va_join (wr := []) (w1 := [(r0, .inr (1, [.ref f0, .int (nI fk), .int fp, .ref t0, .int (nI (nx + (fMM sl))), .int (nI lnb)])), (t0, .inr (2, [.ref t1, .int (nI len)])), (t1, .inl (cB, 400, .inl (aB tp))), (f0, .inr (0, [.int (nI ty), .ref f1, .ref f2])), (f1, .inl (cI, 16, .inl (aN (nup cnt sl (fMM sl))))), (f2, .inl (cB, 208, .inl (aN (ltC tp nx (fFM sl) (fMM sl) 0 mk))))]) hP hD [0, 1, 2, 3, 4, 5] [] rfl rfl (by decide) (by decide) hk1 hFc hP1 hD1
      have hP : va_P (dC, dI) vwCl [(r0, .inr (1, [.ref f0, .int (nI fk), .int fp, .ref t0, .int (nI (nx + (fMM sl))), .int (nI lnb)])), (t0, .inr (2, [.ref t1, .int (nI len)])), (t1, .inl (cB, 400, .inl (aB tp))), (f0, .inr (0, [.int (nI ty), .ref f1, .ref f2])), (f1, .inl (cI, 16, .inl (aN (nup cnt sl (fMM sl))))), (f2, .inl (cB, 208, .inl (aN (ltC tp nx (fFM sl) (fMM sl) 0 mk))))] H := hP
      have hD : va_D A [(r0, .inr (1, [.ref f0, .int (nI fk), .int fp, .ref t0, .int (nI (nx + (fMM sl))), .int (nI lnb)])), (t0, .inr (2, [.ref t1, .int (nI len)])), (t1, .inl (cB, 400, .inl (aB tp))), (f0, .inr (0, [.int (nI ty), .ref f1, .ref f2])), (f1, .inl (cI, 16, .inl (aN (nup cnt sl (fMM sl))))), (f2, .inl (cB, 208, .inl (aN (ltC tp nx (fFM sl) (fMM sl) 0 mk))))] := hD
      subst h_70
      refine lv_goto (tgt := 82) hx hb dR_walkField_73 (by decide) ?_
      have eC : fCt tp nx sl = fMM sl := if_pos c_11
      have eV : fVp nx sl = nx := fVp_0 c_11
      have eL : fLn tp nx sl lnb = lnb := if_pos c_11
      have eN : fNx tp nx sl = (nx) + (fMM sl) := by unfold fNx vNx; rw [if_neg c_64, eV, eC]
      have eM : fMk tp nx sl mk = ltC tp (nx) (fFM sl) (fMM sl) 0 mk := by unfold fMk vMk; rw [if_neg c_64, eV, eC]
      rw [eN, eM, eL, eC] at hQ
      subst hAe
      subst hQ
      exact W.zret (v := nI 1) hx hb hr (by decide) (fun t ht hW => ⟨⟨nI 1, (), rfl, rfl, by rw [ht]; exact hP.sub [0, 1, 2, 3, 4, 5] rfl, hD.sub [0, 1, 2, 3, 4, 5] (by decide) rfl⟩, hS.F ht⟩) hS.2.2 dR_walkField_82
  · have hnb := nmA_b htp (nx := nx) (ct := fCD sl) (by omega)
    obtain ⟨hd9, hct1, hct2⟩ := fieldF_num hd c_11
    have hs9 := dgF_fit hd9
    have hv : valF tp len (nx + (fCD sl + 1) / 2) sl (nmA tp nx (fCD sl) (fCD sl) 0 0) = none := by
      have h9 := fieldF_val hd; unfold fVp fCt at h9; rw [if_neg c_11] at h9; exact h9
    refine lv_aload_n hx hb dR_walkField_14 rfl (lv_at hl 1 rfl) ?_
    refine va_get (D := (dC, dI)) (ci := 1) (v := .int (nI nx)) (C := RR) (T := TR) (N := 6) hx hb hw inR hown hK hP 0 rfl rfl 4 (by decide) (hw _ w_fl_R_25) (fun _ h9 => h9) rfl dR_walkField_15 ?_
    refine lv_istore_n (lv' := [(3, .int (nI nx)), (2, .int (nI (fMM sl))), (0, .ref r0), (1, .int (nI sl))]) hx hb dR_walkField_18 rfl hl (by decide) rfl (fun ls hl => ?_)
    refine lv_aload_n hx hb dR_walkField_19 rfl (lv_at hl 2 rfl) ?_
    refine va_getsN hx hb zfCD hS hown (va_Nw.use rfl (hG.nf (RR, 91, "COUNT_DIGITS") (List.mem_of_getElem? (i := 9) rfl))) (fun _ h9 => h9) dR_walkField_20 ?_
    refine lv_iload_n hx hb dR_walkField_23 rfl (lv_at hl 3 rfl) ?_
    refine za_tab hx hb afCD hS (by omega) (by decide) dR_walkField_24 ?_
    have hPc := hP.sub (ws' := [(r0, .inr (1, [.ref f0, .int (nI fk), .int fp, .ref t0, .int (nI nx), .int (nI lnb)])), (t0, .inr (2, [.ref t1, .int (nI len)])), (t1, .inl (cB, 400, .inl (aB tp)))]) [0, 1, 2] rfl
    have hDc := hD.sub (ws' := [(r0, .inr (1, [.ref f0, .int (nI fk), .int fp, .ref t0, .int (nI nx), .int (nI lnb)])), (t0, .inr (2, [.ref t1, .int (nI len)])), (t1, .inl (cB, 400, .inl (aB tp)))]) [0, 1, 2] (by decide) rfl
    have hFc := va_free (wc := [(r0, .inr (1, [.ref f0, .int (nI fk), .int fp, .ref t0, .int (nI nx), .int (nI lnb)])), (t0, .inr (2, [.ref t1, .int (nI len)])), (t1, .inl (cB, 400, .inl (aB tp)))]) hD hS hA [0, 1, 2] rfl
    refine zc_Mi (va_runV (As := [.int (nI (fCD sl))]) (rest := []) ⟨hx, hb, hml, hown, hw⟩ (c_walkNumber_ok l dC dI r0 f0 fk fp t0 nx lnb t1 len cI cB tp (fCD sl) (by omega) (by omega) htp (by omega) hd9 s.heap.size) (cwV 1 hw (gV w_ml_R_69 w_im_R_walkNumber w_se_R_walkNumber w_in_R w_co_R_walkNumber) rfl rfl rfl (by decide +kernel) ⟨Nat.le_of_ble_eq_true rfl, Nat.le_of_ble_eq_true rfl⟩) (zM_V hG hS hFc hPc hDc hK 0 rfl rfl) rfl rfl hl.1 rfl (lv_room (Nat.le_of_ble_eq_true rfl)) dR_walkField_25 ⟨Nat.le_of_ble_eq_true rfl, Nat.le_of_ble_eq_true rfl⟩) hS hFc (fun r_3 H locs h_25 hP1 hD1 hk1 hS => ?_)
    obtain ⟨hP, hD⟩ := va_join (wr := [(f0, .inr (0, [.int (nI ty), .ref f1, .ref f2])), (f1, .inl (cI, 16, .inl (aN cnt))), (f2, .inl (cB, 208, .inl (aN mk)))]) (w1 := [(r0, .inr (1, [.ref f0, .int (nI fk), .int fp, .ref t0, .int (nI (nx + ((fCD sl) + 1) / 2)), .int (nI (nmA tp nx (fCD sl) (fCD sl) 0 0))])), (t0, .inr (2, [.ref t1, .int (nI len)])), (t1, .inl (cB, 400, .inl (aB tp)))]) hP hD [0, 1, 2] [3, 4, 5] rfl rfl (by decide) (by decide) hk1 hFc hP1 hD1
    have hP : va_P (dC, dI) vwCl [(f0, .inr (0, [.int (nI ty), .ref f1, .ref f2])), (f1, .inl (cI, 16, .inl (aN cnt))), (f2, .inl (cB, 208, .inl (aN mk))), (r0, .inr (1, [.ref f0, .int (nI fk), .int fp, .ref t0, .int (nI (nx + ((fCD sl) + 1) / 2)), .int (nI (nmA tp nx (fCD sl) (fCD sl) 0 0))])), (t0, .inr (2, [.ref t1, .int (nI len)])), (t1, .inl (cB, 400, .inl (aB tp)))] H := hP
    have hD : va_D A [(f0, .inr (0, [.int (nI ty), .ref f1, .ref f2])), (f1, .inl (cI, 16, .inl (aN cnt))), (f2, .inl (cB, 208, .inl (aN mk))), (r0, .inr (1, [.ref f0, .int (nI fk), .int fp, .ref t0, .int (nI (nx + ((fCD sl) + 1) / 2)), .int (nI (nmA tp nx (fCD sl) (fCD sl) 0 0))])), (t0, .inr (2, [.ref t1, .int (nI len)])), (t1, .inl (cB, 400, .inl (aB tp)))] := hD
    subst h_25
    refine lv_if_ne (tgt := 33) hx hb dR_walkField_28 (by decide) (fun c_28 => ?_) (fun q => False.elim (absurd q (by decide)))
    refine lv_aload_n hx hb dR_walkField_33 rfl (lv_at hl 2 rfl) ?_
    refine va_get (D := (dC, dI)) (ci := 1) (v := .int (nI (nmA tp nx (fCD sl) (fCD sl) 0 0))) (C := RR) (T := TR) (N := 6) hx hb hw inR hown hK hP 3 rfl rfl 5 (by decide) (hw _ w_fl_R_28) (fun _ h9 => h9) rfl dR_walkField_34 ?_
    refine lv_istore_n (lv' := [(2, .int (nI (nmA tp nx (fCD sl) (fCD sl) 0 0))), (3, .int (nI nx)), (0, .ref r0), (1, .int (nI sl))]) hx hb dR_walkField_37 rfl hl (by decide) rfl (fun ls hl => ?_)
    refine lv_iload_n hx hb dR_walkField_38 rfl (lv_at hl 0 rfl) ?_
    refine lv_iconst (v := nI 1) hx hb dR_walkField_39 (by decide) ?_
    refine zi_lt (tgt := 52) hx hb (by omega) (by omega) dR_walkField_40 (by decide) (fun q => False.elim ((by omega))) (fun c_40 => ?_)
    refine lv_iload_n hx hb dR_walkField_43 rfl (lv_at hl 0 rfl) ?_
    refine va_getsN hx hb zfMM hS hown (va_Nw.use rfl (hG.nf (RR, 88, "MOST_MARKS") (List.mem_of_getElem? (i := 8) rfl))) (fun _ h9 => h9) dR_walkField_44 ?_
    refine lv_iload_n hx hb dR_walkField_47 rfl (lv_at hl 3 rfl) ?_
    refine za_tab hx hb afMM hS (by omega) (by decide) dR_walkField_48 ?_
    refine zi_le (tgt := 59) hx hb (by omega) (by omega) dR_walkField_49 (by decide) (fun c_49 => ?_) (fun q => False.elim ((by omega)))
    refine va_getsN hx hb zfHL hS hown (va_Nw.use rfl (hG.nf (RR, 94, "HAS_LETTERS") (List.mem_of_getElem? (i := 10) rfl))) (fun _ h9 => h9) dR_walkField_59 ?_
    refine lv_iload_n hx hb dR_walkField_62 rfl (lv_at hl 3 rfl) ?_
    refine za_tab hx hb afHL hS (by omega) (by decide) dR_walkField_63 ?_
    refine zi_eq0 (tgt := 76) hx hb (by omega) dR_walkField_64 (by decide) (fun c_64 => ?_) (fun c_64 => ?_)
    · unfold valF at hv
      rw [if_pos c_64] at hv
      refine lv_aload_n hx hb dR_walkField_76 rfl (lv_at hl 2 rfl) ?_
      refine lv_iload_n hx hb dR_walkField_77 rfl (lv_at hl 3 rfl) ?_
      refine lv_iload_n hx hb dR_walkField_78 rfl (lv_at hl 0 rfl) ?_
      have hPc := hP.sub (ws' := [(r0, .inr (1, [.ref f0, .int (nI fk), .int fp, .ref t0, .int (nI (nx + ((fCD sl) + 1) / 2)), .int (nI (nmA tp nx (fCD sl) (fCD sl) 0 0))])), (t0, .inr (2, [.ref t1, .int (nI len)])), (t1, .inl (cB, 400, .inl (aB tp))), (f0, .inr (0, [.int (nI ty), .ref f1, .ref f2])), (f1, .inl (cI, 16, .inl (aN cnt))), (f2, .inl (cB, 208, .inl (aN mk)))]) [3, 4, 5, 0, 1, 2] rfl
      have hDc := hD.sub (ws' := [(r0, .inr (1, [.ref f0, .int (nI fk), .int fp, .ref t0, .int (nI (nx + ((fCD sl) + 1) / 2)), .int (nI (nmA tp nx (fCD sl) (fCD sl) 0 0))])), (t0, .inr (2, [.ref t1, .int (nI len)])), (t1, .inl (cB, 400, .inl (aB tp))), (f0, .inr (0, [.int (nI ty), .ref f1, .ref f2])), (f1, .inl (cI, 16, .inl (aN cnt))), (f2, .inl (cB, 208, .inl (aN mk)))]) [3, 4, 5, 0, 1, 2] (by decide) rfl
      have hFc := va_free (wc := [(r0, .inr (1, [.ref f0, .int (nI fk), .int fp, .ref t0, .int (nI (nx + ((fCD sl) + 1) / 2)), .int (nI (nmA tp nx (fCD sl) (fCD sl) 0 0))])), (t0, .inr (2, [.ref t1, .int (nI len)])), (t1, .inl (cB, 400, .inl (aB tp))), (f0, .inr (0, [.int (nI ty), .ref f1, .ref f2])), (f1, .inl (cI, 16, .inl (aN cnt))), (f2, .inl (cB, 208, .inl (aN mk)))]) hD hS hA [3, 4, 5, 0, 1, 2] rfl
      refine zc_Mi (va_runV (As := [.int (nI sl), .int (nI (nmA tp nx (fCD sl) (fCD sl) 0 0))]) (rest := []) ⟨hx, hb, hml, hown, hw⟩ (c_walkDigits_ok l dC dI r0 f0 fk fp t0 (nx + ((fCD sl) + 1) / 2) (nmA tp nx (fCD sl) (fCD sl) 0 0) t1 len cI cB tp f1 f2 ty cnt mk sl (nmA tp nx (fCD sl) (fCD sl) 0 0) (by omega) (by omega) htp (by omega) (by omega) (by omega) hv H.size) (cwV 2 hw (gV w_ml_R_100 w_im_R_walkDigits w_se_R_walkDigits w_in_R w_co_R_walkDigits) rfl rfl rfl (by decide +kernel) ⟨Nat.le_of_ble_eq_true rfl, Nat.le_of_ble_eq_true rfl⟩) (zM_V hG hS hFc hPc hDc hK 0 rfl rfl) rfl rfl hl.1 rfl (lv_room (Nat.le_of_ble_eq_true rfl)) dR_walkField_79 ⟨Nat.le_of_ble_eq_true rfl, Nat.le_of_ble_eq_true rfl⟩) hS hFc (fun r_4 H locs h_79 hP1 hD1 hk1 hS => ?_)
      obtain ⟨hP, hD⟩ := va_join (wr := []) (w1 := [(r0, .inr (1, [.ref f0, .int (nI fk), .int fp, .ref t0, .int (nI ((nx + ((fCD sl) + 1) / 2) + ((nmA tp nx (fCD sl) (fCD sl) 0 0) + 1) / 2)), .int (nI (nmA tp nx (fCD sl) (fCD sl) 0 0))])), (t0, .inr (2, [.ref t1, .int (nI len)])), (t1, .inl (cB, 400, .inl (aB tp))), (f0, .inr (0, [.int (nI ty), .ref f1, .ref f2])), (f1, .inl (cI, 16, .inl (aN (nup cnt sl (nmA tp nx (fCD sl) (fCD sl) 0 0))))), (f2, .inl (cB, 208, .inl (aN (dgC tp (nx + ((fCD sl) + 1) / 2) (nmA tp nx (fCD sl) (fCD sl) 0 0) (fFM sl) (nmA tp nx (fCD sl) (fCD sl) 0 0) 0 mk))))]) hP hD [3, 4, 5, 0, 1, 2] [] rfl rfl (by decide) (by decide) hk1 hFc hP1 hD1
      have hP : va_P (dC, dI) vwCl [(r0, .inr (1, [.ref f0, .int (nI fk), .int fp, .ref t0, .int (nI ((nx + ((fCD sl) + 1) / 2) + ((nmA tp nx (fCD sl) (fCD sl) 0 0) + 1) / 2)), .int (nI (nmA tp nx (fCD sl) (fCD sl) 0 0))])), (t0, .inr (2, [.ref t1, .int (nI len)])), (t1, .inl (cB, 400, .inl (aB tp))), (f0, .inr (0, [.int (nI ty), .ref f1, .ref f2])), (f1, .inl (cI, 16, .inl (aN (nup cnt sl (nmA tp nx (fCD sl) (fCD sl) 0 0))))), (f2, .inl (cB, 208, .inl (aN (dgC tp (nx + ((fCD sl) + 1) / 2) (nmA tp nx (fCD sl) (fCD sl) 0 0) (fFM sl) (nmA tp nx (fCD sl) (fCD sl) 0 0) 0 mk))))] H := hP
      have hD : va_D A [(r0, .inr (1, [.ref f0, .int (nI fk), .int fp, .ref t0, .int (nI ((nx + ((fCD sl) + 1) / 2) + ((nmA tp nx (fCD sl) (fCD sl) 0 0) + 1) / 2)), .int (nI (nmA tp nx (fCD sl) (fCD sl) 0 0))])), (t0, .inr (2, [.ref t1, .int (nI len)])), (t1, .inl (cB, 400, .inl (aB tp))), (f0, .inr (0, [.int (nI ty), .ref f1, .ref f2])), (f1, .inl (cI, 16, .inl (aN (nup cnt sl (nmA tp nx (fCD sl) (fCD sl) 0 0))))), (f2, .inl (cB, 208, .inl (aN (dgC tp (nx + ((fCD sl) + 1) / 2) (nmA tp nx (fCD sl) (fCD sl) 0 0) (fFM sl) (nmA tp nx (fCD sl) (fCD sl) 0 0) 0 mk))))] := hD
      subst h_79
      have eC : fCt tp nx sl = nmA tp nx (fCD sl) (fCD sl) 0 0 := if_neg c_11
      have eV : fVp nx sl = nx + (fCD sl + 1) / 2 := rfl
      have eL : fLn tp nx sl lnb = nmA tp nx (fCD sl) (fCD sl) 0 0 := if_neg c_11
      have eN : fNx tp nx sl = (nx + (fCD sl + 1) / 2) + (nmA tp nx (fCD sl) (fCD sl) 0 0 + 1) / 2 := by unfold fNx vNx; rw [if_pos c_64, eV, eC]
      have eM : fMk tp nx sl mk = dgC tp (nx + (fCD sl + 1) / 2) (nmA tp nx (fCD sl) (fCD sl) 0 0) (fFM sl) (nmA tp nx (fCD sl) (fCD sl) 0 0) 0 mk := by unfold fMk vMk; rw [if_pos c_64, eV, eC]
      rw [eN, eM, eL, eC] at hQ
      subst hAe
      subst hQ
      exact W.zret (v := nI 1) hx hb hr (by decide) (fun t ht hW => ⟨⟨nI 1, (), rfl, rfl, by rw [ht]; exact hP.sub [0, 1, 2, 3, 4, 5] rfl, hD.sub [0, 1, 2, 3, 4, 5] (by decide) rfl⟩, hS.F ht⟩) hS.2.2 dR_walkField_82
    · unfold valF at hv
      rw [if_neg c_64] at hv
      refine lv_aload_n hx hb dR_walkField_67 rfl (lv_at hl 2 rfl) ?_
      refine lv_iload_n hx hb dR_walkField_68 rfl (lv_at hl 3 rfl) ?_
      refine lv_iload_n hx hb dR_walkField_69 rfl (lv_at hl 0 rfl) ?_
      have hPc := hP.sub (ws' := [(r0, .inr (1, [.ref f0, .int (nI fk), .int fp, .ref t0, .int (nI (nx + ((fCD sl) + 1) / 2)), .int (nI (nmA tp nx (fCD sl) (fCD sl) 0 0))])), (t0, .inr (2, [.ref t1, .int (nI len)])), (t1, .inl (cB, 400, .inl (aB tp))), (f0, .inr (0, [.int (nI ty), .ref f1, .ref f2])), (f1, .inl (cI, 16, .inl (aN cnt))), (f2, .inl (cB, 208, .inl (aN mk)))]) [3, 4, 5, 0, 1, 2] rfl
      have hDc := hD.sub (ws' := [(r0, .inr (1, [.ref f0, .int (nI fk), .int fp, .ref t0, .int (nI (nx + ((fCD sl) + 1) / 2)), .int (nI (nmA tp nx (fCD sl) (fCD sl) 0 0))])), (t0, .inr (2, [.ref t1, .int (nI len)])), (t1, .inl (cB, 400, .inl (aB tp))), (f0, .inr (0, [.int (nI ty), .ref f1, .ref f2])), (f1, .inl (cI, 16, .inl (aN cnt))), (f2, .inl (cB, 208, .inl (aN mk)))]) [3, 4, 5, 0, 1, 2] (by decide) rfl
      have hFc := va_free (wc := [(r0, .inr (1, [.ref f0, .int (nI fk), .int fp, .ref t0, .int (nI (nx + ((fCD sl) + 1) / 2)), .int (nI (nmA tp nx (fCD sl) (fCD sl) 0 0))])), (t0, .inr (2, [.ref t1, .int (nI len)])), (t1, .inl (cB, 400, .inl (aB tp))), (f0, .inr (0, [.int (nI ty), .ref f1, .ref f2])), (f1, .inl (cI, 16, .inl (aN cnt))), (f2, .inl (cB, 208, .inl (aN mk)))]) hD hS hA [3, 4, 5, 0, 1, 2] rfl
      refine zc_Mi (va_runV (As := [.int (nI sl), .int (nI (nmA tp nx (fCD sl) (fCD sl) 0 0))]) (rest := []) ⟨hx, hb, hml, hown, hw⟩ (c_walkLetters_ok l dC dI r0 f0 fk fp t0 (nx + ((fCD sl) + 1) / 2) (nmA tp nx (fCD sl) (fCD sl) 0 0) t1 len cI cB tp f1 f2 ty cnt mk sl (nmA tp nx (fCD sl) (fCD sl) 0 0) (by omega) (by omega) htp (by omega) (by omega) (by omega) hv H.size) (cwV 2 hw (gV w_ml_R_97 w_im_R_walkLetters w_se_R_walkLetters w_in_R w_co_R_walkLetters) rfl rfl rfl (by decide +kernel) ⟨Nat.le_of_ble_eq_true rfl, Nat.le_of_ble_eq_true rfl⟩) (zM_V hG hS hFc hPc hDc hK 0 rfl rfl) rfl rfl hl.1 rfl (lv_room (Nat.le_of_ble_eq_true rfl)) dR_walkField_70 ⟨Nat.le_of_ble_eq_true rfl, Nat.le_of_ble_eq_true rfl⟩) hS hFc (fun r_5 H locs h_70 hP1 hD1 hk1 hS => ?_)
      obtain ⟨hP, hD⟩ := va_join (wr := []) (w1 := [(r0, .inr (1, [.ref f0, .int (nI fk), .int fp, .ref t0, .int (nI ((nx + ((fCD sl) + 1) / 2) + (nmA tp nx (fCD sl) (fCD sl) 0 0))), .int (nI (nmA tp nx (fCD sl) (fCD sl) 0 0))])), (t0, .inr (2, [.ref t1, .int (nI len)])), (t1, .inl (cB, 400, .inl (aB tp))), (f0, .inr (0, [.int (nI ty), .ref f1, .ref f2])), (f1, .inl (cI, 16, .inl (aN (nup cnt sl (nmA tp nx (fCD sl) (fCD sl) 0 0))))), (f2, .inl (cB, 208, .inl (aN (ltC tp (nx + ((fCD sl) + 1) / 2) (fFM sl) (nmA tp nx (fCD sl) (fCD sl) 0 0) 0 mk))))]) hP hD [3, 4, 5, 0, 1, 2] [] rfl rfl (by decide) (by decide) hk1 hFc hP1 hD1
      have hP : va_P (dC, dI) vwCl [(r0, .inr (1, [.ref f0, .int (nI fk), .int fp, .ref t0, .int (nI ((nx + ((fCD sl) + 1) / 2) + (nmA tp nx (fCD sl) (fCD sl) 0 0))), .int (nI (nmA tp nx (fCD sl) (fCD sl) 0 0))])), (t0, .inr (2, [.ref t1, .int (nI len)])), (t1, .inl (cB, 400, .inl (aB tp))), (f0, .inr (0, [.int (nI ty), .ref f1, .ref f2])), (f1, .inl (cI, 16, .inl (aN (nup cnt sl (nmA tp nx (fCD sl) (fCD sl) 0 0))))), (f2, .inl (cB, 208, .inl (aN (ltC tp (nx + ((fCD sl) + 1) / 2) (fFM sl) (nmA tp nx (fCD sl) (fCD sl) 0 0) 0 mk))))] H := hP
      have hD : va_D A [(r0, .inr (1, [.ref f0, .int (nI fk), .int fp, .ref t0, .int (nI ((nx + ((fCD sl) + 1) / 2) + (nmA tp nx (fCD sl) (fCD sl) 0 0))), .int (nI (nmA tp nx (fCD sl) (fCD sl) 0 0))])), (t0, .inr (2, [.ref t1, .int (nI len)])), (t1, .inl (cB, 400, .inl (aB tp))), (f0, .inr (0, [.int (nI ty), .ref f1, .ref f2])), (f1, .inl (cI, 16, .inl (aN (nup cnt sl (nmA tp nx (fCD sl) (fCD sl) 0 0))))), (f2, .inl (cB, 208, .inl (aN (ltC tp (nx + ((fCD sl) + 1) / 2) (fFM sl) (nmA tp nx (fCD sl) (fCD sl) 0 0) 0 mk))))] := hD
      subst h_70
      refine lv_goto (tgt := 82) hx hb dR_walkField_73 (by decide) ?_
      have eC : fCt tp nx sl = nmA tp nx (fCD sl) (fCD sl) 0 0 := if_neg c_11
      have eV : fVp nx sl = nx + (fCD sl + 1) / 2 := rfl
      have eL : fLn tp nx sl lnb = nmA tp nx (fCD sl) (fCD sl) 0 0 := if_neg c_11
      have eN : fNx tp nx sl = (nx + (fCD sl + 1) / 2) + (nmA tp nx (fCD sl) (fCD sl) 0 0) := by unfold fNx vNx; rw [if_neg c_64, eV, eC]
      have eM : fMk tp nx sl mk = ltC tp (nx + (fCD sl + 1) / 2) (fFM sl) (nmA tp nx (fCD sl) (fCD sl) 0 0) 0 mk := by unfold fMk vMk; rw [if_neg c_64, eV, eC]
      rw [eN, eM, eL, eC] at hQ
      subst hAe
      subst hQ
      exact W.zret (v := nI 1) hx hb hr (by decide) (fun t ht hW => ⟨⟨nI 1, (), rfl, rfl, by rw [ht]; exact hP.sub [0, 1, 2, 3, 4, 5] rfl, hD.sub [0, 1, 2, 3, 4, 5] (by decide) rfl⟩, hS.F ht⟩) hS.2.2 dR_walkField_82
def rm_c_walkField_no : Room := ({ frames := 4, cells := 0, slots := 0, locals := 89 } : Room)
set_option maxHeartbeats 4000000 in
set_option maxRecDepth 100000 in
theorem c_walkField_no (l : Launch) (dC : Nat → ClassId) (dI : Nat → Nat → Nat) (r0 : Nat) (f0 : Nat) (fk : Nat) (fp : Int32) (t0 : Nat) (nx : Nat) (lnb : Nat) (t1 : Nat) (len : Nat) (cI : ClassId) (cB : ClassId) (tp : Nat → Nat) (f1 : Nat) (f2 : Nat) (ty : Nat) (cnt : Nat → Nat) (mk : Nat → Nat) (sl : Nat) (k2 : Nat) (p2 : Nat) (hln : len ≤ 400) (hnl : nx ≤ len) (htp : ∀ j, tp j < 256) (hs : sl < 16) (hm : ∀ j, mk j < 128) (hd : fieldF tp len nx sl = some (k2, p2)) (sz : Nat) : Met l yR_walkField wsR_walkField rm_c_walkField_no (zM (dC, dI) [(cI, .int), (cB, .byte)] [.ref r0, .int (nI sl)] [(r0, .inr (1, [.ref f0, .int (nI fk), .int fp, .ref t0, .int (nI nx), .int (nI lnb)])), (t0, .inr (2, [.ref t1, .int (nI len)])), (t1, .inl (cB, 400, .inl (aB tp))), (f0, .inr (0, [.int (nI ty), .ref f1, .ref f2])), (f1, .inl (cI, 16, .inl (aN cnt))), (f2, .inl (cB, 208, .inl (aN mk)))] sz) (zSi (dC, dI) [(r0, .inr (1, [.ref f0, .int (nI fk), .int fp, .ref t0, .int (nI nx), .int (nI lnb)])), (t0, .inr (2, [.ref t1, .int (nI len)])), (t1, .inl (cB, 400, .inl (aB tp))), (f0, .inr (0, [.int (nI ty), .ref f1, .ref f2])), (f1, .inl (cI, 16, .inl (aN cnt))), (f2, .inl (cB, 208, .inl (aN mk)))] sz (fun r (u : Nat × Nat × (Nat → Nat)) => r = nI 0 ∧ ∀ j, u.2.2 j < 128) (fun u => [(r0, .inr (1, [.ref f0, .int (nI k2), .int (nI p2), .ref t0, .int (nI u.1), .int (nI u.2.1)])), (t0, .inr (2, [.ref t1, .int (nI len)])), (t1, .inl (cB, 400, .inl (aB tp))), (f0, .inr (0, [.int (nI ty), .ref f1, .ref f2])), (f1, .inl (cI, 16, .inl (aN cnt))), (f2, .inl (cB, 208, .inl (aN u.2.2)))])) 0 0 (va_A [(r0, .inr (1, [.ref f0, .int (nI fk), .int fp, .ref t0, .int (nI nx), .int (nI lnb)])), (t0, .inr (2, [.ref t1, .int (nI len)])), (t1, .inl (cB, 400, .inl (aB tp))), (f0, .inr (0, [.int (nI ty), .ref f1, .ref f2])), (f1, .inl (cI, 16, .inl (aN cnt))), (f2, .inl (cB, 208, .inl (aN mk)))] sz) := by
  refine Met.ofW (cc := cR_walkField) (maxL := 4) (ret := (some .boolean)) (by decide) rfl ?_
  intro p e s m args below meth c s₁ Bd hml hv
  obtain ⟨rfl, hsz, hG, hP, hK, hD0⟩ := hv
  subst hsz
  have hx := Bd.exec
  have hb := Bd.bytes
  have hr := Bd.returns
  have hts := atoms_spec (ws := wsR_walkField) Bd.pre
  have hw : ∀ w ∈ BIG, w.before _ s = true := fun w h => hts w (List.mem_cons_of_mem _ h)
  have hown : s.vm.findClass RR = some m.cls := findClass_of_methodNamed Bd.named
  have hlocks := Bd.notSynchronized
  have hD := hD0.self (sz := s.heap.size)
  obtain ⟨A, hAe⟩ : ∃ A, A = va_A [(r0, .inr (1, [.ref f0, .int (nI fk), .int fp, .ref t0, .int (nI nx), .int (nI lnb)])), (t0, .inr (2, [.ref t1, .int (nI len)])), (t1, .inl (cB, 400, .inl (aB tp))), (f0, .inr (0, [.int (nI ty), .ref f1, .ref f2])), (f1, .inl (cI, 16, .inl (aN cnt))), (f2, .inl (cB, 208, .inl (aN mk)))] s.heap.size := ⟨_, rfl⟩
  have hA : ∀ q : Nat, s.heap.size ≤ q → A q := fun q h => by rw [hAe]; exact Or.inr h
  rw [← hAe] at hG hD
  have hS : va_S A s.heap s.heap [] := va_S.rf
  have hl := lv_entry ([.ref r0, .int (nI sl)]) (n := 4) (Nat.le_of_ble_eq_true rfl)
  rw [lg_entry_eq]
  generalize (lg_sl ([.ref r0, .int (nI sl)]) ++ List.replicate (4 - (lg_sl ([.ref r0, .int (nI sl)])).length) Slot.unset).toArray = ls at hl ⊢
  have hl : lv_has ls 4 [(0, .ref r0), (1, .int (nI sl))] := hl
  refine zq_name (fun Q hQ => ?_)
  change W p l e rm_c_walkField_no s m _ below meth c _ _ _ _ Q _
  obtain ⟨tfMM, zfMM, afMM⟩ := hG.MOST_MARKS
  obtain ⟨tfCD, zfCD, afCD⟩ := hG.COUNT_DIGITS
  obtain ⟨tfHL, zfHL, afHL⟩ := hG.HAS_LETTERS
  have hcd := fCD_b sl hs
  have hmm := fMM_b sl hs
  have hfm := fFM_b sl hs
  have hhl := fHL_b sl hs
  refine va_getsN hx hb zfMM hS hown (va_Nw.use rfl (hG.nf (RR, 88, "MOST_MARKS") (List.mem_of_getElem? (i := 8) rfl))) (fun _ h9 => h9) dR_walkField_0 ?_
  refine lv_iload_n hx hb dR_walkField_3 rfl (lv_at hl 1 rfl) ?_
  refine za_tab hx hb afMM hS (by omega) (by decide) dR_walkField_4 ?_
  refine lv_istore_n (lv' := [(2, .int (nI (fMM sl))), (0, .ref r0), (1, .int (nI sl))]) hx hb dR_walkField_5 rfl hl (by decide) rfl (fun ls hl => ?_)
  refine va_getsN hx hb zfCD hS hown (va_Nw.use rfl (hG.nf (RR, 91, "COUNT_DIGITS") (List.mem_of_getElem? (i := 9) rfl))) (fun _ h9 => h9) dR_walkField_6 ?_
  refine lv_iload_n hx hb dR_walkField_9 rfl (lv_at hl 2 rfl) ?_
  refine za_tab hx hb afCD hS (by omega) (by decide) dR_walkField_10 ?_
  refine zi_eq0 (tgt := 59) hx hb (by omega) dR_walkField_11 (by decide) (fun c_11 => ?_) (fun c_11 => ?_)
  · have hv : valF tp len nx sl (fMM sl) = some (k2, p2) := by have h9 := hd; unfold fieldF at h9; rw [if_pos c_11] at h9; exact h9
    refine va_getsN hx hb zfHL hS hown (va_Nw.use rfl (hG.nf (RR, 94, "HAS_LETTERS") (List.mem_of_getElem? (i := 10) rfl))) (fun _ h9 => h9) dR_walkField_59 ?_
    refine lv_iload_n hx hb dR_walkField_62 rfl (lv_at hl 2 rfl) ?_
    refine za_tab hx hb afHL hS (by omega) (by decide) dR_walkField_63 ?_
    refine zi_eq0 (tgt := 76) hx hb (by omega) dR_walkField_64 (by decide) (fun c_64 => ?_) (fun c_64 => ?_)
    · unfold valF at hv
      rw [if_pos c_64] at hv
      refine lv_aload_n hx hb dR_walkField_76 rfl (lv_at hl 1 rfl) ?_
      refine lv_iload_n hx hb dR_walkField_77 rfl (lv_at hl 2 rfl) ?_
      refine lv_iload_n hx hb dR_walkField_78 rfl (lv_at hl 0 rfl) ?_
      have hPc := hP.sub (ws' := [(r0, .inr (1, [.ref f0, .int (nI fk), .int fp, .ref t0, .int (nI nx), .int (nI lnb)])), (t0, .inr (2, [.ref t1, .int (nI len)])), (t1, .inl (cB, 400, .inl (aB tp)))]) [0, 1, 2] rfl
      have hDc := hD.sub (ws' := [(r0, .inr (1, [.ref f0, .int (nI fk), .int fp, .ref t0, .int (nI nx), .int (nI lnb)])), (t0, .inr (2, [.ref t1, .int (nI len)])), (t1, .inl (cB, 400, .inl (aB tp)))]) [0, 1, 2] (by decide) rfl
      have hFc := va_free (wc := [(r0, .inr (1, [.ref f0, .int (nI fk), .int fp, .ref t0, .int (nI nx), .int (nI lnb)])), (t0, .inr (2, [.ref t1, .int (nI len)])), (t1, .inl (cB, 400, .inl (aB tp)))]) hD hS hA [0, 1, 2] rfl
      refine zc_Mi (va_runV (As := [.int (nI sl), .int (nI (fMM sl))]) (rest := []) ⟨hx, hb, hml, hown, hw⟩ (c_walkDigits_no l dC dI r0 f0 fk fp t0 nx lnb t1 len cI cB tp sl (fMM sl) k2 p2 (by omega) (by omega) htp (by omega) hv s.heap.size) (cwV 2 hw (gV w_ml_R_100 w_im_R_walkDigits w_se_R_walkDigits w_in_R w_co_R_walkDigits) rfl rfl rfl (by decide +kernel) ⟨Nat.le_of_ble_eq_true rfl, Nat.le_of_ble_eq_true rfl⟩) (zM_V hG hS hFc hPc hDc hK 0 rfl rfl) rfl rfl hl.1 rfl (lv_room (Nat.le_of_ble_eq_true rfl)) dR_walkField_79 ⟨Nat.le_of_ble_eq_true rfl, Nat.le_of_ble_eq_true rfl⟩) hS hFc (fun r_1 H locs h_79 hP1 hD1 hk1 hS => ?_)
      obtain ⟨hP, hD⟩ := va_join (wr := [(f0, .inr (0, [.int (nI ty), .ref f1, .ref f2])), (f1, .inl (cI, 16, .inl (aN cnt))), (f2, .inl (cB, 208, .inl (aN mk)))]) (w1 := [(r0, .inr (1, [.ref f0, .int (nI k2), .int (nI p2), .ref t0, .int (nI nx), .int (nI lnb)])), (t0, .inr (2, [.ref t1, .int (nI len)])), (t1, .inl (cB, 400, .inl (aB tp)))]) hP hD [0, 1, 2] [3, 4, 5] rfl rfl (by decide) (by decide) hk1 hFc hP1 hD1
      have hP : va_P (dC, dI) vwCl [(f0, .inr (0, [.int (nI ty), .ref f1, .ref f2])), (f1, .inl (cI, 16, .inl (aN cnt))), (f2, .inl (cB, 208, .inl (aN mk))), (r0, .inr (1, [.ref f0, .int (nI k2), .int (nI p2), .ref t0, .int (nI nx), .int (nI lnb)])), (t0, .inr (2, [.ref t1, .int (nI len)])), (t1, .inl (cB, 400, .inl (aB tp)))] H := hP
      have hD : va_D A [(f0, .inr (0, [.int (nI ty), .ref f1, .ref f2])), (f1, .inl (cI, 16, .inl (aN cnt))), (f2, .inl (cB, 208, .inl (aN mk))), (r0, .inr (1, [.ref f0, .int (nI k2), .int (nI p2), .ref t0, .int (nI nx), .int (nI lnb)])), (t0, .inr (2, [.ref t1, .int (nI len)])), (t1, .inl (cB, 400, .inl (aB tp)))] := hD
      subst h_79
      subst hAe
      subst hQ
      exact W.zret (v := nI 0) hx hb hr (by decide) (fun t ht hW => ⟨⟨nI 0, (nx, lnb, mk), rfl, ⟨rfl, hm⟩, by rw [ht]; exact hP.sub [3, 4, 5, 0, 1, 2] rfl, hD.sub [3, 4, 5, 0, 1, 2] (by decide) rfl⟩, hS.F ht⟩) hS.2.2 dR_walkField_82
    · unfold valF at hv
      rw [if_neg c_64] at hv
      refine lv_aload_n hx hb dR_walkField_67 rfl (lv_at hl 1 rfl) ?_
      refine lv_iload_n hx hb dR_walkField_68 rfl (lv_at hl 2 rfl) ?_
      refine lv_iload_n hx hb dR_walkField_69 rfl (lv_at hl 0 rfl) ?_
      have hPc := hP.sub (ws' := [(r0, .inr (1, [.ref f0, .int (nI fk), .int fp, .ref t0, .int (nI nx), .int (nI lnb)])), (t0, .inr (2, [.ref t1, .int (nI len)])), (t1, .inl (cB, 400, .inl (aB tp))), (f0, .inr (0, [.int (nI ty), .ref f1, .ref f2])), (f1, .inl (cI, 16, .inl (aN cnt))), (f2, .inl (cB, 208, .inl (aN mk)))]) [0, 1, 2, 3, 4, 5] rfl
      have hDc := hD.sub (ws' := [(r0, .inr (1, [.ref f0, .int (nI fk), .int fp, .ref t0, .int (nI nx), .int (nI lnb)])), (t0, .inr (2, [.ref t1, .int (nI len)])), (t1, .inl (cB, 400, .inl (aB tp))), (f0, .inr (0, [.int (nI ty), .ref f1, .ref f2])), (f1, .inl (cI, 16, .inl (aN cnt))), (f2, .inl (cB, 208, .inl (aN mk)))]) [0, 1, 2, 3, 4, 5] (by decide) rfl
      have hFc := va_free (wc := [(r0, .inr (1, [.ref f0, .int (nI fk), .int fp, .ref t0, .int (nI nx), .int (nI lnb)])), (t0, .inr (2, [.ref t1, .int (nI len)])), (t1, .inl (cB, 400, .inl (aB tp))), (f0, .inr (0, [.int (nI ty), .ref f1, .ref f2])), (f1, .inl (cI, 16, .inl (aN cnt))), (f2, .inl (cB, 208, .inl (aN mk)))]) hD hS hA [0, 1, 2, 3, 4, 5] rfl
      refine zc_Si (va_runV (As := [.int (nI sl), .int (nI (fMM sl))]) (rest := []) ⟨hx, hb, hml, hown, hw⟩ (c_walkLetters_no l dC dI r0 f0 fk fp t0 nx lnb t1 len cI cB tp f1 f2 ty cnt mk sl (fMM sl) k2 p2 (by omega) (by omega) htp (by omega) (by omega) (by omega) hm hv s.heap.size) (cwV 2 hw (gV w_ml_R_97 w_im_R_walkLetters w_se_R_walkLetters w_in_R w_co_R_walkLetters) rfl rfl rfl (by decide +kernel) ⟨Nat.le_of_ble_eq_true rfl, Nat.le_of_ble_eq_true rfl⟩) (zM_V hG hS hFc hPc hDc hK 0 rfl rfl) rfl rfl hl.1 rfl (lv_room (Nat.le_of_ble_eq_true rfl)) dR_walkField_70 ⟨Nat.le_of_ble_eq_true rfl, Nat.le_of_ble_eq_true rfl⟩) hS hFc (fun r_2 u_70 H locs h_70 hP1 hD1 hk1 hS => ?_)
      obtain ⟨hP, hD⟩ := va_join (wr := []) (w1 := [(r0, .inr (1, [.ref f0, .int (nI k2), .int (nI p2), .ref t0, .int (nI nx), .int (nI lnb)])), (t0, .inr (2, [.ref t1, .int (nI len)])), (t1, .inl (cB, 400, .inl (aB tp))), (f0, .inr (0, [.int (nI ty), .ref f1, .ref f2])), (f1, .inl (cI, 16, .inl (aN cnt))), (f2, .inl (cB, 208, .inl (aN u_70)))]) hP hD [0, 1, 2, 3, 4, 5] [] rfl rfl (by decide) (by decide) hk1 hFc hP1 hD1
      have hP : va_P (dC, dI) vwCl [(r0, .inr (1, [.ref f0, .int (nI k2), .int (nI p2), .ref t0, .int (nI nx), .int (nI lnb)])), (t0, .inr (2, [.ref t1, .int (nI len)])), (t1, .inl (cB, 400, .inl (aB tp))), (f0, .inr (0, [.int (nI ty), .ref f1, .ref f2])), (f1, .inl (cI, 16, .inl (aN cnt))), (f2, .inl (cB, 208, .inl (aN u_70)))] H := hP
      have hD : va_D A [(r0, .inr (1, [.ref f0, .int (nI k2), .int (nI p2), .ref t0, .int (nI nx), .int (nI lnb)])), (t0, .inr (2, [.ref t1, .int (nI len)])), (t1, .inl (cB, 400, .inl (aB tp))), (f0, .inr (0, [.int (nI ty), .ref f1, .ref f2])), (f1, .inl (cI, 16, .inl (aN cnt))), (f2, .inl (cB, 208, .inl (aN u_70)))] := hD
      obtain ⟨rfl, hu_h_70⟩ := h_70
      refine lv_goto (tgt := 82) hx hb dR_walkField_73 (by decide) ?_
      subst hAe
      subst hQ
      exact W.zret (v := nI 0) hx hb hr (by decide) (fun t ht hW => ⟨⟨nI 0, (nx, lnb, u_70), rfl, ⟨rfl, hu_h_70⟩, by rw [ht]; exact hP.sub [0, 1, 2, 3, 4, 5] rfl, hD.sub [0, 1, 2, 3, 4, 5] (by decide) rfl⟩, hS.F ht⟩) hS.2.2 dR_walkField_82
  · rcases fieldF_no hd c_11 with hd9 | ⟨hd9, hct, rfl, rfl⟩ | ⟨hd9, hct1, hct2, hv⟩
    · have hnb := nmA_b htp (nx := nx) (ct := fCD sl) (by omega)
      refine lv_aload_n hx hb dR_walkField_14 rfl (lv_at hl 1 rfl) ?_
      refine va_get (D := (dC, dI)) (ci := 1) (v := .int (nI nx)) (C := RR) (T := TR) (N := 6) hx hb hw inR hown hK hP 0 rfl rfl 4 (by decide) (hw _ w_fl_R_25) (fun _ h9 => h9) rfl dR_walkField_15 ?_
      refine lv_istore_n (lv' := [(3, .int (nI nx)), (2, .int (nI (fMM sl))), (0, .ref r0), (1, .int (nI sl))]) hx hb dR_walkField_18 rfl hl (by decide) rfl (fun ls hl => ?_)
      refine lv_aload_n hx hb dR_walkField_19 rfl (lv_at hl 2 rfl) ?_
      refine va_getsN hx hb zfCD hS hown (va_Nw.use rfl (hG.nf (RR, 91, "COUNT_DIGITS") (List.mem_of_getElem? (i := 9) rfl))) (fun _ h9 => h9) dR_walkField_20 ?_
      refine lv_iload_n hx hb dR_walkField_23 rfl (lv_at hl 3 rfl) ?_
      refine za_tab hx hb afCD hS (by omega) (by decide) dR_walkField_24 ?_
      have hPc := hP.sub (ws' := [(r0, .inr (1, [.ref f0, .int (nI fk), .int fp, .ref t0, .int (nI nx), .int (nI lnb)])), (t0, .inr (2, [.ref t1, .int (nI len)])), (t1, .inl (cB, 400, .inl (aB tp)))]) [0, 1, 2] rfl
      have hDc := hD.sub (ws' := [(r0, .inr (1, [.ref f0, .int (nI fk), .int fp, .ref t0, .int (nI nx), .int (nI lnb)])), (t0, .inr (2, [.ref t1, .int (nI len)])), (t1, .inl (cB, 400, .inl (aB tp)))]) [0, 1, 2] (by decide) rfl
      have hFc := va_free (wc := [(r0, .inr (1, [.ref f0, .int (nI fk), .int fp, .ref t0, .int (nI nx), .int (nI lnb)])), (t0, .inr (2, [.ref t1, .int (nI len)])), (t1, .inl (cB, 400, .inl (aB tp)))]) hD hS hA [0, 1, 2] rfl
      refine zc_Mi (va_runV (As := [.int (nI (fCD sl))]) (rest := []) ⟨hx, hb, hml, hown, hw⟩ (c_walkNumber_no l dC dI r0 f0 fk fp t0 nx lnb t1 len cI cB tp (fCD sl) k2 p2 (by omega) (by omega) htp (by omega) hd9 s.heap.size) (cwV 1 hw (gV w_ml_R_69 w_im_R_walkNumber w_se_R_walkNumber w_in_R w_co_R_walkNumber) rfl rfl rfl (by decide +kernel) ⟨Nat.le_of_ble_eq_true rfl, Nat.le_of_ble_eq_true rfl⟩) (zM_V hG hS hFc hPc hDc hK 0 rfl rfl) rfl rfl hl.1 rfl (lv_room (Nat.le_of_ble_eq_true rfl)) dR_walkField_25 ⟨Nat.le_of_ble_eq_true rfl, Nat.le_of_ble_eq_true rfl⟩) hS hFc (fun r_3 H locs h_25 hP1 hD1 hk1 hS => ?_)
      obtain ⟨hP, hD⟩ := va_join (wr := [(f0, .inr (0, [.int (nI ty), .ref f1, .ref f2])), (f1, .inl (cI, 16, .inl (aN cnt))), (f2, .inl (cB, 208, .inl (aN mk)))]) (w1 := [(r0, .inr (1, [.ref f0, .int (nI k2), .int (nI p2), .ref t0, .int (nI nx), .int (nI lnb)])), (t0, .inr (2, [.ref t1, .int (nI len)])), (t1, .inl (cB, 400, .inl (aB tp)))]) hP hD [0, 1, 2] [3, 4, 5] rfl rfl (by decide) (by decide) hk1 hFc hP1 hD1
      have hP : va_P (dC, dI) vwCl [(f0, .inr (0, [.int (nI ty), .ref f1, .ref f2])), (f1, .inl (cI, 16, .inl (aN cnt))), (f2, .inl (cB, 208, .inl (aN mk))), (r0, .inr (1, [.ref f0, .int (nI k2), .int (nI p2), .ref t0, .int (nI nx), .int (nI lnb)])), (t0, .inr (2, [.ref t1, .int (nI len)])), (t1, .inl (cB, 400, .inl (aB tp)))] H := hP
      have hD : va_D A [(f0, .inr (0, [.int (nI ty), .ref f1, .ref f2])), (f1, .inl (cI, 16, .inl (aN cnt))), (f2, .inl (cB, 208, .inl (aN mk))), (r0, .inr (1, [.ref f0, .int (nI k2), .int (nI p2), .ref t0, .int (nI nx), .int (nI lnb)])), (t0, .inr (2, [.ref t1, .int (nI len)])), (t1, .inl (cB, 400, .inl (aB tp)))] := hD
      subst h_25
      refine lv_if_ne (tgt := 33) hx hb dR_walkField_28 (by decide) (fun q => False.elim (absurd q (by decide))) (fun c_28 => ?_)
      refine lv_iconst (v := nI 0) hx hb dR_walkField_31 (by decide) ?_
      subst hAe
      subst hQ
      exact W.zret (v := nI 0) hx hb hr (by decide) (fun t ht hW => ⟨⟨nI 0, (nx, lnb, mk), rfl, ⟨rfl, hm⟩, by rw [ht]; exact hP.sub [3, 4, 5, 0, 1, 2] rfl, hD.sub [3, 4, 5, 0, 1, 2] (by decide) rfl⟩, hS.F ht⟩) hS.2.2 dR_walkField_32
    · have hnb := nmA_b htp (nx := nx) (ct := fCD sl) (by omega)
      have hs9 := dgF_fit hd9
      refine lv_aload_n hx hb dR_walkField_14 rfl (lv_at hl 1 rfl) ?_
      refine va_get (D := (dC, dI)) (ci := 1) (v := .int (nI nx)) (C := RR) (T := TR) (N := 6) hx hb hw inR hown hK hP 0 rfl rfl 4 (by decide) (hw _ w_fl_R_25) (fun _ h9 => h9) rfl dR_walkField_15 ?_
      refine lv_istore_n (lv' := [(3, .int (nI nx)), (2, .int (nI (fMM sl))), (0, .ref r0), (1, .int (nI sl))]) hx hb dR_walkField_18 rfl hl (by decide) rfl (fun ls hl => ?_)
      refine lv_aload_n hx hb dR_walkField_19 rfl (lv_at hl 2 rfl) ?_
      refine va_getsN hx hb zfCD hS hown (va_Nw.use rfl (hG.nf (RR, 91, "COUNT_DIGITS") (List.mem_of_getElem? (i := 9) rfl))) (fun _ h9 => h9) dR_walkField_20 ?_
      refine lv_iload_n hx hb dR_walkField_23 rfl (lv_at hl 3 rfl) ?_
      refine za_tab hx hb afCD hS (by omega) (by decide) dR_walkField_24 ?_
      have hPc := hP.sub (ws' := [(r0, .inr (1, [.ref f0, .int (nI fk), .int fp, .ref t0, .int (nI nx), .int (nI lnb)])), (t0, .inr (2, [.ref t1, .int (nI len)])), (t1, .inl (cB, 400, .inl (aB tp)))]) [0, 1, 2] rfl
      have hDc := hD.sub (ws' := [(r0, .inr (1, [.ref f0, .int (nI fk), .int fp, .ref t0, .int (nI nx), .int (nI lnb)])), (t0, .inr (2, [.ref t1, .int (nI len)])), (t1, .inl (cB, 400, .inl (aB tp)))]) [0, 1, 2] (by decide) rfl
      have hFc := va_free (wc := [(r0, .inr (1, [.ref f0, .int (nI fk), .int fp, .ref t0, .int (nI nx), .int (nI lnb)])), (t0, .inr (2, [.ref t1, .int (nI len)])), (t1, .inl (cB, 400, .inl (aB tp)))]) hD hS hA [0, 1, 2] rfl
      refine zc_Mi (va_runV (As := [.int (nI (fCD sl))]) (rest := []) ⟨hx, hb, hml, hown, hw⟩ (c_walkNumber_ok l dC dI r0 f0 fk fp t0 nx lnb t1 len cI cB tp (fCD sl) (by omega) (by omega) htp (by omega) hd9 s.heap.size) (cwV 1 hw (gV w_ml_R_69 w_im_R_walkNumber w_se_R_walkNumber w_in_R w_co_R_walkNumber) rfl rfl rfl (by decide +kernel) ⟨Nat.le_of_ble_eq_true rfl, Nat.le_of_ble_eq_true rfl⟩) (zM_V hG hS hFc hPc hDc hK 0 rfl rfl) rfl rfl hl.1 rfl (lv_room (Nat.le_of_ble_eq_true rfl)) dR_walkField_25 ⟨Nat.le_of_ble_eq_true rfl, Nat.le_of_ble_eq_true rfl⟩) hS hFc (fun r_4 H locs h_25 hP1 hD1 hk1 hS => ?_)
      obtain ⟨hP, hD⟩ := va_join (wr := [(f0, .inr (0, [.int (nI ty), .ref f1, .ref f2])), (f1, .inl (cI, 16, .inl (aN cnt))), (f2, .inl (cB, 208, .inl (aN mk)))]) (w1 := [(r0, .inr (1, [.ref f0, .int (nI fk), .int fp, .ref t0, .int (nI (nx + ((fCD sl) + 1) / 2)), .int (nI (nmA tp nx (fCD sl) (fCD sl) 0 0))])), (t0, .inr (2, [.ref t1, .int (nI len)])), (t1, .inl (cB, 400, .inl (aB tp)))]) hP hD [0, 1, 2] [3, 4, 5] rfl rfl (by decide) (by decide) hk1 hFc hP1 hD1
      have hP : va_P (dC, dI) vwCl [(f0, .inr (0, [.int (nI ty), .ref f1, .ref f2])), (f1, .inl (cI, 16, .inl (aN cnt))), (f2, .inl (cB, 208, .inl (aN mk))), (r0, .inr (1, [.ref f0, .int (nI fk), .int fp, .ref t0, .int (nI (nx + ((fCD sl) + 1) / 2)), .int (nI (nmA tp nx (fCD sl) (fCD sl) 0 0))])), (t0, .inr (2, [.ref t1, .int (nI len)])), (t1, .inl (cB, 400, .inl (aB tp)))] H := hP
      have hD : va_D A [(f0, .inr (0, [.int (nI ty), .ref f1, .ref f2])), (f1, .inl (cI, 16, .inl (aN cnt))), (f2, .inl (cB, 208, .inl (aN mk))), (r0, .inr (1, [.ref f0, .int (nI fk), .int fp, .ref t0, .int (nI (nx + ((fCD sl) + 1) / 2)), .int (nI (nmA tp nx (fCD sl) (fCD sl) 0 0))])), (t0, .inr (2, [.ref t1, .int (nI len)])), (t1, .inl (cB, 400, .inl (aB tp)))] := hD
      subst h_25
      refine lv_if_ne (tgt := 33) hx hb dR_walkField_28 (by decide) (fun c_28 => ?_) (fun q => False.elim (absurd q (by decide)))
      refine lv_aload_n hx hb dR_walkField_33 rfl (lv_at hl 2 rfl) ?_
      refine va_get (D := (dC, dI)) (ci := 1) (v := .int (nI (nmA tp nx (fCD sl) (fCD sl) 0 0))) (C := RR) (T := TR) (N := 6) hx hb hw inR hown hK hP 3 rfl rfl 5 (by decide) (hw _ w_fl_R_28) (fun _ h9 => h9) rfl dR_walkField_34 ?_
      refine lv_istore_n (lv' := [(2, .int (nI (nmA tp nx (fCD sl) (fCD sl) 0 0))), (3, .int (nI nx)), (0, .ref r0), (1, .int (nI sl))]) hx hb dR_walkField_37 rfl hl (by decide) rfl (fun ls hl => ?_)
      refine lv_iload_n hx hb dR_walkField_38 rfl (lv_at hl 0 rfl) ?_
      refine lv_iconst (v := nI 1) hx hb dR_walkField_39 (by decide) ?_
      refine zi_lt (tgt := 52) hx hb (by omega) (by omega) dR_walkField_40 (by decide) (fun c_40 => ?_) (fun c_40 => ?_)
      · refine lv_aload_n hx hb dR_walkField_52 rfl (lv_at hl 2 rfl) ?_
        refine lv_iconst (v := nI 5) hx hb dR_walkField_53 (by decide) ?_
        refine lv_iload_n hx hb dR_walkField_54 rfl (lv_at hl 1 rfl) ?_
        have hPc := hP.sub (ws' := [(r0, .inr (1, [.ref f0, .int (nI fk), .int fp, .ref t0, .int (nI (nx + ((fCD sl) + 1) / 2)), .int (nI (nmA tp nx (fCD sl) (fCD sl) 0 0))]))]) [3] rfl
        have hDc := hD.sub (ws' := [(r0, .inr (1, [.ref f0, .int (nI fk), .int fp, .ref t0, .int (nI (nx + ((fCD sl) + 1) / 2)), .int (nI (nmA tp nx (fCD sl) (fCD sl) 0 0))]))]) [3] (by decide) rfl
        have hFc := va_free (wc := [(r0, .inr (1, [.ref f0, .int (nI fk), .int fp, .ref t0, .int (nI (nx + ((fCD sl) + 1) / 2)), .int (nI (nmA tp nx (fCD sl) (fCD sl) 0 0))]))]) hD hS hA [3] rfl
        refine zc_Mi (va_runV (As := [.int (nI 5), .int (nI nx)]) (rest := []) ⟨hx, hb, hml, hown, hw⟩ (c_R_fail l dC dI r0 f0 fk fp t0 (nx + ((fCD sl) + 1) / 2) (nmA tp nx (fCD sl) (fCD sl) 0 0) cI cB 5 (nI nx) H.size) (cwV 2 hw (gV w_ml_R_65 w_im_R_fail w_se_R_fail w_in_R w_co_R_fail) rfl rfl rfl (by decide +kernel) ⟨Nat.le_of_ble_eq_true rfl, Nat.le_of_ble_eq_true rfl⟩) (zM_V hG hS hFc hPc hDc hK 0 rfl rfl) rfl rfl hl.1 rfl (lv_room (Nat.le_of_ble_eq_true rfl)) dR_walkField_55 ⟨Nat.le_of_ble_eq_true rfl, Nat.le_of_ble_eq_true rfl⟩) hS hFc (fun r_5 H locs h_55 hP1 hD1 hk1 hS => ?_)
        obtain ⟨hP, hD⟩ := va_join (wr := [(f0, .inr (0, [.int (nI ty), .ref f1, .ref f2])), (f1, .inl (cI, 16, .inl (aN cnt))), (f2, .inl (cB, 208, .inl (aN mk))), (t0, .inr (2, [.ref t1, .int (nI len)])), (t1, .inl (cB, 400, .inl (aB tp)))]) (w1 := [(r0, .inr (1, [.ref f0, .int (nI 5), .int (nI nx), .ref t0, .int (nI (nx + ((fCD sl) + 1) / 2)), .int (nI (nmA tp nx (fCD sl) (fCD sl) 0 0))]))]) hP hD [3] [0, 1, 2, 4, 5] rfl rfl (by decide) (by decide) hk1 hFc hP1 hD1
        have hP : va_P (dC, dI) vwCl [(f0, .inr (0, [.int (nI ty), .ref f1, .ref f2])), (f1, .inl (cI, 16, .inl (aN cnt))), (f2, .inl (cB, 208, .inl (aN mk))), (t0, .inr (2, [.ref t1, .int (nI len)])), (t1, .inl (cB, 400, .inl (aB tp))), (r0, .inr (1, [.ref f0, .int (nI 5), .int (nI nx), .ref t0, .int (nI (nx + ((fCD sl) + 1) / 2)), .int (nI (nmA tp nx (fCD sl) (fCD sl) 0 0))]))] H := hP
        have hD : va_D A [(f0, .inr (0, [.int (nI ty), .ref f1, .ref f2])), (f1, .inl (cI, 16, .inl (aN cnt))), (f2, .inl (cB, 208, .inl (aN mk))), (t0, .inr (2, [.ref t1, .int (nI len)])), (t1, .inl (cB, 400, .inl (aB tp))), (r0, .inr (1, [.ref f0, .int (nI 5), .int (nI nx), .ref t0, .int (nI (nx + ((fCD sl) + 1) / 2)), .int (nI (nmA tp nx (fCD sl) (fCD sl) 0 0))]))] := hD
        subst h_55
        subst hAe
        subst hQ
        exact W.zret (v := nI 0) hx hb hr (by decide) (fun t ht hW => ⟨⟨nI 0, ((nx + ((fCD sl) + 1) / 2), (nmA tp nx (fCD sl) (fCD sl) 0 0), mk), rfl, ⟨rfl, hm⟩, by rw [ht]; exact hP.sub [5, 3, 4, 0, 1, 2] rfl, hD.sub [5, 3, 4, 0, 1, 2] (by decide) rfl⟩, hS.F ht⟩) hS.2.2 dR_walkField_58
      · refine lv_iload_n hx hb dR_walkField_43 rfl (lv_at hl 0 rfl) ?_
        refine va_getsN hx hb zfMM hS hown (va_Nw.use rfl (hG.nf (RR, 88, "MOST_MARKS") (List.mem_of_getElem? (i := 8) rfl))) (fun _ h9 => h9) dR_walkField_44 ?_
        refine lv_iload_n hx hb dR_walkField_47 rfl (lv_at hl 3 rfl) ?_
        refine za_tab hx hb afMM hS (by omega) (by decide) dR_walkField_48 ?_
        refine zi_le (tgt := 59) hx hb (by omega) (by omega) dR_walkField_49 (by decide) (fun q => False.elim ((by omega))) (fun c_49 => ?_)
        refine lv_aload_n hx hb dR_walkField_52 rfl (lv_at hl 2 rfl) ?_
        refine lv_iconst (v := nI 5) hx hb dR_walkField_53 (by decide) ?_
        refine lv_iload_n hx hb dR_walkField_54 rfl (lv_at hl 1 rfl) ?_
        have hPc := hP.sub (ws' := [(r0, .inr (1, [.ref f0, .int (nI fk), .int fp, .ref t0, .int (nI (nx + ((fCD sl) + 1) / 2)), .int (nI (nmA tp nx (fCD sl) (fCD sl) 0 0))]))]) [3] rfl
        have hDc := hD.sub (ws' := [(r0, .inr (1, [.ref f0, .int (nI fk), .int fp, .ref t0, .int (nI (nx + ((fCD sl) + 1) / 2)), .int (nI (nmA tp nx (fCD sl) (fCD sl) 0 0))]))]) [3] (by decide) rfl
        have hFc := va_free (wc := [(r0, .inr (1, [.ref f0, .int (nI fk), .int fp, .ref t0, .int (nI (nx + ((fCD sl) + 1) / 2)), .int (nI (nmA tp nx (fCD sl) (fCD sl) 0 0))]))]) hD hS hA [3] rfl
        refine zc_Mi (va_runV (As := [.int (nI 5), .int (nI nx)]) (rest := []) ⟨hx, hb, hml, hown, hw⟩ (c_R_fail l dC dI r0 f0 fk fp t0 (nx + ((fCD sl) + 1) / 2) (nmA tp nx (fCD sl) (fCD sl) 0 0) cI cB 5 (nI nx) H.size) (cwV 2 hw (gV w_ml_R_65 w_im_R_fail w_se_R_fail w_in_R w_co_R_fail) rfl rfl rfl (by decide +kernel) ⟨Nat.le_of_ble_eq_true rfl, Nat.le_of_ble_eq_true rfl⟩) (zM_V hG hS hFc hPc hDc hK 0 rfl rfl) rfl rfl hl.1 rfl (lv_room (Nat.le_of_ble_eq_true rfl)) dR_walkField_55 ⟨Nat.le_of_ble_eq_true rfl, Nat.le_of_ble_eq_true rfl⟩) hS hFc (fun r_6 H locs h_55 hP1 hD1 hk1 hS => ?_)
        obtain ⟨hP, hD⟩ := va_join (wr := [(f0, .inr (0, [.int (nI ty), .ref f1, .ref f2])), (f1, .inl (cI, 16, .inl (aN cnt))), (f2, .inl (cB, 208, .inl (aN mk))), (t0, .inr (2, [.ref t1, .int (nI len)])), (t1, .inl (cB, 400, .inl (aB tp)))]) (w1 := [(r0, .inr (1, [.ref f0, .int (nI 5), .int (nI nx), .ref t0, .int (nI (nx + ((fCD sl) + 1) / 2)), .int (nI (nmA tp nx (fCD sl) (fCD sl) 0 0))]))]) hP hD [3] [0, 1, 2, 4, 5] rfl rfl (by decide) (by decide) hk1 hFc hP1 hD1
        have hP : va_P (dC, dI) vwCl [(f0, .inr (0, [.int (nI ty), .ref f1, .ref f2])), (f1, .inl (cI, 16, .inl (aN cnt))), (f2, .inl (cB, 208, .inl (aN mk))), (t0, .inr (2, [.ref t1, .int (nI len)])), (t1, .inl (cB, 400, .inl (aB tp))), (r0, .inr (1, [.ref f0, .int (nI 5), .int (nI nx), .ref t0, .int (nI (nx + ((fCD sl) + 1) / 2)), .int (nI (nmA tp nx (fCD sl) (fCD sl) 0 0))]))] H := hP
        have hD : va_D A [(f0, .inr (0, [.int (nI ty), .ref f1, .ref f2])), (f1, .inl (cI, 16, .inl (aN cnt))), (f2, .inl (cB, 208, .inl (aN mk))), (t0, .inr (2, [.ref t1, .int (nI len)])), (t1, .inl (cB, 400, .inl (aB tp))), (r0, .inr (1, [.ref f0, .int (nI 5), .int (nI nx), .ref t0, .int (nI (nx + ((fCD sl) + 1) / 2)), .int (nI (nmA tp nx (fCD sl) (fCD sl) 0 0))]))] := hD
        subst h_55
        subst hAe
        subst hQ
        exact W.zret (v := nI 0) hx hb hr (by decide) (fun t ht hW => ⟨⟨nI 0, ((nx + ((fCD sl) + 1) / 2), (nmA tp nx (fCD sl) (fCD sl) 0 0), mk), rfl, ⟨rfl, hm⟩, by rw [ht]; exact hP.sub [5, 3, 4, 0, 1, 2] rfl, hD.sub [5, 3, 4, 0, 1, 2] (by decide) rfl⟩, hS.F ht⟩) hS.2.2 dR_walkField_58
    · have hnb := nmA_b htp (nx := nx) (ct := fCD sl) (by omega)
      have hs9 := dgF_fit hd9
      refine lv_aload_n hx hb dR_walkField_14 rfl (lv_at hl 1 rfl) ?_
      refine va_get (D := (dC, dI)) (ci := 1) (v := .int (nI nx)) (C := RR) (T := TR) (N := 6) hx hb hw inR hown hK hP 0 rfl rfl 4 (by decide) (hw _ w_fl_R_25) (fun _ h9 => h9) rfl dR_walkField_15 ?_
      refine lv_istore_n (lv' := [(3, .int (nI nx)), (2, .int (nI (fMM sl))), (0, .ref r0), (1, .int (nI sl))]) hx hb dR_walkField_18 rfl hl (by decide) rfl (fun ls hl => ?_)
      refine lv_aload_n hx hb dR_walkField_19 rfl (lv_at hl 2 rfl) ?_
      refine va_getsN hx hb zfCD hS hown (va_Nw.use rfl (hG.nf (RR, 91, "COUNT_DIGITS") (List.mem_of_getElem? (i := 9) rfl))) (fun _ h9 => h9) dR_walkField_20 ?_
      refine lv_iload_n hx hb dR_walkField_23 rfl (lv_at hl 3 rfl) ?_
      refine za_tab hx hb afCD hS (by omega) (by decide) dR_walkField_24 ?_
      have hPc := hP.sub (ws' := [(r0, .inr (1, [.ref f0, .int (nI fk), .int fp, .ref t0, .int (nI nx), .int (nI lnb)])), (t0, .inr (2, [.ref t1, .int (nI len)])), (t1, .inl (cB, 400, .inl (aB tp)))]) [0, 1, 2] rfl
      have hDc := hD.sub (ws' := [(r0, .inr (1, [.ref f0, .int (nI fk), .int fp, .ref t0, .int (nI nx), .int (nI lnb)])), (t0, .inr (2, [.ref t1, .int (nI len)])), (t1, .inl (cB, 400, .inl (aB tp)))]) [0, 1, 2] (by decide) rfl
      have hFc := va_free (wc := [(r0, .inr (1, [.ref f0, .int (nI fk), .int fp, .ref t0, .int (nI nx), .int (nI lnb)])), (t0, .inr (2, [.ref t1, .int (nI len)])), (t1, .inl (cB, 400, .inl (aB tp)))]) hD hS hA [0, 1, 2] rfl
      refine zc_Mi (va_runV (As := [.int (nI (fCD sl))]) (rest := []) ⟨hx, hb, hml, hown, hw⟩ (c_walkNumber_ok l dC dI r0 f0 fk fp t0 nx lnb t1 len cI cB tp (fCD sl) (by omega) (by omega) htp (by omega) hd9 s.heap.size) (cwV 1 hw (gV w_ml_R_69 w_im_R_walkNumber w_se_R_walkNumber w_in_R w_co_R_walkNumber) rfl rfl rfl (by decide +kernel) ⟨Nat.le_of_ble_eq_true rfl, Nat.le_of_ble_eq_true rfl⟩) (zM_V hG hS hFc hPc hDc hK 0 rfl rfl) rfl rfl hl.1 rfl (lv_room (Nat.le_of_ble_eq_true rfl)) dR_walkField_25 ⟨Nat.le_of_ble_eq_true rfl, Nat.le_of_ble_eq_true rfl⟩) hS hFc (fun r_7 H locs h_25 hP1 hD1 hk1 hS => ?_)
      obtain ⟨hP, hD⟩ := va_join (wr := [(f0, .inr (0, [.int (nI ty), .ref f1, .ref f2])), (f1, .inl (cI, 16, .inl (aN cnt))), (f2, .inl (cB, 208, .inl (aN mk)))]) (w1 := [(r0, .inr (1, [.ref f0, .int (nI fk), .int fp, .ref t0, .int (nI (nx + ((fCD sl) + 1) / 2)), .int (nI (nmA tp nx (fCD sl) (fCD sl) 0 0))])), (t0, .inr (2, [.ref t1, .int (nI len)])), (t1, .inl (cB, 400, .inl (aB tp)))]) hP hD [0, 1, 2] [3, 4, 5] rfl rfl (by decide) (by decide) hk1 hFc hP1 hD1
      have hP : va_P (dC, dI) vwCl [(f0, .inr (0, [.int (nI ty), .ref f1, .ref f2])), (f1, .inl (cI, 16, .inl (aN cnt))), (f2, .inl (cB, 208, .inl (aN mk))), (r0, .inr (1, [.ref f0, .int (nI fk), .int fp, .ref t0, .int (nI (nx + ((fCD sl) + 1) / 2)), .int (nI (nmA tp nx (fCD sl) (fCD sl) 0 0))])), (t0, .inr (2, [.ref t1, .int (nI len)])), (t1, .inl (cB, 400, .inl (aB tp)))] H := hP
      have hD : va_D A [(f0, .inr (0, [.int (nI ty), .ref f1, .ref f2])), (f1, .inl (cI, 16, .inl (aN cnt))), (f2, .inl (cB, 208, .inl (aN mk))), (r0, .inr (1, [.ref f0, .int (nI fk), .int fp, .ref t0, .int (nI (nx + ((fCD sl) + 1) / 2)), .int (nI (nmA tp nx (fCD sl) (fCD sl) 0 0))])), (t0, .inr (2, [.ref t1, .int (nI len)])), (t1, .inl (cB, 400, .inl (aB tp)))] := hD
      subst h_25
      refine lv_if_ne (tgt := 33) hx hb dR_walkField_28 (by decide) (fun c_28 => ?_) (fun q => False.elim (absurd q (by decide)))
      refine lv_aload_n hx hb dR_walkField_33 rfl (lv_at hl 2 rfl) ?_
      refine va_get (D := (dC, dI)) (ci := 1) (v := .int (nI (nmA tp nx (fCD sl) (fCD sl) 0 0))) (C := RR) (T := TR) (N := 6) hx hb hw inR hown hK hP 3 rfl rfl 5 (by decide) (hw _ w_fl_R_28) (fun _ h9 => h9) rfl dR_walkField_34 ?_
      refine lv_istore_n (lv' := [(2, .int (nI (nmA tp nx (fCD sl) (fCD sl) 0 0))), (3, .int (nI nx)), (0, .ref r0), (1, .int (nI sl))]) hx hb dR_walkField_37 rfl hl (by decide) rfl (fun ls hl => ?_)
      refine lv_iload_n hx hb dR_walkField_38 rfl (lv_at hl 0 rfl) ?_
      refine lv_iconst (v := nI 1) hx hb dR_walkField_39 (by decide) ?_
      refine zi_lt (tgt := 52) hx hb (by omega) (by omega) dR_walkField_40 (by decide) (fun q => False.elim ((by omega))) (fun c_40 => ?_)
      refine lv_iload_n hx hb dR_walkField_43 rfl (lv_at hl 0 rfl) ?_
      refine va_getsN hx hb zfMM hS hown (va_Nw.use rfl (hG.nf (RR, 88, "MOST_MARKS") (List.mem_of_getElem? (i := 8) rfl))) (fun _ h9 => h9) dR_walkField_44 ?_
      refine lv_iload_n hx hb dR_walkField_47 rfl (lv_at hl 3 rfl) ?_
      refine za_tab hx hb afMM hS (by omega) (by decide) dR_walkField_48 ?_
      refine zi_le (tgt := 59) hx hb (by omega) (by omega) dR_walkField_49 (by decide) (fun c_49 => ?_) (fun q => False.elim ((by omega)))
      refine va_getsN hx hb zfHL hS hown (va_Nw.use rfl (hG.nf (RR, 94, "HAS_LETTERS") (List.mem_of_getElem? (i := 10) rfl))) (fun _ h9 => h9) dR_walkField_59 ?_
      refine lv_iload_n hx hb dR_walkField_62 rfl (lv_at hl 3 rfl) ?_
      refine za_tab hx hb afHL hS (by omega) (by decide) dR_walkField_63 ?_
      refine zi_eq0 (tgt := 76) hx hb (by omega) dR_walkField_64 (by decide) (fun c_64 => ?_) (fun c_64 => ?_)
      · unfold valF at hv
        rw [if_pos c_64] at hv
        refine lv_aload_n hx hb dR_walkField_76 rfl (lv_at hl 2 rfl) ?_
        refine lv_iload_n hx hb dR_walkField_77 rfl (lv_at hl 3 rfl) ?_
        refine lv_iload_n hx hb dR_walkField_78 rfl (lv_at hl 0 rfl) ?_
        have hPc := hP.sub (ws' := [(r0, .inr (1, [.ref f0, .int (nI fk), .int fp, .ref t0, .int (nI (nx + ((fCD sl) + 1) / 2)), .int (nI (nmA tp nx (fCD sl) (fCD sl) 0 0))])), (t0, .inr (2, [.ref t1, .int (nI len)])), (t1, .inl (cB, 400, .inl (aB tp)))]) [3, 4, 5] rfl
        have hDc := hD.sub (ws' := [(r0, .inr (1, [.ref f0, .int (nI fk), .int fp, .ref t0, .int (nI (nx + ((fCD sl) + 1) / 2)), .int (nI (nmA tp nx (fCD sl) (fCD sl) 0 0))])), (t0, .inr (2, [.ref t1, .int (nI len)])), (t1, .inl (cB, 400, .inl (aB tp)))]) [3, 4, 5] (by decide) rfl
        have hFc := va_free (wc := [(r0, .inr (1, [.ref f0, .int (nI fk), .int fp, .ref t0, .int (nI (nx + ((fCD sl) + 1) / 2)), .int (nI (nmA tp nx (fCD sl) (fCD sl) 0 0))])), (t0, .inr (2, [.ref t1, .int (nI len)])), (t1, .inl (cB, 400, .inl (aB tp)))]) hD hS hA [3, 4, 5] rfl
        refine zc_Mi (va_runV (As := [.int (nI sl), .int (nI (nmA tp nx (fCD sl) (fCD sl) 0 0))]) (rest := []) ⟨hx, hb, hml, hown, hw⟩ (c_walkDigits_no l dC dI r0 f0 fk fp t0 (nx + ((fCD sl) + 1) / 2) (nmA tp nx (fCD sl) (fCD sl) 0 0) t1 len cI cB tp sl (nmA tp nx (fCD sl) (fCD sl) 0 0) k2 p2 (by omega) (by omega) htp (by omega) hv H.size) (cwV 2 hw (gV w_ml_R_100 w_im_R_walkDigits w_se_R_walkDigits w_in_R w_co_R_walkDigits) rfl rfl rfl (by decide +kernel) ⟨Nat.le_of_ble_eq_true rfl, Nat.le_of_ble_eq_true rfl⟩) (zM_V hG hS hFc hPc hDc hK 0 rfl rfl) rfl rfl hl.1 rfl (lv_room (Nat.le_of_ble_eq_true rfl)) dR_walkField_79 ⟨Nat.le_of_ble_eq_true rfl, Nat.le_of_ble_eq_true rfl⟩) hS hFc (fun r_8 H locs h_79 hP1 hD1 hk1 hS => ?_)
        obtain ⟨hP, hD⟩ := va_join (wr := [(f0, .inr (0, [.int (nI ty), .ref f1, .ref f2])), (f1, .inl (cI, 16, .inl (aN cnt))), (f2, .inl (cB, 208, .inl (aN mk)))]) (w1 := [(r0, .inr (1, [.ref f0, .int (nI k2), .int (nI p2), .ref t0, .int (nI (nx + ((fCD sl) + 1) / 2)), .int (nI (nmA tp nx (fCD sl) (fCD sl) 0 0))])), (t0, .inr (2, [.ref t1, .int (nI len)])), (t1, .inl (cB, 400, .inl (aB tp)))]) hP hD [3, 4, 5] [0, 1, 2] rfl rfl (by decide) (by decide) hk1 hFc hP1 hD1
        have hP : va_P (dC, dI) vwCl [(f0, .inr (0, [.int (nI ty), .ref f1, .ref f2])), (f1, .inl (cI, 16, .inl (aN cnt))), (f2, .inl (cB, 208, .inl (aN mk))), (r0, .inr (1, [.ref f0, .int (nI k2), .int (nI p2), .ref t0, .int (nI (nx + ((fCD sl) + 1) / 2)), .int (nI (nmA tp nx (fCD sl) (fCD sl) 0 0))])), (t0, .inr (2, [.ref t1, .int (nI len)])), (t1, .inl (cB, 400, .inl (aB tp)))] H := hP
        have hD : va_D A [(f0, .inr (0, [.int (nI ty), .ref f1, .ref f2])), (f1, .inl (cI, 16, .inl (aN cnt))), (f2, .inl (cB, 208, .inl (aN mk))), (r0, .inr (1, [.ref f0, .int (nI k2), .int (nI p2), .ref t0, .int (nI (nx + ((fCD sl) + 1) / 2)), .int (nI (nmA tp nx (fCD sl) (fCD sl) 0 0))])), (t0, .inr (2, [.ref t1, .int (nI len)])), (t1, .inl (cB, 400, .inl (aB tp)))] := hD
        subst h_79
        subst hAe
        subst hQ
        exact W.zret (v := nI 0) hx hb hr (by decide) (fun t ht hW => ⟨⟨nI 0, ((nx + ((fCD sl) + 1) / 2), (nmA tp nx (fCD sl) (fCD sl) 0 0), mk), rfl, ⟨rfl, hm⟩, by rw [ht]; exact hP.sub [3, 4, 5, 0, 1, 2] rfl, hD.sub [3, 4, 5, 0, 1, 2] (by decide) rfl⟩, hS.F ht⟩) hS.2.2 dR_walkField_82
      · unfold valF at hv
        rw [if_neg c_64] at hv
        refine lv_aload_n hx hb dR_walkField_67 rfl (lv_at hl 2 rfl) ?_
        refine lv_iload_n hx hb dR_walkField_68 rfl (lv_at hl 3 rfl) ?_
        refine lv_iload_n hx hb dR_walkField_69 rfl (lv_at hl 0 rfl) ?_
        have hPc := hP.sub (ws' := [(r0, .inr (1, [.ref f0, .int (nI fk), .int fp, .ref t0, .int (nI (nx + ((fCD sl) + 1) / 2)), .int (nI (nmA tp nx (fCD sl) (fCD sl) 0 0))])), (t0, .inr (2, [.ref t1, .int (nI len)])), (t1, .inl (cB, 400, .inl (aB tp))), (f0, .inr (0, [.int (nI ty), .ref f1, .ref f2])), (f1, .inl (cI, 16, .inl (aN cnt))), (f2, .inl (cB, 208, .inl (aN mk)))]) [3, 4, 5, 0, 1, 2] rfl
        have hDc := hD.sub (ws' := [(r0, .inr (1, [.ref f0, .int (nI fk), .int fp, .ref t0, .int (nI (nx + ((fCD sl) + 1) / 2)), .int (nI (nmA tp nx (fCD sl) (fCD sl) 0 0))])), (t0, .inr (2, [.ref t1, .int (nI len)])), (t1, .inl (cB, 400, .inl (aB tp))), (f0, .inr (0, [.int (nI ty), .ref f1, .ref f2])), (f1, .inl (cI, 16, .inl (aN cnt))), (f2, .inl (cB, 208, .inl (aN mk)))]) [3, 4, 5, 0, 1, 2] (by decide) rfl
        have hFc := va_free (wc := [(r0, .inr (1, [.ref f0, .int (nI fk), .int fp, .ref t0, .int (nI (nx + ((fCD sl) + 1) / 2)), .int (nI (nmA tp nx (fCD sl) (fCD sl) 0 0))])), (t0, .inr (2, [.ref t1, .int (nI len)])), (t1, .inl (cB, 400, .inl (aB tp))), (f0, .inr (0, [.int (nI ty), .ref f1, .ref f2])), (f1, .inl (cI, 16, .inl (aN cnt))), (f2, .inl (cB, 208, .inl (aN mk)))]) hD hS hA [3, 4, 5, 0, 1, 2] rfl
        refine zc_Si (va_runV (As := [.int (nI sl), .int (nI (nmA tp nx (fCD sl) (fCD sl) 0 0))]) (rest := []) ⟨hx, hb, hml, hown, hw⟩ (c_walkLetters_no l dC dI r0 f0 fk fp t0 (nx + ((fCD sl) + 1) / 2) (nmA tp nx (fCD sl) (fCD sl) 0 0) t1 len cI cB tp f1 f2 ty cnt mk sl (nmA tp nx (fCD sl) (fCD sl) 0 0) k2 p2 (by omega) (by omega) htp (by omega) (by omega) (by omega) hm hv H.size) (cwV 2 hw (gV w_ml_R_97 w_im_R_walkLetters w_se_R_walkLetters w_in_R w_co_R_walkLetters) rfl rfl rfl (by decide +kernel) ⟨Nat.le_of_ble_eq_true rfl, Nat.le_of_ble_eq_true rfl⟩) (zM_V hG hS hFc hPc hDc hK 0 rfl rfl) rfl rfl hl.1 rfl (lv_room (Nat.le_of_ble_eq_true rfl)) dR_walkField_70 ⟨Nat.le_of_ble_eq_true rfl, Nat.le_of_ble_eq_true rfl⟩) hS hFc (fun r_9 u_70 H locs h_70 hP1 hD1 hk1 hS => ?_)
        obtain ⟨hP, hD⟩ := va_join (wr := []) (w1 := [(r0, .inr (1, [.ref f0, .int (nI k2), .int (nI p2), .ref t0, .int (nI (nx + ((fCD sl) + 1) / 2)), .int (nI (nmA tp nx (fCD sl) (fCD sl) 0 0))])), (t0, .inr (2, [.ref t1, .int (nI len)])), (t1, .inl (cB, 400, .inl (aB tp))), (f0, .inr (0, [.int (nI ty), .ref f1, .ref f2])), (f1, .inl (cI, 16, .inl (aN cnt))), (f2, .inl (cB, 208, .inl (aN u_70)))]) hP hD [3, 4, 5, 0, 1, 2] [] rfl rfl (by decide) (by decide) hk1 hFc hP1 hD1
        have hP : va_P (dC, dI) vwCl [(r0, .inr (1, [.ref f0, .int (nI k2), .int (nI p2), .ref t0, .int (nI (nx + ((fCD sl) + 1) / 2)), .int (nI (nmA tp nx (fCD sl) (fCD sl) 0 0))])), (t0, .inr (2, [.ref t1, .int (nI len)])), (t1, .inl (cB, 400, .inl (aB tp))), (f0, .inr (0, [.int (nI ty), .ref f1, .ref f2])), (f1, .inl (cI, 16, .inl (aN cnt))), (f2, .inl (cB, 208, .inl (aN u_70)))] H := hP
        have hD : va_D A [(r0, .inr (1, [.ref f0, .int (nI k2), .int (nI p2), .ref t0, .int (nI (nx + ((fCD sl) + 1) / 2)), .int (nI (nmA tp nx (fCD sl) (fCD sl) 0 0))])), (t0, .inr (2, [.ref t1, .int (nI len)])), (t1, .inl (cB, 400, .inl (aB tp))), (f0, .inr (0, [.int (nI ty), .ref f1, .ref f2])), (f1, .inl (cI, 16, .inl (aN cnt))), (f2, .inl (cB, 208, .inl (aN u_70)))] := hD
        obtain ⟨rfl, hu_h_70⟩ := h_70
        refine lv_goto (tgt := 82) hx hb dR_walkField_73 (by decide) ?_
        subst hAe
        subst hQ
        exact W.zret (v := nI 0) hx hb hr (by decide) (fun t ht hW => ⟨⟨nI 0, ((nx + ((fCD sl) + 1) / 2), (nmA tp nx (fCD sl) (fCD sl) 0 0), u_70), rfl, ⟨rfl, hu_h_70⟩, by rw [ht]; exact hP.sub [0, 1, 2, 3, 4, 5] rfl, hD.sub [0, 1, 2, 3, 4, 5] (by decide) rfl⟩, hS.F ht⟩) hS.2.2 dR_walkField_82
def rm_c_walkType_ok : Room := ({ frames := 4, cells := 0, slots := 0, locals := 88 } : Room)
set_option maxHeartbeats 4000000 in
set_option maxRecDepth 100000 in
theorem c_walkType_ok (l : Launch) (dC : Nat → ClassId) (dI : Nat → Nat → Nat) (r0 : Nat) (f0 : Nat) (fk : Nat) (fp : Int32) (t0 : Nat) (nx : Nat) (lnb : Nat) (t1 : Nat) (len : Nat) (cI : ClassId) (cB : ClassId) (tp : Nat → Nat) (f1 : Nat) (f2 : Nat) (ty : Nat) (cnt : Nat → Nat) (mk : Nat → Nat) (hln : len ≤ 400) (hnl : nx ≤ len) (htp : ∀ j, tp j < 256) (hd : dgF tp len nx 4 = none) (hty : ∃ i, i < 17 ∧ fTY i = nmA tp nx 4 4 0 0) (sz : Nat) : Met l yR_walkType wsR_walkType rm_c_walkType_ok (zM (dC, dI) [(cI, .int), (cB, .byte)] [.ref r0] [(r0, .inr (1, [.ref f0, .int (nI fk), .int fp, .ref t0, .int (nI nx), .int (nI lnb)])), (t0, .inr (2, [.ref t1, .int (nI len)])), (t1, .inl (cB, 400, .inl (aB tp))), (f0, .inr (0, [.int (nI ty), .ref f1, .ref f2])), (f1, .inl (cI, 16, .inl (aN cnt))), (f2, .inl (cB, 208, .inl (aN mk)))] sz) (zMi (dC, dI) [(r0, .inr (1, [.ref f0, .int (nI fk), .int fp, .ref t0, .int (nI nx), .int (nI lnb)])), (t0, .inr (2, [.ref t1, .int (nI len)])), (t1, .inl (cB, 400, .inl (aB tp))), (f0, .inr (0, [.int (nI ty), .ref f1, .ref f2])), (f1, .inl (cI, 16, .inl (aN cnt))), (f2, .inl (cB, 208, .inl (aN mk)))] [(r0, .inr (1, [.ref f0, .int (nI fk), .int fp, .ref t0, .int (nI (nx + 2)), .int (nI (nmA tp nx 4 4 0 0))])), (t0, .inr (2, [.ref t1, .int (nI len)])), (t1, .inl (cB, 400, .inl (aB tp))), (f0, .inr (0, [.int (nI (nmA tp nx 4 4 0 0)), .ref f1, .ref f2])), (f1, .inl (cI, 16, .inl (aN (zc cnt 16)))), (f2, .inl (cB, 208, .inl (aN mk)))] sz (fun r => r = nI 1)) 0 0 (va_A [(r0, .inr (1, [.ref f0, .int (nI fk), .int fp, .ref t0, .int (nI nx), .int (nI lnb)])), (t0, .inr (2, [.ref t1, .int (nI len)])), (t1, .inl (cB, 400, .inl (aB tp))), (f0, .inr (0, [.int (nI ty), .ref f1, .ref f2])), (f1, .inl (cI, 16, .inl (aN cnt))), (f2, .inl (cB, 208, .inl (aN mk)))] sz) := by
  refine Met.ofW (cc := cR_walkType) (maxL := 2) (ret := (some .boolean)) (by decide) rfl ?_
  intro p e s m args below meth c s₁ Bd hml hv
  obtain ⟨rfl, hsz, hG, hP, hK, hD0⟩ := hv
  subst hsz
  have hx := Bd.exec
  have hb := Bd.bytes
  have hr := Bd.returns
  have hts := atoms_spec (ws := wsR_walkType) Bd.pre
  have hw : ∀ w ∈ BIG, w.before _ s = true := fun w h => hts w (List.mem_cons_of_mem _ h)
  have hown : s.vm.findClass RR = some m.cls := findClass_of_methodNamed Bd.named
  have hlocks := Bd.notSynchronized
  have hD := hD0.self (sz := s.heap.size)
  obtain ⟨A, hAe⟩ : ∃ A, A = va_A [(r0, .inr (1, [.ref f0, .int (nI fk), .int fp, .ref t0, .int (nI nx), .int (nI lnb)])), (t0, .inr (2, [.ref t1, .int (nI len)])), (t1, .inl (cB, 400, .inl (aB tp))), (f0, .inr (0, [.int (nI ty), .ref f1, .ref f2])), (f1, .inl (cI, 16, .inl (aN cnt))), (f2, .inl (cB, 208, .inl (aN mk)))] s.heap.size := ⟨_, rfl⟩
  have hA : ∀ q : Nat, s.heap.size ≤ q → A q := fun q h => by rw [hAe]; exact Or.inr h
  rw [← hAe] at hG hD
  have hS : va_S A s.heap s.heap [] := va_S.rf
  have hl := lv_entry ([.ref r0]) (n := 2) (Nat.le_of_ble_eq_true rfl)
  rw [lg_entry_eq]
  generalize (lg_sl ([.ref r0]) ++ List.replicate (2 - (lg_sl ([.ref r0])).length) Slot.unset).toArray = ls at hl ⊢
  have hl : lv_has ls 2 [(0, .ref r0)] := hl
  refine zq_name (fun Q hQ => ?_)
  change W p l e rm_c_walkType_ok s m _ below meth c _ _ _ _ Q _
  obtain ⟨tfTY, zfTY, afTY⟩ := hG.TYPES
  have hnb : nmA tp nx 4 4 0 0 < 65536 := nmA_b htp (by decide)
  refine lv_aload_n hx hb dR_walkType_0 rfl (lv_at hl 0 rfl) ?_
  refine lv_iconst (v := nI 4) hx hb dR_walkType_1 (by decide) ?_
  have hPc := hP.sub (ws' := [(r0, .inr (1, [.ref f0, .int (nI fk), .int fp, .ref t0, .int (nI nx), .int (nI lnb)])), (t0, .inr (2, [.ref t1, .int (nI len)])), (t1, .inl (cB, 400, .inl (aB tp)))]) [0, 1, 2] rfl
  have hDc := hD.sub (ws' := [(r0, .inr (1, [.ref f0, .int (nI fk), .int fp, .ref t0, .int (nI nx), .int (nI lnb)])), (t0, .inr (2, [.ref t1, .int (nI len)])), (t1, .inl (cB, 400, .inl (aB tp)))]) [0, 1, 2] (by decide) rfl
  have hFc := va_free (wc := [(r0, .inr (1, [.ref f0, .int (nI fk), .int fp, .ref t0, .int (nI nx), .int (nI lnb)])), (t0, .inr (2, [.ref t1, .int (nI len)])), (t1, .inl (cB, 400, .inl (aB tp)))]) hD hS hA [0, 1, 2] rfl
  refine zc_Mi (va_runV (As := [.int (nI 4)]) (rest := []) ⟨hx, hb, hml, hown, hw⟩ (c_walkNumber_ok l dC dI r0 f0 fk fp t0 nx lnb t1 len cI cB tp 4 (by omega) (by omega) htp (by omega) hd s.heap.size) (cwV 1 hw (gV w_ml_R_69 w_im_R_walkNumber w_se_R_walkNumber w_in_R w_co_R_walkNumber) rfl rfl rfl (by decide +kernel) ⟨Nat.le_of_ble_eq_true rfl, Nat.le_of_ble_eq_true rfl⟩) (zM_V hG hS hFc hPc hDc hK 0 rfl rfl) rfl rfl hl.1 rfl (lv_room (Nat.le_of_ble_eq_true rfl)) dR_walkType_2 ⟨Nat.le_of_ble_eq_true rfl, Nat.le_of_ble_eq_true rfl⟩) hS hFc (fun r_1 H locs h_2 hP1 hD1 hk1 hS => ?_)
  obtain ⟨hP, hD⟩ := va_join (wr := [(f0, .inr (0, [.int (nI ty), .ref f1, .ref f2])), (f1, .inl (cI, 16, .inl (aN cnt))), (f2, .inl (cB, 208, .inl (aN mk)))]) (w1 := [(r0, .inr (1, [.ref f0, .int (nI fk), .int fp, .ref t0, .int (nI (nx + (4 + 1) / 2)), .int (nI (nmA tp nx 4 4 0 0))])), (t0, .inr (2, [.ref t1, .int (nI len)])), (t1, .inl (cB, 400, .inl (aB tp)))]) hP hD [0, 1, 2] [3, 4, 5] rfl rfl (by decide) (by decide) hk1 hFc hP1 hD1
  have hP : va_P (dC, dI) vwCl [(f0, .inr (0, [.int (nI ty), .ref f1, .ref f2])), (f1, .inl (cI, 16, .inl (aN cnt))), (f2, .inl (cB, 208, .inl (aN mk))), (r0, .inr (1, [.ref f0, .int (nI fk), .int fp, .ref t0, .int (nI (nx + (4 + 1) / 2)), .int (nI (nmA tp nx 4 4 0 0))])), (t0, .inr (2, [.ref t1, .int (nI len)])), (t1, .inl (cB, 400, .inl (aB tp)))] H := hP
  have hD : va_D A [(f0, .inr (0, [.int (nI ty), .ref f1, .ref f2])), (f1, .inl (cI, 16, .inl (aN cnt))), (f2, .inl (cB, 208, .inl (aN mk))), (r0, .inr (1, [.ref f0, .int (nI fk), .int fp, .ref t0, .int (nI (nx + (4 + 1) / 2)), .int (nI (nmA tp nx 4 4 0 0))])), (t0, .inr (2, [.ref t1, .int (nI len)])), (t1, .inl (cB, 400, .inl (aB tp)))] := hD
  subst h_2
  refine lv_if_ne (tgt := 10) hx hb dR_walkType_5 (by decide) (fun c_5 => ?_) (fun q => False.elim (absurd q (by decide)))
  refine lv_iconst (v := nI 0) hx hb dR_walkType_10 (by decide) ?_
  refine lv_istore_n (lv' := [(1, .int (nI 0)), (0, .ref r0)]) hx hb dR_walkType_11 rfl hl (by decide) rfl (fun ls hl => ?_)
  have lp_12 : ∀ (fu : Nat) (i : Nat) (hi : i ≤ 17) (hj : ∀ j, j < i → fTY j ≠ nmA tp nx 4 4 0 0) (hms : 17 - i < fu) (H : Heap) (locs : List Loc) (ls : Array Slot), lv_has ls 2 [(0, .ref r0), (1, .int (nI i))] → va_P (dC, dI) vwCl [(f0, .inr (0, [.int (nI ty), .ref f1, .ref f2])), (f1, .inl (cI, 16, .inl (aN cnt))), (f2, .inl (cB, 208, .inl (aN mk))), (r0, .inr (1, [.ref f0, .int (nI fk), .int fp, .ref t0, .int (nI (nx + (4 + 1) / 2)), .int (nI (nmA tp nx 4 4 0 0))])), (t0, .inr (2, [.ref t1, .int (nI len)])), (t1, .inl (cB, 400, .inl (aB tp)))] H → va_D A [(f0, .inr (0, [.int (nI ty), .ref f1, .ref f2])), (f1, .inl (cI, 16, .inl (aN cnt))), (f2, .inl (cB, 208, .inl (aN mk))), (r0, .inr (1, [.ref f0, .int (nI fk), .int fp, .ref t0, .int (nI (nx + (4 + 1) / 2)), .int (nI (nmA tp nx 4 4 0 0))])), (t0, .inr (2, [.ref t1, .int (nI len)])), (t1, .inl (cB, 400, .inl (aB tp)))] → va_S A s.heap H locs → W p l e rm_c_walkType_ok s m ([.ref r0] : List Value).toArray below meth c H locs 0 0 Q (F0 m 12 ls []) := by
    intro fu
    induction fu with
    | zero => intro i hi hj hms; exact absurd hms (Nat.not_lt_zero _)
    | succ fu ih12 =>
      intro i hi hj hms H locs ls hl hP hD hS
      refine lv_iload_n hx hb dR_walkType_12 rfl (lv_at hl 1 rfl) ?_
      refine va_getsN hx hb zfTY hS hown (va_Nw.use rfl (hG.nf (RR, 72, "TYPES") (List.mem_of_getElem? (i := 5) rfl))) (fun _ h9 => h9) dR_walkType_13 ?_
      refine va_tlen (v := nI 17) hx hb afTY hS rfl dR_walkType_16 ?_
      refine zi_ge (tgt := 51) hx hb (by omega) (by omega) dR_walkType_17 (by decide) (fun q => False.elim ((by obtain ⟨i9, h1, h2⟩ := hty; exact hj i9 (by omega) h2))) (fun c_17 => ?_)
      have hty9 := fTY_b i (by omega)
      refine va_getsN hx hb zfTY hS hown (va_Nw.use rfl (hG.nf (RR, 72, "TYPES") (List.mem_of_getElem? (i := 5) rfl))) (fun _ h9 => h9) dR_walkType_20 ?_
      refine lv_iload_n hx hb dR_walkType_23 rfl (lv_at hl 1 rfl) ?_
      refine za_tab hx hb afTY hS (by omega) (by decide) dR_walkType_24 ?_
      refine lv_aload_n hx hb dR_walkType_25 rfl (lv_at hl 0 rfl) ?_
      refine va_get (D := (dC, dI)) (ci := 1) (v := .int (nI (nmA tp nx 4 4 0 0))) (C := RR) (T := TR) (N := 6) hx hb hw inR hown hK hP 3 rfl rfl 5 (by decide) (hw _ w_fl_R_28) (fun _ h9 => h9) rfl dR_walkType_26 ?_
      refine zi_ne (tgt := 45) hx hb (by omega) (by omega) dR_walkType_29 (by decide) (fun c_29 => ?_) (fun c_29 => ?_)
      · refine lv_iinc (v := nI (i + 1)) (lv' := [(1, .int (nI (i + 1))), (0, .ref r0)]) hx hb dR_walkType_45 hl (k := 1) rfl (zi_incr i 1) (by decide) rfl (fun ls hl => ?_)
        refine lv_goto (tgt := 12) hx hb dR_walkType_48 (by decide) ?_
        exact ih12 (i + 1) (by omega) (lt_s hj c_29) (by omega) _ _ _ (lv_sub hl [1, 0] rfl) (hP.sub [0, 1, 2, 3, 4, 5] rfl) (hD.sub [0, 1, 2, 3, 4, 5] (by decide) rfl) hS
      · refine lv_aload_n hx hb dR_walkType_32 rfl (lv_at hl 0 rfl) ?_
        refine va_get (D := (dC, dI)) (ci := 1) (v := .ref f0) (C := RR) (T := TR) (N := 6) hx hb hw inR hown hK hP 3 rfl rfl 0 (by decide) (hw _ w_fl_R_12) (fun _ h9 => h9) rfl dR_walkType_33 ?_
        refine lv_aload_n hx hb dR_walkType_36 rfl (lv_at hl 0 rfl) ?_
        refine va_get (D := (dC, dI)) (ci := 1) (v := .int (nI (nmA tp nx 4 4 0 0))) (C := RR) (T := TR) (N := 6) hx hb hw inR hown hK hP 3 rfl rfl 5 (by decide) (hw _ w_fl_R_28) (fun _ h9 => h9) rfl dR_walkType_37 ?_
        have hPc := hP.sub (ws' := [(f0, .inr (0, [.int (nI ty), .ref f1, .ref f2])), (f1, .inl (cI, 16, .inl (aN cnt))), (f2, .inl (cB, 208, .inl (aN mk)))]) [0, 1, 2] rfl
        have hDc := hD.sub (ws' := [(f0, .inr (0, [.int (nI ty), .ref f1, .ref f2])), (f1, .inl (cI, 16, .inl (aN cnt))), (f2, .inl (cB, 208, .inl (aN mk)))]) [0, 1, 2] (by decide) rfl
        have hFc := va_free (wc := [(f0, .inr (0, [.int (nI ty), .ref f1, .ref f2])), (f1, .inl (cI, 16, .inl (aN cnt))), (f2, .inl (cB, 208, .inl (aN mk)))]) hD hS hA [0, 1, 2] rfl
        refine zc_Mv (va_runV (As := [.int (nI (nmA tp nx 4 4 0 0))]) (rest := []) ⟨hx, hb, hml, hown, hw⟩ (c_D_restart l dC dI f0 f1 f2 cI cB ty cnt mk (nmA tp nx 4 4 0 0) H.size) (cwV 1 hw (gV w_ml_R_75 w_im_D_restart w_se_D_restart w_in_D w_co_D_restart) rfl rfl rfl (by decide +kernel) ⟨Nat.le_of_ble_eq_true rfl, Nat.le_of_ble_eq_true rfl⟩) (zM_V hG hS hFc hPc hDc hK 0 rfl rfl) rfl rfl hl.1 rfl (lv_room (Nat.le_of_ble_eq_true rfl)) dR_walkType_40 ⟨Nat.le_of_ble_eq_true rfl, Nat.le_of_ble_eq_true rfl⟩) hS hFc (fun H locs h_40 hP1 hD1 hk1 hS => ?_)
        obtain ⟨hP, hD⟩ := va_join (wr := [(r0, .inr (1, [.ref f0, .int (nI fk), .int fp, .ref t0, .int (nI (nx + (4 + 1) / 2)), .int (nI (nmA tp nx 4 4 0 0))])), (t0, .inr (2, [.ref t1, .int (nI len)])), (t1, .inl (cB, 400, .inl (aB tp)))]) (w1 := [(f0, .inr (0, [.int (nI (nmA tp nx 4 4 0 0)), .ref f1, .ref f2])), (f1, .inl (cI, 16, .inl (aN (zc cnt 16)))), (f2, .inl (cB, 208, .inl (aN mk)))]) hP hD [0, 1, 2] [3, 4, 5] rfl rfl (by decide) (by decide) hk1 hFc hP1 hD1
        have hP : va_P (dC, dI) vwCl [(r0, .inr (1, [.ref f0, .int (nI fk), .int fp, .ref t0, .int (nI (nx + (4 + 1) / 2)), .int (nI (nmA tp nx 4 4 0 0))])), (t0, .inr (2, [.ref t1, .int (nI len)])), (t1, .inl (cB, 400, .inl (aB tp))), (f0, .inr (0, [.int (nI (nmA tp nx 4 4 0 0)), .ref f1, .ref f2])), (f1, .inl (cI, 16, .inl (aN (zc cnt 16)))), (f2, .inl (cB, 208, .inl (aN mk)))] H := hP
        have hD : va_D A [(r0, .inr (1, [.ref f0, .int (nI fk), .int fp, .ref t0, .int (nI (nx + (4 + 1) / 2)), .int (nI (nmA tp nx 4 4 0 0))])), (t0, .inr (2, [.ref t1, .int (nI len)])), (t1, .inl (cB, 400, .inl (aB tp))), (f0, .inr (0, [.int (nI (nmA tp nx 4 4 0 0)), .ref f1, .ref f2])), (f1, .inl (cI, 16, .inl (aN (zc cnt 16)))), (f2, .inl (cB, 208, .inl (aN mk)))] := hD
        refine lv_iconst (v := nI 1) hx hb dR_walkType_43 (by decide) ?_
        subst hAe
        subst hQ
        exact W.zret (v := nI 1) hx hb hr (by decide) (fun t ht hW => ⟨⟨nI 1, (), rfl, rfl, by rw [ht]; exact hP.sub [0, 1, 2, 3, 4, 5] rfl, hD.sub [0, 1, 2, 3, 4, 5] (by decide) rfl⟩, hS.F ht⟩) hS.2.2 dR_walkType_44
  exact lp_12 ((17 - 0) + 1) 0 (by omega) (fun j hj => absurd hj (Nat.not_lt_zero j)) (Nat.lt_succ_self _) _ _ _ (lv_sub hl [1, 0] rfl) (hP.sub [0, 1, 2, 3, 4, 5] rfl) (hD.sub [0, 1, 2, 3, 4, 5] (by decide) rfl) hS
def rm_c_walkType_no1 : Room := ({ frames := 4, cells := 0, slots := 0, locals := 88 } : Room)
set_option maxHeartbeats 4000000 in
set_option maxRecDepth 100000 in
theorem c_walkType_no1 (l : Launch) (dC : Nat → ClassId) (dI : Nat → Nat → Nat) (r0 : Nat) (f0 : Nat) (fk : Nat) (fp : Int32) (t0 : Nat) (nx : Nat) (lnb : Nat) (t1 : Nat) (len : Nat) (cI : ClassId) (cB : ClassId) (tp : Nat → Nat) (k2 : Nat) (p2 : Nat) (hln : len ≤ 400) (hnl : nx ≤ len) (htp : ∀ j, tp j < 256) (hd : dgF tp len nx 4 = some (k2, p2)) (sz : Nat) : Met l yR_walkType wsR_walkType rm_c_walkType_no1 (zM (dC, dI) [(cI, .int), (cB, .byte)] [.ref r0] [(r0, .inr (1, [.ref f0, .int (nI fk), .int fp, .ref t0, .int (nI nx), .int (nI lnb)])), (t0, .inr (2, [.ref t1, .int (nI len)])), (t1, .inl (cB, 400, .inl (aB tp)))] sz) (zMi (dC, dI) [(r0, .inr (1, [.ref f0, .int (nI fk), .int fp, .ref t0, .int (nI nx), .int (nI lnb)])), (t0, .inr (2, [.ref t1, .int (nI len)])), (t1, .inl (cB, 400, .inl (aB tp)))] [(r0, .inr (1, [.ref f0, .int (nI k2), .int (nI p2), .ref t0, .int (nI nx), .int (nI lnb)])), (t0, .inr (2, [.ref t1, .int (nI len)])), (t1, .inl (cB, 400, .inl (aB tp)))] sz (fun r => r = nI 0)) 0 0 (va_A [(r0, .inr (1, [.ref f0, .int (nI fk), .int fp, .ref t0, .int (nI nx), .int (nI lnb)])), (t0, .inr (2, [.ref t1, .int (nI len)])), (t1, .inl (cB, 400, .inl (aB tp)))] sz) := by
  refine Met.ofW (cc := cR_walkType) (maxL := 2) (ret := (some .boolean)) (by decide) rfl ?_
  intro p e s m args below meth c s₁ Bd hml hv
  obtain ⟨rfl, hsz, hG, hP, hK, hD0⟩ := hv
  subst hsz
  have hx := Bd.exec
  have hb := Bd.bytes
  have hr := Bd.returns
  have hts := atoms_spec (ws := wsR_walkType) Bd.pre
  have hw : ∀ w ∈ BIG, w.before _ s = true := fun w h => hts w (List.mem_cons_of_mem _ h)
  have hown : s.vm.findClass RR = some m.cls := findClass_of_methodNamed Bd.named
  have hlocks := Bd.notSynchronized
  have hD := hD0.self (sz := s.heap.size)
  obtain ⟨A, hAe⟩ : ∃ A, A = va_A [(r0, .inr (1, [.ref f0, .int (nI fk), .int fp, .ref t0, .int (nI nx), .int (nI lnb)])), (t0, .inr (2, [.ref t1, .int (nI len)])), (t1, .inl (cB, 400, .inl (aB tp)))] s.heap.size := ⟨_, rfl⟩
  have hA : ∀ q : Nat, s.heap.size ≤ q → A q := fun q h => by rw [hAe]; exact Or.inr h
  rw [← hAe] at hG hD
  have hS : va_S A s.heap s.heap [] := va_S.rf
  have hl := lv_entry ([.ref r0]) (n := 2) (Nat.le_of_ble_eq_true rfl)
  rw [lg_entry_eq]
  generalize (lg_sl ([.ref r0]) ++ List.replicate (2 - (lg_sl ([.ref r0])).length) Slot.unset).toArray = ls at hl ⊢
  have hl : lv_has ls 2 [(0, .ref r0)] := hl
  refine zq_name (fun Q hQ => ?_)
  change W p l e rm_c_walkType_no1 s m _ below meth c _ _ _ _ Q _
  obtain ⟨tfTY, zfTY, afTY⟩ := hG.TYPES
  refine lv_aload_n hx hb dR_walkType_0 rfl (lv_at hl 0 rfl) ?_
  refine lv_iconst (v := nI 4) hx hb dR_walkType_1 (by decide) ?_
  have hPc := hP.sub (ws' := [(r0, .inr (1, [.ref f0, .int (nI fk), .int fp, .ref t0, .int (nI nx), .int (nI lnb)])), (t0, .inr (2, [.ref t1, .int (nI len)])), (t1, .inl (cB, 400, .inl (aB tp)))]) [0, 1, 2] rfl
  have hDc := hD.sub (ws' := [(r0, .inr (1, [.ref f0, .int (nI fk), .int fp, .ref t0, .int (nI nx), .int (nI lnb)])), (t0, .inr (2, [.ref t1, .int (nI len)])), (t1, .inl (cB, 400, .inl (aB tp)))]) [0, 1, 2] (by decide) rfl
  have hFc := va_free (wc := [(r0, .inr (1, [.ref f0, .int (nI fk), .int fp, .ref t0, .int (nI nx), .int (nI lnb)])), (t0, .inr (2, [.ref t1, .int (nI len)])), (t1, .inl (cB, 400, .inl (aB tp)))]) hD hS hA [0, 1, 2] rfl
  refine zc_Mi (va_runV (As := [.int (nI 4)]) (rest := []) ⟨hx, hb, hml, hown, hw⟩ (c_walkNumber_no l dC dI r0 f0 fk fp t0 nx lnb t1 len cI cB tp 4 k2 p2 (by omega) (by omega) htp (by omega) hd s.heap.size) (cwV 1 hw (gV w_ml_R_69 w_im_R_walkNumber w_se_R_walkNumber w_in_R w_co_R_walkNumber) rfl rfl rfl (by decide +kernel) ⟨Nat.le_of_ble_eq_true rfl, Nat.le_of_ble_eq_true rfl⟩) (zM_V hG hS hFc hPc hDc hK 0 rfl rfl) rfl rfl hl.1 rfl (lv_room (Nat.le_of_ble_eq_true rfl)) dR_walkType_2 ⟨Nat.le_of_ble_eq_true rfl, Nat.le_of_ble_eq_true rfl⟩) hS hFc (fun r_1 H locs h_2 hP1 hD1 hk1 hS => ?_)
  obtain ⟨hP, hD⟩ := va_join (wr := []) (w1 := [(r0, .inr (1, [.ref f0, .int (nI k2), .int (nI p2), .ref t0, .int (nI nx), .int (nI lnb)])), (t0, .inr (2, [.ref t1, .int (nI len)])), (t1, .inl (cB, 400, .inl (aB tp)))]) hP hD [0, 1, 2] [] rfl rfl (by decide) (by decide) hk1 hFc hP1 hD1
  have hP : va_P (dC, dI) vwCl [(r0, .inr (1, [.ref f0, .int (nI k2), .int (nI p2), .ref t0, .int (nI nx), .int (nI lnb)])), (t0, .inr (2, [.ref t1, .int (nI len)])), (t1, .inl (cB, 400, .inl (aB tp)))] H := hP
  have hD : va_D A [(r0, .inr (1, [.ref f0, .int (nI k2), .int (nI p2), .ref t0, .int (nI nx), .int (nI lnb)])), (t0, .inr (2, [.ref t1, .int (nI len)])), (t1, .inl (cB, 400, .inl (aB tp)))] := hD
  subst h_2
  refine lv_if_ne (tgt := 10) hx hb dR_walkType_5 (by decide) (fun q => False.elim (absurd q (by decide))) (fun c_5 => ?_)
  refine lv_iconst (v := nI 0) hx hb dR_walkType_8 (by decide) ?_
  subst hAe
  subst hQ
  exact W.zret (v := nI 0) hx hb hr (by decide) (fun t ht hW => ⟨⟨nI 0, (), rfl, rfl, by rw [ht]; exact hP.sub [0, 1, 2] rfl, hD.sub [0, 1, 2] (by decide) rfl⟩, hS.F ht⟩) hS.2.2 dR_walkType_9
def rm_c_walkType_no2 : Room := ({ frames := 4, cells := 0, slots := 0, locals := 88 } : Room)
set_option maxHeartbeats 4000000 in
set_option maxRecDepth 100000 in
theorem c_walkType_no2 (l : Launch) (dC : Nat → ClassId) (dI : Nat → Nat → Nat) (r0 : Nat) (f0 : Nat) (fk : Nat) (fp : Int32) (t0 : Nat) (nx : Nat) (lnb : Nat) (t1 : Nat) (len : Nat) (cI : ClassId) (cB : ClassId) (tp : Nat → Nat) (hln : len ≤ 400) (hnl : nx ≤ len) (htp : ∀ j, tp j < 256) (hd : dgF tp len nx 4 = none) (hty : ∀ i, i < 17 → fTY i ≠ nmA tp nx 4 4 0 0) (sz : Nat) : Met l yR_walkType wsR_walkType rm_c_walkType_no2 (zM (dC, dI) [(cI, .int), (cB, .byte)] [.ref r0] [(r0, .inr (1, [.ref f0, .int (nI fk), .int fp, .ref t0, .int (nI nx), .int (nI lnb)])), (t0, .inr (2, [.ref t1, .int (nI len)])), (t1, .inl (cB, 400, .inl (aB tp)))] sz) (zMi (dC, dI) [(r0, .inr (1, [.ref f0, .int (nI fk), .int fp, .ref t0, .int (nI nx), .int (nI lnb)])), (t0, .inr (2, [.ref t1, .int (nI len)])), (t1, .inl (cB, 400, .inl (aB tp)))] [(r0, .inr (1, [.ref f0, .int (nI 3), .int (nI 0), .ref t0, .int (nI (nx + 2)), .int (nI (nmA tp nx 4 4 0 0))])), (t0, .inr (2, [.ref t1, .int (nI len)])), (t1, .inl (cB, 400, .inl (aB tp)))] sz (fun r => r = nI 0)) 0 0 (va_A [(r0, .inr (1, [.ref f0, .int (nI fk), .int fp, .ref t0, .int (nI nx), .int (nI lnb)])), (t0, .inr (2, [.ref t1, .int (nI len)])), (t1, .inl (cB, 400, .inl (aB tp)))] sz) := by
  refine Met.ofW (cc := cR_walkType) (maxL := 2) (ret := (some .boolean)) (by decide) rfl ?_
  intro p e s m args below meth c s₁ Bd hml hv
  obtain ⟨rfl, hsz, hG, hP, hK, hD0⟩ := hv
  subst hsz
  have hx := Bd.exec
  have hb := Bd.bytes
  have hr := Bd.returns
  have hts := atoms_spec (ws := wsR_walkType) Bd.pre
  have hw : ∀ w ∈ BIG, w.before _ s = true := fun w h => hts w (List.mem_cons_of_mem _ h)
  have hown : s.vm.findClass RR = some m.cls := findClass_of_methodNamed Bd.named
  have hlocks := Bd.notSynchronized
  have hD := hD0.self (sz := s.heap.size)
  obtain ⟨A, hAe⟩ : ∃ A, A = va_A [(r0, .inr (1, [.ref f0, .int (nI fk), .int fp, .ref t0, .int (nI nx), .int (nI lnb)])), (t0, .inr (2, [.ref t1, .int (nI len)])), (t1, .inl (cB, 400, .inl (aB tp)))] s.heap.size := ⟨_, rfl⟩
  have hA : ∀ q : Nat, s.heap.size ≤ q → A q := fun q h => by rw [hAe]; exact Or.inr h
  rw [← hAe] at hG hD
  have hS : va_S A s.heap s.heap [] := va_S.rf
  have hl := lv_entry ([.ref r0]) (n := 2) (Nat.le_of_ble_eq_true rfl)
  rw [lg_entry_eq]
  generalize (lg_sl ([.ref r0]) ++ List.replicate (2 - (lg_sl ([.ref r0])).length) Slot.unset).toArray = ls at hl ⊢
  have hl : lv_has ls 2 [(0, .ref r0)] := hl
  refine zq_name (fun Q hQ => ?_)
  change W p l e rm_c_walkType_no2 s m _ below meth c _ _ _ _ Q _
  obtain ⟨tfTY, zfTY, afTY⟩ := hG.TYPES
  have hnb : nmA tp nx 4 4 0 0 < 65536 := nmA_b htp (by decide)
  refine lv_aload_n hx hb dR_walkType_0 rfl (lv_at hl 0 rfl) ?_
  refine lv_iconst (v := nI 4) hx hb dR_walkType_1 (by decide) ?_
  have hPc := hP.sub (ws' := [(r0, .inr (1, [.ref f0, .int (nI fk), .int fp, .ref t0, .int (nI nx), .int (nI lnb)])), (t0, .inr (2, [.ref t1, .int (nI len)])), (t1, .inl (cB, 400, .inl (aB tp)))]) [0, 1, 2] rfl
  have hDc := hD.sub (ws' := [(r0, .inr (1, [.ref f0, .int (nI fk), .int fp, .ref t0, .int (nI nx), .int (nI lnb)])), (t0, .inr (2, [.ref t1, .int (nI len)])), (t1, .inl (cB, 400, .inl (aB tp)))]) [0, 1, 2] (by decide) rfl
  have hFc := va_free (wc := [(r0, .inr (1, [.ref f0, .int (nI fk), .int fp, .ref t0, .int (nI nx), .int (nI lnb)])), (t0, .inr (2, [.ref t1, .int (nI len)])), (t1, .inl (cB, 400, .inl (aB tp)))]) hD hS hA [0, 1, 2] rfl
  refine zc_Mi (va_runV (As := [.int (nI 4)]) (rest := []) ⟨hx, hb, hml, hown, hw⟩ (c_walkNumber_ok l dC dI r0 f0 fk fp t0 nx lnb t1 len cI cB tp 4 (by omega) (by omega) htp (by omega) hd s.heap.size) (cwV 1 hw (gV w_ml_R_69 w_im_R_walkNumber w_se_R_walkNumber w_in_R w_co_R_walkNumber) rfl rfl rfl (by decide +kernel) ⟨Nat.le_of_ble_eq_true rfl, Nat.le_of_ble_eq_true rfl⟩) (zM_V hG hS hFc hPc hDc hK 0 rfl rfl) rfl rfl hl.1 rfl (lv_room (Nat.le_of_ble_eq_true rfl)) dR_walkType_2 ⟨Nat.le_of_ble_eq_true rfl, Nat.le_of_ble_eq_true rfl⟩) hS hFc (fun r_1 H locs h_2 hP1 hD1 hk1 hS => ?_)
  obtain ⟨hP, hD⟩ := va_join (wr := []) (w1 := [(r0, .inr (1, [.ref f0, .int (nI fk), .int fp, .ref t0, .int (nI (nx + (4 + 1) / 2)), .int (nI (nmA tp nx 4 4 0 0))])), (t0, .inr (2, [.ref t1, .int (nI len)])), (t1, .inl (cB, 400, .inl (aB tp)))]) hP hD [0, 1, 2] [] rfl rfl (by decide) (by decide) hk1 hFc hP1 hD1
  have hP : va_P (dC, dI) vwCl [(r0, .inr (1, [.ref f0, .int (nI fk), .int fp, .ref t0, .int (nI (nx + (4 + 1) / 2)), .int (nI (nmA tp nx 4 4 0 0))])), (t0, .inr (2, [.ref t1, .int (nI len)])), (t1, .inl (cB, 400, .inl (aB tp)))] H := hP
  have hD : va_D A [(r0, .inr (1, [.ref f0, .int (nI fk), .int fp, .ref t0, .int (nI (nx + (4 + 1) / 2)), .int (nI (nmA tp nx 4 4 0 0))])), (t0, .inr (2, [.ref t1, .int (nI len)])), (t1, .inl (cB, 400, .inl (aB tp)))] := hD
  subst h_2
  refine lv_if_ne (tgt := 10) hx hb dR_walkType_5 (by decide) (fun c_5 => ?_) (fun q => False.elim (absurd q (by decide)))
  refine lv_iconst (v := nI 0) hx hb dR_walkType_10 (by decide) ?_
  refine lv_istore_n (lv' := [(1, .int (nI 0)), (0, .ref r0)]) hx hb dR_walkType_11 rfl hl (by decide) rfl (fun ls hl => ?_)
  have lp_12 : ∀ (fu : Nat) (i : Nat) (hi : i ≤ 17) (hj : ∀ j, j < i → fTY j ≠ nmA tp nx 4 4 0 0) (hms : 17 - i < fu) (H : Heap) (locs : List Loc) (ls : Array Slot), lv_has ls 2 [(0, .ref r0), (1, .int (nI i))] → va_P (dC, dI) vwCl [(r0, .inr (1, [.ref f0, .int (nI fk), .int fp, .ref t0, .int (nI (nx + (4 + 1) / 2)), .int (nI (nmA tp nx 4 4 0 0))])), (t0, .inr (2, [.ref t1, .int (nI len)])), (t1, .inl (cB, 400, .inl (aB tp)))] H → va_D A [(r0, .inr (1, [.ref f0, .int (nI fk), .int fp, .ref t0, .int (nI (nx + (4 + 1) / 2)), .int (nI (nmA tp nx 4 4 0 0))])), (t0, .inr (2, [.ref t1, .int (nI len)])), (t1, .inl (cB, 400, .inl (aB tp)))] → va_S A s.heap H locs → W p l e rm_c_walkType_no2 s m ([.ref r0] : List Value).toArray below meth c H locs 0 0 Q (F0 m 12 ls []) := by
    intro fu
    induction fu with
    | zero => intro i hi hj hms; exact absurd hms (Nat.not_lt_zero _)
    | succ fu ih12 =>
      intro i hi hj hms H locs ls hl hP hD hS
      refine lv_iload_n hx hb dR_walkType_12 rfl (lv_at hl 1 rfl) ?_
      refine va_getsN hx hb zfTY hS hown (va_Nw.use rfl (hG.nf (RR, 72, "TYPES") (List.mem_of_getElem? (i := 5) rfl))) (fun _ h9 => h9) dR_walkType_13 ?_
      refine va_tlen (v := nI 17) hx hb afTY hS rfl dR_walkType_16 ?_
      refine zi_ge (tgt := 51) hx hb (by omega) (by omega) dR_walkType_17 (by decide) (fun c_17 => ?_) (fun c_17 => ?_)
      · refine lv_aload_n hx hb dR_walkType_51 rfl (lv_at hl 0 rfl) ?_
        refine lv_iconst (v := nI 3) hx hb dR_walkType_52 (by decide) ?_
        refine lv_iconst (v := nI 0) hx hb dR_walkType_53 (by decide) ?_
        have hPc := hP.sub (ws' := [(r0, .inr (1, [.ref f0, .int (nI fk), .int fp, .ref t0, .int (nI (nx + (4 + 1) / 2)), .int (nI (nmA tp nx 4 4 0 0))]))]) [0] rfl
        have hDc := hD.sub (ws' := [(r0, .inr (1, [.ref f0, .int (nI fk), .int fp, .ref t0, .int (nI (nx + (4 + 1) / 2)), .int (nI (nmA tp nx 4 4 0 0))]))]) [0] (by decide) rfl
        have hFc := va_free (wc := [(r0, .inr (1, [.ref f0, .int (nI fk), .int fp, .ref t0, .int (nI (nx + (4 + 1) / 2)), .int (nI (nmA tp nx 4 4 0 0))]))]) hD hS hA [0] rfl
        refine zc_Mi (va_runV (As := [.int (nI 3), .int (nI 0)]) (rest := []) ⟨hx, hb, hml, hown, hw⟩ (c_R_fail l dC dI r0 f0 fk fp t0 (nx + (4 + 1) / 2) (nmA tp nx 4 4 0 0) cI cB 3 (nI 0) H.size) (cwV 2 hw (gV w_ml_R_65 w_im_R_fail w_se_R_fail w_in_R w_co_R_fail) rfl rfl rfl (by decide +kernel) ⟨Nat.le_of_ble_eq_true rfl, Nat.le_of_ble_eq_true rfl⟩) (zM_V hG hS hFc hPc hDc hK 0 rfl rfl) rfl rfl hl.1 rfl (lv_room (Nat.le_of_ble_eq_true rfl)) dR_walkType_54 ⟨Nat.le_of_ble_eq_true rfl, Nat.le_of_ble_eq_true rfl⟩) hS hFc (fun r_2 H locs h_54 hP1 hD1 hk1 hS => ?_)
        obtain ⟨hP, hD⟩ := va_join (wr := [(t0, .inr (2, [.ref t1, .int (nI len)])), (t1, .inl (cB, 400, .inl (aB tp)))]) (w1 := [(r0, .inr (1, [.ref f0, .int (nI 3), .int (nI 0), .ref t0, .int (nI (nx + (4 + 1) / 2)), .int (nI (nmA tp nx 4 4 0 0))]))]) hP hD [0] [1, 2] rfl rfl (by decide) (by decide) hk1 hFc hP1 hD1
        have hP : va_P (dC, dI) vwCl [(t0, .inr (2, [.ref t1, .int (nI len)])), (t1, .inl (cB, 400, .inl (aB tp))), (r0, .inr (1, [.ref f0, .int (nI 3), .int (nI 0), .ref t0, .int (nI (nx + (4 + 1) / 2)), .int (nI (nmA tp nx 4 4 0 0))]))] H := hP
        have hD : va_D A [(t0, .inr (2, [.ref t1, .int (nI len)])), (t1, .inl (cB, 400, .inl (aB tp))), (r0, .inr (1, [.ref f0, .int (nI 3), .int (nI 0), .ref t0, .int (nI (nx + (4 + 1) / 2)), .int (nI (nmA tp nx 4 4 0 0))]))] := hD
        subst h_54
        subst hAe
        subst hQ
        exact W.zret (v := nI 0) hx hb hr (by decide) (fun t ht hW => ⟨⟨nI 0, (), rfl, rfl, by rw [ht]; exact hP.sub [2, 0, 1] rfl, hD.sub [2, 0, 1] (by decide) rfl⟩, hS.F ht⟩) hS.2.2 dR_walkType_57
      · have hty9 := fTY_b i (by omega)
        refine va_getsN hx hb zfTY hS hown (va_Nw.use rfl (hG.nf (RR, 72, "TYPES") (List.mem_of_getElem? (i := 5) rfl))) (fun _ h9 => h9) dR_walkType_20 ?_
        refine lv_iload_n hx hb dR_walkType_23 rfl (lv_at hl 1 rfl) ?_
        refine za_tab hx hb afTY hS (by omega) (by decide) dR_walkType_24 ?_
        refine lv_aload_n hx hb dR_walkType_25 rfl (lv_at hl 0 rfl) ?_
        refine va_get (D := (dC, dI)) (ci := 1) (v := .int (nI (nmA tp nx 4 4 0 0))) (C := RR) (T := TR) (N := 6) hx hb hw inR hown hK hP 0 rfl rfl 5 (by decide) (hw _ w_fl_R_28) (fun _ h9 => h9) rfl dR_walkType_26 ?_
        refine zi_ne (tgt := 45) hx hb (by omega) (by omega) dR_walkType_29 (by decide) (fun c_29 => ?_) (fun q => False.elim ((hty i (by omega) q)))
        refine lv_iinc (v := nI (i + 1)) (lv' := [(1, .int (nI (i + 1))), (0, .ref r0)]) hx hb dR_walkType_45 hl (k := 1) rfl (zi_incr i 1) (by decide) rfl (fun ls hl => ?_)
        refine lv_goto (tgt := 12) hx hb dR_walkType_48 (by decide) ?_
        exact ih12 (i + 1) (by omega) (lt_s hj c_29) (by omega) _ _ _ (lv_sub hl [1, 0] rfl) (hP.sub [0, 1, 2] rfl) (hD.sub [0, 1, 2] (by decide) rfl) hS
  exact lp_12 ((17 - 0) + 1) 0 (by omega) (fun j hj => absurd hj (Nat.not_lt_zero j)) (Nat.lt_succ_self _) _ _ _ (lv_sub hl [1, 0] rfl) (hP.sub [0, 1, 2] rfl) (hD.sub [0, 1, 2] (by decide) rfl) hS
def rm_c_hasBit_ok : Room := ({ frames := 1, cells := 0, slots := 0, locals := 21 } : Room)
set_option maxHeartbeats 4000000 in
set_option maxRecDepth 100000 in
theorem c_hasBit_ok (l : Launch) (dC : Nat → ClassId) (dI : Nat → Nat → Nat) (r0 : Nat) (f0 : Nat) (fk : Nat) (fp : Int32) (t0 : Nat) (nx : Nat) (lnb : Nat) (t1 : Nat) (len : Nat) (cI : ClassId) (cB : ClassId) (tp : Nat → Nat) (a : Nat) (htp : ∀ j, tp j < 256) (ha : a + 8 ≤ 400) (hd : anyB tp 8 a = true) (Hc : Heap) : Met l yR_hasBit wsR_hasBit rm_c_hasBit_ok (zR (dC, dI) [(cI, .int), (cB, .byte)] [.ref r0, .int (nI a)] [(r0, .inr (1, [.ref f0, .int (nI fk), .int fp, .ref t0, .int (nI nx), .int (nI lnb)])), (t0, .inr (2, [.ref t1, .int (nI len)])), (t1, .inl (cB, 400, .inl (aB tp)))] Hc) (zRi Hc (fun r => r = nI 1)) 0 0 zNo := by
  refine Met.ofW (cc := cR_hasBit) (maxL := 3) (ret := (some .boolean)) (by decide) rfl ?_
  intro p e s m args below meth c s₁ Bd hml hv
  obtain ⟨rfl, hH, hG, hP, hK⟩ := hv
  subst hH
  have hx := Bd.exec
  have hb := Bd.bytes
  have hr := Bd.returns
  have hts := atoms_spec (ws := wsR_hasBit) Bd.pre
  have hw : ∀ w ∈ BIG, w.before _ s = true := fun w h => hts w (List.mem_cons_of_mem _ h)
  have hown : s.vm.findClass RR = some m.cls := findClass_of_methodNamed Bd.named
  have hlocks := Bd.notSynchronized
  have hS : va_S zNo s.heap s.heap [] := va_S.rf
  have hl := lv_entry ([.ref r0, .int (nI a)]) (n := 3) (Nat.le_of_ble_eq_true rfl)
  rw [lg_entry_eq]
  generalize (lg_sl ([.ref r0, .int (nI a)]) ++ List.replicate (3 - (lg_sl ([.ref r0, .int (nI a)])).length) Slot.unset).toArray = ls at hl ⊢
  have hl : lv_has ls 3 [(0, .ref r0), (1, .int (nI a))] := hl
  refine zq_name (fun Q hQ => ?_)
  change W p l e rm_c_hasBit_ok s m _ below meth c _ _ _ _ Q _
  refine lv_iload_n hx hb dR_hasBit_0 rfl (lv_at hl 1 rfl) ?_
  refine lv_istore_n (lv' := [(2, .int (nI a)), (0, .ref r0), (1, .int (nI a))]) hx hb dR_hasBit_1 rfl hl (by decide) rfl (fun ls hl => ?_)
  have lp_2 : ∀ (fu : Nat) (j : Nat) (hj : j ≤ 8) (hi : anyB tp (8 - j) (a + j) = true) (hms : 8 - j < fu) (locs : List Loc) (ls : Array Slot), lv_has ls 3 [(0, .ref r0), (1, .int (nI a)), (2, .int (nI (a + j)))] → va_S zNo s.heap s.heap locs → W p l e rm_c_hasBit_ok s m ([.ref r0, .int (nI a)] : List Value).toArray below meth c s.heap locs 0 0 Q (F0 m 2 ls []) := by
    intro fu
    induction fu with
    | zero => intro j hj hi hms; exact absurd hms (Nat.not_lt_zero _)
    | succ fu ih2 =>
      intro j hj hi hms locs ls hl hS
      refine lv_iload_n hx hb dR_hasBit_2 rfl (lv_at hl 2 rfl) ?_
      refine lv_iload_n hx hb dR_hasBit_3 rfl (lv_at hl 1 rfl) ?_
      refine lv_bipush (v := nI 8) hx hb dR_hasBit_4 (by decide) ?_
      refine zi_add hx hb dR_hasBit_6 ?_
      refine zi_ge (tgt := 29) hx hb (by omega) (by omega) dR_hasBit_7 (by decide) (fun q => False.elim ((by have h9 := hi; rw [show 8 - j = 0 by omega] at h9; cases h9))) (fun c_7 => ?_)
      have ht9 := htp (a + j)
      refine lv_aload_n hx hb dR_hasBit_10 rfl (lv_at hl 0 rfl) ?_
      refine va_get (D := (dC, dI)) (ci := 1) (v := .ref t0) (C := RR) (T := TR) (N := 6) hx hb hw inR hown hK hP 0 rfl rfl 3 (by decide) (hw _ w_fl_R_31) (fun _ h9 => h9) rfl dR_hasBit_11 ?_
      refine lv_iload_n hx hb dR_hasBit_14 rfl (lv_at hl 2 rfl) ?_
      refine zc_Ri (va_runV (As := [.int (nI (a + j))]) (rest := []) ⟨hx, hb, hml, hown, hw⟩ (c_T_byteAt l dC dI t0 t1 len cI cB tp (a + j) (by omega) (htp _) s.heap) (cwV 1 hw (gV w_ml_R_50 w_im_T_byteAt w_se_T_byteAt w_in_T w_co_T_byteAt) rfl rfl rfl (by decide +kernel) ⟨Nat.le_of_ble_eq_true rfl, Nat.le_of_ble_eq_true rfl⟩) (zR_V hG hS (hP.sub (ws' := [(t0, .inr (2, [.ref t1, .int (nI len)])), (t1, .inl (cB, 400, .inl (aB tp)))]) [1, 2] rfl) hK 0 rfl rfl) rfl rfl hl.1 rfl (lv_room (Nat.le_of_ble_eq_true rfl)) dR_hasBit_15 ⟨Nat.le_of_ble_eq_true rfl, Nat.le_of_ble_eq_true rfl⟩) hS (fun r_1 locs h_15 hS => ?_)
      subst h_15
      refine zi_eq0 (tgt := 23) hx hb (by omega) dR_hasBit_18 (by decide) (fun c_18 => ?_) (fun c_18 => ?_)
      · refine lv_iinc (v := nI ((a + j) + 1)) (lv' := [(2, .int (nI ((a + j) + 1))), (0, .ref r0), (1, .int (nI a))]) hx hb dR_hasBit_23 hl (k := 2) rfl (zi_incr (a + j) 1) (by decide) rfl (fun ls hl => ?_)
        refine lv_goto (tgt := 2) hx hb dR_hasBit_26 (by decide) ?_
        exact ih2 (j + 1) (by omega) (by have h9 := hi; rw [show 8 - j = 8 - (j + 1) + 1 by omega] at h9; unfold anyB at h9; rw [if_pos c_18] at h9; exact h9) (by omega) _ _ (lv_sub hl [1, 2, 0] rfl) hS
      · refine lv_iconst (v := nI 1) hx hb dR_hasBit_21 (by decide) ?_
        subst hQ
        exact W.zret (v := nI 1) hx hb hr (by decide) (fun t ht hW => ⟨⟨nI 1, (), rfl, rfl, ht⟩, hS.F ht⟩) hS.2.2 dR_hasBit_22
  exact lp_2 ((8 - 0) + 1) 0 (by omega) hd (Nat.lt_succ_self _) _ _ (lv_sub hl [1, 2, 0] rfl) hS
def rm_c_hasBit_no : Room := ({ frames := 1, cells := 0, slots := 0, locals := 21 } : Room)
set_option maxHeartbeats 4000000 in
set_option maxRecDepth 100000 in
theorem c_hasBit_no (l : Launch) (dC : Nat → ClassId) (dI : Nat → Nat → Nat) (r0 : Nat) (f0 : Nat) (fk : Nat) (fp : Int32) (t0 : Nat) (nx : Nat) (lnb : Nat) (t1 : Nat) (len : Nat) (cI : ClassId) (cB : ClassId) (tp : Nat → Nat) (a : Nat) (htp : ∀ j, tp j < 256) (ha : a + 8 ≤ 400) (hd : anyB tp 8 a = false) (Hc : Heap) : Met l yR_hasBit wsR_hasBit rm_c_hasBit_no (zR (dC, dI) [(cI, .int), (cB, .byte)] [.ref r0, .int (nI a)] [(r0, .inr (1, [.ref f0, .int (nI fk), .int fp, .ref t0, .int (nI nx), .int (nI lnb)])), (t0, .inr (2, [.ref t1, .int (nI len)])), (t1, .inl (cB, 400, .inl (aB tp)))] Hc) (zRi Hc (fun r => r = nI 0)) 0 0 zNo := by
  refine Met.ofW (cc := cR_hasBit) (maxL := 3) (ret := (some .boolean)) (by decide) rfl ?_
  intro p e s m args below meth c s₁ Bd hml hv
  obtain ⟨rfl, hH, hG, hP, hK⟩ := hv
  subst hH
  have hx := Bd.exec
  have hb := Bd.bytes
  have hr := Bd.returns
  have hts := atoms_spec (ws := wsR_hasBit) Bd.pre
  have hw : ∀ w ∈ BIG, w.before _ s = true := fun w h => hts w (List.mem_cons_of_mem _ h)
  have hown : s.vm.findClass RR = some m.cls := findClass_of_methodNamed Bd.named
  have hlocks := Bd.notSynchronized
  have hS : va_S zNo s.heap s.heap [] := va_S.rf
  have hl := lv_entry ([.ref r0, .int (nI a)]) (n := 3) (Nat.le_of_ble_eq_true rfl)
  rw [lg_entry_eq]
  generalize (lg_sl ([.ref r0, .int (nI a)]) ++ List.replicate (3 - (lg_sl ([.ref r0, .int (nI a)])).length) Slot.unset).toArray = ls at hl ⊢
  have hl : lv_has ls 3 [(0, .ref r0), (1, .int (nI a))] := hl
  refine zq_name (fun Q hQ => ?_)
  change W p l e rm_c_hasBit_no s m _ below meth c _ _ _ _ Q _
  refine lv_iload_n hx hb dR_hasBit_0 rfl (lv_at hl 1 rfl) ?_
  refine lv_istore_n (lv' := [(2, .int (nI a)), (0, .ref r0), (1, .int (nI a))]) hx hb dR_hasBit_1 rfl hl (by decide) rfl (fun ls hl => ?_)
  have lp_2 : ∀ (fu : Nat) (j : Nat) (hj : j ≤ 8) (hi : anyB tp (8 - j) (a + j) = false) (hms : 8 - j < fu) (locs : List Loc) (ls : Array Slot), lv_has ls 3 [(0, .ref r0), (1, .int (nI a)), (2, .int (nI (a + j)))] → va_S zNo s.heap s.heap locs → W p l e rm_c_hasBit_no s m ([.ref r0, .int (nI a)] : List Value).toArray below meth c s.heap locs 0 0 Q (F0 m 2 ls []) := by
    intro fu
    induction fu with
    | zero => intro j hj hi hms; exact absurd hms (Nat.not_lt_zero _)
    | succ fu ih2 =>
      intro j hj hi hms locs ls hl hS
      refine lv_iload_n hx hb dR_hasBit_2 rfl (lv_at hl 2 rfl) ?_
      refine lv_iload_n hx hb dR_hasBit_3 rfl (lv_at hl 1 rfl) ?_
      refine lv_bipush (v := nI 8) hx hb dR_hasBit_4 (by decide) ?_
      refine zi_add hx hb dR_hasBit_6 ?_
      refine zi_ge (tgt := 29) hx hb (by omega) (by omega) dR_hasBit_7 (by decide) (fun c_7 => ?_) (fun c_7 => ?_)
      · refine lv_iconst (v := nI 0) hx hb dR_hasBit_29 (by decide) ?_
        subst hQ
        exact W.zret (v := nI 0) hx hb hr (by decide) (fun t ht hW => ⟨⟨nI 0, (), rfl, rfl, ht⟩, hS.F ht⟩) hS.2.2 dR_hasBit_30
      · have ht9 := htp (a + j)
        refine lv_aload_n hx hb dR_hasBit_10 rfl (lv_at hl 0 rfl) ?_
        refine va_get (D := (dC, dI)) (ci := 1) (v := .ref t0) (C := RR) (T := TR) (N := 6) hx hb hw inR hown hK hP 0 rfl rfl 3 (by decide) (hw _ w_fl_R_31) (fun _ h9 => h9) rfl dR_hasBit_11 ?_
        refine lv_iload_n hx hb dR_hasBit_14 rfl (lv_at hl 2 rfl) ?_
        refine zc_Ri (va_runV (As := [.int (nI (a + j))]) (rest := []) ⟨hx, hb, hml, hown, hw⟩ (c_T_byteAt l dC dI t0 t1 len cI cB tp (a + j) (by omega) (htp _) s.heap) (cwV 1 hw (gV w_ml_R_50 w_im_T_byteAt w_se_T_byteAt w_in_T w_co_T_byteAt) rfl rfl rfl (by decide +kernel) ⟨Nat.le_of_ble_eq_true rfl, Nat.le_of_ble_eq_true rfl⟩) (zR_V hG hS (hP.sub (ws' := [(t0, .inr (2, [.ref t1, .int (nI len)])), (t1, .inl (cB, 400, .inl (aB tp)))]) [1, 2] rfl) hK 0 rfl rfl) rfl rfl hl.1 rfl (lv_room (Nat.le_of_ble_eq_true rfl)) dR_hasBit_15 ⟨Nat.le_of_ble_eq_true rfl, Nat.le_of_ble_eq_true rfl⟩) hS (fun r_1 locs h_15 hS => ?_)
        subst h_15
        refine zi_eq0 (tgt := 23) hx hb (by omega) dR_hasBit_18 (by decide) (fun c_18 => ?_) (fun q => False.elim ((by have h9 := hi; rw [show 8 - j = 8 - (j + 1) + 1 by omega] at h9; unfold anyB at h9; rw [if_neg q] at h9; cases h9)))
        refine lv_iinc (v := nI ((a + j) + 1)) (lv' := [(2, .int (nI ((a + j) + 1))), (0, .ref r0), (1, .int (nI a))]) hx hb dR_hasBit_23 hl (k := 2) rfl (zi_incr (a + j) 1) (by decide) rfl (fun ls hl => ?_)
        refine lv_goto (tgt := 2) hx hb dR_hasBit_26 (by decide) ?_
        exact ih2 (j + 1) (by omega) (by have h9 := hi; rw [show 8 - j = 8 - (j + 1) + 1 by omega] at h9; unfold anyB at h9; rw [if_pos c_18] at h9; exact h9) (by omega) _ _ (lv_sub hl [1, 2, 0] rfl) hS
  exact lp_2 ((8 - 0) + 1) 0 (by omega) hd (Nat.lt_succ_self _) _ _ (lv_sub hl [1, 2, 0] rfl) hS
