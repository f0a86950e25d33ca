def rm_c_takeField_ok : Room := ({ frames := 2, cells := 0, slots := 0, locals := 51 } : Room)
set_option maxHeartbeats 4000000 in
set_option maxRecDepth 100000 in
theorem c_takeField_ok (l : Launch) (dC : Nat → ClassId) (dI : Nat → Nat → Nat) (m0 : Nat) (n0 : Nat) (n1 : Nat) (n2 : Nat) (cd : Nat) (dt : Nat) (e0 : Nat) (e1 : Nat) (rt : Nat) (e2 : Nat) (e3 : Nat) (e4 : Nat) (sz9 : Nat) (at9 : Nat) (fl : Nat) (pl : Int32) (wr : Nat) (e5 : Nat) (cI : ClassId) (cB : ClassId) (rd : Nat → Nat) (rs : Nat → Nat) (tp : Nat → Nat) (fw : Nat → Nat) (k : Nat) (hsz : sz9 ≤ 400) (hat : at9 ≤ sz9) (htp : ∀ j, tp j < 256) (hfl : fl = 0) (hk : k < 16) (hd : fieldF tp sz9 at9 k = none) (sz : Nat) : Met l yM_takeField wsM_takeField rm_c_takeField_ok (zM (dC, dI) [(cI, .int), (cB, .byte)] [.ref m0, .int (nI k)] [(m0, .inr (4, [.ref n0, .ref n1, .ref n2, .int (nI cd), .int (nI dt), .ref e0, .ref e1, .int (nI rt), .ref e2, .ref e3, .ref e4, .int (nI sz9), .int (nI at9), .int (nI fl), .int pl, .int (nI wr), .ref e5])), (n1, .inl (cI, 16, .inl (aN fMM))), (n2, .inl (cI, 16, .inl (aN fFO))), (e2, .inl (cI, 672, .inl (aN rd))), (e3, .inl (cI, 16, .inl (aP rs))), (e4, .inl (cI, 400, .inl (aN tp))), (e5, .inl (cI, 4, .inl (aN fw)))] sz) (zSv (dC, dI) [(m0, .inr (4, [.ref n0, .ref n1, .ref n2, .int (nI cd), .int (nI dt), .ref e0, .ref e1, .int (nI rt), .ref e2, .ref e3, .ref e4, .int (nI sz9), .int (nI at9), .int (nI fl), .int pl, .int (nI wr), .ref e5])), (n1, .inl (cI, 16, .inl (aN fMM))), (n2, .inl (cI, 16, .inl (aN fFO))), (e2, .inl (cI, 672, .inl (aN rd))), (e3, .inl (cI, 16, .inl (aP rs))), (e4, .inl (cI, 400, .inl (aN tp))), (e5, .inl (cI, 4, .inl (aN fw)))] sz (fun (u : Nat → Nat) => True) (fun u => [(m0, .inr (4, [.ref n0, .ref n1, .ref n2, .int (nI cd), .int (nI dt), .ref e0, .ref e1, .int (nI rt), .ref e2, .ref e3, .ref e4, .int (nI sz9), .int (nI (fNx tp at9 k)), .int (nI fl), .int pl, .int (nI wr), .ref e5])), (n1, .inl (cI, 16, .inl (aN fMM))), (n2, .inl (cI, 16, .inl (aN fFO))), (e2, .inl (cI, 672, .inl (aN (fMd tp at9 k rd)))), (e3, .inl (cI, 16, .inl (aP (nup rs k (fCt tp at9 k + 1))))), (e4, .inl (cI, 400, .inl (aN tp))), (e5, .inl (cI, 4, .inl (aN u)))])) 0 0 (va_A [(m0, .inr (4, [.ref n0, .ref n1, .ref n2, .int (nI cd), .int (nI dt), .ref e0, .ref e1, .int (nI rt), .ref e2, .ref e3, .ref e4, .int (nI sz9), .int (nI at9), .int (nI fl), .int pl, .int (nI wr), .ref e5])), (n1, .inl (cI, 16, .inl (aN fMM))), (n2, .inl (cI, 16, .inl (aN fFO))), (e2, .inl (cI, 672, .inl (aN rd))), (e3, .inl (cI, 16, .inl (aP rs))), (e4, .inl (cI, 400, .inl (aN tp))), (e5, .inl (cI, 4, .inl (aN fw)))] sz) := by
  refine Met.ofW (cc := cM_takeField) (maxL := 5) (ret := none) (by decide) rfl ?_
  intro p e s m args below meth c s₁ Bd hml hv
  obtain ⟨rfl, hsz, hG, hP, hK, hD0⟩ := hv
  subst hsz
  have hx := Bd.exec
  have hb := Bd.bytes
  have hr := Bd.returns
  have hts := atoms_spec (ws := wsM_takeField) Bd.pre
  have hw : ∀ w ∈ BIG, w.before _ s = true := fun w h => hts w (List.mem_cons_of_mem _ h)
  have hown : s.vm.findClass RM = some m.cls := findClass_of_methodNamed Bd.named
  have hlocks := Bd.notSynchronized
  have hD := hD0.self (sz := s.heap.size)
  obtain ⟨A, hAe⟩ : ∃ A, A = va_A [(m0, .inr (4, [.ref n0, .ref n1, .ref n2, .int (nI cd), .int (nI dt), .ref e0, .ref e1, .int (nI rt), .ref e2, .ref e3, .ref e4, .int (nI sz9), .int (nI at9), .int (nI fl), .int pl, .int (nI wr), .ref e5])), (n1, .inl (cI, 16, .inl (aN fMM))), (n2, .inl (cI, 16, .inl (aN fFO))), (e2, .inl (cI, 672, .inl (aN rd))), (e3, .inl (cI, 16, .inl (aP rs))), (e4, .inl (cI, 400, .inl (aN tp))), (e5, .inl (cI, 4, .inl (aN fw)))] s.heap.size := ⟨_, rfl⟩
  have hA : ∀ q : Nat, s.heap.size ≤ q → A q := fun q h => by rw [hAe]; exact Or.inr h
  rw [← hAe] at hG hD
  have hS : va_S A s.heap s.heap [] := va_S.rf
  have hl := lv_entry ([.ref m0, .int (nI k)]) (n := 5) (Nat.le_of_ble_eq_true rfl)
  rw [lg_entry_eq]
  generalize (lg_sl ([.ref m0, .int (nI k)]) ++ List.replicate (5 - (lg_sl ([.ref m0, .int (nI k)])).length) Slot.unset).toArray = ls at hl ⊢
  have hl : lv_has ls 5 [(0, .ref m0), (1, .int (nI k))] := hl
  refine zq_name (fun Q hQ => ?_)
  change W p l e rm_c_takeField_ok s m _ below meth c _ _ _ _ Q _
  obtain ⟨ho1, ho2, ho3, ho4, ho5⟩ := fFO_b k hk
  have hmm := fMM_b k hk
  have hcd := fCD_b k hk
  have hof := fFO_cd k hk
  refine lv_aload_n hx hb dM_takeField_0 rfl (lv_at hl 0 rfl) ?_
  refine va_get (D := (dC, dI)) (ci := 4) (v := .ref n1) (C := RM) (T := TM) (N := 17) hx hb hw inM hown hK hP 0 rfl rfl 1 (by decide) (hw _ w_fl_M_13) (fun _ h9 => h9) rfl dM_takeField_1 ?_
  refine lv_iload_n hx hb dM_takeField_4 rfl (lv_at hl 1 rfl) ?_
  refine za_ild hx hb hK hP 1 0 rfl rfl (by omega) (by decide) dM_takeField_5 ?_
  refine lv_istore_n (lv' := [(2, .int (nI (fMM k))), (0, .ref m0), (1, .int (nI k))]) hx hb dM_takeField_6 rfl hl (by decide) rfl (fun ls hl => ?_)
  refine lv_aload_n hx hb dM_takeField_7 rfl (lv_at hl 1 rfl) ?_
  refine va_get (D := (dC, dI)) (ci := 4) (v := .ref n2) (C := RM) (T := TM) (N := 17) hx hb hw inM hown hK hP 0 rfl rfl 2 (by decide) (hw _ w_fl_M_16) (fun _ h9 => h9) rfl dM_takeField_8 ?_
  refine lv_iload_n hx hb dM_takeField_11 rfl (lv_at hl 2 rfl) ?_
  refine za_ild hx hb hK hP 2 0 rfl rfl (by omega) (by decide) dM_takeField_12 ?_
  refine lv_iconst (v := nI 2) hx hb dM_takeField_13 (by decide) ?_
  refine zi_rem hx hb (by omega) (by omega) (by omega) dM_takeField_14 ?_
  refine lv_iconst (v := nI 1) hx hb dM_takeField_15 (by decide) ?_
  refine zi_ne (tgt := 133) hx hb (by omega) (by omega) dM_takeField_16 (by decide) (fun c_16 => ?_) (fun c_16 => ?_)
  · have hc0 : fCD k = 0 := by omega
    have hv := fieldF_val hd
    rw [show fCt tp at9 k = fMM k from if_pos hc0, fVp_0 hc0] at hv
    refine lv_aload_n hx hb dM_takeField_133 rfl (lv_at hl 1 rfl) ?_
    refine va_get (D := (dC, dI)) (ci := 4) (v := .ref e3) (C := RM) (T := TM) (N := 17) hx hb hw inM hown hK hP 0 rfl rfl 9 (by decide) (hw _ w_fl_M_32) (fun _ h9 => h9) rfl dM_takeField_134 ?_
    refine lv_iload_n hx hb dM_takeField_137 rfl (lv_at hl 2 rfl) ?_
    refine lv_iload_n hx hb dM_takeField_138 rfl (lv_at hl 0 rfl) ?_
    refine zi_v (b := pm ((fMM k) + 1)) (pm_s _).symm ?_
    refine za_pst hx hb hK hP hD hS 4 0 rfl rfl (by omega) (by decide) dM_takeField_139 (fun H locs hP hD hS => ?_)
    have hP : va_P (dC, dI) vwCl [(m0, .inr (4, [.ref n0, .ref n1, .ref n2, .int (nI cd), .int (nI dt), .ref e0, .ref e1, .int (nI rt), .ref e2, .ref e3, .ref e4, .int (nI sz9), .int (nI at9), .int (nI fl), .int pl, .int (nI wr), .ref e5])), (n1, .inl (cI, 16, .inl (aN fMM))), (n2, .inl (cI, 16, .inl (aN fFO))), (e2, .inl (cI, 672, .inl (aN rd))), (e3, .inl (cI, 16, .inl (aP (nup rs k ((fMM k) + 1))))), (e4, .inl (cI, 400, .inl (aN tp))), (e5, .inl (cI, 4, .inl (aN fw)))] H := hP
    have hD : va_D A [(m0, .inr (4, [.ref n0, .ref n1, .ref n2, .int (nI cd), .int (nI dt), .ref e0, .ref e1, .int (nI rt), .ref e2, .ref e3, .ref e4, .int (nI sz9), .int (nI at9), .int (nI fl), .int pl, .int (nI wr), .ref e5])), (n1, .inl (cI, 16, .inl (aN fMM))), (n2, .inl (cI, 16, .inl (aN fFO))), (e2, .inl (cI, 672, .inl (aN rd))), (e3, .inl (cI, 16, .inl (aP (nup rs k ((fMM k) + 1))))), (e4, .inl (cI, 400, .inl (aN tp))), (e5, .inl (cI, 4, .inl (aN fw)))] := hD
    refine lv_aload_n hx hb dM_takeField_140 rfl (lv_at hl 1 rfl) ?_
    refine va_get (D := (dC, dI)) (ci := 4) (v := .ref n2) (C := RM) (T := TM) (N := 17) hx hb hw inM hown hK hP 0 rfl rfl 2 (by decide) (hw _ w_fl_M_16) (fun _ h9 => h9) rfl dM_takeField_141 ?_
    refine lv_iload_n hx hb dM_takeField_144 rfl (lv_at hl 2 rfl) ?_
    refine za_ild hx hb hK hP 2 0 rfl rfl (by omega) (by decide) dM_takeField_145 ?_
    refine lv_iconst (v := nI 2) hx hb dM_takeField_146 (by decide) ?_
    refine zi_ge (tgt := 166) hx hb (by omega) (by omega) dM_takeField_147 (by decide) (fun c_147 => ?_) (fun c_147 => ?_)
    · unfold valF at hv
      rw [if_neg (fun z => by have := ho2.mpr z; omega)] at hv
      refine lv_aload_n hx hb dM_takeField_166 rfl (lv_at hl 1 rfl) ?_
      refine lv_iload_n hx hb dM_takeField_167 rfl (lv_at hl 0 rfl) ?_
      refine lv_aload_n hx hb dM_takeField_168 rfl (lv_at hl 1 rfl) ?_
      refine va_get (D := (dC, dI)) (ci := 4) (v := .ref e2) (C := RM) (T := TM) (N := 17) hx hb hw inM hown hK hP 0 rfl rfl 8 (by decide) (hw _ w_fl_M_29) (fun _ h9 => h9) rfl dM_takeField_169 ?_
      refine lv_bipush (v := nI 42) hx hb dM_takeField_172 (by decide) ?_
      refine lv_iload_n hx hb dM_takeField_174 rfl (lv_at hl 2 rfl) ?_
      refine zi_mul hx hb dM_takeField_175 ?_
      have hPc := hP.sub (ws' := [(m0, .inr (4, [.ref n0, .ref n1, .ref n2, .int (nI cd), .int (nI dt), .ref e0, .ref e1, .int (nI rt), .ref e2, .ref e3, .ref e4, .int (nI sz9), .int (nI at9), .int (nI fl), .int pl, .int (nI wr), .ref e5])), (e4, .inl (cI, 400, .inl (aN tp))), (e2, .inl (cI, 672, .inl (aN rd)))]) [0, 5, 3] rfl
      have hDc := hD.sub (ws' := [(m0, .inr (4, [.ref n0, .ref n1, .ref n2, .int (nI cd), .int (nI dt), .ref e0, .ref e1, .int (nI rt), .ref e2, .ref e3, .ref e4, .int (nI sz9), .int (nI at9), .int (nI fl), .int pl, .int (nI wr), .ref e5])), (e4, .inl (cI, 400, .inl (aN tp))), (e2, .inl (cI, 672, .inl (aN rd)))]) [0, 5, 3] (by decide) rfl
      have hFc := va_free (wc := [(m0, .inr (4, [.ref n0, .ref n1, .ref n2, .int (nI cd), .int (nI dt), .ref e0, .ref e1, .int (nI rt), .ref e2, .ref e3, .ref e4, .int (nI sz9), .int (nI at9), .int (nI fl), .int pl, .int (nI wr), .ref e5])), (e4, .inl (cI, 400, .inl (aN tp))), (e2, .inl (cI, 672, .inl (aN rd)))]) hD hS hA [0, 5, 3] rfl
      refine zc_Mv (va_runV (As := [.int (nI (fMM k)), .ref e2, .int (nI (42 * k))]) (rest := []) ⟨hx, hb, hml, hown, hw⟩ (c_takeLetters_ok l dC dI m0 n0 n1 n2 cd dt e0 e1 rt e2 e3 e4 sz9 at9 fl pl wr e5 cI cB e2 672 rd tp (fMM k) (42 * k) (by omega) (by omega) htp (by omega) (by omega) (by omega) (by omega) hfl hv H.size) (cwV 3 hw (gV w_ml_M_119 w_im_M_takeLetters w_se_M_takeLetters w_in_M w_co_M_takeLetters) rfl rfl rfl (by decide +kernel) ⟨Nat.le_of_ble_eq_true rfl, Nat.le_of_ble_eq_true rfl⟩) (zM_V hG hS hFc hPc hDc hK 0 rfl rfl) rfl rfl hl.1 rfl (lv_room (Nat.le_of_ble_eq_true rfl)) dM_takeField_176 ⟨Nat.le_of_ble_eq_true rfl, Nat.le_of_ble_eq_true rfl⟩) hS hFc (fun H locs h_176 hP1 hD1 hk1 hS => ?_)
      obtain ⟨hP, hD⟩ := va_join (wr := [(n1, .inl (cI, 16, .inl (aN fMM))), (n2, .inl (cI, 16, .inl (aN fFO))), (e3, .inl (cI, 16, .inl (aP (nup rs k ((fMM k) + 1))))), (e5, .inl (cI, 4, .inl (aN fw)))]) (w1 := [(m0, .inr (4, [.ref n0, .ref n1, .ref n2, .int (nI cd), .int (nI dt), .ref e0, .ref e1, .int (nI rt), .ref e2, .ref e3, .ref e4, .int (nI sz9), .int (nI (at9 + (fMM k))), .int (nI fl), .int pl, .int (nI wr), .ref e5])), (e4, .inl (cI, 400, .inl (aN tp))), (e2, .inl (cI, 672, .inl (aN (ltCM tp at9 (42 * k) (fMM k) 0 rd))))]) hP hD [0, 5, 3] [1, 2, 4, 6] rfl rfl (by decide) (by decide) hk1 hFc hP1 hD1
      have hP : va_P (dC, dI) vwCl [(n1, .inl (cI, 16, .inl (aN fMM))), (n2, .inl (cI, 16, .inl (aN fFO))), (e3, .inl (cI, 16, .inl (aP (nup rs k ((fMM k) + 1))))), (e5, .inl (cI, 4, .inl (aN fw))), (m0, .inr (4, [.ref n0, .ref n1, .ref n2, .int (nI cd), .int (nI dt), .ref e0, .ref e1, .int (nI rt), .ref e2, .ref e3, .ref e4, .int (nI sz9), .int (nI (at9 + (fMM k))), .int (nI fl), .int pl, .int (nI wr), .ref e5])), (e4, .inl (cI, 400, .inl (aN tp))), (e2, .inl (cI, 672, .inl (aN (ltCM tp at9 (42 * k) (fMM k) 0 rd))))] H := hP
      have hD : va_D A [(n1, .inl (cI, 16, .inl (aN fMM))), (n2, .inl (cI, 16, .inl (aN fFO))), (e3, .inl (cI, 16, .inl (aP (nup rs k ((fMM k) + 1))))), (e5, .inl (cI, 4, .inl (aN fw))), (m0, .inr (4, [.ref n0, .ref n1, .ref n2, .int (nI cd), .int (nI dt), .ref e0, .ref e1, .int (nI rt), .ref e2, .ref e3, .ref e4, .int (nI sz9), .int (nI (at9 + (fMM k))), .int (nI fl), .int pl, .int (nI wr), .ref e5])), (e4, .inl (cI, 400, .inl (aN tp))), (e2, .inl (cI, 672, .inl (aN (ltCM tp at9 (42 * k) (fMM k) 0 rd))))] := hD
      have eC : fCt tp at9 k = fMM k := if_pos hc0
      have eV : fVp at9 k = at9 := fVp_0 hc0
      have eN : fNx tp at9 k = (at9) + fMM k := by unfold fNx vNx; rw [if_neg (fun z => by have := ho2.mpr z; omega), eV, eC]
      have eM : fMd tp at9 k rd = ltCM tp (at9) (42 * k) (fMM k) 0 rd := by unfold fMd; rw [if_neg (fun z => by have := ho2.mpr z; omega), eV, eC]
      rw [eN, eM, eC] at hQ
      subst hAe
      subst hQ
      exact W.vret hx hb hr (fun t ht hW => ⟨⟨fw, rfl, trivial, by rw [ht]; exact hP.sub [4, 0, 1, 6, 2, 5, 3] rfl, hD.sub [4, 0, 1, 6, 2, 5, 3] (by decide) rfl⟩, hS.F ht⟩) hS.2.2 dM_takeField_179
    · unfold valF at hv
      rw [if_pos (ho2.mp c_147)] at hv
      refine lv_aload_n hx hb dM_takeField_150 rfl (lv_at hl 1 rfl) ?_
      refine lv_iload_n hx hb dM_takeField_151 rfl (lv_at hl 0 rfl) ?_
      refine lv_aload_n hx hb dM_takeField_152 rfl (lv_at hl 1 rfl) ?_
      refine va_get (D := (dC, dI)) (ci := 4) (v := .ref e2) (C := RM) (T := TM) (N := 17) hx hb hw inM hown hK hP 0 rfl rfl 8 (by decide) (hw _ w_fl_M_29) (fun _ h9 => h9) rfl dM_takeField_153 ?_
      refine lv_bipush (v := nI 42) hx hb dM_takeField_156 (by decide) ?_
      refine lv_iload_n hx hb dM_takeField_158 rfl (lv_at hl 2 rfl) ?_
      refine zi_mul hx hb dM_takeField_159 ?_
      have hPc := hP.sub (ws' := [(m0, .inr (4, [.ref n0, .ref n1, .ref n2, .int (nI cd), .int (nI dt), .ref e0, .ref e1, .int (nI rt), .ref e2, .ref e3, .ref e4, .int (nI sz9), .int (nI at9), .int (nI fl), .int pl, .int (nI wr), .ref e5])), (e4, .inl (cI, 400, .inl (aN tp))), (e2, .inl (cI, 672, .inl (aN rd)))]) [0, 5, 3] rfl
      have hDc := hD.sub (ws' := [(m0, .inr (4, [.ref n0, .ref n1, .ref n2, .int (nI cd), .int (nI dt), .ref e0, .ref e1, .int (nI rt), .ref e2, .ref e3, .ref e4, .int (nI sz9), .int (nI at9), .int (nI fl), .int pl, .int (nI wr), .ref e5])), (e4, .inl (cI, 400, .inl (aN tp))), (e2, .inl (cI, 672, .inl (aN rd)))]) [0, 5, 3] (by decide) rfl
      have hFc := va_free (wc := [(m0, .inr (4, [.ref n0, .ref n1, .ref n2, .int (nI cd), .int (nI dt), .ref e0, .ref e1, .int (nI rt), .ref e2, .ref e3, .ref e4, .int (nI sz9), .int (nI at9), .int (nI fl), .int pl, .int (nI wr), .ref e5])), (e4, .inl (cI, 400, .inl (aN tp))), (e2, .inl (cI, 672, .inl (aN rd)))]) hD hS hA [0, 5, 3] rfl
      refine zc_Mv (va_runV (As := [.int (nI (fMM k)), .ref e2, .int (nI (42 * k))]) (rest := []) ⟨hx, hb, hml, hown, hw⟩ (c_takeDigits_ok l dC dI m0 n0 n1 n2 cd dt e0 e1 rt e2 e3 e4 sz9 at9 fl pl wr e5 cI cB e2 672 rd tp (fMM k) (42 * k) (by omega) (by omega) htp (by omega) (by omega) (by omega) (by omega) hfl hv H.size) (cwV 3 hw (gV w_ml_M_115 w_im_M_takeDigits w_se_M_takeDigits w_in_M w_co_M_takeDigits) rfl rfl rfl (by decide +kernel) ⟨Nat.le_of_ble_eq_true rfl, Nat.le_of_ble_eq_true rfl⟩) (zM_V hG hS hFc hPc hDc hK 0 rfl rfl) rfl rfl hl.1 rfl (lv_room (Nat.le_of_ble_eq_true rfl)) dM_takeField_160 ⟨Nat.le_of_ble_eq_true rfl, Nat.le_of_ble_eq_true rfl⟩) hS hFc (fun H locs h_160 hP1 hD1 hk1 hS => ?_)
      obtain ⟨hP, hD⟩ := va_join (wr := [(n1, .inl (cI, 16, .inl (aN fMM))), (n2, .inl (cI, 16, .inl (aN fFO))), (e3, .inl (cI, 16, .inl (aP (nup rs k ((fMM k) + 1))))), (e5, .inl (cI, 4, .inl (aN fw)))]) (w1 := [(m0, .inr (4, [.ref n0, .ref n1, .ref n2, .int (nI cd), .int (nI dt), .ref e0, .ref e1, .int (nI rt), .ref e2, .ref e3, .ref e4, .int (nI sz9), .int (nI (at9 + ((fMM k) + 1) / 2)), .int (nI fl), .int pl, .int (nI wr), .ref e5])), (e4, .inl (cI, 400, .inl (aN tp))), (e2, .inl (cI, 672, .inl (aN (dgC tp at9 (fMM k) (42 * k) (fMM k) 0 rd))))]) hP hD [0, 5, 3] [1, 2, 4, 6] rfl rfl (by decide) (by decide) hk1 hFc hP1 hD1
      have hP : va_P (dC, dI) vwCl [(n1, .inl (cI, 16, .inl (aN fMM))), (n2, .inl (cI, 16, .inl (aN fFO))), (e3, .inl (cI, 16, .inl (aP (nup rs k ((fMM k) + 1))))), (e5, .inl (cI, 4, .inl (aN fw))), (m0, .inr (4, [.ref n0, .ref n1, .ref n2, .int (nI cd), .int (nI dt), .ref e0, .ref e1, .int (nI rt), .ref e2, .ref e3, .ref e4, .int (nI sz9), .int (nI (at9 + ((fMM k) + 1) / 2)), .int (nI fl), .int pl, .int (nI wr), .ref e5])), (e4, .inl (cI, 400, .inl (aN tp))), (e2, .inl (cI, 672, .inl (aN (dgC tp at9 (fMM k) (42 * k) (fMM k) 0 rd))))] H := hP
      have hD : va_D A [(n1, .inl (cI, 16, .inl (aN fMM))), (n2, .inl (cI, 16, .inl (aN fFO))), (e3, .inl (cI, 16, .inl (aP (nup rs k ((fMM k) + 1))))), (e5, .inl (cI, 4, .inl (aN fw))), (m0, .inr (4, [.ref n0, .ref n1, .ref n2, .int (nI cd), .int (nI dt), .ref e0, .ref e1, .int (nI rt), .ref e2, .ref e3, .ref e4, .int (nI sz9), .int (nI (at9 + ((fMM k) + 1) / 2)), .int (nI fl), .int pl, .int (nI wr), .ref e5])), (e4, .inl (cI, 400, .inl (aN tp))), (e2, .inl (cI, 672, .inl (aN (dgC tp at9 (fMM k) (42 * k) (fMM k) 0 rd))))] := hD
      refine lv_goto (tgt := 179) hx hb dM_takeField_163 (by decide) ?_
      have eC : fCt tp at9 k = fMM k := if_pos hc0
      have eV : fVp at9 k = at9 := fVp_0 hc0
      have eN : fNx tp at9 k = (at9) + (fMM k + 1) / 2 := by unfold fNx vNx; rw [if_pos (ho2.mp c_147), eV, eC]
      have eM : fMd tp at9 k rd = dgC tp (at9) (fMM k) (42 * k) (fMM k) 0 rd := by unfold fMd; rw [if_pos (ho2.mp c_147), eV, eC]
      rw [eN, eM, eC] at hQ
      subst hAe
      subst hQ
      exact W.vret hx hb hr (fun t ht hW => ⟨⟨fw, rfl, trivial, by rw [ht]; exact hP.sub [4, 0, 1, 6, 2, 5, 3] rfl, hD.sub [4, 0, 1, 6, 2, 5, 3] (by decide) rfl⟩, hS.F ht⟩) hS.2.2 dM_takeField_179
  · refine lv_aload_n hx hb dM_takeField_19 rfl (lv_at hl 1 rfl) ?_
    refine va_get (D := (dC, dI)) (ci := 4) (v := .int (nI at9)) (C := RM) (T := TM) (N := 17) hx hb hw inM hown hK hP 0 rfl rfl 12 (by decide) (hw _ w_fl_M_108) (fun _ h9 => h9) rfl dM_takeField_20 ?_
    refine lv_istore_n (lv' := [(3, .int (nI at9)), (2, .int (nI (fMM k))), (0, .ref m0), (1, .int (nI k))]) hx hb dM_takeField_23 rfl hl (by decide) rfl (fun ls hl => ?_)
    refine lv_aload_n hx hb dM_takeField_24 rfl (lv_at hl 2 rfl) ?_
    refine va_get (D := (dC, dI)) (ci := 4) (v := .ref n2) (C := RM) (T := TM) (N := 17) hx hb hw inM hown hK hP 0 rfl rfl 2 (by decide) (hw _ w_fl_M_16) (fun _ h9 => h9) rfl dM_takeField_25 ?_
    refine lv_iload_n hx hb dM_takeField_28 rfl (lv_at hl 3 rfl) ?_
    refine za_ild hx hb hK hP 2 0 rfl rfl (by omega) (by decide) dM_takeField_29 ?_
    refine lv_iconst (v := nI 1) hx hb dM_takeField_30 (by decide) ?_
    refine zi_ne (tgt := 38) hx hb (by omega) (by omega) dM_takeField_31 (by decide) (fun c_31 => ?_) (fun c_31 => ?_)
    · have hcw : fCD k = 3 := by omega
      have hnb := nmA_b htp (nx := at9) (ct := fCD k) (by omega)
      obtain ⟨hd9, hct1, hct2⟩ := fieldF_num hd (by omega)
      have hs9 := dgF_fit hd9
      have hv := fieldF_val hd
      rw [show fCt tp at9 k = nmA tp at9 (fCD k) (fCD k) 0 0 from if_neg (by omega), show fVp at9 k = at9 + (fCD k + 1) / 2 from rfl] at hv
      rw [hcw] at hd9 hs9 hnb hct1 hct2 hv
      refine lv_iconst (v := nI 3) hx hb dM_takeField_38 (by decide) ?_
      refine lv_istore (lv' := [(4, .int (nI 3)), (3, .int (nI at9)), (2, .int (nI (fMM k))), (0, .ref m0), (1, .int (nI k))]) hx hb dM_takeField_39 hl (by decide) rfl (fun ls hl => ?_)
      refine lv_aload_n hx hb dM_takeField_41 rfl (lv_at hl 3 rfl) ?_
      refine lv_iload hx hb dM_takeField_42 (lv_at hl 0 rfl) ?_
      refine lv_aload_n hx hb dM_takeField_44 rfl (lv_at hl 3 rfl) ?_
      refine va_get (D := (dC, dI)) (ci := 4) (v := .ref e5) (C := RM) (T := TM) (N := 17) hx hb hw inM hown hK hP 0 rfl rfl 16 (by decide) (hw _ w_fl_M_38) (fun _ h9 => h9) rfl dM_takeField_45 ?_
      refine lv_iconst (v := nI 0) hx hb dM_takeField_48 (by decide) ?_
      have hPc := hP.sub (ws' := [(m0, .inr (4, [.ref n0, .ref n1, .ref n2, .int (nI cd), .int (nI dt), .ref e0, .ref e1, .int (nI rt), .ref e2, .ref e3, .ref e4, .int (nI sz9), .int (nI at9), .int (nI fl), .int pl, .int (nI wr), .ref e5])), (e4, .inl (cI, 400, .inl (aN tp))), (e5, .inl (cI, 4, .inl (aN fw)))]) [0, 5, 6] rfl
      have hDc := hD.sub (ws' := [(m0, .inr (4, [.ref n0, .ref n1, .ref n2, .int (nI cd), .int (nI dt), .ref e0, .ref e1, .int (nI rt), .ref e2, .ref e3, .ref e4, .int (nI sz9), .int (nI at9), .int (nI fl), .int pl, .int (nI wr), .ref e5])), (e4, .inl (cI, 400, .inl (aN tp))), (e5, .inl (cI, 4, .inl (aN fw)))]) [0, 5, 6] (by decide) rfl
      have hFc := va_free (wc := [(m0, .inr (4, [.ref n0, .ref n1, .ref n2, .int (nI cd), .int (nI dt), .ref e0, .ref e1, .int (nI rt), .ref e2, .ref e3, .ref e4, .int (nI sz9), .int (nI at9), .int (nI fl), .int pl, .int (nI wr), .ref e5])), (e4, .inl (cI, 400, .inl (aN tp))), (e5, .inl (cI, 4, .inl (aN fw)))]) hD hS hA [0, 5, 6] rfl
      refine zc_Mv (va_runV (As := [.int (nI 3), .ref e5, .int (nI 0)]) (rest := []) ⟨hx, hb, hml, hown, hw⟩ (c_takeDigits_ok l dC dI m0 n0 n1 n2 cd dt e0 e1 rt e2 e3 e4 sz9 at9 fl pl wr e5 cI cB e5 4 fw tp 3 0 (by omega) (by omega) htp (by omega) (by omega) (by omega) (by omega) hfl hd9 s.heap.size) (cwV 3 hw (gV w_ml_M_115 w_im_M_takeDigits w_se_M_takeDigits w_in_M w_co_M_takeDigits) rfl rfl rfl (by decide +kernel) ⟨Nat.le_of_ble_eq_true rfl, Nat.le_of_ble_eq_true rfl⟩) (zM_V hG hS hFc hPc hDc hK 0 rfl rfl) rfl rfl hl.1 rfl (lv_room (Nat.le_of_ble_eq_true rfl)) dM_takeField_49 ⟨Nat.le_of_ble_eq_true rfl, Nat.le_of_ble_eq_true rfl⟩) hS hFc (fun H locs h_49 hP1 hD1 hk1 hS => ?_)
      obtain ⟨hP, hD⟩ := va_join (wr := [(n1, .inl (cI, 16, .inl (aN fMM))), (n2, .inl (cI, 16, .inl (aN fFO))), (e2, .inl (cI, 672, .inl (aN rd))), (e3, .inl (cI, 16, .inl (aP rs)))]) (w1 := [(m0, .inr (4, [.ref n0, .ref n1, .ref n2, .int (nI cd), .int (nI dt), .ref e0, .ref e1, .int (nI rt), .ref e2, .ref e3, .ref e4, .int (nI sz9), .int (nI (at9 + (3 + 1) / 2)), .int (nI fl), .int pl, .int (nI wr), .ref e5])), (e4, .inl (cI, 400, .inl (aN tp))), (e5, .inl (cI, 4, .inl (aN (dgC tp at9 3 0 3 0 fw))))]) hP hD [0, 5, 6] [1, 2, 3, 4] rfl rfl (by decide) (by decide) hk1 hFc hP1 hD1
      have hP : va_P (dC, dI) vwCl [(n1, .inl (cI, 16, .inl (aN fMM))), (n2, .inl (cI, 16, .inl (aN fFO))), (e2, .inl (cI, 672, .inl (aN rd))), (e3, .inl (cI, 16, .inl (aP rs))), (m0, .inr (4, [.ref n0, .ref n1, .ref n2, .int (nI cd), .int (nI dt), .ref e0, .ref e1, .int (nI rt), .ref e2, .ref e3, .ref e4, .int (nI sz9), .int (nI (at9 + (3 + 1) / 2)), .int (nI fl), .int pl, .int (nI wr), .ref e5])), (e4, .inl (cI, 400, .inl (aN tp))), (e5, .inl (cI, 4, .inl (aN (dgC tp at9 3 0 3 0 fw))))] H := hP
      have hD : va_D A [(n1, .inl (cI, 16, .inl (aN fMM))), (n2, .inl (cI, 16, .inl (aN fFO))), (e2, .inl (cI, 672, .inl (aN rd))), (e3, .inl (cI, 16, .inl (aP rs))), (m0, .inr (4, [.ref n0, .ref n1, .ref n2, .int (nI cd), .int (nI dt), .ref e0, .ref e1, .int (nI rt), .ref e2, .ref e3, .ref e4, .int (nI sz9), .int (nI (at9 + (3 + 1) / 2)), .int (nI fl), .int pl, .int (nI wr), .ref e5])), (e4, .inl (cI, 400, .inl (aN tp))), (e5, .inl (cI, 4, .inl (aN (dgC tp at9 3 0 3 0 fw))))] := hD
      refine lv_aload_n hx hb dM_takeField_52 rfl (lv_at hl 3 rfl) ?_
      refine va_get (D := (dC, dI)) (ci := 4) (v := .int (nI fl)) (C := RM) (T := TM) (N := 17) hx hb hw inM hown hK hP 4 rfl rfl 13 (by decide) (hw _ w_fl_M_102) (fun _ h9 => h9) rfl dM_takeField_53 ?_
      refine zi_le0 (tgt := 60) hx hb (by omega) dM_takeField_56 (by decide) (fun c_56 => ?_) (fun q => False.elim ((by omega)))
      refine lv_iload hx hb dM_takeField_60 (lv_at hl 0 rfl) ?_
      refine lv_iconst (v := nI 2) hx hb dM_takeField_62 (by decide) ?_
      refine lv_icmp_ne (tgt := 85) hx hb dM_takeField_63 (by decide) (fun c_63 => ?_) (fun q => False.elim (absurd q (by decide)))
      refine lv_bipush (v := nI 100) hx hb dM_takeField_85 (by decide) ?_
      refine lv_aload_n hx hb dM_takeField_87 rfl (lv_at hl 3 rfl) ?_
      refine va_get (D := (dC, dI)) (ci := 4) (v := .ref e5) (C := RM) (T := TM) (N := 17) hx hb hw inM hown hK hP 4 rfl rfl 16 (by decide) (hw _ w_fl_M_38) (fun _ h9 => h9) rfl dM_takeField_88 ?_
      refine lv_iconst (v := nI 0) hx hb dM_takeField_91 (by decide) ?_
      refine za_ild hx hb hK hP 6 0 rfl rfl (by omega) (by decide) dM_takeField_92 ?_
      refine zi_mul hx hb dM_takeField_93 ?_
      refine lv_bipush (v := nI 10) hx hb dM_takeField_94 (by decide) ?_
      refine lv_aload_n hx hb dM_takeField_96 rfl (lv_at hl 3 rfl) ?_
      refine va_get (D := (dC, dI)) (ci := 4) (v := .ref e5) (C := RM) (T := TM) (N := 17) hx hb hw inM hown hK hP 4 rfl rfl 16 (by decide) (hw _ w_fl_M_38) (fun _ h9 => h9) rfl dM_takeField_97 ?_
      refine lv_iconst (v := nI 1) hx hb dM_takeField_100 (by decide) ?_
      refine za_ild hx hb hK hP 6 0 rfl rfl (by omega) (by decide) dM_takeField_101 ?_
      refine zi_mul hx hb dM_takeField_102 ?_
      refine zi_add hx hb dM_takeField_103 ?_
      refine lv_aload_n hx hb dM_takeField_104 rfl (lv_at hl 3 rfl) ?_
      refine va_get (D := (dC, dI)) (ci := 4) (v := .ref e5) (C := RM) (T := TM) (N := 17) hx hb hw inM hown hK hP 4 rfl rfl 16 (by decide) (hw _ w_fl_M_38) (fun _ h9 => h9) rfl dM_takeField_105 ?_
      refine lv_iconst (v := nI 2) hx hb dM_takeField_108 (by decide) ?_
      refine za_ild hx hb hK hP 6 0 rfl rfl (by omega) (by decide) dM_takeField_109 ?_
      refine zi_add hx hb dM_takeField_110 ?_
      refine zi_v (b := nI (nmA tp at9 3 3 0 0)) (by rw [nm_3]) ?_
      refine lv_istore_n (lv' := [(2, .int (nI (nmA tp at9 3 3 0 0))), (4, .int (nI 3)), (3, .int (nI at9)), (0, .ref m0), (1, .int (nI k))]) hx hb dM_takeField_111 rfl hl (by decide) rfl (fun ls hl => ?_)
      refine lv_iload_n hx hb dM_takeField_112 rfl (lv_at hl 0 rfl) ?_
      refine zi_eq0 (tgt := 126) hx hb (by omega) dM_takeField_113 (by decide) (fun q => False.elim ((by omega))) (fun c_113 => ?_)
      refine lv_iload_n hx hb dM_takeField_116 rfl (lv_at hl 0 rfl) ?_
      refine lv_aload_n hx hb dM_takeField_117 rfl (lv_at hl 3 rfl) ?_
      refine va_get (D := (dC, dI)) (ci := 4) (v := .ref n1) (C := RM) (T := TM) (N := 17) hx hb hw inM hown hK hP 4 rfl rfl 1 (by decide) (hw _ w_fl_M_13) (fun _ h9 => h9) rfl dM_takeField_118 ?_
      refine lv_iload_n hx hb dM_takeField_121 rfl (lv_at hl 4 rfl) ?_
      refine za_ild hx hb hK hP 0 0 rfl rfl (by omega) (by decide) dM_takeField_122 ?_
      refine zi_le (tgt := 133) hx hb (by omega) (by omega) dM_takeField_123 (by decide) (fun c_123 => ?_) (fun q => False.elim ((by omega)))
      refine lv_aload_n hx hb dM_takeField_133 rfl (lv_at hl 3 rfl) ?_
      refine va_get (D := (dC, dI)) (ci := 4) (v := .ref e3) (C := RM) (T := TM) (N := 17) hx hb hw inM hown hK hP 4 rfl rfl 9 (by decide) (hw _ w_fl_M_32) (fun _ h9 => h9) rfl dM_takeField_134 ?_
      refine lv_iload_n hx hb dM_takeField_137 rfl (lv_at hl 4 rfl) ?_
      refine lv_iload_n hx hb dM_takeField_138 rfl (lv_at hl 0 rfl) ?_
      refine zi_v (b := pm ((nmA tp at9 3 3 0 0) + 1)) (pm_s _).symm ?_
      refine za_pst hx hb hK hP hD hS 3 0 rfl rfl (by omega) (by decide) dM_takeField_139 (fun H locs hP hD hS => ?_)
      have hP : va_P (dC, dI) vwCl [(n1, .inl (cI, 16, .inl (aN fMM))), (n2, .inl (cI, 16, .inl (aN fFO))), (e2, .inl (cI, 672, .inl (aN rd))), (e3, .inl (cI, 16, .inl (aP (nup rs k ((nmA tp at9 3 3 0 0) + 1))))), (m0, .inr (4, [.ref n0, .ref n1, .ref n2, .int (nI cd), .int (nI dt), .ref e0, .ref e1, .int (nI rt), .ref e2, .ref e3, .ref e4, .int (nI sz9), .int (nI (at9 + (3 + 1) / 2)), .int (nI fl), .int pl, .int (nI wr), .ref e5])), (e4, .inl (cI, 400, .inl (aN tp))), (e5, .inl (cI, 4, .inl (aN (dgC tp at9 3 0 3 0 fw))))] H := hP
      have hD : va_D A [(n1, .inl (cI, 16, .inl (aN fMM))), (n2, .inl (cI, 16, .inl (aN fFO))), (e2, .inl (cI, 672, .inl (aN rd))), (e3, .inl (cI, 16, .inl (aP (nup rs k ((nmA tp at9 3 3 0 0) + 1))))), (m0, .inr (4, [.ref n0, .ref n1, .ref n2, .int (nI cd), .int (nI dt), .ref e0, .ref e1, .int (nI rt), .ref e2, .ref e3, .ref e4, .int (nI sz9), .int (nI (at9 + (3 + 1) / 2)), .int (nI fl), .int pl, .int (nI wr), .ref e5])), (e4, .inl (cI, 400, .inl (aN tp))), (e5, .inl (cI, 4, .inl (aN (dgC tp at9 3 0 3 0 fw))))] := hD
      refine lv_aload_n hx hb dM_takeField_140 rfl (lv_at hl 3 rfl) ?_
      refine va_get (D := (dC, dI)) (ci := 4) (v := .ref n2) (C := RM) (T := TM) (N := 17) hx hb hw inM hown hK hP 4 rfl rfl 2 (by decide) (hw _ w_fl_M_16) (fun _ h9 => h9) rfl dM_takeField_141 ?_
      refine lv_iload_n hx hb dM_takeField_144 rfl (lv_at hl 4 rfl) ?_
      refine za_ild hx hb hK hP 1 0 rfl rfl (by omega) (by decide) dM_takeField_145 ?_
      refine lv_iconst (v := nI 2) hx hb dM_takeField_146 (by decide) ?_
      refine zi_ge (tgt := 166) hx hb (by omega) (by omega) dM_takeField_147 (by decide) (fun c_147 => ?_) (fun c_147 => ?_)
      · unfold valF at hv
        rw [if_neg (fun z => by have := ho2.mpr z; omega)] at hv
        refine lv_aload_n hx hb dM_takeField_166 rfl (lv_at hl 3 rfl) ?_
        refine lv_iload_n hx hb dM_takeField_167 rfl (lv_at hl 0 rfl) ?_
        refine lv_aload_n hx hb dM_takeField_168 rfl (lv_at hl 3 rfl) ?_
        refine va_get (D := (dC, dI)) (ci := 4) (v := .ref e2) (C := RM) (T := TM) (N := 17) hx hb hw inM hown hK hP 4 rfl rfl 8 (by decide) (hw _ w_fl_M_29) (fun _ h9 => h9) rfl dM_takeField_169 ?_
        refine lv_bipush (v := nI 42) hx hb dM_takeField_172 (by decide) ?_
        refine lv_iload_n hx hb dM_takeField_174 rfl (lv_at hl 4 rfl) ?_
        refine zi_mul hx hb dM_takeField_175 ?_
        have hPc := hP.sub (ws' := [(m0, .inr (4, [.ref n0, .ref n1, .ref n2, .int (nI cd), .int (nI dt), .ref e0, .ref e1, .int (nI rt), .ref e2, .ref e3, .ref e4, .int (nI sz9), .int (nI (at9 + (3 + 1) / 2)), .int (nI fl), .int pl, .int (nI wr), .ref e5])), (e4, .inl (cI, 400, .inl (aN tp))), (e2, .inl (cI, 672, .inl (aN rd)))]) [4, 5, 2] rfl
        have hDc := hD.sub (ws' := [(m0, .inr (4, [.ref n0, .ref n1, .ref n2, .int (nI cd), .int (nI dt), .ref e0, .ref e1, .int (nI rt), .ref e2, .ref e3, .ref e4, .int (nI sz9), .int (nI (at9 + (3 + 1) / 2)), .int (nI fl), .int pl, .int (nI wr), .ref e5])), (e4, .inl (cI, 400, .inl (aN tp))), (e2, .inl (cI, 672, .inl (aN rd)))]) [4, 5, 2] (by decide) rfl
        have hFc := va_free (wc := [(m0, .inr (4, [.ref n0, .ref n1, .ref n2, .int (nI cd), .int (nI dt), .ref e0, .ref e1, .int (nI rt), .ref e2, .ref e3, .ref e4, .int (nI sz9), .int (nI (at9 + (3 + 1) / 2)), .int (nI fl), .int pl, .int (nI wr), .ref e5])), (e4, .inl (cI, 400, .inl (aN tp))), (e2, .inl (cI, 672, .inl (aN rd)))]) hD hS hA [4, 5, 2] rfl
        refine zc_Mv (va_runV (As := [.int (nI (nmA tp at9 3 3 0 0)), .ref e2, .int (nI (42 * k))]) (rest := []) ⟨hx, hb, hml, hown, hw⟩ (c_takeLetters_ok l dC dI m0 n0 n1 n2 cd dt e0 e1 rt e2 e3 e4 sz9 (at9 + (3 + 1) / 2) fl pl wr e5 cI cB e2 672 rd tp (nmA tp at9 3 3 0 0) (42 * k) (by omega) (by omega) htp (by omega) (by omega) (by omega) (by omega) hfl hv H.size) (cwV 3 hw (gV w_ml_M_119 w_im_M_takeLetters w_se_M_takeLetters w_in_M w_co_M_takeLetters) rfl rfl rfl (by decide +kernel) ⟨Nat.le_of_ble_eq_true rfl, Nat.le_of_ble_eq_true rfl⟩) (zM_V hG hS hFc hPc hDc hK 0 rfl rfl) rfl rfl hl.1 rfl (lv_room (Nat.le_of_ble_eq_true rfl)) dM_takeField_176 ⟨Nat.le_of_ble_eq_true rfl, Nat.le_of_ble_eq_true rfl⟩) hS hFc (fun H locs h_176 hP1 hD1 hk1 hS => ?_)
        obtain ⟨hP, hD⟩ := va_join (wr := [(n1, .inl (cI, 16, .inl (aN fMM))), (n2, .inl (cI, 16, .inl (aN fFO))), (e3, .inl (cI, 16, .inl (aP (nup rs k ((nmA tp at9 3 3 0 0) + 1))))), (e5, .inl (cI, 4, .inl (aN (dgC tp at9 3 0 3 0 fw))))]) (w1 := [(m0, .inr (4, [.ref n0, .ref n1, .ref n2, .int (nI cd), .int (nI dt), .ref e0, .ref e1, .int (nI rt), .ref e2, .ref e3, .ref e4, .int (nI sz9), .int (nI ((at9 + (3 + 1) / 2) + (nmA tp at9 3 3 0 0))), .int (nI fl), .int pl, .int (nI wr), .ref e5])), (e4, .inl (cI, 400, .inl (aN tp))), (e2, .inl (cI, 672, .inl (aN (ltCM tp (at9 + (3 + 1) / 2) (42 * k) (nmA tp at9 3 3 0 0) 0 rd))))]) hP hD [4, 5, 2] [0, 1, 3, 6] rfl rfl (by decide) (by decide) hk1 hFc hP1 hD1
        have hP : va_P (dC, dI) vwCl [(n1, .inl (cI, 16, .inl (aN fMM))), (n2, .inl (cI, 16, .inl (aN fFO))), (e3, .inl (cI, 16, .inl (aP (nup rs k ((nmA tp at9 3 3 0 0) + 1))))), (e5, .inl (cI, 4, .inl (aN (dgC tp at9 3 0 3 0 fw)))), (m0, .inr (4, [.ref n0, .ref n1, .ref n2, .int (nI cd), .int (nI dt), .ref e0, .ref e1, .int (nI rt), .ref e2, .ref e3, .ref e4, .int (nI sz9), .int (nI ((at9 + (3 + 1) / 2) + (nmA tp at9 3 3 0 0))), .int (nI fl), .int pl, .int (nI wr), .ref e5])), (e4, .inl (cI, 400, .inl (aN tp))), (e2, .inl (cI, 672, .inl (aN (ltCM tp (at9 + (3 + 1) / 2) (42 * k) (nmA tp at9 3 3 0 0) 0 rd))))] H := hP
        have hD : va_D A [(n1, .inl (cI, 16, .inl (aN fMM))), (n2, .inl (cI, 16, .inl (aN fFO))), (e3, .inl (cI, 16, .inl (aP (nup rs k ((nmA tp at9 3 3 0 0) + 1))))), (e5, .inl (cI, 4, .inl (aN (dgC tp at9 3 0 3 0 fw)))), (m0, .inr (4, [.ref n0, .ref n1, .ref n2, .int (nI cd), .int (nI dt), .ref e0, .ref e1, .int (nI rt), .ref e2, .ref e3, .ref e4, .int (nI sz9), .int (nI ((at9 + (3 + 1) / 2) + (nmA tp at9 3 3 0 0))), .int (nI fl), .int pl, .int (nI wr), .ref e5])), (e4, .inl (cI, 400, .inl (aN tp))), (e2, .inl (cI, 672, .inl (aN (ltCM tp (at9 + (3 + 1) / 2) (42 * k) (nmA tp at9 3 3 0 0) 0 rd))))] := hD
        have eC : fCt tp at9 k = nmA tp at9 3 3 0 0 := (by unfold fCt; rw [if_neg (by omega), hcw])
        have eV : fVp at9 k = at9 + (3 + 1) / 2 := (by unfold fVp; rw [hcw])
        have eN : fNx tp at9 k = (at9 + (3 + 1) / 2) + nmA tp at9 3 3 0 0 := by unfold fNx vNx; rw [if_neg (fun z => by have := ho2.mpr z; omega), eV, eC]
        have eM : fMd tp at9 k rd = ltCM tp (at9 + (3 + 1) / 2) (42 * k) (nmA tp at9 3 3 0 0) 0 rd := by unfold fMd; rw [if_neg (fun z => by have := ho2.mpr z; omega), eV, eC]
        rw [eN, eM, eC] at hQ
        subst hAe
        subst hQ
        exact W.vret hx hb hr (fun t ht hW => ⟨⟨dgC tp at9 3 0 3 0 fw, rfl, trivial, by rw [ht]; exact hP.sub [4, 0, 1, 6, 2, 5, 3] rfl, hD.sub [4, 0, 1, 6, 2, 5, 3] (by decide) rfl⟩, hS.F ht⟩) hS.2.2 dM_takeField_179
      · unfold valF at hv
        rw [if_pos (ho2.mp c_147)] at hv
        refine lv_aload_n hx hb dM_takeField_150 rfl (lv_at hl 3 rfl) ?_
        refine lv_iload_n hx hb dM_takeField_151 rfl (lv_at hl 0 rfl) ?_
        refine lv_aload_n hx hb dM_takeField_152 rfl (lv_at hl 3 rfl) ?_
        refine va_get (D := (dC, dI)) (ci := 4) (v := .ref e2) (C := RM) (T := TM) (N := 17) hx hb hw inM hown hK hP 4 rfl rfl 8 (by decide) (hw _ w_fl_M_29) (fun _ h9 => h9) rfl dM_takeField_153 ?_
        refine lv_bipush (v := nI 42) hx hb dM_takeField_156 (by decide) ?_
        refine lv_iload_n hx hb dM_takeField_158 rfl (lv_at hl 4 rfl) ?_
        refine zi_mul hx hb dM_takeField_159 ?_
        have hPc := hP.sub (ws' := [(m0, .inr (4, [.ref n0, .ref n1, .ref n2, .int (nI cd), .int (nI dt), .ref e0, .ref e1, .int (nI rt), .ref e2, .ref e3, .ref e4, .int (nI sz9), .int (nI (at9 + (3 + 1) / 2)), .int (nI fl), .int pl, .int (nI wr), .ref e5])), (e4, .inl (cI, 400, .inl (aN tp))), (e2, .inl (cI, 672, .inl (aN rd)))]) [4, 5, 2] rfl
        have hDc := hD.sub (ws' := [(m0, .inr (4, [.ref n0, .ref n1, .ref n2, .int (nI cd), .int (nI dt), .ref e0, .ref e1, .int (nI rt), .ref e2, .ref e3, .ref e4, .int (nI sz9), .int (nI (at9 + (3 + 1) / 2)), .int (nI fl), .int pl, .int (nI wr), .ref e5])), (e4, .inl (cI, 400, .inl (aN tp))), (e2, .inl (cI, 672, .inl (aN rd)))]) [4, 5, 2] (by decide) rfl
        have hFc := va_free (wc := [(m0, .inr (4, [.ref n0, .ref n1, .ref n2, .int (nI cd), .int (nI dt), .ref e0, .ref e1, .int (nI rt), .ref e2, .ref e3, .ref e4, .int (nI sz9), .int (nI (at9 + (3 + 1) / 2)), .int (nI fl), .int pl, .int (nI wr), .ref e5])), (e4, .inl (cI, 400, .inl (aN tp))), (e2, .inl (cI, 672, .inl (aN rd)))]) hD hS hA [4, 5, 2] rfl
        refine zc_Mv (va_runV (As := [.int (nI (nmA tp at9 3 3 0 0)), .ref e2, .int (nI (42 * k))]) (rest := []) ⟨hx, hb, hml, hown, hw⟩ (c_takeDigits_ok l dC dI m0 n0 n1 n2 cd dt e0 e1 rt e2 e3 e4 sz9 (at9 + (3 + 1) / 2) fl pl wr e5 cI cB e2 672 rd tp (nmA tp at9 3 3 0 0) (42 * k) (by omega) (by omega) htp (by omega) (by omega) (by omega) (by omega) hfl hv H.size) (cwV 3 hw (gV w_ml_M_115 w_im_M_takeDigits w_se_M_takeDigits w_in_M w_co_M_takeDigits) rfl rfl rfl (by decide +kernel) ⟨Nat.le_of_ble_eq_true rfl, Nat.le_of_ble_eq_true rfl⟩) (zM_V hG hS hFc hPc hDc hK 0 rfl rfl) rfl rfl hl.1 rfl (lv_room (Nat.le_of_ble_eq_true rfl)) dM_takeField_160 ⟨Nat.le_of_ble_eq_true rfl, Nat.le_of_ble_eq_true rfl⟩) hS hFc (fun H locs h_160 hP1 hD1 hk1 hS => ?_)
        obtain ⟨hP, hD⟩ := va_join (wr := [(n1, .inl (cI, 16, .inl (aN fMM))), (n2, .inl (cI, 16, .inl (aN fFO))), (e3, .inl (cI, 16, .inl (aP (nup rs k ((nmA tp at9 3 3 0 0) + 1))))), (e5, .inl (cI, 4, .inl (aN (dgC tp at9 3 0 3 0 fw))))]) (w1 := [(m0, .inr (4, [.ref n0, .ref n1, .ref n2, .int (nI cd), .int (nI dt), .ref e0, .ref e1, .int (nI rt), .ref e2, .ref e3, .ref e4, .int (nI sz9), .int (nI ((at9 + (3 + 1) / 2) + ((nmA tp at9 3 3 0 0) + 1) / 2)), .int (nI fl), .int pl, .int (nI wr), .ref e5])), (e4, .inl (cI, 400, .inl (aN tp))), (e2, .inl (cI, 672, .inl (aN (dgC tp (at9 + (3 + 1) / 2) (nmA tp at9 3 3 0 0) (42 * k) (nmA tp at9 3 3 0 0) 0 rd))))]) hP hD [4, 5, 2] [0, 1, 3, 6] rfl rfl (by decide) (by decide) hk1 hFc hP1 hD1
        have hP : va_P (dC, dI) vwCl [(n1, .inl (cI, 16, .inl (aN fMM))), (n2, .inl (cI, 16, .inl (aN fFO))), (e3, .inl (cI, 16, .inl (aP (nup rs k ((nmA tp at9 3 3 0 0) + 1))))), (e5, .inl (cI, 4, .inl (aN (dgC tp at9 3 0 3 0 fw)))), (m0, .inr (4, [.ref n0, .ref n1, .ref n2, .int (nI cd), .int (nI dt), .ref e0, .ref e1, .int (nI rt), .ref e2, .ref e3, .ref e4, .int (nI sz9), .int (nI ((at9 + (3 + 1) / 2) + ((nmA tp at9 3 3 0 0) + 1) / 2)), .int (nI fl), .int pl, .int (nI wr), .ref e5])), (e4, .inl (cI, 400, .inl (aN tp))), (e2, .inl (cI, 672, .inl (aN (dgC tp (at9 + (3 + 1) / 2) (nmA tp at9 3 3 0 0) (42 * k) (nmA tp at9 3 3 0 0) 0 rd))))] H := hP
        have hD : va_D A [(n1, .inl (cI, 16, .inl (aN fMM))), (n2, .inl (cI, 16, .inl (aN fFO))), (e3, .inl (cI, 16, .inl (aP (nup rs k ((nmA tp at9 3 3 0 0) + 1))))), (e5, .inl (cI, 4, .inl (aN (dgC tp at9 3 0 3 0 fw)))), (m0, .inr (4, [.ref n0, .ref n1, .ref n2, .int (nI cd), .int (nI dt), .ref e0, .ref e1, .int (nI rt), .ref e2, .ref e3, .ref e4, .int (nI sz9), .int (nI ((at9 + (3 + 1) / 2) + ((nmA tp at9 3 3 0 0) + 1) / 2)), .int (nI fl), .int pl, .int (nI wr), .ref e5])), (e4, .inl (cI, 400, .inl (aN tp))), (e2, .inl (cI, 672, .inl (aN (dgC tp (at9 + (3 + 1) / 2) (nmA tp at9 3 3 0 0) (42 * k) (nmA tp at9 3 3 0 0) 0 rd))))] := hD
        refine lv_goto (tgt := 179) hx hb dM_takeField_163 (by decide) ?_
        have eC : fCt tp at9 k = nmA tp at9 3 3 0 0 := (by unfold fCt; rw [if_neg (by omega), hcw])
        have eV : fVp at9 k = at9 + (3 + 1) / 2 := (by unfold fVp; rw [hcw])
        have eN : fNx tp at9 k = (at9 + (3 + 1) / 2) + (nmA tp at9 3 3 0 0 + 1) / 2 := by unfold fNx vNx; rw [if_pos (ho2.mp c_147), eV, eC]
        have eM : fMd tp at9 k rd = dgC tp (at9 + (3 + 1) / 2) (nmA tp at9 3 3 0 0) (42 * k) (nmA tp at9 3 3 0 0) 0 rd := by unfold fMd; rw [if_pos (ho2.mp c_147), eV, eC]
        rw [eN, eM, eC] at hQ
        subst hAe
        subst hQ
        exact W.vret hx hb hr (fun t ht hW => ⟨⟨dgC tp at9 3 0 3 0 fw, rfl, trivial, by rw [ht]; exact hP.sub [4, 0, 1, 6, 2, 5, 3] rfl, hD.sub [4, 0, 1, 6, 2, 5, 3] (by decide) rfl⟩, hS.F ht⟩) hS.2.2 dM_takeField_179
    · have hcw : fCD k = 2 := by omega
      have hnb := nmA_b htp (nx := at9) (ct := fCD k) (by omega)
      obtain ⟨hd9, hct1, hct2⟩ := fieldF_num hd (by omega)
      have hs9 := dgF_fit hd9
      have hv := fieldF_val hd
      rw [show fCt tp at9 k = nmA tp at9 (fCD k) (fCD k) 0 0 from if_neg (by omega), show fVp at9 k = at9 + (fCD k + 1) / 2 from rfl] at hv
      rw [hcw] at hd9 hs9 hnb hct1 hct2 hv
      refine lv_iconst (v := nI 2) hx hb dM_takeField_34 (by decide) ?_
      refine lv_goto (tgt := 39) hx hb dM_takeField_35 (by decide) ?_
      refine lv_istore (lv' := [(4, .int (nI 2)), (3, .int (nI at9)), (2, .int (nI (fMM k))), (0, .ref m0), (1, .int (nI k))]) hx hb dM_takeField_39 hl (by decide) rfl (fun ls hl => ?_)
      refine lv_aload_n hx hb dM_takeField_41 rfl (lv_at hl 3 rfl) ?_
      refine lv_iload hx hb dM_takeField_42 (lv_at hl 0 rfl) ?_
      refine lv_aload_n hx hb dM_takeField_44 rfl (lv_at hl 3 rfl) ?_
      refine va_get (D := (dC, dI)) (ci := 4) (v := .ref e5) (C := RM) (T := TM) (N := 17) hx hb hw inM hown hK hP 0 rfl rfl 16 (by decide) (hw _ w_fl_M_38) (fun _ h9 => h9) rfl dM_takeField_45 ?_
      refine lv_iconst (v := nI 0) hx hb dM_takeField_48 (by decide) ?_
      have hPc := hP.sub (ws' := [(m0, .inr (4, [.ref n0, .ref n1, .ref n2, .int (nI cd), .int (nI dt), .ref e0, .ref e1, .int (nI rt), .ref e2, .ref e3, .ref e4, .int (nI sz9), .int (nI at9), .int (nI fl), .int pl, .int (nI wr), .ref e5])), (e4, .inl (cI, 400, .inl (aN tp))), (e5, .inl (cI, 4, .inl (aN fw)))]) [0, 5, 6] rfl
      have hDc := hD.sub (ws' := [(m0, .inr (4, [.ref n0, .ref n1, .ref n2, .int (nI cd), .int (nI dt), .ref e0, .ref e1, .int (nI rt), .ref e2, .ref e3, .ref e4, .int (nI sz9), .int (nI at9), .int (nI fl), .int pl, .int (nI wr), .ref e5])), (e4, .inl (cI, 400, .inl (aN tp))), (e5, .inl (cI, 4, .inl (aN fw)))]) [0, 5, 6] (by decide) rfl
      have hFc := va_free (wc := [(m0, .inr (4, [.ref n0, .ref n1, .ref n2, .int (nI cd), .int (nI dt), .ref e0, .ref e1, .int (nI rt), .ref e2, .ref e3, .ref e4, .int (nI sz9), .int (nI at9), .int (nI fl), .int pl, .int (nI wr), .ref e5])), (e4, .inl (cI, 400, .inl (aN tp))), (e5, .inl (cI, 4, .inl (aN fw)))]) hD hS hA [0, 5, 6] rfl
      refine zc_Mv (va_runV (As := [.int (nI 2), .ref e5, .int (nI 0)]) (rest := []) ⟨hx, hb, hml, hown, hw⟩ (c_takeDigits_ok l dC dI m0 n0 n1 n2 cd dt e0 e1 rt e2 e3 e4 sz9 at9 fl pl wr e5 cI cB e5 4 fw tp 2 0 (by omega) (by omega) htp (by omega) (by omega) (by omega) (by omega) hfl hd9 s.heap.size) (cwV 3 hw (gV w_ml_M_115 w_im_M_takeDigits w_se_M_takeDigits w_in_M w_co_M_takeDigits) rfl rfl rfl (by decide +kernel) ⟨Nat.le_of_ble_eq_true rfl, Nat.le_of_ble_eq_true rfl⟩) (zM_V hG hS hFc hPc hDc hK 0 rfl rfl) rfl rfl hl.1 rfl (lv_room (Nat.le_of_ble_eq_true rfl)) dM_takeField_49 ⟨Nat.le_of_ble_eq_true rfl, Nat.le_of_ble_eq_true rfl⟩) hS hFc (fun H locs h_49 hP1 hD1 hk1 hS => ?_)
      obtain ⟨hP, hD⟩ := va_join (wr := [(n1, .inl (cI, 16, .inl (aN fMM))), (n2, .inl (cI, 16, .inl (aN fFO))), (e2, .inl (cI, 672, .inl (aN rd))), (e3, .inl (cI, 16, .inl (aP rs)))]) (w1 := [(m0, .inr (4, [.ref n0, .ref n1, .ref n2, .int (nI cd), .int (nI dt), .ref e0, .ref e1, .int (nI rt), .ref e2, .ref e3, .ref e4, .int (nI sz9), .int (nI (at9 + (2 + 1) / 2)), .int (nI fl), .int pl, .int (nI wr), .ref e5])), (e4, .inl (cI, 400, .inl (aN tp))), (e5, .inl (cI, 4, .inl (aN (dgC tp at9 2 0 2 0 fw))))]) hP hD [0, 5, 6] [1, 2, 3, 4] rfl rfl (by decide) (by decide) hk1 hFc hP1 hD1
      have hP : va_P (dC, dI) vwCl [(n1, .inl (cI, 16, .inl (aN fMM))), (n2, .inl (cI, 16, .inl (aN fFO))), (e2, .inl (cI, 672, .inl (aN rd))), (e3, .inl (cI, 16, .inl (aP rs))), (m0, .inr (4, [.ref n0, .ref n1, .ref n2, .int (nI cd), .int (nI dt), .ref e0, .ref e1, .int (nI rt), .ref e2, .ref e3, .ref e4, .int (nI sz9), .int (nI (at9 + (2 + 1) / 2)), .int (nI fl), .int pl, .int (nI wr), .ref e5])), (e4, .inl (cI, 400, .inl (aN tp))), (e5, .inl (cI, 4, .inl (aN (dgC tp at9 2 0 2 0 fw))))] H := hP
      have hD : va_D A [(n1, .inl (cI, 16, .inl (aN fMM))), (n2, .inl (cI, 16, .inl (aN fFO))), (e2, .inl (cI, 672, .inl (aN rd))), (e3, .inl (cI, 16, .inl (aP rs))), (m0, .inr (4, [.ref n0, .ref n1, .ref n2, .int (nI cd), .int (nI dt), .ref e0, .ref e1, .int (nI rt), .ref e2, .ref e3, .ref e4, .int (nI sz9), .int (nI (at9 + (2 + 1) / 2)), .int (nI fl), .int pl, .int (nI wr), .ref e5])), (e4, .inl (cI, 400, .inl (aN tp))), (e5, .inl (cI, 4, .inl (aN (dgC tp at9 2 0 2 0 fw))))] := hD
      refine lv_aload_n hx hb dM_takeField_52 rfl (lv_at hl 3 rfl) ?_
      refine va_get (D := (dC, dI)) (ci := 4) (v := .int (nI fl)) (C := RM) (T := TM) (N := 17) hx hb hw inM hown hK hP 4 rfl rfl 13 (by decide) (hw _ w_fl_M_102) (fun _ h9 => h9) rfl dM_takeField_53 ?_
      refine zi_le0 (tgt := 60) hx hb (by omega) dM_takeField_56 (by decide) (fun c_56 => ?_) (fun q => False.elim ((by omega)))
      refine lv_iload hx hb dM_takeField_60 (lv_at hl 0 rfl) ?_
      refine lv_iconst (v := nI 2) hx hb dM_takeField_62 (by decide) ?_
      refine lv_icmp_ne (tgt := 85) hx hb dM_takeField_63 (by decide) (fun q => False.elim (absurd q (by decide))) (fun c_63 => ?_)
      refine lv_bipush (v := nI 10) hx hb dM_takeField_66 (by decide) ?_
      refine lv_aload_n hx hb dM_takeField_68 rfl (lv_at hl 3 rfl) ?_
      refine va_get (D := (dC, dI)) (ci := 4) (v := .ref e5) (C := RM) (T := TM) (N := 17) hx hb hw inM hown hK hP 4 rfl rfl 16 (by decide) (hw _ w_fl_M_38) (fun _ h9 => h9) rfl dM_takeField_69 ?_
      refine lv_iconst (v := nI 0) hx hb dM_takeField_72 (by decide) ?_
      refine za_ild hx hb hK hP 6 0 rfl rfl (by omega) (by decide) dM_takeField_73 ?_
      refine zi_mul hx hb dM_takeField_74 ?_
      refine lv_aload_n hx hb dM_takeField_75 rfl (lv_at hl 3 rfl) ?_
      refine va_get (D := (dC, dI)) (ci := 4) (v := .ref e5) (C := RM) (T := TM) (N := 17) hx hb hw inM hown hK hP 4 rfl rfl 16 (by decide) (hw _ w_fl_M_38) (fun _ h9 => h9) rfl dM_takeField_76 ?_
      refine lv_iconst (v := nI 1) hx hb dM_takeField_79 (by decide) ?_
      refine za_ild hx hb hK hP 6 0 rfl rfl (by omega) (by decide) dM_takeField_80 ?_
      refine zi_add hx hb dM_takeField_81 ?_
      refine lv_goto (tgt := 111) hx hb dM_takeField_82 (by decide) ?_
      refine zi_v (b := nI (nmA tp at9 2 2 0 0)) (by rw [nm_2]) ?_
      refine lv_istore_n (lv' := [(2, .int (nI (nmA tp at9 2 2 0 0))), (4, .int (nI 2)), (3, .int (nI at9)), (0, .ref m0), (1, .int (nI k))]) hx hb dM_takeField_111 rfl hl (by decide) rfl (fun ls hl => ?_)
      refine lv_iload_n hx hb dM_takeField_112 rfl (lv_at hl 0 rfl) ?_
      refine zi_eq0 (tgt := 126) hx hb (by omega) dM_takeField_113 (by decide) (fun q => False.elim ((by omega))) (fun c_113 => ?_)
      refine lv_iload_n hx hb dM_takeField_116 rfl (lv_at hl 0 rfl) ?_
      refine lv_aload_n hx hb dM_takeField_117 rfl (lv_at hl 3 rfl) ?_
      refine va_get (D := (dC, dI)) (ci := 4) (v := .ref n1) (C := RM) (T := TM) (N := 17) hx hb hw inM hown hK hP 4 rfl rfl 1 (by decide) (hw _ w_fl_M_13) (fun _ h9 => h9) rfl dM_takeField_118 ?_
      refine lv_iload_n hx hb dM_takeField_121 rfl (lv_at hl 4 rfl) ?_
      refine za_ild hx hb hK hP 0 0 rfl rfl (by omega) (by decide) dM_takeField_122 ?_
      refine zi_le (tgt := 133) hx hb (by omega) (by omega) dM_takeField_123 (by decide) (fun c_123 => ?_) (fun q => False.elim ((by omega)))
      refine lv_aload_n hx hb dM_takeField_133 rfl (lv_at hl 3 rfl) ?_
      refine va_get (D := (dC, dI)) (ci := 4) (v := .ref e3) (C := RM) (T := TM) (N := 17) hx hb hw inM hown hK hP 4 rfl rfl 9 (by decide) (hw _ w_fl_M_32) (fun _ h9 => h9) rfl dM_takeField_134 ?_
      refine lv_iload_n hx hb dM_takeField_137 rfl (lv_at hl 4 rfl) ?_
      refine lv_iload_n hx hb dM_takeField_138 rfl (lv_at hl 0 rfl) ?_
      refine zi_v (b := pm ((nmA tp at9 2 2 0 0) + 1)) (pm_s _).symm ?_
      refine za_pst hx hb hK hP hD hS 3 0 rfl rfl (by omega) (by decide) dM_takeField_139 (fun H locs hP hD hS => ?_)
      have hP : va_P (dC, dI) vwCl [(n1, .inl (cI, 16, .inl (aN fMM))), (n2, .inl (cI, 16, .inl (aN fFO))), (e2, .inl (cI, 672, .inl (aN rd))), (e3, .inl (cI, 16, .inl (aP (nup rs k ((nmA tp at9 2 2 0 0) + 1))))), (m0, .inr (4, [.ref n0, .ref n1, .ref n2, .int (nI cd), .int (nI dt), .ref e0, .ref e1, .int (nI rt), .ref e2, .ref e3, .ref e4, .int (nI sz9), .int (nI (at9 + (2 + 1) / 2)), .int (nI fl), .int pl, .int (nI wr), .ref e5])), (e4, .inl (cI, 400, .inl (aN tp))), (e5, .inl (cI, 4, .inl (aN (dgC tp at9 2 0 2 0 fw))))] H := hP
      have hD : va_D A [(n1, .inl (cI, 16, .inl (aN fMM))), (n2, .inl (cI, 16, .inl (aN fFO))), (e2, .inl (cI, 672, .inl (aN rd))), (e3, .inl (cI, 16, .inl (aP (nup rs k ((nmA tp at9 2 2 0 0) + 1))))), (m0, .inr (4, [.ref n0, .ref n1, .ref n2, .int (nI cd), .int (nI dt), .ref e0, .ref e1, .int (nI rt), .ref e2, .ref e3, .ref e4, .int (nI sz9), .int (nI (at9 + (2 + 1) / 2)), .int (nI fl), .int pl, .int (nI wr), .ref e5])), (e4, .inl (cI, 400, .inl (aN tp))), (e5, .inl (cI, 4, .inl (aN (dgC tp at9 2 0 2 0 fw))))] := hD
      refine lv_aload_n hx hb dM_takeField_140 rfl (lv_at hl 3 rfl) ?_
      refine va_get (D := (dC, dI)) (ci := 4) (v := .ref n2) (C := RM) (T := TM) (N := 17) hx hb hw inM hown hK hP 4 rfl rfl 2 (by decide) (hw _ w_fl_M_16) (fun _ h9 => h9) rfl dM_takeField_141 ?_
      refine lv_iload_n hx hb dM_takeField_144 rfl (lv_at hl 4 rfl) ?_
      refine za_ild hx hb hK hP 1 0 rfl rfl (by omega) (by decide) dM_takeField_145 ?_
      refine lv_iconst (v := nI 2) hx hb dM_takeField_146 (by decide) ?_
      refine zi_ge (tgt := 166) hx hb (by omega) (by omega) dM_takeField_147 (by decide) (fun c_147 => ?_) (fun c_147 => ?_)
      · unfold valF at hv
        rw [if_neg (fun z => by have := ho2.mpr z; omega)] at hv
        refine lv_aload_n hx hb dM_takeField_166 rfl (lv_at hl 3 rfl) ?_
        refine lv_iload_n hx hb dM_takeField_167 rfl (lv_at hl 0 rfl) ?_
        refine lv_aload_n hx hb dM_takeField_168 rfl (lv_at hl 3 rfl) ?_
        refine va_get (D := (dC, dI)) (ci := 4) (v := .ref e2) (C := RM) (T := TM) (N := 17) hx hb hw inM hown hK hP 4 rfl rfl 8 (by decide) (hw _ w_fl_M_29) (fun _ h9 => h9) rfl dM_takeField_169 ?_
        refine lv_bipush (v := nI 42) hx hb dM_takeField_172 (by decide) ?_
        refine lv_iload_n hx hb dM_takeField_174 rfl (lv_at hl 4 rfl) ?_
        refine zi_mul hx hb dM_takeField_175 ?_
        have hPc := hP.sub (ws' := [(m0, .inr (4, [.ref n0, .ref n1, .ref n2, .int (nI cd), .int (nI dt), .ref e0, .ref e1, .int (nI rt), .ref e2, .ref e3, .ref e4, .int (nI sz9), .int (nI (at9 + (2 + 1) / 2)), .int (nI fl), .int pl, .int (nI wr), .ref e5])), (e4, .inl (cI, 400, .inl (aN tp))), (e2, .inl (cI, 672, .inl (aN rd)))]) [4, 5, 2] rfl
        have hDc := hD.sub (ws' := [(m0, .inr (4, [.ref n0, .ref n1, .ref n2, .int (nI cd), .int (nI dt), .ref e0, .ref e1, .int (nI rt), .ref e2, .ref e3, .ref e4, .int (nI sz9), .int (nI (at9 + (2 + 1) / 2)), .int (nI fl), .int pl, .int (nI wr), .ref e5])), (e4, .inl (cI, 400, .inl (aN tp))), (e2, .inl (cI, 672, .inl (aN rd)))]) [4, 5, 2] (by decide) rfl
        have hFc := va_free (wc := [(m0, .inr (4, [.ref n0, .ref n1, .ref n2, .int (nI cd), .int (nI dt), .ref e0, .ref e1, .int (nI rt), .ref e2, .ref e3, .ref e4, .int (nI sz9), .int (nI (at9 + (2 + 1) / 2)), .int (nI fl), .int pl, .int (nI wr), .ref e5])), (e4, .inl (cI, 400, .inl (aN tp))), (e2, .inl (cI, 672, .inl (aN rd)))]) hD hS hA [4, 5, 2] rfl
        refine zc_Mv (va_runV (As := [.int (nI (nmA tp at9 2 2 0 0)), .ref e2, .int (nI (42 * k))]) (rest := []) ⟨hx, hb, hml, hown, hw⟩ (c_takeLetters_ok l dC dI m0 n0 n1 n2 cd dt e0 e1 rt e2 e3 e4 sz9 (at9 + (2 + 1) / 2) fl pl wr e5 cI cB e2 672 rd tp (nmA tp at9 2 2 0 0) (42 * k) (by omega) (by omega) htp (by omega) (by omega) (by omega) (by omega) hfl hv H.size) (cwV 3 hw (gV w_ml_M_119 w_im_M_takeLetters w_se_M_takeLetters w_in_M w_co_M_takeLetters) rfl rfl rfl (by decide +kernel) ⟨Nat.le_of_ble_eq_true rfl, Nat.le_of_ble_eq_true rfl⟩) (zM_V hG hS hFc hPc hDc hK 0 rfl rfl) rfl rfl hl.1 rfl (lv_room (Nat.le_of_ble_eq_true rfl)) dM_takeField_176 ⟨Nat.le_of_ble_eq_true rfl, Nat.le_of_ble_eq_true rfl⟩) hS hFc (fun H locs h_176 hP1 hD1 hk1 hS => ?_)
        obtain ⟨hP, hD⟩ := va_join (wr := [(n1, .inl (cI, 16, .inl (aN fMM))), (n2, .inl (cI, 16, .inl (aN fFO))), (e3, .inl (cI, 16, .inl (aP (nup rs k ((nmA tp at9 2 2 0 0) + 1))))), (e5, .inl (cI, 4, .inl (aN (dgC tp at9 2 0 2 0 fw))))]) (w1 := [(m0, .inr (4, [.ref n0, .ref n1, .ref n2, .int (nI cd), .int (nI dt), .ref e0, .ref e1, .int (nI rt), .ref e2, .ref e3, .ref e4, .int (nI sz9), .int (nI ((at9 + (2 + 1) / 2) + (nmA tp at9 2 2 0 0))), .int (nI fl), .int pl, .int (nI wr), .ref e5])), (e4, .inl (cI, 400, .inl (aN tp))), (e2, .inl (cI, 672, .inl (aN (ltCM tp (at9 + (2 + 1) / 2) (42 * k) (nmA tp at9 2 2 0 0) 0 rd))))]) hP hD [4, 5, 2] [0, 1, 3, 6] rfl rfl (by decide) (by decide) hk1 hFc hP1 hD1
        have hP : va_P (dC, dI) vwCl [(n1, .inl (cI, 16, .inl (aN fMM))), (n2, .inl (cI, 16, .inl (aN fFO))), (e3, .inl (cI, 16, .inl (aP (nup rs k ((nmA tp at9 2 2 0 0) + 1))))), (e5, .inl (cI, 4, .inl (aN (dgC tp at9 2 0 2 0 fw)))), (m0, .inr (4, [.ref n0, .ref n1, .ref n2, .int (nI cd), .int (nI dt), .ref e0, .ref e1, .int (nI rt), .ref e2, .ref e3, .ref e4, .int (nI sz9), .int (nI ((at9 + (2 + 1) / 2) + (nmA tp at9 2 2 0 0))), .int (nI fl), .int pl, .int (nI wr), .ref e5])), (e4, .inl (cI, 400, .inl (aN tp))), (e2, .inl (cI, 672, .inl (aN (ltCM tp (at9 + (2 + 1) / 2) (42 * k) (nmA tp at9 2 2 0 0) 0 rd))))] H := hP
        have hD : va_D A [(n1, .inl (cI, 16, .inl (aN fMM))), (n2, .inl (cI, 16, .inl (aN fFO))), (e3, .inl (cI, 16, .inl (aP (nup rs k ((nmA tp at9 2 2 0 0) + 1))))), (e5, .inl (cI, 4, .inl (aN (dgC tp at9 2 0 2 0 fw)))), (m0, .inr (4, [.ref n0, .ref n1, .ref n2, .int (nI cd), .int (nI dt), .ref e0, .ref e1, .int (nI rt), .ref e2, .ref e3, .ref e4, .int (nI sz9), .int (nI ((at9 + (2 + 1) / 2) + (nmA tp at9 2 2 0 0))), .int (nI fl), .int pl, .int (nI wr), .ref e5])), (e4, .inl (cI, 400, .inl (aN tp))), (e2, .inl (cI, 672, .inl (aN (ltCM tp (at9 + (2 + 1) / 2) (42 * k) (nmA tp at9 2 2 0 0) 0 rd))))] := hD
        have eC : fCt tp at9 k = nmA tp at9 2 2 0 0 := (by unfold fCt; rw [if_neg (by omega), hcw])
        have eV : fVp at9 k = at9 + (2 + 1) / 2 := (by unfold fVp; rw [hcw])
        have eN : fNx tp at9 k = (at9 + (2 + 1) / 2) + nmA tp at9 2 2 0 0 := by unfold fNx vNx; rw [if_neg (fun z => by have := ho2.mpr z; omega), eV, eC]
        have eM : fMd tp at9 k rd = ltCM tp (at9 + (2 + 1) / 2) (42 * k) (nmA tp at9 2 2 0 0) 0 rd := by unfold fMd; rw [if_neg (fun z => by have := ho2.mpr z; omega), eV, eC]
        rw [eN, eM, eC] at hQ
        subst hAe
        subst hQ
        exact W.vret hx hb hr (fun t ht hW => ⟨⟨dgC tp at9 2 0 2 0 fw, rfl, trivial, by rw [ht]; exact hP.sub [4, 0, 1, 6, 2, 5, 3] rfl, hD.sub [4, 0, 1, 6, 2, 5, 3] (by decide) rfl⟩, hS.F ht⟩) hS.2.2 dM_takeField_179
      · unfold valF at hv
        rw [if_pos (ho2.mp c_147)] at hv
        refine lv_aload_n hx hb dM_takeField_150 rfl (lv_at hl 3 rfl) ?_
        refine lv_iload_n hx hb dM_takeField_151 rfl (lv_at hl 0 rfl) ?_
        refine lv_aload_n hx hb dM_takeField_152 rfl (lv_at hl 3 rfl) ?_
        refine va_get (D := (dC, dI)) (ci := 4) (v := .ref e2) (C := RM) (T := TM) (N := 17) hx hb hw inM hown hK hP 4 rfl rfl 8 (by decide) (hw _ w_fl_M_29) (fun _ h9 => h9) rfl dM_takeField_153 ?_
        refine lv_bipush (v := nI 42) hx hb dM_takeField_156 (by decide) ?_
        refine lv_iload_n hx hb dM_takeField_158 rfl (lv_at hl 4 rfl) ?_
        refine zi_mul hx hb dM_takeField_159 ?_
        have hPc := hP.sub (ws' := [(m0, .inr (4, [.ref n0, .ref n1, .ref n2, .int (nI cd), .int (nI dt), .ref e0, .ref e1, .int (nI rt), .ref e2, .ref e3, .ref e4, .int (nI sz9), .int (nI (at9 + (2 + 1) / 2)), .int (nI fl), .int pl, .int (nI wr), .ref e5])), (e4, .inl (cI, 400, .inl (aN tp))), (e2, .inl (cI, 672, .inl (aN rd)))]) [4, 5, 2] rfl
        have hDc := hD.sub (ws' := [(m0, .inr (4, [.ref n0, .ref n1, .ref n2, .int (nI cd), .int (nI dt), .ref e0, .ref e1, .int (nI rt), .ref e2, .ref e3, .ref e4, .int (nI sz9), .int (nI (at9 + (2 + 1) / 2)), .int (nI fl), .int pl, .int (nI wr), .ref e5])), (e4, .inl (cI, 400, .inl (aN tp))), (e2, .inl (cI, 672, .inl (aN rd)))]) [4, 5, 2] (by decide) rfl
        have hFc := va_free (wc := [(m0, .inr (4, [.ref n0, .ref n1, .ref n2, .int (nI cd), .int (nI dt), .ref e0, .ref e1, .int (nI rt), .ref e2, .ref e3, .ref e4, .int (nI sz9), .int (nI (at9 + (2 + 1) / 2)), .int (nI fl), .int pl, .int (nI wr), .ref e5])), (e4, .inl (cI, 400, .inl (aN tp))), (e2, .inl (cI, 672, .inl (aN rd)))]) hD hS hA [4, 5, 2] rfl
        refine zc_Mv (va_runV (As := [.int (nI (nmA tp at9 2 2 0 0)), .ref e2, .int (nI (42 * k))]) (rest := []) ⟨hx, hb, hml, hown, hw⟩ (c_takeDigits_ok l dC dI m0 n0 n1 n2 cd dt e0 e1 rt e2 e3 e4 sz9 (at9 + (2 + 1) / 2) fl pl wr e5 cI cB e2 672 rd tp (nmA tp at9 2 2 0 0) (42 * k) (by omega) (by omega) htp (by omega) (by omega) (by omega) (by omega) hfl hv H.size) (cwV 3 hw (gV w_ml_M_115 w_im_M_takeDigits w_se_M_takeDigits w_in_M w_co_M_takeDigits) rfl rfl rfl (by decide +kernel) ⟨Nat.le_of_ble_eq_true rfl, Nat.le_of_ble_eq_true rfl⟩) (zM_V hG hS hFc hPc hDc hK 0 rfl rfl) rfl rfl hl.1 rfl (lv_room (Nat.le_of_ble_eq_true rfl)) dM_takeField_160 ⟨Nat.le_of_ble_eq_true rfl, Nat.le_of_ble_eq_true rfl⟩) hS hFc (fun H locs h_160 hP1 hD1 hk1 hS => ?_)
        obtain ⟨hP, hD⟩ := va_join (wr := [(n1, .inl (cI, 16, .inl (aN fMM))), (n2, .inl (cI, 16, .inl (aN fFO))), (e3, .inl (cI, 16, .inl (aP (nup rs k ((nmA tp at9 2 2 0 0) + 1))))), (e5, .inl (cI, 4, .inl (aN (dgC tp at9 2 0 2 0 fw))))]) (w1 := [(m0, .inr (4, [.ref n0, .ref n1, .ref n2, .int (nI cd), .int (nI dt), .ref e0, .ref e1, .int (nI rt), .ref e2, .ref e3, .ref e4, .int (nI sz9), .int (nI ((at9 + (2 + 1) / 2) + ((nmA tp at9 2 2 0 0) + 1) / 2)), .int (nI fl), .int pl, .int (nI wr), .ref e5])), (e4, .inl (cI, 400, .inl (aN tp))), (e2, .inl (cI, 672, .inl (aN (dgC tp (at9 + (2 + 1) / 2) (nmA tp at9 2 2 0 0) (42 * k) (nmA tp at9 2 2 0 0) 0 rd))))]) hP hD [4, 5, 2] [0, 1, 3, 6] rfl rfl (by decide) (by decide) hk1 hFc hP1 hD1
        have hP : va_P (dC, dI) vwCl [(n1, .inl (cI, 16, .inl (aN fMM))), (n2, .inl (cI, 16, .inl (aN fFO))), (e3, .inl (cI, 16, .inl (aP (nup rs k ((nmA tp at9 2 2 0 0) + 1))))), (e5, .inl (cI, 4, .inl (aN (dgC tp at9 2 0 2 0 fw)))), (m0, .inr (4, [.ref n0, .ref n1, .ref n2, .int (nI cd), .int (nI dt), .ref e0, .ref e1, .int (nI rt), .ref e2, .ref e3, .ref e4, .int (nI sz9), .int (nI ((at9 + (2 + 1) / 2) + ((nmA tp at9 2 2 0 0) + 1) / 2)), .int (nI fl), .int pl, .int (nI wr), .ref e5])), (e4, .inl (cI, 400, .inl (aN tp))), (e2, .inl (cI, 672, .inl (aN (dgC tp (at9 + (2 + 1) / 2) (nmA tp at9 2 2 0 0) (42 * k) (nmA tp at9 2 2 0 0) 0 rd))))] H := hP
        have hD : va_D A [(n1, .inl (cI, 16, .inl (aN fMM))), (n2, .inl (cI, 16, .inl (aN fFO))), (e3, .inl (cI, 16, .inl (aP (nup rs k ((nmA tp at9 2 2 0 0) + 1))))), (e5, .inl (cI, 4, .inl (aN (dgC tp at9 2 0 2 0 fw)))), (m0, .inr (4, [.ref n0, .ref n1, .ref n2, .int (nI cd), .int (nI dt), .ref e0, .ref e1, .int (nI rt), .ref e2, .ref e3, .ref e4, .int (nI sz9), .int (nI ((at9 + (2 + 1) / 2) + ((nmA tp at9 2 2 0 0) + 1) / 2)), .int (nI fl), .int pl, .int (nI wr), .ref e5])), (e4, .inl (cI, 400, .inl (aN tp))), (e2, .inl (cI, 672, .inl (aN (dgC tp (at9 + (2 + 1) / 2) (nmA tp at9 2 2 0 0) (42 * k) (nmA tp at9 2 2 0 0) 0 rd))))] := hD
        refine lv_goto (tgt := 179) hx hb dM_takeField_163 (by decide) ?_
        have eC : fCt tp at9 k = nmA tp at9 2 2 0 0 := (by unfold fCt; rw [if_neg (by omega), hcw])
        have eV : fVp at9 k = at9 + (2 + 1) / 2 := (by unfold fVp; rw [hcw])
        have eN : fNx tp at9 k = (at9 + (2 + 1) / 2) + (nmA tp at9 2 2 0 0 + 1) / 2 := by unfold fNx vNx; rw [if_pos (ho2.mp c_147), eV, eC]
        have eM : fMd tp at9 k rd = dgC tp (at9 + (2 + 1) / 2) (nmA tp at9 2 2 0 0) (42 * k) (nmA tp at9 2 2 0 0) 0 rd := by unfold fMd; rw [if_pos (ho2.mp c_147), eV, eC]
        rw [eN, eM, eC] at hQ
        subst hAe
        subst hQ
        exact W.vret hx hb hr (fun t ht hW => ⟨⟨dgC tp at9 2 0 2 0 fw, rfl, trivial, by rw [ht]; exact hP.sub [4, 0, 1, 6, 2, 5, 3] rfl, hD.sub [4, 0, 1, 6, 2, 5, 3] (by decide) rfl⟩, hS.F ht⟩) hS.2.2 dM_takeField_179
def rm_c_takeField_no : Room := ({ frames := 2, cells := 0, slots := 0, locals := 51 } : Room)
set_option maxHeartbeats 4000000 in
set_option maxRecDepth 100000 in
theorem c_takeField_no (l : Launch) (dC : Nat → ClassId) (dI : Nat → Nat → Nat) (m0 : Nat) (n0 : Nat) (n1 : Nat) (n2 : Nat) (cd : Nat) (dt : Nat) (e0 : Nat) (e1 : Nat) (rt : Nat) (e2 : Nat) (e3 : Nat) (e4 : Nat) (sz9 : Nat) (at9 : Nat) (fl : Nat) (pl : Int32) (wr : Nat) (e5 : Nat) (cI : ClassId) (cB : ClassId) (rd : Nat → Nat) (rs : Nat → Nat) (tp : Nat → Nat) (fw : Nat → Nat) (k : Nat) (k2 : Nat) (p2 : Nat) (hsz : sz9 ≤ 400) (hat : at9 ≤ sz9) (htp : ∀ j, tp j < 256) (hfl : fl = 0) (hk : k < 16) (hd : fieldF tp sz9 at9 k = some (k2, p2)) (sz : Nat) : Met l yM_takeField wsM_takeField rm_c_takeField_no (zM (dC, dI) [(cI, .int), (cB, .byte)] [.ref m0, .int (nI k)] [(m0, .inr (4, [.ref n0, .ref n1, .ref n2, .int (nI cd), .int (nI dt), .ref e0, .ref e1, .int (nI rt), .ref e2, .ref e3, .ref e4, .int (nI sz9), .int (nI at9), .int (nI fl), .int pl, .int (nI wr), .ref e5])), (n1, .inl (cI, 16, .inl (aN fMM))), (n2, .inl (cI, 16, .inl (aN fFO))), (e2, .inl (cI, 672, .inl (aN rd))), (e3, .inl (cI, 16, .inl (aP rs))), (e4, .inl (cI, 400, .inl (aN tp))), (e5, .inl (cI, 4, .inl (aN fw)))] sz) (zSv (dC, dI) [(m0, .inr (4, [.ref n0, .ref n1, .ref n2, .int (nI cd), .int (nI dt), .ref e0, .ref e1, .int (nI rt), .ref e2, .ref e3, .ref e4, .int (nI sz9), .int (nI at9), .int (nI fl), .int pl, .int (nI wr), .ref e5])), (n1, .inl (cI, 16, .inl (aN fMM))), (n2, .inl (cI, 16, .inl (aN fFO))), (e2, .inl (cI, 672, .inl (aN rd))), (e3, .inl (cI, 16, .inl (aP rs))), (e4, .inl (cI, 400, .inl (aN tp))), (e5, .inl (cI, 4, .inl (aN fw)))] sz (fun (u : Nat × (Nat → Nat) × (Nat → Nat) × (Nat → Nat)) => True) (fun u => [(m0, .inr (4, [.ref n0, .ref n1, .ref n2, .int (nI cd), .int (nI dt), .ref e0, .ref e1, .int (nI rt), .ref e2, .ref e3, .ref e4, .int (nI sz9), .int (nI u.1), .int (nI k2), .int (nI p2), .int (nI wr), .ref e5])), (n1, .inl (cI, 16, .inl (aN fMM))), (n2, .inl (cI, 16, .inl (aN fFO))), (e2, .inl (cI, 672, .inl (aN u.2.2.1))), (e3, .inl (cI, 16, .inl (aP u.2.1))), (e4, .inl (cI, 400, .inl (aN tp))), (e5, .inl (cI, 4, .inl (aN u.2.2.2)))])) 0 0 (va_A [(m0, .inr (4, [.ref n0, .ref n1, .ref n2, .int (nI cd), .int (nI dt), .ref e0, .ref e1, .int (nI rt), .ref e2, .ref e3, .ref e4, .int (nI sz9), .int (nI at9), .int (nI fl), .int pl, .int (nI wr), .ref e5])), (n1, .inl (cI, 16, .inl (aN fMM))), (n2, .inl (cI, 16, .inl (aN fFO))), (e2, .inl (cI, 672, .inl (aN rd))), (e3, .inl (cI, 16, .inl (aP rs))), (e4, .inl (cI, 400, .inl (aN tp))), (e5, .inl (cI, 4, .inl (aN fw)))] sz) := by
  refine Met.ofW (cc := cM_takeField) (maxL := 5) (ret := none) (by decide) rfl ?_
  intro p e s m args below meth c s₁ Bd hml hv
  obtain ⟨rfl, hsz, hG, hP, hK, hD0⟩ := hv
  subst hsz
  have hx := Bd.exec
  have hb := Bd.bytes
  have hr := Bd.returns
  have hts := atoms_spec (ws := wsM_takeField) Bd.pre
  have hw : ∀ w ∈ BIG, w.before _ s = true := fun w h => hts w (List.mem_cons_of_mem _ h)
  have hown : s.vm.findClass RM = some m.cls := findClass_of_methodNamed Bd.named
  have hlocks := Bd.notSynchronized
  have hD := hD0.self (sz := s.heap.size)
  obtain ⟨A, hAe⟩ : ∃ A, A = va_A [(m0, .inr (4, [.ref n0, .ref n1, .ref n2, .int (nI cd), .int (nI dt), .ref e0, .ref e1, .int (nI rt), .ref e2, .ref e3, .ref e4, .int (nI sz9), .int (nI at9), .int (nI fl), .int pl, .int (nI wr), .ref e5])), (n1, .inl (cI, 16, .inl (aN fMM))), (n2, .inl (cI, 16, .inl (aN fFO))), (e2, .inl (cI, 672, .inl (aN rd))), (e3, .inl (cI, 16, .inl (aP rs))), (e4, .inl (cI, 400, .inl (aN tp))), (e5, .inl (cI, 4, .inl (aN fw)))] s.heap.size := ⟨_, rfl⟩
  have hA : ∀ q : Nat, s.heap.size ≤ q → A q := fun q h => by rw [hAe]; exact Or.inr h
  rw [← hAe] at hG hD
  have hS : va_S A s.heap s.heap [] := va_S.rf
  have hl := lv_entry ([.ref m0, .int (nI k)]) (n := 5) (Nat.le_of_ble_eq_true rfl)
  rw [lg_entry_eq]
  generalize (lg_sl ([.ref m0, .int (nI k)]) ++ List.replicate (5 - (lg_sl ([.ref m0, .int (nI k)])).length) Slot.unset).toArray = ls at hl ⊢
  have hl : lv_has ls 5 [(0, .ref m0), (1, .int (nI k))] := hl
  refine zq_name (fun Q hQ => ?_)
  change W p l e rm_c_takeField_no s m _ below meth c _ _ _ _ Q _
  obtain ⟨ho1, ho2, ho3, ho4, ho5⟩ := fFO_b k hk
  have hmm := fMM_b k hk
  have hcd := fCD_b k hk
  have hof := fFO_cd k hk
  refine lv_aload_n hx hb dM_takeField_0 rfl (lv_at hl 0 rfl) ?_
  refine va_get (D := (dC, dI)) (ci := 4) (v := .ref n1) (C := RM) (T := TM) (N := 17) hx hb hw inM hown hK hP 0 rfl rfl 1 (by decide) (hw _ w_fl_M_13) (fun _ h9 => h9) rfl dM_takeField_1 ?_
  refine lv_iload_n hx hb dM_takeField_4 rfl (lv_at hl 1 rfl) ?_
  refine za_ild hx hb hK hP 1 0 rfl rfl (by omega) (by decide) dM_takeField_5 ?_
  refine lv_istore_n (lv' := [(2, .int (nI (fMM k))), (0, .ref m0), (1, .int (nI k))]) hx hb dM_takeField_6 rfl hl (by decide) rfl (fun ls hl => ?_)
  refine lv_aload_n hx hb dM_takeField_7 rfl (lv_at hl 1 rfl) ?_
  refine va_get (D := (dC, dI)) (ci := 4) (v := .ref n2) (C := RM) (T := TM) (N := 17) hx hb hw inM hown hK hP 0 rfl rfl 2 (by decide) (hw _ w_fl_M_16) (fun _ h9 => h9) rfl dM_takeField_8 ?_
  refine lv_iload_n hx hb dM_takeField_11 rfl (lv_at hl 2 rfl) ?_
  refine za_ild hx hb hK hP 2 0 rfl rfl (by omega) (by decide) dM_takeField_12 ?_
  refine lv_iconst (v := nI 2) hx hb dM_takeField_13 (by decide) ?_
  refine zi_rem hx hb (by omega) (by omega) (by omega) dM_takeField_14 ?_
  refine lv_iconst (v := nI 1) hx hb dM_takeField_15 (by decide) ?_
  refine zi_ne (tgt := 133) hx hb (by omega) (by omega) dM_takeField_16 (by decide) (fun c_16 => ?_) (fun c_16 => ?_)
  · have hc0 : fCD k = 0 := by omega
    have hv : valF tp sz9 at9 k (fMM k) = some (k2, p2) := by have h9 := hd; unfold fieldF at h9; rw [if_pos hc0] at h9; exact h9
    have hk2 := valF_k hv
    refine lv_aload_n hx hb dM_takeField_133 rfl (lv_at hl 1 rfl) ?_
    refine va_get (D := (dC, dI)) (ci := 4) (v := .ref e3) (C := RM) (T := TM) (N := 17) hx hb hw inM hown hK hP 0 rfl rfl 9 (by decide) (hw _ w_fl_M_32) (fun _ h9 => h9) rfl dM_takeField_134 ?_
    refine lv_iload_n hx hb dM_takeField_137 rfl (lv_at hl 2 rfl) ?_
    refine lv_iload_n hx hb dM_takeField_138 rfl (lv_at hl 0 rfl) ?_
    refine zi_v (b := pm ((fMM k) + 1)) (pm_s _).symm ?_
    refine za_pst hx hb hK hP hD hS 4 0 rfl rfl (by omega) (by decide) dM_takeField_139 (fun H locs hP hD hS => ?_)
    have hP : va_P (dC, dI) vwCl [(m0, .inr (4, [.ref n0, .ref n1, .ref n2, .int (nI cd), .int (nI dt), .ref e0, .ref e1, .int (nI rt), .ref e2, .ref e3, .ref e4, .int (nI sz9), .int (nI at9), .int (nI fl), .int pl, .int (nI wr), .ref e5])), (n1, .inl (cI, 16, .inl (aN fMM))), (n2, .inl (cI, 16, .inl (aN fFO))), (e2, .inl (cI, 672, .inl (aN rd))), (e3, .inl (cI, 16, .inl (aP (nup rs k ((fMM k) + 1))))), (e4, .inl (cI, 400, .inl (aN tp))), (e5, .inl (cI, 4, .inl (aN fw)))] H := hP
    have hD : va_D A [(m0, .inr (4, [.ref n0, .ref n1, .ref n2, .int (nI cd), .int (nI dt), .ref e0, .ref e1, .int (nI rt), .ref e2, .ref e3, .ref e4, .int (nI sz9), .int (nI at9), .int (nI fl), .int pl, .int (nI wr), .ref e5])), (n1, .inl (cI, 16, .inl (aN fMM))), (n2, .inl (cI, 16, .inl (aN fFO))), (e2, .inl (cI, 672, .inl (aN rd))), (e3, .inl (cI, 16, .inl (aP (nup rs k ((fMM k) + 1))))), (e4, .inl (cI, 400, .inl (aN tp))), (e5, .inl (cI, 4, .inl (aN fw)))] := hD
    refine lv_aload_n hx hb dM_takeField_140 rfl (lv_at hl 1 rfl) ?_
    refine va_get (D := (dC, dI)) (ci := 4) (v := .ref n2) (C := RM) (T := TM) (N := 17) hx hb hw inM hown hK hP 0 rfl rfl 2 (by decide) (hw _ w_fl_M_16) (fun _ h9 => h9) rfl dM_takeField_141 ?_
    refine lv_iload_n hx hb dM_takeField_144 rfl (lv_at hl 2 rfl) ?_
    refine za_ild hx hb hK hP 2 0 rfl rfl (by omega) (by decide) dM_takeField_145 ?_
    refine lv_iconst (v := nI 2) hx hb dM_takeField_146 (by decide) ?_
    refine zi_ge (tgt := 166) hx hb (by omega) (by omega) dM_takeField_147 (by decide) (fun c_147 => ?_) (fun c_147 => ?_)
    · unfold valF at hv
      rw [if_neg (fun z => by have := ho2.mpr z; omega)] at hv
      refine lv_aload_n hx hb dM_takeField_166 rfl (lv_at hl 1 rfl) ?_
      refine lv_iload_n hx hb dM_takeField_167 rfl (lv_at hl 0 rfl) ?_
      refine lv_aload_n hx hb dM_takeField_168 rfl (lv_at hl 1 rfl) ?_
      refine va_get (D := (dC, dI)) (ci := 4) (v := .ref e2) (C := RM) (T := TM) (N := 17) hx hb hw inM hown hK hP 0 rfl rfl 8 (by decide) (hw _ w_fl_M_29) (fun _ h9 => h9) rfl dM_takeField_169 ?_
      refine lv_bipush (v := nI 42) hx hb dM_takeField_172 (by decide) ?_
      refine lv_iload_n hx hb dM_takeField_174 rfl (lv_at hl 2 rfl) ?_
      refine zi_mul hx hb dM_takeField_175 ?_
      have hPc := hP.sub (ws' := [(m0, .inr (4, [.ref n0, .ref n1, .ref n2, .int (nI cd), .int (nI dt), .ref e0, .ref e1, .int (nI rt), .ref e2, .ref e3, .ref e4, .int (nI sz9), .int (nI at9), .int (nI fl), .int pl, .int (nI wr), .ref e5])), (e4, .inl (cI, 400, .inl (aN tp))), (e2, .inl (cI, 672, .inl (aN rd)))]) [0, 5, 3] rfl
      have hDc := hD.sub (ws' := [(m0, .inr (4, [.ref n0, .ref n1, .ref n2, .int (nI cd), .int (nI dt), .ref e0, .ref e1, .int (nI rt), .ref e2, .ref e3, .ref e4, .int (nI sz9), .int (nI at9), .int (nI fl), .int pl, .int (nI wr), .ref e5])), (e4, .inl (cI, 400, .inl (aN tp))), (e2, .inl (cI, 672, .inl (aN rd)))]) [0, 5, 3] (by decide) rfl
      have hFc := va_free (wc := [(m0, .inr (4, [.ref n0, .ref n1, .ref n2, .int (nI cd), .int (nI dt), .ref e0, .ref e1, .int (nI rt), .ref e2, .ref e3, .ref e4, .int (nI sz9), .int (nI at9), .int (nI fl), .int pl, .int (nI wr), .ref e5])), (e4, .inl (cI, 400, .inl (aN tp))), (e2, .inl (cI, 672, .inl (aN rd)))]) hD hS hA [0, 5, 3] rfl
      refine zc_Sv (va_runV (As := [.int (nI (fMM k)), .ref e2, .int (nI (42 * k))]) (rest := []) ⟨hx, hb, hml, hown, hw⟩ (c_takeLetters_no l dC dI m0 n0 n1 n2 cd dt e0 e1 rt e2 e3 e4 sz9 at9 fl pl wr e5 cI cB e2 672 rd tp (fMM k) (42 * k) k2 p2 (by omega) (by omega) htp (by omega) (by omega) (by omega) (by omega) hfl hv H.size) (cwV 3 hw (gV w_ml_M_119 w_im_M_takeLetters w_se_M_takeLetters w_in_M w_co_M_takeLetters) rfl rfl rfl (by decide +kernel) ⟨Nat.le_of_ble_eq_true rfl, Nat.le_of_ble_eq_true rfl⟩) (zM_V hG hS hFc hPc hDc hK 0 rfl rfl) rfl rfl hl.1 rfl (lv_room (Nat.le_of_ble_eq_true rfl)) dM_takeField_176 ⟨Nat.le_of_ble_eq_true rfl, Nat.le_of_ble_eq_true rfl⟩) hS hFc (fun u_176 H locs h_176 hP1 hD1 hk1 hS => ?_)
      obtain ⟨a9_176, f9_176⟩ := u_176
      obtain ⟨hP, hD⟩ := va_join (wr := [(n1, .inl (cI, 16, .inl (aN fMM))), (n2, .inl (cI, 16, .inl (aN fFO))), (e3, .inl (cI, 16, .inl (aP (nup rs k ((fMM k) + 1))))), (e5, .inl (cI, 4, .inl (aN fw)))]) (w1 := [(m0, .inr (4, [.ref n0, .ref n1, .ref n2, .int (nI cd), .int (nI dt), .ref e0, .ref e1, .int (nI rt), .ref e2, .ref e3, .ref e4, .int (nI sz9), .int (nI a9_176), .int (nI k2), .int (nI p2), .int (nI wr), .ref e5])), (e4, .inl (cI, 400, .inl (aN tp))), (e2, .inl (cI, 672, .inl (aN f9_176)))]) hP hD [0, 5, 3] [1, 2, 4, 6] rfl rfl (by decide) (by decide) hk1 hFc hP1 hD1
      have hP : va_P (dC, dI) vwCl [(n1, .inl (cI, 16, .inl (aN fMM))), (n2, .inl (cI, 16, .inl (aN fFO))), (e3, .inl (cI, 16, .inl (aP (nup rs k ((fMM k) + 1))))), (e5, .inl (cI, 4, .inl (aN fw))), (m0, .inr (4, [.ref n0, .ref n1, .ref n2, .int (nI cd), .int (nI dt), .ref e0, .ref e1, .int (nI rt), .ref e2, .ref e3, .ref e4, .int (nI sz9), .int (nI a9_176), .int (nI k2), .int (nI p2), .int (nI wr), .ref e5])), (e4, .inl (cI, 400, .inl (aN tp))), (e2, .inl (cI, 672, .inl (aN f9_176)))] H := hP
      have hD : va_D A [(n1, .inl (cI, 16, .inl (aN fMM))), (n2, .inl (cI, 16, .inl (aN fFO))), (e3, .inl (cI, 16, .inl (aP (nup rs k ((fMM k) + 1))))), (e5, .inl (cI, 4, .inl (aN fw))), (m0, .inr (4, [.ref n0, .ref n1, .ref n2, .int (nI cd), .int (nI dt), .ref e0, .ref e1, .int (nI rt), .ref e2, .ref e3, .ref e4, .int (nI sz9), .int (nI a9_176), .int (nI k2), .int (nI p2), .int (nI wr), .ref e5])), (e4, .inl (cI, 400, .inl (aN tp))), (e2, .inl (cI, 672, .inl (aN f9_176)))] := hD
      subst hAe
      subst hQ
      exact W.vret hx hb hr (fun t ht hW => ⟨⟨(a9_176, nup rs k ((fMM k) + 1), f9_176, fw), rfl, trivial, by rw [ht]; exact hP.sub [4, 0, 1, 6, 2, 5, 3] rfl, hD.sub [4, 0, 1, 6, 2, 5, 3] (by decide) rfl⟩, hS.F ht⟩) hS.2.2 dM_takeField_179
    · unfold valF at hv
      rw [if_pos (ho2.mp c_147)] at hv
      refine lv_aload_n hx hb dM_takeField_150 rfl (lv_at hl 1 rfl) ?_
      refine lv_iload_n hx hb dM_takeField_151 rfl (lv_at hl 0 rfl) ?_
      refine lv_aload_n hx hb dM_takeField_152 rfl (lv_at hl 1 rfl) ?_
      refine va_get (D := (dC, dI)) (ci := 4) (v := .ref e2) (C := RM) (T := TM) (N := 17) hx hb hw inM hown hK hP 0 rfl rfl 8 (by decide) (hw _ w_fl_M_29) (fun _ h9 => h9) rfl dM_takeField_153 ?_
      refine lv_bipush (v := nI 42) hx hb dM_takeField_156 (by decide) ?_
      refine lv_iload_n hx hb dM_takeField_158 rfl (lv_at hl 2 rfl) ?_
      refine zi_mul hx hb dM_takeField_159 ?_
      have hPc := hP.sub (ws' := [(m0, .inr (4, [.ref n0, .ref n1, .ref n2, .int (nI cd), .int (nI dt), .ref e0, .ref e1, .int (nI rt), .ref e2, .ref e3, .ref e4, .int (nI sz9), .int (nI at9), .int (nI fl), .int pl, .int (nI wr), .ref e5])), (e4, .inl (cI, 400, .inl (aN tp))), (e2, .inl (cI, 672, .inl (aN rd)))]) [0, 5, 3] rfl
      have hDc := hD.sub (ws' := [(m0, .inr (4, [.ref n0, .ref n1, .ref n2, .int (nI cd), .int (nI dt), .ref e0, .ref e1, .int (nI rt), .ref e2, .ref e3, .ref e4, .int (nI sz9), .int (nI at9), .int (nI fl), .int pl, .int (nI wr), .ref e5])), (e4, .inl (cI, 400, .inl (aN tp))), (e2, .inl (cI, 672, .inl (aN rd)))]) [0, 5, 3] (by decide) rfl
      have hFc := va_free (wc := [(m0, .inr (4, [.ref n0, .ref n1, .ref n2, .int (nI cd), .int (nI dt), .ref e0, .ref e1, .int (nI rt), .ref e2, .ref e3, .ref e4, .int (nI sz9), .int (nI at9), .int (nI fl), .int pl, .int (nI wr), .ref e5])), (e4, .inl (cI, 400, .inl (aN tp))), (e2, .inl (cI, 672, .inl (aN rd)))]) hD hS hA [0, 5, 3] rfl
      refine zc_Sv (va_runV (As := [.int (nI (fMM k)), .ref e2, .int (nI (42 * k))]) (rest := []) ⟨hx, hb, hml, hown, hw⟩ (c_takeDigits_no l dC dI m0 n0 n1 n2 cd dt e0 e1 rt e2 e3 e4 sz9 at9 fl pl wr e5 cI cB e2 672 rd tp (fMM k) (42 * k) k2 p2 (by omega) (by omega) htp (by omega) (by omega) (by omega) (by omega) hfl hv H.size) (cwV 3 hw (gV w_ml_M_115 w_im_M_takeDigits w_se_M_takeDigits w_in_M w_co_M_takeDigits) rfl rfl rfl (by decide +kernel) ⟨Nat.le_of_ble_eq_true rfl, Nat.le_of_ble_eq_true rfl⟩) (zM_V hG hS hFc hPc hDc hK 0 rfl rfl) rfl rfl hl.1 rfl (lv_room (Nat.le_of_ble_eq_true rfl)) dM_takeField_160 ⟨Nat.le_of_ble_eq_true rfl, Nat.le_of_ble_eq_true rfl⟩) hS hFc (fun u_160 H locs h_160 hP1 hD1 hk1 hS => ?_)
      obtain ⟨a9_160, f9_160⟩ := u_160
      obtain ⟨hP, hD⟩ := va_join (wr := [(n1, .inl (cI, 16, .inl (aN fMM))), (n2, .inl (cI, 16, .inl (aN fFO))), (e3, .inl (cI, 16, .inl (aP (nup rs k ((fMM k) + 1))))), (e5, .inl (cI, 4, .inl (aN fw)))]) (w1 := [(m0, .inr (4, [.ref n0, .ref n1, .ref n2, .int (nI cd), .int (nI dt), .ref e0, .ref e1, .int (nI rt), .ref e2, .ref e3, .ref e4, .int (nI sz9), .int (nI a9_160), .int (nI k2), .int (nI p2), .int (nI wr), .ref e5])), (e4, .inl (cI, 400, .inl (aN tp))), (e2, .inl (cI, 672, .inl (aN f9_160)))]) hP hD [0, 5, 3] [1, 2, 4, 6] rfl rfl (by decide) (by decide) hk1 hFc hP1 hD1
      have hP : va_P (dC, dI) vwCl [(n1, .inl (cI, 16, .inl (aN fMM))), (n2, .inl (cI, 16, .inl (aN fFO))), (e3, .inl (cI, 16, .inl (aP (nup rs k ((fMM k) + 1))))), (e5, .inl (cI, 4, .inl (aN fw))), (m0, .inr (4, [.ref n0, .ref n1, .ref n2, .int (nI cd), .int (nI dt), .ref e0, .ref e1, .int (nI rt), .ref e2, .ref e3, .ref e4, .int (nI sz9), .int (nI a9_160), .int (nI k2), .int (nI p2), .int (nI wr), .ref e5])), (e4, .inl (cI, 400, .inl (aN tp))), (e2, .inl (cI, 672, .inl (aN f9_160)))] H := hP
      have hD : va_D A [(n1, .inl (cI, 16, .inl (aN fMM))), (n2, .inl (cI, 16, .inl (aN fFO))), (e3, .inl (cI, 16, .inl (aP (nup rs k ((fMM k) + 1))))), (e5, .inl (cI, 4, .inl (aN fw))), (m0, .inr (4, [.ref n0, .ref n1, .ref n2, .int (nI cd), .int (nI dt), .ref e0, .ref e1, .int (nI rt), .ref e2, .ref e3, .ref e4, .int (nI sz9), .int (nI a9_160), .int (nI k2), .int (nI p2), .int (nI wr), .ref e5])), (e4, .inl (cI, 400, .inl (aN tp))), (e2, .inl (cI, 672, .inl (aN f9_160)))] := hD
      refine lv_goto (tgt := 179) hx hb dM_takeField_163 (by decide) ?_
      subst hAe
      subst hQ
      exact W.vret hx hb hr (fun t ht hW => ⟨⟨(a9_160, nup rs k ((fMM k) + 1), f9_160, fw), rfl, trivial, by rw [ht]; exact hP.sub [4, 0, 1, 6, 2, 5, 3] rfl, hD.sub [4, 0, 1, 6, 2, 5, 3] (by decide) rfl⟩, hS.F ht⟩) hS.2.2 dM_takeField_179
  · refine lv_aload_n hx hb dM_takeField_19 rfl (lv_at hl 1 rfl) ?_
    refine va_get (D := (dC, dI)) (ci := 4) (v := .int (nI at9)) (C := RM) (T := TM) (N := 17) hx hb hw inM hown hK hP 0 rfl rfl 12 (by decide) (hw _ w_fl_M_108) (fun _ h9 => h9) rfl dM_takeField_20 ?_
    refine lv_istore_n (lv' := [(3, .int (nI at9)), (2, .int (nI (fMM k))), (0, .ref m0), (1, .int (nI k))]) hx hb dM_takeField_23 rfl hl (by decide) rfl (fun ls hl => ?_)
    refine lv_aload_n hx hb dM_takeField_24 rfl (lv_at hl 2 rfl) ?_
    refine va_get (D := (dC, dI)) (ci := 4) (v := .ref n2) (C := RM) (T := TM) (N := 17) hx hb hw inM hown hK hP 0 rfl rfl 2 (by decide) (hw _ w_fl_M_16) (fun _ h9 => h9) rfl dM_takeField_25 ?_
    refine lv_iload_n hx hb dM_takeField_28 rfl (lv_at hl 3 rfl) ?_
    refine za_ild hx hb hK hP 2 0 rfl rfl (by omega) (by decide) dM_takeField_29 ?_
    refine lv_iconst (v := nI 1) hx hb dM_takeField_30 (by decide) ?_
    refine zi_ne (tgt := 38) hx hb (by omega) (by omega) dM_takeField_31 (by decide) (fun c_31 => ?_) (fun c_31 => ?_)
    · have hcw : fCD k = 3 := by omega
      have hnb := nmA_b htp (nx := at9) (ct := fCD k) (by omega)
      rcases fieldF_no hd (by omega) with hd9 | ⟨hd9, hct, rfl, rfl⟩ | ⟨hd9, hct1, hct2, hv⟩
      · rw [hcw] at hd9 hnb
        have hk2 := dgF_k hd9
        refine lv_iconst (v := nI 3) hx hb dM_takeField_38 (by decide) ?_
        refine lv_istore (lv' := [(4, .int (nI 3)), (3, .int (nI at9)), (2, .int (nI (fMM k))), (0, .ref m0), (1, .int (nI k))]) hx hb dM_takeField_39 hl (by decide) rfl (fun ls hl => ?_)
        refine lv_aload_n hx hb dM_takeField_41 rfl (lv_at hl 3 rfl) ?_
        refine lv_iload hx hb dM_takeField_42 (lv_at hl 0 rfl) ?_
        refine lv_aload_n hx hb dM_takeField_44 rfl (lv_at hl 3 rfl) ?_
        refine va_get (D := (dC, dI)) (ci := 4) (v := .ref e5) (C := RM) (T := TM) (N := 17) hx hb hw inM hown hK hP 0 rfl rfl 16 (by decide) (hw _ w_fl_M_38) (fun _ h9 => h9) rfl dM_takeField_45 ?_
        refine lv_iconst (v := nI 0) hx hb dM_takeField_48 (by decide) ?_
        have hPc := hP.sub (ws' := [(m0, .inr (4, [.ref n0, .ref n1, .ref n2, .int (nI cd), .int (nI dt), .ref e0, .ref e1, .int (nI rt), .ref e2, .ref e3, .ref e4, .int (nI sz9), .int (nI at9), .int (nI fl), .int pl, .int (nI wr), .ref e5])), (e4, .inl (cI, 400, .inl (aN tp))), (e5, .inl (cI, 4, .inl (aN fw)))]) [0, 5, 6] rfl
        have hDc := hD.sub (ws' := [(m0, .inr (4, [.ref n0, .ref n1, .ref n2, .int (nI cd), .int (nI dt), .ref e0, .ref e1, .int (nI rt), .ref e2, .ref e3, .ref e4, .int (nI sz9), .int (nI at9), .int (nI fl), .int pl, .int (nI wr), .ref e5])), (e4, .inl (cI, 400, .inl (aN tp))), (e5, .inl (cI, 4, .inl (aN fw)))]) [0, 5, 6] (by decide) rfl
        have hFc := va_free (wc := [(m0, .inr (4, [.ref n0, .ref n1, .ref n2, .int (nI cd), .int (nI dt), .ref e0, .ref e1, .int (nI rt), .ref e2, .ref e3, .ref e4, .int (nI sz9), .int (nI at9), .int (nI fl), .int pl, .int (nI wr), .ref e5])), (e4, .inl (cI, 400, .inl (aN tp))), (e5, .inl (cI, 4, .inl (aN fw)))]) hD hS hA [0, 5, 6] rfl
        refine zc_Sv (va_runV (As := [.int (nI 3), .ref e5, .int (nI 0)]) (rest := []) ⟨hx, hb, hml, hown, hw⟩ (c_takeDigits_no l dC dI m0 n0 n1 n2 cd dt e0 e1 rt e2 e3 e4 sz9 at9 fl pl wr e5 cI cB e5 4 fw tp 3 0 k2 p2 (by omega) (by omega) htp (by omega) (by omega) (by omega) (by omega) hfl hd9 s.heap.size) (cwV 3 hw (gV w_ml_M_115 w_im_M_takeDigits w_se_M_takeDigits w_in_M w_co_M_takeDigits) rfl rfl rfl (by decide +kernel) ⟨Nat.le_of_ble_eq_true rfl, Nat.le_of_ble_eq_true rfl⟩) (zM_V hG hS hFc hPc hDc hK 0 rfl rfl) rfl rfl hl.1 rfl (lv_room (Nat.le_of_ble_eq_true rfl)) dM_takeField_49 ⟨Nat.le_of_ble_eq_true rfl, Nat.le_of_ble_eq_true rfl⟩) hS hFc (fun u_49 H locs h_49 hP1 hD1 hk1 hS => ?_)
        obtain ⟨a9_49, f9_49⟩ := u_49
        obtain ⟨hP, hD⟩ := va_join (wr := [(n1, .inl (cI, 16, .inl (aN fMM))), (n2, .inl (cI, 16, .inl (aN fFO))), (e2, .inl (cI, 672, .inl (aN rd))), (e3, .inl (cI, 16, .inl (aP rs)))]) (w1 := [(m0, .inr (4, [.ref n0, .ref n1, .ref n2, .int (nI cd), .int (nI dt), .ref e0, .ref e1, .int (nI rt), .ref e2, .ref e3, .ref e4, .int (nI sz9), .int (nI a9_49), .int (nI k2), .int (nI p2), .int (nI wr), .ref e5])), (e4, .inl (cI, 400, .inl (aN tp))), (e5, .inl (cI, 4, .inl (aN f9_49)))]) hP hD [0, 5, 6] [1, 2, 3, 4] rfl rfl (by decide) (by decide) hk1 hFc hP1 hD1
        have hP : va_P (dC, dI) vwCl [(n1, .inl (cI, 16, .inl (aN fMM))), (n2, .inl (cI, 16, .inl (aN fFO))), (e2, .inl (cI, 672, .inl (aN rd))), (e3, .inl (cI, 16, .inl (aP rs))), (m0, .inr (4, [.ref n0, .ref n1, .ref n2, .int (nI cd), .int (nI dt), .ref e0, .ref e1, .int (nI rt), .ref e2, .ref e3, .ref e4, .int (nI sz9), .int (nI a9_49), .int (nI k2), .int (nI p2), .int (nI wr), .ref e5])), (e4, .inl (cI, 400, .inl (aN tp))), (e5, .inl (cI, 4, .inl (aN f9_49)))] H := hP
        have hD : va_D A [(n1, .inl (cI, 16, .inl (aN fMM))), (n2, .inl (cI, 16, .inl (aN fFO))), (e2, .inl (cI, 672, .inl (aN rd))), (e3, .inl (cI, 16, .inl (aP rs))), (m0, .inr (4, [.ref n0, .ref n1, .ref n2, .int (nI cd), .int (nI dt), .ref e0, .ref e1, .int (nI rt), .ref e2, .ref e3, .ref e4, .int (nI sz9), .int (nI a9_49), .int (nI k2), .int (nI p2), .int (nI wr), .ref e5])), (e4, .inl (cI, 400, .inl (aN tp))), (e5, .inl (cI, 4, .inl (aN f9_49)))] := hD
        refine lv_aload_n hx hb dM_takeField_52 rfl (lv_at hl 3 rfl) ?_
        refine va_get (D := (dC, dI)) (ci := 4) (v := .int (nI k2)) (C := RM) (T := TM) (N := 17) hx hb hw inM hown hK hP 4 rfl rfl 13 (by decide) (hw _ w_fl_M_102) (fun _ h9 => h9) rfl dM_takeField_53 ?_
        refine zi_le0 (tgt := 60) hx hb (by omega) dM_takeField_56 (by decide) (fun q => False.elim ((by omega))) (fun c_56 => ?_)
        subst hAe
        subst hQ
        exact W.vret hx hb hr (fun t ht hW => ⟨⟨(a9_49, rs, rd, f9_49), rfl, trivial, by rw [ht]; exact hP.sub [4, 0, 1, 2, 3, 5, 6] rfl, hD.sub [4, 0, 1, 2, 3, 5, 6] (by decide) rfl⟩, hS.F ht⟩) hS.2.2 dM_takeField_59
      · have hs9 := dgF_fit hd9
        rw [hcw] at hd9 hs9 hnb hct
        refine lv_iconst (v := nI 3) hx hb dM_takeField_38 (by decide) ?_
        refine lv_istore (lv' := [(4, .int (nI 3)), (3, .int (nI at9)), (2, .int (nI (fMM k))), (0, .ref m0), (1, .int (nI k))]) hx hb dM_takeField_39 hl (by decide) rfl (fun ls hl => ?_)
        refine lv_aload_n hx hb dM_takeField_41 rfl (lv_at hl 3 rfl) ?_
        refine lv_iload hx hb dM_takeField_42 (lv_at hl 0 rfl) ?_
        refine lv_aload_n hx hb dM_takeField_44 rfl (lv_at hl 3 rfl) ?_
        refine va_get (D := (dC, dI)) (ci := 4) (v := .ref e5) (C := RM) (T := TM) (N := 17) hx hb hw inM hown hK hP 0 rfl rfl 16 (by decide) (hw _ w_fl_M_38) (fun _ h9 => h9) rfl dM_takeField_45 ?_
        refine lv_iconst (v := nI 0) hx hb dM_takeField_48 (by decide) ?_
        have hPc := hP.sub (ws' := [(m0, .inr (4, [.ref n0, .ref n1, .ref n2, .int (nI cd), .int (nI dt), .ref e0, .ref e1, .int (nI rt), .ref e2, .ref e3, .ref e4, .int (nI sz9), .int (nI at9), .int (nI fl), .int pl, .int (nI wr), .ref e5])), (e4, .inl (cI, 400, .inl (aN tp))), (e5, .inl (cI, 4, .inl (aN fw)))]) [0, 5, 6] rfl
        have hDc := hD.sub (ws' := [(m0, .inr (4, [.ref n0, .ref n1, .ref n2, .int (nI cd), .int (nI dt), .ref e0, .ref e1, .int (nI rt), .ref e2, .ref e3, .ref e4, .int (nI sz9), .int (nI at9), .int (nI fl), .int pl, .int (nI wr), .ref e5])), (e4, .inl (cI, 400, .inl (aN tp))), (e5, .inl (cI, 4, .inl (aN fw)))]) [0, 5, 6] (by decide) rfl
        have hFc := va_free (wc := [(m0, .inr (4, [.ref n0, .ref n1, .ref n2, .int (nI cd), .int (nI dt), .ref e0, .ref e1, .int (nI rt), .ref e2, .ref e3, .ref e4, .int (nI sz9), .int (nI at9), .int (nI fl), .int pl, .int (nI wr), .ref e5])), (e4, .inl (cI, 400, .inl (aN tp))), (e5, .inl (cI, 4, .inl (aN fw)))]) hD hS hA [0, 5, 6] rfl
        refine zc_Mv (va_runV (As := [.int (nI 3), .ref e5, .int (nI 0)]) (rest := []) ⟨hx, hb, hml, hown, hw⟩ (c_takeDigits_ok l dC dI m0 n0 n1 n2 cd dt e0 e1 rt e2 e3 e4 sz9 at9 fl pl wr e5 cI cB e5 4 fw tp 3 0 (by omega) (by omega) htp (by omega) (by omega) (by omega) (by omega) hfl hd9 s.heap.size) (cwV 3 hw (gV w_ml_M_115 w_im_M_takeDigits w_se_M_takeDigits w_in_M w_co_M_takeDigits) rfl rfl rfl (by decide +kernel) ⟨Nat.le_of_ble_eq_true rfl, Nat.le_of_ble_eq_true rfl⟩) (zM_V hG hS hFc hPc hDc hK 0 rfl rfl) rfl rfl hl.1 rfl (lv_room (Nat.le_of_ble_eq_true rfl)) dM_takeField_49 ⟨Nat.le_of_ble_eq_true rfl, Nat.le_of_ble_eq_true rfl⟩) hS hFc (fun H locs h_49 hP1 hD1 hk1 hS => ?_)
        obtain ⟨hP, hD⟩ := va_join (wr := [(n1, .inl (cI, 16, .inl (aN fMM))), (n2, .inl (cI, 16, .inl (aN fFO))), (e2, .inl (cI, 672, .inl (aN rd))), (e3, .inl (cI, 16, .inl (aP rs)))]) (w1 := [(m0, .inr (4, [.ref n0, .ref n1, .ref n2, .int (nI cd), .int (nI dt), .ref e0, .ref e1, .int (nI rt), .ref e2, .ref e3, .ref e4, .int (nI sz9), .int (nI (at9 + (3 + 1) / 2)), .int (nI fl), .int pl, .int (nI wr), .ref e5])), (e4, .inl (cI, 400, .inl (aN tp))), (e5, .inl (cI, 4, .inl (aN (dgC tp at9 3 0 3 0 fw))))]) hP hD [0, 5, 6] [1, 2, 3, 4] rfl rfl (by decide) (by decide) hk1 hFc hP1 hD1
        have hP : va_P (dC, dI) vwCl [(n1, .inl (cI, 16, .inl (aN fMM))), (n2, .inl (cI, 16, .inl (aN fFO))), (e2, .inl (cI, 672, .inl (aN rd))), (e3, .inl (cI, 16, .inl (aP rs))), (m0, .inr (4, [.ref n0, .ref n1, .ref n2, .int (nI cd), .int (nI dt), .ref e0, .ref e1, .int (nI rt), .ref e2, .ref e3, .ref e4, .int (nI sz9), .int (nI (at9 + (3 + 1) / 2)), .int (nI fl), .int pl, .int (nI wr), .ref e5])), (e4, .inl (cI, 400, .inl (aN tp))), (e5, .inl (cI, 4, .inl (aN (dgC tp at9 3 0 3 0 fw))))] H := hP
        have hD : va_D A [(n1, .inl (cI, 16, .inl (aN fMM))), (n2, .inl (cI, 16, .inl (aN fFO))), (e2, .inl (cI, 672, .inl (aN rd))), (e3, .inl (cI, 16, .inl (aP rs))), (m0, .inr (4, [.ref n0, .ref n1, .ref n2, .int (nI cd), .int (nI dt), .ref e0, .ref e1, .int (nI rt), .ref e2, .ref e3, .ref e4, .int (nI sz9), .int (nI (at9 + (3 + 1) / 2)), .int (nI fl), .int pl, .int (nI wr), .ref e5])), (e4, .inl (cI, 400, .inl (aN tp))), (e5, .inl (cI, 4, .inl (aN (dgC tp at9 3 0 3 0 fw))))] := hD
        refine lv_aload_n hx hb dM_takeField_52 rfl (lv_at hl 3 rfl) ?_
        refine va_get (D := (dC, dI)) (ci := 4) (v := .int (nI fl)) (C := RM) (T := TM) (N := 17) hx hb hw inM hown hK hP 4 rfl rfl 13 (by decide) (hw _ w_fl_M_102) (fun _ h9 => h9) rfl dM_takeField_53 ?_
        refine zi_le0 (tgt := 60) hx hb (by omega) dM_takeField_56 (by decide) (fun c_56 => ?_) (fun q => False.elim ((by omega)))
        refine lv_iload hx hb dM_takeField_60 (lv_at hl 0 rfl) ?_
        refine lv_iconst (v := nI 2) hx hb dM_takeField_62 (by decide) ?_
        refine lv_icmp_ne (tgt := 85) hx hb dM_takeField_63 (by decide) (fun c_63 => ?_) (fun q => False.elim (absurd q (by decide)))
        refine lv_bipush (v := nI 100) hx hb dM_takeField_85 (by decide) ?_
        refine lv_aload_n hx hb dM_takeField_87 rfl (lv_at hl 3 rfl) ?_
        refine va_get (D := (dC, dI)) (ci := 4) (v := .ref e5) (C := RM) (T := TM) (N := 17) hx hb hw inM hown hK hP 4 rfl rfl 16 (by decide) (hw _ w_fl_M_38) (fun _ h9 => h9) rfl dM_takeField_88 ?_
        refine lv_iconst (v := nI 0) hx hb dM_takeField_91 (by decide) ?_
        refine za_ild hx hb hK hP 6 0 rfl rfl (by omega) (by decide) dM_takeField_92 ?_
        refine zi_mul hx hb dM_takeField_93 ?_
        refine lv_bipush (v := nI 10) hx hb dM_takeField_94 (by decide) ?_
        refine lv_aload_n hx hb dM_takeField_96 rfl (lv_at hl 3 rfl) ?_
        refine va_get (D := (dC, dI)) (ci := 4) (v := .ref e5) (C := RM) (T := TM) (N := 17) hx hb hw inM hown hK hP 4 rfl rfl 16 (by decide) (hw _ w_fl_M_38) (fun _ h9 => h9) rfl dM_takeField_97 ?_
        refine lv_iconst (v := nI 1) hx hb dM_takeField_100 (by decide) ?_
        refine za_ild hx hb hK hP 6 0 rfl rfl (by omega) (by decide) dM_takeField_101 ?_
        refine zi_mul hx hb dM_takeField_102 ?_
        refine zi_add hx hb dM_takeField_103 ?_
        refine lv_aload_n hx hb dM_takeField_104 rfl (lv_at hl 3 rfl) ?_
        refine va_get (D := (dC, dI)) (ci := 4) (v := .ref e5) (C := RM) (T := TM) (N := 17) hx hb hw inM hown hK hP 4 rfl rfl 16 (by decide) (hw _ w_fl_M_38) (fun _ h9 => h9) rfl dM_takeField_105 ?_
        refine lv_iconst (v := nI 2) hx hb dM_takeField_108 (by decide) ?_
        refine za_ild hx hb hK hP 6 0 rfl rfl (by omega) (by decide) dM_takeField_109 ?_
        refine zi_add hx hb dM_takeField_110 ?_
        refine zi_v (b := nI (nmA tp at9 3 3 0 0)) (by rw [nm_3]) ?_
        refine lv_istore_n (lv' := [(2, .int (nI (nmA tp at9 3 3 0 0))), (4, .int (nI 3)), (3, .int (nI at9)), (0, .ref m0), (1, .int (nI k))]) hx hb dM_takeField_111 rfl hl (by decide) rfl (fun ls hl => ?_)
        refine lv_iload_n hx hb dM_takeField_112 rfl (lv_at hl 0 rfl) ?_
        refine zi_eq0 (tgt := 126) hx hb (by omega) dM_takeField_113 (by decide) (fun c_113 => ?_) (fun c_113 => ?_)
        · refine lv_aload_n hx hb dM_takeField_126 rfl (lv_at hl 3 rfl) ?_
          refine lv_iconst (v := nI 5) hx hb dM_takeField_127 (by decide) ?_
          refine lv_iload_n hx hb dM_takeField_128 rfl (lv_at hl 2 rfl) ?_
          have hPc := hP.sub (ws' := [(m0, .inr (4, [.ref n0, .ref n1, .ref n2, .int (nI cd), .int (nI dt), .ref e0, .ref e1, .int (nI rt), .ref e2, .ref e3, .ref e4, .int (nI sz9), .int (nI (at9 + (3 + 1) / 2)), .int (nI fl), .int pl, .int (nI wr), .ref e5]))]) [4] rfl
          have hDc := hD.sub (ws' := [(m0, .inr (4, [.ref n0, .ref n1, .ref n2, .int (nI cd), .int (nI dt), .ref e0, .ref e1, .int (nI rt), .ref e2, .ref e3, .ref e4, .int (nI sz9), .int (nI (at9 + (3 + 1) / 2)), .int (nI fl), .int pl, .int (nI wr), .ref e5]))]) [4] (by decide) rfl
          have hFc := va_free (wc := [(m0, .inr (4, [.ref n0, .ref n1, .ref n2, .int (nI cd), .int (nI dt), .ref e0, .ref e1, .int (nI rt), .ref e2, .ref e3, .ref e4, .int (nI sz9), .int (nI (at9 + (3 + 1) / 2)), .int (nI fl), .int pl, .int (nI wr), .ref e5]))]) hD hS hA [4] rfl
          refine zc_Mv (va_runV (As := [.int (nI 5), .int (nI at9)]) (rest := []) ⟨hx, hb, hml, hown, hw⟩ (c_fails_1 l dC dI m0 n0 n1 n2 cd dt e0 e1 rt e2 e3 e4 sz9 (at9 + (3 + 1) / 2) fl pl wr e5 cI cB 5 (nI at9) (by omega) H.size) (cwV 2 hw (gV w_ml_M_111 w_im_M_fails w_se_M_fails w_in_M w_co_M_fails) rfl rfl rfl (by decide +kernel) ⟨Nat.le_of_ble_eq_true rfl, Nat.le_of_ble_eq_true rfl⟩) (zM_V hG hS hFc hPc hDc hK 0 rfl rfl) rfl rfl hl.1 rfl (lv_room (Nat.le_of_ble_eq_true rfl)) dM_takeField_129 ⟨Nat.le_of_ble_eq_true rfl, Nat.le_of_ble_eq_true rfl⟩) hS hFc (fun H locs h_129 hP1 hD1 hk1 hS => ?_)
          obtain ⟨hP, hD⟩ := va_join (wr := [(n1, .inl (cI, 16, .inl (aN fMM))), (n2, .inl (cI, 16, .inl (aN fFO))), (e2, .inl (cI, 672, .inl (aN rd))), (e3, .inl (cI, 16, .inl (aP rs))), (e4, .inl (cI, 400, .inl (aN tp))), (e5, .inl (cI, 4, .inl (aN (dgC tp at9 3 0 3 0 fw))))]) (w1 := [(m0, .inr (4, [.ref n0, .ref n1, .ref n2, .int (nI cd), .int (nI dt), .ref e0, .ref e1, .int (nI rt), .ref e2, .ref e3, .ref e4, .int (nI sz9), .int (nI (at9 + (3 + 1) / 2)), .int (nI 5), .int (nI at9), .int (nI wr), .ref e5]))]) hP hD [4] [0, 1, 2, 3, 5, 6] rfl rfl (by decide) (by decide) hk1 hFc hP1 hD1
          have hP : va_P (dC, dI) vwCl [(n1, .inl (cI, 16, .inl (aN fMM))), (n2, .inl (cI, 16, .inl (aN fFO))), (e2, .inl (cI, 672, .inl (aN rd))), (e3, .inl (cI, 16, .inl (aP rs))), (e4, .inl (cI, 400, .inl (aN tp))), (e5, .inl (cI, 4, .inl (aN (dgC tp at9 3 0 3 0 fw)))), (m0, .inr (4, [.ref n0, .ref n1, .ref n2, .int (nI cd), .int (nI dt), .ref e0, .ref e1, .int (nI rt), .ref e2, .ref e3, .ref e4, .int (nI sz9), .int (nI (at9 + (3 + 1) / 2)), .int (nI 5), .int (nI at9), .int (nI wr), .ref e5]))] H := hP
          have hD : va_D A [(n1, .inl (cI, 16, .inl (aN fMM))), (n2, .inl (cI, 16, .inl (aN fFO))), (e2, .inl (cI, 672, .inl (aN rd))), (e3, .inl (cI, 16, .inl (aP rs))), (e4, .inl (cI, 400, .inl (aN tp))), (e5, .inl (cI, 4, .inl (aN (dgC tp at9 3 0 3 0 fw)))), (m0, .inr (4, [.ref n0, .ref n1, .ref n2, .int (nI cd), .int (nI dt), .ref e0, .ref e1, .int (nI rt), .ref e2, .ref e3, .ref e4, .int (nI sz9), .int (nI (at9 + (3 + 1) / 2)), .int (nI 5), .int (nI at9), .int (nI wr), .ref e5]))] := hD
          subst hAe
          subst hQ
          exact W.vret hx hb hr (fun t ht hW => ⟨⟨((at9 + (3 + 1) / 2), rs, rd, dgC tp at9 3 0 3 0 fw), rfl, trivial, by rw [ht]; exact hP.sub [6, 0, 1, 2, 3, 4, 5] rfl, hD.sub [6, 0, 1, 2, 3, 4, 5] (by decide) rfl⟩, hS.F ht⟩) hS.2.2 dM_takeField_132
        · refine lv_iload_n hx hb dM_takeField_116 rfl (lv_at hl 0 rfl) ?_
          refine lv_aload_n hx hb dM_takeField_117 rfl (lv_at hl 3 rfl) ?_
          refine va_get (D := (dC, dI)) (ci := 4) (v := .ref n1) (C := RM) (T := TM) (N := 17) hx hb hw inM hown hK hP 4 rfl rfl 1 (by decide) (hw _ w_fl_M_13) (fun _ h9 => h9) rfl dM_takeField_118 ?_
          refine lv_iload_n hx hb dM_takeField_121 rfl (lv_at hl 4 rfl) ?_
          refine za_ild hx hb hK hP 0 0 rfl rfl (by omega) (by decide) dM_takeField_122 ?_
          refine zi_le (tgt := 133) hx hb (by omega) (by omega) dM_takeField_123 (by decide) (fun q => False.elim ((by omega))) (fun c_123 => ?_)
          refine lv_aload_n hx hb dM_takeField_126 rfl (lv_at hl 3 rfl) ?_
          refine lv_iconst (v := nI 5) hx hb dM_takeField_127 (by decide) ?_
          refine lv_iload_n hx hb dM_takeField_128 rfl (lv_at hl 2 rfl) ?_
          have hPc := hP.sub (ws' := [(m0, .inr (4, [.ref n0, .ref n1, .ref n2, .int (nI cd), .int (nI dt), .ref e0, .ref e1, .int (nI rt), .ref e2, .ref e3, .ref e4, .int (nI sz9), .int (nI (at9 + (3 + 1) / 2)), .int (nI fl), .int pl, .int (nI wr), .ref e5]))]) [4] rfl
          have hDc := hD.sub (ws' := [(m0, .inr (4, [.ref n0, .ref n1, .ref n2, .int (nI cd), .int (nI dt), .ref e0, .ref e1, .int (nI rt), .ref e2, .ref e3, .ref e4, .int (nI sz9), .int (nI (at9 + (3 + 1) / 2)), .int (nI fl), .int pl, .int (nI wr), .ref e5]))]) [4] (by decide) rfl
          have hFc := va_free (wc := [(m0, .inr (4, [.ref n0, .ref n1, .ref n2, .int (nI cd), .int (nI dt), .ref e0, .ref e1, .int (nI rt), .ref e2, .ref e3, .ref e4, .int (nI sz9), .int (nI (at9 + (3 + 1) / 2)), .int (nI fl), .int pl, .int (nI wr), .ref e5]))]) hD hS hA [4] rfl
          refine zc_Mv (va_runV (As := [.int (nI 5), .int (nI at9)]) (rest := []) ⟨hx, hb, hml, hown, hw⟩ (c_fails_1 l dC dI m0 n0 n1 n2 cd dt e0 e1 rt e2 e3 e4 sz9 (at9 + (3 + 1) / 2) fl pl wr e5 cI cB 5 (nI at9) (by omega) H.size) (cwV 2 hw (gV w_ml_M_111 w_im_M_fails w_se_M_fails w_in_M w_co_M_fails) rfl rfl rfl (by decide +kernel) ⟨Nat.le_of_ble_eq_true rfl, Nat.le_of_ble_eq_true rfl⟩) (zM_V hG hS hFc hPc hDc hK 0 rfl rfl) rfl rfl hl.1 rfl (lv_room (Nat.le_of_ble_eq_true rfl)) dM_takeField_129 ⟨Nat.le_of_ble_eq_true rfl, Nat.le_of_ble_eq_true rfl⟩) hS hFc (fun H locs h_129 hP1 hD1 hk1 hS => ?_)
          obtain ⟨hP, hD⟩ := va_join (wr := [(n1, .inl (cI, 16, .inl (aN fMM))), (n2, .inl (cI, 16, .inl (aN fFO))), (e2, .inl (cI, 672, .inl (aN rd))), (e3, .inl (cI, 16, .inl (aP rs))), (e4, .inl (cI, 400, .inl (aN tp))), (e5, .inl (cI, 4, .inl (aN (dgC tp at9 3 0 3 0 fw))))]) (w1 := [(m0, .inr (4, [.ref n0, .ref n1, .ref n2, .int (nI cd), .int (nI dt), .ref e0, .ref e1, .int (nI rt), .ref e2, .ref e3, .ref e4, .int (nI sz9), .int (nI (at9 + (3 + 1) / 2)), .int (nI 5), .int (nI at9), .int (nI wr), .ref e5]))]) hP hD [4] [0, 1, 2, 3, 5, 6] rfl rfl (by decide) (by decide) hk1 hFc hP1 hD1
          have hP : va_P (dC, dI) vwCl [(n1, .inl (cI, 16, .inl (aN fMM))), (n2, .inl (cI, 16, .inl (aN fFO))), (e2, .inl (cI, 672, .inl (aN rd))), (e3, .inl (cI, 16, .inl (aP rs))), (e4, .inl (cI, 400, .inl (aN tp))), (e5, .inl (cI, 4, .inl (aN (dgC tp at9 3 0 3 0 fw)))), (m0, .inr (4, [.ref n0, .ref n1, .ref n2, .int (nI cd), .int (nI dt), .ref e0, .ref e1, .int (nI rt), .ref e2, .ref e3, .ref e4, .int (nI sz9), .int (nI (at9 + (3 + 1) / 2)), .int (nI 5), .int (nI at9), .int (nI wr), .ref e5]))] H := hP
          have hD : va_D A [(n1, .inl (cI, 16, .inl (aN fMM))), (n2, .inl (cI, 16, .inl (aN fFO))), (e2, .inl (cI, 672, .inl (aN rd))), (e3, .inl (cI, 16, .inl (aP rs))), (e4, .inl (cI, 400, .inl (aN tp))), (e5, .inl (cI, 4, .inl (aN (dgC tp at9 3 0 3 0 fw)))), (m0, .inr (4, [.ref n0, .ref n1, .ref n2, .int (nI cd), .int (nI dt), .ref e0, .ref e1, .int (nI rt), .ref e2, .ref e3, .ref e4, .int (nI sz9), .int (nI (at9 + (3 + 1) / 2)), .int (nI 5), .int (nI at9), .int (nI wr), .ref e5]))] := hD
          subst hAe
          subst hQ
          exact W.vret hx hb hr (fun t ht hW => ⟨⟨((at9 + (3 + 1) / 2), rs, rd, dgC tp at9 3 0 3 0 fw), rfl, trivial, by rw [ht]; exact hP.sub [6, 0, 1, 2, 3, 4, 5] rfl, hD.sub [6, 0, 1, 2, 3, 4, 5] (by decide) rfl⟩, hS.F ht⟩) hS.2.2 dM_takeField_132
      · have hs9 := dgF_fit hd9
        have hk2 := valF_k hv
        rw [hcw] at hd9 hs9 hnb hct1 hct2 hv
        refine lv_iconst (v := nI 3) hx hb dM_takeField_38 (by decide) ?_
        refine lv_istore (lv' := [(4, .int (nI 3)), (3, .int (nI at9)), (2, .int (nI (fMM k))), (0, .ref m0), (1, .int (nI k))]) hx hb dM_takeField_39 hl (by decide) rfl (fun ls hl => ?_)
        refine lv_aload_n hx hb dM_takeField_41 rfl (lv_at hl 3 rfl) ?_
        refine lv_iload hx hb dM_takeField_42 (lv_at hl 0 rfl) ?_
        refine lv_aload_n hx hb dM_takeField_44 rfl (lv_at hl 3 rfl) ?_
        refine va_get (D := (dC, dI)) (ci := 4) (v := .ref e5) (C := RM) (T := TM) (N := 17) hx hb hw inM hown hK hP 0 rfl rfl 16 (by decide) (hw _ w_fl_M_38) (fun _ h9 => h9) rfl dM_takeField_45 ?_
        refine lv_iconst (v := nI 0) hx hb dM_takeField_48 (by decide) ?_
        have hPc := hP.sub (ws' := [(m0, .inr (4, [.ref n0, .ref n1, .ref n2, .int (nI cd), .int (nI dt), .ref e0, .ref e1, .int (nI rt), .ref e2, .ref e3, .ref e4, .int (nI sz9), .int (nI at9), .int (nI fl), .int pl, .int (nI wr), .ref e5])), (e4, .inl (cI, 400, .inl (aN tp))), (e5, .inl (cI, 4, .inl (aN fw)))]) [0, 5, 6] rfl
        have hDc := hD.sub (ws' := [(m0, .inr (4, [.ref n0, .ref n1, .ref n2, .int (nI cd), .int (nI dt), .ref e0, .ref e1, .int (nI rt), .ref e2, .ref e3, .ref e4, .int (nI sz9), .int (nI at9), .int (nI fl), .int pl, .int (nI wr), .ref e5])), (e4, .inl (cI, 400, .inl (aN tp))), (e5, .inl (cI, 4, .inl (aN fw)))]) [0, 5, 6] (by decide) rfl
        have hFc := va_free (wc := [(m0, .inr (4, [.ref n0, .ref n1, .ref n2, .int (nI cd), .int (nI dt), .ref e0, .ref e1, .int (nI rt), .ref e2, .ref e3, .ref e4, .int (nI sz9), .int (nI at9), .int (nI fl), .int pl, .int (nI wr), .ref e5])), (e4, .inl (cI, 400, .inl (aN tp))), (e5, .inl (cI, 4, .inl (aN fw)))]) hD hS hA [0, 5, 6] rfl
        refine zc_Mv (va_runV (As := [.int (nI 3), .ref e5, .int (nI 0)]) (rest := []) ⟨hx, hb, hml, hown, hw⟩ (c_takeDigits_ok l dC dI m0 n0 n1 n2 cd dt e0 e1 rt e2 e3 e4 sz9 at9 fl pl wr e5 cI cB e5 4 fw tp 3 0 (by omega) (by omega) htp (by omega) (by omega) (by omega) (by omega) hfl hd9 s.heap.size) (cwV 3 hw (gV w_ml_M_115 w_im_M_takeDigits w_se_M_takeDigits w_in_M w_co_M_takeDigits) rfl rfl rfl (by decide +kernel) ⟨Nat.le_of_ble_eq_true rfl, Nat.le_of_ble_eq_true rfl⟩) (zM_V hG hS hFc hPc hDc hK 0 rfl rfl) rfl rfl hl.1 rfl (lv_room (Nat.le_of_ble_eq_true rfl)) dM_takeField_49 ⟨Nat.le_of_ble_eq_true rfl, Nat.le_of_ble_eq_true rfl⟩) hS hFc (fun H locs h_49 hP1 hD1 hk1 hS => ?_)
        obtain ⟨hP, hD⟩ := va_join (wr := [(n1, .inl (cI, 16, .inl (aN fMM))), (n2, .inl (cI, 16, .inl (aN fFO))), (e2, .inl (cI, 672, .inl (aN rd))), (e3, .inl (cI, 16, .inl (aP rs)))]) (w1 := [(m0, .inr (4, [.ref n0, .ref n1, .ref n2, .int (nI cd), .int (nI dt), .ref e0, .ref e1, .int (nI rt), .ref e2, .ref e3, .ref e4, .int (nI sz9), .int (nI (at9 + (3 + 1) / 2)), .int (nI fl), .int pl, .int (nI wr), .ref e5])), (e4, .inl (cI, 400, .inl (aN tp))), (e5, .inl (cI, 4, .inl (aN (dgC tp at9 3 0 3 0 fw))))]) hP hD [0, 5, 6] [1, 2, 3, 4] rfl rfl (by decide) (by decide) hk1 hFc hP1 hD1
        have hP : va_P (dC, dI) vwCl [(n1, .inl (cI, 16, .inl (aN fMM))), (n2, .inl (cI, 16, .inl (aN fFO))), (e2, .inl (cI, 672, .inl (aN rd))), (e3, .inl (cI, 16, .inl (aP rs))), (m0, .inr (4, [.ref n0, .ref n1, .ref n2, .int (nI cd), .int (nI dt), .ref e0, .ref e1, .int (nI rt), .ref e2, .ref e3, .ref e4, .int (nI sz9), .int (nI (at9 + (3 + 1) / 2)), .int (nI fl), .int pl, .int (nI wr), .ref e5])), (e4, .inl (cI, 400, .inl (aN tp))), (e5, .inl (cI, 4, .inl (aN (dgC tp at9 3 0 3 0 fw))))] H := hP
        have hD : va_D A [(n1, .inl (cI, 16, .inl (aN fMM))), (n2, .inl (cI, 16, .inl (aN fFO))), (e2, .inl (cI, 672, .inl (aN rd))), (e3, .inl (cI, 16, .inl (aP rs))), (m0, .inr (4, [.ref n0, .ref n1, .ref n2, .int (nI cd), .int (nI dt), .ref e0, .ref e1, .int (nI rt), .ref e2, .ref e3, .ref e4, .int (nI sz9), .int (nI (at9 + (3 + 1) / 2)), .int (nI fl), .int pl, .int (nI wr), .ref e5])), (e4, .inl (cI, 400, .inl (aN tp))), (e5, .inl (cI, 4, .inl (aN (dgC tp at9 3 0 3 0 fw))))] := hD
        refine lv_aload_n hx hb dM_takeField_52 rfl (lv_at hl 3 rfl) ?_
        refine va_get (D := (dC, dI)) (ci := 4) (v := .int (nI fl)) (C := RM) (T := TM) (N := 17) hx hb hw inM hown hK hP 4 rfl rfl 13 (by decide) (hw _ w_fl_M_102) (fun _ h9 => h9) rfl dM_takeField_53 ?_
        refine zi_le0 (tgt := 60) hx hb (by omega) dM_takeField_56 (by decide) (fun c_56 => ?_) (fun q => False.elim ((by omega)))
        refine lv_iload hx hb dM_takeField_60 (lv_at hl 0 rfl) ?_
        refine lv_iconst (v := nI 2) hx hb dM_takeField_62 (by decide) ?_
        refine lv_icmp_ne (tgt := 85) hx hb dM_takeField_63 (by decide) (fun c_63 => ?_) (fun q => False.elim (absurd q (by decide)))
        refine lv_bipush (v := nI 100) hx hb dM_takeField_85 (by decide) ?_
        refine lv_aload_n hx hb dM_takeField_87 rfl (lv_at hl 3 rfl) ?_
        refine va_get (D := (dC, dI)) (ci := 4) (v := .ref e5) (C := RM) (T := TM) (N := 17) hx hb hw inM hown hK hP 4 rfl rfl 16 (by decide) (hw _ w_fl_M_38) (fun _ h9 => h9) rfl dM_takeField_88 ?_
        refine lv_iconst (v := nI 0) hx hb dM_takeField_91 (by decide) ?_
        refine za_ild hx hb hK hP 6 0 rfl rfl (by omega) (by decide) dM_takeField_92 ?_
        refine zi_mul hx hb dM_takeField_93 ?_
        refine lv_bipush (v := nI 10) hx hb dM_takeField_94 (by decide) ?_
        refine lv_aload_n hx hb dM_takeField_96 rfl (lv_at hl 3 rfl) ?_
        refine va_get (D := (dC, dI)) (ci := 4) (v := .ref e5) (C := RM) (T := TM) (N := 17) hx hb hw inM hown hK hP 4 rfl rfl 16 (by decide) (hw _ w_fl_M_38) (fun _ h9 => h9) rfl dM_takeField_97 ?_
        refine lv_iconst (v := nI 1) hx hb dM_takeField_100 (by decide) ?_
        refine za_ild hx hb hK hP 6 0 rfl rfl (by omega) (by decide) dM_takeField_101 ?_
        refine zi_mul hx hb dM_takeField_102 ?_
        refine zi_add hx hb dM_takeField_103 ?_
        refine lv_aload_n hx hb dM_takeField_104 rfl (lv_at hl 3 rfl) ?_
        refine va_get (D := (dC, dI)) (ci := 4) (v := .ref e5) (C := RM) (T := TM) (N := 17) hx hb hw inM hown hK hP 4 rfl rfl 16 (by decide) (hw _ w_fl_M_38) (fun _ h9 => h9) rfl dM_takeField_105 ?_
        refine lv_iconst (v := nI 2) hx hb dM_takeField_108 (by decide) ?_
        refine za_ild hx hb hK hP 6 0 rfl rfl (by omega) (by decide) dM_takeField_109 ?_
        refine zi_add hx hb dM_takeField_110 ?_
        refine zi_v (b := nI (nmA tp at9 3 3 0 0)) (by rw [nm_3]) ?_
        refine lv_istore_n (lv' := [(2, .int (nI (nmA tp at9 3 3 0 0))), (4, .int (nI 3)), (3, .int (nI at9)), (0, .ref m0), (1, .int (nI k))]) hx hb dM_takeField_111 rfl hl (by decide) rfl (fun ls hl => ?_)
        refine lv_iload_n hx hb dM_takeField_112 rfl (lv_at hl 0 rfl) ?_
        refine zi_eq0 (tgt := 126) hx hb (by omega) dM_takeField_113 (by decide) (fun q => False.elim ((by omega))) (fun c_113 => ?_)
        refine lv_iload_n hx hb dM_takeField_116 rfl (lv_at hl 0 rfl) ?_
        refine lv_aload_n hx hb dM_takeField_117 rfl (lv_at hl 3 rfl) ?_
        refine va_get (D := (dC, dI)) (ci := 4) (v := .ref n1) (C := RM) (T := TM) (N := 17) hx hb hw inM hown hK hP 4 rfl rfl 1 (by decide) (hw _ w_fl_M_13) (fun _ h9 => h9) rfl dM_takeField_118 ?_
        refine lv_iload_n hx hb dM_takeField_121 rfl (lv_at hl 4 rfl) ?_
        refine za_ild hx hb hK hP 0 0 rfl rfl (by omega) (by decide) dM_takeField_122 ?_
        refine zi_le (tgt := 133) hx hb (by omega) (by omega) dM_takeField_123 (by decide) (fun c_123 => ?_) (fun q => False.elim ((by omega)))
        refine lv_aload_n hx hb dM_takeField_133 rfl (lv_at hl 3 rfl) ?_
        refine va_get (D := (dC, dI)) (ci := 4) (v := .ref e3) (C := RM) (T := TM) (N := 17) hx hb hw inM hown hK hP 4 rfl rfl 9 (by decide) (hw _ w_fl_M_32) (fun _ h9 => h9) rfl dM_takeField_134 ?_
        refine lv_iload_n hx hb dM_takeField_137 rfl (lv_at hl 4 rfl) ?_
        refine lv_iload_n hx hb dM_takeField_138 rfl (lv_at hl 0 rfl) ?_
        refine zi_v (b := pm ((nmA tp at9 3 3 0 0) + 1)) (pm_s _).symm ?_
        refine za_pst hx hb hK hP hD hS 3 0 rfl rfl (by omega) (by decide) dM_takeField_139 (fun H locs hP hD hS => ?_)
        have hP : va_P (dC, dI) vwCl [(n1, .inl (cI, 16, .inl (aN fMM))), (n2, .inl (cI, 16, .inl (aN fFO))), (e2, .inl (cI, 672, .inl (aN rd))), (e3, .inl (cI, 16, .inl (aP (nup rs k ((nmA tp at9 3 3 0 0) + 1))))), (m0, .inr (4, [.ref n0, .ref n1, .ref n2, .int (nI cd), .int (nI dt), .ref e0, .ref e1, .int (nI rt), .ref e2, .ref e3, .ref e4, .int (nI sz9), .int (nI (at9 + (3 + 1) / 2)), .int (nI fl), .int pl, .int (nI wr), .ref e5])), (e4, .inl (cI, 400, .inl (aN tp))), (e5, .inl (cI, 4, .inl (aN (dgC tp at9 3 0 3 0 fw))))] H := hP
        have hD : va_D A [(n1, .inl (cI, 16, .inl (aN fMM))), (n2, .inl (cI, 16, .inl (aN fFO))), (e2, .inl (cI, 672, .inl (aN rd))), (e3, .inl (cI, 16, .inl (aP (nup rs k ((nmA tp at9 3 3 0 0) + 1))))), (m0, .inr (4, [.ref n0, .ref n1, .ref n2, .int (nI cd), .int (nI dt), .ref e0, .ref e1, .int (nI rt), .ref e2, .ref e3, .ref e4, .int (nI sz9), .int (nI (at9 + (3 + 1) / 2)), .int (nI fl), .int pl, .int (nI wr), .ref e5])), (e4, .inl (cI, 400, .inl (aN tp))), (e5, .inl (cI, 4, .inl (aN (dgC tp at9 3 0 3 0 fw))))] := hD
        refine lv_aload_n hx hb dM_takeField_140 rfl (lv_at hl 3 rfl) ?_
        refine va_get (D := (dC, dI)) (ci := 4) (v := .ref n2) (C := RM) (T := TM) (N := 17) hx hb hw inM hown hK hP 4 rfl rfl 2 (by decide) (hw _ w_fl_M_16) (fun _ h9 => h9) rfl dM_takeField_141 ?_
        refine lv_iload_n hx hb dM_takeField_144 rfl (lv_at hl 4 rfl) ?_
        refine za_ild hx hb hK hP 1 0 rfl rfl (by omega) (by decide) dM_takeField_145 ?_
        refine lv_iconst (v := nI 2) hx hb dM_takeField_146 (by decide) ?_
        refine zi_ge (tgt := 166) hx hb (by omega) (by omega) dM_takeField_147 (by decide) (fun c_147 => ?_) (fun c_147 => ?_)
        · unfold valF at hv
          rw [if_neg (fun z => by have := ho2.mpr z; omega)] at hv
          refine lv_aload_n hx hb dM_takeField_166 rfl (lv_at hl 3 rfl) ?_
          refine lv_iload_n hx hb dM_takeField_167 rfl (lv_at hl 0 rfl) ?_
          refine lv_aload_n hx hb dM_takeField_168 rfl (lv_at hl 3 rfl) ?_
          refine va_get (D := (dC, dI)) (ci := 4) (v := .ref e2) (C := RM) (T := TM) (N := 17) hx hb hw inM hown hK hP 4 rfl rfl 8 (by decide) (hw _ w_fl_M_29) (fun _ h9 => h9) rfl dM_takeField_169 ?_
          refine lv_bipush (v := nI 42) hx hb dM_takeField_172 (by decide) ?_
          refine lv_iload_n hx hb dM_takeField_174 rfl (lv_at hl 4 rfl) ?_
          refine zi_mul hx hb dM_takeField_175 ?_
          have hPc := hP.sub (ws' := [(m0, .inr (4, [.ref n0, .ref n1, .ref n2, .int (nI cd), .int (nI dt), .ref e0, .ref e1, .int (nI rt), .ref e2, .ref e3, .ref e4, .int (nI sz9), .int (nI (at9 + (3 + 1) / 2)), .int (nI fl), .int pl, .int (nI wr), .ref e5])), (e4, .inl (cI, 400, .inl (aN tp))), (e2, .inl (cI, 672, .inl (aN rd)))]) [4, 5, 2] rfl
          have hDc := hD.sub (ws' := [(m0, .inr (4, [.ref n0, .ref n1, .ref n2, .int (nI cd), .int (nI dt), .ref e0, .ref e1, .int (nI rt), .ref e2, .ref e3, .ref e4, .int (nI sz9), .int (nI (at9 + (3 + 1) / 2)), .int (nI fl), .int pl, .int (nI wr), .ref e5])), (e4, .inl (cI, 400, .inl (aN tp))), (e2, .inl (cI, 672, .inl (aN rd)))]) [4, 5, 2] (by decide) rfl
          have hFc := va_free (wc := [(m0, .inr (4, [.ref n0, .ref n1, .ref n2, .int (nI cd), .int (nI dt), .ref e0, .ref e1, .int (nI rt), .ref e2, .ref e3, .ref e4, .int (nI sz9), .int (nI (at9 + (3 + 1) / 2)), .int (nI fl), .int pl, .int (nI wr), .ref e5])), (e4, .inl (cI, 400, .inl (aN tp))), (e2, .inl (cI, 672, .inl (aN rd)))]) hD hS hA [4, 5, 2] rfl
          refine zc_Sv (va_runV (As := [.int (nI (nmA tp at9 3 3 0 0)), .ref e2, .int (nI (42 * k))]) (rest := []) ⟨hx, hb, hml, hown, hw⟩ (c_takeLetters_no l dC dI m0 n0 n1 n2 cd dt e0 e1 rt e2 e3 e4 sz9 (at9 + (3 + 1) / 2) fl pl wr e5 cI cB e2 672 rd tp (nmA tp at9 3 3 0 0) (42 * k) k2 p2 (by omega) (by omega) htp (by omega) (by omega) (by omega) (by omega) hfl hv H.size) (cwV 3 hw (gV w_ml_M_119 w_im_M_takeLetters w_se_M_takeLetters w_in_M w_co_M_takeLetters) rfl rfl rfl (by decide +kernel) ⟨Nat.le_of_ble_eq_true rfl, Nat.le_of_ble_eq_true rfl⟩) (zM_V hG hS hFc hPc hDc hK 0 rfl rfl) rfl rfl hl.1 rfl (lv_room (Nat.le_of_ble_eq_true rfl)) dM_takeField_176 ⟨Nat.le_of_ble_eq_true rfl, Nat.le_of_ble_eq_true rfl⟩) hS hFc (fun u_176 H locs h_176 hP1 hD1 hk1 hS => ?_)
          obtain ⟨a9_176, f9_176⟩ := u_176
          obtain ⟨hP, hD⟩ := va_join (wr := [(n1, .inl (cI, 16, .inl (aN fMM))), (n2, .inl (cI, 16, .inl (aN fFO))), (e3, .inl (cI, 16, .inl (aP (nup rs k ((nmA tp at9 3 3 0 0) + 1))))), (e5, .inl (cI, 4, .inl (aN (dgC tp at9 3 0 3 0 fw))))]) (w1 := [(m0, .inr (4, [.ref n0, .ref n1, .ref n2, .int (nI cd), .int (nI dt), .ref e0, .ref e1, .int (nI rt), .ref e2, .ref e3, .ref e4, .int (nI sz9), .int (nI a9_176), .int (nI k2), .int (nI p2), .int (nI wr), .ref e5])), (e4, .inl (cI, 400, .inl (aN tp))), (e2, .inl (cI, 672, .inl (aN f9_176)))]) hP hD [4, 5, 2] [0, 1, 3, 6] rfl rfl (by decide) (by decide) hk1 hFc hP1 hD1
          have hP : va_P (dC, dI) vwCl [(n1, .inl (cI, 16, .inl (aN fMM))), (n2, .inl (cI, 16, .inl (aN fFO))), (e3, .inl (cI, 16, .inl (aP (nup rs k ((nmA tp at9 3 3 0 0) + 1))))), (e5, .inl (cI, 4, .inl (aN (dgC tp at9 3 0 3 0 fw)))), (m0, .inr (4, [.ref n0, .ref n1, .ref n2, .int (nI cd), .int (nI dt), .ref e0, .ref e1, .int (nI rt), .ref e2, .ref e3, .ref e4, .int (nI sz9), .int (nI a9_176), .int (nI k2), .int (nI p2), .int (nI wr), .ref e5])), (e4, .inl (cI, 400, .inl (aN tp))), (e2, .inl (cI, 672, .inl (aN f9_176)))] H := hP
          have hD : va_D A [(n1, .inl (cI, 16, .inl (aN fMM))), (n2, .inl (cI, 16, .inl (aN fFO))), (e3, .inl (cI, 16, .inl (aP (nup rs k ((nmA tp at9 3 3 0 0) + 1))))), (e5, .inl (cI, 4, .inl (aN (dgC tp at9 3 0 3 0 fw)))), (m0, .inr (4, [.ref n0, .ref n1, .ref n2, .int (nI cd), .int (nI dt), .ref e0, .ref e1, .int (nI rt), .ref e2, .ref e3, .ref e4, .int (nI sz9), .int (nI a9_176), .int (nI k2), .int (nI p2), .int (nI wr), .ref e5])), (e4, .inl (cI, 400, .inl (aN tp))), (e2, .inl (cI, 672, .inl (aN f9_176)))] := hD
          subst hAe
          subst hQ
          exact W.vret hx hb hr (fun t ht hW => ⟨⟨(a9_176, nup rs k ((nmA tp at9 3 3 0 0) + 1), f9_176, dgC tp at9 3 0 3 0 fw), rfl, trivial, by rw [ht]; exact hP.sub [4, 0, 1, 6, 2, 5, 3] rfl, hD.sub [4, 0, 1, 6, 2, 5, 3] (by decide) rfl⟩, hS.F ht⟩) hS.2.2 dM_takeField_179
        · unfold valF at hv
          rw [if_pos (ho2.mp c_147)] at hv
          refine lv_aload_n hx hb dM_takeField_150 rfl (lv_at hl 3 rfl) ?_
          refine lv_iload_n hx hb dM_takeField_151 rfl (lv_at hl 0 rfl) ?_
          refine lv_aload_n hx hb dM_takeField_152 rfl (lv_at hl 3 rfl) ?_
          refine va_get (D := (dC, dI)) (ci := 4) (v := .ref e2) (C := RM) (T := TM) (N := 17) hx hb hw inM hown hK hP 4 rfl rfl 8 (by decide) (hw _ w_fl_M_29) (fun _ h9 => h9) rfl dM_takeField_153 ?_
          refine lv_bipush (v := nI 42) hx hb dM_takeField_156 (by decide) ?_
          refine lv_iload_n hx hb dM_takeField_158 rfl (lv_at hl 4 rfl) ?_
          refine zi_mul hx hb dM_takeField_159 ?_
          have hPc := hP.sub (ws' := [(m0, .inr (4, [.ref n0, .ref n1, .ref n2, .int (nI cd), .int (nI dt), .ref e0, .ref e1, .int (nI rt), .ref e2, .ref e3, .ref e4, .int (nI sz9), .int (nI (at9 + (3 + 1) / 2)), .int (nI fl), .int pl, .int (nI wr), .ref e5])), (e4, .inl (cI, 400, .inl (aN tp))), (e2, .inl (cI, 672, .inl (aN rd)))]) [4, 5, 2] rfl
          have hDc := hD.sub (ws' := [(m0, .inr (4, [.ref n0, .ref n1, .ref n2, .int (nI cd), .int (nI dt), .ref e0, .ref e1, .int (nI rt), .ref e2, .ref e3, .ref e4, .int (nI sz9), .int (nI (at9 + (3 + 1) / 2)), .int (nI fl), .int pl, .int (nI wr), .ref e5])), (e4, .inl (cI, 400, .inl (aN tp))), (e2, .inl (cI, 672, .inl (aN rd)))]) [4, 5, 2] (by decide) rfl
          have hFc := va_free (wc := [(m0, .inr (4, [.ref n0, .ref n1, .ref n2, .int (nI cd), .int (nI dt), .ref e0, .ref e1, .int (nI rt), .ref e2, .ref e3, .ref e4, .int (nI sz9), .int (nI (at9 + (3 + 1) / 2)), .int (nI fl), .int pl, .int (nI wr), .ref e5])), (e4, .inl (cI, 400, .inl (aN tp))), (e2, .inl (cI, 672, .inl (aN rd)))]) hD hS hA [4, 5, 2] rfl
          refine zc_Sv (va_runV (As := [.int (nI (nmA tp at9 3 3 0 0)), .ref e2, .int (nI (42 * k))]) (rest := []) ⟨hx, hb, hml, hown, hw⟩ (c_takeDigits_no l dC dI m0 n0 n1 n2 cd dt e0 e1 rt e2 e3 e4 sz9 (at9 + (3 + 1) / 2) fl pl wr e5 cI cB e2 672 rd tp (nmA tp at9 3 3 0 0) (42 * k) k2 p2 (by omega) (by omega) htp (by omega) (by omega) (by omega) (by omega) hfl hv H.size) (cwV 3 hw (gV w_ml_M_115 w_im_M_takeDigits w_se_M_takeDigits w_in_M w_co_M_takeDigits) rfl rfl rfl (by decide +kernel) ⟨Nat.le_of_ble_eq_true rfl, Nat.le_of_ble_eq_true rfl⟩) (zM_V hG hS hFc hPc hDc hK 0 rfl rfl) rfl rfl hl.1 rfl (lv_room (Nat.le_of_ble_eq_true rfl)) dM_takeField_160 ⟨Nat.le_of_ble_eq_true rfl, Nat.le_of_ble_eq_true rfl⟩) hS hFc (fun u_160 H locs h_160 hP1 hD1 hk1 hS => ?_)
          obtain ⟨a9_160, f9_160⟩ := u_160
          obtain ⟨hP, hD⟩ := va_join (wr := [(n1, .inl (cI, 16, .inl (aN fMM))), (n2, .inl (cI, 16, .inl (aN fFO))), (e3, .inl (cI, 16, .inl (aP (nup rs k ((nmA tp at9 3 3 0 0) + 1))))), (e5, .inl (cI, 4, .inl (aN (dgC tp at9 3 0 3 0 fw))))]) (w1 := [(m0, .inr (4, [.ref n0, .ref n1, .ref n2, .int (nI cd), .int (nI dt), .ref e0, .ref e1, .int (nI rt), .ref e2, .ref e3, .ref e4, .int (nI sz9), .int (nI a9_160), .int (nI k2), .int (nI p2), .int (nI wr), .ref e5])), (e4, .inl (cI, 400, .inl (aN tp))), (e2, .inl (cI, 672, .inl (aN f9_160)))]) hP hD [4, 5, 2] [0, 1, 3, 6] rfl rfl (by decide) (by decide) hk1 hFc hP1 hD1
          have hP : va_P (dC, dI) vwCl [(n1, .inl (cI, 16, .inl (aN fMM))), (n2, .inl (cI, 16, .inl (aN fFO))), (e3, .inl (cI, 16, .inl (aP (nup rs k ((nmA tp at9 3 3 0 0) + 1))))), (e5, .inl (cI, 4, .inl (aN (dgC tp at9 3 0 3 0 fw)))), (m0, .inr (4, [.ref n0, .ref n1, .ref n2, .int (nI cd), .int (nI dt), .ref e0, .ref e1, .int (nI rt), .ref e2, .ref e3, .ref e4, .int (nI sz9), .int (nI a9_160), .int (nI k2), .int (nI p2), .int (nI wr), .ref e5])), (e4, .inl (cI, 400, .inl (aN tp))), (e2, .inl (cI, 672, .inl (aN f9_160)))] H := hP
          have hD : va_D A [(n1, .inl (cI, 16, .inl (aN fMM))), (n2, .inl (cI, 16, .inl (aN fFO))), (e3, .inl (cI, 16, .inl (aP (nup rs k ((nmA tp at9 3 3 0 0) + 1))))), (e5, .inl (cI, 4, .inl (aN (dgC tp at9 3 0 3 0 fw)))), (m0, .inr (4, [.ref n0, .ref n1, .ref n2, .int (nI cd), .int (nI dt), .ref e0, .ref e1, .int (nI rt), .ref e2, .ref e3, .ref e4, .int (nI sz9), .int (nI a9_160), .int (nI k2), .int (nI p2), .int (nI wr), .ref e5])), (e4, .inl (cI, 400, .inl (aN tp))), (e2, .inl (cI, 672, .inl (aN f9_160)))] := hD
          refine lv_goto (tgt := 179) hx hb dM_takeField_163 (by decide) ?_
          subst hAe
          subst hQ
          exact W.vret hx hb hr (fun t ht hW => ⟨⟨(a9_160, nup rs k ((nmA tp at9 3 3 0 0) + 1), f9_160, dgC tp at9 3 0 3 0 fw), rfl, trivial, by rw [ht]; exact hP.sub [4, 0, 1, 6, 2, 5, 3] rfl, hD.sub [4, 0, 1, 6, 2, 5, 3] (by decide) rfl⟩, hS.F ht⟩) hS.2.2 dM_takeField_179
    · have hcw : fCD k = 2 := by omega
      have hnb := nmA_b htp (nx := at9) (ct := fCD k) (by omega)
      rcases fieldF_no hd (by omega) with hd9 | ⟨hd9, hct, rfl, rfl⟩ | ⟨hd9, hct1, hct2, hv⟩
      · rw [hcw] at hd9 hnb
        have hk2 := dgF_k hd9
        refine lv_iconst (v := nI 2) hx hb dM_takeField_34 (by decide) ?_
        refine lv_goto (tgt := 39) hx hb dM_takeField_35 (by decide) ?_
        refine lv_istore (lv' := [(4, .int (nI 2)), (3, .int (nI at9)), (2, .int (nI (fMM k))), (0, .ref m0), (1, .int (nI k))]) hx hb dM_takeField_39 hl (by decide) rfl (fun ls hl => ?_)
        refine lv_aload_n hx hb dM_takeField_41 rfl (lv_at hl 3 rfl) ?_
        refine lv_iload hx hb dM_takeField_42 (lv_at hl 0 rfl) ?_
        refine lv_aload_n hx hb dM_takeField_44 rfl (lv_at hl 3 rfl) ?_
        refine va_get (D := (dC, dI)) (ci := 4) (v := .ref e5) (C := RM) (T := TM) (N := 17) hx hb hw inM hown hK hP 0 rfl rfl 16 (by decide) (hw _ w_fl_M_38) (fun _ h9 => h9) rfl dM_takeField_45 ?_
        refine lv_iconst (v := nI 0) hx hb dM_takeField_48 (by decide) ?_
        have hPc := hP.sub (ws' := [(m0, .inr (4, [.ref n0, .ref n1, .ref n2, .int (nI cd), .int (nI dt), .ref e0, .ref e1, .int (nI rt), .ref e2, .ref e3, .ref e4, .int (nI sz9), .int (nI at9), .int (nI fl), .int pl, .int (nI wr), .ref e5])), (e4, .inl (cI, 400, .inl (aN tp))), (e5, .inl (cI, 4, .inl (aN fw)))]) [0, 5, 6] rfl
        have hDc := hD.sub (ws' := [(m0, .inr (4, [.ref n0, .ref n1, .ref n2, .int (nI cd), .int (nI dt), .ref e0, .ref e1, .int (nI rt), .ref e2, .ref e3, .ref e4, .int (nI sz9), .int (nI at9), .int (nI fl), .int pl, .int (nI wr), .ref e5])), (e4, .inl (cI, 400, .inl (aN tp))), (e5, .inl (cI, 4, .inl (aN fw)))]) [0, 5, 6] (by decide) rfl
        have hFc := va_free (wc := [(m0, .inr (4, [.ref n0, .ref n1, .ref n2, .int (nI cd), .int (nI dt), .ref e0, .ref e1, .int (nI rt), .ref e2, .ref e3, .ref e4, .int (nI sz9), .int (nI at9), .int (nI fl), .int pl, .int (nI wr), .ref e5])), (e4, .inl (cI, 400, .inl (aN tp))), (e5, .inl (cI, 4, .inl (aN fw)))]) hD hS hA [0, 5, 6] rfl
        refine zc_Sv (va_runV (As := [.int (nI 2), .ref e5, .int (nI 0)]) (rest := []) ⟨hx, hb, hml, hown, hw⟩ (c_takeDigits_no l dC dI m0 n0 n1 n2 cd dt e0 e1 rt e2 e3 e4 sz9 at9 fl pl wr e5 cI cB e5 4 fw tp 2 0 k2 p2 (by omega) (by omega) htp (by omega) (by omega) (by omega) (by omega) hfl hd9 s.heap.size) (cwV 3 hw (gV w_ml_M_115 w_im_M_takeDigits w_se_M_takeDigits w_in_M w_co_M_takeDigits) rfl rfl rfl (by decide +kernel) ⟨Nat.le_of_ble_eq_true rfl, Nat.le_of_ble_eq_true rfl⟩) (zM_V hG hS hFc hPc hDc hK 0 rfl rfl) rfl rfl hl.1 rfl (lv_room (Nat.le_of_ble_eq_true rfl)) dM_takeField_49 ⟨Nat.le_of_ble_eq_true rfl, Nat.le_of_ble_eq_true rfl⟩) hS hFc (fun u_49 H locs h_49 hP1 hD1 hk1 hS => ?_)
        obtain ⟨a9_49, f9_49⟩ := u_49
        obtain ⟨hP, hD⟩ := va_join (wr := [(n1, .inl (cI, 16, .inl (aN fMM))), (n2, .inl (cI, 16, .inl (aN fFO))), (e2, .inl (cI, 672, .inl (aN rd))), (e3, .inl (cI, 16, .inl (aP rs)))]) (w1 := [(m0, .inr (4, [.ref n0, .ref n1, .ref n2, .int (nI cd), .int (nI dt), .ref e0, .ref e1, .int (nI rt), .ref e2, .ref e3, .ref e4, .int (nI sz9), .int (nI a9_49), .int (nI k2), .int (nI p2), .int (nI wr), .ref e5])), (e4, .inl (cI, 400, .inl (aN tp))), (e5, .inl (cI, 4, .inl (aN f9_49)))]) hP hD [0, 5, 6] [1, 2, 3, 4] rfl rfl (by decide) (by decide) hk1 hFc hP1 hD1
        have hP : va_P (dC, dI) vwCl [(n1, .inl (cI, 16, .inl (aN fMM))), (n2, .inl (cI, 16, .inl (aN fFO))), (e2, .inl (cI, 672, .inl (aN rd))), (e3, .inl (cI, 16, .inl (aP rs))), (m0, .inr (4, [.ref n0, .ref n1, .ref n2, .int (nI cd), .int (nI dt), .ref e0, .ref e1, .int (nI rt), .ref e2, .ref e3, .ref e4, .int (nI sz9), .int (nI a9_49), .int (nI k2), .int (nI p2), .int (nI wr), .ref e5])), (e4, .inl (cI, 400, .inl (aN tp))), (e5, .inl (cI, 4, .inl (aN f9_49)))] H := hP
        have hD : va_D A [(n1, .inl (cI, 16, .inl (aN fMM))), (n2, .inl (cI, 16, .inl (aN fFO))), (e2, .inl (cI, 672, .inl (aN rd))), (e3, .inl (cI, 16, .inl (aP rs))), (m0, .inr (4, [.ref n0, .ref n1, .ref n2, .int (nI cd), .int (nI dt), .ref e0, .ref e1, .int (nI rt), .ref e2, .ref e3, .ref e4, .int (nI sz9), .int (nI a9_49), .int (nI k2), .int (nI p2), .int (nI wr), .ref e5])), (e4, .inl (cI, 400, .inl (aN tp))), (e5, .inl (cI, 4, .inl (aN f9_49)))] := hD
        refine lv_aload_n hx hb dM_takeField_52 rfl (lv_at hl 3 rfl) ?_
        refine va_get (D := (dC, dI)) (ci := 4) (v := .int (nI k2)) (C := RM) (T := TM) (N := 17) hx hb hw inM hown hK hP 4 rfl rfl 13 (by decide) (hw _ w_fl_M_102) (fun _ h9 => h9) rfl dM_takeField_53 ?_
        refine zi_le0 (tgt := 60) hx hb (by omega) dM_takeField_56 (by decide) (fun q => False.elim ((by omega))) (fun c_56 => ?_)
        subst hAe
        subst hQ
        exact W.vret hx hb hr (fun t ht hW => ⟨⟨(a9_49, rs, rd, f9_49), rfl, trivial, by rw [ht]; exact hP.sub [4, 0, 1, 2, 3, 5, 6] rfl, hD.sub [4, 0, 1, 2, 3, 5, 6] (by decide) rfl⟩, hS.F ht⟩) hS.2.2 dM_takeField_59
      · have hs9 := dgF_fit hd9
        rw [hcw] at hd9 hs9 hnb hct
        refine lv_iconst (v := nI 2) hx hb dM_takeField_34 (by decide) ?_
        refine lv_goto (tgt := 39) hx hb dM_takeField_35 (by decide) ?_
        refine lv_istore (lv' := [(4, .int (nI 2)), (3, .int (nI at9)), (2, .int (nI (fMM k))), (0, .ref m0), (1, .int (nI k))]) hx hb dM_takeField_39 hl (by decide) rfl (fun ls hl => ?_)
        refine lv_aload_n hx hb dM_takeField_41 rfl (lv_at hl 3 rfl) ?_
        refine lv_iload hx hb dM_takeField_42 (lv_at hl 0 rfl) ?_
        refine lv_aload_n hx hb dM_takeField_44 rfl (lv_at hl 3 rfl) ?_
        refine va_get (D := (dC, dI)) (ci := 4) (v := .ref e5) (C := RM) (T := TM) (N := 17) hx hb hw inM hown hK hP 0 rfl rfl 16 (by decide) (hw _ w_fl_M_38) (fun _ h9 => h9) rfl dM_takeField_45 ?_
        refine lv_iconst (v := nI 0) hx hb dM_takeField_48 (by decide) ?_
        have hPc := hP.sub (ws' := [(m0, .inr (4, [.ref n0, .ref n1, .ref n2, .int (nI cd), .int (nI dt), .ref e0, .ref e1, .int (nI rt), .ref e2, .ref e3, .ref e4, .int (nI sz9), .int (nI at9), .int (nI fl), .int pl, .int (nI wr), .ref e5])), (e4, .inl (cI, 400, .inl (aN tp))), (e5, .inl (cI, 4, .inl (aN fw)))]) [0, 5, 6] rfl
        have hDc := hD.sub (ws' := [(m0, .inr (4, [.ref n0, .ref n1, .ref n2, .int (nI cd), .int (nI dt), .ref e0, .ref e1, .int (nI rt), .ref e2, .ref e3, .ref e4, .int (nI sz9), .int (nI at9), .int (nI fl), .int pl, .int (nI wr), .ref e5])), (e4, .inl (cI, 400, .inl (aN tp))), (e5, .inl (cI, 4, .inl (aN fw)))]) [0, 5, 6] (by decide) rfl
        have hFc := va_free (wc := [(m0, .inr (4, [.ref n0, .ref n1, .ref n2, .int (nI cd), .int (nI dt), .ref e0, .ref e1, .int (nI rt), .ref e2, .ref e3, .ref e4, .int (nI sz9), .int (nI at9), .int (nI fl), .int pl, .int (nI wr), .ref e5])), (e4, .inl (cI, 400, .inl (aN tp))), (e5, .inl (cI, 4, .inl (aN fw)))]) hD hS hA [0, 5, 6] rfl
        refine zc_Mv (va_runV (As := [.int (nI 2), .ref e5, .int (nI 0)]) (rest := []) ⟨hx, hb, hml, hown, hw⟩ (c_takeDigits_ok l dC dI m0 n0 n1 n2 cd dt e0 e1 rt e2 e3 e4 sz9 at9 fl pl wr e5 cI cB e5 4 fw tp 2 0 (by omega) (by omega) htp (by omega) (by omega) (by omega) (by omega) hfl hd9 s.heap.size) (cwV 3 hw (gV w_ml_M_115 w_im_M_takeDigits w_se_M_takeDigits w_in_M w_co_M_takeDigits) rfl rfl rfl (by decide +kernel) ⟨Nat.le_of_ble_eq_true rfl, Nat.le_of_ble_eq_true rfl⟩) (zM_V hG hS hFc hPc hDc hK 0 rfl rfl) rfl rfl hl.1 rfl (lv_room (Nat.le_of_ble_eq_true rfl)) dM_takeField_49 ⟨Nat.le_of_ble_eq_true rfl, Nat.le_of_ble_eq_true rfl⟩) hS hFc (fun H locs h_49 hP1 hD1 hk1 hS => ?_)
        obtain ⟨hP, hD⟩ := va_join (wr := [(n1, .inl (cI, 16, .inl (aN fMM))), (n2, .inl (cI, 16, .inl (aN fFO))), (e2, .inl (cI, 672, .inl (aN rd))), (e3, .inl (cI, 16, .inl (aP rs)))]) (w1 := [(m0, .inr (4, [.ref n0, .ref n1, .ref n2, .int (nI cd), .int (nI dt), .ref e0, .ref e1, .int (nI rt), .ref e2, .ref e3, .ref e4, .int (nI sz9), .int (nI (at9 + (2 + 1) / 2)), .int (nI fl), .int pl, .int (nI wr), .ref e5])), (e4, .inl (cI, 400, .inl (aN tp))), (e5, .inl (cI, 4, .inl (aN (dgC tp at9 2 0 2 0 fw))))]) hP hD [0, 5, 6] [1, 2, 3, 4] rfl rfl (by decide) (by decide) hk1 hFc hP1 hD1
        have hP : va_P (dC, dI) vwCl [(n1, .inl (cI, 16, .inl (aN fMM))), (n2, .inl (cI, 16, .inl (aN fFO))), (e2, .inl (cI, 672, .inl (aN rd))), (e3, .inl (cI, 16, .inl (aP rs))), (m0, .inr (4, [.ref n0, .ref n1, .ref n2, .int (nI cd), .int (nI dt), .ref e0, .ref e1, .int (nI rt), .ref e2, .ref e3, .ref e4, .int (nI sz9), .int (nI (at9 + (2 + 1) / 2)), .int (nI fl), .int pl, .int (nI wr), .ref e5])), (e4, .inl (cI, 400, .inl (aN tp))), (e5, .inl (cI, 4, .inl (aN (dgC tp at9 2 0 2 0 fw))))] H := hP
        have hD : va_D A [(n1, .inl (cI, 16, .inl (aN fMM))), (n2, .inl (cI, 16, .inl (aN fFO))), (e2, .inl (cI, 672, .inl (aN rd))), (e3, .inl (cI, 16, .inl (aP rs))), (m0, .inr (4, [.ref n0, .ref n1, .ref n2, .int (nI cd), .int (nI dt), .ref e0, .ref e1, .int (nI rt), .ref e2, .ref e3, .ref e4, .int (nI sz9), .int (nI (at9 + (2 + 1) / 2)), .int (nI fl), .int pl, .int (nI wr), .ref e5])), (e4, .inl (cI, 400, .inl (aN tp))), (e5, .inl (cI, 4, .inl (aN (dgC tp at9 2 0 2 0 fw))))] := hD
        refine lv_aload_n hx hb dM_takeField_52 rfl (lv_at hl 3 rfl) ?_
        refine va_get (D := (dC, dI)) (ci := 4) (v := .int (nI fl)) (C := RM) (T := TM) (N := 17) hx hb hw inM hown hK hP 4 rfl rfl 13 (by decide) (hw _ w_fl_M_102) (fun _ h9 => h9) rfl dM_takeField_53 ?_
        refine zi_le0 (tgt := 60) hx hb (by omega) dM_takeField_56 (by decide) (fun c_56 => ?_) (fun q => False.elim ((by omega)))
        refine lv_iload hx hb dM_takeField_60 (lv_at hl 0 rfl) ?_
        refine lv_iconst (v := nI 2) hx hb dM_takeField_62 (by decide) ?_
        refine lv_icmp_ne (tgt := 85) hx hb dM_takeField_63 (by decide) (fun q => False.elim (absurd q (by decide))) (fun c_63 => ?_)
        refine lv_bipush (v := nI 10) hx hb dM_takeField_66 (by decide) ?_
        refine lv_aload_n hx hb dM_takeField_68 rfl (lv_at hl 3 rfl) ?_
        refine va_get (D := (dC, dI)) (ci := 4) (v := .ref e5) (C := RM) (T := TM) (N := 17) hx hb hw inM hown hK hP 4 rfl rfl 16 (by decide) (hw _ w_fl_M_38) (fun _ h9 => h9) rfl dM_takeField_69 ?_
        refine lv_iconst (v := nI 0) hx hb dM_takeField_72 (by decide) ?_
        refine za_ild hx hb hK hP 6 0 rfl rfl (by omega) (by decide) dM_takeField_73 ?_
        refine zi_mul hx hb dM_takeField_74 ?_
        refine lv_aload_n hx hb dM_takeField_75 rfl (lv_at hl 3 rfl) ?_
        refine va_get (D := (dC, dI)) (ci := 4) (v := .ref e5) (C := RM) (T := TM) (N := 17) hx hb hw inM hown hK hP 4 rfl rfl 16 (by decide) (hw _ w_fl_M_38) (fun _ h9 => h9) rfl dM_takeField_76 ?_
        refine lv_iconst (v := nI 1) hx hb dM_takeField_79 (by decide) ?_
        refine za_ild hx hb hK hP 6 0 rfl rfl (by omega) (by decide) dM_takeField_80 ?_
        refine zi_add hx hb dM_takeField_81 ?_
        refine lv_goto (tgt := 111) hx hb dM_takeField_82 (by decide) ?_
        refine zi_v (b := nI (nmA tp at9 2 2 0 0)) (by rw [nm_2]) ?_
        refine lv_istore_n (lv' := [(2, .int (nI (nmA tp at9 2 2 0 0))), (4, .int (nI 2)), (3, .int (nI at9)), (0, .ref m0), (1, .int (nI k))]) hx hb dM_takeField_111 rfl hl (by decide) rfl (fun ls hl => ?_)
        refine lv_iload_n hx hb dM_takeField_112 rfl (lv_at hl 0 rfl) ?_
        refine zi_eq0 (tgt := 126) hx hb (by omega) dM_takeField_113 (by decide) (fun c_113 => ?_) (fun c_113 => ?_)
        · refine lv_aload_n hx hb dM_takeField_126 rfl (lv_at hl 3 rfl) ?_
          refine lv_iconst (v := nI 5) hx hb dM_takeField_127 (by decide) ?_
          refine lv_iload_n hx hb dM_takeField_128 rfl (lv_at hl 2 rfl) ?_
          have hPc := hP.sub (ws' := [(m0, .inr (4, [.ref n0, .ref n1, .ref n2, .int (nI cd), .int (nI dt), .ref e0, .ref e1, .int (nI rt), .ref e2, .ref e3, .ref e4, .int (nI sz9), .int (nI (at9 + (2 + 1) / 2)), .int (nI fl), .int pl, .int (nI wr), .ref e5]))]) [4] rfl
          have hDc := hD.sub (ws' := [(m0, .inr (4, [.ref n0, .ref n1, .ref n2, .int (nI cd), .int (nI dt), .ref e0, .ref e1, .int (nI rt), .ref e2, .ref e3, .ref e4, .int (nI sz9), .int (nI (at9 + (2 + 1) / 2)), .int (nI fl), .int pl, .int (nI wr), .ref e5]))]) [4] (by decide) rfl
          have hFc := va_free (wc := [(m0, .inr (4, [.ref n0, .ref n1, .ref n2, .int (nI cd), .int (nI dt), .ref e0, .ref e1, .int (nI rt), .ref e2, .ref e3, .ref e4, .int (nI sz9), .int (nI (at9 + (2 + 1) / 2)), .int (nI fl), .int pl, .int (nI wr), .ref e5]))]) hD hS hA [4] rfl
          refine zc_Mv (va_runV (As := [.int (nI 5), .int (nI at9)]) (rest := []) ⟨hx, hb, hml, hown, hw⟩ (c_fails_1 l dC dI m0 n0 n1 n2 cd dt e0 e1 rt e2 e3 e4 sz9 (at9 + (2 + 1) / 2) fl pl wr e5 cI cB 5 (nI at9) (by omega) H.size) (cwV 2 hw (gV w_ml_M_111 w_im_M_fails w_se_M_fails w_in_M w_co_M_fails) rfl rfl rfl (by decide +kernel) ⟨Nat.le_of_ble_eq_true rfl, Nat.le_of_ble_eq_true rfl⟩) (zM_V hG hS hFc hPc hDc hK 0 rfl rfl) rfl rfl hl.1 rfl (lv_room (Nat.le_of_ble_eq_true rfl)) dM_takeField_129 ⟨Nat.le_of_ble_eq_true rfl, Nat.le_of_ble_eq_true rfl⟩) hS hFc (fun H locs h_129 hP1 hD1 hk1 hS => ?_)
          obtain ⟨hP, hD⟩ := va_join (wr := [(n1, .inl (cI, 16, .inl (aN fMM))), (n2, .inl (cI, 16, .inl (aN fFO))), (e2, .inl (cI, 672, .inl (aN rd))), (e3, .inl (cI, 16, .inl (aP rs))), (e4, .inl (cI, 400, .inl (aN tp))), (e5, .inl (cI, 4, .inl (aN (dgC tp at9 2 0 2 0 fw))))]) (w1 := [(m0, .inr (4, [.ref n0, .ref n1, .ref n2, .int (nI cd), .int (nI dt), .ref e0, .ref e1, .int (nI rt), .ref e2, .ref e3, .ref e4, .int (nI sz9), .int (nI (at9 + (2 + 1) / 2)), .int (nI 5), .int (nI at9), .int (nI wr), .ref e5]))]) hP hD [4] [0, 1, 2, 3, 5, 6] rfl rfl (by decide) (by decide) hk1 hFc hP1 hD1
          have hP : va_P (dC, dI) vwCl [(n1, .inl (cI, 16, .inl (aN fMM))), (n2, .inl (cI, 16, .inl (aN fFO))), (e2, .inl (cI, 672, .inl (aN rd))), (e3, .inl (cI, 16, .inl (aP rs))), (e4, .inl (cI, 400, .inl (aN tp))), (e5, .inl (cI, 4, .inl (aN (dgC tp at9 2 0 2 0 fw)))), (m0, .inr (4, [.ref n0, .ref n1, .ref n2, .int (nI cd), .int (nI dt), .ref e0, .ref e1, .int (nI rt), .ref e2, .ref e3, .ref e4, .int (nI sz9), .int (nI (at9 + (2 + 1) / 2)), .int (nI 5), .int (nI at9), .int (nI wr), .ref e5]))] H := hP
          have hD : va_D A [(n1, .inl (cI, 16, .inl (aN fMM))), (n2, .inl (cI, 16, .inl (aN fFO))), (e2, .inl (cI, 672, .inl (aN rd))), (e3, .inl (cI, 16, .inl (aP rs))), (e4, .inl (cI, 400, .inl (aN tp))), (e5, .inl (cI, 4, .inl (aN (dgC tp at9 2 0 2 0 fw)))), (m0, .inr (4, [.ref n0, .ref n1, .ref n2, .int (nI cd), .int (nI dt), .ref e0, .ref e1, .int (nI rt), .ref e2, .ref e3, .ref e4, .int (nI sz9), .int (nI (at9 + (2 + 1) / 2)), .int (nI 5), .int (nI at9), .int (nI wr), .ref e5]))] := hD
          subst hAe
          subst hQ
          exact W.vret hx hb hr (fun t ht hW => ⟨⟨((at9 + (2 + 1) / 2), rs, rd, dgC tp at9 2 0 2 0 fw), rfl, trivial, by rw [ht]; exact hP.sub [6, 0, 1, 2, 3, 4, 5] rfl, hD.sub [6, 0, 1, 2, 3, 4, 5] (by decide) rfl⟩, hS.F ht⟩) hS.2.2 dM_takeField_132
        · refine lv_iload_n hx hb dM_takeField_116 rfl (lv_at hl 0 rfl) ?_
          refine lv_aload_n hx hb dM_takeField_117 rfl (lv_at hl 3 rfl) ?_
          refine va_get (D := (dC, dI)) (ci := 4) (v := .ref n1) (C := RM) (T := TM) (N := 17) hx hb hw inM hown hK hP 4 rfl rfl 1 (by decide) (hw _ w_fl_M_13) (fun _ h9 => h9) rfl dM_takeField_118 ?_
          refine lv_iload_n hx hb dM_takeField_121 rfl (lv_at hl 4 rfl) ?_
          refine za_ild hx hb hK hP 0 0 rfl rfl (by omega) (by decide) dM_takeField_122 ?_
          refine zi_le (tgt := 133) hx hb (by omega) (by omega) dM_takeField_123 (by decide) (fun q => False.elim ((by omega))) (fun c_123 => ?_)
          refine lv_aload_n hx hb dM_takeField_126 rfl (lv_at hl 3 rfl) ?_
          refine lv_iconst (v := nI 5) hx hb dM_takeField_127 (by decide) ?_
          refine lv_iload_n hx hb dM_takeField_128 rfl (lv_at hl 2 rfl) ?_
          have hPc := hP.sub (ws' := [(m0, .inr (4, [.ref n0, .ref n1, .ref n2, .int (nI cd), .int (nI dt), .ref e0, .ref e1, .int (nI rt), .ref e2, .ref e3, .ref e4, .int (nI sz9), .int (nI (at9 + (2 + 1) / 2)), .int (nI fl), .int pl, .int (nI wr), .ref e5]))]) [4] rfl
          have hDc := hD.sub (ws' := [(m0, .inr (4, [.ref n0, .ref n1, .ref n2, .int (nI cd), .int (nI dt), .ref e0, .ref e1, .int (nI rt), .ref e2, .ref e3, .ref e4, .int (nI sz9), .int (nI (at9 + (2 + 1) / 2)), .int (nI fl), .int pl, .int (nI wr), .ref e5]))]) [4] (by decide) rfl
          have hFc := va_free (wc := [(m0, .inr (4, [.ref n0, .ref n1, .ref n2, .int (nI cd), .int (nI dt), .ref e0, .ref e1, .int (nI rt), .ref e2, .ref e3, .ref e4, .int (nI sz9), .int (nI (at9 + (2 + 1) / 2)), .int (nI fl), .int pl, .int (nI wr), .ref e5]))]) hD hS hA [4] rfl
          refine zc_Mv (va_runV (As := [.int (nI 5), .int (nI at9)]) (rest := []) ⟨hx, hb, hml, hown, hw⟩ (c_fails_1 l dC dI m0 n0 n1 n2 cd dt e0 e1 rt e2 e3 e4 sz9 (at9 + (2 + 1) / 2) fl pl wr e5 cI cB 5 (nI at9) (by omega) H.size) (cwV 2 hw (gV w_ml_M_111 w_im_M_fails w_se_M_fails w_in_M w_co_M_fails) rfl rfl rfl (by decide +kernel) ⟨Nat.le_of_ble_eq_true rfl, Nat.le_of_ble_eq_true rfl⟩) (zM_V hG hS hFc hPc hDc hK 0 rfl rfl) rfl rfl hl.1 rfl (lv_room (Nat.le_of_ble_eq_true rfl)) dM_takeField_129 ⟨Nat.le_of_ble_eq_true rfl, Nat.le_of_ble_eq_true rfl⟩) hS hFc (fun H locs h_129 hP1 hD1 hk1 hS => ?_)
          obtain ⟨hP, hD⟩ := va_join (wr := [(n1, .inl (cI, 16, .inl (aN fMM))), (n2, .inl (cI, 16, .inl (aN fFO))), (e2, .inl (cI, 672, .inl (aN rd))), (e3, .inl (cI, 16, .inl (aP rs))), (e4, .inl (cI, 400, .inl (aN tp))), (e5, .inl (cI, 4, .inl (aN (dgC tp at9 2 0 2 0 fw))))]) (w1 := [(m0, .inr (4, [.ref n0, .ref n1, .ref n2, .int (nI cd), .int (nI dt), .ref e0, .ref e1, .int (nI rt), .ref e2, .ref e3, .ref e4, .int (nI sz9), .int (nI (at9 + (2 + 1) / 2)), .int (nI 5), .int (nI at9), .int (nI wr), .ref e5]))]) hP hD [4] [0, 1, 2, 3, 5, 6] rfl rfl (by decide) (by decide) hk1 hFc hP1 hD1
          have hP : va_P (dC, dI) vwCl [(n1, .inl (cI, 16, .inl (aN fMM))), (n2, .inl (cI, 16, .inl (aN fFO))), (e2, .inl (cI, 672, .inl (aN rd))), (e3, .inl (cI, 16, .inl (aP rs))), (e4, .inl (cI, 400, .inl (aN tp))), (e5, .inl (cI, 4, .inl (aN (dgC tp at9 2 0 2 0 fw)))), (m0, .inr (4, [.ref n0, .ref n1, .ref n2, .int (nI cd), .int (nI dt), .ref e0, .ref e1, .int (nI rt), .ref e2, .ref e3, .ref e4, .int (nI sz9), .int (nI (at9 + (2 + 1) / 2)), .int (nI 5), .int (nI at9), .int (nI wr), .ref e5]))] H := hP
          have hD : va_D A [(n1, .inl (cI, 16, .inl (aN fMM))), (n2, .inl (cI, 16, .inl (aN fFO))), (e2, .inl (cI, 672, .inl (aN rd))), (e3, .inl (cI, 16, .inl (aP rs))), (e4, .inl (cI, 400, .inl (aN tp))), (e5, .inl (cI, 4, .inl (aN (dgC tp at9 2 0 2 0 fw)))), (m0, .inr (4, [.ref n0, .ref n1, .ref n2, .int (nI cd), .int (nI dt), .ref e0, .ref e1, .int (nI rt), .ref e2, .ref e3, .ref e4, .int (nI sz9), .int (nI (at9 + (2 + 1) / 2)), .int (nI 5), .int (nI at9), .int (nI wr), .ref e5]))] := hD
          subst hAe
          subst hQ
          exact W.vret hx hb hr (fun t ht hW => ⟨⟨((at9 + (2 + 1) / 2), rs, rd, dgC tp at9 2 0 2 0 fw), rfl, trivial, by rw [ht]; exact hP.sub [6, 0, 1, 2, 3, 4, 5] rfl, hD.sub [6, 0, 1, 2, 3, 4, 5] (by decide) rfl⟩, hS.F ht⟩) hS.2.2 dM_takeField_132
      · have hs9 := dgF_fit hd9
        have hk2 := valF_k hv
        rw [hcw] at hd9 hs9 hnb hct1 hct2 hv
        refine lv_iconst (v := nI 2) hx hb dM_takeField_34 (by decide) ?_
        refine lv_goto (tgt := 39) hx hb dM_takeField_35 (by decide) ?_
        refine lv_istore (lv' := [(4, .int (nI 2)), (3, .int (nI at9)), (2, .int (nI (fMM k))), (0, .ref m0), (1, .int (nI k))]) hx hb dM_takeField_39 hl (by decide) rfl (fun ls hl => ?_)
        refine lv_aload_n hx hb dM_takeField_41 rfl (lv_at hl 3 rfl) ?_
        refine lv_iload hx hb dM_takeField_42 (lv_at hl 0 rfl) ?_
        refine lv_aload_n hx hb dM_takeField_44 rfl (lv_at hl 3 rfl) ?_
        refine va_get (D := (dC, dI)) (ci := 4) (v := .ref e5) (C := RM) (T := TM) (N := 17) hx hb hw inM hown hK hP 0 rfl rfl 16 (by decide) (hw _ w_fl_M_38) (fun _ h9 => h9) rfl dM_takeField_45 ?_
        refine lv_iconst (v := nI 0) hx hb dM_takeField_48 (by decide) ?_
        have hPc := hP.sub (ws' := [(m0, .inr (4, [.ref n0, .ref n1, .ref n2, .int (nI cd), .int (nI dt), .ref e0, .ref e1, .int (nI rt), .ref e2, .ref e3, .ref e4, .int (nI sz9), .int (nI at9), .int (nI fl), .int pl, .int (nI wr), .ref e5])), (e4, .inl (cI, 400, .inl (aN tp))), (e5, .inl (cI, 4, .inl (aN fw)))]) [0, 5, 6] rfl
        have hDc := hD.sub (ws' := [(m0, .inr (4, [.ref n0, .ref n1, .ref n2, .int (nI cd), .int (nI dt), .ref e0, .ref e1, .int (nI rt), .ref e2, .ref e3, .ref e4, .int (nI sz9), .int (nI at9), .int (nI fl), .int pl, .int (nI wr), .ref e5])), (e4, .inl (cI, 400, .inl (aN tp))), (e5, .inl (cI, 4, .inl (aN fw)))]) [0, 5, 6] (by decide) rfl
        have hFc := va_free (wc := [(m0, .inr (4, [.ref n0, .ref n1, .ref n2, .int (nI cd), .int (nI dt), .ref e0, .ref e1, .int (nI rt), .ref e2, .ref e3, .ref e4, .int (nI sz9), .int (nI at9), .int (nI fl), .int pl, .int (nI wr), .ref e5])), (e4, .inl (cI, 400, .inl (aN tp))), (e5, .inl (cI, 4, .inl (aN fw)))]) hD hS hA [0, 5, 6] rfl
        refine zc_Mv (va_runV (As := [.int (nI 2), .ref e5, .int (nI 0)]) (rest := []) ⟨hx, hb, hml, hown, hw⟩ (c_takeDigits_ok l dC dI m0 n0 n1 n2 cd dt e0 e1 rt e2 e3 e4 sz9 at9 fl pl wr e5 cI cB e5 4 fw tp 2 0 (by omega) (by omega) htp (by omega) (by omega) (by omega) (by omega) hfl hd9 s.heap.size) (cwV 3 hw (gV w_ml_M_115 w_im_M_takeDigits w_se_M_takeDigits w_in_M w_co_M_takeDigits) rfl rfl rfl (by decide +kernel) ⟨Nat.le_of_ble_eq_true rfl, Nat.le_of_ble_eq_true rfl⟩) (zM_V hG hS hFc hPc hDc hK 0 rfl rfl) rfl rfl hl.1 rfl (lv_room (Nat.le_of_ble_eq_true rfl)) dM_takeField_49 ⟨Nat.le_of_ble_eq_true rfl, Nat.le_of_ble_eq_true rfl⟩) hS hFc (fun H locs h_49 hP1 hD1 hk1 hS => ?_)
        obtain ⟨hP, hD⟩ := va_join (wr := [(n1, .inl (cI, 16, .inl (aN fMM))), (n2, .inl (cI, 16, .inl (aN fFO))), (e2, .inl (cI, 672, .inl (aN rd))), (e3, .inl (cI, 16, .inl (aP rs)))]) (w1 := [(m0, .inr (4, [.ref n0, .ref n1, .ref n2, .int (nI cd), .int (nI dt), .ref e0, .ref e1, .int (nI rt), .ref e2, .ref e3, .ref e4, .int (nI sz9), .int (nI (at9 + (2 + 1) / 2)), .int (nI fl), .int pl, .int (nI wr), .ref e5])), (e4, .inl (cI, 400, .inl (aN tp))), (e5, .inl (cI, 4, .inl (aN (dgC tp at9 2 0 2 0 fw))))]) hP hD [0, 5, 6] [1, 2, 3, 4] rfl rfl (by decide) (by decide) hk1 hFc hP1 hD1
        have hP : va_P (dC, dI) vwCl [(n1, .inl (cI, 16, .inl (aN fMM))), (n2, .inl (cI, 16, .inl (aN fFO))), (e2, .inl (cI, 672, .inl (aN rd))), (e3, .inl (cI, 16, .inl (aP rs))), (m0, .inr (4, [.ref n0, .ref n1, .ref n2, .int (nI cd), .int (nI dt), .ref e0, .ref e1, .int (nI rt), .ref e2, .ref e3, .ref e4, .int (nI sz9), .int (nI (at9 + (2 + 1) / 2)), .int (nI fl), .int pl, .int (nI wr), .ref e5])), (e4, .inl (cI, 400, .inl (aN tp))), (e5, .inl (cI, 4, .inl (aN (dgC tp at9 2 0 2 0 fw))))] H := hP
        have hD : va_D A [(n1, .inl (cI, 16, .inl (aN fMM))), (n2, .inl (cI, 16, .inl (aN fFO))), (e2, .inl (cI, 672, .inl (aN rd))), (e3, .inl (cI, 16, .inl (aP rs))), (m0, .inr (4, [.ref n0, .ref n1, .ref n2, .int (nI cd), .int (nI dt), .ref e0, .ref e1, .int (nI rt), .ref e2, .ref e3, .ref e4, .int (nI sz9), .int (nI (at9 + (2 + 1) / 2)), .int (nI fl), .int pl, .int (nI wr), .ref e5])), (e4, .inl (cI, 400, .inl (aN tp))), (e5, .inl (cI, 4, .inl (aN (dgC tp at9 2 0 2 0 fw))))] := hD
        refine lv_aload_n hx hb dM_takeField_52 rfl (lv_at hl 3 rfl) ?_
        refine va_get (D := (dC, dI)) (ci := 4) (v := .int (nI fl)) (C := RM) (T := TM) (N := 17) hx hb hw inM hown hK hP 4 rfl rfl 13 (by decide) (hw _ w_fl_M_102) (fun _ h9 => h9) rfl dM_takeField_53 ?_
        refine zi_le0 (tgt := 60) hx hb (by omega) dM_takeField_56 (by decide) (fun c_56 => ?_) (fun q => False.elim ((by omega)))
        refine lv_iload hx hb dM_takeField_60 (lv_at hl 0 rfl) ?_
        refine lv_iconst (v := nI 2) hx hb dM_takeField_62 (by decide) ?_
        refine lv_icmp_ne (tgt := 85) hx hb dM_takeField_63 (by decide) (fun q => False.elim (absurd q (by decide))) (fun c_63 => ?_)
        refine lv_bipush (v := nI 10) hx hb dM_takeField_66 (by decide) ?_
        refine lv_aload_n hx hb dM_takeField_68 rfl (lv_at hl 3 rfl) ?_
        refine va_get (D := (dC, dI)) (ci := 4) (v := .ref e5) (C := RM) (T := TM) (N := 17) hx hb hw inM hown hK hP 4 rfl rfl 16 (by decide) (hw _ w_fl_M_38) (fun _ h9 => h9) rfl dM_takeField_69 ?_
        refine lv_iconst (v := nI 0) hx hb dM_takeField_72 (by decide) ?_
        refine za_ild hx hb hK hP 6 0 rfl rfl (by omega) (by decide) dM_takeField_73 ?_
        refine zi_mul hx hb dM_takeField_74 ?_
        refine lv_aload_n hx hb dM_takeField_75 rfl (lv_at hl 3 rfl) ?_
        refine va_get (D := (dC, dI)) (ci := 4) (v := .ref e5) (C := RM) (T := TM) (N := 17) hx hb hw inM hown hK hP 4 rfl rfl 16 (by decide) (hw _ w_fl_M_38) (fun _ h9 => h9) rfl dM_takeField_76 ?_
        refine lv_iconst (v := nI 1) hx hb dM_takeField_79 (by decide) ?_
        refine za_ild hx hb hK hP 6 0 rfl rfl (by omega) (by decide) dM_takeField_80 ?_
        refine zi_add hx hb dM_takeField_81 ?_
        refine lv_goto (tgt := 111) hx hb dM_takeField_82 (by decide) ?_
        refine zi_v (b := nI (nmA tp at9 2 2 0 0)) (by rw [nm_2]) ?_
        refine lv_istore_n (lv' := [(2, .int (nI (nmA tp at9 2 2 0 0))), (4, .int (nI 2)), (3, .int (nI at9)), (0, .ref m0), (1, .int (nI k))]) hx hb dM_takeField_111 rfl hl (by decide) rfl (fun ls hl => ?_)
        refine lv_iload_n hx hb dM_takeField_112 rfl (lv_at hl 0 rfl) ?_
        refine zi_eq0 (tgt := 126) hx hb (by omega) dM_takeField_113 (by decide) (fun q => False.elim ((by omega))) (fun c_113 => ?_)
        refine lv_iload_n hx hb dM_takeField_116 rfl (lv_at hl 0 rfl) ?_
        refine lv_aload_n hx hb dM_takeField_117 rfl (lv_at hl 3 rfl) ?_
        refine va_get (D := (dC, dI)) (ci := 4) (v := .ref n1) (C := RM) (T := TM) (N := 17) hx hb hw inM hown hK hP 4 rfl rfl 1 (by decide) (hw _ w_fl_M_13) (fun _ h9 => h9) rfl dM_takeField_118 ?_
        refine lv_iload_n hx hb dM_takeField_121 rfl (lv_at hl 4 rfl) ?_
        refine za_ild hx hb hK hP 0 0 rfl rfl (by omega) (by decide) dM_takeField_122 ?_
        refine zi_le (tgt := 133) hx hb (by omega) (by omega) dM_takeField_123 (by decide) (fun c_123 => ?_) (fun q => False.elim ((by omega)))
        refine lv_aload_n hx hb dM_takeField_133 rfl (lv_at hl 3 rfl) ?_
        refine va_get (D := (dC, dI)) (ci := 4) (v := .ref e3) (C := RM) (T := TM) (N := 17) hx hb hw inM hown hK hP 4 rfl rfl 9 (by decide) (hw _ w_fl_M_32) (fun _ h9 => h9) rfl dM_takeField_134 ?_
        refine lv_iload_n hx hb dM_takeField_137 rfl (lv_at hl 4 rfl) ?_
        refine lv_iload_n hx hb dM_takeField_138 rfl (lv_at hl 0 rfl) ?_
        refine zi_v (b := pm ((nmA tp at9 2 2 0 0) + 1)) (pm_s _).symm ?_
        refine za_pst hx hb hK hP hD hS 3 0 rfl rfl (by omega) (by decide) dM_takeField_139 (fun H locs hP hD hS => ?_)
        have hP : va_P (dC, dI) vwCl [(n1, .inl (cI, 16, .inl (aN fMM))), (n2, .inl (cI, 16, .inl (aN fFO))), (e2, .inl (cI, 672, .inl (aN rd))), (e3, .inl (cI, 16, .inl (aP (nup rs k ((nmA tp at9 2 2 0 0) + 1))))), (m0, .inr (4, [.ref n0, .ref n1, .ref n2, .int (nI cd), .int (nI dt), .ref e0, .ref e1, .int (nI rt), .ref e2, .ref e3, .ref e4, .int (nI sz9), .int (nI (at9 + (2 + 1) / 2)), .int (nI fl), .int pl, .int (nI wr), .ref e5])), (e4, .inl (cI, 400, .inl (aN tp))), (e5, .inl (cI, 4, .inl (aN (dgC tp at9 2 0 2 0 fw))))] H := hP
        have hD : va_D A [(n1, .inl (cI, 16, .inl (aN fMM))), (n2, .inl (cI, 16, .inl (aN fFO))), (e2, .inl (cI, 672, .inl (aN rd))), (e3, .inl (cI, 16, .inl (aP (nup rs k ((nmA tp at9 2 2 0 0) + 1))))), (m0, .inr (4, [.ref n0, .ref n1, .ref n2, .int (nI cd), .int (nI dt), .ref e0, .ref e1, .int (nI rt), .ref e2, .ref e3, .ref e4, .int (nI sz9), .int (nI (at9 + (2 + 1) / 2)), .int (nI fl), .int pl, .int (nI wr), .ref e5])), (e4, .inl (cI, 400, .inl (aN tp))), (e5, .inl (cI, 4, .inl (aN (dgC tp at9 2 0 2 0 fw))))] := hD
        refine lv_aload_n hx hb dM_takeField_140 rfl (lv_at hl 3 rfl) ?_
        refine va_get (D := (dC, dI)) (ci := 4) (v := .ref n2) (C := RM) (T := TM) (N := 17) hx hb hw inM hown hK hP 4 rfl rfl 2 (by decide) (hw _ w_fl_M_16) (fun _ h9 => h9) rfl dM_takeField_141 ?_
        refine lv_iload_n hx hb dM_takeField_144 rfl (lv_at hl 4 rfl) ?_
        refine za_ild hx hb hK hP 1 0 rfl rfl (by omega) (by decide) dM_takeField_145 ?_
        refine lv_iconst (v := nI 2) hx hb dM_takeField_146 (by decide) ?_
        refine zi_ge (tgt := 166) hx hb (by omega) (by omega) dM_takeField_147 (by decide) (fun c_147 => ?_) (fun c_147 => ?_)
        · unfold valF at hv
          rw [if_neg (fun z => by have := ho2.mpr z; omega)] at hv
          refine lv_aload_n hx hb dM_takeField_166 rfl (lv_at hl 3 rfl) ?_
          refine lv_iload_n hx hb dM_takeField_167 rfl (lv_at hl 0 rfl) ?_
          refine lv_aload_n hx hb dM_takeField_168 rfl (lv_at hl 3 rfl) ?_
          refine va_get (D := (dC, dI)) (ci := 4) (v := .ref e2) (C := RM) (T := TM) (N := 17) hx hb hw inM hown hK hP 4 rfl rfl 8 (by decide) (hw _ w_fl_M_29) (fun _ h9 => h9) rfl dM_takeField_169 ?_
          refine lv_bipush (v := nI 42) hx hb dM_takeField_172 (by decide) ?_
          refine lv_iload_n hx hb dM_takeField_174 rfl (lv_at hl 4 rfl) ?_
          refine zi_mul hx hb dM_takeField_175 ?_
          have hPc := hP.sub (ws' := [(m0, .inr (4, [.ref n0, .ref n1, .ref n2, .int (nI cd), .int (nI dt), .ref e0, .ref e1, .int (nI rt), .ref e2, .ref e3, .ref e4, .int (nI sz9), .int (nI (at9 + (2 + 1) / 2)), .int (nI fl), .int pl, .int (nI wr), .ref e5])), (e4, .inl (cI, 400, .inl (aN tp))), (e2, .inl (cI, 672, .inl (aN rd)))]) [4, 5, 2] rfl
          have hDc := hD.sub (ws' := [(m0, .inr (4, [.ref n0, .ref n1, .ref n2, .int (nI cd), .int (nI dt), .ref e0, .ref e1, .int (nI rt), .ref e2, .ref e3, .ref e4, .int (nI sz9), .int (nI (at9 + (2 + 1) / 2)), .int (nI fl), .int pl, .int (nI wr), .ref e5])), (e4, .inl (cI, 400, .inl (aN tp))), (e2, .inl (cI, 672, .inl (aN rd)))]) [4, 5, 2] (by decide) rfl
          have hFc := va_free (wc := [(m0, .inr (4, [.ref n0, .ref n1, .ref n2, .int (nI cd), .int (nI dt), .ref e0, .ref e1, .int (nI rt), .ref e2, .ref e3, .ref e4, .int (nI sz9), .int (nI (at9 + (2 + 1) / 2)), .int (nI fl), .int pl, .int (nI wr), .ref e5])), (e4, .inl (cI, 400, .inl (aN tp))), (e2, .inl (cI, 672, .inl (aN rd)))]) hD hS hA [4, 5, 2] rfl
          refine zc_Sv (va_runV (As := [.int (nI (nmA tp at9 2 2 0 0)), .ref e2, .int (nI (42 * k))]) (rest := []) ⟨hx, hb, hml, hown, hw⟩ (c_takeLetters_no l dC dI m0 n0 n1 n2 cd dt e0 e1 rt e2 e3 e4 sz9 (at9 + (2 + 1) / 2) fl pl wr e5 cI cB e2 672 rd tp (nmA tp at9 2 2 0 0) (42 * k) k2 p2 (by omega) (by omega) htp (by omega) (by omega) (by omega) (by omega) hfl hv H.size) (cwV 3 hw (gV w_ml_M_119 w_im_M_takeLetters w_se_M_takeLetters w_in_M w_co_M_takeLetters) rfl rfl rfl (by decide +kernel) ⟨Nat.le_of_ble_eq_true rfl, Nat.le_of_ble_eq_true rfl⟩) (zM_V hG hS hFc hPc hDc hK 0 rfl rfl) rfl rfl hl.1 rfl (lv_room (Nat.le_of_ble_eq_true rfl)) dM_takeField_176 ⟨Nat.le_of_ble_eq_true rfl, Nat.le_of_ble_eq_true rfl⟩) hS hFc (fun u_176 H locs h_176 hP1 hD1 hk1 hS => ?_)
          obtain ⟨a9_176, f9_176⟩ := u_176
          obtain ⟨hP, hD⟩ := va_join (wr := [(n1, .inl (cI, 16, .inl (aN fMM))), (n2, .inl (cI, 16, .inl (aN fFO))), (e3, .inl (cI, 16, .inl (aP (nup rs k ((nmA tp at9 2 2 0 0) + 1))))), (e5, .inl (cI, 4, .inl (aN (dgC tp at9 2 0 2 0 fw))))]) (w1 := [(m0, .inr (4, [.ref n0, .ref n1, .ref n2, .int (nI cd), .int (nI dt), .ref e0, .ref e1, .int (nI rt), .ref e2, .ref e3, .ref e4, .int (nI sz9), .int (nI a9_176), .int (nI k2), .int (nI p2), .int (nI wr), .ref e5])), (e4, .inl (cI, 400, .inl (aN tp))), (e2, .inl (cI, 672, .inl (aN f9_176)))]) hP hD [4, 5, 2] [0, 1, 3, 6] rfl rfl (by decide) (by decide) hk1 hFc hP1 hD1
          have hP : va_P (dC, dI) vwCl [(n1, .inl (cI, 16, .inl (aN fMM))), (n2, .inl (cI, 16, .inl (aN fFO))), (e3, .inl (cI, 16, .inl (aP (nup rs k ((nmA tp at9 2 2 0 0) + 1))))), (e5, .inl (cI, 4, .inl (aN (dgC tp at9 2 0 2 0 fw)))), (m0, .inr (4, [.ref n0, .ref n1, .ref n2, .int (nI cd), .int (nI dt), .ref e0, .ref e1, .int (nI rt), .ref e2, .ref e3, .ref e4, .int (nI sz9), .int (nI a9_176), .int (nI k2), .int (nI p2), .int (nI wr), .ref e5])), (e4, .inl (cI, 400, .inl (aN tp))), (e2, .inl (cI, 672, .inl (aN f9_176)))] H := hP
          have hD : va_D A [(n1, .inl (cI, 16, .inl (aN fMM))), (n2, .inl (cI, 16, .inl (aN fFO))), (e3, .inl (cI, 16, .inl (aP (nup rs k ((nmA tp at9 2 2 0 0) + 1))))), (e5, .inl (cI, 4, .inl (aN (dgC tp at9 2 0 2 0 fw)))), (m0, .inr (4, [.ref n0, .ref n1, .ref n2, .int (nI cd), .int (nI dt), .ref e0, .ref e1, .int (nI rt), .ref e2, .ref e3, .ref e4, .int (nI sz9), .int (nI a9_176), .int (nI k2), .int (nI p2), .int (nI wr), .ref e5])), (e4, .inl (cI, 400, .inl (aN tp))), (e2, .inl (cI, 672, .inl (aN f9_176)))] := hD
          subst hAe
          subst hQ
          exact W.vret hx hb hr (fun t ht hW => ⟨⟨(a9_176, nup rs k ((nmA tp at9 2 2 0 0) + 1), f9_176, dgC tp at9 2 0 2 0 fw), rfl, trivial, by rw [ht]; exact hP.sub [4, 0, 1, 6, 2, 5, 3] rfl, hD.sub [4, 0, 1, 6, 2, 5, 3] (by decide) rfl⟩, hS.F ht⟩) hS.2.2 dM_takeField_179
        · unfold valF at hv
          rw [if_pos (ho2.mp c_147)] at hv
          refine lv_aload_n hx hb dM_takeField_150 rfl (lv_at hl 3 rfl) ?_
          refine lv_iload_n hx hb dM_takeField_151 rfl (lv_at hl 0 rfl) ?_
          refine lv_aload_n hx hb dM_takeField_152 rfl (lv_at hl 3 rfl) ?_
          refine va_get (D := (dC, dI)) (ci := 4) (v := .ref e2) (C := RM) (T := TM) (N := 17) hx hb hw inM hown hK hP 4 rfl rfl 8 (by decide) (hw _ w_fl_M_29) (fun _ h9 => h9) rfl dM_takeField_153 ?_
          refine lv_bipush (v := nI 42) hx hb dM_takeField_156 (by decide) ?_
          refine lv_iload_n hx hb dM_takeField_158 rfl (lv_at hl 4 rfl) ?_
          refine zi_mul hx hb dM_takeField_159 ?_
          have hPc := hP.sub (ws' := [(m0, .inr (4, [.ref n0, .ref n1, .ref n2, .int (nI cd), .int (nI dt), .ref e0, .ref e1, .int (nI rt), .ref e2, .ref e3, .ref e4, .int (nI sz9), .int (nI (at9 + (2 + 1) / 2)), .int (nI fl), .int pl, .int (nI wr), .ref e5])), (e4, .inl (cI, 400, .inl (aN tp))), (e2, .inl (cI, 672, .inl (aN rd)))]) [4, 5, 2] rfl
          have hDc := hD.sub (ws' := [(m0, .inr (4, [.ref n0, .ref n1, .ref n2, .int (nI cd), .int (nI dt), .ref e0, .ref e1, .int (nI rt), .ref e2, .ref e3, .ref e4, .int (nI sz9), .int (nI (at9 + (2 + 1) / 2)), .int (nI fl), .int pl, .int (nI wr), .ref e5])), (e4, .inl (cI, 400, .inl (aN tp))), (e2, .inl (cI, 672, .inl (aN rd)))]) [4, 5, 2] (by decide) rfl
          have hFc := va_free (wc := [(m0, .inr (4, [.ref n0, .ref n1, .ref n2, .int (nI cd), .int (nI dt), .ref e0, .ref e1, .int (nI rt), .ref e2, .ref e3, .ref e4, .int (nI sz9), .int (nI (at9 + (2 + 1) / 2)), .int (nI fl), .int pl, .int (nI wr), .ref e5])), (e4, .inl (cI, 400, .inl (aN tp))), (e2, .inl (cI, 672, .inl (aN rd)))]) hD hS hA [4, 5, 2] rfl
          refine zc_Sv (va_runV (As := [.int (nI (nmA tp at9 2 2 0 0)), .ref e2, .int (nI (42 * k))]) (rest := []) ⟨hx, hb, hml, hown, hw⟩ (c_takeDigits_no l dC dI m0 n0 n1 n2 cd dt e0 e1 rt e2 e3 e4 sz9 (at9 + (2 + 1) / 2) fl pl wr e5 cI cB e2 672 rd tp (nmA tp at9 2 2 0 0) (42 * k) k2 p2 (by omega) (by omega) htp (by omega) (by omega) (by omega) (by omega) hfl hv H.size) (cwV 3 hw (gV w_ml_M_115 w_im_M_takeDigits w_se_M_takeDigits w_in_M w_co_M_takeDigits) rfl rfl rfl (by decide +kernel) ⟨Nat.le_of_ble_eq_true rfl, Nat.le_of_ble_eq_true rfl⟩) (zM_V hG hS hFc hPc hDc hK 0 rfl rfl) rfl rfl hl.1 rfl (lv_room (Nat.le_of_ble_eq_true rfl)) dM_takeField_160 ⟨Nat.le_of_ble_eq_true rfl, Nat.le_of_ble_eq_true rfl⟩) hS hFc (fun u_160 H locs h_160 hP1 hD1 hk1 hS => ?_)
          obtain ⟨a9_160, f9_160⟩ := u_160
          obtain ⟨hP, hD⟩ := va_join (wr := [(n1, .inl (cI, 16, .inl (aN fMM))), (n2, .inl (cI, 16, .inl (aN fFO))), (e3, .inl (cI, 16, .inl (aP (nup rs k ((nmA tp at9 2 2 0 0) + 1))))), (e5, .inl (cI, 4, .inl (aN (dgC tp at9 2 0 2 0 fw))))]) (w1 := [(m0, .inr (4, [.ref n0, .ref n1, .ref n2, .int (nI cd), .int (nI dt), .ref e0, .ref e1, .int (nI rt), .ref e2, .ref e3, .ref e4, .int (nI sz9), .int (nI a9_160), .int (nI k2), .int (nI p2), .int (nI wr), .ref e5])), (e4, .inl (cI, 400, .inl (aN tp))), (e2, .inl (cI, 672, .inl (aN f9_160)))]) hP hD [4, 5, 2] [0, 1, 3, 6] rfl rfl (by decide) (by decide) hk1 hFc hP1 hD1
          have hP : va_P (dC, dI) vwCl [(n1, .inl (cI, 16, .inl (aN fMM))), (n2, .inl (cI, 16, .inl (aN fFO))), (e3, .inl (cI, 16, .inl (aP (nup rs k ((nmA tp at9 2 2 0 0) + 1))))), (e5, .inl (cI, 4, .inl (aN (dgC tp at9 2 0 2 0 fw)))), (m0, .inr (4, [.ref n0, .ref n1, .ref n2, .int (nI cd), .int (nI dt), .ref e0, .ref e1, .int (nI rt), .ref e2, .ref e3, .ref e4, .int (nI sz9), .int (nI a9_160), .int (nI k2), .int (nI p2), .int (nI wr), .ref e5])), (e4, .inl (cI, 400, .inl (aN tp))), (e2, .inl (cI, 672, .inl (aN f9_160)))] H := hP
          have hD : va_D A [(n1, .inl (cI, 16, .inl (aN fMM))), (n2, .inl (cI, 16, .inl (aN fFO))), (e3, .inl (cI, 16, .inl (aP (nup rs k ((nmA tp at9 2 2 0 0) + 1))))), (e5, .inl (cI, 4, .inl (aN (dgC tp at9 2 0 2 0 fw)))), (m0, .inr (4, [.ref n0, .ref n1, .ref n2, .int (nI cd), .int (nI dt), .ref e0, .ref e1, .int (nI rt), .ref e2, .ref e3, .ref e4, .int (nI sz9), .int (nI a9_160), .int (nI k2), .int (nI p2), .int (nI wr), .ref e5])), (e4, .inl (cI, 400, .inl (aN tp))), (e2, .inl (cI, 672, .inl (aN f9_160)))] := hD
          refine lv_goto (tgt := 179) hx hb dM_takeField_163 (by decide) ?_
          subst hAe
          subst hQ
          exact W.vret hx hb hr (fun t ht hW => ⟨⟨(a9_160, nup rs k ((nmA tp at9 2 2 0 0) + 1), f9_160, dgC tp at9 2 0 2 0 fw), rfl, trivial, by rw [ht]; exact hP.sub [4, 0, 1, 6, 2, 5, 3] rfl, hD.sub [4, 0, 1, 6, 2, 5, 3] (by decide) rfl⟩, hS.F ht⟩) hS.2.2 dM_takeField_179
def rm_c_takeMaps_ok : Room := ({ frames := 1, cells := 0, slots := 0, locals := 23 } : Room)
set_option maxHeartbeats 4000000 in
set_option maxRecDepth 100000 in
theorem c_takeMaps_ok (l : Launch) (dC : Nat → ClassId) (dI : Nat → Nat → Nat) (m0 : Nat) (n0 : Nat) (n1 : Nat) (n2 : Nat) (cd : Nat) (dt : Nat) (e0 : Nat) (e1 : Nat) (rt : Nat) (e2 : Nat) (e3 : Nat) (e4 : Nat) (sz9 : Nat) (fl : Nat) (pl : Int32) (wr : Nat) (e5 : Nat) (cI : ClassId) (cB : ClassId) (rs : Nat → Nat) (tp : Nat → Nat) (hsz : sz9 ≤ 400) (htp : ∀ j, tp j < 256) (hfl : fl = 0) (hd : mapsF tp sz9 2 = none) (sz : Nat) : Met l yM_takeMaps wsM_takeMaps rm_c_takeMaps_ok (zM (dC, dI) [(cI, .int), (cB, .byte)] [.ref m0] [(m0, .inr (4, [.ref n0, .ref n1, .ref n2, .int (nI cd), .int (nI dt), .ref e0, .ref e1, .int (nI rt), .ref e2, .ref e3, .ref e4, .int (nI sz9), .int (nI 2), .int (nI fl), .int pl, .int (nI wr), .ref e5])), (n0, .inl (cI, 16, .inl (aN fFI))), (e3, .inl (cI, 16, .inl (aP rs))), (e4, .inl (cI, 400, .inl (aN tp)))] sz) (zMv (dC, dI) [(m0, .inr (4, [.ref n0, .ref n1, .ref n2, .int (nI cd), .int (nI dt), .ref e0, .ref e1, .int (nI rt), .ref e2, .ref e3, .ref e4, .int (nI sz9), .int (nI 2), .int (nI fl), .int pl, .int (nI wr), .ref e5])), (n0, .inl (cI, 16, .inl (aN fFI))), (e3, .inl (cI, 16, .inl (aP rs))), (e4, .inl (cI, 400, .inl (aN tp)))] [(m0, .inr (4, [.ref n0, .ref n1, .ref n2, .int (nI cd), .int (nI dt), .ref e0, .ref e1, .int (nI rt), .ref e2, .ref e3, .ref e4, .int (nI sz9), .int (nI (2 + wid tp 2)), .int (nI fl), .int pl, .int (nI wr), .ref e5])), (n0, .inl (cI, 16, .inl (aN fFI))), (e3, .inl (cI, 16, .inl (aP (RSb tp (8 * wid tp 2) rs)))), (e4, .inl (cI, 400, .inl (aN tp)))] sz (True)) 0 0 (va_A [(m0, .inr (4, [.ref n0, .ref n1, .ref n2, .int (nI cd), .int (nI dt), .ref e0, .ref e1, .int (nI rt), .ref e2, .ref e3, .ref e4, .int (nI sz9), .int (nI 2), .int (nI fl), .int pl, .int (nI wr), .ref e5])), (n0, .inl (cI, 16, .inl (aN fFI))), (e3, .inl (cI, 16, .inl (aP rs))), (e4, .inl (cI, 400, .inl (aN tp)))] sz) := by
  refine Met.ofW (cc := cM_takeMaps) (maxL := 5) (ret := none) (by decide) rfl ?_
  intro p e s m args below meth c s₁ Bd hml hv
  obtain ⟨rfl, hsz, hG, hP, hK, hD0⟩ := hv
  subst hsz
  have hx := Bd.exec
  have hb := Bd.bytes
  have hr := Bd.returns
  have hts := atoms_spec (ws := wsM_takeMaps) Bd.pre
  have hw : ∀ w ∈ BIG, w.before _ s = true := fun w h => hts w (List.mem_cons_of_mem _ h)
  have hown : s.vm.findClass RM = some m.cls := findClass_of_methodNamed Bd.named
  have hlocks := Bd.notSynchronized
  have hD := hD0.self (sz := s.heap.size)
  obtain ⟨A, hAe⟩ : ∃ A, A = va_A [(m0, .inr (4, [.ref n0, .ref n1, .ref n2, .int (nI cd), .int (nI dt), .ref e0, .ref e1, .int (nI rt), .ref e2, .ref e3, .ref e4, .int (nI sz9), .int (nI 2), .int (nI fl), .int pl, .int (nI wr), .ref e5])), (n0, .inl (cI, 16, .inl (aN fFI))), (e3, .inl (cI, 16, .inl (aP rs))), (e4, .inl (cI, 400, .inl (aN tp)))] s.heap.size := ⟨_, rfl⟩
  have hA : ∀ q : Nat, s.heap.size ≤ q → A q := fun q h => by rw [hAe]; exact Or.inr h
  rw [← hAe] at hG hD
  have hS : va_S A s.heap s.heap [] := va_S.rf
  have hl := lv_entry ([.ref m0]) (n := 5) (Nat.le_of_ble_eq_true rfl)
  rw [lg_entry_eq]
  generalize (lg_sl ([.ref m0]) ++ List.replicate (5 - (lg_sl ([.ref m0])).length) Slot.unset).toArray = ls at hl ⊢
  have hl : lv_has ls 5 [(0, .ref m0)] := hl
  refine zq_name (fun Q hQ => ?_)
  change W p l e rm_c_takeMaps_ok s m _ below meth c _ _ _ _ Q _
  have ht2 := htp 2
  obtain ⟨hl8, ⟨h8, hmp⟩ | ⟨h8, hl16, hmp, hany⟩⟩ := mapsF_ok hd
  · have hkn : ∀ z, 1 ≤ z → z < 8 * 8 → tbit tp z → kno z := fun z z1 z2 z3 => kno_of htp z1 (by omega) (mpL_none _ _ hmp (z / 8) (by omega) (by omega)) z3
    refine lv_aload_n hx hb dM_takeMaps_0 rfl (lv_at hl 0 rfl) ?_
    refine va_get (D := (dC, dI)) (ci := 4) (v := .int (nI 2)) (C := RM) (T := TM) (N := 17) hx hb hw inM hown hK hP 0 rfl rfl 12 (by decide) (hw _ w_fl_M_108) (fun _ h9 => h9) rfl dM_takeMaps_1 ?_
    refine lv_bipush (v := nI 8) hx hb dM_takeMaps_4 (by decide) ?_
    refine lv_iadd hx hb dM_takeMaps_6 ?_
    refine zi_v (b := nI 10) (by decide) ?_
    refine lv_aload_n hx hb dM_takeMaps_7 rfl (lv_at hl 0 rfl) ?_
    refine va_get (D := (dC, dI)) (ci := 4) (v := .int (nI sz9)) (C := RM) (T := TM) (N := 17) hx hb hw inM hown hK hP 0 rfl rfl 11 (by decide) (hw _ w_fl_M_99) (fun _ h9 => h9) rfl dM_takeMaps_8 ?_
    refine zi_le (tgt := 24) hx hb (by omega) (by omega) dM_takeMaps_11 (by decide) (fun c_11 => ?_) (fun q => False.elim ((by omega)))
    refine lv_aload_n hx hb dM_takeMaps_24 rfl (lv_at hl 0 rfl) ?_
    refine va_get (D := (dC, dI)) (ci := 4) (v := .ref e4) (C := RM) (T := TM) (N := 17) hx hb hw inM hown hK hP 0 rfl rfl 10 (by decide) (hw _ w_fl_M_35) (fun _ h9 => h9) rfl dM_takeMaps_25 ?_
    refine lv_aload_n hx hb dM_takeMaps_28 rfl (lv_at hl 0 rfl) ?_
    refine va_get (D := (dC, dI)) (ci := 4) (v := .int (nI 2)) (C := RM) (T := TM) (N := 17) hx hb hw inM hown hK hP 0 rfl rfl 12 (by decide) (hw _ w_fl_M_108) (fun _ h9 => h9) rfl dM_takeMaps_29 ?_
    refine za_ild hx hb hK hP 3 0 rfl rfl (by omega) (by decide) dM_takeMaps_32 ?_
    refine lv_bipush (v := nI 127) hx hb dM_takeMaps_33 (by decide) ?_
    refine zi_le (tgt := 43) hx hb (by omega) (by omega) dM_takeMaps_35 (by decide) (fun c_35 => ?_) (fun q => False.elim ((by omega)))
    refine lv_bipush (v := nI 8) hx hb dM_takeMaps_43 (by decide) ?_
    refine lv_istore_n (lv' := [(1, .int (nI 8)), (0, .ref m0)]) hx hb dM_takeMaps_45 rfl hl (by decide) rfl (fun ls hl => ?_)
    refine lv_aload_n hx hb dM_takeMaps_46 rfl (lv_at hl 1 rfl) ?_
    refine va_get (D := (dC, dI)) (ci := 4) (v := .int (nI 2)) (C := RM) (T := TM) (N := 17) hx hb hw inM hown hK hP 0 rfl rfl 12 (by decide) (hw _ w_fl_M_108) (fun _ h9 => h9) rfl dM_takeMaps_47 ?_
    refine lv_iload_n hx hb dM_takeMaps_50 rfl (lv_at hl 0 rfl) ?_
    refine lv_iadd hx hb dM_takeMaps_51 ?_
    refine zi_v (b := nI 10) (by decide) ?_
    refine lv_aload_n hx hb dM_takeMaps_52 rfl (lv_at hl 1 rfl) ?_
    refine va_get (D := (dC, dI)) (ci := 4) (v := .int (nI sz9)) (C := RM) (T := TM) (N := 17) hx hb hw inM hown hK hP 0 rfl rfl 11 (by decide) (hw _ w_fl_M_99) (fun _ h9 => h9) rfl dM_takeMaps_53 ?_
    refine zi_le (tgt := 69) hx hb (by omega) (by omega) dM_takeMaps_56 (by decide) (fun c_56 => ?_) (fun q => False.elim ((by omega)))
    refine lv_iconst (v := nI 0) hx hb dM_takeMaps_69 (by decide) ?_
    refine lv_istore_n (lv' := [(2, .int (nI 0)), (1, .int (nI 8)), (0, .ref m0)]) hx hb dM_takeMaps_70 rfl hl (by decide) rfl (fun ls hl => ?_)
    refine lv_iconst (v := nI 1) hx hb dM_takeMaps_71 (by decide) ?_
    refine lv_istore_n (lv' := [(3, .int (nI 1)), (2, .int (nI 0)), (1, .int (nI 8)), (0, .ref m0)]) hx hb dM_takeMaps_72 rfl hl (by decide) rfl (fun ls hl => ?_)
    have lp_73 : ∀ (fu : Nat) (b : Nat) (ab : Nat) (r9 : Nat → Nat) (hb1 : 1 ≤ b) (hb2 : b ≤ 8 * 8) (hab9 : ab ≤ b) (hr : r9 = RSb tp b rs) (ha : (∃ z, 64 ≤ z ∧ z < b ∧ tbit tp z) → 1 ≤ ab) (hms : 8 * 8 - b < fu) (H : Heap) (locs : List Loc) (ls : Array Slot), lv_has ls 5 [(0, .ref m0), (1, .int (nI 8)), (2, .int (nI ab)), (3, .int (nI b))] → va_P (dC, dI) vwCl [(m0, .inr (4, [.ref n0, .ref n1, .ref n2, .int (nI cd), .int (nI dt), .ref e0, .ref e1, .int (nI rt), .ref e2, .ref e3, .ref e4, .int (nI sz9), .int (nI 2), .int (nI fl), .int pl, .int (nI wr), .ref e5])), (n0, .inl (cI, 16, .inl (aN fFI))), (e3, .inl (cI, 16, .inl (aP r9))), (e4, .inl (cI, 400, .inl (aN tp)))] H → va_D A [(m0, .inr (4, [.ref n0, .ref n1, .ref n2, .int (nI cd), .int (nI dt), .ref e0, .ref e1, .int (nI rt), .ref e2, .ref e3, .ref e4, .int (nI sz9), .int (nI 2), .int (nI fl), .int pl, .int (nI wr), .ref e5])), (n0, .inl (cI, 16, .inl (aN fFI))), (e3, .inl (cI, 16, .inl (aP r9))), (e4, .inl (cI, 400, .inl (aN tp)))] → va_S A s.heap H locs → W p l e rm_c_takeMaps_ok s m ([.ref m0] : List Value).toArray below meth c H locs 0 0 Q (F0 m 73 ls []) := by
      intro fu
      induction fu with
      | zero => intro b ab r9 hb1 hb2 hab9 hr ha hms; exact absurd hms (Nat.not_lt_zero _)
      | succ fu ih73 =>
        intro b ab r9 hb1 hb2 hab9 hr ha hms H locs ls hl hP hD hS
        refine lv_iload_n hx hb dM_takeMaps_73 rfl (lv_at hl 3 rfl) ?_
        refine lv_bipush (v := nI 8) hx hb dM_takeMaps_74 (by decide) ?_
        refine lv_iload_n hx hb dM_takeMaps_76 rfl (lv_at hl 1 rfl) ?_
        refine zi_mul hx hb dM_takeMaps_77 ?_
        refine zi_ge (tgt := 168) hx hb (by omega) (by omega) dM_takeMaps_78 (by decide) (fun c_78 => ?_) (fun c_78 => ?_)
        · refine lv_iload_n hx hb dM_takeMaps_168 rfl (lv_at hl 1 rfl) ?_
          refine lv_bipush (v := nI 16) hx hb dM_takeMaps_169 (by decide) ?_
          refine lv_icmp_ne (tgt := 190) hx hb dM_takeMaps_171 (by decide) (fun c_171 => ?_) (fun q => False.elim (absurd q (by decide)))
          refine lv_aload_n hx hb dM_takeMaps_190 rfl (lv_at hl 0 rfl) ?_
          refine lv_dup hx hb dM_takeMaps_191 rfl ?_
          refine va_get (D := (dC, dI)) (ci := 4) (v := .int (nI 2)) (C := RM) (T := TM) (N := 17) hx hb hw inM hown hK hP 0 rfl rfl 12 (by decide) (hw _ w_fl_M_108) (fun _ h9 => h9) rfl dM_takeMaps_192 ?_
          refine lv_iload_n hx hb dM_takeMaps_195 rfl (lv_at hl 1 rfl) ?_
          refine lv_iadd hx hb dM_takeMaps_196 ?_
          refine zi_v (b := nI 10) (by decide) ?_
          refine va_put (D := (dC, dI)) (ci := 4) (v := .int (nI 10)) (ty := .int) (C := RM) (T := TM) (N := 17) hx hb hw inM tyM tyM_ok nmM hown hK hP hD hS 0 rfl rfl 12 (by decide) (hw _ w_fl_M_108) (fun _ h9 => h9) rfl (by decide +kernel) rfl rfl (Nat.le_of_ble_eq_true rfl) dM_takeMaps_197 (fun H locs hP hD hS => ?_)
          have hP : va_P (dC, dI) vwCl [(m0, .inr (4, [.ref n0, .ref n1, .ref n2, .int (nI cd), .int (nI dt), .ref e0, .ref e1, .int (nI rt), .ref e2, .ref e3, .ref e4, .int (nI sz9), .int (nI 10), .int (nI fl), .int pl, .int (nI wr), .ref e5])), (n0, .inl (cI, 16, .inl (aN fFI))), (e3, .inl (cI, 16, .inl (aP r9))), (e4, .inl (cI, 400, .inl (aN tp)))] H := hP
          have hD : va_D A [(m0, .inr (4, [.ref n0, .ref n1, .ref n2, .int (nI cd), .int (nI dt), .ref e0, .ref e1, .int (nI rt), .ref e2, .ref e3, .ref e4, .int (nI sz9), .int (nI 10), .int (nI fl), .int pl, .int (nI wr), .ref e5])), (n0, .inl (cI, 16, .inl (aN fFI))), (e3, .inl (cI, 16, .inl (aP r9))), (e4, .inl (cI, 400, .inl (aN tp)))] := hD
          have e9 : wid tp 2 = 8 := if_pos h8
          rw [e9] at hQ
          obtain rfl : b = 8 * 8 := by omega
          subst hr
          subst hAe
          subst hQ
          exact W.vret hx hb hr (fun t ht hW => ⟨⟨(), rfl, trivial, by rw [ht]; exact hP.sub [0, 1, 2, 3] rfl, hD.sub [0, 1, 2, 3] (by decide) rfl⟩, hS.F ht⟩) hS.2.2 dM_takeMaps_200
        · have ht9 := htp (2 + b / 8)
          refine lv_aload_n hx hb dM_takeMaps_81 rfl (lv_at hl 0 rfl) ?_
          refine va_get (D := (dC, dI)) (ci := 4) (v := .ref e4) (C := RM) (T := TM) (N := 17) hx hb hw inM hown hK hP 0 rfl rfl 10 (by decide) (hw _ w_fl_M_35) (fun _ h9 => h9) rfl dM_takeMaps_82 ?_
          refine lv_aload_n hx hb dM_takeMaps_85 rfl (lv_at hl 0 rfl) ?_
          refine va_get (D := (dC, dI)) (ci := 4) (v := .int (nI 2)) (C := RM) (T := TM) (N := 17) hx hb hw inM hown hK hP 0 rfl rfl 12 (by decide) (hw _ w_fl_M_108) (fun _ h9 => h9) rfl dM_takeMaps_86 ?_
          refine lv_iload_n hx hb dM_takeMaps_89 rfl (lv_at hl 3 rfl) ?_
          refine lv_bipush (v := nI 8) hx hb dM_takeMaps_90 (by decide) ?_
          refine zi_div hx hb (by omega) (by omega) (by omega) dM_takeMaps_92 ?_
          refine zi_add hx hb dM_takeMaps_93 ?_
          refine za_ild hx hb hK hP 3 0 rfl rfl (by omega) (by decide) dM_takeMaps_94 ?_
          refine lv_bipush (v := nI 7) hx hb dM_takeMaps_95 (by decide) ?_
          refine lv_iload_n hx hb dM_takeMaps_97 rfl (lv_at hl 3 rfl) ?_
          refine lv_bipush (v := nI 8) hx hb dM_takeMaps_98 (by decide) ?_
          refine zi_rem hx hb (by omega) (by omega) (by omega) dM_takeMaps_100 ?_
          refine zi_sub hx hb (by omega) dM_takeMaps_101 ?_
          refine lv_ishr hx hb dM_takeMaps_102 ?_
          refine zi_v (b := nI (tp (2 + b / 8) / 2 ^ (7 - b % 8))) (shr_N (by omega) (by omega)) ?_
          have hdv : tp (2 + b / 8) / 2 ^ (7 - b % 8) ≤ tp (2 + b / 8) := Nat.div_le_self _ _
          refine lv_iconst (v := nI 1) hx hb dM_takeMaps_103 (by decide) ?_
          refine zi_and hx hb 1 (by omega) (by decide) dM_takeMaps_104 ?_
          refine zi_v (b := nI ((tp (2 + b / 8) / 2 ^ (7 - b % 8)) % 2)) rfl ?_
          refine lv_iconst (v := nI 1) hx hb dM_takeMaps_105 (by decide) ?_
          refine zi_ne (tgt := 162) hx hb (by omega) (by omega) dM_takeMaps_106 (by decide) (fun c_106 => ?_) (fun c_106 => ?_)
          · have hs : ¬ tbit tp b := c_106
            have hr2 : r9 = RSb tp (b + 1) rs := by rw [hr]; exact RSb_skip hs
            have ha2 : (∃ z, 64 ≤ z ∧ z < b + 1 ∧ tbit tp z) → 1 ≤ ab := fun ⟨z, z1, z2, z3⟩ => ha ⟨z, z1, by have : z ≠ b := (fun q9 => hs (q9 ▸ z3)); omega, z3⟩
            refine lv_iinc (v := nI (b + 1)) (lv' := [(3, .int (nI (b + 1))), (0, .ref m0), (1, .int (nI 8)), (2, .int (nI ab))]) hx hb dM_takeMaps_162 hl (k := 3) rfl (zi_incr b 1) (by decide) rfl (fun ls hl => ?_)
            refine lv_goto (tgt := 73) hx hb dM_takeMaps_165 (by decide) ?_
            exact ih73 (b + 1) ab r9 (by omega) (by omega) (by omega) hr2 ha2 (by omega) _ _ _ (lv_sub hl [1, 2, 3, 0] rfl) (hP.sub [0, 1, 2, 3] rfl) (hD.sub [0, 1, 2, 3] (by decide) rfl) hS
          · have hs : tbit tp b := c_106
            obtain ⟨k, hk, hfk⟩ := hkn b (by omega) (by omega) hs
            refine lv_aload_n hx hb dM_takeMaps_109 rfl (lv_at hl 0 rfl) ?_
            refine lv_iload_n hx hb dM_takeMaps_110 rfl (lv_at hl 3 rfl) ?_
            refine lv_iconst (v := nI 1) hx hb dM_takeMaps_111 (by decide) ?_
            refine zi_add hx hb dM_takeMaps_112 ?_
            refine zi_v (b := nI (fFI k)) (by rw [hfk]) ?_
            refine zc_Ri (va_runV (As := [.int (nI (fFI k))]) (rest := []) ⟨hx, hb, hml, hown, hw⟩ (c_fieldOf_ok l dC dI m0 n0 n1 n2 cd dt e0 e1 rt e2 e3 e4 sz9 2 fl pl wr e5 cI cB k (by omega) H) (cwV 1 hw (gV w_ml_M_66 w_im_M_fieldOf w_se_M_fieldOf w_in_M w_co_M_fieldOf) rfl rfl rfl (by decide +kernel) ⟨Nat.le_of_ble_eq_true rfl, Nat.le_of_ble_eq_true rfl⟩) (zR_V hG hS (hP.sub (ws' := [(m0, .inr (4, [.ref n0, .ref n1, .ref n2, .int (nI cd), .int (nI dt), .ref e0, .ref e1, .int (nI rt), .ref e2, .ref e3, .ref e4, .int (nI sz9), .int (nI 2), .int (nI fl), .int pl, .int (nI wr), .ref e5])), (n0, .inl (cI, 16, .inl (aN fFI)))]) [0, 1] rfl) hK 0 rfl rfl) rfl rfl hl.1 rfl (lv_room (Nat.le_of_ble_eq_true rfl)) dM_takeMaps_113 ⟨Nat.le_of_ble_eq_true rfl, Nat.le_of_ble_eq_true rfl⟩) hS (fun r_1 locs h_113 hS => ?_)
            subst h_113
            refine lv_istore (lv' := [(4, .int (nI k)), (0, .ref m0), (1, .int (nI 8)), (2, .int (nI ab)), (3, .int (nI b))]) hx hb dM_takeMaps_116 hl (by decide) rfl (fun ls hl => ?_)
            refine lv_iload hx hb dM_takeMaps_118 (lv_at hl 0 rfl) ?_
            refine zi_ge0 (tgt := 140) hx hb (by omega) dM_takeMaps_120 (by decide) ?_
            refine lv_aload_n hx hb dM_takeMaps_140 rfl (lv_at hl 1 rfl) ?_
            refine va_get (D := (dC, dI)) (ci := 4) (v := .ref e3) (C := RM) (T := TM) (N := 17) hx hb hw inM hown hK hP 0 rfl rfl 9 (by decide) (hw _ w_fl_M_32) (fun _ h9 => h9) rfl dM_takeMaps_141 ?_
            refine lv_iload hx hb dM_takeMaps_144 (lv_at hl 0 rfl) ?_
            refine lv_iconst (v := nI 0) hx hb dM_takeMaps_146 (by decide) ?_
            refine zi_v (b := pm (0 + 1)) (pm_s _).symm ?_
            refine za_pst hx hb hK hP hD hS 2 0 rfl rfl (by omega) (by decide) dM_takeMaps_147 (fun H locs hP hD hS => ?_)
            have hP : va_P (dC, dI) vwCl [(m0, .inr (4, [.ref n0, .ref n1, .ref n2, .int (nI cd), .int (nI dt), .ref e0, .ref e1, .int (nI rt), .ref e2, .ref e3, .ref e4, .int (nI sz9), .int (nI 2), .int (nI fl), .int pl, .int (nI wr), .ref e5])), (n0, .inl (cI, 16, .inl (aN fFI))), (e3, .inl (cI, 16, .inl (aP (nup r9 k (0 + 1))))), (e4, .inl (cI, 400, .inl (aN tp)))] H := hP
            have hD : va_D A [(m0, .inr (4, [.ref n0, .ref n1, .ref n2, .int (nI cd), .int (nI dt), .ref e0, .ref e1, .int (nI rt), .ref e2, .ref e3, .ref e4, .int (nI sz9), .int (nI 2), .int (nI fl), .int pl, .int (nI wr), .ref e5])), (n0, .inl (cI, 16, .inl (aN fFI))), (e3, .inl (cI, 16, .inl (aP (nup r9 k (0 + 1))))), (e4, .inl (cI, 400, .inl (aN tp)))] := hD
            refine lv_iload_n hx hb dM_takeMaps_148 rfl (lv_at hl 3 rfl) ?_
            refine lv_iload_n hx hb dM_takeMaps_149 rfl (lv_at hl 4 rfl) ?_
            refine lv_bipush (v := nI 64) hx hb dM_takeMaps_150 (by decide) ?_
            refine zi_lt (tgt := 159) hx hb (by omega) (by omega) dM_takeMaps_152 (by decide) (fun c_152 => ?_) (fun c_152 => ?_)
            · refine lv_iconst (v := nI 0) hx hb dM_takeMaps_159 (by decide) ?_
              refine zi_add hx hb dM_takeMaps_160 ?_
              refine lv_istore_n (lv' := [(2, .int (nI (ab + 0))), (4, .int (nI k)), (0, .ref m0), (1, .int (nI 8)), (3, .int (nI b))]) hx hb dM_takeMaps_161 rfl hl (by decide) rfl (fun ls hl => ?_)
              have hr2 : nup r9 k (0 + 1) = RSb tp (b + 1) rs := by rw [hr]; exact RSb_set hk hfk hs
              have ha2 : (∃ z, 64 ≤ z ∧ z < b + 1 ∧ tbit tp z) → 1 ≤ ab + 0 := fun ⟨z, z1, z2, z3⟩ => by by_cases q9 : z = b; omega; have := ha ⟨z, z1, by omega, z3⟩; omega
              refine lv_iinc (v := nI (b + 1)) (lv' := [(3, .int (nI (b + 1))), (2, .int (nI (ab + 0))), (4, .int (nI k)), (0, .ref m0), (1, .int (nI 8))]) hx hb dM_takeMaps_162 hl (k := 4) rfl (zi_incr b 1) (by decide) rfl (fun ls hl => ?_)
              refine lv_goto (tgt := 73) hx hb dM_takeMaps_165 (by decide) ?_
              exact ih73 (b + 1) (ab + 0) (nup r9 k (0 + 1)) (by omega) (by omega) (by omega) hr2 ha2 (by omega) _ _ _ (lv_sub hl [3, 4, 1, 0] rfl) (hP.sub [0, 1, 2, 3] rfl) (hD.sub [0, 1, 2, 3] (by decide) rfl) hS
            · refine lv_iconst (v := nI 1) hx hb dM_takeMaps_155 (by decide) ?_
              refine lv_goto (tgt := 160) hx hb dM_takeMaps_156 (by decide) ?_
              refine zi_add hx hb dM_takeMaps_160 ?_
              refine lv_istore_n (lv' := [(2, .int (nI (ab + 1))), (4, .int (nI k)), (0, .ref m0), (1, .int (nI 8)), (3, .int (nI b))]) hx hb dM_takeMaps_161 rfl hl (by decide) rfl (fun ls hl => ?_)
              have hr2 : nup r9 k (0 + 1) = RSb tp (b + 1) rs := by rw [hr]; exact RSb_set hk hfk hs
              have ha2 : (∃ z, 64 ≤ z ∧ z < b + 1 ∧ tbit tp z) → 1 ≤ ab + 1 := fun ⟨z, z1, z2, z3⟩ => by by_cases q9 : z = b; omega; have := ha ⟨z, z1, by omega, z3⟩; omega
              refine lv_iinc (v := nI (b + 1)) (lv' := [(3, .int (nI (b + 1))), (2, .int (nI (ab + 1))), (4, .int (nI k)), (0, .ref m0), (1, .int (nI 8))]) hx hb dM_takeMaps_162 hl (k := 4) rfl (zi_incr b 1) (by decide) rfl (fun ls hl => ?_)
              refine lv_goto (tgt := 73) hx hb dM_takeMaps_165 (by decide) ?_
              exact ih73 (b + 1) (ab + 1) (nup r9 k (0 + 1)) (by omega) (by omega) (by omega) hr2 ha2 (by omega) _ _ _ (lv_sub hl [3, 4, 1, 0] rfl) (hP.sub [0, 1, 2, 3] rfl) (hD.sub [0, 1, 2, 3] (by decide) rfl) hS
    exact lp_73 ((8 * 8 - 1) + 1) 1 0 rs (by omega) (by omega) (by omega) (RSb_1 tp rs) (fun ⟨z, z1, z2, _⟩ => absurd z2 (by omega)) (Nat.lt_succ_self _) _ _ _ (lv_sub hl [3, 2, 1, 0] rfl) (hP.sub [0, 1, 2, 3] rfl) (hD.sub [0, 1, 2, 3] (by decide) rfl) hS
  · have hkn : ∀ z, 1 ≤ z → z < 8 * 16 → tbit tp z → kno z := fun z z1 z2 z3 => kno_of htp z1 (by omega) (mpL_none _ _ hmp (z / 8) (by omega) (by omega)) z3
    refine lv_aload_n hx hb dM_takeMaps_0 rfl (lv_at hl 0 rfl) ?_
    refine va_get (D := (dC, dI)) (ci := 4) (v := .int (nI 2)) (C := RM) (T := TM) (N := 17) hx hb hw inM hown hK hP 0 rfl rfl 12 (by decide) (hw _ w_fl_M_108) (fun _ h9 => h9) rfl dM_takeMaps_1 ?_
    refine lv_bipush (v := nI 8) hx hb dM_takeMaps_4 (by decide) ?_
    refine lv_iadd hx hb dM_takeMaps_6 ?_
    refine zi_v (b := nI 10) (by decide) ?_
    refine lv_aload_n hx hb dM_takeMaps_7 rfl (lv_at hl 0 rfl) ?_
    refine va_get (D := (dC, dI)) (ci := 4) (v := .int (nI sz9)) (C := RM) (T := TM) (N := 17) hx hb hw inM hown hK hP 0 rfl rfl 11 (by decide) (hw _ w_fl_M_99) (fun _ h9 => h9) rfl dM_takeMaps_8 ?_
    refine zi_le (tgt := 24) hx hb (by omega) (by omega) dM_takeMaps_11 (by decide) (fun c_11 => ?_) (fun q => False.elim ((by omega)))
    refine lv_aload_n hx hb dM_takeMaps_24 rfl (lv_at hl 0 rfl) ?_
    refine va_get (D := (dC, dI)) (ci := 4) (v := .ref e4) (C := RM) (T := TM) (N := 17) hx hb hw inM hown hK hP 0 rfl rfl 10 (by decide) (hw _ w_fl_M_35) (fun _ h9 => h9) rfl dM_takeMaps_25 ?_
    refine lv_aload_n hx hb dM_takeMaps_28 rfl (lv_at hl 0 rfl) ?_
    refine va_get (D := (dC, dI)) (ci := 4) (v := .int (nI 2)) (C := RM) (T := TM) (N := 17) hx hb hw inM hown hK hP 0 rfl rfl 12 (by decide) (hw _ w_fl_M_108) (fun _ h9 => h9) rfl dM_takeMaps_29 ?_
    refine za_ild hx hb hK hP 3 0 rfl rfl (by omega) (by decide) dM_takeMaps_32 ?_
    refine lv_bipush (v := nI 127) hx hb dM_takeMaps_33 (by decide) ?_
    refine zi_le (tgt := 43) hx hb (by omega) (by omega) dM_takeMaps_35 (by decide) (fun q => False.elim ((by omega))) (fun c_35 => ?_)
    refine lv_bipush (v := nI 16) hx hb dM_takeMaps_38 (by decide) ?_
    refine lv_goto (tgt := 45) hx hb dM_takeMaps_40 (by decide) ?_
    refine lv_istore_n (lv' := [(1, .int (nI 16)), (0, .ref m0)]) hx hb dM_takeMaps_45 rfl hl (by decide) rfl (fun ls hl => ?_)
    refine lv_aload_n hx hb dM_takeMaps_46 rfl (lv_at hl 1 rfl) ?_
    refine va_get (D := (dC, dI)) (ci := 4) (v := .int (nI 2)) (C := RM) (T := TM) (N := 17) hx hb hw inM hown hK hP 0 rfl rfl 12 (by decide) (hw _ w_fl_M_108) (fun _ h9 => h9) rfl dM_takeMaps_47 ?_
    refine lv_iload_n hx hb dM_takeMaps_50 rfl (lv_at hl 0 rfl) ?_
    refine lv_iadd hx hb dM_takeMaps_51 ?_
    refine zi_v (b := nI 18) (by decide) ?_
    refine lv_aload_n hx hb dM_takeMaps_52 rfl (lv_at hl 1 rfl) ?_
    refine va_get (D := (dC, dI)) (ci := 4) (v := .int (nI sz9)) (C := RM) (T := TM) (N := 17) hx hb hw inM hown hK hP 0 rfl rfl 11 (by decide) (hw _ w_fl_M_99) (fun _ h9 => h9) rfl dM_takeMaps_53 ?_
    refine zi_le (tgt := 69) hx hb (by omega) (by omega) dM_takeMaps_56 (by decide) (fun c_56 => ?_) (fun q => False.elim ((by omega)))
    refine lv_iconst (v := nI 0) hx hb dM_takeMaps_69 (by decide) ?_
    refine lv_istore_n (lv' := [(2, .int (nI 0)), (1, .int (nI 16)), (0, .ref m0)]) hx hb dM_takeMaps_70 rfl hl (by decide) rfl (fun ls hl => ?_)
    refine lv_iconst (v := nI 1) hx hb dM_takeMaps_71 (by decide) ?_
    refine lv_istore_n (lv' := [(3, .int (nI 1)), (2, .int (nI 0)), (1, .int (nI 16)), (0, .ref m0)]) hx hb dM_takeMaps_72 rfl hl (by decide) rfl (fun ls hl => ?_)
    have lp_73 : ∀ (fu : Nat) (b : Nat) (ab : Nat) (r9 : Nat → Nat) (hb1 : 1 ≤ b) (hb2 : b ≤ 8 * 16) (hab9 : ab ≤ b) (hr : r9 = RSb tp b rs) (ha : (∃ z, 64 ≤ z ∧ z < b ∧ tbit tp z) → 1 ≤ ab) (hms : 8 * 16 - b < fu) (H : Heap) (locs : List Loc) (ls : Array Slot), lv_has ls 5 [(0, .ref m0), (1, .int (nI 16)), (2, .int (nI ab)), (3, .int (nI b))] → va_P (dC, dI) vwCl [(m0, .inr (4, [.ref n0, .ref n1, .ref n2, .int (nI cd), .int (nI dt), .ref e0, .ref e1, .int (nI rt), .ref e2, .ref e3, .ref e4, .int (nI sz9), .int (nI 2), .int (nI fl), .int pl, .int (nI wr), .ref e5])), (n0, .inl (cI, 16, .inl (aN fFI))), (e3, .inl (cI, 16, .inl (aP r9))), (e4, .inl (cI, 400, .inl (aN tp)))] H → va_D A [(m0, .inr (4, [.ref n0, .ref n1, .ref n2, .int (nI cd), .int (nI dt), .ref e0, .ref e1, .int (nI rt), .ref e2, .ref e3, .ref e4, .int (nI sz9), .int (nI 2), .int (nI fl), .int pl, .int (nI wr), .ref e5])), (n0, .inl (cI, 16, .inl (aN fFI))), (e3, .inl (cI, 16, .inl (aP r9))), (e4, .inl (cI, 400, .inl (aN tp)))] → va_S A s.heap H locs → W p l e rm_c_takeMaps_ok s m ([.ref m0] : List Value).toArray below meth c H locs 0 0 Q (F0 m 73 ls []) := by
      intro fu
      induction fu with
      | zero => intro b ab r9 hb1 hb2 hab9 hr ha hms; exact absurd hms (Nat.not_lt_zero _)
      | succ fu ih73 =>
        intro b ab r9 hb1 hb2 hab9 hr ha hms H locs ls hl hP hD hS
        refine lv_iload_n hx hb dM_takeMaps_73 rfl (lv_at hl 3 rfl) ?_
        refine lv_bipush (v := nI 8) hx hb dM_takeMaps_74 (by decide) ?_
        refine lv_iload_n hx hb dM_takeMaps_76 rfl (lv_at hl 1 rfl) ?_
        refine zi_mul hx hb dM_takeMaps_77 ?_
        refine zi_ge (tgt := 168) hx hb (by omega) (by omega) dM_takeMaps_78 (by decide) (fun c_78 => ?_) (fun c_78 => ?_)
        · refine lv_iload_n hx hb dM_takeMaps_168 rfl (lv_at hl 1 rfl) ?_
          refine lv_bipush (v := nI 16) hx hb dM_takeMaps_169 (by decide) ?_
          refine lv_icmp_ne (tgt := 190) hx hb dM_takeMaps_171 (by decide) (fun q => False.elim (absurd q (by decide))) (fun c_171 => ?_)
          refine lv_iload_n hx hb dM_takeMaps_174 rfl (lv_at hl 2 rfl) ?_
          refine zi_ne0 (tgt := 190) hx hb (by omega) dM_takeMaps_175 (by decide) (fun c_175 => ?_) (fun q => False.elim ((by obtain ⟨z, z1, z2, z3⟩ := any_bit htp hany; have := ha ⟨z, z1, by omega, z3⟩; omega)))
          refine lv_aload_n hx hb dM_takeMaps_190 rfl (lv_at hl 0 rfl) ?_
          refine lv_dup hx hb dM_takeMaps_191 rfl ?_
          refine va_get (D := (dC, dI)) (ci := 4) (v := .int (nI 2)) (C := RM) (T := TM) (N := 17) hx hb hw inM hown hK hP 0 rfl rfl 12 (by decide) (hw _ w_fl_M_108) (fun _ h9 => h9) rfl dM_takeMaps_192 ?_
          refine lv_iload_n hx hb dM_takeMaps_195 rfl (lv_at hl 1 rfl) ?_
          refine lv_iadd hx hb dM_takeMaps_196 ?_
          refine zi_v (b := nI 18) (by decide) ?_
          refine va_put (D := (dC, dI)) (ci := 4) (v := .int (nI 18)) (ty := .int) (C := RM) (T := TM) (N := 17) hx hb hw inM tyM tyM_ok nmM hown hK hP hD hS 0 rfl rfl 12 (by decide) (hw _ w_fl_M_108) (fun _ h9 => h9) rfl (by decide +kernel) rfl rfl (Nat.le_of_ble_eq_true rfl) dM_takeMaps_197 (fun H locs hP hD hS => ?_)
          have hP : va_P (dC, dI) vwCl [(m0, .inr (4, [.ref n0, .ref n1, .ref n2, .int (nI cd), .int (nI dt), .ref e0, .ref e1, .int (nI rt), .ref e2, .ref e3, .ref e4, .int (nI sz9), .int (nI 18), .int (nI fl), .int pl, .int (nI wr), .ref e5])), (n0, .inl (cI, 16, .inl (aN fFI))), (e3, .inl (cI, 16, .inl (aP r9))), (e4, .inl (cI, 400, .inl (aN tp)))] H := hP
          have hD : va_D A [(m0, .inr (4, [.ref n0, .ref n1, .ref n2, .int (nI cd), .int (nI dt), .ref e0, .ref e1, .int (nI rt), .ref e2, .ref e3, .ref e4, .int (nI sz9), .int (nI 18), .int (nI fl), .int pl, .int (nI wr), .ref e5])), (n0, .inl (cI, 16, .inl (aN fFI))), (e3, .inl (cI, 16, .inl (aP r9))), (e4, .inl (cI, 400, .inl (aN tp)))] := hD
          have e9 : wid tp 2 = 16 := if_neg h8
          rw [e9] at hQ
          obtain rfl : b = 8 * 16 := by omega
          subst hr
          subst hAe
          subst hQ
          exact W.vret hx hb hr (fun t ht hW => ⟨⟨(), rfl, trivial, by rw [ht]; exact hP.sub [0, 1, 2, 3] rfl, hD.sub [0, 1, 2, 3] (by decide) rfl⟩, hS.F ht⟩) hS.2.2 dM_takeMaps_200
        · have ht9 := htp (2 + b / 8)
          refine lv_aload_n hx hb dM_takeMaps_81 rfl (lv_at hl 0 rfl) ?_
          refine va_get (D := (dC, dI)) (ci := 4) (v := .ref e4) (C := RM) (T := TM) (N := 17) hx hb hw inM hown hK hP 0 rfl rfl 10 (by decide) (hw _ w_fl_M_35) (fun _ h9 => h9) rfl dM_takeMaps_82 ?_
          refine lv_aload_n hx hb dM_takeMaps_85 rfl (lv_at hl 0 rfl) ?_
          refine va_get (D := (dC, dI)) (ci := 4) (v := .int (nI 2)) (C := RM) (T := TM) (N := 17) hx hb hw inM hown hK hP 0 rfl rfl 12 (by decide) (hw _ w_fl_M_108) (fun _ h9 => h9) rfl dM_takeMaps_86 ?_
          refine lv_iload_n hx hb dM_takeMaps_89 rfl (lv_at hl 3 rfl) ?_
          refine lv_bipush (v := nI 8) hx hb dM_takeMaps_90 (by decide) ?_
          refine zi_div hx hb (by omega) (by omega) (by omega) dM_takeMaps_92 ?_
          refine zi_add hx hb dM_takeMaps_93 ?_
          refine za_ild hx hb hK hP 3 0 rfl rfl (by omega) (by decide) dM_takeMaps_94 ?_
          refine lv_bipush (v := nI 7) hx hb dM_takeMaps_95 (by decide) ?_
          refine lv_iload_n hx hb dM_takeMaps_97 rfl (lv_at hl 3 rfl) ?_
          refine lv_bipush (v := nI 8) hx hb dM_takeMaps_98 (by decide) ?_
          refine zi_rem hx hb (by omega) (by omega) (by omega) dM_takeMaps_100 ?_
          refine zi_sub hx hb (by omega) dM_takeMaps_101 ?_
          refine lv_ishr hx hb dM_takeMaps_102 ?_
          refine zi_v (b := nI (tp (2 + b / 8) / 2 ^ (7 - b % 8))) (shr_N (by omega) (by omega)) ?_
          have hdv : tp (2 + b / 8) / 2 ^ (7 - b % 8) ≤ tp (2 + b / 8) := Nat.div_le_self _ _
          refine lv_iconst (v := nI 1) hx hb dM_takeMaps_103 (by decide) ?_
          refine zi_and hx hb 1 (by omega) (by decide) dM_takeMaps_104 ?_
          refine zi_v (b := nI ((tp (2 + b / 8) / 2 ^ (7 - b % 8)) % 2)) rfl ?_
          refine lv_iconst (v := nI 1) hx hb dM_takeMaps_105 (by decide) ?_
          refine zi_ne (tgt := 162) hx hb (by omega) (by omega) dM_takeMaps_106 (by decide) (fun c_106 => ?_) (fun c_106 => ?_)
          · have hs : ¬ tbit tp b := c_106
            have hr2 : r9 = RSb tp (b + 1) rs := by rw [hr]; exact RSb_skip hs
            have ha2 : (∃ z, 64 ≤ z ∧ z < b + 1 ∧ tbit tp z) → 1 ≤ ab := fun ⟨z, z1, z2, z3⟩ => ha ⟨z, z1, by have : z ≠ b := (fun q9 => hs (q9 ▸ z3)); omega, z3⟩
            refine lv_iinc (v := nI (b + 1)) (lv' := [(3, .int (nI (b + 1))), (0, .ref m0), (1, .int (nI 16)), (2, .int (nI ab))]) hx hb dM_takeMaps_162 hl (k := 3) rfl (zi_incr b 1) (by decide) rfl (fun ls hl => ?_)
            refine lv_goto (tgt := 73) hx hb dM_takeMaps_165 (by decide) ?_
            exact ih73 (b + 1) ab r9 (by omega) (by omega) (by omega) hr2 ha2 (by omega) _ _ _ (lv_sub hl [1, 2, 3, 0] rfl) (hP.sub [0, 1, 2, 3] rfl) (hD.sub [0, 1, 2, 3] (by decide) rfl) hS
          · have hs : tbit tp b := c_106
            obtain ⟨k, hk, hfk⟩ := hkn b (by omega) (by omega) hs
            refine lv_aload_n hx hb dM_takeMaps_109 rfl (lv_at hl 0 rfl) ?_
            refine lv_iload_n hx hb dM_takeMaps_110 rfl (lv_at hl 3 rfl) ?_
            refine lv_iconst (v := nI 1) hx hb dM_takeMaps_111 (by decide) ?_
            refine zi_add hx hb dM_takeMaps_112 ?_
            refine zi_v (b := nI (fFI k)) (by rw [hfk]) ?_
            refine zc_Ri (va_runV (As := [.int (nI (fFI k))]) (rest := []) ⟨hx, hb, hml, hown, hw⟩ (c_fieldOf_ok l dC dI m0 n0 n1 n2 cd dt e0 e1 rt e2 e3 e4 sz9 2 fl pl wr e5 cI cB k (by omega) H) (cwV 1 hw (gV w_ml_M_66 w_im_M_fieldOf w_se_M_fieldOf w_in_M w_co_M_fieldOf) rfl rfl rfl (by decide +kernel) ⟨Nat.le_of_ble_eq_true rfl, Nat.le_of_ble_eq_true rfl⟩) (zR_V hG hS (hP.sub (ws' := [(m0, .inr (4, [.ref n0, .ref n1, .ref n2, .int (nI cd), .int (nI dt), .ref e0, .ref e1, .int (nI rt), .ref e2, .ref e3, .ref e4, .int (nI sz9), .int (nI 2), .int (nI fl), .int pl, .int (nI wr), .ref e5])), (n0, .inl (cI, 16, .inl (aN fFI)))]) [0, 1] rfl) hK 0 rfl rfl) rfl rfl hl.1 rfl (lv_room (Nat.le_of_ble_eq_true rfl)) dM_takeMaps_113 ⟨Nat.le_of_ble_eq_true rfl, Nat.le_of_ble_eq_true rfl⟩) hS (fun r_2 locs h_113 hS => ?_)
            subst h_113
            refine lv_istore (lv' := [(4, .int (nI k)), (0, .ref m0), (1, .int (nI 16)), (2, .int (nI ab)), (3, .int (nI b))]) hx hb dM_takeMaps_116 hl (by decide) rfl (fun ls hl => ?_)
            refine lv_iload hx hb dM_takeMaps_118 (lv_at hl 0 rfl) ?_
            refine zi_ge0 (tgt := 140) hx hb (by omega) dM_takeMaps_120 (by decide) ?_
            refine lv_aload_n hx hb dM_takeMaps_140 rfl (lv_at hl 1 rfl) ?_
            refine va_get (D := (dC, dI)) (ci := 4) (v := .ref e3) (C := RM) (T := TM) (N := 17) hx hb hw inM hown hK hP 0 rfl rfl 9 (by decide) (hw _ w_fl_M_32) (fun _ h9 => h9) rfl dM_takeMaps_141 ?_
            refine lv_iload hx hb dM_takeMaps_144 (lv_at hl 0 rfl) ?_
            refine lv_iconst (v := nI 0) hx hb dM_takeMaps_146 (by decide) ?_
            refine zi_v (b := pm (0 + 1)) (pm_s _).symm ?_
            refine za_pst hx hb hK hP hD hS 2 0 rfl rfl (by omega) (by decide) dM_takeMaps_147 (fun H locs hP hD hS => ?_)
            have hP : va_P (dC, dI) vwCl [(m0, .inr (4, [.ref n0, .ref n1, .ref n2, .int (nI cd), .int (nI dt), .ref e0, .ref e1, .int (nI rt), .ref e2, .ref e3, .ref e4, .int (nI sz9), .int (nI 2), .int (nI fl), .int pl, .int (nI wr), .ref e5])), (n0, .inl (cI, 16, .inl (aN fFI))), (e3, .inl (cI, 16, .inl (aP (nup r9 k (0 + 1))))), (e4, .inl (cI, 400, .inl (aN tp)))] H := hP
            have hD : va_D A [(m0, .inr (4, [.ref n0, .ref n1, .ref n2, .int (nI cd), .int (nI dt), .ref e0, .ref e1, .int (nI rt), .ref e2, .ref e3, .ref e4, .int (nI sz9), .int (nI 2), .int (nI fl), .int pl, .int (nI wr), .ref e5])), (n0, .inl (cI, 16, .inl (aN fFI))), (e3, .inl (cI, 16, .inl (aP (nup r9 k (0 + 1))))), (e4, .inl (cI, 400, .inl (aN tp)))] := hD
            refine lv_iload_n hx hb dM_takeMaps_148 rfl (lv_at hl 3 rfl) ?_
            refine lv_iload_n hx hb dM_takeMaps_149 rfl (lv_at hl 4 rfl) ?_
            refine lv_bipush (v := nI 64) hx hb dM_takeMaps_150 (by decide) ?_
            refine zi_lt (tgt := 159) hx hb (by omega) (by omega) dM_takeMaps_152 (by decide) (fun c_152 => ?_) (fun c_152 => ?_)
            · refine lv_iconst (v := nI 0) hx hb dM_takeMaps_159 (by decide) ?_
              refine zi_add hx hb dM_takeMaps_160 ?_
              refine lv_istore_n (lv' := [(2, .int (nI (ab + 0))), (4, .int (nI k)), (0, .ref m0), (1, .int (nI 16)), (3, .int (nI b))]) hx hb dM_takeMaps_161 rfl hl (by decide) rfl (fun ls hl => ?_)
              have hr2 : nup r9 k (0 + 1) = RSb tp (b + 1) rs := by rw [hr]; exact RSb_set hk hfk hs
              have ha2 : (∃ z, 64 ≤ z ∧ z < b + 1 ∧ tbit tp z) → 1 ≤ ab + 0 := fun ⟨z, z1, z2, z3⟩ => by by_cases q9 : z = b; omega; have := ha ⟨z, z1, by omega, z3⟩; omega
              refine lv_iinc (v := nI (b + 1)) (lv' := [(3, .int (nI (b + 1))), (2, .int (nI (ab + 0))), (4, .int (nI k)), (0, .ref m0), (1, .int (nI 16))]) hx hb dM_takeMaps_162 hl (k := 4) rfl (zi_incr b 1) (by decide) rfl (fun ls hl => ?_)
              refine lv_goto (tgt := 73) hx hb dM_takeMaps_165 (by decide) ?_
              exact ih73 (b + 1) (ab + 0) (nup r9 k (0 + 1)) (by omega) (by omega) (by omega) hr2 ha2 (by omega) _ _ _ (lv_sub hl [3, 4, 1, 0] rfl) (hP.sub [0, 1, 2, 3] rfl) (hD.sub [0, 1, 2, 3] (by decide) rfl) hS
            · refine lv_iconst (v := nI 1) hx hb dM_takeMaps_155 (by decide) ?_
              refine lv_goto (tgt := 160) hx hb dM_takeMaps_156 (by decide) ?_
              refine zi_add hx hb dM_takeMaps_160 ?_
              refine lv_istore_n (lv' := [(2, .int (nI (ab + 1))), (4, .int (nI k)), (0, .ref m0), (1, .int (nI 16)), (3, .int (nI b))]) hx hb dM_takeMaps_161 rfl hl (by decide) rfl (fun ls hl => ?_)
              have hr2 : nup r9 k (0 + 1) = RSb tp (b + 1) rs := by rw [hr]; exact RSb_set hk hfk hs
              have ha2 : (∃ z, 64 ≤ z ∧ z < b + 1 ∧ tbit tp z) → 1 ≤ ab + 1 := fun ⟨z, z1, z2, z3⟩ => by by_cases q9 : z = b; omega; have := ha ⟨z, z1, by omega, z3⟩; omega
              refine lv_iinc (v := nI (b + 1)) (lv' := [(3, .int (nI (b + 1))), (2, .int (nI (ab + 1))), (4, .int (nI k)), (0, .ref m0), (1, .int (nI 16))]) hx hb dM_takeMaps_162 hl (k := 4) rfl (zi_incr b 1) (by decide) rfl (fun ls hl => ?_)
              refine lv_goto (tgt := 73) hx hb dM_takeMaps_165 (by decide) ?_
              exact ih73 (b + 1) (ab + 1) (nup r9 k (0 + 1)) (by omega) (by omega) (by omega) hr2 ha2 (by omega) _ _ _ (lv_sub hl [3, 4, 1, 0] rfl) (hP.sub [0, 1, 2, 3] rfl) (hD.sub [0, 1, 2, 3] (by decide) rfl) hS
    exact lp_73 ((8 * 16 - 1) + 1) 1 0 rs (by omega) (by omega) (by omega) (RSb_1 tp rs) (fun ⟨z, z1, z2, _⟩ => absurd z2 (by omega)) (Nat.lt_succ_self _) _ _ _ (lv_sub hl [3, 2, 1, 0] rfl) (hP.sub [0, 1, 2, 3] rfl) (hD.sub [0, 1, 2, 3] (by decide) rfl) hS
def rm_c_takeMaps_no : Room := ({ frames := 1, cells := 0, slots := 0, locals := 23 } : Room)
set_option maxHeartbeats 4000000 in
set_option maxRecDepth 100000 in
theorem c_takeMaps_no (l : Launch) (dC : Nat → ClassId) (dI : Nat → Nat → Nat) (m0 : Nat) (n0 : Nat) (n1 : Nat) (n2 : Nat) (cd : Nat) (dt : Nat) (e0 : Nat) (e1 : Nat) (rt : Nat) (e2 : Nat) (e3 : Nat) (e4 : Nat) (sz9 : Nat) (fl : Nat) (pl : Int32) (wr : Nat) (e5 : Nat) (cI : ClassId) (cB : ClassId) (rs : Nat → Nat) (tp : Nat → Nat) (k2 : Nat) (p2 : Nat) (hsz : sz9 ≤ 400) (htp : ∀ j, tp j < 256) (hfl : fl = 0) (hd : mapsF tp sz9 2 = some (k2, p2)) (sz : Nat) : Met l yM_takeMaps wsM_takeMaps rm_c_takeMaps_no (zM (dC, dI) [(cI, .int), (cB, .byte)] [.ref m0] [(m0, .inr (4, [.ref n0, .ref n1, .ref n2, .int (nI cd), .int (nI dt), .ref e0, .ref e1, .int (nI rt), .ref e2, .ref e3, .ref e4, .int (nI sz9), .int (nI 2), .int (nI fl), .int pl, .int (nI wr), .ref e5])), (n0, .inl (cI, 16, .inl (aN fFI))), (e3, .inl (cI, 16, .inl (aP rs))), (e4, .inl (cI, 400, .inl (aN tp)))] sz) (zSv (dC, dI) [(m0, .inr (4, [.ref n0, .ref n1, .ref n2, .int (nI cd), .int (nI dt), .ref e0, .ref e1, .int (nI rt), .ref e2, .ref e3, .ref e4, .int (nI sz9), .int (nI 2), .int (nI fl), .int pl, .int (nI wr), .ref e5])), (n0, .inl (cI, 16, .inl (aN fFI))), (e3, .inl (cI, 16, .inl (aP rs))), (e4, .inl (cI, 400, .inl (aN tp)))] sz (fun (u : Nat × (Nat → Nat)) => True) (fun u => [(m0, .inr (4, [.ref n0, .ref n1, .ref n2, .int (nI cd), .int (nI dt), .ref e0, .ref e1, .int (nI rt), .ref e2, .ref e3, .ref e4, .int (nI sz9), .int (nI u.1), .int (nI k2), .int (nI p2), .int (nI wr), .ref e5])), (n0, .inl (cI, 16, .inl (aN fFI))), (e3, .inl (cI, 16, .inl (aP u.2))), (e4, .inl (cI, 400, .inl (aN tp)))])) 0 0 (va_A [(m0, .inr (4, [.ref n0, .ref n1, .ref n2, .int (nI cd), .int (nI dt), .ref e0, .ref e1, .int (nI rt), .ref e2, .ref e3, .ref e4, .int (nI sz9), .int (nI 2), .int (nI fl), .int pl, .int (nI wr), .ref e5])), (n0, .inl (cI, 16, .inl (aN fFI))), (e3, .inl (cI, 16, .inl (aP rs))), (e4, .inl (cI, 400, .inl (aN tp)))] sz) := by
  refine Met.ofW (cc := cM_takeMaps) (maxL := 5) (ret := none) (by decide) rfl ?_
  intro p e s m args below meth c s₁ Bd hml hv
  obtain ⟨rfl, hsz, hG, hP, hK, hD0⟩ := hv
  subst hsz
  have hx := Bd.exec
  have hb := Bd.bytes
  have hr := Bd.returns
  have hts := atoms_spec (ws := wsM_takeMaps) Bd.pre
  have hw : ∀ w ∈ BIG, w.before _ s = true := fun w h => hts w (List.mem_cons_of_mem _ h)
  have hown : s.vm.findClass RM = some m.cls := findClass_of_methodNamed Bd.named
  have hlocks := Bd.notSynchronized
  have hD := hD0.self (sz := s.heap.size)
  obtain ⟨A, hAe⟩ : ∃ A, A = va_A [(m0, .inr (4, [.ref n0, .ref n1, .ref n2, .int (nI cd), .int (nI dt), .ref e0, .ref e1, .int (nI rt), .ref e2, .ref e3, .ref e4, .int (nI sz9), .int (nI 2), .int (nI fl), .int pl, .int (nI wr), .ref e5])), (n0, .inl (cI, 16, .inl (aN fFI))), (e3, .inl (cI, 16, .inl (aP rs))), (e4, .inl (cI, 400, .inl (aN tp)))] s.heap.size := ⟨_, rfl⟩
  have hA : ∀ q : Nat, s.heap.size ≤ q → A q := fun q h => by rw [hAe]; exact Or.inr h
  rw [← hAe] at hG hD
  have hS : va_S A s.heap s.heap [] := va_S.rf
  have hl := lv_entry ([.ref m0]) (n := 5) (Nat.le_of_ble_eq_true rfl)
  rw [lg_entry_eq]
  generalize (lg_sl ([.ref m0]) ++ List.replicate (5 - (lg_sl ([.ref m0])).length) Slot.unset).toArray = ls at hl ⊢
  have hl : lv_has ls 5 [(0, .ref m0)] := hl
  refine zq_name (fun Q hQ => ?_)
  change W p l e rm_c_takeMaps_no s m _ below meth c _ _ _ _ Q _
  have ht2 := htp 2
  rcases mapsF_no hd with ⟨hl8, rfl, rfl⟩ | ⟨hl8, h8, hmp⟩ | ⟨hl8, h8, hl16, rfl, rfl⟩ | ⟨h8, hl16, hmp⟩ | ⟨h8, hl16, hmp, hany, rfl, rfl⟩
  · refine lv_aload_n hx hb dM_takeMaps_0 rfl (lv_at hl 0 rfl) ?_
    refine va_get (D := (dC, dI)) (ci := 4) (v := .int (nI 2)) (C := RM) (T := TM) (N := 17) hx hb hw inM hown hK hP 0 rfl rfl 12 (by decide) (hw _ w_fl_M_108) (fun _ h9 => h9) rfl dM_takeMaps_1 ?_
    refine lv_bipush (v := nI 8) hx hb dM_takeMaps_4 (by decide) ?_
    refine lv_iadd hx hb dM_takeMaps_6 ?_
    refine zi_v (b := nI 10) (by decide) ?_
    refine lv_aload_n hx hb dM_takeMaps_7 rfl (lv_at hl 0 rfl) ?_
    refine va_get (D := (dC, dI)) (ci := 4) (v := .int (nI sz9)) (C := RM) (T := TM) (N := 17) hx hb hw inM hown hK hP 0 rfl rfl 11 (by decide) (hw _ w_fl_M_99) (fun _ h9 => h9) rfl dM_takeMaps_8 ?_
    refine zi_le (tgt := 24) hx hb (by omega) (by omega) dM_takeMaps_11 (by decide) (fun q => False.elim ((by omega))) (fun c_11 => ?_)
    refine lv_aload_n hx hb dM_takeMaps_14 rfl (lv_at hl 0 rfl) ?_
    refine lv_iconst (v := nI 1) hx hb dM_takeMaps_15 (by decide) ?_
    refine lv_aload_n hx hb dM_takeMaps_16 rfl (lv_at hl 0 rfl) ?_
    refine va_get (D := (dC, dI)) (ci := 4) (v := .int (nI sz9)) (C := RM) (T := TM) (N := 17) hx hb hw inM hown hK hP 0 rfl rfl 11 (by decide) (hw _ w_fl_M_99) (fun _ h9 => h9) rfl dM_takeMaps_17 ?_
    have hPc := hP.sub (ws' := [(m0, .inr (4, [.ref n0, .ref n1, .ref n2, .int (nI cd), .int (nI dt), .ref e0, .ref e1, .int (nI rt), .ref e2, .ref e3, .ref e4, .int (nI sz9), .int (nI 2), .int (nI fl), .int pl, .int (nI wr), .ref e5]))]) [0] rfl
    have hDc := hD.sub (ws' := [(m0, .inr (4, [.ref n0, .ref n1, .ref n2, .int (nI cd), .int (nI dt), .ref e0, .ref e1, .int (nI rt), .ref e2, .ref e3, .ref e4, .int (nI sz9), .int (nI 2), .int (nI fl), .int pl, .int (nI wr), .ref e5]))]) [0] (by decide) rfl
    have hFc := va_free (wc := [(m0, .inr (4, [.ref n0, .ref n1, .ref n2, .int (nI cd), .int (nI dt), .ref e0, .ref e1, .int (nI rt), .ref e2, .ref e3, .ref e4, .int (nI sz9), .int (nI 2), .int (nI fl), .int pl, .int (nI wr), .ref e5]))]) hD hS hA [0] rfl
    refine zc_Mv (va_runV (As := [.int (nI 1), .int (nI sz9)]) (rest := []) ⟨hx, hb, hml, hown, hw⟩ (c_fails_1 l dC dI m0 n0 n1 n2 cd dt e0 e1 rt e2 e3 e4 sz9 2 fl pl wr e5 cI cB 1 (nI sz9) (by omega) s.heap.size) (cwV 2 hw (gV w_ml_M_111 w_im_M_fails w_se_M_fails w_in_M w_co_M_fails) rfl rfl rfl (by decide +kernel) ⟨Nat.le_of_ble_eq_true rfl, Nat.le_of_ble_eq_true rfl⟩) (zM_V hG hS hFc hPc hDc hK 0 rfl rfl) rfl rfl hl.1 rfl (lv_room (Nat.le_of_ble_eq_true rfl)) dM_takeMaps_20 ⟨Nat.le_of_ble_eq_true rfl, Nat.le_of_ble_eq_true rfl⟩) hS hFc (fun H locs h_20 hP1 hD1 hk1 hS => ?_)
    obtain ⟨hP, hD⟩ := va_join (wr := [(n0, .inl (cI, 16, .inl (aN fFI))), (e3, .inl (cI, 16, .inl (aP rs))), (e4, .inl (cI, 400, .inl (aN tp)))]) (w1 := [(m0, .inr (4, [.ref n0, .ref n1, .ref n2, .int (nI cd), .int (nI dt), .ref e0, .ref e1, .int (nI rt), .ref e2, .ref e3, .ref e4, .int (nI sz9), .int (nI 2), .int (nI 1), .int (nI sz9), .int (nI wr), .ref e5]))]) hP hD [0] [1, 2, 3] rfl rfl (by decide) (by decide) hk1 hFc hP1 hD1
    have hP : va_P (dC, dI) vwCl [(n0, .inl (cI, 16, .inl (aN fFI))), (e3, .inl (cI, 16, .inl (aP rs))), (e4, .inl (cI, 400, .inl (aN tp))), (m0, .inr (4, [.ref n0, .ref n1, .ref n2, .int (nI cd), .int (nI dt), .ref e0, .ref e1, .int (nI rt), .ref e2, .ref e3, .ref e4, .int (nI sz9), .int (nI 2), .int (nI 1), .int (nI sz9), .int (nI wr), .ref e5]))] H := hP
    have hD : va_D A [(n0, .inl (cI, 16, .inl (aN fFI))), (e3, .inl (cI, 16, .inl (aP rs))), (e4, .inl (cI, 400, .inl (aN tp))), (m0, .inr (4, [.ref n0, .ref n1, .ref n2, .int (nI cd), .int (nI dt), .ref e0, .ref e1, .int (nI rt), .ref e2, .ref e3, .ref e4, .int (nI sz9), .int (nI 2), .int (nI 1), .int (nI sz9), .int (nI wr), .ref e5]))] := hD
    subst hAe
    subst hQ
    exact W.vret hx hb hr (fun t ht hW => ⟨⟨(2, rs), rfl, trivial, by rw [ht]; exact hP.sub [3, 0, 1, 2] rfl, hD.sub [3, 0, 1, 2] (by decide) rfl⟩, hS.F ht⟩) hS.2.2 dM_takeMaps_23
  · obtain rfl : 4 = k2 := (mpL_some _ _ hmp).choose_spec.2.2.1
    refine lv_aload_n hx hb dM_takeMaps_0 rfl (lv_at hl 0 rfl) ?_
    refine va_get (D := (dC, dI)) (ci := 4) (v := .int (nI 2)) (C := RM) (T := TM) (N := 17) hx hb hw inM hown hK hP 0 rfl rfl 12 (by decide) (hw _ w_fl_M_108) (fun _ h9 => h9) rfl dM_takeMaps_1 ?_
    refine lv_bipush (v := nI 8) hx hb dM_takeMaps_4 (by decide) ?_
    refine lv_iadd hx hb dM_takeMaps_6 ?_
    refine zi_v (b := nI 10) (by decide) ?_
    refine lv_aload_n hx hb dM_takeMaps_7 rfl (lv_at hl 0 rfl) ?_
    refine va_get (D := (dC, dI)) (ci := 4) (v := .int (nI sz9)) (C := RM) (T := TM) (N := 17) hx hb hw inM hown hK hP 0 rfl rfl 11 (by decide) (hw _ w_fl_M_99) (fun _ h9 => h9) rfl dM_takeMaps_8 ?_
    refine zi_le (tgt := 24) hx hb (by omega) (by omega) dM_takeMaps_11 (by decide) (fun c_11 => ?_) (fun q => False.elim ((by omega)))
    refine lv_aload_n hx hb dM_takeMaps_24 rfl (lv_at hl 0 rfl) ?_
    refine va_get (D := (dC, dI)) (ci := 4) (v := .ref e4) (C := RM) (T := TM) (N := 17) hx hb hw inM hown hK hP 0 rfl rfl 10 (by decide) (hw _ w_fl_M_35) (fun _ h9 => h9) rfl dM_takeMaps_25 ?_
    refine lv_aload_n hx hb dM_takeMaps_28 rfl (lv_at hl 0 rfl) ?_
    refine va_get (D := (dC, dI)) (ci := 4) (v := .int (nI 2)) (C := RM) (T := TM) (N := 17) hx hb hw inM hown hK hP 0 rfl rfl 12 (by decide) (hw _ w_fl_M_108) (fun _ h9 => h9) rfl dM_takeMaps_29 ?_
    refine za_ild hx hb hK hP 3 0 rfl rfl (by omega) (by decide) dM_takeMaps_32 ?_
    refine lv_bipush (v := nI 127) hx hb dM_takeMaps_33 (by decide) ?_
    refine zi_le (tgt := 43) hx hb (by omega) (by omega) dM_takeMaps_35 (by decide) (fun c_35 => ?_) (fun q => False.elim ((by omega)))
    refine lv_bipush (v := nI 8) hx hb dM_takeMaps_43 (by decide) ?_
    refine lv_istore_n (lv' := [(1, .int (nI 8)), (0, .ref m0)]) hx hb dM_takeMaps_45 rfl hl (by decide) rfl (fun ls hl => ?_)
    refine lv_aload_n hx hb dM_takeMaps_46 rfl (lv_at hl 1 rfl) ?_
    refine va_get (D := (dC, dI)) (ci := 4) (v := .int (nI 2)) (C := RM) (T := TM) (N := 17) hx hb hw inM hown hK hP 0 rfl rfl 12 (by decide) (hw _ w_fl_M_108) (fun _ h9 => h9) rfl dM_takeMaps_47 ?_
    refine lv_iload_n hx hb dM_takeMaps_50 rfl (lv_at hl 0 rfl) ?_
    refine lv_iadd hx hb dM_takeMaps_51 ?_
    refine zi_v (b := nI 10) (by decide) ?_
    refine lv_aload_n hx hb dM_takeMaps_52 rfl (lv_at hl 1 rfl) ?_
    refine va_get (D := (dC, dI)) (ci := 4) (v := .int (nI sz9)) (C := RM) (T := TM) (N := 17) hx hb hw inM hown hK hP 0 rfl rfl 11 (by decide) (hw _ w_fl_M_99) (fun _ h9 => h9) rfl dM_takeMaps_53 ?_
    refine zi_le (tgt := 69) hx hb (by omega) (by omega) dM_takeMaps_56 (by decide) (fun c_56 => ?_) (fun q => False.elim ((by omega)))
    refine lv_iconst (v := nI 0) hx hb dM_takeMaps_69 (by decide) ?_
    refine lv_istore_n (lv' := [(2, .int (nI 0)), (1, .int (nI 8)), (0, .ref m0)]) hx hb dM_takeMaps_70 rfl hl (by decide) rfl (fun ls hl => ?_)
    refine lv_iconst (v := nI 1) hx hb dM_takeMaps_71 (by decide) ?_
    refine lv_istore_n (lv' := [(3, .int (nI 1)), (2, .int (nI 0)), (1, .int (nI 8)), (0, .ref m0)]) hx hb dM_takeMaps_72 rfl hl (by decide) rfl (fun ls hl => ?_)
    have lp_73 : ∀ (fu : Nat) (b : Nat) (ab : Nat) (r9 : Nat → Nat) (fl9 : Nat) (pl9 : Int32) (hb1 : 1 ≤ b) (hb2 : b ≤ 8 * 8) (hab9 : ab ≤ b) (hst : (fl9 = 0 ∧ ∀ z, 1 ≤ z → z < b → tbit tp z → kno z) ∨ (fl9 = 4 ∧ pl9 = nI p2)) (hms : 8 * 8 - b < fu) (H : Heap) (locs : List Loc) (ls : Array Slot), lv_has ls 5 [(0, .ref m0), (1, .int (nI 8)), (2, .int (nI ab)), (3, .int (nI b))] → va_P (dC, dI) vwCl [(m0, .inr (4, [.ref n0, .ref n1, .ref n2, .int (nI cd), .int (nI dt), .ref e0, .ref e1, .int (nI rt), .ref e2, .ref e3, .ref e4, .int (nI sz9), .int (nI 2), .int (nI fl9), .int pl9, .int (nI wr), .ref e5])), (n0, .inl (cI, 16, .inl (aN fFI))), (e3, .inl (cI, 16, .inl (aP r9))), (e4, .inl (cI, 400, .inl (aN tp)))] H → va_D A [(m0, .inr (4, [.ref n0, .ref n1, .ref n2, .int (nI cd), .int (nI dt), .ref e0, .ref e1, .int (nI rt), .ref e2, .ref e3, .ref e4, .int (nI sz9), .int (nI 2), .int (nI fl9), .int pl9, .int (nI wr), .ref e5])), (n0, .inl (cI, 16, .inl (aN fFI))), (e3, .inl (cI, 16, .inl (aP r9))), (e4, .inl (cI, 400, .inl (aN tp)))] → va_S A s.heap H locs → W p l e rm_c_takeMaps_no s m ([.ref m0] : List Value).toArray below meth c H locs 0 0 Q (F0 m 73 ls []) := by
      intro fu
      induction fu with
      | zero => intro b ab r9 fl9 pl9 hb1 hb2 hab9 hst hms; exact absurd hms (Nat.not_lt_zero _)
      | succ fu ih73 =>
        intro b ab r9 fl9 pl9 hb1 hb2 hab9 hst hms H locs ls hl hP hD hS
        refine lv_iload_n hx hb dM_takeMaps_73 rfl (lv_at hl 3 rfl) ?_
        refine lv_bipush (v := nI 8) hx hb dM_takeMaps_74 (by decide) ?_
        refine lv_iload_n hx hb dM_takeMaps_76 rfl (lv_at hl 1 rfl) ?_
        refine zi_mul hx hb dM_takeMaps_77 ?_
        refine zi_ge (tgt := 168) hx hb (by omega) (by omega) dM_takeMaps_78 (by decide) (fun c_78 => ?_) (fun c_78 => ?_)
        · obtain ⟨rfl, rfl⟩ : fl9 = 4 ∧ pl9 = nI p2 := by
            rcases hst with ⟨-, hall⟩ | hf4
            · obtain ⟨i0, i1, i2, -, i4, i5, i6⟩ := mpL_some _ _ hmp
              obtain ⟨b0, b1, b2, b3, b4⟩ := unk_of htp (by omega) i5
              exact absurd (hall b0 b2 (by omega) b3) b4
            · exact hf4
          have hP : va_P (dC, dI) vwCl [(m0, .inr (4, [.ref n0, .ref n1, .ref n2, .int (nI cd), .int (nI dt), .ref e0, .ref e1, .int (nI rt), .ref e2, .ref e3, .ref e4, .int (nI sz9), .int (nI 2), .int (nI 4), .int (nI p2), .int (nI wr), .ref e5])), (n0, .inl (cI, 16, .inl (aN fFI))), (e3, .inl (cI, 16, .inl (aP r9))), (e4, .inl (cI, 400, .inl (aN tp)))] H := hP
          have hD : va_D A [(m0, .inr (4, [.ref n0, .ref n1, .ref n2, .int (nI cd), .int (nI dt), .ref e0, .ref e1, .int (nI rt), .ref e2, .ref e3, .ref e4, .int (nI sz9), .int (nI 2), .int (nI 4), .int (nI p2), .int (nI wr), .ref e5])), (n0, .inl (cI, 16, .inl (aN fFI))), (e3, .inl (cI, 16, .inl (aP r9))), (e4, .inl (cI, 400, .inl (aN tp)))] := hD
          refine lv_iload_n hx hb dM_takeMaps_168 rfl (lv_at hl 1 rfl) ?_
          refine lv_bipush (v := nI 16) hx hb dM_takeMaps_169 (by decide) ?_
          refine lv_icmp_ne (tgt := 190) hx hb dM_takeMaps_171 (by decide) (fun c_171 => ?_) (fun q => False.elim (absurd q (by decide)))
          refine lv_aload_n hx hb dM_takeMaps_190 rfl (lv_at hl 0 rfl) ?_
          refine lv_dup hx hb dM_takeMaps_191 rfl ?_
          refine va_get (D := (dC, dI)) (ci := 4) (v := .int (nI 2)) (C := RM) (T := TM) (N := 17) hx hb hw inM hown hK hP 0 rfl rfl 12 (by decide) (hw _ w_fl_M_108) (fun _ h9 => h9) rfl dM_takeMaps_192 ?_
          refine lv_iload_n hx hb dM_takeMaps_195 rfl (lv_at hl 1 rfl) ?_
          refine lv_iadd hx hb dM_takeMaps_196 ?_
          refine zi_v (b := nI 10) (by decide) ?_
          refine va_put (D := (dC, dI)) (ci := 4) (v := .int (nI 10)) (ty := .int) (C := RM) (T := TM) (N := 17) hx hb hw inM tyM tyM_ok nmM hown hK hP hD hS 0 rfl rfl 12 (by decide) (hw _ w_fl_M_108) (fun _ h9 => h9) rfl (by decide +kernel) rfl rfl (Nat.le_of_ble_eq_true rfl) dM_takeMaps_197 (fun H locs hP hD hS => ?_)
          have hP : va_P (dC, dI) vwCl [(m0, .inr (4, [.ref n0, .ref n1, .ref n2, .int (nI cd), .int (nI dt), .ref e0, .ref e1, .int (nI rt), .ref e2, .ref e3, .ref e4, .int (nI sz9), .int (nI 10), .int (nI 4), .int (nI p2), .int (nI wr), .ref e5])), (n0, .inl (cI, 16, .inl (aN fFI))), (e3, .inl (cI, 16, .inl (aP r9))), (e4, .inl (cI, 400, .inl (aN tp)))] H := hP
          have hD : va_D A [(m0, .inr (4, [.ref n0, .ref n1, .ref n2, .int (nI cd), .int (nI dt), .ref e0, .ref e1, .int (nI rt), .ref e2, .ref e3, .ref e4, .int (nI sz9), .int (nI 10), .int (nI 4), .int (nI p2), .int (nI wr), .ref e5])), (n0, .inl (cI, 16, .inl (aN fFI))), (e3, .inl (cI, 16, .inl (aP r9))), (e4, .inl (cI, 400, .inl (aN tp)))] := hD
          subst hAe
          subst hQ
          exact W.vret hx hb hr (fun t ht hW => ⟨⟨(10, r9), rfl, trivial, by rw [ht]; exact hP.sub [0, 1, 2, 3] rfl, hD.sub [0, 1, 2, 3] (by decide) rfl⟩, hS.F ht⟩) hS.2.2 dM_takeMaps_200
        · have ht9 := htp (2 + b / 8)
          refine lv_aload_n hx hb dM_takeMaps_81 rfl (lv_at hl 0 rfl) ?_
          refine va_get (D := (dC, dI)) (ci := 4) (v := .ref e4) (C := RM) (T := TM) (N := 17) hx hb hw inM hown hK hP 0 rfl rfl 10 (by decide) (hw _ w_fl_M_35) (fun _ h9 => h9) rfl dM_takeMaps_82 ?_
          refine lv_aload_n hx hb dM_takeMaps_85 rfl (lv_at hl 0 rfl) ?_
          refine va_get (D := (dC, dI)) (ci := 4) (v := .int (nI 2)) (C := RM) (T := TM) (N := 17) hx hb hw inM hown hK hP 0 rfl rfl 12 (by decide) (hw _ w_fl_M_108) (fun _ h9 => h9) rfl dM_takeMaps_86 ?_
          refine lv_iload_n hx hb dM_takeMaps_89 rfl (lv_at hl 3 rfl) ?_
          refine lv_bipush (v := nI 8) hx hb dM_takeMaps_90 (by decide) ?_
          refine zi_div hx hb (by omega) (by omega) (by omega) dM_takeMaps_92 ?_
          refine zi_add hx hb dM_takeMaps_93 ?_
          refine za_ild hx hb hK hP 3 0 rfl rfl (by omega) (by decide) dM_takeMaps_94 ?_
          refine lv_bipush (v := nI 7) hx hb dM_takeMaps_95 (by decide) ?_
          refine lv_iload_n hx hb dM_takeMaps_97 rfl (lv_at hl 3 rfl) ?_
          refine lv_bipush (v := nI 8) hx hb dM_takeMaps_98 (by decide) ?_
          refine zi_rem hx hb (by omega) (by omega) (by omega) dM_takeMaps_100 ?_
          refine zi_sub hx hb (by omega) dM_takeMaps_101 ?_
          refine lv_ishr hx hb dM_takeMaps_102 ?_
          refine zi_v (b := nI (tp (2 + b / 8) / 2 ^ (7 - b % 8))) (shr_N (by omega) (by omega)) ?_
          have hdv : tp (2 + b / 8) / 2 ^ (7 - b % 8) ≤ tp (2 + b / 8) := Nat.div_le_self _ _
          refine lv_iconst (v := nI 1) hx hb dM_takeMaps_103 (by decide) ?_
          refine zi_and hx hb 1 (by omega) (by decide) dM_takeMaps_104 ?_
          refine zi_v (b := nI ((tp (2 + b / 8) / 2 ^ (7 - b % 8)) % 2)) rfl ?_
          refine lv_iconst (v := nI 1) hx hb dM_takeMaps_105 (by decide) ?_
          refine zi_ne (tgt := 162) hx hb (by omega) (by omega) dM_takeMaps_106 (by decide) (fun c_106 => ?_) (fun c_106 => ?_)
          · have hst2 : (fl9 = 0 ∧ ∀ z, 1 ≤ z → z < b + 1 → tbit tp z → kno z) ∨ (fl9 = 4 ∧ pl9 = nI p2) := hst.imp (fun h => ⟨h.1, fun z z1 z2 z3 => h.2 z z1 (by have : z ≠ b := (fun q9 => c_106 (q9 ▸ z3)); omega) z3⟩) id
            refine lv_iinc (v := nI (b + 1)) (lv' := [(3, .int (nI (b + 1))), (0, .ref m0), (1, .int (nI 8)), (2, .int (nI ab))]) hx hb dM_takeMaps_162 hl (k := 3) rfl (zi_incr b 1) (by decide) rfl (fun ls hl => ?_)
            refine lv_goto (tgt := 73) hx hb dM_takeMaps_165 (by decide) ?_
            exact ih73 (b + 1) ab r9 fl9 pl9 (by omega) (by omega) (by omega) hst2 (by omega) _ _ _ (lv_sub hl [1, 2, 3, 0] rfl) (hP.sub [0, 1, 2, 3] rfl) (hD.sub [0, 1, 2, 3] (by decide) rfl) hS
          · have hs : tbit tp b := c_106
            by_cases hkb : kno b
            · obtain ⟨k, hk, hfk⟩ := hkb
              refine lv_aload_n hx hb dM_takeMaps_109 rfl (lv_at hl 0 rfl) ?_
              refine lv_iload_n hx hb dM_takeMaps_110 rfl (lv_at hl 3 rfl) ?_
              refine lv_iconst (v := nI 1) hx hb dM_takeMaps_111 (by decide) ?_
              refine zi_add hx hb dM_takeMaps_112 ?_
              refine zi_v (b := nI (fFI k)) (by rw [hfk]) ?_
              refine zc_Ri (va_runV (As := [.int (nI (fFI k))]) (rest := []) ⟨hx, hb, hml, hown, hw⟩ (c_fieldOf_ok l dC dI m0 n0 n1 n2 cd dt e0 e1 rt e2 e3 e4 sz9 2 fl9 pl9 wr e5 cI cB k (by omega) H) (cwV 1 hw (gV w_ml_M_66 w_im_M_fieldOf w_se_M_fieldOf w_in_M w_co_M_fieldOf) rfl rfl rfl (by decide +kernel) ⟨Nat.le_of_ble_eq_true rfl, Nat.le_of_ble_eq_true rfl⟩) (zR_V hG hS (hP.sub (ws' := [(m0, .inr (4, [.ref n0, .ref n1, .ref n2, .int (nI cd), .int (nI dt), .ref e0, .ref e1, .int (nI rt), .ref e2, .ref e3, .ref e4, .int (nI sz9), .int (nI 2), .int (nI fl9), .int pl9, .int (nI wr), .ref e5])), (n0, .inl (cI, 16, .inl (aN fFI)))]) [0, 1] rfl) hK 0 rfl rfl) rfl rfl hl.1 rfl (lv_room (Nat.le_of_ble_eq_true rfl)) dM_takeMaps_113 ⟨Nat.le_of_ble_eq_true rfl, Nat.le_of_ble_eq_true rfl⟩) hS (fun r_2 locs h_113 hS => ?_)
              subst h_113
              refine lv_istore (lv' := [(4, .int (nI k)), (0, .ref m0), (1, .int (nI 8)), (2, .int (nI ab)), (3, .int (nI b))]) hx hb dM_takeMaps_116 hl (by decide) rfl (fun ls hl => ?_)
              refine lv_iload hx hb dM_takeMaps_118 (lv_at hl 0 rfl) ?_
              refine zi_ge0 (tgt := 140) hx hb (by omega) dM_takeMaps_120 (by decide) ?_
              refine lv_aload_n hx hb dM_takeMaps_140 rfl (lv_at hl 1 rfl) ?_
              refine va_get (D := (dC, dI)) (ci := 4) (v := .ref e3) (C := RM) (T := TM) (N := 17) hx hb hw inM hown hK hP 0 rfl rfl 9 (by decide) (hw _ w_fl_M_32) (fun _ h9 => h9) rfl dM_takeMaps_141 ?_
              refine lv_iload hx hb dM_takeMaps_144 (lv_at hl 0 rfl) ?_
              refine lv_iconst (v := nI 0) hx hb dM_takeMaps_146 (by decide) ?_
              refine zi_v (b := pm (0 + 1)) (pm_s _).symm ?_
              refine za_pst hx hb hK hP hD hS 2 0 rfl rfl (by omega) (by decide) dM_takeMaps_147 (fun H locs hP hD hS => ?_)
              have hP : va_P (dC, dI) vwCl [(m0, .inr (4, [.ref n0, .ref n1, .ref n2, .int (nI cd), .int (nI dt), .ref e0, .ref e1, .int (nI rt), .ref e2, .ref e3, .ref e4, .int (nI sz9), .int (nI 2), .int (nI fl9), .int pl9, .int (nI wr), .ref e5])), (n0, .inl (cI, 16, .inl (aN fFI))), (e3, .inl (cI, 16, .inl (aP (nup r9 k (0 + 1))))), (e4, .inl (cI, 400, .inl (aN tp)))] H := hP
              have hD : va_D A [(m0, .inr (4, [.ref n0, .ref n1, .ref n2, .int (nI cd), .int (nI dt), .ref e0, .ref e1, .int (nI rt), .ref e2, .ref e3, .ref e4, .int (nI sz9), .int (nI 2), .int (nI fl9), .int pl9, .int (nI wr), .ref e5])), (n0, .inl (cI, 16, .inl (aN fFI))), (e3, .inl (cI, 16, .inl (aP (nup r9 k (0 + 1))))), (e4, .inl (cI, 400, .inl (aN tp)))] := hD
              refine lv_iload_n hx hb dM_takeMaps_148 rfl (lv_at hl 3 rfl) ?_
              refine lv_iload_n hx hb dM_takeMaps_149 rfl (lv_at hl 4 rfl) ?_
              refine lv_bipush (v := nI 64) hx hb dM_takeMaps_150 (by decide) ?_
              refine zi_lt (tgt := 159) hx hb (by omega) (by omega) dM_takeMaps_152 (by decide) (fun c_152 => ?_) (fun c_152 => ?_)
              · refine lv_iconst (v := nI 0) hx hb dM_takeMaps_159 (by decide) ?_
                refine zi_add hx hb dM_takeMaps_160 ?_
                refine lv_istore_n (lv' := [(2, .int (nI (ab + 0))), (4, .int (nI k)), (0, .ref m0), (1, .int (nI 8)), (3, .int (nI b))]) hx hb dM_takeMaps_161 rfl hl (by decide) rfl (fun ls hl => ?_)
                have hst2 : (fl9 = 0 ∧ ∀ z, 1 ≤ z → z < b + 1 → tbit tp z → kno z) ∨ (fl9 = 4 ∧ pl9 = nI p2) := hst.imp (fun h => ⟨h.1, fun z z1 z2 z3 => by by_cases q9 : z = b; rw [q9]; exact ⟨k, hk, hfk⟩; exact h.2 z z1 (by omega) z3⟩) id
                refine lv_iinc (v := nI (b + 1)) (lv' := [(3, .int (nI (b + 1))), (2, .int (nI (ab + 0))), (4, .int (nI k)), (0, .ref m0), (1, .int (nI 8))]) hx hb dM_takeMaps_162 hl (k := 4) rfl (zi_incr b 1) (by decide) rfl (fun ls hl => ?_)
                refine lv_goto (tgt := 73) hx hb dM_takeMaps_165 (by decide) ?_
                exact ih73 (b + 1) (ab + 0) (nup r9 k (0 + 1)) fl9 pl9 (by omega) (by omega) (by omega) hst2 (by omega) _ _ _ (lv_sub hl [3, 4, 1, 0] rfl) (hP.sub [0, 1, 2, 3] rfl) (hD.sub [0, 1, 2, 3] (by decide) rfl) hS
              · refine lv_iconst (v := nI 1) hx hb dM_takeMaps_155 (by decide) ?_
                refine lv_goto (tgt := 160) hx hb dM_takeMaps_156 (by decide) ?_
                refine zi_add hx hb dM_takeMaps_160 ?_
                refine lv_istore_n (lv' := [(2, .int (nI (ab + 1))), (4, .int (nI k)), (0, .ref m0), (1, .int (nI 8)), (3, .int (nI b))]) hx hb dM_takeMaps_161 rfl hl (by decide) rfl (fun ls hl => ?_)
                have hst2 : (fl9 = 0 ∧ ∀ z, 1 ≤ z → z < b + 1 → tbit tp z → kno z) ∨ (fl9 = 4 ∧ pl9 = nI p2) := hst.imp (fun h => ⟨h.1, fun z z1 z2 z3 => by by_cases q9 : z = b; rw [q9]; exact ⟨k, hk, hfk⟩; exact h.2 z z1 (by omega) z3⟩) id
                refine lv_iinc (v := nI (b + 1)) (lv' := [(3, .int (nI (b + 1))), (2, .int (nI (ab + 1))), (4, .int (nI k)), (0, .ref m0), (1, .int (nI 8))]) hx hb dM_takeMaps_162 hl (k := 4) rfl (zi_incr b 1) (by decide) rfl (fun ls hl => ?_)
                refine lv_goto (tgt := 73) hx hb dM_takeMaps_165 (by decide) ?_
                exact ih73 (b + 1) (ab + 1) (nup r9 k (0 + 1)) fl9 pl9 (by omega) (by omega) (by omega) hst2 (by omega) _ _ _ (lv_sub hl [3, 4, 1, 0] rfl) (hP.sub [0, 1, 2, 3] rfl) (hD.sub [0, 1, 2, 3] (by decide) rfl) hS
            · refine lv_aload_n hx hb dM_takeMaps_109 rfl (lv_at hl 0 rfl) ?_
              refine lv_iload_n hx hb dM_takeMaps_110 rfl (lv_at hl 3 rfl) ?_
              refine lv_iconst (v := nI 1) hx hb dM_takeMaps_111 (by decide) ?_
              refine zi_add hx hb dM_takeMaps_112 ?_
              have hx9 : ∀ j, j < 16 → nI (fFI j) ≠ nI (b + 1) := fun j hj z => hkb ⟨j, hj, by have := fFI_b j hj; exact (nI_eq (by omega) (by omega)).mp z⟩
              refine zc_Ri (va_runV (As := [.int (nI (b + 1))]) (rest := []) ⟨hx, hb, hml, hown, hw⟩ (c_fieldOf_no l dC dI m0 n0 n1 n2 cd dt e0 e1 rt e2 e3 e4 sz9 2 fl9 pl9 wr e5 cI cB (nI (b + 1)) hx9 H) (cwV 1 hw (gV w_ml_M_66 w_im_M_fieldOf w_se_M_fieldOf w_in_M w_co_M_fieldOf) rfl rfl rfl (by decide +kernel) ⟨Nat.le_of_ble_eq_true rfl, Nat.le_of_ble_eq_true rfl⟩) (zR_V hG hS (hP.sub (ws' := [(m0, .inr (4, [.ref n0, .ref n1, .ref n2, .int (nI cd), .int (nI dt), .ref e0, .ref e1, .int (nI rt), .ref e2, .ref e3, .ref e4, .int (nI sz9), .int (nI 2), .int (nI fl9), .int pl9, .int (nI wr), .ref e5])), (n0, .inl (cI, 16, .inl (aN fFI)))]) [0, 1] rfl) hK 0 rfl rfl) rfl rfl hl.1 rfl (lv_room (Nat.le_of_ble_eq_true rfl)) dM_takeMaps_113 ⟨Nat.le_of_ble_eq_true rfl, Nat.le_of_ble_eq_true rfl⟩) hS (fun r_3 locs h_113 hS => ?_)
              subst h_113
              refine lv_istore (lv' := [(4, .int (-1)), (0, .ref m0), (1, .int (nI 8)), (2, .int (nI ab)), (3, .int (nI b))]) hx hb dM_takeMaps_116 hl (by decide) rfl (fun ls hl => ?_)
              refine lv_iload hx hb dM_takeMaps_118 (lv_at hl 0 rfl) ?_
              refine lv_if_ge (tgt := 140) hx hb dM_takeMaps_120 (by decide) (fun q => False.elim (absurd q (by decide))) (fun c_120 => ?_)
              rcases hst with ⟨hf0, hall⟩ | hf4
              · have hp2 : 2 + b / 8 = p2 := by
                  obtain ⟨i0, i1, i2, -, i4, i5, i6⟩ := mpL_some _ _ hmp
                  obtain ⟨b0, b1, b2, b3, b4⟩ := unk_of htp (by omega) i5
                  have h1 : ¬ b0 < b := fun z => b4 (hall b0 b2 z b3)
                  have h2 : ¬ b / 8 < i0 := fun z => hkb (kno_of htp (by omega) (by omega) (i6 (b / 8) (by omega) z) hs)
                  omega
                refine lv_aload_n hx hb dM_takeMaps_123 rfl (lv_at hl 1 rfl) ?_
                refine lv_iconst (v := nI 4) hx hb dM_takeMaps_124 (by decide) ?_
                refine lv_aload_n hx hb dM_takeMaps_125 rfl (lv_at hl 1 rfl) ?_
                refine va_get (D := (dC, dI)) (ci := 4) (v := .int (nI 2)) (C := RM) (T := TM) (N := 17) hx hb hw inM hown hK hP 0 rfl rfl 12 (by decide) (hw _ w_fl_M_108) (fun _ h9 => h9) rfl dM_takeMaps_126 ?_
                refine lv_iload_n hx hb dM_takeMaps_129 rfl (lv_at hl 4 rfl) ?_
                refine lv_bipush (v := nI 8) hx hb dM_takeMaps_130 (by decide) ?_
                refine zi_div hx hb (by omega) (by omega) (by omega) dM_takeMaps_132 ?_
                refine zi_add hx hb dM_takeMaps_133 ?_
                have hPc := hP.sub (ws' := [(m0, .inr (4, [.ref n0, .ref n1, .ref n2, .int (nI cd), .int (nI dt), .ref e0, .ref e1, .int (nI rt), .ref e2, .ref e3, .ref e4, .int (nI sz9), .int (nI 2), .int (nI fl9), .int pl9, .int (nI wr), .ref e5]))]) [0] rfl
                have hDc := hD.sub (ws' := [(m0, .inr (4, [.ref n0, .ref n1, .ref n2, .int (nI cd), .int (nI dt), .ref e0, .ref e1, .int (nI rt), .ref e2, .ref e3, .ref e4, .int (nI sz9), .int (nI 2), .int (nI fl9), .int pl9, .int (nI wr), .ref e5]))]) [0] (by decide) rfl
                have hFc := va_free (wc := [(m0, .inr (4, [.ref n0, .ref n1, .ref n2, .int (nI cd), .int (nI dt), .ref e0, .ref e1, .int (nI rt), .ref e2, .ref e3, .ref e4, .int (nI sz9), .int (nI 2), .int (nI fl9), .int pl9, .int (nI wr), .ref e5]))]) hD hS hA [0] rfl
                refine zc_Mv (va_runV (As := [.int (nI 4), .int (nI (2 + (b / 8)))]) (rest := []) ⟨hx, hb, hml, hown, hw⟩ (c_fails_1 l dC dI m0 n0 n1 n2 cd dt e0 e1 rt e2 e3 e4 sz9 2 fl9 pl9 wr e5 cI cB 4 (nI (2 + (b / 8))) hf0 H.size) (cwV 2 hw (gV w_ml_M_111 w_im_M_fails w_se_M_fails w_in_M w_co_M_fails) rfl rfl rfl (by decide +kernel) ⟨Nat.le_of_ble_eq_true rfl, Nat.le_of_ble_eq_true rfl⟩) (zM_V hG hS hFc hPc hDc hK 0 rfl rfl) rfl rfl hl.1 rfl (lv_room (Nat.le_of_ble_eq_true rfl)) dM_takeMaps_134 ⟨Nat.le_of_ble_eq_true rfl, Nat.le_of_ble_eq_true rfl⟩) hS hFc (fun H locs h_134 hP1 hD1 hk1 hS => ?_)
                obtain ⟨hP, hD⟩ := va_join (wr := [(n0, .inl (cI, 16, .inl (aN fFI))), (e3, .inl (cI, 16, .inl (aP r9))), (e4, .inl (cI, 400, .inl (aN tp)))]) (w1 := [(m0, .inr (4, [.ref n0, .ref n1, .ref n2, .int (nI cd), .int (nI dt), .ref e0, .ref e1, .int (nI rt), .ref e2, .ref e3, .ref e4, .int (nI sz9), .int (nI 2), .int (nI 4), .int (nI (2 + (b / 8))), .int (nI wr), .ref e5]))]) hP hD [0] [1, 2, 3] rfl rfl (by decide) (by decide) hk1 hFc hP1 hD1
                have hP : va_P (dC, dI) vwCl [(n0, .inl (cI, 16, .inl (aN fFI))), (e3, .inl (cI, 16, .inl (aP r9))), (e4, .inl (cI, 400, .inl (aN tp))), (m0, .inr (4, [.ref n0, .ref n1, .ref n2, .int (nI cd), .int (nI dt), .ref e0, .ref e1, .int (nI rt), .ref e2, .ref e3, .ref e4, .int (nI sz9), .int (nI 2), .int (nI 4), .int (nI (2 + (b / 8))), .int (nI wr), .ref e5]))] H := hP
                have hD : va_D A [(n0, .inl (cI, 16, .inl (aN fFI))), (e3, .inl (cI, 16, .inl (aP r9))), (e4, .inl (cI, 400, .inl (aN tp))), (m0, .inr (4, [.ref n0, .ref n1, .ref n2, .int (nI cd), .int (nI dt), .ref e0, .ref e1, .int (nI rt), .ref e2, .ref e3, .ref e4, .int (nI sz9), .int (nI 2), .int (nI 4), .int (nI (2 + (b / 8))), .int (nI wr), .ref e5]))] := hD
                refine lv_goto (tgt := 162) hx hb dM_takeMaps_137 (by decide) ?_
                have hst2 : (4 = 0 ∧ ∀ z, 1 ≤ z → z < b + 1 → tbit tp z → kno z) ∨ (4 = 4 ∧ (nI (2 + (b / 8))) = nI p2) := Or.inr ⟨rfl, (by rw [hp2])⟩
                refine lv_iinc (v := nI (b + 1)) (lv' := [(3, .int (nI (b + 1))), (4, .int (-1)), (0, .ref m0), (1, .int (nI 8)), (2, .int (nI ab))]) hx hb dM_takeMaps_162 hl (k := 4) rfl (zi_incr b 1) (by decide) rfl (fun ls hl => ?_)
                refine lv_goto (tgt := 73) hx hb dM_takeMaps_165 (by decide) ?_
                exact ih73 (b + 1) ab r9 4 (nI (2 + (b / 8))) (by omega) (by omega) (by omega) hst2 (by omega) _ _ _ (lv_sub hl [2, 3, 4, 0] rfl) (hP.sub [3, 0, 1, 2] rfl) (hD.sub [3, 0, 1, 2] (by decide) rfl) hS
              · refine lv_aload_n hx hb dM_takeMaps_123 rfl (lv_at hl 1 rfl) ?_
                refine lv_iconst (v := nI 4) hx hb dM_takeMaps_124 (by decide) ?_
                refine lv_aload_n hx hb dM_takeMaps_125 rfl (lv_at hl 1 rfl) ?_
                refine va_get (D := (dC, dI)) (ci := 4) (v := .int (nI 2)) (C := RM) (T := TM) (N := 17) hx hb hw inM hown hK hP 0 rfl rfl 12 (by decide) (hw _ w_fl_M_108) (fun _ h9 => h9) rfl dM_takeMaps_126 ?_
                refine lv_iload_n hx hb dM_takeMaps_129 rfl (lv_at hl 4 rfl) ?_
                refine lv_bipush (v := nI 8) hx hb dM_takeMaps_130 (by decide) ?_
                refine zi_div hx hb (by omega) (by omega) (by omega) dM_takeMaps_132 ?_
                refine zi_add hx hb dM_takeMaps_133 ?_
                have hPc := hP.sub (ws' := [(m0, .inr (4, [.ref n0, .ref n1, .ref n2, .int (nI cd), .int (nI dt), .ref e0, .ref e1, .int (nI rt), .ref e2, .ref e3, .ref e4, .int (nI sz9), .int (nI 2), .int (nI fl9), .int pl9, .int (nI wr), .ref e5]))]) [0] rfl
                have hDc := hD.sub (ws' := [(m0, .inr (4, [.ref n0, .ref n1, .ref n2, .int (nI cd), .int (nI dt), .ref e0, .ref e1, .int (nI rt), .ref e2, .ref e3, .ref e4, .int (nI sz9), .int (nI 2), .int (nI fl9), .int pl9, .int (nI wr), .ref e5]))]) [0] (by decide) rfl
                have hFc := va_free (wc := [(m0, .inr (4, [.ref n0, .ref n1, .ref n2, .int (nI cd), .int (nI dt), .ref e0, .ref e1, .int (nI rt), .ref e2, .ref e3, .ref e4, .int (nI sz9), .int (nI 2), .int (nI fl9), .int pl9, .int (nI wr), .ref e5]))]) hD hS hA [0] rfl
                refine zc_Mv (va_runV (As := [.int (nI 4), .int (nI (2 + (b / 8)))]) (rest := []) ⟨hx, hb, hml, hown, hw⟩ (c_fails_0 l dC dI m0 n0 n1 n2 cd dt e0 e1 rt e2 e3 e4 sz9 2 fl9 pl9 wr e5 cI cB 4 (nI (2 + (b / 8))) (by rw [hf4.1]; decide) (by rw [hf4.1]; decide) H.size) (cwV 2 hw (gV w_ml_M_111 w_im_M_fails w_se_M_fails w_in_M w_co_M_fails) rfl rfl rfl (by decide +kernel) ⟨Nat.le_of_ble_eq_true rfl, Nat.le_of_ble_eq_true rfl⟩) (zM_V hG hS hFc hPc hDc hK 0 rfl rfl) rfl rfl hl.1 rfl (lv_room (Nat.le_of_ble_eq_true rfl)) dM_takeMaps_134 ⟨Nat.le_of_ble_eq_true rfl, Nat.le_of_ble_eq_true rfl⟩) hS hFc (fun H locs h_134 hP1 hD1 hk1 hS => ?_)
                obtain ⟨hP, hD⟩ := va_join (wr := [(n0, .inl (cI, 16, .inl (aN fFI))), (e3, .inl (cI, 16, .inl (aP r9))), (e4, .inl (cI, 400, .inl (aN tp)))]) (w1 := [(m0, .inr (4, [.ref n0, .ref n1, .ref n2, .int (nI cd), .int (nI dt), .ref e0, .ref e1, .int (nI rt), .ref e2, .ref e3, .ref e4, .int (nI sz9), .int (nI 2), .int (nI fl9), .int pl9, .int (nI wr), .ref e5]))]) hP hD [0] [1, 2, 3] rfl rfl (by decide) (by decide) hk1 hFc hP1 hD1
                have hP : va_P (dC, dI) vwCl [(n0, .inl (cI, 16, .inl (aN fFI))), (e3, .inl (cI, 16, .inl (aP r9))), (e4, .inl (cI, 400, .inl (aN tp))), (m0, .inr (4, [.ref n0, .ref n1, .ref n2, .int (nI cd), .int (nI dt), .ref e0, .ref e1, .int (nI rt), .ref e2, .ref e3, .ref e4, .int (nI sz9), .int (nI 2), .int (nI fl9), .int pl9, .int (nI wr), .ref e5]))] H := hP
                have hD : va_D A [(n0, .inl (cI, 16, .inl (aN fFI))), (e3, .inl (cI, 16, .inl (aP r9))), (e4, .inl (cI, 400, .inl (aN tp))), (m0, .inr (4, [.ref n0, .ref n1, .ref n2, .int (nI cd), .int (nI dt), .ref e0, .ref e1, .int (nI rt), .ref e2, .ref e3, .ref e4, .int (nI sz9), .int (nI 2), .int (nI fl9), .int pl9, .int (nI wr), .ref e5]))] := hD
                refine lv_goto (tgt := 162) hx hb dM_takeMaps_137 (by decide) ?_
                have hst2 : (fl9 = 0 ∧ ∀ z, 1 ≤ z → z < b + 1 → tbit tp z → kno z) ∨ (fl9 = 4 ∧ pl9 = nI p2) := Or.inr ⟨hf4.1, hf4.2⟩
                refine lv_iinc (v := nI (b + 1)) (lv' := [(3, .int (nI (b + 1))), (4, .int (-1)), (0, .ref m0), (1, .int (nI 8)), (2, .int (nI ab))]) hx hb dM_takeMaps_162 hl (k := 4) rfl (zi_incr b 1) (by decide) rfl (fun ls hl => ?_)
                refine lv_goto (tgt := 73) hx hb dM_takeMaps_165 (by decide) ?_
                exact ih73 (b + 1) ab r9 fl9 pl9 (by omega) (by omega) (by omega) hst2 (by omega) _ _ _ (lv_sub hl [2, 3, 4, 0] rfl) (hP.sub [3, 0, 1, 2] rfl) (hD.sub [3, 0, 1, 2] (by decide) rfl) hS
    exact lp_73 ((8 * 8 - 1) + 1) 1 0 rs fl pl (by omega) (by omega) (by omega) (Or.inl ⟨hfl, fun z z1 z2 _ => absurd z2 (by omega)⟩) (Nat.lt_succ_self _) _ _ _ (lv_sub hl [3, 2, 1, 0] rfl) (hP.sub [0, 1, 2, 3] rfl) (hD.sub [0, 1, 2, 3] (by decide) rfl) hS
  · refine lv_aload_n hx hb dM_takeMaps_0 rfl (lv_at hl 0 rfl) ?_
    refine va_get (D := (dC, dI)) (ci := 4) (v := .int (nI 2)) (C := RM) (T := TM) (N := 17) hx hb hw inM hown hK hP 0 rfl rfl 12 (by decide) (hw _ w_fl_M_108) (fun _ h9 => h9) rfl dM_takeMaps_1 ?_
    refine lv_bipush (v := nI 8) hx hb dM_takeMaps_4 (by decide) ?_
    refine lv_iadd hx hb dM_takeMaps_6 ?_
    refine zi_v (b := nI 10) (by decide) ?_
    refine lv_aload_n hx hb dM_takeMaps_7 rfl (lv_at hl 0 rfl) ?_
    refine va_get (D := (dC, dI)) (ci := 4) (v := .int (nI sz9)) (C := RM) (T := TM) (N := 17) hx hb hw inM hown hK hP 0 rfl rfl 11 (by decide) (hw _ w_fl_M_99) (fun _ h9 => h9) rfl dM_takeMaps_8 ?_
    refine zi_le (tgt := 24) hx hb (by omega) (by omega) dM_takeMaps_11 (by decide) (fun c_11 => ?_) (fun q => False.elim ((by omega)))
    refine lv_aload_n hx hb dM_takeMaps_24 rfl (lv_at hl 0 rfl) ?_
    refine va_get (D := (dC, dI)) (ci := 4) (v := .ref e4) (C := RM) (T := TM) (N := 17) hx hb hw inM hown hK hP 0 rfl rfl 10 (by decide) (hw _ w_fl_M_35) (fun _ h9 => h9) rfl dM_takeMaps_25 ?_
    refine lv_aload_n hx hb dM_takeMaps_28 rfl (lv_at hl 0 rfl) ?_
    refine va_get (D := (dC, dI)) (ci := 4) (v := .int (nI 2)) (C := RM) (T := TM) (N := 17) hx hb hw inM hown hK hP 0 rfl rfl 12 (by decide) (hw _ w_fl_M_108) (fun _ h9 => h9) rfl dM_takeMaps_29 ?_
    refine za_ild hx hb hK hP 3 0 rfl rfl (by omega) (by decide) dM_takeMaps_32 ?_
    refine lv_bipush (v := nI 127) hx hb dM_takeMaps_33 (by decide) ?_
    refine zi_le (tgt := 43) hx hb (by omega) (by omega) dM_takeMaps_35 (by decide) (fun q => False.elim ((by omega))) (fun c_35 => ?_)
    refine lv_bipush (v := nI 16) hx hb dM_takeMaps_38 (by decide) ?_
    refine lv_goto (tgt := 45) hx hb dM_takeMaps_40 (by decide) ?_
    refine lv_istore_n (lv' := [(1, .int (nI 16)), (0, .ref m0)]) hx hb dM_takeMaps_45 rfl hl (by decide) rfl (fun ls hl => ?_)
    refine lv_aload_n hx hb dM_takeMaps_46 rfl (lv_at hl 1 rfl) ?_
    refine va_get (D := (dC, dI)) (ci := 4) (v := .int (nI 2)) (C := RM) (T := TM) (N := 17) hx hb hw inM hown hK hP 0 rfl rfl 12 (by decide) (hw _ w_fl_M_108) (fun _ h9 => h9) rfl dM_takeMaps_47 ?_
    refine lv_iload_n hx hb dM_takeMaps_50 rfl (lv_at hl 0 rfl) ?_
    refine lv_iadd hx hb dM_takeMaps_51 ?_
    refine zi_v (b := nI 18) (by decide) ?_
    refine lv_aload_n hx hb dM_takeMaps_52 rfl (lv_at hl 1 rfl) ?_
    refine va_get (D := (dC, dI)) (ci := 4) (v := .int (nI sz9)) (C := RM) (T := TM) (N := 17) hx hb hw inM hown hK hP 0 rfl rfl 11 (by decide) (hw _ w_fl_M_99) (fun _ h9 => h9) rfl dM_takeMaps_53 ?_
    refine zi_le (tgt := 69) hx hb (by omega) (by omega) dM_takeMaps_56 (by decide) (fun q => False.elim ((by omega))) (fun c_56 => ?_)
    refine lv_aload_n hx hb dM_takeMaps_59 rfl (lv_at hl 1 rfl) ?_
    refine lv_iconst (v := nI 1) hx hb dM_takeMaps_60 (by decide) ?_
    refine lv_aload_n hx hb dM_takeMaps_61 rfl (lv_at hl 1 rfl) ?_
    refine va_get (D := (dC, dI)) (ci := 4) (v := .int (nI sz9)) (C := RM) (T := TM) (N := 17) hx hb hw inM hown hK hP 0 rfl rfl 11 (by decide) (hw _ w_fl_M_99) (fun _ h9 => h9) rfl dM_takeMaps_62 ?_
    have hPc := hP.sub (ws' := [(m0, .inr (4, [.ref n0, .ref n1, .ref n2, .int (nI cd), .int (nI dt), .ref e0, .ref e1, .int (nI rt), .ref e2, .ref e3, .ref e4, .int (nI sz9), .int (nI 2), .int (nI fl), .int pl, .int (nI wr), .ref e5]))]) [0] rfl
    have hDc := hD.sub (ws' := [(m0, .inr (4, [.ref n0, .ref n1, .ref n2, .int (nI cd), .int (nI dt), .ref e0, .ref e1, .int (nI rt), .ref e2, .ref e3, .ref e4, .int (nI sz9), .int (nI 2), .int (nI fl), .int pl, .int (nI wr), .ref e5]))]) [0] (by decide) rfl
    have hFc := va_free (wc := [(m0, .inr (4, [.ref n0, .ref n1, .ref n2, .int (nI cd), .int (nI dt), .ref e0, .ref e1, .int (nI rt), .ref e2, .ref e3, .ref e4, .int (nI sz9), .int (nI 2), .int (nI fl), .int pl, .int (nI wr), .ref e5]))]) hD hS hA [0] rfl
    refine zc_Mv (va_runV (As := [.int (nI 1), .int (nI sz9)]) (rest := []) ⟨hx, hb, hml, hown, hw⟩ (c_fails_1 l dC dI m0 n0 n1 n2 cd dt e0 e1 rt e2 e3 e4 sz9 2 fl pl wr e5 cI cB 1 (nI sz9) (by omega) s.heap.size) (cwV 2 hw (gV w_ml_M_111 w_im_M_fails w_se_M_fails w_in_M w_co_M_fails) rfl rfl rfl (by decide +kernel) ⟨Nat.le_of_ble_eq_true rfl, Nat.le_of_ble_eq_true rfl⟩) (zM_V hG hS hFc hPc hDc hK 0 rfl rfl) rfl rfl hl.1 rfl (lv_room (Nat.le_of_ble_eq_true rfl)) dM_takeMaps_65 ⟨Nat.le_of_ble_eq_true rfl, Nat.le_of_ble_eq_true rfl⟩) hS hFc (fun H locs h_65 hP1 hD1 hk1 hS => ?_)
    obtain ⟨hP, hD⟩ := va_join (wr := [(n0, .inl (cI, 16, .inl (aN fFI))), (e3, .inl (cI, 16, .inl (aP rs))), (e4, .inl (cI, 400, .inl (aN tp)))]) (w1 := [(m0, .inr (4, [.ref n0, .ref n1, .ref n2, .int (nI cd), .int (nI dt), .ref e0, .ref e1, .int (nI rt), .ref e2, .ref e3, .ref e4, .int (nI sz9), .int (nI 2), .int (nI 1), .int (nI sz9), .int (nI wr), .ref e5]))]) hP hD [0] [1, 2, 3] rfl rfl (by decide) (by decide) hk1 hFc hP1 hD1
    have hP : va_P (dC, dI) vwCl [(n0, .inl (cI, 16, .inl (aN fFI))), (e3, .inl (cI, 16, .inl (aP rs))), (e4, .inl (cI, 400, .inl (aN tp))), (m0, .inr (4, [.ref n0, .ref n1, .ref n2, .int (nI cd), .int (nI dt), .ref e0, .ref e1, .int (nI rt), .ref e2, .ref e3, .ref e4, .int (nI sz9), .int (nI 2), .int (nI 1), .int (nI sz9), .int (nI wr), .ref e5]))] H := hP
    have hD : va_D A [(n0, .inl (cI, 16, .inl (aN fFI))), (e3, .inl (cI, 16, .inl (aP rs))), (e4, .inl (cI, 400, .inl (aN tp))), (m0, .inr (4, [.ref n0, .ref n1, .ref n2, .int (nI cd), .int (nI dt), .ref e0, .ref e1, .int (nI rt), .ref e2, .ref e3, .ref e4, .int (nI sz9), .int (nI 2), .int (nI 1), .int (nI sz9), .int (nI wr), .ref e5]))] := hD
    subst hAe
    subst hQ
    exact W.vret hx hb hr (fun t ht hW => ⟨⟨(2, rs), rfl, trivial, by rw [ht]; exact hP.sub [3, 0, 1, 2] rfl, hD.sub [3, 0, 1, 2] (by decide) rfl⟩, hS.F ht⟩) hS.2.2 dM_takeMaps_68
  · obtain rfl : 4 = k2 := (mpL_some _ _ hmp).choose_spec.2.2.1
    refine lv_aload_n hx hb dM_takeMaps_0 rfl (lv_at hl 0 rfl) ?_
    refine va_get (D := (dC, dI)) (ci := 4) (v := .int (nI 2)) (C := RM) (T := TM) (N := 17) hx hb hw inM hown hK hP 0 rfl rfl 12 (by decide) (hw _ w_fl_M_108) (fun _ h9 => h9) rfl dM_takeMaps_1 ?_
    refine lv_bipush (v := nI 8) hx hb dM_takeMaps_4 (by decide) ?_
    refine lv_iadd hx hb dM_takeMaps_6 ?_
    refine zi_v (b := nI 10) (by decide) ?_
    refine lv_aload_n hx hb dM_takeMaps_7 rfl (lv_at hl 0 rfl) ?_
    refine va_get (D := (dC, dI)) (ci := 4) (v := .int (nI sz9)) (C := RM) (T := TM) (N := 17) hx hb hw inM hown hK hP 0 rfl rfl 11 (by decide) (hw _ w_fl_M_99) (fun _ h9 => h9) rfl dM_takeMaps_8 ?_
    refine zi_le (tgt := 24) hx hb (by omega) (by omega) dM_takeMaps_11 (by decide) (fun c_11 => ?_) (fun q => False.elim ((by omega)))
    refine lv_aload_n hx hb dM_takeMaps_24 rfl (lv_at hl 0 rfl) ?_
    refine va_get (D := (dC, dI)) (ci := 4) (v := .ref e4) (C := RM) (T := TM) (N := 17) hx hb hw inM hown hK hP 0 rfl rfl 10 (by decide) (hw _ w_fl_M_35) (fun _ h9 => h9) rfl dM_takeMaps_25 ?_
    refine lv_aload_n hx hb dM_takeMaps_28 rfl (lv_at hl 0 rfl) ?_
    refine va_get (D := (dC, dI)) (ci := 4) (v := .int (nI 2)) (C := RM) (T := TM) (N := 17) hx hb hw inM hown hK hP 0 rfl rfl 12 (by decide) (hw _ w_fl_M_108) (fun _ h9 => h9) rfl dM_takeMaps_29 ?_
    refine za_ild hx hb hK hP 3 0 rfl rfl (by omega) (by decide) dM_takeMaps_32 ?_
    refine lv_bipush (v := nI 127) hx hb dM_takeMaps_33 (by decide) ?_
    refine zi_le (tgt := 43) hx hb (by omega) (by omega) dM_takeMaps_35 (by decide) (fun q => False.elim ((by omega))) (fun c_35 => ?_)
    refine lv_bipush (v := nI 16) hx hb dM_takeMaps_38 (by decide) ?_
    refine lv_goto (tgt := 45) hx hb dM_takeMaps_40 (by decide) ?_
    refine lv_istore_n (lv' := [(1, .int (nI 16)), (0, .ref m0)]) hx hb dM_takeMaps_45 rfl hl (by decide) rfl (fun ls hl => ?_)
    refine lv_aload_n hx hb dM_takeMaps_46 rfl (lv_at hl 1 rfl) ?_
    refine va_get (D := (dC, dI)) (ci := 4) (v := .int (nI 2)) (C := RM) (T := TM) (N := 17) hx hb hw inM hown hK hP 0 rfl rfl 12 (by decide) (hw _ w_fl_M_108) (fun _ h9 => h9) rfl dM_takeMaps_47 ?_
    refine lv_iload_n hx hb dM_takeMaps_50 rfl (lv_at hl 0 rfl) ?_
    refine lv_iadd hx hb dM_takeMaps_51 ?_
    refine zi_v (b := nI 18) (by decide) ?_
    refine lv_aload_n hx hb dM_takeMaps_52 rfl (lv_at hl 1 rfl) ?_
    refine va_get (D := (dC, dI)) (ci := 4) (v := .int (nI sz9)) (C := RM) (T := TM) (N := 17) hx hb hw inM hown hK hP 0 rfl rfl 11 (by decide) (hw _ w_fl_M_99) (fun _ h9 => h9) rfl dM_takeMaps_53 ?_
    refine zi_le (tgt := 69) hx hb (by omega) (by omega) dM_takeMaps_56 (by decide) (fun c_56 => ?_) (fun q => False.elim ((by omega)))
    refine lv_iconst (v := nI 0) hx hb dM_takeMaps_69 (by decide) ?_
    refine lv_istore_n (lv' := [(2, .int (nI 0)), (1, .int (nI 16)), (0, .ref m0)]) hx hb dM_takeMaps_70 rfl hl (by decide) rfl (fun ls hl => ?_)
    refine lv_iconst (v := nI 1) hx hb dM_takeMaps_71 (by decide) ?_
    refine lv_istore_n (lv' := [(3, .int (nI 1)), (2, .int (nI 0)), (1, .int (nI 16)), (0, .ref m0)]) hx hb dM_takeMaps_72 rfl hl (by decide) rfl (fun ls hl => ?_)
    have lp_73 : ∀ (fu : Nat) (b : Nat) (ab : Nat) (r9 : Nat → Nat) (fl9 : Nat) (pl9 : Int32) (hb1 : 1 ≤ b) (hb2 : b ≤ 8 * 16) (hab9 : ab ≤ b) (hst : (fl9 = 0 ∧ ∀ z, 1 ≤ z → z < b → tbit tp z → kno z) ∨ (fl9 = 4 ∧ pl9 = nI p2)) (hms : 8 * 16 - b < fu) (H : Heap) (locs : List Loc) (ls : Array Slot), lv_has ls 5 [(0, .ref m0), (1, .int (nI 16)), (2, .int (nI ab)), (3, .int (nI b))] → va_P (dC, dI) vwCl [(m0, .inr (4, [.ref n0, .ref n1, .ref n2, .int (nI cd), .int (nI dt), .ref e0, .ref e1, .int (nI rt), .ref e2, .ref e3, .ref e4, .int (nI sz9), .int (nI 2), .int (nI fl9), .int pl9, .int (nI wr), .ref e5])), (n0, .inl (cI, 16, .inl (aN fFI))), (e3, .inl (cI, 16, .inl (aP r9))), (e4, .inl (cI, 400, .inl (aN tp)))] H → va_D A [(m0, .inr (4, [.ref n0, .ref n1, .ref n2, .int (nI cd), .int (nI dt), .ref e0, .ref e1, .int (nI rt), .ref e2, .ref e3, .ref e4, .int (nI sz9), .int (nI 2), .int (nI fl9), .int pl9, .int (nI wr), .ref e5])), (n0, .inl (cI, 16, .inl (aN fFI))), (e3, .inl (cI, 16, .inl (aP r9))), (e4, .inl (cI, 400, .inl (aN tp)))] → va_S A s.heap H locs → W p l e rm_c_takeMaps_no s m ([.ref m0] : List Value).toArray below meth c H locs 0 0 Q (F0 m 73 ls []) := by
      intro fu
      induction fu with
      | zero => intro b ab r9 fl9 pl9 hb1 hb2 hab9 hst hms; exact absurd hms (Nat.not_lt_zero _)
      | succ fu ih73 =>
        intro b ab r9 fl9 pl9 hb1 hb2 hab9 hst hms H locs ls hl hP hD hS
        refine lv_iload_n hx hb dM_takeMaps_73 rfl (lv_at hl 3 rfl) ?_
        refine lv_bipush (v := nI 8) hx hb dM_takeMaps_74 (by decide) ?_
        refine lv_iload_n hx hb dM_takeMaps_76 rfl (lv_at hl 1 rfl) ?_
        refine zi_mul hx hb dM_takeMaps_77 ?_
        refine zi_ge (tgt := 168) hx hb (by omega) (by omega) dM_takeMaps_78 (by decide) (fun c_78 => ?_) (fun c_78 => ?_)
        · obtain ⟨rfl, rfl⟩ : fl9 = 4 ∧ pl9 = nI p2 := by
            rcases hst with ⟨-, hall⟩ | hf4
            · obtain ⟨i0, i1, i2, -, i4, i5, i6⟩ := mpL_some _ _ hmp
              obtain ⟨b0, b1, b2, b3, b4⟩ := unk_of htp (by omega) i5
              exact absurd (hall b0 b2 (by omega) b3) b4
            · exact hf4
          have hP : va_P (dC, dI) vwCl [(m0, .inr (4, [.ref n0, .ref n1, .ref n2, .int (nI cd), .int (nI dt), .ref e0, .ref e1, .int (nI rt), .ref e2, .ref e3, .ref e4, .int (nI sz9), .int (nI 2), .int (nI 4), .int (nI p2), .int (nI wr), .ref e5])), (n0, .inl (cI, 16, .inl (aN fFI))), (e3, .inl (cI, 16, .inl (aP r9))), (e4, .inl (cI, 400, .inl (aN tp)))] H := hP
          have hD : va_D A [(m0, .inr (4, [.ref n0, .ref n1, .ref n2, .int (nI cd), .int (nI dt), .ref e0, .ref e1, .int (nI rt), .ref e2, .ref e3, .ref e4, .int (nI sz9), .int (nI 2), .int (nI 4), .int (nI p2), .int (nI wr), .ref e5])), (n0, .inl (cI, 16, .inl (aN fFI))), (e3, .inl (cI, 16, .inl (aP r9))), (e4, .inl (cI, 400, .inl (aN tp)))] := hD
          refine lv_iload_n hx hb dM_takeMaps_168 rfl (lv_at hl 1 rfl) ?_
          refine lv_bipush (v := nI 16) hx hb dM_takeMaps_169 (by decide) ?_
          refine lv_icmp_ne (tgt := 190) hx hb dM_takeMaps_171 (by decide) (fun q => False.elim (absurd q (by decide))) (fun c_171 => ?_)
          refine lv_iload_n hx hb dM_takeMaps_174 rfl (lv_at hl 2 rfl) ?_
          refine zi_ne0 (tgt := 190) hx hb (by omega) dM_takeMaps_175 (by decide) (fun c_175 => ?_) (fun c_175 => ?_)
          · refine lv_aload_n hx hb dM_takeMaps_190 rfl (lv_at hl 0 rfl) ?_
            refine lv_dup hx hb dM_takeMaps_191 rfl ?_
            refine va_get (D := (dC, dI)) (ci := 4) (v := .int (nI 2)) (C := RM) (T := TM) (N := 17) hx hb hw inM hown hK hP 0 rfl rfl 12 (by decide) (hw _ w_fl_M_108) (fun _ h9 => h9) rfl dM_takeMaps_192 ?_
            refine lv_iload_n hx hb dM_takeMaps_195 rfl (lv_at hl 1 rfl) ?_
            refine lv_iadd hx hb dM_takeMaps_196 ?_
            refine zi_v (b := nI 18) (by decide) ?_
            refine va_put (D := (dC, dI)) (ci := 4) (v := .int (nI 18)) (ty := .int) (C := RM) (T := TM) (N := 17) hx hb hw inM tyM tyM_ok nmM hown hK hP hD hS 0 rfl rfl 12 (by decide) (hw _ w_fl_M_108) (fun _ h9 => h9) rfl (by decide +kernel) rfl rfl (Nat.le_of_ble_eq_true rfl) dM_takeMaps_197 (fun H locs hP hD hS => ?_)
            have hP : va_P (dC, dI) vwCl [(m0, .inr (4, [.ref n0, .ref n1, .ref n2, .int (nI cd), .int (nI dt), .ref e0, .ref e1, .int (nI rt), .ref e2, .ref e3, .ref e4, .int (nI sz9), .int (nI 18), .int (nI 4), .int (nI p2), .int (nI wr), .ref e5])), (n0, .inl (cI, 16, .inl (aN fFI))), (e3, .inl (cI, 16, .inl (aP r9))), (e4, .inl (cI, 400, .inl (aN tp)))] H := hP
            have hD : va_D A [(m0, .inr (4, [.ref n0, .ref n1, .ref n2, .int (nI cd), .int (nI dt), .ref e0, .ref e1, .int (nI rt), .ref e2, .ref e3, .ref e4, .int (nI sz9), .int (nI 18), .int (nI 4), .int (nI p2), .int (nI wr), .ref e5])), (n0, .inl (cI, 16, .inl (aN fFI))), (e3, .inl (cI, 16, .inl (aP r9))), (e4, .inl (cI, 400, .inl (aN tp)))] := hD
            subst hAe
            subst hQ
            exact W.vret hx hb hr (fun t ht hW => ⟨⟨(18, r9), rfl, trivial, by rw [ht]; exact hP.sub [0, 1, 2, 3] rfl, hD.sub [0, 1, 2, 3] (by decide) rfl⟩, hS.F ht⟩) hS.2.2 dM_takeMaps_200
          · refine lv_aload_n hx hb dM_takeMaps_178 rfl (lv_at hl 0 rfl) ?_
            refine lv_iconst (v := nI 4) hx hb dM_takeMaps_179 (by decide) ?_
            refine lv_aload_n hx hb dM_takeMaps_180 rfl (lv_at hl 0 rfl) ?_
            refine va_get (D := (dC, dI)) (ci := 4) (v := .int (nI 2)) (C := RM) (T := TM) (N := 17) hx hb hw inM hown hK hP 0 rfl rfl 12 (by decide) (hw _ w_fl_M_108) (fun _ h9 => h9) rfl dM_takeMaps_181 ?_
            refine lv_bipush (v := nI 8) hx hb dM_takeMaps_184 (by decide) ?_
            refine lv_iadd hx hb dM_takeMaps_186 ?_
            refine zi_v (b := nI 10) (by decide) ?_
            have hPc := hP.sub (ws' := [(m0, .inr (4, [.ref n0, .ref n1, .ref n2, .int (nI cd), .int (nI dt), .ref e0, .ref e1, .int (nI rt), .ref e2, .ref e3, .ref e4, .int (nI sz9), .int (nI 2), .int (nI 4), .int (nI p2), .int (nI wr), .ref e5]))]) [0] rfl
            have hDc := hD.sub (ws' := [(m0, .inr (4, [.ref n0, .ref n1, .ref n2, .int (nI cd), .int (nI dt), .ref e0, .ref e1, .int (nI rt), .ref e2, .ref e3, .ref e4, .int (nI sz9), .int (nI 2), .int (nI 4), .int (nI p2), .int (nI wr), .ref e5]))]) [0] (by decide) rfl
            have hFc := va_free (wc := [(m0, .inr (4, [.ref n0, .ref n1, .ref n2, .int (nI cd), .int (nI dt), .ref e0, .ref e1, .int (nI rt), .ref e2, .ref e3, .ref e4, .int (nI sz9), .int (nI 2), .int (nI 4), .int (nI p2), .int (nI wr), .ref e5]))]) hD hS hA [0] rfl
            refine zc_Mv (va_runV (As := [.int (nI 4), .int (nI 10)]) (rest := []) ⟨hx, hb, hml, hown, hw⟩ (c_fails_0 l dC dI m0 n0 n1 n2 cd dt e0 e1 rt e2 e3 e4 sz9 2 4 (nI p2) wr e5 cI cB 4 (nI 10) (by decide) (by decide) H.size) (cwV 2 hw (gV w_ml_M_111 w_im_M_fails w_se_M_fails w_in_M w_co_M_fails) rfl rfl rfl (by decide +kernel) ⟨Nat.le_of_ble_eq_true rfl, Nat.le_of_ble_eq_true rfl⟩) (zM_V hG hS hFc hPc hDc hK 0 rfl rfl) rfl rfl hl.1 rfl (lv_room (Nat.le_of_ble_eq_true rfl)) dM_takeMaps_187 ⟨Nat.le_of_ble_eq_true rfl, Nat.le_of_ble_eq_true rfl⟩) hS hFc (fun H locs h_187 hP1 hD1 hk1 hS => ?_)
            obtain ⟨hP, hD⟩ := va_join (wr := [(n0, .inl (cI, 16, .inl (aN fFI))), (e3, .inl (cI, 16, .inl (aP r9))), (e4, .inl (cI, 400, .inl (aN tp)))]) (w1 := [(m0, .inr (4, [.ref n0, .ref n1, .ref n2, .int (nI cd), .int (nI dt), .ref e0, .ref e1, .int (nI rt), .ref e2, .ref e3, .ref e4, .int (nI sz9), .int (nI 2), .int (nI 4), .int (nI p2), .int (nI wr), .ref e5]))]) hP hD [0] [1, 2, 3] rfl rfl (by decide) (by decide) hk1 hFc hP1 hD1
            have hP : va_P (dC, dI) vwCl [(n0, .inl (cI, 16, .inl (aN fFI))), (e3, .inl (cI, 16, .inl (aP r9))), (e4, .inl (cI, 400, .inl (aN tp))), (m0, .inr (4, [.ref n0, .ref n1, .ref n2, .int (nI cd), .int (nI dt), .ref e0, .ref e1, .int (nI rt), .ref e2, .ref e3, .ref e4, .int (nI sz9), .int (nI 2), .int (nI 4), .int (nI p2), .int (nI wr), .ref e5]))] H := hP
            have hD : va_D A [(n0, .inl (cI, 16, .inl (aN fFI))), (e3, .inl (cI, 16, .inl (aP r9))), (e4, .inl (cI, 400, .inl (aN tp))), (m0, .inr (4, [.ref n0, .ref n1, .ref n2, .int (nI cd), .int (nI dt), .ref e0, .ref e1, .int (nI rt), .ref e2, .ref e3, .ref e4, .int (nI sz9), .int (nI 2), .int (nI 4), .int (nI p2), .int (nI wr), .ref e5]))] := hD
            refine lv_aload_n hx hb dM_takeMaps_190 rfl (lv_at hl 0 rfl) ?_
            refine lv_dup hx hb dM_takeMaps_191 rfl ?_
            refine va_get (D := (dC, dI)) (ci := 4) (v := .int (nI 2)) (C := RM) (T := TM) (N := 17) hx hb hw inM hown hK hP 3 rfl rfl 12 (by decide) (hw _ w_fl_M_108) (fun _ h9 => h9) rfl dM_takeMaps_192 ?_
            refine lv_iload_n hx hb dM_takeMaps_195 rfl (lv_at hl 1 rfl) ?_
            refine lv_iadd hx hb dM_takeMaps_196 ?_
            refine zi_v (b := nI 18) (by decide) ?_
            refine va_put (D := (dC, dI)) (ci := 4) (v := .int (nI 18)) (ty := .int) (C := RM) (T := TM) (N := 17) hx hb hw inM tyM tyM_ok nmM hown hK hP hD hS 3 rfl rfl 12 (by decide) (hw _ w_fl_M_108) (fun _ h9 => h9) rfl (by decide +kernel) rfl rfl (Nat.le_of_ble_eq_true rfl) dM_takeMaps_197 (fun H locs hP hD hS => ?_)
            have hP : va_P (dC, dI) vwCl [(n0, .inl (cI, 16, .inl (aN fFI))), (e3, .inl (cI, 16, .inl (aP r9))), (e4, .inl (cI, 400, .inl (aN tp))), (m0, .inr (4, [.ref n0, .ref n1, .ref n2, .int (nI cd), .int (nI dt), .ref e0, .ref e1, .int (nI rt), .ref e2, .ref e3, .ref e4, .int (nI sz9), .int (nI 18), .int (nI 4), .int (nI p2), .int (nI wr), .ref e5]))] H := hP
            have hD : va_D A [(n0, .inl (cI, 16, .inl (aN fFI))), (e3, .inl (cI, 16, .inl (aP r9))), (e4, .inl (cI, 400, .inl (aN tp))), (m0, .inr (4, [.ref n0, .ref n1, .ref n2, .int (nI cd), .int (nI dt), .ref e0, .ref e1, .int (nI rt), .ref e2, .ref e3, .ref e4, .int (nI sz9), .int (nI 18), .int (nI 4), .int (nI p2), .int (nI wr), .ref e5]))] := hD
            subst hAe
            subst hQ
            exact W.vret hx hb hr (fun t ht hW => ⟨⟨(18, r9), rfl, trivial, by rw [ht]; exact hP.sub [3, 0, 1, 2] rfl, hD.sub [3, 0, 1, 2] (by decide) rfl⟩, hS.F ht⟩) hS.2.2 dM_takeMaps_200
        · have ht9 := htp (2 + b / 8)
          refine lv_aload_n hx hb dM_takeMaps_81 rfl (lv_at hl 0 rfl) ?_
          refine va_get (D := (dC, dI)) (ci := 4) (v := .ref e4) (C := RM) (T := TM) (N := 17) hx hb hw inM hown hK hP 0 rfl rfl 10 (by decide) (hw _ w_fl_M_35) (fun _ h9 => h9) rfl dM_takeMaps_82 ?_
          refine lv_aload_n hx hb dM_takeMaps_85 rfl (lv_at hl 0 rfl) ?_
          refine va_get (D := (dC, dI)) (ci := 4) (v := .int (nI 2)) (C := RM) (T := TM) (N := 17) hx hb hw inM hown hK hP 0 rfl rfl 12 (by decide) (hw _ w_fl_M_108) (fun _ h9 => h9) rfl dM_takeMaps_86 ?_
          refine lv_iload_n hx hb dM_takeMaps_89 rfl (lv_at hl 3 rfl) ?_
          refine lv_bipush (v := nI 8) hx hb dM_takeMaps_90 (by decide) ?_
          refine zi_div hx hb (by omega) (by omega) (by omega) dM_takeMaps_92 ?_
          refine zi_add hx hb dM_takeMaps_93 ?_
          refine za_ild hx hb hK hP 3 0 rfl rfl (by omega) (by decide) dM_takeMaps_94 ?_
          refine lv_bipush (v := nI 7) hx hb dM_takeMaps_95 (by decide) ?_
          refine lv_iload_n hx hb dM_takeMaps_97 rfl (lv_at hl 3 rfl) ?_
          refine lv_bipush (v := nI 8) hx hb dM_takeMaps_98 (by decide) ?_
          refine zi_rem hx hb (by omega) (by omega) (by omega) dM_takeMaps_100 ?_
          refine zi_sub hx hb (by omega) dM_takeMaps_101 ?_
          refine lv_ishr hx hb dM_takeMaps_102 ?_
          refine zi_v (b := nI (tp (2 + b / 8) / 2 ^ (7 - b % 8))) (shr_N (by omega) (by omega)) ?_
          have hdv : tp (2 + b / 8) / 2 ^ (7 - b % 8) ≤ tp (2 + b / 8) := Nat.div_le_self _ _
          refine lv_iconst (v := nI 1) hx hb dM_takeMaps_103 (by decide) ?_
          refine zi_and hx hb 1 (by omega) (by decide) dM_takeMaps_104 ?_
          refine zi_v (b := nI ((tp (2 + b / 8) / 2 ^ (7 - b % 8)) % 2)) rfl ?_
          refine lv_iconst (v := nI 1) hx hb dM_takeMaps_105 (by decide) ?_
          refine zi_ne (tgt := 162) hx hb (by omega) (by omega) dM_takeMaps_106 (by decide) (fun c_106 => ?_) (fun c_106 => ?_)
          · have hst2 : (fl9 = 0 ∧ ∀ z, 1 ≤ z → z < b + 1 → tbit tp z → kno z) ∨ (fl9 = 4 ∧ pl9 = nI p2) := hst.imp (fun h => ⟨h.1, fun z z1 z2 z3 => h.2 z z1 (by have : z ≠ b := (fun q9 => c_106 (q9 ▸ z3)); omega) z3⟩) id
            refine lv_iinc (v := nI (b + 1)) (lv' := [(3, .int (nI (b + 1))), (0, .ref m0), (1, .int (nI 16)), (2, .int (nI ab))]) hx hb dM_takeMaps_162 hl (k := 3) rfl (zi_incr b 1) (by decide) rfl (fun ls hl => ?_)
            refine lv_goto (tgt := 73) hx hb dM_takeMaps_165 (by decide) ?_
            exact ih73 (b + 1) ab r9 fl9 pl9 (by omega) (by omega) (by omega) hst2 (by omega) _ _ _ (lv_sub hl [1, 2, 3, 0] rfl) (hP.sub [0, 1, 2, 3] rfl) (hD.sub [0, 1, 2, 3] (by decide) rfl) hS
          · have hs : tbit tp b := c_106
            by_cases hkb : kno b
            · obtain ⟨k, hk, hfk⟩ := hkb
              refine lv_aload_n hx hb dM_takeMaps_109 rfl (lv_at hl 0 rfl) ?_
              refine lv_iload_n hx hb dM_takeMaps_110 rfl (lv_at hl 3 rfl) ?_
              refine lv_iconst (v := nI 1) hx hb dM_takeMaps_111 (by decide) ?_
              refine zi_add hx hb dM_takeMaps_112 ?_
              refine zi_v (b := nI (fFI k)) (by rw [hfk]) ?_
              refine zc_Ri (va_runV (As := [.int (nI (fFI k))]) (rest := []) ⟨hx, hb, hml, hown, hw⟩ (c_fieldOf_ok l dC dI m0 n0 n1 n2 cd dt e0 e1 rt e2 e3 e4 sz9 2 fl9 pl9 wr e5 cI cB k (by omega) H) (cwV 1 hw (gV w_ml_M_66 w_im_M_fieldOf w_se_M_fieldOf w_in_M w_co_M_fieldOf) rfl rfl rfl (by decide +kernel) ⟨Nat.le_of_ble_eq_true rfl, Nat.le_of_ble_eq_true rfl⟩) (zR_V hG hS (hP.sub (ws' := [(m0, .inr (4, [.ref n0, .ref n1, .ref n2, .int (nI cd), .int (nI dt), .ref e0, .ref e1, .int (nI rt), .ref e2, .ref e3, .ref e4, .int (nI sz9), .int (nI 2), .int (nI fl9), .int pl9, .int (nI wr), .ref e5])), (n0, .inl (cI, 16, .inl (aN fFI)))]) [0, 1] rfl) hK 0 rfl rfl) rfl rfl hl.1 rfl (lv_room (Nat.le_of_ble_eq_true rfl)) dM_takeMaps_113 ⟨Nat.le_of_ble_eq_true rfl, Nat.le_of_ble_eq_true rfl⟩) hS (fun r_8 locs h_113 hS => ?_)
              subst h_113
              refine lv_istore (lv' := [(4, .int (nI k)), (0, .ref m0), (1, .int (nI 16)), (2, .int (nI ab)), (3, .int (nI b))]) hx hb dM_takeMaps_116 hl (by decide) rfl (fun ls hl => ?_)
              refine lv_iload hx hb dM_takeMaps_118 (lv_at hl 0 rfl) ?_
              refine zi_ge0 (tgt := 140) hx hb (by omega) dM_takeMaps_120 (by decide) ?_
              refine lv_aload_n hx hb dM_takeMaps_140 rfl (lv_at hl 1 rfl) ?_
              refine va_get (D := (dC, dI)) (ci := 4) (v := .ref e3) (C := RM) (T := TM) (N := 17) hx hb hw inM hown hK hP 0 rfl rfl 9 (by decide) (hw _ w_fl_M_32) (fun _ h9 => h9) rfl dM_takeMaps_141 ?_
              refine lv_iload hx hb dM_takeMaps_144 (lv_at hl 0 rfl) ?_
              refine lv_iconst (v := nI 0) hx hb dM_takeMaps_146 (by decide) ?_
              refine zi_v (b := pm (0 + 1)) (pm_s _).symm ?_
              refine za_pst hx hb hK hP hD hS 2 0 rfl rfl (by omega) (by decide) dM_takeMaps_147 (fun H locs hP hD hS => ?_)
              have hP : va_P (dC, dI) vwCl [(m0, .inr (4, [.ref n0, .ref n1, .ref n2, .int (nI cd), .int (nI dt), .ref e0, .ref e1, .int (nI rt), .ref e2, .ref e3, .ref e4, .int (nI sz9), .int (nI 2), .int (nI fl9), .int pl9, .int (nI wr), .ref e5])), (n0, .inl (cI, 16, .inl (aN fFI))), (e3, .inl (cI, 16, .inl (aP (nup r9 k (0 + 1))))), (e4, .inl (cI, 400, .inl (aN tp)))] H := hP
              have hD : va_D A [(m0, .inr (4, [.ref n0, .ref n1, .ref n2, .int (nI cd), .int (nI dt), .ref e0, .ref e1, .int (nI rt), .ref e2, .ref e3, .ref e4, .int (nI sz9), .int (nI 2), .int (nI fl9), .int pl9, .int (nI wr), .ref e5])), (n0, .inl (cI, 16, .inl (aN fFI))), (e3, .inl (cI, 16, .inl (aP (nup r9 k (0 + 1))))), (e4, .inl (cI, 400, .inl (aN tp)))] := hD
              refine lv_iload_n hx hb dM_takeMaps_148 rfl (lv_at hl 3 rfl) ?_
              refine lv_iload_n hx hb dM_takeMaps_149 rfl (lv_at hl 4 rfl) ?_
              refine lv_bipush (v := nI 64) hx hb dM_takeMaps_150 (by decide) ?_
              refine zi_lt (tgt := 159) hx hb (by omega) (by omega) dM_takeMaps_152 (by decide) (fun c_152 => ?_) (fun c_152 => ?_)
              · refine lv_iconst (v := nI 0) hx hb dM_takeMaps_159 (by decide) ?_
                refine zi_add hx hb dM_takeMaps_160 ?_
                refine lv_istore_n (lv' := [(2, .int (nI (ab + 0))), (4, .int (nI k)), (0, .ref m0), (1, .int (nI 16)), (3, .int (nI b))]) hx hb dM_takeMaps_161 rfl hl (by decide) rfl (fun ls hl => ?_)
                have hst2 : (fl9 = 0 ∧ ∀ z, 1 ≤ z → z < b + 1 → tbit tp z → kno z) ∨ (fl9 = 4 ∧ pl9 = nI p2) := hst.imp (fun h => ⟨h.1, fun z z1 z2 z3 => by by_cases q9 : z = b; rw [q9]; exact ⟨k, hk, hfk⟩; exact h.2 z z1 (by omega) z3⟩) id
                refine lv_iinc (v := nI (b + 1)) (lv' := [(3, .int (nI (b + 1))), (2, .int (nI (ab + 0))), (4, .int (nI k)), (0, .ref m0), (1, .int (nI 16))]) hx hb dM_takeMaps_162 hl (k := 4) rfl (zi_incr b 1) (by decide) rfl (fun ls hl => ?_)
                refine lv_goto (tgt := 73) hx hb dM_takeMaps_165 (by decide) ?_
                exact ih73 (b + 1) (ab + 0) (nup r9 k (0 + 1)) fl9 pl9 (by omega) (by omega) (by omega) hst2 (by omega) _ _ _ (lv_sub hl [3, 4, 1, 0] rfl) (hP.sub [0, 1, 2, 3] rfl) (hD.sub [0, 1, 2, 3] (by decide) rfl) hS
              · refine lv_iconst (v := nI 1) hx hb dM_takeMaps_155 (by decide) ?_
                refine lv_goto (tgt := 160) hx hb dM_takeMaps_156 (by decide) ?_
                refine zi_add hx hb dM_takeMaps_160 ?_
                refine lv_istore_n (lv' := [(2, .int (nI (ab + 1))), (4, .int (nI k)), (0, .ref m0), (1, .int (nI 16)), (3, .int (nI b))]) hx hb dM_takeMaps_161 rfl hl (by decide) rfl (fun ls hl => ?_)
                have hst2 : (fl9 = 0 ∧ ∀ z, 1 ≤ z → z < b + 1 → tbit tp z → kno z) ∨ (fl9 = 4 ∧ pl9 = nI p2) := hst.imp (fun h => ⟨h.1, fun z z1 z2 z3 => by by_cases q9 : z = b; rw [q9]; exact ⟨k, hk, hfk⟩; exact h.2 z z1 (by omega) z3⟩) id
                refine lv_iinc (v := nI (b + 1)) (lv' := [(3, .int (nI (b + 1))), (2, .int (nI (ab + 1))), (4, .int (nI k)), (0, .ref m0), (1, .int (nI 16))]) hx hb dM_takeMaps_162 hl (k := 4) rfl (zi_incr b 1) (by decide) rfl (fun ls hl => ?_)
                refine lv_goto (tgt := 73) hx hb dM_takeMaps_165 (by decide) ?_
                exact ih73 (b + 1) (ab + 1) (nup r9 k (0 + 1)) fl9 pl9 (by omega) (by omega) (by omega) hst2 (by omega) _ _ _ (lv_sub hl [3, 4, 1, 0] rfl) (hP.sub [0, 1, 2, 3] rfl) (hD.sub [0, 1, 2, 3] (by decide) rfl) hS
            · refine lv_aload_n hx hb dM_takeMaps_109 rfl (lv_at hl 0 rfl) ?_
              refine lv_iload_n hx hb dM_takeMaps_110 rfl (lv_at hl 3 rfl) ?_
              refine lv_iconst (v := nI 1) hx hb dM_takeMaps_111 (by decide) ?_
              refine zi_add hx hb dM_takeMaps_112 ?_
              have hx9 : ∀ j, j < 16 → nI (fFI j) ≠ nI (b + 1) := fun j hj z => hkb ⟨j, hj, by have := fFI_b j hj; exact (nI_eq (by omega) (by omega)).mp z⟩
              refine zc_Ri (va_runV (As := [.int (nI (b + 1))]) (rest := []) ⟨hx, hb, hml, hown, hw⟩ (c_fieldOf_no l dC dI m0 n0 n1 n2 cd dt e0 e1 rt e2 e3 e4 sz9 2 fl9 pl9 wr e5 cI cB (nI (b + 1)) hx9 H) (cwV 1 hw (gV w_ml_M_66 w_im_M_fieldOf w_se_M_fieldOf w_in_M w_co_M_fieldOf) rfl rfl rfl (by decide +kernel) ⟨Nat.le_of_ble_eq_true rfl, Nat.le_of_ble_eq_true rfl⟩) (zR_V hG hS (hP.sub (ws' := [(m0, .inr (4, [.ref n0, .ref n1, .ref n2, .int (nI cd), .int (nI dt), .ref e0, .ref e1, .int (nI rt), .ref e2, .ref e3, .ref e4, .int (nI sz9), .int (nI 2), .int (nI fl9), .int pl9, .int (nI wr), .ref e5])), (n0, .inl (cI, 16, .inl (aN fFI)))]) [0, 1] rfl) hK 0 rfl rfl) rfl rfl hl.1 rfl (lv_room (Nat.le_of_ble_eq_true rfl)) dM_takeMaps_113 ⟨Nat.le_of_ble_eq_true rfl, Nat.le_of_ble_eq_true rfl⟩) hS (fun r_9 locs h_113 hS => ?_)
              subst h_113
              refine lv_istore (lv' := [(4, .int (-1)), (0, .ref m0), (1, .int (nI 16)), (2, .int (nI ab)), (3, .int (nI b))]) hx hb dM_takeMaps_116 hl (by decide) rfl (fun ls hl => ?_)
              refine lv_iload hx hb dM_takeMaps_118 (lv_at hl 0 rfl) ?_
              refine lv_if_ge (tgt := 140) hx hb dM_takeMaps_120 (by decide) (fun q => False.elim (absurd q (by decide))) (fun c_120 => ?_)
              rcases hst with ⟨hf0, hall⟩ | hf4
              · have hp2 : 2 + b / 8 = p2 := by
                  obtain ⟨i0, i1, i2, -, i4, i5, i6⟩ := mpL_some _ _ hmp
                  obtain ⟨b0, b1, b2, b3, b4⟩ := unk_of htp (by omega) i5
                  have h1 : ¬ b0 < b := fun z => b4 (hall b0 b2 z b3)
                  have h2 : ¬ b / 8 < i0 := fun z => hkb (kno_of htp (by omega) (by omega) (i6 (b / 8) (by omega) z) hs)
                  omega
                refine lv_aload_n hx hb dM_takeMaps_123 rfl (lv_at hl 1 rfl) ?_
                refine lv_iconst (v := nI 4) hx hb dM_takeMaps_124 (by decide) ?_
                refine lv_aload_n hx hb dM_takeMaps_125 rfl (lv_at hl 1 rfl) ?_
                refine va_get (D := (dC, dI)) (ci := 4) (v := .int (nI 2)) (C := RM) (T := TM) (N := 17) hx hb hw inM hown hK hP 0 rfl rfl 12 (by decide) (hw _ w_fl_M_108) (fun _ h9 => h9) rfl dM_takeMaps_126 ?_
                refine lv_iload_n hx hb dM_takeMaps_129 rfl (lv_at hl 4 rfl) ?_
                refine lv_bipush (v := nI 8) hx hb dM_takeMaps_130 (by decide) ?_
                refine zi_div hx hb (by omega) (by omega) (by omega) dM_takeMaps_132 ?_
                refine zi_add hx hb dM_takeMaps_133 ?_
                have hPc := hP.sub (ws' := [(m0, .inr (4, [.ref n0, .ref n1, .ref n2, .int (nI cd), .int (nI dt), .ref e0, .ref e1, .int (nI rt), .ref e2, .ref e3, .ref e4, .int (nI sz9), .int (nI 2), .int (nI fl9), .int pl9, .int (nI wr), .ref e5]))]) [0] rfl
                have hDc := hD.sub (ws' := [(m0, .inr (4, [.ref n0, .ref n1, .ref n2, .int (nI cd), .int (nI dt), .ref e0, .ref e1, .int (nI rt), .ref e2, .ref e3, .ref e4, .int (nI sz9), .int (nI 2), .int (nI fl9), .int pl9, .int (nI wr), .ref e5]))]) [0] (by decide) rfl
                have hFc := va_free (wc := [(m0, .inr (4, [.ref n0, .ref n1, .ref n2, .int (nI cd), .int (nI dt), .ref e0, .ref e1, .int (nI rt), .ref e2, .ref e3, .ref e4, .int (nI sz9), .int (nI 2), .int (nI fl9), .int pl9, .int (nI wr), .ref e5]))]) hD hS hA [0] rfl
                refine zc_Mv (va_runV (As := [.int (nI 4), .int (nI (2 + (b / 8)))]) (rest := []) ⟨hx, hb, hml, hown, hw⟩ (c_fails_1 l dC dI m0 n0 n1 n2 cd dt e0 e1 rt e2 e3 e4 sz9 2 fl9 pl9 wr e5 cI cB 4 (nI (2 + (b / 8))) hf0 H.size) (cwV 2 hw (gV w_ml_M_111 w_im_M_fails w_se_M_fails w_in_M w_co_M_fails) rfl rfl rfl (by decide +kernel) ⟨Nat.le_of_ble_eq_true rfl, Nat.le_of_ble_eq_true rfl⟩) (zM_V hG hS hFc hPc hDc hK 0 rfl rfl) rfl rfl hl.1 rfl (lv_room (Nat.le_of_ble_eq_true rfl)) dM_takeMaps_134 ⟨Nat.le_of_ble_eq_true rfl, Nat.le_of_ble_eq_true rfl⟩) hS hFc (fun H locs h_134 hP1 hD1 hk1 hS => ?_)
                obtain ⟨hP, hD⟩ := va_join (wr := [(n0, .inl (cI, 16, .inl (aN fFI))), (e3, .inl (cI, 16, .inl (aP r9))), (e4, .inl (cI, 400, .inl (aN tp)))]) (w1 := [(m0, .inr (4, [.ref n0, .ref n1, .ref n2, .int (nI cd), .int (nI dt), .ref e0, .ref e1, .int (nI rt), .ref e2, .ref e3, .ref e4, .int (nI sz9), .int (nI 2), .int (nI 4), .int (nI (2 + (b / 8))), .int (nI wr), .ref e5]))]) hP hD [0] [1, 2, 3] rfl rfl (by decide) (by decide) hk1 hFc hP1 hD1
                have hP : va_P (dC, dI) vwCl [(n0, .inl (cI, 16, .inl (aN fFI))), (e3, .inl (cI, 16, .inl (aP r9))), (e4, .inl (cI, 400, .inl (aN tp))), (m0, .inr (4, [.ref n0, .ref n1, .ref n2, .int (nI cd), .int (nI dt), .ref e0, .ref e1, .int (nI rt), .ref e2, .ref e3, .ref e4, .int (nI sz9), .int (nI 2), .int (nI 4), .int (nI (2 + (b / 8))), .int (nI wr), .ref e5]))] H := hP
                have hD : va_D A [(n0, .inl (cI, 16, .inl (aN fFI))), (e3, .inl (cI, 16, .inl (aP r9))), (e4, .inl (cI, 400, .inl (aN tp))), (m0, .inr (4, [.ref n0, .ref n1, .ref n2, .int (nI cd), .int (nI dt), .ref e0, .ref e1, .int (nI rt), .ref e2, .ref e3, .ref e4, .int (nI sz9), .int (nI 2), .int (nI 4), .int (nI (2 + (b / 8))), .int (nI wr), .ref e5]))] := hD
                refine lv_goto (tgt := 162) hx hb dM_takeMaps_137 (by decide) ?_
                have hst2 : (4 = 0 ∧ ∀ z, 1 ≤ z → z < b + 1 → tbit tp z → kno z) ∨ (4 = 4 ∧ (nI (2 + (b / 8))) = nI p2) := Or.inr ⟨rfl, (by rw [hp2])⟩
                refine lv_iinc (v := nI (b + 1)) (lv' := [(3, .int (nI (b + 1))), (4, .int (-1)), (0, .ref m0), (1, .int (nI 16)), (2, .int (nI ab))]) hx hb dM_takeMaps_162 hl (k := 4) rfl (zi_incr b 1) (by decide) rfl (fun ls hl => ?_)
                refine lv_goto (tgt := 73) hx hb dM_takeMaps_165 (by decide) ?_
                exact ih73 (b + 1) ab r9 4 (nI (2 + (b / 8))) (by omega) (by omega) (by omega) hst2 (by omega) _ _ _ (lv_sub hl [2, 3, 4, 0] rfl) (hP.sub [3, 0, 1, 2] rfl) (hD.sub [3, 0, 1, 2] (by decide) rfl) hS
              · refine lv_aload_n hx hb dM_takeMaps_123 rfl (lv_at hl 1 rfl) ?_
                refine lv_iconst (v := nI 4) hx hb dM_takeMaps_124 (by decide) ?_
                refine lv_aload_n hx hb dM_takeMaps_125 rfl (lv_at hl 1 rfl) ?_
                refine va_get (D := (dC, dI)) (ci := 4) (v := .int (nI 2)) (C := RM) (T := TM) (N := 17) hx hb hw inM hown hK hP 0 rfl rfl 12 (by decide) (hw _ w_fl_M_108) (fun _ h9 => h9) rfl dM_takeMaps_126 ?_
                refine lv_iload_n hx hb dM_takeMaps_129 rfl (lv_at hl 4 rfl) ?_
                refine lv_bipush (v := nI 8) hx hb dM_takeMaps_130 (by decide) ?_
                refine zi_div hx hb (by omega) (by omega) (by omega) dM_takeMaps_132 ?_
                refine zi_add hx hb dM_takeMaps_133 ?_
                have hPc := hP.sub (ws' := [(m0, .inr (4, [.ref n0, .ref n1, .ref n2, .int (nI cd), .int (nI dt), .ref e0, .ref e1, .int (nI rt), .ref e2, .ref e3, .ref e4, .int (nI sz9), .int (nI 2), .int (nI fl9), .int pl9, .int (nI wr), .ref e5]))]) [0] rfl
                have hDc := hD.sub (ws' := [(m0, .inr (4, [.ref n0, .ref n1, .ref n2, .int (nI cd), .int (nI dt), .ref e0, .ref e1, .int (nI rt), .ref e2, .ref e3, .ref e4, .int (nI sz9), .int (nI 2), .int (nI fl9), .int pl9, .int (nI wr), .ref e5]))]) [0] (by decide) rfl
                have hFc := va_free (wc := [(m0, .inr (4, [.ref n0, .ref n1, .ref n2, .int (nI cd), .int (nI dt), .ref e0, .ref e1, .int (nI rt), .ref e2, .ref e3, .ref e4, .int (nI sz9), .int (nI 2), .int (nI fl9), .int pl9, .int (nI wr), .ref e5]))]) hD hS hA [0] rfl
                refine zc_Mv (va_runV (As := [.int (nI 4), .int (nI (2 + (b / 8)))]) (rest := []) ⟨hx, hb, hml, hown, hw⟩ (c_fails_0 l dC dI m0 n0 n1 n2 cd dt e0 e1 rt e2 e3 e4 sz9 2 fl9 pl9 wr e5 cI cB 4 (nI (2 + (b / 8))) (by rw [hf4.1]; decide) (by rw [hf4.1]; decide) H.size) (cwV 2 hw (gV w_ml_M_111 w_im_M_fails w_se_M_fails w_in_M w_co_M_fails) rfl rfl rfl (by decide +kernel) ⟨Nat.le_of_ble_eq_true rfl, Nat.le_of_ble_eq_true rfl⟩) (zM_V hG hS hFc hPc hDc hK 0 rfl rfl) rfl rfl hl.1 rfl (lv_room (Nat.le_of_ble_eq_true rfl)) dM_takeMaps_134 ⟨Nat.le_of_ble_eq_true rfl, Nat.le_of_ble_eq_true rfl⟩) hS hFc (fun H locs h_134 hP1 hD1 hk1 hS => ?_)
                obtain ⟨hP, hD⟩ := va_join (wr := [(n0, .inl (cI, 16, .inl (aN fFI))), (e3, .inl (cI, 16, .inl (aP r9))), (e4, .inl (cI, 400, .inl (aN tp)))]) (w1 := [(m0, .inr (4, [.ref n0, .ref n1, .ref n2, .int (nI cd), .int (nI dt), .ref e0, .ref e1, .int (nI rt), .ref e2, .ref e3, .ref e4, .int (nI sz9), .int (nI 2), .int (nI fl9), .int pl9, .int (nI wr), .ref e5]))]) hP hD [0] [1, 2, 3] rfl rfl (by decide) (by decide) hk1 hFc hP1 hD1
                have hP : va_P (dC, dI) vwCl [(n0, .inl (cI, 16, .inl (aN fFI))), (e3, .inl (cI, 16, .inl (aP r9))), (e4, .inl (cI, 400, .inl (aN tp))), (m0, .inr (4, [.ref n0, .ref n1, .ref n2, .int (nI cd), .int (nI dt), .ref e0, .ref e1, .int (nI rt), .ref e2, .ref e3, .ref e4, .int (nI sz9), .int (nI 2), .int (nI fl9), .int pl9, .int (nI wr), .ref e5]))] H := hP
                have hD : va_D A [(n0, .inl (cI, 16, .inl (aN fFI))), (e3, .inl (cI, 16, .inl (aP r9))), (e4, .inl (cI, 400, .inl (aN tp))), (m0, .inr (4, [.ref n0, .ref n1, .ref n2, .int (nI cd), .int (nI dt), .ref e0, .ref e1, .int (nI rt), .ref e2, .ref e3, .ref e4, .int (nI sz9), .int (nI 2), .int (nI fl9), .int pl9, .int (nI wr), .ref e5]))] := hD
                refine lv_goto (tgt := 162) hx hb dM_takeMaps_137 (by decide) ?_
                have hst2 : (fl9 = 0 ∧ ∀ z, 1 ≤ z → z < b + 1 → tbit tp z → kno z) ∨ (fl9 = 4 ∧ pl9 = nI p2) := Or.inr ⟨hf4.1, hf4.2⟩
                refine lv_iinc (v := nI (b + 1)) (lv' := [(3, .int (nI (b + 1))), (4, .int (-1)), (0, .ref m0), (1, .int (nI 16)), (2, .int (nI ab))]) hx hb dM_takeMaps_162 hl (k := 4) rfl (zi_incr b 1) (by decide) rfl (fun ls hl => ?_)
                refine lv_goto (tgt := 73) hx hb dM_takeMaps_165 (by decide) ?_
                exact ih73 (b + 1) ab r9 fl9 pl9 (by omega) (by omega) (by omega) hst2 (by omega) _ _ _ (lv_sub hl [2, 3, 4, 0] rfl) (hP.sub [3, 0, 1, 2] rfl) (hD.sub [3, 0, 1, 2] (by decide) rfl) hS
    exact lp_73 ((8 * 16 - 1) + 1) 1 0 rs fl pl (by omega) (by omega) (by omega) (Or.inl ⟨hfl, fun z z1 z2 _ => absurd z2 (by omega)⟩) (Nat.lt_succ_self _) _ _ _ (lv_sub hl [3, 2, 1, 0] rfl) (hP.sub [0, 1, 2, 3] rfl) (hD.sub [0, 1, 2, 3] (by decide) rfl) hS
  · have hkn : ∀ z, 1 ≤ z → z < 8 * 16 → tbit tp z → kno z := fun z z1 z2 z3 => kno_of htp z1 (by omega) (mpL_none _ _ hmp (z / 8) (by omega) (by omega)) z3
    refine lv_aload_n hx hb dM_takeMaps_0 rfl (lv_at hl 0 rfl) ?_
    refine va_get (D := (dC, dI)) (ci := 4) (v := .int (nI 2)) (C := RM) (T := TM) (N := 17) hx hb hw inM hown hK hP 0 rfl rfl 12 (by decide) (hw _ w_fl_M_108) (fun _ h9 => h9) rfl dM_takeMaps_1 ?_
    refine lv_bipush (v := nI 8) hx hb dM_takeMaps_4 (by decide) ?_
    refine lv_iadd hx hb dM_takeMaps_6 ?_
    refine zi_v (b := nI 10) (by decide) ?_
    refine lv_aload_n hx hb dM_takeMaps_7 rfl (lv_at hl 0 rfl) ?_
    refine va_get (D := (dC, dI)) (ci := 4) (v := .int (nI sz9)) (C := RM) (T := TM) (N := 17) hx hb hw inM hown hK hP 0 rfl rfl 11 (by decide) (hw _ w_fl_M_99) (fun _ h9 => h9) rfl dM_takeMaps_8 ?_
    refine zi_le (tgt := 24) hx hb (by omega) (by omega) dM_takeMaps_11 (by decide) (fun c_11 => ?_) (fun q => False.elim ((by omega)))
    refine lv_aload_n hx hb dM_takeMaps_24 rfl (lv_at hl 0 rfl) ?_
    refine va_get (D := (dC, dI)) (ci := 4) (v := .ref e4) (C := RM) (T := TM) (N := 17) hx hb hw inM hown hK hP 0 rfl rfl 10 (by decide) (hw _ w_fl_M_35) (fun _ h9 => h9) rfl dM_takeMaps_25 ?_
    refine lv_aload_n hx hb dM_takeMaps_28 rfl (lv_at hl 0 rfl) ?_
    refine va_get (D := (dC, dI)) (ci := 4) (v := .int (nI 2)) (C := RM) (T := TM) (N := 17) hx hb hw inM hown hK hP 0 rfl rfl 12 (by decide) (hw _ w_fl_M_108) (fun _ h9 => h9) rfl dM_takeMaps_29 ?_
    refine za_ild hx hb hK hP 3 0 rfl rfl (by omega) (by decide) dM_takeMaps_32 ?_
    refine lv_bipush (v := nI 127) hx hb dM_takeMaps_33 (by decide) ?_
    refine zi_le (tgt := 43) hx hb (by omega) (by omega) dM_takeMaps_35 (by decide) (fun q => False.elim ((by omega))) (fun c_35 => ?_)
    refine lv_bipush (v := nI 16) hx hb dM_takeMaps_38 (by decide) ?_
    refine lv_goto (tgt := 45) hx hb dM_takeMaps_40 (by decide) ?_
    refine lv_istore_n (lv' := [(1, .int (nI 16)), (0, .ref m0)]) hx hb dM_takeMaps_45 rfl hl (by decide) rfl (fun ls hl => ?_)
    refine lv_aload_n hx hb dM_takeMaps_46 rfl (lv_at hl 1 rfl) ?_
    refine va_get (D := (dC, dI)) (ci := 4) (v := .int (nI 2)) (C := RM) (T := TM) (N := 17) hx hb hw inM hown hK hP 0 rfl rfl 12 (by decide) (hw _ w_fl_M_108) (fun _ h9 => h9) rfl dM_takeMaps_47 ?_
    refine lv_iload_n hx hb dM_takeMaps_50 rfl (lv_at hl 0 rfl) ?_
    refine lv_iadd hx hb dM_takeMaps_51 ?_
    refine zi_v (b := nI 18) (by decide) ?_
    refine lv_aload_n hx hb dM_takeMaps_52 rfl (lv_at hl 1 rfl) ?_
    refine va_get (D := (dC, dI)) (ci := 4) (v := .int (nI sz9)) (C := RM) (T := TM) (N := 17) hx hb hw inM hown hK hP 0 rfl rfl 11 (by decide) (hw _ w_fl_M_99) (fun _ h9 => h9) rfl dM_takeMaps_53 ?_
    refine zi_le (tgt := 69) hx hb (by omega) (by omega) dM_takeMaps_56 (by decide) (fun c_56 => ?_) (fun q => False.elim ((by omega)))
    refine lv_iconst (v := nI 0) hx hb dM_takeMaps_69 (by decide) ?_
    refine lv_istore_n (lv' := [(2, .int (nI 0)), (1, .int (nI 16)), (0, .ref m0)]) hx hb dM_takeMaps_70 rfl hl (by decide) rfl (fun ls hl => ?_)
    refine lv_iconst (v := nI 1) hx hb dM_takeMaps_71 (by decide) ?_
    refine lv_istore_n (lv' := [(3, .int (nI 1)), (2, .int (nI 0)), (1, .int (nI 16)), (0, .ref m0)]) hx hb dM_takeMaps_72 rfl hl (by decide) rfl (fun ls hl => ?_)
    have lp_73 : ∀ (fu : Nat) (b : Nat) (ab : Nat) (r9 : Nat → Nat) (hb1 : 1 ≤ b) (hb2 : b ≤ 8 * 16) (hab9 : ab ≤ b) (ha : ab = 0) (hms : 8 * 16 - b < fu) (H : Heap) (locs : List Loc) (ls : Array Slot), lv_has ls 5 [(0, .ref m0), (1, .int (nI 16)), (2, .int (nI ab)), (3, .int (nI b))] → va_P (dC, dI) vwCl [(m0, .inr (4, [.ref n0, .ref n1, .ref n2, .int (nI cd), .int (nI dt), .ref e0, .ref e1, .int (nI rt), .ref e2, .ref e3, .ref e4, .int (nI sz9), .int (nI 2), .int (nI fl), .int pl, .int (nI wr), .ref e5])), (n0, .inl (cI, 16, .inl (aN fFI))), (e3, .inl (cI, 16, .inl (aP r9))), (e4, .inl (cI, 400, .inl (aN tp)))] H → va_D A [(m0, .inr (4, [.ref n0, .ref n1, .ref n2, .int (nI cd), .int (nI dt), .ref e0, .ref e1, .int (nI rt), .ref e2, .ref e3, .ref e4, .int (nI sz9), .int (nI 2), .int (nI fl), .int pl, .int (nI wr), .ref e5])), (n0, .inl (cI, 16, .inl (aN fFI))), (e3, .inl (cI, 16, .inl (aP r9))), (e4, .inl (cI, 400, .inl (aN tp)))] → va_S A s.heap H locs → W p l e rm_c_takeMaps_no s m ([.ref m0] : List Value).toArray below meth c H locs 0 0 Q (F0 m 73 ls []) := by
      intro fu
      induction fu with
      | zero => intro b ab r9 hb1 hb2 hab9 ha hms; exact absurd hms (Nat.not_lt_zero _)
      | succ fu ih73 =>
        intro b ab r9 hb1 hb2 hab9 ha hms H locs ls hl hP hD hS
        refine lv_iload_n hx hb dM_takeMaps_73 rfl (lv_at hl 3 rfl) ?_
        refine lv_bipush (v := nI 8) hx hb dM_takeMaps_74 (by decide) ?_
        refine lv_iload_n hx hb dM_takeMaps_76 rfl (lv_at hl 1 rfl) ?_
        refine zi_mul hx hb dM_takeMaps_77 ?_
        refine zi_ge (tgt := 168) hx hb (by omega) (by omega) dM_takeMaps_78 (by decide) (fun c_78 => ?_) (fun c_78 => ?_)
        · refine lv_iload_n hx hb dM_takeMaps_168 rfl (lv_at hl 1 rfl) ?_
          refine lv_bipush (v := nI 16) hx hb dM_takeMaps_169 (by decide) ?_
          refine lv_icmp_ne (tgt := 190) hx hb dM_takeMaps_171 (by decide) (fun q => False.elim (absurd q (by decide))) (fun c_171 => ?_)
          refine lv_iload_n hx hb dM_takeMaps_174 rfl (lv_at hl 2 rfl) ?_
          refine zi_ne0 (tgt := 190) hx hb (by omega) dM_takeMaps_175 (by decide) (fun q => False.elim ((by omega))) (fun c_175 => ?_)
          refine lv_aload_n hx hb dM_takeMaps_178 rfl (lv_at hl 0 rfl) ?_
          refine lv_iconst (v := nI 4) hx hb dM_takeMaps_179 (by decide) ?_
          refine lv_aload_n hx hb dM_takeMaps_180 rfl (lv_at hl 0 rfl) ?_
          refine va_get (D := (dC, dI)) (ci := 4) (v := .int (nI 2)) (C := RM) (T := TM) (N := 17) hx hb hw inM hown hK hP 0 rfl rfl 12 (by decide) (hw _ w_fl_M_108) (fun _ h9 => h9) rfl dM_takeMaps_181 ?_
          refine lv_bipush (v := nI 8) hx hb dM_takeMaps_184 (by decide) ?_
          refine lv_iadd hx hb dM_takeMaps_186 ?_
          refine zi_v (b := nI 10) (by decide) ?_
          have hPc := hP.sub (ws' := [(m0, .inr (4, [.ref n0, .ref n1, .ref n2, .int (nI cd), .int (nI dt), .ref e0, .ref e1, .int (nI rt), .ref e2, .ref e3, .ref e4, .int (nI sz9), .int (nI 2), .int (nI fl), .int pl, .int (nI wr), .ref e5]))]) [0] rfl
          have hDc := hD.sub (ws' := [(m0, .inr (4, [.ref n0, .ref n1, .ref n2, .int (nI cd), .int (nI dt), .ref e0, .ref e1, .int (nI rt), .ref e2, .ref e3, .ref e4, .int (nI sz9), .int (nI 2), .int (nI fl), .int pl, .int (nI wr), .ref e5]))]) [0] (by decide) rfl
          have hFc := va_free (wc := [(m0, .inr (4, [.ref n0, .ref n1, .ref n2, .int (nI cd), .int (nI dt), .ref e0, .ref e1, .int (nI rt), .ref e2, .ref e3, .ref e4, .int (nI sz9), .int (nI 2), .int (nI fl), .int pl, .int (nI wr), .ref e5]))]) hD hS hA [0] rfl
          refine zc_Mv (va_runV (As := [.int (nI 4), .int (nI 10)]) (rest := []) ⟨hx, hb, hml, hown, hw⟩ (c_fails_1 l dC dI m0 n0 n1 n2 cd dt e0 e1 rt e2 e3 e4 sz9 2 fl pl wr e5 cI cB 4 (nI 10) hfl H.size) (cwV 2 hw (gV w_ml_M_111 w_im_M_fails w_se_M_fails w_in_M w_co_M_fails) rfl rfl rfl (by decide +kernel) ⟨Nat.le_of_ble_eq_true rfl, Nat.le_of_ble_eq_true rfl⟩) (zM_V hG hS hFc hPc hDc hK 0 rfl rfl) rfl rfl hl.1 rfl (lv_room (Nat.le_of_ble_eq_true rfl)) dM_takeMaps_187 ⟨Nat.le_of_ble_eq_true rfl, Nat.le_of_ble_eq_true rfl⟩) hS hFc (fun H locs h_187 hP1 hD1 hk1 hS => ?_)
          obtain ⟨hP, hD⟩ := va_join (wr := [(n0, .inl (cI, 16, .inl (aN fFI))), (e3, .inl (cI, 16, .inl (aP r9))), (e4, .inl (cI, 400, .inl (aN tp)))]) (w1 := [(m0, .inr (4, [.ref n0, .ref n1, .ref n2, .int (nI cd), .int (nI dt), .ref e0, .ref e1, .int (nI rt), .ref e2, .ref e3, .ref e4, .int (nI sz9), .int (nI 2), .int (nI 4), .int (nI 10), .int (nI wr), .ref e5]))]) hP hD [0] [1, 2, 3] rfl rfl (by decide) (by decide) hk1 hFc hP1 hD1
          have hP : va_P (dC, dI) vwCl [(n0, .inl (cI, 16, .inl (aN fFI))), (e3, .inl (cI, 16, .inl (aP r9))), (e4, .inl (cI, 400, .inl (aN tp))), (m0, .inr (4, [.ref n0, .ref n1, .ref n2, .int (nI cd), .int (nI dt), .ref e0, .ref e1, .int (nI rt), .ref e2, .ref e3, .ref e4, .int (nI sz9), .int (nI 2), .int (nI 4), .int (nI 10), .int (nI wr), .ref e5]))] H := hP
          have hD : va_D A [(n0, .inl (cI, 16, .inl (aN fFI))), (e3, .inl (cI, 16, .inl (aP r9))), (e4, .inl (cI, 400, .inl (aN tp))), (m0, .inr (4, [.ref n0, .ref n1, .ref n2, .int (nI cd), .int (nI dt), .ref e0, .ref e1, .int (nI rt), .ref e2, .ref e3, .ref e4, .int (nI sz9), .int (nI 2), .int (nI 4), .int (nI 10), .int (nI wr), .ref e5]))] := hD
          refine lv_aload_n hx hb dM_takeMaps_190 rfl (lv_at hl 0 rfl) ?_
          refine lv_dup hx hb dM_takeMaps_191 rfl ?_
          refine va_get (D := (dC, dI)) (ci := 4) (v := .int (nI 2)) (C := RM) (T := TM) (N := 17) hx hb hw inM hown hK hP 3 rfl rfl 12 (by decide) (hw _ w_fl_M_108) (fun _ h9 => h9) rfl dM_takeMaps_192 ?_
          refine lv_iload_n hx hb dM_takeMaps_195 rfl (lv_at hl 1 rfl) ?_
          refine lv_iadd hx hb dM_takeMaps_196 ?_
          refine zi_v (b := nI 18) (by decide) ?_
          refine va_put (D := (dC, dI)) (ci := 4) (v := .int (nI 18)) (ty := .int) (C := RM) (T := TM) (N := 17) hx hb hw inM tyM tyM_ok nmM hown hK hP hD hS 3 rfl rfl 12 (by decide) (hw _ w_fl_M_108) (fun _ h9 => h9) rfl (by decide +kernel) rfl rfl (Nat.le_of_ble_eq_true rfl) dM_takeMaps_197 (fun H locs hP hD hS => ?_)
          have hP : va_P (dC, dI) vwCl [(n0, .inl (cI, 16, .inl (aN fFI))), (e3, .inl (cI, 16, .inl (aP r9))), (e4, .inl (cI, 400, .inl (aN tp))), (m0, .inr (4, [.ref n0, .ref n1, .ref n2, .int (nI cd), .int (nI dt), .ref e0, .ref e1, .int (nI rt), .ref e2, .ref e3, .ref e4, .int (nI sz9), .int (nI 18), .int (nI 4), .int (nI 10), .int (nI wr), .ref e5]))] H := hP
          have hD : va_D A [(n0, .inl (cI, 16, .inl (aN fFI))), (e3, .inl (cI, 16, .inl (aP r9))), (e4, .inl (cI, 400, .inl (aN tp))), (m0, .inr (4, [.ref n0, .ref n1, .ref n2, .int (nI cd), .int (nI dt), .ref e0, .ref e1, .int (nI rt), .ref e2, .ref e3, .ref e4, .int (nI sz9), .int (nI 18), .int (nI 4), .int (nI 10), .int (nI wr), .ref e5]))] := hD
          subst hAe
          subst hQ
          exact W.vret hx hb hr (fun t ht hW => ⟨⟨(18, r9), rfl, trivial, by rw [ht]; exact hP.sub [3, 0, 1, 2] rfl, hD.sub [3, 0, 1, 2] (by decide) rfl⟩, hS.F ht⟩) hS.2.2 dM_takeMaps_200
        · have ht9 := htp (2 + b / 8)
          refine lv_aload_n hx hb dM_takeMaps_81 rfl (lv_at hl 0 rfl) ?_
          refine va_get (D := (dC, dI)) (ci := 4) (v := .ref e4) (C := RM) (T := TM) (N := 17) hx hb hw inM hown hK hP 0 rfl rfl 10 (by decide) (hw _ w_fl_M_35) (fun _ h9 => h9) rfl dM_takeMaps_82 ?_
          refine lv_aload_n hx hb dM_takeMaps_85 rfl (lv_at hl 0 rfl) ?_
          refine va_get (D := (dC, dI)) (ci := 4) (v := .int (nI 2)) (C := RM) (T := TM) (N := 17) hx hb hw inM hown hK hP 0 rfl rfl 12 (by decide) (hw _ w_fl_M_108) (fun _ h9 => h9) rfl dM_takeMaps_86 ?_
          refine lv_iload_n hx hb dM_takeMaps_89 rfl (lv_at hl 3 rfl) ?_
          refine lv_bipush (v := nI 8) hx hb dM_takeMaps_90 (by decide) ?_
          refine zi_div hx hb (by omega) (by omega) (by omega) dM_takeMaps_92 ?_
          refine zi_add hx hb dM_takeMaps_93 ?_
          refine za_ild hx hb hK hP 3 0 rfl rfl (by omega) (by decide) dM_takeMaps_94 ?_
          refine lv_bipush (v := nI 7) hx hb dM_takeMaps_95 (by decide) ?_
          refine lv_iload_n hx hb dM_takeMaps_97 rfl (lv_at hl 3 rfl) ?_
          refine lv_bipush (v := nI 8) hx hb dM_takeMaps_98 (by decide) ?_
          refine zi_rem hx hb (by omega) (by omega) (by omega) dM_takeMaps_100 ?_
          refine zi_sub hx hb (by omega) dM_takeMaps_101 ?_
          refine lv_ishr hx hb dM_takeMaps_102 ?_
          refine zi_v (b := nI (tp (2 + b / 8) / 2 ^ (7 - b % 8))) (shr_N (by omega) (by omega)) ?_
          have hdv : tp (2 + b / 8) / 2 ^ (7 - b % 8) ≤ tp (2 + b / 8) := Nat.div_le_self _ _
          refine lv_iconst (v := nI 1) hx hb dM_takeMaps_103 (by decide) ?_
          refine zi_and hx hb 1 (by omega) (by decide) dM_takeMaps_104 ?_
          refine zi_v (b := nI ((tp (2 + b / 8) / 2 ^ (7 - b % 8)) % 2)) rfl ?_
          refine lv_iconst (v := nI 1) hx hb dM_takeMaps_105 (by decide) ?_
          refine zi_ne (tgt := 162) hx hb (by omega) (by omega) dM_takeMaps_106 (by decide) (fun c_106 => ?_) (fun c_106 => ?_)
          · have ha2 := ha
            refine lv_iinc (v := nI (b + 1)) (lv' := [(3, .int (nI (b + 1))), (0, .ref m0), (1, .int (nI 16)), (2, .int (nI ab))]) hx hb dM_takeMaps_162 hl (k := 3) rfl (zi_incr b 1) (by decide) rfl (fun ls hl => ?_)
            refine lv_goto (tgt := 73) hx hb dM_takeMaps_165 (by decide) ?_
            exact ih73 (b + 1) ab r9 (by omega) (by omega) (by omega) ha2 (by omega) _ _ _ (lv_sub hl [1, 2, 3, 0] rfl) (hP.sub [0, 1, 2, 3] rfl) (hD.sub [0, 1, 2, 3] (by decide) rfl) hS
          · have hs : tbit tp b := c_106
            obtain ⟨k, hk, hfk⟩ := hkn b (by omega) (by omega) hs
            refine lv_aload_n hx hb dM_takeMaps_109 rfl (lv_at hl 0 rfl) ?_
            refine lv_iload_n hx hb dM_takeMaps_110 rfl (lv_at hl 3 rfl) ?_
            refine lv_iconst (v := nI 1) hx hb dM_takeMaps_111 (by decide) ?_
            refine zi_add hx hb dM_takeMaps_112 ?_
            refine zi_v (b := nI (fFI k)) (by rw [hfk]) ?_
            refine zc_Ri (va_runV (As := [.int (nI (fFI k))]) (rest := []) ⟨hx, hb, hml, hown, hw⟩ (c_fieldOf_ok l dC dI m0 n0 n1 n2 cd dt e0 e1 rt e2 e3 e4 sz9 2 fl pl wr e5 cI cB k (by omega) H) (cwV 1 hw (gV w_ml_M_66 w_im_M_fieldOf w_se_M_fieldOf w_in_M w_co_M_fieldOf) rfl rfl rfl (by decide +kernel) ⟨Nat.le_of_ble_eq_true rfl, Nat.le_of_ble_eq_true rfl⟩) (zR_V hG hS (hP.sub (ws' := [(m0, .inr (4, [.ref n0, .ref n1, .ref n2, .int (nI cd), .int (nI dt), .ref e0, .ref e1, .int (nI rt), .ref e2, .ref e3, .ref e4, .int (nI sz9), .int (nI 2), .int (nI fl), .int pl, .int (nI wr), .ref e5])), (n0, .inl (cI, 16, .inl (aN fFI)))]) [0, 1] rfl) hK 0 rfl rfl) rfl rfl hl.1 rfl (lv_room (Nat.le_of_ble_eq_true rfl)) dM_takeMaps_113 ⟨Nat.le_of_ble_eq_true rfl, Nat.le_of_ble_eq_true rfl⟩) hS (fun r_13 locs h_113 hS => ?_)
            subst h_113
            refine lv_istore (lv' := [(4, .int (nI k)), (0, .ref m0), (1, .int (nI 16)), (2, .int (nI ab)), (3, .int (nI b))]) hx hb dM_takeMaps_116 hl (by decide) rfl (fun ls hl => ?_)
            refine lv_iload hx hb dM_takeMaps_118 (lv_at hl 0 rfl) ?_
            refine zi_ge0 (tgt := 140) hx hb (by omega) dM_takeMaps_120 (by decide) ?_
            refine lv_aload_n hx hb dM_takeMaps_140 rfl (lv_at hl 1 rfl) ?_
            refine va_get (D := (dC, dI)) (ci := 4) (v := .ref e3) (C := RM) (T := TM) (N := 17) hx hb hw inM hown hK hP 0 rfl rfl 9 (by decide) (hw _ w_fl_M_32) (fun _ h9 => h9) rfl dM_takeMaps_141 ?_
            refine lv_iload hx hb dM_takeMaps_144 (lv_at hl 0 rfl) ?_
            refine lv_iconst (v := nI 0) hx hb dM_takeMaps_146 (by decide) ?_
            refine zi_v (b := pm (0 + 1)) (pm_s _).symm ?_
            refine za_pst hx hb hK hP hD hS 2 0 rfl rfl (by omega) (by decide) dM_takeMaps_147 (fun H locs hP hD hS => ?_)
            have hP : va_P (dC, dI) vwCl [(m0, .inr (4, [.ref n0, .ref n1, .ref n2, .int (nI cd), .int (nI dt), .ref e0, .ref e1, .int (nI rt), .ref e2, .ref e3, .ref e4, .int (nI sz9), .int (nI 2), .int (nI fl), .int pl, .int (nI wr), .ref e5])), (n0, .inl (cI, 16, .inl (aN fFI))), (e3, .inl (cI, 16, .inl (aP (nup r9 k (0 + 1))))), (e4, .inl (cI, 400, .inl (aN tp)))] H := hP
            have hD : va_D A [(m0, .inr (4, [.ref n0, .ref n1, .ref n2, .int (nI cd), .int (nI dt), .ref e0, .ref e1, .int (nI rt), .ref e2, .ref e3, .ref e4, .int (nI sz9), .int (nI 2), .int (nI fl), .int pl, .int (nI wr), .ref e5])), (n0, .inl (cI, 16, .inl (aN fFI))), (e3, .inl (cI, 16, .inl (aP (nup r9 k (0 + 1))))), (e4, .inl (cI, 400, .inl (aN tp)))] := hD
            refine lv_iload_n hx hb dM_takeMaps_148 rfl (lv_at hl 3 rfl) ?_
            refine lv_iload_n hx hb dM_takeMaps_149 rfl (lv_at hl 4 rfl) ?_
            refine lv_bipush (v := nI 64) hx hb dM_takeMaps_150 (by decide) ?_
            refine zi_lt (tgt := 159) hx hb (by omega) (by omega) dM_takeMaps_152 (by decide) (fun c_152 => ?_) (fun c_152 => ?_)
            · refine lv_iconst (v := nI 0) hx hb dM_takeMaps_159 (by decide) ?_
              refine zi_add hx hb dM_takeMaps_160 ?_
              refine lv_istore_n (lv' := [(2, .int (nI (ab + 0))), (4, .int (nI k)), (0, .ref m0), (1, .int (nI 16)), (3, .int (nI b))]) hx hb dM_takeMaps_161 rfl hl (by decide) rfl (fun ls hl => ?_)
              have ha2 : ab + 0 = 0 := by have : ¬ 64 ≤ b := (fun z => no_bit hany z (by omega) hs); omega
              refine lv_iinc (v := nI (b + 1)) (lv' := [(3, .int (nI (b + 1))), (2, .int (nI (ab + 0))), (4, .int (nI k)), (0, .ref m0), (1, .int (nI 16))]) hx hb dM_takeMaps_162 hl (k := 4) rfl (zi_incr b 1) (by decide) rfl (fun ls hl => ?_)
              refine lv_goto (tgt := 73) hx hb dM_takeMaps_165 (by decide) ?_
              exact ih73 (b + 1) (ab + 0) (nup r9 k (0 + 1)) (by omega) (by omega) (by omega) ha2 (by omega) _ _ _ (lv_sub hl [3, 4, 1, 0] rfl) (hP.sub [0, 1, 2, 3] rfl) (hD.sub [0, 1, 2, 3] (by decide) rfl) hS
            · refine lv_iconst (v := nI 1) hx hb dM_takeMaps_155 (by decide) ?_
              refine lv_goto (tgt := 160) hx hb dM_takeMaps_156 (by decide) ?_
              refine zi_add hx hb dM_takeMaps_160 ?_
              refine lv_istore_n (lv' := [(2, .int (nI (ab + 1))), (4, .int (nI k)), (0, .ref m0), (1, .int (nI 16)), (3, .int (nI b))]) hx hb dM_takeMaps_161 rfl hl (by decide) rfl (fun ls hl => ?_)
              have ha2 : ab + 1 = 0 := by have : ¬ 64 ≤ b := (fun z => no_bit hany z (by omega) hs); omega
              refine lv_iinc (v := nI (b + 1)) (lv' := [(3, .int (nI (b + 1))), (2, .int (nI (ab + 1))), (4, .int (nI k)), (0, .ref m0), (1, .int (nI 16))]) hx hb dM_takeMaps_162 hl (k := 4) rfl (zi_incr b 1) (by decide) rfl (fun ls hl => ?_)
              refine lv_goto (tgt := 73) hx hb dM_takeMaps_165 (by decide) ?_
              exact ih73 (b + 1) (ab + 1) (nup r9 k (0 + 1)) (by omega) (by omega) (by omega) ha2 (by omega) _ _ _ (lv_sub hl [3, 4, 1, 0] rfl) (hP.sub [0, 1, 2, 3] rfl) (hD.sub [0, 1, 2, 3] (by decide) rfl) hS
    exact lp_73 ((8 * 16 - 1) + 1) 1 0 rs (by omega) (by omega) (by omega) rfl (Nat.lt_succ_self _) _ _ _ (lv_sub hl [3, 2, 1, 0] rfl) (hP.sub [0, 1, 2, 3] rfl) (hD.sub [0, 1, 2, 3] (by decide) rfl) hS
