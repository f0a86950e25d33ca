def rm_c_M_pack : Room := ({ frames := 0, cells := 0, slots := 0, locals := 0 } : Room)
set_option maxHeartbeats 4000000 in
set_option maxRecDepth 100000 in
theorem c_M_pack (l : Launch) (dC : Nat → ClassId) (dI : Nat → Nat → Nat) (m0 : Nat) (n0 : Nat) (n1 : Nat) (n2 : Nat) (cd : Nat) (dt : Nat) (e0 : Nat) (e1 : Nat) (rt : Nat) (e2 : Nat) (e3 : Nat) (e4 : Nat) (sz9 : Nat) (at9 : Nat) (fl : Nat) (pl : Int32) (wr : Nat) (e5 : Nat) (cI : ClassId) (cB : ClassId) (rw : Nat) (N9 : Nat) (r9 : Nat → Nat) (tp : Nat → Nat) (fr : Nat) (n9 : Nat) (hN : N9 < 1000) (hw9 : wr + (n9 + 1) / 2 ≤ 400) (hr9 : fr + n9 ≤ N9) (sz : Nat) : Met l yM_pack wsM_pack rm_c_M_pack (zM (dC, dI) [(cI, .int), (cB, .byte)] [.ref m0, .ref e4, .ref rw, .int (nI fr), .int (nI n9)] [(m0, .inr (4, [.ref n0, .ref n1, .ref n2, .int (nI cd), .int (nI dt), .ref e0, .ref e1, .int (nI rt), .ref e2, .ref e3, .ref e4, .int (nI sz9), .int (nI at9), .int (nI fl), .int pl, .int (nI wr), .ref e5])), (e4, .inl (cI, 400, .inl (aN tp))), (rw, .inl (cI, N9, .inl (aN r9)))] sz) (zMv (dC, dI) [(m0, .inr (4, [.ref n0, .ref n1, .ref n2, .int (nI cd), .int (nI dt), .ref e0, .ref e1, .int (nI rt), .ref e2, .ref e3, .ref e4, .int (nI sz9), .int (nI at9), .int (nI fl), .int pl, .int (nI wr), .ref e5])), (e4, .inl (cI, 400, .inl (aN tp))), (rw, .inl (cI, N9, .inl (aN r9)))] [(m0, .inr (4, [.ref n0, .ref n1, .ref n2, .int (nI cd), .int (nI dt), .ref e0, .ref e1, .int (nI rt), .ref e2, .ref e3, .ref e4, .int (nI sz9), .int (nI at9), .int (nI fl), .int pl, .int (nI (wr + (dgB r9 fr n9).length)), .ref e5])), (e4, .inl (cI, 400, .inl (aN (apl tp wr (dgB r9 fr n9))))), (rw, .inl (cI, N9, .inl (aN r9)))] sz (True)) 0 0 (va_A [(m0, .inr (4, [.ref n0, .ref n1, .ref n2, .int (nI cd), .int (nI dt), .ref e0, .ref e1, .int (nI rt), .ref e2, .ref e3, .ref e4, .int (nI sz9), .int (nI at9), .int (nI fl), .int pl, .int (nI wr), .ref e5])), (e4, .inl (cI, 400, .inl (aN tp))), (rw, .inl (cI, N9, .inl (aN r9)))] sz) := by
  refine Met.ofW (cc := cM_pack) (maxL := 6) (ret := none) (by decide) rfl ?_
  intro p e s m args below meth c s₁ Bd hml hv
  obtain ⟨rfl, hsz, hG, hP, hK, hD0⟩ := hv
  subst hsz
  have hx := Bd.exec
  have hb := Bd.bytes
  have hr := Bd.returns
  have hts := atoms_spec (ws := wsM_pack) Bd.pre
  have hw : ∀ w ∈ BIG, w.before _ s = true := fun w h => hts w (List.mem_cons_of_mem _ h)
  have hown : s.vm.findClass RM = some m.cls := findClass_of_methodNamed Bd.named
  have hlocks := Bd.notSynchronized
  have hD := hD0.self (sz := s.heap.size)
  obtain ⟨A, hAe⟩ : ∃ A, A = va_A [(m0, .inr (4, [.ref n0, .ref n1, .ref n2, .int (nI cd), .int (nI dt), .ref e0, .ref e1, .int (nI rt), .ref e2, .ref e3, .ref e4, .int (nI sz9), .int (nI at9), .int (nI fl), .int pl, .int (nI wr), .ref e5])), (e4, .inl (cI, 400, .inl (aN tp))), (rw, .inl (cI, N9, .inl (aN r9)))] s.heap.size := ⟨_, rfl⟩
  have hA : ∀ q : Nat, s.heap.size ≤ q → A q := fun q h => by rw [hAe]; exact Or.inr h
  rw [← hAe] at hG hD
  have hS : va_S A s.heap s.heap [] := va_S.rf
  have hl := lv_entry ([.ref m0, .ref e4, .ref rw, .int (nI fr), .int (nI n9)]) (n := 6) (Nat.le_of_ble_eq_true rfl)
  rw [lg_entry_eq]
  generalize (lg_sl ([.ref m0, .ref e4, .ref rw, .int (nI fr), .int (nI n9)]) ++ List.replicate (6 - (lg_sl ([.ref m0, .ref e4, .ref rw, .int (nI fr), .int (nI n9)])).length) Slot.unset).toArray = ls at hl ⊢
  have hl : lv_has ls 6 [(0, .ref m0), (1, .ref e4), (2, .ref rw), (3, .int (nI fr)), (4, .int (nI n9))] := hl
  refine zq_name (fun Q hQ => ?_)
  change W p l e rm_c_M_pack s m _ below meth c _ _ _ _ Q _
  refine lv_iconst (v := nI 0) hx hb dM_pack_0 (by decide) ?_
  refine lv_istore (lv' := [(5, .int (nI 0)), (0, .ref m0), (1, .ref e4), (2, .ref rw), (3, .int (nI fr)), (4, .int (nI n9))]) hx hb dM_pack_1 hl (by decide) rfl (fun ls hl => ?_)
  refine lv_iload hx hb dM_pack_3 (lv_at hl 5 rfl) ?_
  refine lv_iconst (v := nI 2) hx hb dM_pack_5 (by decide) ?_
  refine zi_rem hx hb (by omega) (by omega) (by omega) dM_pack_6 ?_
  refine lv_iconst (v := nI 1) hx hb dM_pack_7 (by decide) ?_
  refine zi_ne (tgt := 33) hx hb (by omega) (by omega) dM_pack_8 (by decide) (fun c_8 => ?_) (fun c_8 => ?_)
  · have lp_33 : ∀ (fu : Nat) (n : Nat) (k : Nat) (q : Nat) (f : Nat → Nat) (hkn : k + 2 * n = n9) (hq : q + n = wr + (dgB r9 fr n9).length) (hi : apl f q (pB r9 fr n k) = apl tp wr (dgB r9 fr n9)) (hms : n < fu) (H : Heap) (locs : List Loc) (ls : Array Slot), lv_has ls 6 [(0, .ref m0), (1, .ref e4), (2, .ref rw), (3, .int (nI fr)), (4, .int (nI n9)), (5, .int (nI k))] → va_P (dC, dI) vwCl [(m0, .inr (4, [.ref n0, .ref n1, .ref n2, .int (nI cd), .int (nI dt), .ref e0, .ref e1, .int (nI rt), .ref e2, .ref e3, .ref e4, .int (nI sz9), .int (nI at9), .int (nI fl), .int pl, .int (nI q), .ref e5])), (e4, .inl (cI, 400, .inl (aN f))), (rw, .inl (cI, N9, .inl (aN r9)))] H → va_D A [(m0, .inr (4, [.ref n0, .ref n1, .ref n2, .int (nI cd), .int (nI dt), .ref e0, .ref e1, .int (nI rt), .ref e2, .ref e3, .ref e4, .int (nI sz9), .int (nI at9), .int (nI fl), .int pl, .int (nI q), .ref e5])), (e4, .inl (cI, 400, .inl (aN f))), (rw, .inl (cI, N9, .inl (aN r9)))] → va_S A s.heap H locs → W p l e rm_c_M_pack s m ([.ref m0, .ref e4, .ref rw, .int (nI fr), .int (nI n9)] : List Value).toArray below meth c H locs 0 0 Q (F0 m 33 ls []) := by
      intro fu
      induction fu with
      | zero => intro n k q f hkn hq hi hms; exact absurd hms (Nat.not_lt_zero _)
      | succ fu ih33 =>
        intro n k q f hkn hq hi hms H locs ls hl hP hD hS
        have hdl := dgB_len r9 fr n9
        refine lv_iload hx hb dM_pack_33 (lv_at hl 5 rfl) ?_
        refine lv_iload hx hb dM_pack_35 (lv_at hl 4 rfl) ?_
        refine zi_ge (tgt := 80) hx hb (by omega) (by omega) dM_pack_37 (by decide) (fun c_37 => ?_) (fun c_37 => ?_)
        · obtain rfl : n = 0 := by omega
          have hi : f = apl tp wr (dgB r9 fr n9) := hi
          have hq : q = wr + (dgB r9 fr n9).length := hq
          subst hi
          subst hq
          subst hAe
          subst hQ
          exact W.vret hx hb hr (fun t ht hW => ⟨⟨(), rfl, trivial, by rw [ht]; exact hP.sub [0, 1, 2] rfl, hD.sub [0, 1, 2] (by decide) rfl⟩, hS.F ht⟩) hS.2.2 dM_pack_80
        · obtain ⟨nn1, rfl⟩ : ∃ nn1, n = nn1 + 1 := ⟨n - 1, by omega⟩
          refine lv_aload_n hx hb dM_pack_40 rfl (lv_at hl 1 rfl) ?_
          refine lv_aload_n hx hb dM_pack_41 rfl (lv_at hl 0 rfl) ?_
          refine va_get (D := (dC, dI)) (ci := 4) (v := .int (nI q)) (C := RM) (T := TM) (N := 17) hx hb hw inM hown hK hP 0 rfl rfl 15 (by decide) (hw _ w_fl_M_84) (fun _ h9 => h9) rfl dM_pack_42 ?_
          refine lv_bipush (v := nI 16) hx hb dM_pack_45 (by decide) ?_
          refine lv_aload_n hx hb dM_pack_47 rfl (lv_at hl 2 rfl) ?_
          refine lv_iload_n hx hb dM_pack_48 rfl (lv_at hl 3 rfl) ?_
          refine lv_iload hx hb dM_pack_49 (lv_at hl 5 rfl) ?_
          refine zi_add hx hb dM_pack_51 ?_
          refine za_ild hx hb hK hP 2 0 rfl rfl (by omega) (by omega) dM_pack_52 ?_
          refine zi_mul hx hb dM_pack_53 ?_
          refine lv_aload_n hx hb dM_pack_54 rfl (lv_at hl 2 rfl) ?_
          refine lv_iload_n hx hb dM_pack_55 rfl (lv_at hl 3 rfl) ?_
          refine lv_iload hx hb dM_pack_56 (lv_at hl 5 rfl) ?_
          refine zi_add hx hb dM_pack_58 ?_
          refine lv_iconst (v := nI 1) hx hb dM_pack_59 (by decide) ?_
          refine zi_add hx hb dM_pack_60 ?_
          refine za_ild hx hb hK hP 2 0 rfl rfl (by omega) (by omega) dM_pack_61 ?_
          refine zi_add hx hb dM_pack_62 ?_
          refine zi_v (b := nI (r9 (fr + k) * 16 + r9 (fr + (k + 1)))) (by rw [Nat.mul_comm 16, Nat.add_assoc]) ?_
          refine za_ist hx hb hK hP hD hS 1 0 rfl rfl (by omega) (by decide) dM_pack_63 (fun H locs hP hD hS => ?_)
          have hP : va_P (dC, dI) vwCl [(m0, .inr (4, [.ref n0, .ref n1, .ref n2, .int (nI cd), .int (nI dt), .ref e0, .ref e1, .int (nI rt), .ref e2, .ref e3, .ref e4, .int (nI sz9), .int (nI at9), .int (nI fl), .int pl, .int (nI q), .ref e5])), (e4, .inl (cI, 400, .inl (aN (nup f q (r9 (fr + k) * 16 + r9 (fr + (k + 1))))))), (rw, .inl (cI, N9, .inl (aN r9)))] H := hP
          have hD : va_D A [(m0, .inr (4, [.ref n0, .ref n1, .ref n2, .int (nI cd), .int (nI dt), .ref e0, .ref e1, .int (nI rt), .ref e2, .ref e3, .ref e4, .int (nI sz9), .int (nI at9), .int (nI fl), .int pl, .int (nI q), .ref e5])), (e4, .inl (cI, 400, .inl (aN (nup f q (r9 (fr + k) * 16 + r9 (fr + (k + 1))))))), (rw, .inl (cI, N9, .inl (aN r9)))] := hD
          refine lv_aload_n hx hb dM_pack_64 rfl (lv_at hl 0 rfl) ?_
          refine lv_dup hx hb dM_pack_65 rfl ?_
          refine va_get (D := (dC, dI)) (ci := 4) (v := .int (nI q)) (C := RM) (T := TM) (N := 17) hx hb hw inM hown hK hP 0 rfl rfl 15 (by decide) (hw _ w_fl_M_84) (fun _ h9 => h9) rfl dM_pack_66 ?_
          refine lv_iconst (v := nI 1) hx hb dM_pack_69 (by decide) ?_
          refine zi_add hx hb dM_pack_70 ?_
          refine va_put (D := (dC, dI)) (ci := 4) (v := .int (nI (q + 1))) (ty := .int) (C := RM) (T := TM) (N := 17) hx hb hw inM tyM tyM_ok nmM hown hK hP hD hS 0 rfl rfl 15 (by decide) (hw _ w_fl_M_84) (fun _ h9 => h9) rfl (by decide +kernel) rfl rfl (Nat.le_of_ble_eq_true rfl) dM_pack_71 (fun H locs hP hD hS => ?_)
          have hP : va_P (dC, dI) vwCl [(m0, .inr (4, [.ref n0, .ref n1, .ref n2, .int (nI cd), .int (nI dt), .ref e0, .ref e1, .int (nI rt), .ref e2, .ref e3, .ref e4, .int (nI sz9), .int (nI at9), .int (nI fl), .int pl, .int (nI (q + 1)), .ref e5])), (e4, .inl (cI, 400, .inl (aN (nup f q (r9 (fr + k) * 16 + r9 (fr + (k + 1))))))), (rw, .inl (cI, N9, .inl (aN r9)))] H := hP
          have hD : va_D A [(m0, .inr (4, [.ref n0, .ref n1, .ref n2, .int (nI cd), .int (nI dt), .ref e0, .ref e1, .int (nI rt), .ref e2, .ref e3, .ref e4, .int (nI sz9), .int (nI at9), .int (nI fl), .int pl, .int (nI (q + 1)), .ref e5])), (e4, .inl (cI, 400, .inl (aN (nup f q (r9 (fr + k) * 16 + r9 (fr + (k + 1))))))), (rw, .inl (cI, N9, .inl (aN r9)))] := hD
          refine lv_iinc (v := nI (k + 2)) (lv' := [(5, .int (nI (k + 2))), (0, .ref m0), (1, .ref e4), (2, .ref rw), (3, .int (nI fr)), (4, .int (nI n9))]) hx hb dM_pack_74 hl (k := 5) rfl (zi_incr k 2) (by decide) rfl (fun ls hl => ?_)
          refine lv_goto (tgt := 33) hx hb dM_pack_77 (by decide) ?_
          exact ih33 nn1 (k + 2) (q + 1) (nup f q (r9 (fr + k) * 16 + r9 (fr + (k + 1)))) (by omega) (by omega) hi (by omega) _ _ _ (lv_sub hl [1, 2, 3, 4, 5, 0] rfl) (hP.sub [0, 1, 2] rfl) (hD.sub [0, 1, 2] (by decide) rfl) hS
    exact lp_33 ((n9 / 2) + 1) (n9 / 2) 0 wr tp (by omega) (by rw [dgB_len]; omega) (by unfold dgB; first | (rw [if_pos (show n9 % 2 = 0 by omega), show n9 % 2 = 0 by omega]; rfl) | (rw [if_neg (show ¬ n9 % 2 = 0 by omega), show n9 % 2 = 1 by omega]; rfl)) (Nat.lt_succ_self _) _ _ _ (lv_sub hl [1, 2, 3, 4, 5, 0] rfl) (hP.sub [0, 1, 2] rfl) (hD.sub [0, 1, 2] (by decide) rfl) hS
  · refine lv_aload_n hx hb dM_pack_11 rfl (lv_at hl 2 rfl) ?_
    refine lv_aload_n hx hb dM_pack_12 rfl (lv_at hl 1 rfl) ?_
    refine va_get (D := (dC, dI)) (ci := 4) (v := .int (nI wr)) (C := RM) (T := TM) (N := 17) hx hb hw inM hown hK hP 0 rfl rfl 15 (by decide) (hw _ w_fl_M_84) (fun _ h9 => h9) rfl dM_pack_13 ?_
    refine lv_aload_n hx hb dM_pack_16 rfl (lv_at hl 3 rfl) ?_
    refine lv_iload_n hx hb dM_pack_17 rfl (lv_at hl 4 rfl) ?_
    refine za_ild hx hb hK hP 2 0 rfl rfl (by omega) (by omega) dM_pack_18 ?_
    refine zi_v (b := nI (0 * 16 + r9 (fr + 0))) (by rw [Nat.zero_mul, Nat.zero_add]; rfl) ?_
    refine za_ist hx hb hK hP hD hS 1 0 rfl rfl (by omega) (by decide) dM_pack_19 (fun H locs hP hD hS => ?_)
    have hP : va_P (dC, dI) vwCl [(m0, .inr (4, [.ref n0, .ref n1, .ref n2, .int (nI cd), .int (nI dt), .ref e0, .ref e1, .int (nI rt), .ref e2, .ref e3, .ref e4, .int (nI sz9), .int (nI at9), .int (nI fl), .int pl, .int (nI wr), .ref e5])), (e4, .inl (cI, 400, .inl (aN (nup tp wr (0 * 16 + r9 (fr + 0)))))), (rw, .inl (cI, N9, .inl (aN r9)))] H := hP
    have hD : va_D A [(m0, .inr (4, [.ref n0, .ref n1, .ref n2, .int (nI cd), .int (nI dt), .ref e0, .ref e1, .int (nI rt), .ref e2, .ref e3, .ref e4, .int (nI sz9), .int (nI at9), .int (nI fl), .int pl, .int (nI wr), .ref e5])), (e4, .inl (cI, 400, .inl (aN (nup tp wr (0 * 16 + r9 (fr + 0)))))), (rw, .inl (cI, N9, .inl (aN r9)))] := hD
    refine lv_aload_n hx hb dM_pack_20 rfl (lv_at hl 1 rfl) ?_
    refine lv_dup hx hb dM_pack_21 rfl ?_
    refine va_get (D := (dC, dI)) (ci := 4) (v := .int (nI wr)) (C := RM) (T := TM) (N := 17) hx hb hw inM hown hK hP 0 rfl rfl 15 (by decide) (hw _ w_fl_M_84) (fun _ h9 => h9) rfl dM_pack_22 ?_
    refine lv_iconst (v := nI 1) hx hb dM_pack_25 (by decide) ?_
    refine zi_add hx hb dM_pack_26 ?_
    refine va_put (D := (dC, dI)) (ci := 4) (v := .int (nI (wr + 1))) (ty := .int) (C := RM) (T := TM) (N := 17) hx hb hw inM tyM tyM_ok nmM hown hK hP hD hS 0 rfl rfl 15 (by decide) (hw _ w_fl_M_84) (fun _ h9 => h9) rfl (by decide +kernel) rfl rfl (Nat.le_of_ble_eq_true rfl) dM_pack_27 (fun H locs hP hD hS => ?_)
    have hP : va_P (dC, dI) vwCl [(m0, .inr (4, [.ref n0, .ref n1, .ref n2, .int (nI cd), .int (nI dt), .ref e0, .ref e1, .int (nI rt), .ref e2, .ref e3, .ref e4, .int (nI sz9), .int (nI at9), .int (nI fl), .int pl, .int (nI (wr + 1)), .ref e5])), (e4, .inl (cI, 400, .inl (aN (nup tp wr (0 * 16 + r9 (fr + 0)))))), (rw, .inl (cI, N9, .inl (aN r9)))] H := hP
    have hD : va_D A [(m0, .inr (4, [.ref n0, .ref n1, .ref n2, .int (nI cd), .int (nI dt), .ref e0, .ref e1, .int (nI rt), .ref e2, .ref e3, .ref e4, .int (nI sz9), .int (nI at9), .int (nI fl), .int pl, .int (nI (wr + 1)), .ref e5])), (e4, .inl (cI, 400, .inl (aN (nup tp wr (0 * 16 + r9 (fr + 0)))))), (rw, .inl (cI, N9, .inl (aN r9)))] := hD
    refine lv_iconst (v := nI 1) hx hb dM_pack_30 (by decide) ?_
    refine lv_istore (lv' := [(5, .int (nI 1)), (0, .ref m0), (1, .ref e4), (2, .ref rw), (3, .int (nI fr)), (4, .int (nI n9))]) hx hb dM_pack_31 hl (by decide) rfl (fun ls hl => ?_)
    have lp_33 : ∀ (fu : Nat) (n : Nat) (k : Nat) (q : Nat) (f : Nat → Nat) (hkn : k + 2 * n = n9) (hq : q + n = wr + (dgB r9 fr n9).length) (hi : apl f q (pB r9 fr n k) = apl tp wr (dgB r9 fr n9)) (hms : n < fu) (H : Heap) (locs : List Loc) (ls : Array Slot), lv_has ls 6 [(0, .ref m0), (1, .ref e4), (2, .ref rw), (3, .int (nI fr)), (4, .int (nI n9)), (5, .int (nI k))] → va_P (dC, dI) vwCl [(m0, .inr (4, [.ref n0, .ref n1, .ref n2, .int (nI cd), .int (nI dt), .ref e0, .ref e1, .int (nI rt), .ref e2, .ref e3, .ref e4, .int (nI sz9), .int (nI at9), .int (nI fl), .int pl, .int (nI q), .ref e5])), (e4, .inl (cI, 400, .inl (aN f))), (rw, .inl (cI, N9, .inl (aN r9)))] H → va_D A [(m0, .inr (4, [.ref n0, .ref n1, .ref n2, .int (nI cd), .int (nI dt), .ref e0, .ref e1, .int (nI rt), .ref e2, .ref e3, .ref e4, .int (nI sz9), .int (nI at9), .int (nI fl), .int pl, .int (nI q), .ref e5])), (e4, .inl (cI, 400, .inl (aN f))), (rw, .inl (cI, N9, .inl (aN r9)))] → va_S A s.heap H locs → W p l e rm_c_M_pack s m ([.ref m0, .ref e4, .ref rw, .int (nI fr), .int (nI n9)] : List Value).toArray below meth c H locs 0 0 Q (F0 m 33 ls []) := by
      intro fu
      induction fu with
      | zero => intro n k q f hkn hq hi hms; exact absurd hms (Nat.not_lt_zero _)
      | succ fu ih33 =>
        intro n k q f hkn hq hi hms H locs ls hl hP hD hS
        have hdl := dgB_len r9 fr n9
        refine lv_iload hx hb dM_pack_33 (lv_at hl 5 rfl) ?_
        refine lv_iload hx hb dM_pack_35 (lv_at hl 4 rfl) ?_
        refine zi_ge (tgt := 80) hx hb (by omega) (by omega) dM_pack_37 (by decide) (fun c_37 => ?_) (fun c_37 => ?_)
        · obtain rfl : n = 0 := by omega
          have hi : f = apl tp wr (dgB r9 fr n9) := hi
          have hq : q = wr + (dgB r9 fr n9).length := hq
          subst hi
          subst hq
          subst hAe
          subst hQ
          exact W.vret hx hb hr (fun t ht hW => ⟨⟨(), rfl, trivial, by rw [ht]; exact hP.sub [0, 1, 2] rfl, hD.sub [0, 1, 2] (by decide) rfl⟩, hS.F ht⟩) hS.2.2 dM_pack_80
        · obtain ⟨nn1, rfl⟩ : ∃ nn1, n = nn1 + 1 := ⟨n - 1, by omega⟩
          refine lv_aload_n hx hb dM_pack_40 rfl (lv_at hl 1 rfl) ?_
          refine lv_aload_n hx hb dM_pack_41 rfl (lv_at hl 0 rfl) ?_
          refine va_get (D := (dC, dI)) (ci := 4) (v := .int (nI q)) (C := RM) (T := TM) (N := 17) hx hb hw inM hown hK hP 0 rfl rfl 15 (by decide) (hw _ w_fl_M_84) (fun _ h9 => h9) rfl dM_pack_42 ?_
          refine lv_bipush (v := nI 16) hx hb dM_pack_45 (by decide) ?_
          refine lv_aload_n hx hb dM_pack_47 rfl (lv_at hl 2 rfl) ?_
          refine lv_iload_n hx hb dM_pack_48 rfl (lv_at hl 3 rfl) ?_
          refine lv_iload hx hb dM_pack_49 (lv_at hl 5 rfl) ?_
          refine zi_add hx hb dM_pack_51 ?_
          refine za_ild hx hb hK hP 2 0 rfl rfl (by omega) (by omega) dM_pack_52 ?_
          refine zi_mul hx hb dM_pack_53 ?_
          refine lv_aload_n hx hb dM_pack_54 rfl (lv_at hl 2 rfl) ?_
          refine lv_iload_n hx hb dM_pack_55 rfl (lv_at hl 3 rfl) ?_
          refine lv_iload hx hb dM_pack_56 (lv_at hl 5 rfl) ?_
          refine zi_add hx hb dM_pack_58 ?_
          refine lv_iconst (v := nI 1) hx hb dM_pack_59 (by decide) ?_
          refine zi_add hx hb dM_pack_60 ?_
          refine za_ild hx hb hK hP 2 0 rfl rfl (by omega) (by omega) dM_pack_61 ?_
          refine zi_add hx hb dM_pack_62 ?_
          refine zi_v (b := nI (r9 (fr + k) * 16 + r9 (fr + (k + 1)))) (by rw [Nat.mul_comm 16, Nat.add_assoc]) ?_
          refine za_ist hx hb hK hP hD hS 1 0 rfl rfl (by omega) (by decide) dM_pack_63 (fun H locs hP hD hS => ?_)
          have hP : va_P (dC, dI) vwCl [(m0, .inr (4, [.ref n0, .ref n1, .ref n2, .int (nI cd), .int (nI dt), .ref e0, .ref e1, .int (nI rt), .ref e2, .ref e3, .ref e4, .int (nI sz9), .int (nI at9), .int (nI fl), .int pl, .int (nI q), .ref e5])), (e4, .inl (cI, 400, .inl (aN (nup f q (r9 (fr + k) * 16 + r9 (fr + (k + 1))))))), (rw, .inl (cI, N9, .inl (aN r9)))] H := hP
          have hD : va_D A [(m0, .inr (4, [.ref n0, .ref n1, .ref n2, .int (nI cd), .int (nI dt), .ref e0, .ref e1, .int (nI rt), .ref e2, .ref e3, .ref e4, .int (nI sz9), .int (nI at9), .int (nI fl), .int pl, .int (nI q), .ref e5])), (e4, .inl (cI, 400, .inl (aN (nup f q (r9 (fr + k) * 16 + r9 (fr + (k + 1))))))), (rw, .inl (cI, N9, .inl (aN r9)))] := hD
          refine lv_aload_n hx hb dM_pack_64 rfl (lv_at hl 0 rfl) ?_
          refine lv_dup hx hb dM_pack_65 rfl ?_
          refine va_get (D := (dC, dI)) (ci := 4) (v := .int (nI q)) (C := RM) (T := TM) (N := 17) hx hb hw inM hown hK hP 0 rfl rfl 15 (by decide) (hw _ w_fl_M_84) (fun _ h9 => h9) rfl dM_pack_66 ?_
          refine lv_iconst (v := nI 1) hx hb dM_pack_69 (by decide) ?_
          refine zi_add hx hb dM_pack_70 ?_
          refine va_put (D := (dC, dI)) (ci := 4) (v := .int (nI (q + 1))) (ty := .int) (C := RM) (T := TM) (N := 17) hx hb hw inM tyM tyM_ok nmM hown hK hP hD hS 0 rfl rfl 15 (by decide) (hw _ w_fl_M_84) (fun _ h9 => h9) rfl (by decide +kernel) rfl rfl (Nat.le_of_ble_eq_true rfl) dM_pack_71 (fun H locs hP hD hS => ?_)
          have hP : va_P (dC, dI) vwCl [(m0, .inr (4, [.ref n0, .ref n1, .ref n2, .int (nI cd), .int (nI dt), .ref e0, .ref e1, .int (nI rt), .ref e2, .ref e3, .ref e4, .int (nI sz9), .int (nI at9), .int (nI fl), .int pl, .int (nI (q + 1)), .ref e5])), (e4, .inl (cI, 400, .inl (aN (nup f q (r9 (fr + k) * 16 + r9 (fr + (k + 1))))))), (rw, .inl (cI, N9, .inl (aN r9)))] H := hP
          have hD : va_D A [(m0, .inr (4, [.ref n0, .ref n1, .ref n2, .int (nI cd), .int (nI dt), .ref e0, .ref e1, .int (nI rt), .ref e2, .ref e3, .ref e4, .int (nI sz9), .int (nI at9), .int (nI fl), .int pl, .int (nI (q + 1)), .ref e5])), (e4, .inl (cI, 400, .inl (aN (nup f q (r9 (fr + k) * 16 + r9 (fr + (k + 1))))))), (rw, .inl (cI, N9, .inl (aN r9)))] := hD
          refine lv_iinc (v := nI (k + 2)) (lv' := [(5, .int (nI (k + 2))), (0, .ref m0), (1, .ref e4), (2, .ref rw), (3, .int (nI fr)), (4, .int (nI n9))]) hx hb dM_pack_74 hl (k := 5) rfl (zi_incr k 2) (by decide) rfl (fun ls hl => ?_)
          refine lv_goto (tgt := 33) hx hb dM_pack_77 (by decide) ?_
          exact ih33 nn1 (k + 2) (q + 1) (nup f q (r9 (fr + k) * 16 + r9 (fr + (k + 1)))) (by omega) (by omega) hi (by omega) _ _ _ (lv_sub hl [1, 2, 3, 4, 5, 0] rfl) (hP.sub [0, 1, 2] rfl) (hD.sub [0, 1, 2] (by decide) rfl) hS
    exact lp_33 ((n9 / 2) + 1) (n9 / 2) 1 (wr + 1) (nup tp wr (0 * 16 + r9 (fr + 0))) (by omega) (by rw [dgB_len]; omega) (by unfold dgB; first | (rw [if_pos (show n9 % 2 = 0 by omega), show n9 % 2 = 0 by omega]; rfl) | (rw [if_neg (show ¬ n9 % 2 = 0 by omega), show n9 % 2 = 1 by omega]; rfl)) (Nat.lt_succ_self _) _ _ _ (lv_sub hl [1, 2, 3, 4, 5, 0] rfl) (hP.sub [0, 1, 2] rfl) (hD.sub [0, 1, 2] (by decide) rfl) hS
def rm_c_M_writeField : Room := ({ frames := 1, cells := 0, slots := 0, locals := 27 } : Room)
set_option maxHeartbeats 4000000 in
set_option maxRecDepth 100000 in
theorem c_M_writeField (l : Launch) (dC : Nat → ClassId) (dI : Nat → Nat → Nat) (m0 : Nat) (n0 : Nat) (n1 : Nat) (n2 : Nat) (cd : Nat) (dt : Nat) (e0 : Nat) (e1 : Nat) (rt : Nat) (e2 : Nat) (e3 : Nat) (e4 : Nat) (sz9 : Nat) (at9 : Nat) (fl : Nat) (pl : Int32) (wr : Nat) (e5 : Nat) (cI : ClassId) (cB : ClassId) (dr : Nat → Nat) (tp : Nat → Nat) (fw : Nat → Nat) (k : Nat) (n : Nat) (hk : k < 16) (hn1 : n ≤ fMM k) (hw9 : wr + 44 ≤ 400) (hd9 : fHL k ≠ 0 → ∀ j, j < n → dr (42 * k + j) < 2 ^ 31) (sz : Nat) : Met l yM_writeField wsM_writeField rm_c_M_writeField (zM (dC, dI) [(cI, .int), (cB, .byte)] [.ref m0, .int (nI k), .ref e0, .int (nI n), .ref e4] [(m0, .inr (4, [.ref n0, .ref n1, .ref n2, .int (nI cd), .int (nI dt), .ref e0, .ref e1, .int (nI rt), .ref e2, .ref e3, .ref e4, .int (nI sz9), .int (nI at9), .int (nI fl), .int pl, .int (nI wr), .ref e5])), (n2, .inl (cI, 16, .inl (aN fFO))), (e0, .inl (cI, 672, .inl (aN dr))), (e4, .inl (cI, 400, .inl (aN tp))), (e5, .inl (cI, 4, .inl (aN fw)))] sz) (zSv (dC, dI) [(m0, .inr (4, [.ref n0, .ref n1, .ref n2, .int (nI cd), .int (nI dt), .ref e0, .ref e1, .int (nI rt), .ref e2, .ref e3, .ref e4, .int (nI sz9), .int (nI at9), .int (nI fl), .int pl, .int (nI wr), .ref e5])), (n2, .inl (cI, 16, .inl (aN fFO))), (e0, .inl (cI, 672, .inl (aN dr))), (e4, .inl (cI, 400, .inl (aN tp))), (e5, .inl (cI, 4, .inl (aN fw)))] sz (fun (u : Nat → Nat) => True) (fun u => [(m0, .inr (4, [.ref n0, .ref n1, .ref n2, .int (nI cd), .int (nI dt), .ref e0, .ref e1, .int (nI rt), .ref e2, .ref e3, .ref e4, .int (nI sz9), .int (nI at9), .int (nI fl), .int pl, .int (nI (wr + (fldM dr k n).length)), .ref e5])), (n2, .inl (cI, 16, .inl (aN fFO))), (e0, .inl (cI, 672, .inl (aN dr))), (e4, .inl (cI, 400, .inl (aN (apl tp wr (fldM dr k n))))), (e5, .inl (cI, 4, .inl (aN u)))])) 0 0 (va_A [(m0, .inr (4, [.ref n0, .ref n1, .ref n2, .int (nI cd), .int (nI dt), .ref e0, .ref e1, .int (nI rt), .ref e2, .ref e3, .ref e4, .int (nI sz9), .int (nI at9), .int (nI fl), .int pl, .int (nI wr), .ref e5])), (n2, .inl (cI, 16, .inl (aN fFO))), (e0, .inl (cI, 672, .inl (aN dr))), (e4, .inl (cI, 400, .inl (aN tp))), (e5, .inl (cI, 4, .inl (aN fw)))] sz) := by
  refine Met.ofW (cc := cM_writeField) (maxL := 7) (ret := none) (by decide) rfl ?_
  intro p e s m args below meth c s₁ Bd hml hv
  obtain ⟨rfl, hsz, hG, hP, hK, hD0⟩ := hv
  subst hsz
  have hx := Bd.exec
  have hb := Bd.bytes
  have hr := Bd.returns
  have hts := atoms_spec (ws := wsM_writeField) Bd.pre
  have hw : ∀ w ∈ BIG, w.before _ s = true := fun w h => hts w (List.mem_cons_of_mem _ h)
  have hown : s.vm.findClass RM = some m.cls := findClass_of_methodNamed Bd.named
  have hlocks := Bd.notSynchronized
  have hD := hD0.self (sz := s.heap.size)
  obtain ⟨A, hAe⟩ : ∃ A, A = va_A [(m0, .inr (4, [.ref n0, .ref n1, .ref n2, .int (nI cd), .int (nI dt), .ref e0, .ref e1, .int (nI rt), .ref e2, .ref e3, .ref e4, .int (nI sz9), .int (nI at9), .int (nI fl), .int pl, .int (nI wr), .ref e5])), (n2, .inl (cI, 16, .inl (aN fFO))), (e0, .inl (cI, 672, .inl (aN dr))), (e4, .inl (cI, 400, .inl (aN tp))), (e5, .inl (cI, 4, .inl (aN fw)))] s.heap.size := ⟨_, rfl⟩
  have hA : ∀ q : Nat, s.heap.size ≤ q → A q := fun q h => by rw [hAe]; exact Or.inr h
  rw [← hAe] at hG hD
  have hS : va_S A s.heap s.heap [] := va_S.rf
  have hl := lv_entry ([.ref m0, .int (nI k), .ref e0, .int (nI n), .ref e4]) (n := 7) (Nat.le_of_ble_eq_true rfl)
  rw [lg_entry_eq]
  generalize (lg_sl ([.ref m0, .int (nI k), .ref e0, .int (nI n), .ref e4]) ++ List.replicate (7 - (lg_sl ([.ref m0, .int (nI k), .ref e0, .int (nI n), .ref e4])).length) Slot.unset).toArray = ls at hl ⊢
  have hl : lv_has ls 7 [(0, .ref m0), (1, .int (nI k)), (2, .ref e0), (3, .int (nI n)), (4, .ref e4)] := hl
  refine zq_name (fun Q hQ => ?_)
  change W p l e rm_c_M_writeField s m _ below meth c _ _ _ _ Q _
  obtain ⟨ho1, ho2, ho3, ho4, ho5⟩ := fFO_b k hk
  have hmm := fMM_b k hk
  have hcd := fCD_b k hk
  have hal := anb_le n (fCD k)
  have hof := fFO_cd k hk
  refine lv_aload_n hx hb dM_writeField_0 rfl (lv_at hl 0 rfl) ?_
  refine va_get (D := (dC, dI)) (ci := 4) (v := .ref n2) (C := RM) (T := TM) (N := 17) hx hb hw inM hown hK hP 0 rfl rfl 2 (by decide) (hw _ w_fl_M_16) (fun _ h9 => h9) rfl dM_writeField_1 ?_
  refine lv_iload_n hx hb dM_writeField_4 rfl (lv_at hl 1 rfl) ?_
  refine za_ild hx hb hK hP 1 0 rfl rfl (by omega) (by decide) dM_writeField_5 ?_
  refine lv_iconst (v := nI 2) hx hb dM_writeField_6 (by decide) ?_
  refine zi_rem hx hb (by omega) (by omega) (by omega) dM_writeField_7 ?_
  refine lv_iconst (v := nI 1) hx hb dM_writeField_8 (by decide) ?_
  refine zi_ne (tgt := 54) hx hb (by omega) (by omega) dM_writeField_9 (by decide) (fun c_9 => ?_) (fun c_9 => ?_)
  · refine lv_aload_n hx hb dM_writeField_54 rfl (lv_at hl 0 rfl) ?_
    refine va_get (D := (dC, dI)) (ci := 4) (v := .ref n2) (C := RM) (T := TM) (N := 17) hx hb hw inM hown hK hP 0 rfl rfl 2 (by decide) (hw _ w_fl_M_16) (fun _ h9 => h9) rfl dM_writeField_55 ?_
    refine lv_iload_n hx hb dM_writeField_58 rfl (lv_at hl 1 rfl) ?_
    refine za_ild hx hb hK hP 1 0 rfl rfl (by omega) (by decide) dM_writeField_59 ?_
    refine lv_iconst (v := nI 2) hx hb dM_writeField_60 (by decide) ?_
    refine zi_ge (tgt := 77) hx hb (by omega) (by omega) dM_writeField_61 (by decide) (fun c_61 => ?_) (fun c_61 => ?_)
    · obtain ⟨T9, hT9⟩ : ∃ T9, T9 = tp := ⟨_, rfl⟩
      obtain ⟨Q9, hQ9⟩ : ∃ Q9, Q9 = wr := ⟨_, rfl⟩
      have hQb : Q9 ≤ wr + 2 := by omega
      rw [← hT9] at hP hD
      rw [← hQ9] at hP hD
      have hP : va_P (dC, dI) vwCl [(m0, .inr (4, [.ref n0, .ref n1, .ref n2, .int (nI cd), .int (nI dt), .ref e0, .ref e1, .int (nI rt), .ref e2, .ref e3, .ref e4, .int (nI sz9), .int (nI at9), .int (nI fl), .int pl, .int (nI Q9), .ref e5])), (n2, .inl (cI, 16, .inl (aN fFO))), (e0, .inl (cI, 672, .inl (aN dr))), (e4, .inl (cI, 400, .inl (aN T9))), (e5, .inl (cI, 4, .inl (aN fw)))] s.heap := hP
      have hD : va_D A [(m0, .inr (4, [.ref n0, .ref n1, .ref n2, .int (nI cd), .int (nI dt), .ref e0, .ref e1, .int (nI rt), .ref e2, .ref e3, .ref e4, .int (nI sz9), .int (nI at9), .int (nI fl), .int pl, .int (nI Q9), .ref e5])), (n2, .inl (cI, 16, .inl (aN fFO))), (e0, .inl (cI, 672, .inl (aN dr))), (e4, .inl (cI, 400, .inl (aN T9))), (e5, .inl (cI, 4, .inl (aN fw)))] := hD
      refine lv_iconst (v := nI 0) hx hb dM_writeField_77 (by decide) ?_
      refine lv_istore (lv' := [(5, .int (nI 0)), (0, .ref m0), (1, .int (nI k)), (2, .ref e0), (3, .int (nI n)), (4, .ref e4)]) hx hb dM_writeField_78 hl (by decide) rfl (fun ls hl => ?_)
      have lp_80 : ∀ (fu : Nat) (j : Nat) (q : Nat) (f : Nat → Nat) (hj : j ≤ n) (hq : q = Q9 + j) (hi : apl f q (lBM dr (42 * k) (n - j) j) = apl T9 Q9 (lBM dr (42 * k) n 0)) (hms : n - j < fu) (H : Heap) (locs : List Loc) (ls : Array Slot), lv_has ls 7 [(0, .ref m0), (1, .int (nI k)), (2, .ref e0), (3, .int (nI n)), (4, .ref e4), (5, .int (nI j))] → va_P (dC, dI) vwCl [(m0, .inr (4, [.ref n0, .ref n1, .ref n2, .int (nI cd), .int (nI dt), .ref e0, .ref e1, .int (nI rt), .ref e2, .ref e3, .ref e4, .int (nI sz9), .int (nI at9), .int (nI fl), .int pl, .int (nI q), .ref e5])), (n2, .inl (cI, 16, .inl (aN fFO))), (e0, .inl (cI, 672, .inl (aN dr))), (e4, .inl (cI, 400, .inl (aN f))), (e5, .inl (cI, 4, .inl (aN fw)))] H → va_D A [(m0, .inr (4, [.ref n0, .ref n1, .ref n2, .int (nI cd), .int (nI dt), .ref e0, .ref e1, .int (nI rt), .ref e2, .ref e3, .ref e4, .int (nI sz9), .int (nI at9), .int (nI fl), .int pl, .int (nI q), .ref e5])), (n2, .inl (cI, 16, .inl (aN fFO))), (e0, .inl (cI, 672, .inl (aN dr))), (e4, .inl (cI, 400, .inl (aN f))), (e5, .inl (cI, 4, .inl (aN fw)))] → va_S A s.heap H locs → W p l e rm_c_M_writeField s m ([.ref m0, .int (nI k), .ref e0, .int (nI n), .ref e4] : List Value).toArray below meth c H locs 0 0 Q (F0 m 80 ls []) := by
        intro fu
        induction fu with
        | zero => intro j q f hj hq hi hms; exact absurd hms (Nat.not_lt_zero _)
        | succ fu ih80 =>
          intro j q f hj hq hi hms H locs ls hl hP hD hS
          refine lv_iload hx hb dM_writeField_80 (lv_at hl 5 rfl) ?_
          refine lv_iload_n hx hb dM_writeField_82 rfl (lv_at hl 3 rfl) ?_
          refine zi_ge (tgt := 140) hx hb (by omega) (by omega) dM_writeField_83 (by decide) (fun c_83 => ?_) (fun c_83 => ?_)
          · have hi : f = apl T9 Q9 (lBM dr (42 * k) n 0) := by have h9 := hi; rw [show n - j = 0 by omega] at h9; exact h9
            have hq : q = Q9 + (lBM dr (42 * k) n 0).length := by rw [lBM_len]; omega
            subst hi
            subst hq
            subst hT9
            subst hQ9
            have e8 : fldM dr k n = lBM dr (42 * k) n 0 := by unfold fldM; rw [if_pos (by omega), if_neg (fun z => by have := ho2.mpr z; omega)]; rfl
            rw [e8] at hQ
            subst hAe
            subst hQ
            exact W.vret hx hb hr (fun t ht hW => ⟨⟨fw, rfl, trivial, by rw [ht]; exact hP.sub [0, 1, 2, 3, 4] rfl, hD.sub [0, 1, 2, 3, 4] (by decide) rfl⟩, hS.F ht⟩) hS.2.2 dM_writeField_140
          · refine lv_aload_n hx hb dM_writeField_86 rfl (lv_at hl 2 rfl) ?_
            refine lv_bipush (v := nI 42) hx hb dM_writeField_87 (by decide) ?_
            refine lv_iload_n hx hb dM_writeField_89 rfl (lv_at hl 1 rfl) ?_
            refine zi_mul hx hb dM_writeField_90 ?_
            refine lv_iload hx hb dM_writeField_91 (lv_at hl 5 rfl) ?_
            refine zi_add hx hb dM_writeField_93 ?_
            refine za_ild hx hb hK hP 2 0 rfl rfl (by omega) (by decide) dM_writeField_94 ?_
            refine lv_istore (lv' := [(6, .int (nI (dr ((42 * k) + j)))), (0, .ref m0), (1, .int (nI k)), (2, .ref e0), (3, .int (nI n)), (4, .ref e4), (5, .int (nI j))]) hx hb dM_writeField_95 hl (by decide) rfl (fun ls hl => ?_)
            have hd8 := hd9 (fun z => by have := ho2.mpr z; omega) j (by omega)
            refine lv_aload hx hb dM_writeField_97 (lv_at hl 5 rfl) ?_
            refine lv_aload_n hx hb dM_writeField_99 rfl (lv_at hl 1 rfl) ?_
            refine va_get (D := (dC, dI)) (ci := 4) (v := .int (nI q)) (C := RM) (T := TM) (N := 17) hx hb hw inM hown hK hP 0 rfl rfl 15 (by decide) (hw _ w_fl_M_84) (fun _ h9 => h9) rfl dM_writeField_100 ?_
            refine lv_iload hx hb dM_writeField_103 (lv_at hl 0 rfl) ?_
            refine lv_bipush (v := nI 10) hx hb dM_writeField_105 (by decide) ?_
            refine zi_ge (tgt := 118) hx hb (by omega) (by omega) dM_writeField_107 (by decide) (fun c_107 => ?_) (fun c_107 => ?_)
            · refine lv_bipush (v := nI 55) hx hb dM_writeField_118 (by decide) ?_
              refine lv_iload hx hb dM_writeField_120 (lv_at hl 0 rfl) ?_
              refine zi_add hx hb dM_writeField_122 ?_
              refine zi_v (b := nI (if dr (42 * k + j) < 10 then 48 + dr (42 * k + j) else 55 + dr (42 * k + j))) (by rw [if_neg (by omega)]) ?_
              refine za_ist hx hb hK hP hD hS 3 0 rfl rfl (by omega) (by decide) dM_writeField_123 (fun H locs hP hD hS => ?_)
              have hP : va_P (dC, dI) vwCl [(m0, .inr (4, [.ref n0, .ref n1, .ref n2, .int (nI cd), .int (nI dt), .ref e0, .ref e1, .int (nI rt), .ref e2, .ref e3, .ref e4, .int (nI sz9), .int (nI at9), .int (nI fl), .int pl, .int (nI q), .ref e5])), (n2, .inl (cI, 16, .inl (aN fFO))), (e0, .inl (cI, 672, .inl (aN dr))), (e4, .inl (cI, 400, .inl (aN (nup f q (if dr (42 * k + j) < 10 then 48 + dr (42 * k + j) else 55 + dr (42 * k + j)))))), (e5, .inl (cI, 4, .inl (aN fw)))] H := hP
              have hD : va_D A [(m0, .inr (4, [.ref n0, .ref n1, .ref n2, .int (nI cd), .int (nI dt), .ref e0, .ref e1, .int (nI rt), .ref e2, .ref e3, .ref e4, .int (nI sz9), .int (nI at9), .int (nI fl), .int pl, .int (nI q), .ref e5])), (n2, .inl (cI, 16, .inl (aN fFO))), (e0, .inl (cI, 672, .inl (aN dr))), (e4, .inl (cI, 400, .inl (aN (nup f q (if dr (42 * k + j) < 10 then 48 + dr (42 * k + j) else 55 + dr (42 * k + j)))))), (e5, .inl (cI, 4, .inl (aN fw)))] := hD
              refine lv_aload_n hx hb dM_writeField_124 rfl (lv_at hl 1 rfl) ?_
              refine lv_dup hx hb dM_writeField_125 rfl ?_
              refine va_get (D := (dC, dI)) (ci := 4) (v := .int (nI q)) (C := RM) (T := TM) (N := 17) hx hb hw inM hown hK hP 0 rfl rfl 15 (by decide) (hw _ w_fl_M_84) (fun _ h9 => h9) rfl dM_writeField_126 ?_
              refine lv_iconst (v := nI 1) hx hb dM_writeField_129 (by decide) ?_
              refine zi_add hx hb dM_writeField_130 ?_
              refine va_put (D := (dC, dI)) (ci := 4) (v := .int (nI (q + 1))) (ty := .int) (C := RM) (T := TM) (N := 17) hx hb hw inM tyM tyM_ok nmM hown hK hP hD hS 0 rfl rfl 15 (by decide) (hw _ w_fl_M_84) (fun _ h9 => h9) rfl (by decide +kernel) rfl rfl (Nat.le_of_ble_eq_true rfl) dM_writeField_131 (fun H locs hP hD hS => ?_)
              have hP : va_P (dC, dI) vwCl [(m0, .inr (4, [.ref n0, .ref n1, .ref n2, .int (nI cd), .int (nI dt), .ref e0, .ref e1, .int (nI rt), .ref e2, .ref e3, .ref e4, .int (nI sz9), .int (nI at9), .int (nI fl), .int pl, .int (nI (q + 1)), .ref e5])), (n2, .inl (cI, 16, .inl (aN fFO))), (e0, .inl (cI, 672, .inl (aN dr))), (e4, .inl (cI, 400, .inl (aN (nup f q (if dr (42 * k + j) < 10 then 48 + dr (42 * k + j) else 55 + dr (42 * k + j)))))), (e5, .inl (cI, 4, .inl (aN fw)))] H := hP
              have hD : va_D A [(m0, .inr (4, [.ref n0, .ref n1, .ref n2, .int (nI cd), .int (nI dt), .ref e0, .ref e1, .int (nI rt), .ref e2, .ref e3, .ref e4, .int (nI sz9), .int (nI at9), .int (nI fl), .int pl, .int (nI (q + 1)), .ref e5])), (n2, .inl (cI, 16, .inl (aN fFO))), (e0, .inl (cI, 672, .inl (aN dr))), (e4, .inl (cI, 400, .inl (aN (nup f q (if dr (42 * k + j) < 10 then 48 + dr (42 * k + j) else 55 + dr (42 * k + j)))))), (e5, .inl (cI, 4, .inl (aN fw)))] := hD
              refine lv_iinc (v := nI (j + 1)) (lv' := [(5, .int (nI (j + 1))), (6, .int (nI (dr ((42 * k) + j)))), (0, .ref m0), (1, .int (nI k)), (2, .ref e0), (3, .int (nI n)), (4, .ref e4)]) hx hb dM_writeField_134 hl (k := 6) rfl (zi_incr j 1) (by decide) rfl (fun ls hl => ?_)
              refine lv_goto (tgt := 80) hx hb dM_writeField_137 (by decide) ?_
              exact ih80 (j + 1) (q + 1) (nup f q (if dr (42 * k + j) < 10 then 48 + dr (42 * k + j) else 55 + dr (42 * k + j))) (by omega) (by omega) (by have h9 := hi; rw [show n - j = n - (j + 1) + 1 by omega] at h9; exact h9) (by omega) _ _ _ (lv_sub hl [2, 3, 4, 5, 6, 0] rfl) (hP.sub [0, 1, 2, 3, 4] rfl) (hD.sub [0, 1, 2, 3, 4] (by decide) rfl) hS
            · refine lv_bipush (v := nI 48) hx hb dM_writeField_110 (by decide) ?_
              refine lv_iload hx hb dM_writeField_112 (lv_at hl 0 rfl) ?_
              refine zi_add hx hb dM_writeField_114 ?_
              refine lv_goto (tgt := 123) hx hb dM_writeField_115 (by decide) ?_
              refine zi_v (b := nI (if dr (42 * k + j) < 10 then 48 + dr (42 * k + j) else 55 + dr (42 * k + j))) (by rw [if_pos c_107]) ?_
              refine za_ist hx hb hK hP hD hS 3 0 rfl rfl (by omega) (by decide) dM_writeField_123 (fun H locs hP hD hS => ?_)
              have hP : va_P (dC, dI) vwCl [(m0, .inr (4, [.ref n0, .ref n1, .ref n2, .int (nI cd), .int (nI dt), .ref e0, .ref e1, .int (nI rt), .ref e2, .ref e3, .ref e4, .int (nI sz9), .int (nI at9), .int (nI fl), .int pl, .int (nI q), .ref e5])), (n2, .inl (cI, 16, .inl (aN fFO))), (e0, .inl (cI, 672, .inl (aN dr))), (e4, .inl (cI, 400, .inl (aN (nup f q (if dr (42 * k + j) < 10 then 48 + dr (42 * k + j) else 55 + dr (42 * k + j)))))), (e5, .inl (cI, 4, .inl (aN fw)))] H := hP
              have hD : va_D A [(m0, .inr (4, [.ref n0, .ref n1, .ref n2, .int (nI cd), .int (nI dt), .ref e0, .ref e1, .int (nI rt), .ref e2, .ref e3, .ref e4, .int (nI sz9), .int (nI at9), .int (nI fl), .int pl, .int (nI q), .ref e5])), (n2, .inl (cI, 16, .inl (aN fFO))), (e0, .inl (cI, 672, .inl (aN dr))), (e4, .inl (cI, 400, .inl (aN (nup f q (if dr (42 * k + j) < 10 then 48 + dr (42 * k + j) else 55 + dr (42 * k + j)))))), (e5, .inl (cI, 4, .inl (aN fw)))] := hD
              refine lv_aload_n hx hb dM_writeField_124 rfl (lv_at hl 1 rfl) ?_
              refine lv_dup hx hb dM_writeField_125 rfl ?_
              refine va_get (D := (dC, dI)) (ci := 4) (v := .int (nI q)) (C := RM) (T := TM) (N := 17) hx hb hw inM hown hK hP 0 rfl rfl 15 (by decide) (hw _ w_fl_M_84) (fun _ h9 => h9) rfl dM_writeField_126 ?_
              refine lv_iconst (v := nI 1) hx hb dM_writeField_129 (by decide) ?_
              refine zi_add hx hb dM_writeField_130 ?_
              refine va_put (D := (dC, dI)) (ci := 4) (v := .int (nI (q + 1))) (ty := .int) (C := RM) (T := TM) (N := 17) hx hb hw inM tyM tyM_ok nmM hown hK hP hD hS 0 rfl rfl 15 (by decide) (hw _ w_fl_M_84) (fun _ h9 => h9) rfl (by decide +kernel) rfl rfl (Nat.le_of_ble_eq_true rfl) dM_writeField_131 (fun H locs hP hD hS => ?_)
              have hP : va_P (dC, dI) vwCl [(m0, .inr (4, [.ref n0, .ref n1, .ref n2, .int (nI cd), .int (nI dt), .ref e0, .ref e1, .int (nI rt), .ref e2, .ref e3, .ref e4, .int (nI sz9), .int (nI at9), .int (nI fl), .int pl, .int (nI (q + 1)), .ref e5])), (n2, .inl (cI, 16, .inl (aN fFO))), (e0, .inl (cI, 672, .inl (aN dr))), (e4, .inl (cI, 400, .inl (aN (nup f q (if dr (42 * k + j) < 10 then 48 + dr (42 * k + j) else 55 + dr (42 * k + j)))))), (e5, .inl (cI, 4, .inl (aN fw)))] H := hP
              have hD : va_D A [(m0, .inr (4, [.ref n0, .ref n1, .ref n2, .int (nI cd), .int (nI dt), .ref e0, .ref e1, .int (nI rt), .ref e2, .ref e3, .ref e4, .int (nI sz9), .int (nI at9), .int (nI fl), .int pl, .int (nI (q + 1)), .ref e5])), (n2, .inl (cI, 16, .inl (aN fFO))), (e0, .inl (cI, 672, .inl (aN dr))), (e4, .inl (cI, 400, .inl (aN (nup f q (if dr (42 * k + j) < 10 then 48 + dr (42 * k + j) else 55 + dr (42 * k + j)))))), (e5, .inl (cI, 4, .inl (aN fw)))] := hD
              refine lv_iinc (v := nI (j + 1)) (lv' := [(5, .int (nI (j + 1))), (6, .int (nI (dr ((42 * k) + j)))), (0, .ref m0), (1, .int (nI k)), (2, .ref e0), (3, .int (nI n)), (4, .ref e4)]) hx hb dM_writeField_134 hl (k := 6) rfl (zi_incr j 1) (by decide) rfl (fun ls hl => ?_)
              refine lv_goto (tgt := 80) hx hb dM_writeField_137 (by decide) ?_
              exact ih80 (j + 1) (q + 1) (nup f q (if dr (42 * k + j) < 10 then 48 + dr (42 * k + j) else 55 + dr (42 * k + j))) (by omega) (by omega) (by have h9 := hi; rw [show n - j = n - (j + 1) + 1 by omega] at h9; exact h9) (by omega) _ _ _ (lv_sub hl [2, 3, 4, 5, 6, 0] rfl) (hP.sub [0, 1, 2, 3, 4] rfl) (hD.sub [0, 1, 2, 3, 4] (by decide) rfl) hS
      exact lp_80 ((n - 0) + 1) 0 Q9 T9 (by omega) (by omega) rfl (Nat.lt_succ_self _) _ _ _ (lv_sub hl [1, 2, 3, 4, 5, 0] rfl) (hP.sub [0, 1, 2, 3, 4] rfl) (hD.sub [0, 1, 2, 3, 4] (by decide) rfl) hS
    · refine lv_aload_n hx hb dM_writeField_64 rfl (lv_at hl 0 rfl) ?_
      refine lv_aload hx hb dM_writeField_65 (lv_at hl 4 rfl) ?_
      refine lv_aload_n hx hb dM_writeField_67 rfl (lv_at hl 2 rfl) ?_
      refine lv_bipush (v := nI 42) hx hb dM_writeField_68 (by decide) ?_
      refine lv_iload_n hx hb dM_writeField_70 rfl (lv_at hl 1 rfl) ?_
      refine zi_mul hx hb dM_writeField_71 ?_
      refine lv_iload_n hx hb dM_writeField_72 rfl (lv_at hl 3 rfl) ?_
      have hPc := hP.sub (ws' := [(m0, .inr (4, [.ref n0, .ref n1, .ref n2, .int (nI cd), .int (nI dt), .ref e0, .ref e1, .int (nI rt), .ref e2, .ref e3, .ref e4, .int (nI sz9), .int (nI at9), .int (nI fl), .int pl, .int (nI wr), .ref e5])), (e4, .inl (cI, 400, .inl (aN tp))), (e0, .inl (cI, 672, .inl (aN dr)))]) [0, 3, 2] rfl
      have hDc := hD.sub (ws' := [(m0, .inr (4, [.ref n0, .ref n1, .ref n2, .int (nI cd), .int (nI dt), .ref e0, .ref e1, .int (nI rt), .ref e2, .ref e3, .ref e4, .int (nI sz9), .int (nI at9), .int (nI fl), .int pl, .int (nI wr), .ref e5])), (e4, .inl (cI, 400, .inl (aN tp))), (e0, .inl (cI, 672, .inl (aN dr)))]) [0, 3, 2] (by decide) rfl
      have hFc := va_free (wc := [(m0, .inr (4, [.ref n0, .ref n1, .ref n2, .int (nI cd), .int (nI dt), .ref e0, .ref e1, .int (nI rt), .ref e2, .ref e3, .ref e4, .int (nI sz9), .int (nI at9), .int (nI fl), .int pl, .int (nI wr), .ref e5])), (e4, .inl (cI, 400, .inl (aN tp))), (e0, .inl (cI, 672, .inl (aN dr)))]) hD hS hA [0, 3, 2] rfl
      refine zc_Mv (va_runV (As := [.ref e4, .ref e0, .int (nI (42 * k)), .int (nI n)]) (rest := []) ⟨hx, hb, hml, hown, hw⟩ (c_M_pack l dC dI m0 n0 n1 n2 cd dt e0 e1 rt e2 e3 e4 sz9 at9 fl pl wr e5 cI cB e0 672 dr tp (42 * k) n (by omega) (by omega) (by omega) s.heap.size) (cwV 4 hw (gV w_ml_M_87 w_im_M_pack w_se_M_pack w_in_M w_co_M_pack) rfl rfl rfl (by decide +kernel) ⟨Nat.le_of_ble_eq_true rfl, Nat.le_of_ble_eq_true rfl⟩) (zM_V hG hS hFc hPc hDc hK 0 rfl rfl) rfl rfl hl.1 rfl (lv_room (Nat.le_of_ble_eq_true rfl)) dM_writeField_73 ⟨Nat.le_of_ble_eq_true rfl, Nat.le_of_ble_eq_true rfl⟩) hS hFc (fun H locs h_73 hP1 hD1 hk1 hS => ?_)
      obtain ⟨hP, hD⟩ := va_join (wr := [(n2, .inl (cI, 16, .inl (aN fFO))), (e5, .inl (cI, 4, .inl (aN fw)))]) (w1 := [(m0, .inr (4, [.ref n0, .ref n1, .ref n2, .int (nI cd), .int (nI dt), .ref e0, .ref e1, .int (nI rt), .ref e2, .ref e3, .ref e4, .int (nI sz9), .int (nI at9), .int (nI fl), .int pl, .int (nI (wr + (dgB dr (42 * k) n).length)), .ref e5])), (e4, .inl (cI, 400, .inl (aN (apl tp wr (dgB dr (42 * k) n))))), (e0, .inl (cI, 672, .inl (aN dr)))]) hP hD [0, 3, 2] [1, 4] rfl rfl (by decide) (by decide) hk1 hFc hP1 hD1
      have hP : va_P (dC, dI) vwCl [(n2, .inl (cI, 16, .inl (aN fFO))), (e5, .inl (cI, 4, .inl (aN fw))), (m0, .inr (4, [.ref n0, .ref n1, .ref n2, .int (nI cd), .int (nI dt), .ref e0, .ref e1, .int (nI rt), .ref e2, .ref e3, .ref e4, .int (nI sz9), .int (nI at9), .int (nI fl), .int pl, .int (nI (wr + (dgB dr (42 * k) n).length)), .ref e5])), (e4, .inl (cI, 400, .inl (aN (apl tp wr (dgB dr (42 * k) n))))), (e0, .inl (cI, 672, .inl (aN dr)))] H := hP
      have hD : va_D A [(n2, .inl (cI, 16, .inl (aN fFO))), (e5, .inl (cI, 4, .inl (aN fw))), (m0, .inr (4, [.ref n0, .ref n1, .ref n2, .int (nI cd), .int (nI dt), .ref e0, .ref e1, .int (nI rt), .ref e2, .ref e3, .ref e4, .int (nI sz9), .int (nI at9), .int (nI fl), .int pl, .int (nI (wr + (dgB dr (42 * k) n).length)), .ref e5])), (e4, .inl (cI, 400, .inl (aN (apl tp wr (dgB dr (42 * k) n))))), (e0, .inl (cI, 672, .inl (aN dr)))] := hD
      have e8 : fldM dr k n = dgB dr (42 * k) n := by unfold fldM; rw [if_pos (by omega), if_pos (ho2.mp c_61)]; rfl
      rw [e8] at hQ
      subst hAe
      subst hQ
      exact W.vret hx hb hr (fun t ht hW => ⟨⟨fw, rfl, trivial, by rw [ht]; exact hP.sub [2, 0, 4, 3, 1] rfl, hD.sub [2, 0, 4, 3, 1] (by decide) rfl⟩, hS.F ht⟩) hS.2.2 dM_writeField_76
  · refine lv_aload_n hx hb dM_writeField_12 rfl (lv_at hl 0 rfl) ?_
    refine va_get (D := (dC, dI)) (ci := 4) (v := .ref n2) (C := RM) (T := TM) (N := 17) hx hb hw inM hown hK hP 0 rfl rfl 2 (by decide) (hw _ w_fl_M_16) (fun _ h9 => h9) rfl dM_writeField_13 ?_
    refine lv_iload_n hx hb dM_writeField_16 rfl (lv_at hl 1 rfl) ?_
    refine za_ild hx hb hK hP 1 0 rfl rfl (by omega) (by decide) dM_writeField_17 ?_
    refine lv_iconst (v := nI 1) hx hb dM_writeField_18 (by decide) ?_
    refine zi_ne (tgt := 26) hx hb (by omega) (by omega) dM_writeField_19 (by decide) (fun c_19 => ?_) (fun c_19 => ?_)
    · refine lv_iconst (v := nI 3) hx hb dM_writeField_26 (by decide) ?_
      refine lv_istore (lv' := [(5, .int (nI 3)), (0, .ref m0), (1, .int (nI k)), (2, .ref e0), (3, .int (nI n)), (4, .ref e4)]) hx hb dM_writeField_27 hl (by decide) rfl (fun ls hl => ?_)
      refine lv_aload_n hx hb dM_writeField_29 rfl (lv_at hl 1 rfl) ?_
      refine va_get (D := (dC, dI)) (ci := 4) (v := .ref e5) (C := RM) (T := TM) (N := 17) hx hb hw inM hown hK hP 0 rfl rfl 16 (by decide) (hw _ w_fl_M_38) (fun _ h9 => h9) rfl dM_writeField_30 ?_
      refine lv_iconst (v := nI 0) hx hb dM_writeField_33 (by decide) ?_
      refine lv_iload_n hx hb dM_writeField_34 rfl (lv_at hl 4 rfl) ?_
      refine zi_l hx hb (by omega) dM_writeField_35 ?_
      refine lv_iload hx hb dM_writeField_36 (lv_at hl 0 rfl) ?_
      have hPc := hP.sub (ws' := [(e5, .inl (cI, 4, .inl (aN fw)))]) [4] rfl
      have hDc := hD.sub (ws' := [(e5, .inl (cI, 4, .inl (aN fw)))]) [4] (by decide) rfl
      have hFc := va_free (wc := [(e5, .inl (cI, 4, .inl (aN fw)))]) hD hS hA [4] rfl
      refine zc_Mv (va_runS (As := [.ref e5, .int (nI 0), .long (lN n), .int (nI 3)]) (rest := []) ⟨hx, hb, hml, hown, hw⟩ (c_M_setDigits l dC dI e5 cI cB 4 fw 0 n 3 (by omega) (by omega) (by omega) s.heap.size) (va_cwS 4 hw (gSt w_ml_M_62 w_st_M_setDigits w_in_M w_co_M_setDigits) rfl rfl rfl (by decide +kernel) ⟨Nat.le_of_ble_eq_true rfl, Nat.le_of_ble_eq_true rfl⟩) (zM_S hG hS hFc hPc hDc hK) rfl rfl hl.1 rfl (lv_room (Nat.le_of_ble_eq_true rfl)) dM_writeField_38 ⟨Nat.le_of_ble_eq_true rfl, Nat.le_of_ble_eq_true rfl⟩) hS hFc (fun H locs h_38 hP1 hD1 hk1 hS => ?_)
      obtain ⟨hP, hD⟩ := va_join (wr := [(m0, .inr (4, [.ref n0, .ref n1, .ref n2, .int (nI cd), .int (nI dt), .ref e0, .ref e1, .int (nI rt), .ref e2, .ref e3, .ref e4, .int (nI sz9), .int (nI at9), .int (nI fl), .int pl, .int (nI wr), .ref e5])), (n2, .inl (cI, 16, .inl (aN fFO))), (e0, .inl (cI, 672, .inl (aN dr))), (e4, .inl (cI, 400, .inl (aN tp)))]) (w1 := [(e5, .inl (cI, 4, .inl (aN (ds fw 0 3 n))))]) hP hD [4] [0, 1, 2, 3] rfl rfl (by decide) (by decide) hk1 hFc hP1 hD1
      have hP : va_P (dC, dI) vwCl [(m0, .inr (4, [.ref n0, .ref n1, .ref n2, .int (nI cd), .int (nI dt), .ref e0, .ref e1, .int (nI rt), .ref e2, .ref e3, .ref e4, .int (nI sz9), .int (nI at9), .int (nI fl), .int pl, .int (nI wr), .ref e5])), (n2, .inl (cI, 16, .inl (aN fFO))), (e0, .inl (cI, 672, .inl (aN dr))), (e4, .inl (cI, 400, .inl (aN tp))), (e5, .inl (cI, 4, .inl (aN (ds fw 0 3 n))))] H := hP
      have hD : va_D A [(m0, .inr (4, [.ref n0, .ref n1, .ref n2, .int (nI cd), .int (nI dt), .ref e0, .ref e1, .int (nI rt), .ref e2, .ref e3, .ref e4, .int (nI sz9), .int (nI at9), .int (nI fl), .int pl, .int (nI wr), .ref e5])), (n2, .inl (cI, 16, .inl (aN fFO))), (e0, .inl (cI, 672, .inl (aN dr))), (e4, .inl (cI, 400, .inl (aN tp))), (e5, .inl (cI, 4, .inl (aN (ds fw 0 3 n))))] := hD
      refine lv_aload_n hx hb dM_writeField_41 rfl (lv_at hl 1 rfl) ?_
      refine lv_aload hx hb dM_writeField_42 (lv_at hl 5 rfl) ?_
      refine lv_aload_n hx hb dM_writeField_44 rfl (lv_at hl 1 rfl) ?_
      refine va_get (D := (dC, dI)) (ci := 4) (v := .ref e5) (C := RM) (T := TM) (N := 17) hx hb hw inM hown hK hP 0 rfl rfl 16 (by decide) (hw _ w_fl_M_38) (fun _ h9 => h9) rfl dM_writeField_45 ?_
      refine lv_iconst (v := nI 0) hx hb dM_writeField_48 (by decide) ?_
      refine lv_iload hx hb dM_writeField_49 (lv_at hl 0 rfl) ?_
      have hPc := hP.sub (ws' := [(m0, .inr (4, [.ref n0, .ref n1, .ref n2, .int (nI cd), .int (nI dt), .ref e0, .ref e1, .int (nI rt), .ref e2, .ref e3, .ref e4, .int (nI sz9), .int (nI at9), .int (nI fl), .int pl, .int (nI wr), .ref e5])), (e4, .inl (cI, 400, .inl (aN tp))), (e5, .inl (cI, 4, .inl (aN (ds fw 0 3 n))))]) [0, 3, 4] rfl
      have hDc := hD.sub (ws' := [(m0, .inr (4, [.ref n0, .ref n1, .ref n2, .int (nI cd), .int (nI dt), .ref e0, .ref e1, .int (nI rt), .ref e2, .ref e3, .ref e4, .int (nI sz9), .int (nI at9), .int (nI fl), .int pl, .int (nI wr), .ref e5])), (e4, .inl (cI, 400, .inl (aN tp))), (e5, .inl (cI, 4, .inl (aN (ds fw 0 3 n))))]) [0, 3, 4] (by decide) rfl
      have hFc := va_free (wc := [(m0, .inr (4, [.ref n0, .ref n1, .ref n2, .int (nI cd), .int (nI dt), .ref e0, .ref e1, .int (nI rt), .ref e2, .ref e3, .ref e4, .int (nI sz9), .int (nI at9), .int (nI fl), .int pl, .int (nI wr), .ref e5])), (e4, .inl (cI, 400, .inl (aN tp))), (e5, .inl (cI, 4, .inl (aN (ds fw 0 3 n))))]) hD hS hA [0, 3, 4] rfl
      refine zc_Mv (va_runV (As := [.ref e4, .ref e5, .int (nI 0), .int (nI 3)]) (rest := []) ⟨hx, hb, hml, hown, hw⟩ (c_M_pack l dC dI m0 n0 n1 n2 cd dt e0 e1 rt e2 e3 e4 sz9 at9 fl pl wr e5 cI cB e5 4 (ds fw 0 3 n) tp 0 3 (by omega) (by omega) (by omega) H.size) (cwV 4 hw (gV w_ml_M_87 w_im_M_pack w_se_M_pack w_in_M w_co_M_pack) rfl rfl rfl (by decide +kernel) ⟨Nat.le_of_ble_eq_true rfl, Nat.le_of_ble_eq_true rfl⟩) (zM_V hG hS hFc hPc hDc hK 0 rfl rfl) rfl rfl hl.1 rfl (lv_room (Nat.le_of_ble_eq_true rfl)) dM_writeField_51 ⟨Nat.le_of_ble_eq_true rfl, Nat.le_of_ble_eq_true rfl⟩) hS hFc (fun H locs h_51 hP1 hD1 hk1 hS => ?_)
      obtain ⟨hP, hD⟩ := va_join (wr := [(n2, .inl (cI, 16, .inl (aN fFO))), (e0, .inl (cI, 672, .inl (aN dr)))]) (w1 := [(m0, .inr (4, [.ref n0, .ref n1, .ref n2, .int (nI cd), .int (nI dt), .ref e0, .ref e1, .int (nI rt), .ref e2, .ref e3, .ref e4, .int (nI sz9), .int (nI at9), .int (nI fl), .int pl, .int (nI (wr + (dgB (ds fw 0 3 n) 0 3).length)), .ref e5])), (e4, .inl (cI, 400, .inl (aN (apl tp wr (dgB (ds fw 0 3 n) 0 3))))), (e5, .inl (cI, 4, .inl (aN (ds fw 0 3 n))))]) hP hD [0, 3, 4] [1, 2] rfl rfl (by decide) (by decide) hk1 hFc hP1 hD1
      have hP : va_P (dC, dI) vwCl [(n2, .inl (cI, 16, .inl (aN fFO))), (e0, .inl (cI, 672, .inl (aN dr))), (m0, .inr (4, [.ref n0, .ref n1, .ref n2, .int (nI cd), .int (nI dt), .ref e0, .ref e1, .int (nI rt), .ref e2, .ref e3, .ref e4, .int (nI sz9), .int (nI at9), .int (nI fl), .int pl, .int (nI (wr + (dgB (ds fw 0 3 n) 0 3).length)), .ref e5])), (e4, .inl (cI, 400, .inl (aN (apl tp wr (dgB (ds fw 0 3 n) 0 3))))), (e5, .inl (cI, 4, .inl (aN (ds fw 0 3 n))))] H := hP
      have hD : va_D A [(n2, .inl (cI, 16, .inl (aN fFO))), (e0, .inl (cI, 672, .inl (aN dr))), (m0, .inr (4, [.ref n0, .ref n1, .ref n2, .int (nI cd), .int (nI dt), .ref e0, .ref e1, .int (nI rt), .ref e2, .ref e3, .ref e4, .int (nI sz9), .int (nI at9), .int (nI fl), .int pl, .int (nI (wr + (dgB (ds fw 0 3 n) 0 3).length)), .ref e5])), (e4, .inl (cI, 400, .inl (aN (apl tp wr (dgB (ds fw 0 3 n) 0 3))))), (e5, .inl (cI, 4, .inl (aN (ds fw 0 3 n))))] := hD
      have e9 : dgB (ds fw 0 3 n) 0 3 = anb n (fCD k) := by rw [show fCD k = 3 by omega]; exact pk3 fw (by omega)
      rw [e9] at hP hD
      have hP : va_P (dC, dI) vwCl [(n2, .inl (cI, 16, .inl (aN fFO))), (e0, .inl (cI, 672, .inl (aN dr))), (m0, .inr (4, [.ref n0, .ref n1, .ref n2, .int (nI cd), .int (nI dt), .ref e0, .ref e1, .int (nI rt), .ref e2, .ref e3, .ref e4, .int (nI sz9), .int (nI at9), .int (nI fl), .int pl, .int (nI (wr + (anb n (fCD k)).length)), .ref e5])), (e4, .inl (cI, 400, .inl (aN (apl tp wr (anb n (fCD k)))))), (e5, .inl (cI, 4, .inl (aN (ds fw 0 3 n))))] H := hP
      have hD : va_D A [(n2, .inl (cI, 16, .inl (aN fFO))), (e0, .inl (cI, 672, .inl (aN dr))), (m0, .inr (4, [.ref n0, .ref n1, .ref n2, .int (nI cd), .int (nI dt), .ref e0, .ref e1, .int (nI rt), .ref e2, .ref e3, .ref e4, .int (nI sz9), .int (nI at9), .int (nI fl), .int pl, .int (nI (wr + (anb n (fCD k)).length)), .ref e5])), (e4, .inl (cI, 400, .inl (aN (apl tp wr (anb n (fCD k)))))), (e5, .inl (cI, 4, .inl (aN (ds fw 0 3 n))))] := hD
      refine lv_aload_n hx hb dM_writeField_54 rfl (lv_at hl 1 rfl) ?_
      refine va_get (D := (dC, dI)) (ci := 4) (v := .ref n2) (C := RM) (T := TM) (N := 17) hx hb hw inM hown hK hP 2 rfl rfl 2 (by decide) (hw _ w_fl_M_16) (fun _ h9 => h9) rfl dM_writeField_55 ?_
      refine lv_iload_n hx hb dM_writeField_58 rfl (lv_at hl 2 rfl) ?_
      refine za_ild hx hb hK hP 0 0 rfl rfl (by omega) (by decide) dM_writeField_59 ?_
      refine lv_iconst (v := nI 2) hx hb dM_writeField_60 (by decide) ?_
      refine zi_ge (tgt := 77) hx hb (by omega) (by omega) dM_writeField_61 (by decide) (fun c_61 => ?_) (fun c_61 => ?_)
      · obtain ⟨T9, hT9⟩ : ∃ T9, T9 = apl tp wr (anb n (fCD k)) := ⟨_, rfl⟩
        obtain ⟨Q9, hQ9⟩ : ∃ Q9, Q9 = wr + (anb n (fCD k)).length := ⟨_, rfl⟩
        have hQb : Q9 ≤ wr + 2 := by omega
        rw [← hT9, ← hQ9] at hP hD
        have hP : va_P (dC, dI) vwCl [(n2, .inl (cI, 16, .inl (aN fFO))), (e0, .inl (cI, 672, .inl (aN dr))), (m0, .inr (4, [.ref n0, .ref n1, .ref n2, .int (nI cd), .int (nI dt), .ref e0, .ref e1, .int (nI rt), .ref e2, .ref e3, .ref e4, .int (nI sz9), .int (nI at9), .int (nI fl), .int pl, .int (nI Q9), .ref e5])), (e4, .inl (cI, 400, .inl (aN T9))), (e5, .inl (cI, 4, .inl (aN (ds fw 0 3 n))))] H := hP
        have hD : va_D A [(n2, .inl (cI, 16, .inl (aN fFO))), (e0, .inl (cI, 672, .inl (aN dr))), (m0, .inr (4, [.ref n0, .ref n1, .ref n2, .int (nI cd), .int (nI dt), .ref e0, .ref e1, .int (nI rt), .ref e2, .ref e3, .ref e4, .int (nI sz9), .int (nI at9), .int (nI fl), .int pl, .int (nI Q9), .ref e5])), (e4, .inl (cI, 400, .inl (aN T9))), (e5, .inl (cI, 4, .inl (aN (ds fw 0 3 n))))] := hD
        refine lv_iconst (v := nI 0) hx hb dM_writeField_77 (by decide) ?_
        refine lv_istore (lv' := [(5, .int (nI 0)), (0, .ref m0), (1, .int (nI k)), (2, .ref e0), (3, .int (nI n)), (4, .ref e4)]) hx hb dM_writeField_78 hl (by decide) rfl (fun ls hl => ?_)
        have lp_80 : ∀ (fu : Nat) (j : Nat) (q : Nat) (f : Nat → Nat) (hj : j ≤ n) (hq : q = Q9 + j) (hi : apl f q (lBM dr (42 * k) (n - j) j) = apl T9 Q9 (lBM dr (42 * k) n 0)) (hms : n - j < fu) (H : Heap) (locs : List Loc) (ls : Array Slot), lv_has ls 7 [(0, .ref m0), (1, .int (nI k)), (2, .ref e0), (3, .int (nI n)), (4, .ref e4), (5, .int (nI j))] → va_P (dC, dI) vwCl [(n2, .inl (cI, 16, .inl (aN fFO))), (e0, .inl (cI, 672, .inl (aN dr))), (m0, .inr (4, [.ref n0, .ref n1, .ref n2, .int (nI cd), .int (nI dt), .ref e0, .ref e1, .int (nI rt), .ref e2, .ref e3, .ref e4, .int (nI sz9), .int (nI at9), .int (nI fl), .int pl, .int (nI q), .ref e5])), (e4, .inl (cI, 400, .inl (aN f))), (e5, .inl (cI, 4, .inl (aN (ds fw 0 3 n))))] H → va_D A [(n2, .inl (cI, 16, .inl (aN fFO))), (e0, .inl (cI, 672, .inl (aN dr))), (m0, .inr (4, [.ref n0, .ref n1, .ref n2, .int (nI cd), .int (nI dt), .ref e0, .ref e1, .int (nI rt), .ref e2, .ref e3, .ref e4, .int (nI sz9), .int (nI at9), .int (nI fl), .int pl, .int (nI q), .ref e5])), (e4, .inl (cI, 400, .inl (aN f))), (e5, .inl (cI, 4, .inl (aN (ds fw 0 3 n))))] → va_S A s.heap H locs → W p l e rm_c_M_writeField s m ([.ref m0, .int (nI k), .ref e0, .int (nI n), .ref e4] : List Value).toArray below meth c H locs 0 0 Q (F0 m 80 ls []) := by
          intro fu
          induction fu with
          | zero => intro j q f hj hq hi hms; exact absurd hms (Nat.not_lt_zero _)
          | succ fu ih80 =>
            intro j q f hj hq hi hms H locs ls hl hP hD hS
            refine lv_iload hx hb dM_writeField_80 (lv_at hl 5 rfl) ?_
            refine lv_iload_n hx hb dM_writeField_82 rfl (lv_at hl 3 rfl) ?_
            refine zi_ge (tgt := 140) hx hb (by omega) (by omega) dM_writeField_83 (by decide) (fun c_83 => ?_) (fun c_83 => ?_)
            · have hi : f = apl T9 Q9 (lBM dr (42 * k) n 0) := by have h9 := hi; rw [show n - j = 0 by omega] at h9; exact h9
              have hq : q = Q9 + (lBM dr (42 * k) n 0).length := by rw [lBM_len]; omega
              subst hi
              subst hq
              subst hT9
              subst hQ9
              have e8 : fldM dr k n = anb n (fCD k) ++ lBM dr (42 * k) n 0 := by unfold fldM; rw [if_neg (by omega), if_neg (fun z => by have := ho2.mpr z; omega)]
              rw [e8, apl_app, List.length_append, ← Nat.add_assoc] at hQ
              subst hAe
              subst hQ
              exact W.vret hx hb hr (fun t ht hW => ⟨⟨(ds fw 0 3 n), rfl, trivial, by rw [ht]; exact hP.sub [2, 0, 1, 3, 4] rfl, hD.sub [2, 0, 1, 3, 4] (by decide) rfl⟩, hS.F ht⟩) hS.2.2 dM_writeField_140
            · refine lv_aload_n hx hb dM_writeField_86 rfl (lv_at hl 2 rfl) ?_
              refine lv_bipush (v := nI 42) hx hb dM_writeField_87 (by decide) ?_
              refine lv_iload_n hx hb dM_writeField_89 rfl (lv_at hl 1 rfl) ?_
              refine zi_mul hx hb dM_writeField_90 ?_
              refine lv_iload hx hb dM_writeField_91 (lv_at hl 5 rfl) ?_
              refine zi_add hx hb dM_writeField_93 ?_
              refine za_ild hx hb hK hP 1 0 rfl rfl (by omega) (by decide) dM_writeField_94 ?_
              refine lv_istore (lv' := [(6, .int (nI (dr ((42 * k) + j)))), (0, .ref m0), (1, .int (nI k)), (2, .ref e0), (3, .int (nI n)), (4, .ref e4), (5, .int (nI j))]) hx hb dM_writeField_95 hl (by decide) rfl (fun ls hl => ?_)
              have hd8 := hd9 (fun z => by have := ho2.mpr z; omega) j (by omega)
              refine lv_aload hx hb dM_writeField_97 (lv_at hl 5 rfl) ?_
              refine lv_aload_n hx hb dM_writeField_99 rfl (lv_at hl 1 rfl) ?_
              refine va_get (D := (dC, dI)) (ci := 4) (v := .int (nI q)) (C := RM) (T := TM) (N := 17) hx hb hw inM hown hK hP 2 rfl rfl 15 (by decide) (hw _ w_fl_M_84) (fun _ h9 => h9) rfl dM_writeField_100 ?_
              refine lv_iload hx hb dM_writeField_103 (lv_at hl 0 rfl) ?_
              refine lv_bipush (v := nI 10) hx hb dM_writeField_105 (by decide) ?_
              refine zi_ge (tgt := 118) hx hb (by omega) (by omega) dM_writeField_107 (by decide) (fun c_107 => ?_) (fun c_107 => ?_)
              · refine lv_bipush (v := nI 55) hx hb dM_writeField_118 (by decide) ?_
                refine lv_iload hx hb dM_writeField_120 (lv_at hl 0 rfl) ?_
                refine zi_add hx hb dM_writeField_122 ?_
                refine zi_v (b := nI (if dr (42 * k + j) < 10 then 48 + dr (42 * k + j) else 55 + dr (42 * k + j))) (by rw [if_neg (by omega)]) ?_
                refine za_ist hx hb hK hP hD hS 3 0 rfl rfl (by omega) (by decide) dM_writeField_123 (fun H locs hP hD hS => ?_)
                have hP : va_P (dC, dI) vwCl [(n2, .inl (cI, 16, .inl (aN fFO))), (e0, .inl (cI, 672, .inl (aN dr))), (m0, .inr (4, [.ref n0, .ref n1, .ref n2, .int (nI cd), .int (nI dt), .ref e0, .ref e1, .int (nI rt), .ref e2, .ref e3, .ref e4, .int (nI sz9), .int (nI at9), .int (nI fl), .int pl, .int (nI q), .ref e5])), (e4, .inl (cI, 400, .inl (aN (nup f q (if dr (42 * k + j) < 10 then 48 + dr (42 * k + j) else 55 + dr (42 * k + j)))))), (e5, .inl (cI, 4, .inl (aN (ds fw 0 3 n))))] H := hP
                have hD : va_D A [(n2, .inl (cI, 16, .inl (aN fFO))), (e0, .inl (cI, 672, .inl (aN dr))), (m0, .inr (4, [.ref n0, .ref n1, .ref n2, .int (nI cd), .int (nI dt), .ref e0, .ref e1, .int (nI rt), .ref e2, .ref e3, .ref e4, .int (nI sz9), .int (nI at9), .int (nI fl), .int pl, .int (nI q), .ref e5])), (e4, .inl (cI, 400, .inl (aN (nup f q (if dr (42 * k + j) < 10 then 48 + dr (42 * k + j) else 55 + dr (42 * k + j)))))), (e5, .inl (cI, 4, .inl (aN (ds fw 0 3 n))))] := hD
                refine lv_aload_n hx hb dM_writeField_124 rfl (lv_at hl 1 rfl) ?_
                refine lv_dup hx hb dM_writeField_125 rfl ?_
                refine va_get (D := (dC, dI)) (ci := 4) (v := .int (nI q)) (C := RM) (T := TM) (N := 17) hx hb hw inM hown hK hP 2 rfl rfl 15 (by decide) (hw _ w_fl_M_84) (fun _ h9 => h9) rfl dM_writeField_126 ?_
                refine lv_iconst (v := nI 1) hx hb dM_writeField_129 (by decide) ?_
                refine zi_add hx hb dM_writeField_130 ?_
                refine va_put (D := (dC, dI)) (ci := 4) (v := .int (nI (q + 1))) (ty := .int) (C := RM) (T := TM) (N := 17) hx hb hw inM tyM tyM_ok nmM hown hK hP hD hS 2 rfl rfl 15 (by decide) (hw _ w_fl_M_84) (fun _ h9 => h9) rfl (by decide +kernel) rfl rfl (Nat.le_of_ble_eq_true rfl) dM_writeField_131 (fun H locs hP hD hS => ?_)
                have hP : va_P (dC, dI) vwCl [(n2, .inl (cI, 16, .inl (aN fFO))), (e0, .inl (cI, 672, .inl (aN dr))), (m0, .inr (4, [.ref n0, .ref n1, .ref n2, .int (nI cd), .int (nI dt), .ref e0, .ref e1, .int (nI rt), .ref e2, .ref e3, .ref e4, .int (nI sz9), .int (nI at9), .int (nI fl), .int pl, .int (nI (q + 1)), .ref e5])), (e4, .inl (cI, 400, .inl (aN (nup f q (if dr (42 * k + j) < 10 then 48 + dr (42 * k + j) else 55 + dr (42 * k + j)))))), (e5, .inl (cI, 4, .inl (aN (ds fw 0 3 n))))] H := hP
                have hD : va_D A [(n2, .inl (cI, 16, .inl (aN fFO))), (e0, .inl (cI, 672, .inl (aN dr))), (m0, .inr (4, [.ref n0, .ref n1, .ref n2, .int (nI cd), .int (nI dt), .ref e0, .ref e1, .int (nI rt), .ref e2, .ref e3, .ref e4, .int (nI sz9), .int (nI at9), .int (nI fl), .int pl, .int (nI (q + 1)), .ref e5])), (e4, .inl (cI, 400, .inl (aN (nup f q (if dr (42 * k + j) < 10 then 48 + dr (42 * k + j) else 55 + dr (42 * k + j)))))), (e5, .inl (cI, 4, .inl (aN (ds fw 0 3 n))))] := hD
                refine lv_iinc (v := nI (j + 1)) (lv' := [(5, .int (nI (j + 1))), (6, .int (nI (dr ((42 * k) + j)))), (0, .ref m0), (1, .int (nI k)), (2, .ref e0), (3, .int (nI n)), (4, .ref e4)]) hx hb dM_writeField_134 hl (k := 6) rfl (zi_incr j 1) (by decide) rfl (fun ls hl => ?_)
                refine lv_goto (tgt := 80) hx hb dM_writeField_137 (by decide) ?_
                exact ih80 (j + 1) (q + 1) (nup f q (if dr (42 * k + j) < 10 then 48 + dr (42 * k + j) else 55 + dr (42 * k + j))) (by omega) (by omega) (by have h9 := hi; rw [show n - j = n - (j + 1) + 1 by omega] at h9; exact h9) (by omega) _ _ _ (lv_sub hl [2, 3, 4, 5, 6, 0] rfl) (hP.sub [0, 1, 2, 3, 4] rfl) (hD.sub [0, 1, 2, 3, 4] (by decide) rfl) hS
              · refine lv_bipush (v := nI 48) hx hb dM_writeField_110 (by decide) ?_
                refine lv_iload hx hb dM_writeField_112 (lv_at hl 0 rfl) ?_
                refine zi_add hx hb dM_writeField_114 ?_
                refine lv_goto (tgt := 123) hx hb dM_writeField_115 (by decide) ?_
                refine zi_v (b := nI (if dr (42 * k + j) < 10 then 48 + dr (42 * k + j) else 55 + dr (42 * k + j))) (by rw [if_pos c_107]) ?_
                refine za_ist hx hb hK hP hD hS 3 0 rfl rfl (by omega) (by decide) dM_writeField_123 (fun H locs hP hD hS => ?_)
                have hP : va_P (dC, dI) vwCl [(n2, .inl (cI, 16, .inl (aN fFO))), (e0, .inl (cI, 672, .inl (aN dr))), (m0, .inr (4, [.ref n0, .ref n1, .ref n2, .int (nI cd), .int (nI dt), .ref e0, .ref e1, .int (nI rt), .ref e2, .ref e3, .ref e4, .int (nI sz9), .int (nI at9), .int (nI fl), .int pl, .int (nI q), .ref e5])), (e4, .inl (cI, 400, .inl (aN (nup f q (if dr (42 * k + j) < 10 then 48 + dr (42 * k + j) else 55 + dr (42 * k + j)))))), (e5, .inl (cI, 4, .inl (aN (ds fw 0 3 n))))] H := hP
                have hD : va_D A [(n2, .inl (cI, 16, .inl (aN fFO))), (e0, .inl (cI, 672, .inl (aN dr))), (m0, .inr (4, [.ref n0, .ref n1, .ref n2, .int (nI cd), .int (nI dt), .ref e0, .ref e1, .int (nI rt), .ref e2, .ref e3, .ref e4, .int (nI sz9), .int (nI at9), .int (nI fl), .int pl, .int (nI q), .ref e5])), (e4, .inl (cI, 400, .inl (aN (nup f q (if dr (42 * k + j) < 10 then 48 + dr (42 * k + j) else 55 + dr (42 * k + j)))))), (e5, .inl (cI, 4, .inl (aN (ds fw 0 3 n))))] := hD
                refine lv_aload_n hx hb dM_writeField_124 rfl (lv_at hl 1 rfl) ?_
                refine lv_dup hx hb dM_writeField_125 rfl ?_
                refine va_get (D := (dC, dI)) (ci := 4) (v := .int (nI q)) (C := RM) (T := TM) (N := 17) hx hb hw inM hown hK hP 2 rfl rfl 15 (by decide) (hw _ w_fl_M_84) (fun _ h9 => h9) rfl dM_writeField_126 ?_
                refine lv_iconst (v := nI 1) hx hb dM_writeField_129 (by decide) ?_
                refine zi_add hx hb dM_writeField_130 ?_
                refine va_put (D := (dC, dI)) (ci := 4) (v := .int (nI (q + 1))) (ty := .int) (C := RM) (T := TM) (N := 17) hx hb hw inM tyM tyM_ok nmM hown hK hP hD hS 2 rfl rfl 15 (by decide) (hw _ w_fl_M_84) (fun _ h9 => h9) rfl (by decide +kernel) rfl rfl (Nat.le_of_ble_eq_true rfl) dM_writeField_131 (fun H locs hP hD hS => ?_)
                have hP : va_P (dC, dI) vwCl [(n2, .inl (cI, 16, .inl (aN fFO))), (e0, .inl (cI, 672, .inl (aN dr))), (m0, .inr (4, [.ref n0, .ref n1, .ref n2, .int (nI cd), .int (nI dt), .ref e0, .ref e1, .int (nI rt), .ref e2, .ref e3, .ref e4, .int (nI sz9), .int (nI at9), .int (nI fl), .int pl, .int (nI (q + 1)), .ref e5])), (e4, .inl (cI, 400, .inl (aN (nup f q (if dr (42 * k + j) < 10 then 48 + dr (42 * k + j) else 55 + dr (42 * k + j)))))), (e5, .inl (cI, 4, .inl (aN (ds fw 0 3 n))))] H := hP
                have hD : va_D A [(n2, .inl (cI, 16, .inl (aN fFO))), (e0, .inl (cI, 672, .inl (aN dr))), (m0, .inr (4, [.ref n0, .ref n1, .ref n2, .int (nI cd), .int (nI dt), .ref e0, .ref e1, .int (nI rt), .ref e2, .ref e3, .ref e4, .int (nI sz9), .int (nI at9), .int (nI fl), .int pl, .int (nI (q + 1)), .ref e5])), (e4, .inl (cI, 400, .inl (aN (nup f q (if dr (42 * k + j) < 10 then 48 + dr (42 * k + j) else 55 + dr (42 * k + j)))))), (e5, .inl (cI, 4, .inl (aN (ds fw 0 3 n))))] := hD
                refine lv_iinc (v := nI (j + 1)) (lv' := [(5, .int (nI (j + 1))), (6, .int (nI (dr ((42 * k) + j)))), (0, .ref m0), (1, .int (nI k)), (2, .ref e0), (3, .int (nI n)), (4, .ref e4)]) hx hb dM_writeField_134 hl (k := 6) rfl (zi_incr j 1) (by decide) rfl (fun ls hl => ?_)
                refine lv_goto (tgt := 80) hx hb dM_writeField_137 (by decide) ?_
                exact ih80 (j + 1) (q + 1) (nup f q (if dr (42 * k + j) < 10 then 48 + dr (42 * k + j) else 55 + dr (42 * k + j))) (by omega) (by omega) (by have h9 := hi; rw [show n - j = n - (j + 1) + 1 by omega] at h9; exact h9) (by omega) _ _ _ (lv_sub hl [2, 3, 4, 5, 6, 0] rfl) (hP.sub [0, 1, 2, 3, 4] rfl) (hD.sub [0, 1, 2, 3, 4] (by decide) rfl) hS
        exact lp_80 ((n - 0) + 1) 0 Q9 T9 (by omega) (by omega) rfl (Nat.lt_succ_self _) _ _ _ (lv_sub hl [1, 2, 3, 4, 5, 0] rfl) (hP.sub [0, 1, 2, 3, 4] rfl) (hD.sub [0, 1, 2, 3, 4] (by decide) rfl) hS
      · refine lv_aload_n hx hb dM_writeField_64 rfl (lv_at hl 1 rfl) ?_
        refine lv_aload hx hb dM_writeField_65 (lv_at hl 5 rfl) ?_
        refine lv_aload_n hx hb dM_writeField_67 rfl (lv_at hl 3 rfl) ?_
        refine lv_bipush (v := nI 42) hx hb dM_writeField_68 (by decide) ?_
        refine lv_iload_n hx hb dM_writeField_70 rfl (lv_at hl 2 rfl) ?_
        refine zi_mul hx hb dM_writeField_71 ?_
        refine lv_iload_n hx hb dM_writeField_72 rfl (lv_at hl 4 rfl) ?_
        have hPc := hP.sub (ws' := [(m0, .inr (4, [.ref n0, .ref n1, .ref n2, .int (nI cd), .int (nI dt), .ref e0, .ref e1, .int (nI rt), .ref e2, .ref e3, .ref e4, .int (nI sz9), .int (nI at9), .int (nI fl), .int pl, .int (nI (wr + (anb n (fCD k)).length)), .ref e5])), (e4, .inl (cI, 400, .inl (aN (apl tp wr (anb n (fCD k)))))), (e0, .inl (cI, 672, .inl (aN dr)))]) [2, 3, 1] rfl
        have hDc := hD.sub (ws' := [(m0, .inr (4, [.ref n0, .ref n1, .ref n2, .int (nI cd), .int (nI dt), .ref e0, .ref e1, .int (nI rt), .ref e2, .ref e3, .ref e4, .int (nI sz9), .int (nI at9), .int (nI fl), .int pl, .int (nI (wr + (anb n (fCD k)).length)), .ref e5])), (e4, .inl (cI, 400, .inl (aN (apl tp wr (anb n (fCD k)))))), (e0, .inl (cI, 672, .inl (aN dr)))]) [2, 3, 1] (by decide) rfl
        have hFc := va_free (wc := [(m0, .inr (4, [.ref n0, .ref n1, .ref n2, .int (nI cd), .int (nI dt), .ref e0, .ref e1, .int (nI rt), .ref e2, .ref e3, .ref e4, .int (nI sz9), .int (nI at9), .int (nI fl), .int pl, .int (nI (wr + (anb n (fCD k)).length)), .ref e5])), (e4, .inl (cI, 400, .inl (aN (apl tp wr (anb n (fCD k)))))), (e0, .inl (cI, 672, .inl (aN dr)))]) hD hS hA [2, 3, 1] rfl
        refine zc_Mv (va_runV (As := [.ref e4, .ref e0, .int (nI (42 * k)), .int (nI n)]) (rest := []) ⟨hx, hb, hml, hown, hw⟩ (c_M_pack l dC dI m0 n0 n1 n2 cd dt e0 e1 rt e2 e3 e4 sz9 at9 fl pl (wr + (anb n (fCD k)).length) e5 cI cB e0 672 dr (apl tp wr (anb n (fCD k))) (42 * k) n (by omega) (by omega) (by omega) H.size) (cwV 4 hw (gV w_ml_M_87 w_im_M_pack w_se_M_pack w_in_M w_co_M_pack) rfl rfl rfl (by decide +kernel) ⟨Nat.le_of_ble_eq_true rfl, Nat.le_of_ble_eq_true rfl⟩) (zM_V hG hS hFc hPc hDc hK 0 rfl rfl) rfl rfl hl.1 rfl (lv_room (Nat.le_of_ble_eq_true rfl)) dM_writeField_73 ⟨Nat.le_of_ble_eq_true rfl, Nat.le_of_ble_eq_true rfl⟩) hS hFc (fun H locs h_73 hP1 hD1 hk1 hS => ?_)
        obtain ⟨hP, hD⟩ := va_join (wr := [(n2, .inl (cI, 16, .inl (aN fFO))), (e5, .inl (cI, 4, .inl (aN (ds fw 0 3 n))))]) (w1 := [(m0, .inr (4, [.ref n0, .ref n1, .ref n2, .int (nI cd), .int (nI dt), .ref e0, .ref e1, .int (nI rt), .ref e2, .ref e3, .ref e4, .int (nI sz9), .int (nI at9), .int (nI fl), .int pl, .int (nI ((wr + (anb n (fCD k)).length) + (dgB dr (42 * k) n).length)), .ref e5])), (e4, .inl (cI, 400, .inl (aN (apl (apl tp wr (anb n (fCD k))) (wr + (anb n (fCD k)).length) (dgB dr (42 * k) n))))), (e0, .inl (cI, 672, .inl (aN dr)))]) hP hD [2, 3, 1] [0, 4] rfl rfl (by decide) (by decide) hk1 hFc hP1 hD1
        have hP : va_P (dC, dI) vwCl [(n2, .inl (cI, 16, .inl (aN fFO))), (e5, .inl (cI, 4, .inl (aN (ds fw 0 3 n)))), (m0, .inr (4, [.ref n0, .ref n1, .ref n2, .int (nI cd), .int (nI dt), .ref e0, .ref e1, .int (nI rt), .ref e2, .ref e3, .ref e4, .int (nI sz9), .int (nI at9), .int (nI fl), .int pl, .int (nI ((wr + (anb n (fCD k)).length) + (dgB dr (42 * k) n).length)), .ref e5])), (e4, .inl (cI, 400, .inl (aN (apl (apl tp wr (anb n (fCD k))) (wr + (anb n (fCD k)).length) (dgB dr (42 * k) n))))), (e0, .inl (cI, 672, .inl (aN dr)))] H := hP
        have hD : va_D A [(n2, .inl (cI, 16, .inl (aN fFO))), (e5, .inl (cI, 4, .inl (aN (ds fw 0 3 n)))), (m0, .inr (4, [.ref n0, .ref n1, .ref n2, .int (nI cd), .int (nI dt), .ref e0, .ref e1, .int (nI rt), .ref e2, .ref e3, .ref e4, .int (nI sz9), .int (nI at9), .int (nI fl), .int pl, .int (nI ((wr + (anb n (fCD k)).length) + (dgB dr (42 * k) n).length)), .ref e5])), (e4, .inl (cI, 400, .inl (aN (apl (apl tp wr (anb n (fCD k))) (wr + (anb n (fCD k)).length) (dgB dr (42 * k) n))))), (e0, .inl (cI, 672, .inl (aN dr)))] := hD
        have e8 : fldM dr k n = anb n (fCD k) ++ dgB dr (42 * k) n := by unfold fldM; rw [if_neg (by omega), if_pos (ho2.mp c_61)]
        rw [e8, apl_app, List.length_append, ← Nat.add_assoc] at hQ
        subst hAe
        subst hQ
        exact W.vret hx hb hr (fun t ht hW => ⟨⟨(ds fw 0 3 n), rfl, trivial, by rw [ht]; exact hP.sub [2, 0, 4, 3, 1] rfl, hD.sub [2, 0, 4, 3, 1] (by decide) rfl⟩, hS.F ht⟩) hS.2.2 dM_writeField_76
    · refine lv_iconst (v := nI 2) hx hb dM_writeField_22 (by decide) ?_
      refine lv_goto (tgt := 27) hx hb dM_writeField_23 (by decide) ?_
      refine lv_istore (lv' := [(5, .int (nI 2)), (0, .ref m0), (1, .int (nI k)), (2, .ref e0), (3, .int (nI n)), (4, .ref e4)]) hx hb dM_writeField_27 hl (by decide) rfl (fun ls hl => ?_)
      refine lv_aload_n hx hb dM_writeField_29 rfl (lv_at hl 1 rfl) ?_
      refine va_get (D := (dC, dI)) (ci := 4) (v := .ref e5) (C := RM) (T := TM) (N := 17) hx hb hw inM hown hK hP 0 rfl rfl 16 (by decide) (hw _ w_fl_M_38) (fun _ h9 => h9) rfl dM_writeField_30 ?_
      refine lv_iconst (v := nI 0) hx hb dM_writeField_33 (by decide) ?_
      refine lv_iload_n hx hb dM_writeField_34 rfl (lv_at hl 4 rfl) ?_
      refine zi_l hx hb (by omega) dM_writeField_35 ?_
      refine lv_iload hx hb dM_writeField_36 (lv_at hl 0 rfl) ?_
      have hPc := hP.sub (ws' := [(e5, .inl (cI, 4, .inl (aN fw)))]) [4] rfl
      have hDc := hD.sub (ws' := [(e5, .inl (cI, 4, .inl (aN fw)))]) [4] (by decide) rfl
      have hFc := va_free (wc := [(e5, .inl (cI, 4, .inl (aN fw)))]) hD hS hA [4] rfl
      refine zc_Mv (va_runS (As := [.ref e5, .int (nI 0), .long (lN n), .int (nI 2)]) (rest := []) ⟨hx, hb, hml, hown, hw⟩ (c_M_setDigits l dC dI e5 cI cB 4 fw 0 n 2 (by omega) (by omega) (by omega) s.heap.size) (va_cwS 4 hw (gSt w_ml_M_62 w_st_M_setDigits w_in_M w_co_M_setDigits) rfl rfl rfl (by decide +kernel) ⟨Nat.le_of_ble_eq_true rfl, Nat.le_of_ble_eq_true rfl⟩) (zM_S hG hS hFc hPc hDc hK) rfl rfl hl.1 rfl (lv_room (Nat.le_of_ble_eq_true rfl)) dM_writeField_38 ⟨Nat.le_of_ble_eq_true rfl, Nat.le_of_ble_eq_true rfl⟩) hS hFc (fun H locs h_38 hP1 hD1 hk1 hS => ?_)
      obtain ⟨hP, hD⟩ := va_join (wr := [(m0, .inr (4, [.ref n0, .ref n1, .ref n2, .int (nI cd), .int (nI dt), .ref e0, .ref e1, .int (nI rt), .ref e2, .ref e3, .ref e4, .int (nI sz9), .int (nI at9), .int (nI fl), .int pl, .int (nI wr), .ref e5])), (n2, .inl (cI, 16, .inl (aN fFO))), (e0, .inl (cI, 672, .inl (aN dr))), (e4, .inl (cI, 400, .inl (aN tp)))]) (w1 := [(e5, .inl (cI, 4, .inl (aN (ds fw 0 2 n))))]) hP hD [4] [0, 1, 2, 3] rfl rfl (by decide) (by decide) hk1 hFc hP1 hD1
      have hP : va_P (dC, dI) vwCl [(m0, .inr (4, [.ref n0, .ref n1, .ref n2, .int (nI cd), .int (nI dt), .ref e0, .ref e1, .int (nI rt), .ref e2, .ref e3, .ref e4, .int (nI sz9), .int (nI at9), .int (nI fl), .int pl, .int (nI wr), .ref e5])), (n2, .inl (cI, 16, .inl (aN fFO))), (e0, .inl (cI, 672, .inl (aN dr))), (e4, .inl (cI, 400, .inl (aN tp))), (e5, .inl (cI, 4, .inl (aN (ds fw 0 2 n))))] H := hP
      have hD : va_D A [(m0, .inr (4, [.ref n0, .ref n1, .ref n2, .int (nI cd), .int (nI dt), .ref e0, .ref e1, .int (nI rt), .ref e2, .ref e3, .ref e4, .int (nI sz9), .int (nI at9), .int (nI fl), .int pl, .int (nI wr), .ref e5])), (n2, .inl (cI, 16, .inl (aN fFO))), (e0, .inl (cI, 672, .inl (aN dr))), (e4, .inl (cI, 400, .inl (aN tp))), (e5, .inl (cI, 4, .inl (aN (ds fw 0 2 n))))] := hD
      refine lv_aload_n hx hb dM_writeField_41 rfl (lv_at hl 1 rfl) ?_
      refine lv_aload hx hb dM_writeField_42 (lv_at hl 5 rfl) ?_
      refine lv_aload_n hx hb dM_writeField_44 rfl (lv_at hl 1 rfl) ?_
      refine va_get (D := (dC, dI)) (ci := 4) (v := .ref e5) (C := RM) (T := TM) (N := 17) hx hb hw inM hown hK hP 0 rfl rfl 16 (by decide) (hw _ w_fl_M_38) (fun _ h9 => h9) rfl dM_writeField_45 ?_
      refine lv_iconst (v := nI 0) hx hb dM_writeField_48 (by decide) ?_
      refine lv_iload hx hb dM_writeField_49 (lv_at hl 0 rfl) ?_
      have hPc := hP.sub (ws' := [(m0, .inr (4, [.ref n0, .ref n1, .ref n2, .int (nI cd), .int (nI dt), .ref e0, .ref e1, .int (nI rt), .ref e2, .ref e3, .ref e4, .int (nI sz9), .int (nI at9), .int (nI fl), .int pl, .int (nI wr), .ref e5])), (e4, .inl (cI, 400, .inl (aN tp))), (e5, .inl (cI, 4, .inl (aN (ds fw 0 2 n))))]) [0, 3, 4] rfl
      have hDc := hD.sub (ws' := [(m0, .inr (4, [.ref n0, .ref n1, .ref n2, .int (nI cd), .int (nI dt), .ref e0, .ref e1, .int (nI rt), .ref e2, .ref e3, .ref e4, .int (nI sz9), .int (nI at9), .int (nI fl), .int pl, .int (nI wr), .ref e5])), (e4, .inl (cI, 400, .inl (aN tp))), (e5, .inl (cI, 4, .inl (aN (ds fw 0 2 n))))]) [0, 3, 4] (by decide) rfl
      have hFc := va_free (wc := [(m0, .inr (4, [.ref n0, .ref n1, .ref n2, .int (nI cd), .int (nI dt), .ref e0, .ref e1, .int (nI rt), .ref e2, .ref e3, .ref e4, .int (nI sz9), .int (nI at9), .int (nI fl), .int pl, .int (nI wr), .ref e5])), (e4, .inl (cI, 400, .inl (aN tp))), (e5, .inl (cI, 4, .inl (aN (ds fw 0 2 n))))]) hD hS hA [0, 3, 4] rfl
      refine zc_Mv (va_runV (As := [.ref e4, .ref e5, .int (nI 0), .int (nI 2)]) (rest := []) ⟨hx, hb, hml, hown, hw⟩ (c_M_pack l dC dI m0 n0 n1 n2 cd dt e0 e1 rt e2 e3 e4 sz9 at9 fl pl wr e5 cI cB e5 4 (ds fw 0 2 n) tp 0 2 (by omega) (by omega) (by omega) H.size) (cwV 4 hw (gV w_ml_M_87 w_im_M_pack w_se_M_pack w_in_M w_co_M_pack) rfl rfl rfl (by decide +kernel) ⟨Nat.le_of_ble_eq_true rfl, Nat.le_of_ble_eq_true rfl⟩) (zM_V hG hS hFc hPc hDc hK 0 rfl rfl) rfl rfl hl.1 rfl (lv_room (Nat.le_of_ble_eq_true rfl)) dM_writeField_51 ⟨Nat.le_of_ble_eq_true rfl, Nat.le_of_ble_eq_true rfl⟩) hS hFc (fun H locs h_51 hP1 hD1 hk1 hS => ?_)
      obtain ⟨hP, hD⟩ := va_join (wr := [(n2, .inl (cI, 16, .inl (aN fFO))), (e0, .inl (cI, 672, .inl (aN dr)))]) (w1 := [(m0, .inr (4, [.ref n0, .ref n1, .ref n2, .int (nI cd), .int (nI dt), .ref e0, .ref e1, .int (nI rt), .ref e2, .ref e3, .ref e4, .int (nI sz9), .int (nI at9), .int (nI fl), .int pl, .int (nI (wr + (dgB (ds fw 0 2 n) 0 2).length)), .ref e5])), (e4, .inl (cI, 400, .inl (aN (apl tp wr (dgB (ds fw 0 2 n) 0 2))))), (e5, .inl (cI, 4, .inl (aN (ds fw 0 2 n))))]) hP hD [0, 3, 4] [1, 2] rfl rfl (by decide) (by decide) hk1 hFc hP1 hD1
      have hP : va_P (dC, dI) vwCl [(n2, .inl (cI, 16, .inl (aN fFO))), (e0, .inl (cI, 672, .inl (aN dr))), (m0, .inr (4, [.ref n0, .ref n1, .ref n2, .int (nI cd), .int (nI dt), .ref e0, .ref e1, .int (nI rt), .ref e2, .ref e3, .ref e4, .int (nI sz9), .int (nI at9), .int (nI fl), .int pl, .int (nI (wr + (dgB (ds fw 0 2 n) 0 2).length)), .ref e5])), (e4, .inl (cI, 400, .inl (aN (apl tp wr (dgB (ds fw 0 2 n) 0 2))))), (e5, .inl (cI, 4, .inl (aN (ds fw 0 2 n))))] H := hP
      have hD : va_D A [(n2, .inl (cI, 16, .inl (aN fFO))), (e0, .inl (cI, 672, .inl (aN dr))), (m0, .inr (4, [.ref n0, .ref n1, .ref n2, .int (nI cd), .int (nI dt), .ref e0, .ref e1, .int (nI rt), .ref e2, .ref e3, .ref e4, .int (nI sz9), .int (nI at9), .int (nI fl), .int pl, .int (nI (wr + (dgB (ds fw 0 2 n) 0 2).length)), .ref e5])), (e4, .inl (cI, 400, .inl (aN (apl tp wr (dgB (ds fw 0 2 n) 0 2))))), (e5, .inl (cI, 4, .inl (aN (ds fw 0 2 n))))] := hD
      have e9 : dgB (ds fw 0 2 n) 0 2 = anb n (fCD k) := by rw [show fCD k = 2 by omega]; exact pk2 fw n
      rw [e9] at hP hD
      have hP : va_P (dC, dI) vwCl [(n2, .inl (cI, 16, .inl (aN fFO))), (e0, .inl (cI, 672, .inl (aN dr))), (m0, .inr (4, [.ref n0, .ref n1, .ref n2, .int (nI cd), .int (nI dt), .ref e0, .ref e1, .int (nI rt), .ref e2, .ref e3, .ref e4, .int (nI sz9), .int (nI at9), .int (nI fl), .int pl, .int (nI (wr + (anb n (fCD k)).length)), .ref e5])), (e4, .inl (cI, 400, .inl (aN (apl tp wr (anb n (fCD k)))))), (e5, .inl (cI, 4, .inl (aN (ds fw 0 2 n))))] H := hP
      have hD : va_D A [(n2, .inl (cI, 16, .inl (aN fFO))), (e0, .inl (cI, 672, .inl (aN dr))), (m0, .inr (4, [.ref n0, .ref n1, .ref n2, .int (nI cd), .int (nI dt), .ref e0, .ref e1, .int (nI rt), .ref e2, .ref e3, .ref e4, .int (nI sz9), .int (nI at9), .int (nI fl), .int pl, .int (nI (wr + (anb n (fCD k)).length)), .ref e5])), (e4, .inl (cI, 400, .inl (aN (apl tp wr (anb n (fCD k)))))), (e5, .inl (cI, 4, .inl (aN (ds fw 0 2 n))))] := hD
      refine lv_aload_n hx hb dM_writeField_54 rfl (lv_at hl 1 rfl) ?_
      refine va_get (D := (dC, dI)) (ci := 4) (v := .ref n2) (C := RM) (T := TM) (N := 17) hx hb hw inM hown hK hP 2 rfl rfl 2 (by decide) (hw _ w_fl_M_16) (fun _ h9 => h9) rfl dM_writeField_55 ?_
      refine lv_iload_n hx hb dM_writeField_58 rfl (lv_at hl 2 rfl) ?_
      refine za_ild hx hb hK hP 0 0 rfl rfl (by omega) (by decide) dM_writeField_59 ?_
      refine lv_iconst (v := nI 2) hx hb dM_writeField_60 (by decide) ?_
      refine zi_ge (tgt := 77) hx hb (by omega) (by omega) dM_writeField_61 (by decide) (fun c_61 => ?_) (fun c_61 => ?_)
      · obtain ⟨T9, hT9⟩ : ∃ T9, T9 = apl tp wr (anb n (fCD k)) := ⟨_, rfl⟩
        obtain ⟨Q9, hQ9⟩ : ∃ Q9, Q9 = wr + (anb n (fCD k)).length := ⟨_, rfl⟩
        have hQb : Q9 ≤ wr + 2 := by omega
        rw [← hT9, ← hQ9] at hP hD
        have hP : va_P (dC, dI) vwCl [(n2, .inl (cI, 16, .inl (aN fFO))), (e0, .inl (cI, 672, .inl (aN dr))), (m0, .inr (4, [.ref n0, .ref n1, .ref n2, .int (nI cd), .int (nI dt), .ref e0, .ref e1, .int (nI rt), .ref e2, .ref e3, .ref e4, .int (nI sz9), .int (nI at9), .int (nI fl), .int pl, .int (nI Q9), .ref e5])), (e4, .inl (cI, 400, .inl (aN T9))), (e5, .inl (cI, 4, .inl (aN (ds fw 0 2 n))))] H := hP
        have hD : va_D A [(n2, .inl (cI, 16, .inl (aN fFO))), (e0, .inl (cI, 672, .inl (aN dr))), (m0, .inr (4, [.ref n0, .ref n1, .ref n2, .int (nI cd), .int (nI dt), .ref e0, .ref e1, .int (nI rt), .ref e2, .ref e3, .ref e4, .int (nI sz9), .int (nI at9), .int (nI fl), .int pl, .int (nI Q9), .ref e5])), (e4, .inl (cI, 400, .inl (aN T9))), (e5, .inl (cI, 4, .inl (aN (ds fw 0 2 n))))] := hD
        refine lv_iconst (v := nI 0) hx hb dM_writeField_77 (by decide) ?_
        refine lv_istore (lv' := [(5, .int (nI 0)), (0, .ref m0), (1, .int (nI k)), (2, .ref e0), (3, .int (nI n)), (4, .ref e4)]) hx hb dM_writeField_78 hl (by decide) rfl (fun ls hl => ?_)
        have lp_80 : ∀ (fu : Nat) (j : Nat) (q : Nat) (f : Nat → Nat) (hj : j ≤ n) (hq : q = Q9 + j) (hi : apl f q (lBM dr (42 * k) (n - j) j) = apl T9 Q9 (lBM dr (42 * k) n 0)) (hms : n - j < fu) (H : Heap) (locs : List Loc) (ls : Array Slot), lv_has ls 7 [(0, .ref m0), (1, .int (nI k)), (2, .ref e0), (3, .int (nI n)), (4, .ref e4), (5, .int (nI j))] → va_P (dC, dI) vwCl [(n2, .inl (cI, 16, .inl (aN fFO))), (e0, .inl (cI, 672, .inl (aN dr))), (m0, .inr (4, [.ref n0, .ref n1, .ref n2, .int (nI cd), .int (nI dt), .ref e0, .ref e1, .int (nI rt), .ref e2, .ref e3, .ref e4, .int (nI sz9), .int (nI at9), .int (nI fl), .int pl, .int (nI q), .ref e5])), (e4, .inl (cI, 400, .inl (aN f))), (e5, .inl (cI, 4, .inl (aN (ds fw 0 2 n))))] H → va_D A [(n2, .inl (cI, 16, .inl (aN fFO))), (e0, .inl (cI, 672, .inl (aN dr))), (m0, .inr (4, [.ref n0, .ref n1, .ref n2, .int (nI cd), .int (nI dt), .ref e0, .ref e1, .int (nI rt), .ref e2, .ref e3, .ref e4, .int (nI sz9), .int (nI at9), .int (nI fl), .int pl, .int (nI q), .ref e5])), (e4, .inl (cI, 400, .inl (aN f))), (e5, .inl (cI, 4, .inl (aN (ds fw 0 2 n))))] → va_S A s.heap H locs → W p l e rm_c_M_writeField s m ([.ref m0, .int (nI k), .ref e0, .int (nI n), .ref e4] : List Value).toArray below meth c H locs 0 0 Q (F0 m 80 ls []) := by
          intro fu
          induction fu with
          | zero => intro j q f hj hq hi hms; exact absurd hms (Nat.not_lt_zero _)
          | succ fu ih80 =>
            intro j q f hj hq hi hms H locs ls hl hP hD hS
            refine lv_iload hx hb dM_writeField_80 (lv_at hl 5 rfl) ?_
            refine lv_iload_n hx hb dM_writeField_82 rfl (lv_at hl 3 rfl) ?_
            refine zi_ge (tgt := 140) hx hb (by omega) (by omega) dM_writeField_83 (by decide) (fun c_83 => ?_) (fun c_83 => ?_)
            · have hi : f = apl T9 Q9 (lBM dr (42 * k) n 0) := by have h9 := hi; rw [show n - j = 0 by omega] at h9; exact h9
              have hq : q = Q9 + (lBM dr (42 * k) n 0).length := by rw [lBM_len]; omega
              subst hi
              subst hq
              subst hT9
              subst hQ9
              have e8 : fldM dr k n = anb n (fCD k) ++ lBM dr (42 * k) n 0 := by unfold fldM; rw [if_neg (by omega), if_neg (fun z => by have := ho2.mpr z; omega)]
              rw [e8, apl_app, List.length_append, ← Nat.add_assoc] at hQ
              subst hAe
              subst hQ
              exact W.vret hx hb hr (fun t ht hW => ⟨⟨(ds fw 0 2 n), rfl, trivial, by rw [ht]; exact hP.sub [2, 0, 1, 3, 4] rfl, hD.sub [2, 0, 1, 3, 4] (by decide) rfl⟩, hS.F ht⟩) hS.2.2 dM_writeField_140
            · refine lv_aload_n hx hb dM_writeField_86 rfl (lv_at hl 2 rfl) ?_
              refine lv_bipush (v := nI 42) hx hb dM_writeField_87 (by decide) ?_
              refine lv_iload_n hx hb dM_writeField_89 rfl (lv_at hl 1 rfl) ?_
              refine zi_mul hx hb dM_writeField_90 ?_
              refine lv_iload hx hb dM_writeField_91 (lv_at hl 5 rfl) ?_
              refine zi_add hx hb dM_writeField_93 ?_
              refine za_ild hx hb hK hP 1 0 rfl rfl (by omega) (by decide) dM_writeField_94 ?_
              refine lv_istore (lv' := [(6, .int (nI (dr ((42 * k) + j)))), (0, .ref m0), (1, .int (nI k)), (2, .ref e0), (3, .int (nI n)), (4, .ref e4), (5, .int (nI j))]) hx hb dM_writeField_95 hl (by decide) rfl (fun ls hl => ?_)
              have hd8 := hd9 (fun z => by have := ho2.mpr z; omega) j (by omega)
              refine lv_aload hx hb dM_writeField_97 (lv_at hl 5 rfl) ?_
              refine lv_aload_n hx hb dM_writeField_99 rfl (lv_at hl 1 rfl) ?_
              refine va_get (D := (dC, dI)) (ci := 4) (v := .int (nI q)) (C := RM) (T := TM) (N := 17) hx hb hw inM hown hK hP 2 rfl rfl 15 (by decide) (hw _ w_fl_M_84) (fun _ h9 => h9) rfl dM_writeField_100 ?_
              refine lv_iload hx hb dM_writeField_103 (lv_at hl 0 rfl) ?_
              refine lv_bipush (v := nI 10) hx hb dM_writeField_105 (by decide) ?_
              refine zi_ge (tgt := 118) hx hb (by omega) (by omega) dM_writeField_107 (by decide) (fun c_107 => ?_) (fun c_107 => ?_)
              · refine lv_bipush (v := nI 55) hx hb dM_writeField_118 (by decide) ?_
                refine lv_iload hx hb dM_writeField_120 (lv_at hl 0 rfl) ?_
                refine zi_add hx hb dM_writeField_122 ?_
                refine zi_v (b := nI (if dr (42 * k + j) < 10 then 48 + dr (42 * k + j) else 55 + dr (42 * k + j))) (by rw [if_neg (by omega)]) ?_
                refine za_ist hx hb hK hP hD hS 3 0 rfl rfl (by omega) (by decide) dM_writeField_123 (fun H locs hP hD hS => ?_)
                have hP : va_P (dC, dI) vwCl [(n2, .inl (cI, 16, .inl (aN fFO))), (e0, .inl (cI, 672, .inl (aN dr))), (m0, .inr (4, [.ref n0, .ref n1, .ref n2, .int (nI cd), .int (nI dt), .ref e0, .ref e1, .int (nI rt), .ref e2, .ref e3, .ref e4, .int (nI sz9), .int (nI at9), .int (nI fl), .int pl, .int (nI q), .ref e5])), (e4, .inl (cI, 400, .inl (aN (nup f q (if dr (42 * k + j) < 10 then 48 + dr (42 * k + j) else 55 + dr (42 * k + j)))))), (e5, .inl (cI, 4, .inl (aN (ds fw 0 2 n))))] H := hP
                have hD : va_D A [(n2, .inl (cI, 16, .inl (aN fFO))), (e0, .inl (cI, 672, .inl (aN dr))), (m0, .inr (4, [.ref n0, .ref n1, .ref n2, .int (nI cd), .int (nI dt), .ref e0, .ref e1, .int (nI rt), .ref e2, .ref e3, .ref e4, .int (nI sz9), .int (nI at9), .int (nI fl), .int pl, .int (nI q), .ref e5])), (e4, .inl (cI, 400, .inl (aN (nup f q (if dr (42 * k + j) < 10 then 48 + dr (42 * k + j) else 55 + dr (42 * k + j)))))), (e5, .inl (cI, 4, .inl (aN (ds fw 0 2 n))))] := hD
                refine lv_aload_n hx hb dM_writeField_124 rfl (lv_at hl 1 rfl) ?_
                refine lv_dup hx hb dM_writeField_125 rfl ?_
                refine va_get (D := (dC, dI)) (ci := 4) (v := .int (nI q)) (C := RM) (T := TM) (N := 17) hx hb hw inM hown hK hP 2 rfl rfl 15 (by decide) (hw _ w_fl_M_84) (fun _ h9 => h9) rfl dM_writeField_126 ?_
                refine lv_iconst (v := nI 1) hx hb dM_writeField_129 (by decide) ?_
                refine zi_add hx hb dM_writeField_130 ?_
                refine va_put (D := (dC, dI)) (ci := 4) (v := .int (nI (q + 1))) (ty := .int) (C := RM) (T := TM) (N := 17) hx hb hw inM tyM tyM_ok nmM hown hK hP hD hS 2 rfl rfl 15 (by decide) (hw _ w_fl_M_84) (fun _ h9 => h9) rfl (by decide +kernel) rfl rfl (Nat.le_of_ble_eq_true rfl) dM_writeField_131 (fun H locs hP hD hS => ?_)
                have hP : va_P (dC, dI) vwCl [(n2, .inl (cI, 16, .inl (aN fFO))), (e0, .inl (cI, 672, .inl (aN dr))), (m0, .inr (4, [.ref n0, .ref n1, .ref n2, .int (nI cd), .int (nI dt), .ref e0, .ref e1, .int (nI rt), .ref e2, .ref e3, .ref e4, .int (nI sz9), .int (nI at9), .int (nI fl), .int pl, .int (nI (q + 1)), .ref e5])), (e4, .inl (cI, 400, .inl (aN (nup f q (if dr (42 * k + j) < 10 then 48 + dr (42 * k + j) else 55 + dr (42 * k + j)))))), (e5, .inl (cI, 4, .inl (aN (ds fw 0 2 n))))] H := hP
                have hD : va_D A [(n2, .inl (cI, 16, .inl (aN fFO))), (e0, .inl (cI, 672, .inl (aN dr))), (m0, .inr (4, [.ref n0, .ref n1, .ref n2, .int (nI cd), .int (nI dt), .ref e0, .ref e1, .int (nI rt), .ref e2, .ref e3, .ref e4, .int (nI sz9), .int (nI at9), .int (nI fl), .int pl, .int (nI (q + 1)), .ref e5])), (e4, .inl (cI, 400, .inl (aN (nup f q (if dr (42 * k + j) < 10 then 48 + dr (42 * k + j) else 55 + dr (42 * k + j)))))), (e5, .inl (cI, 4, .inl (aN (ds fw 0 2 n))))] := hD
                refine lv_iinc (v := nI (j + 1)) (lv' := [(5, .int (nI (j + 1))), (6, .int (nI (dr ((42 * k) + j)))), (0, .ref m0), (1, .int (nI k)), (2, .ref e0), (3, .int (nI n)), (4, .ref e4)]) hx hb dM_writeField_134 hl (k := 6) rfl (zi_incr j 1) (by decide) rfl (fun ls hl => ?_)
                refine lv_goto (tgt := 80) hx hb dM_writeField_137 (by decide) ?_
                exact ih80 (j + 1) (q + 1) (nup f q (if dr (42 * k + j) < 10 then 48 + dr (42 * k + j) else 55 + dr (42 * k + j))) (by omega) (by omega) (by have h9 := hi; rw [show n - j = n - (j + 1) + 1 by omega] at h9; exact h9) (by omega) _ _ _ (lv_sub hl [2, 3, 4, 5, 6, 0] rfl) (hP.sub [0, 1, 2, 3, 4] rfl) (hD.sub [0, 1, 2, 3, 4] (by decide) rfl) hS
              · refine lv_bipush (v := nI 48) hx hb dM_writeField_110 (by decide) ?_
                refine lv_iload hx hb dM_writeField_112 (lv_at hl 0 rfl) ?_
                refine zi_add hx hb dM_writeField_114 ?_
                refine lv_goto (tgt := 123) hx hb dM_writeField_115 (by decide) ?_
                refine zi_v (b := nI (if dr (42 * k + j) < 10 then 48 + dr (42 * k + j) else 55 + dr (42 * k + j))) (by rw [if_pos c_107]) ?_
                refine za_ist hx hb hK hP hD hS 3 0 rfl rfl (by omega) (by decide) dM_writeField_123 (fun H locs hP hD hS => ?_)
                have hP : va_P (dC, dI) vwCl [(n2, .inl (cI, 16, .inl (aN fFO))), (e0, .inl (cI, 672, .inl (aN dr))), (m0, .inr (4, [.ref n0, .ref n1, .ref n2, .int (nI cd), .int (nI dt), .ref e0, .ref e1, .int (nI rt), .ref e2, .ref e3, .ref e4, .int (nI sz9), .int (nI at9), .int (nI fl), .int pl, .int (nI q), .ref e5])), (e4, .inl (cI, 400, .inl (aN (nup f q (if dr (42 * k + j) < 10 then 48 + dr (42 * k + j) else 55 + dr (42 * k + j)))))), (e5, .inl (cI, 4, .inl (aN (ds fw 0 2 n))))] H := hP
                have hD : va_D A [(n2, .inl (cI, 16, .inl (aN fFO))), (e0, .inl (cI, 672, .inl (aN dr))), (m0, .inr (4, [.ref n0, .ref n1, .ref n2, .int (nI cd), .int (nI dt), .ref e0, .ref e1, .int (nI rt), .ref e2, .ref e3, .ref e4, .int (nI sz9), .int (nI at9), .int (nI fl), .int pl, .int (nI q), .ref e5])), (e4, .inl (cI, 400, .inl (aN (nup f q (if dr (42 * k + j) < 10 then 48 + dr (42 * k + j) else 55 + dr (42 * k + j)))))), (e5, .inl (cI, 4, .inl (aN (ds fw 0 2 n))))] := hD
                refine lv_aload_n hx hb dM_writeField_124 rfl (lv_at hl 1 rfl) ?_
                refine lv_dup hx hb dM_writeField_125 rfl ?_
                refine va_get (D := (dC, dI)) (ci := 4) (v := .int (nI q)) (C := RM) (T := TM) (N := 17) hx hb hw inM hown hK hP 2 rfl rfl 15 (by decide) (hw _ w_fl_M_84) (fun _ h9 => h9) rfl dM_writeField_126 ?_
                refine lv_iconst (v := nI 1) hx hb dM_writeField_129 (by decide) ?_
                refine zi_add hx hb dM_writeField_130 ?_
                refine va_put (D := (dC, dI)) (ci := 4) (v := .int (nI (q + 1))) (ty := .int) (C := RM) (T := TM) (N := 17) hx hb hw inM tyM tyM_ok nmM hown hK hP hD hS 2 rfl rfl 15 (by decide) (hw _ w_fl_M_84) (fun _ h9 => h9) rfl (by decide +kernel) rfl rfl (Nat.le_of_ble_eq_true rfl) dM_writeField_131 (fun H locs hP hD hS => ?_)
                have hP : va_P (dC, dI) vwCl [(n2, .inl (cI, 16, .inl (aN fFO))), (e0, .inl (cI, 672, .inl (aN dr))), (m0, .inr (4, [.ref n0, .ref n1, .ref n2, .int (nI cd), .int (nI dt), .ref e0, .ref e1, .int (nI rt), .ref e2, .ref e3, .ref e4, .int (nI sz9), .int (nI at9), .int (nI fl), .int pl, .int (nI (q + 1)), .ref e5])), (e4, .inl (cI, 400, .inl (aN (nup f q (if dr (42 * k + j) < 10 then 48 + dr (42 * k + j) else 55 + dr (42 * k + j)))))), (e5, .inl (cI, 4, .inl (aN (ds fw 0 2 n))))] H := hP
                have hD : va_D A [(n2, .inl (cI, 16, .inl (aN fFO))), (e0, .inl (cI, 672, .inl (aN dr))), (m0, .inr (4, [.ref n0, .ref n1, .ref n2, .int (nI cd), .int (nI dt), .ref e0, .ref e1, .int (nI rt), .ref e2, .ref e3, .ref e4, .int (nI sz9), .int (nI at9), .int (nI fl), .int pl, .int (nI (q + 1)), .ref e5])), (e4, .inl (cI, 400, .inl (aN (nup f q (if dr (42 * k + j) < 10 then 48 + dr (42 * k + j) else 55 + dr (42 * k + j)))))), (e5, .inl (cI, 4, .inl (aN (ds fw 0 2 n))))] := hD
                refine lv_iinc (v := nI (j + 1)) (lv' := [(5, .int (nI (j + 1))), (6, .int (nI (dr ((42 * k) + j)))), (0, .ref m0), (1, .int (nI k)), (2, .ref e0), (3, .int (nI n)), (4, .ref e4)]) hx hb dM_writeField_134 hl (k := 6) rfl (zi_incr j 1) (by decide) rfl (fun ls hl => ?_)
                refine lv_goto (tgt := 80) hx hb dM_writeField_137 (by decide) ?_
                exact ih80 (j + 1) (q + 1) (nup f q (if dr (42 * k + j) < 10 then 48 + dr (42 * k + j) else 55 + dr (42 * k + j))) (by omega) (by omega) (by have h9 := hi; rw [show n - j = n - (j + 1) + 1 by omega] at h9; exact h9) (by omega) _ _ _ (lv_sub hl [2, 3, 4, 5, 6, 0] rfl) (hP.sub [0, 1, 2, 3, 4] rfl) (hD.sub [0, 1, 2, 3, 4] (by decide) rfl) hS
        exact lp_80 ((n - 0) + 1) 0 Q9 T9 (by omega) (by omega) rfl (Nat.lt_succ_self _) _ _ _ (lv_sub hl [1, 2, 3, 4, 5, 0] rfl) (hP.sub [0, 1, 2, 3, 4] rfl) (hD.sub [0, 1, 2, 3, 4] (by decide) rfl) hS
      · refine lv_aload_n hx hb dM_writeField_64 rfl (lv_at hl 1 rfl) ?_
        refine lv_aload hx hb dM_writeField_65 (lv_at hl 5 rfl) ?_
        refine lv_aload_n hx hb dM_writeField_67 rfl (lv_at hl 3 rfl) ?_
        refine lv_bipush (v := nI 42) hx hb dM_writeField_68 (by decide) ?_
        refine lv_iload_n hx hb dM_writeField_70 rfl (lv_at hl 2 rfl) ?_
        refine zi_mul hx hb dM_writeField_71 ?_
        refine lv_iload_n hx hb dM_writeField_72 rfl (lv_at hl 4 rfl) ?_
        have hPc := hP.sub (ws' := [(m0, .inr (4, [.ref n0, .ref n1, .ref n2, .int (nI cd), .int (nI dt), .ref e0, .ref e1, .int (nI rt), .ref e2, .ref e3, .ref e4, .int (nI sz9), .int (nI at9), .int (nI fl), .int pl, .int (nI (wr + (anb n (fCD k)).length)), .ref e5])), (e4, .inl (cI, 400, .inl (aN (apl tp wr (anb n (fCD k)))))), (e0, .inl (cI, 672, .inl (aN dr)))]) [2, 3, 1] rfl
        have hDc := hD.sub (ws' := [(m0, .inr (4, [.ref n0, .ref n1, .ref n2, .int (nI cd), .int (nI dt), .ref e0, .ref e1, .int (nI rt), .ref e2, .ref e3, .ref e4, .int (nI sz9), .int (nI at9), .int (nI fl), .int pl, .int (nI (wr + (anb n (fCD k)).length)), .ref e5])), (e4, .inl (cI, 400, .inl (aN (apl tp wr (anb n (fCD k)))))), (e0, .inl (cI, 672, .inl (aN dr)))]) [2, 3, 1] (by decide) rfl
        have hFc := va_free (wc := [(m0, .inr (4, [.ref n0, .ref n1, .ref n2, .int (nI cd), .int (nI dt), .ref e0, .ref e1, .int (nI rt), .ref e2, .ref e3, .ref e4, .int (nI sz9), .int (nI at9), .int (nI fl), .int pl, .int (nI (wr + (anb n (fCD k)).length)), .ref e5])), (e4, .inl (cI, 400, .inl (aN (apl tp wr (anb n (fCD k)))))), (e0, .inl (cI, 672, .inl (aN dr)))]) hD hS hA [2, 3, 1] rfl
        refine zc_Mv (va_runV (As := [.ref e4, .ref e0, .int (nI (42 * k)), .int (nI n)]) (rest := []) ⟨hx, hb, hml, hown, hw⟩ (c_M_pack l dC dI m0 n0 n1 n2 cd dt e0 e1 rt e2 e3 e4 sz9 at9 fl pl (wr + (anb n (fCD k)).length) e5 cI cB e0 672 dr (apl tp wr (anb n (fCD k))) (42 * k) n (by omega) (by omega) (by omega) H.size) (cwV 4 hw (gV w_ml_M_87 w_im_M_pack w_se_M_pack w_in_M w_co_M_pack) rfl rfl rfl (by decide +kernel) ⟨Nat.le_of_ble_eq_true rfl, Nat.le_of_ble_eq_true rfl⟩) (zM_V hG hS hFc hPc hDc hK 0 rfl rfl) rfl rfl hl.1 rfl (lv_room (Nat.le_of_ble_eq_true rfl)) dM_writeField_73 ⟨Nat.le_of_ble_eq_true rfl, Nat.le_of_ble_eq_true rfl⟩) hS hFc (fun H locs h_73 hP1 hD1 hk1 hS => ?_)
        obtain ⟨hP, hD⟩ := va_join (wr := [(n2, .inl (cI, 16, .inl (aN fFO))), (e5, .inl (cI, 4, .inl (aN (ds fw 0 2 n))))]) (w1 := [(m0, .inr (4, [.ref n0, .ref n1, .ref n2, .int (nI cd), .int (nI dt), .ref e0, .ref e1, .int (nI rt), .ref e2, .ref e3, .ref e4, .int (nI sz9), .int (nI at9), .int (nI fl), .int pl, .int (nI ((wr + (anb n (fCD k)).length) + (dgB dr (42 * k) n).length)), .ref e5])), (e4, .inl (cI, 400, .inl (aN (apl (apl tp wr (anb n (fCD k))) (wr + (anb n (fCD k)).length) (dgB dr (42 * k) n))))), (e0, .inl (cI, 672, .inl (aN dr)))]) hP hD [2, 3, 1] [0, 4] rfl rfl (by decide) (by decide) hk1 hFc hP1 hD1
        have hP : va_P (dC, dI) vwCl [(n2, .inl (cI, 16, .inl (aN fFO))), (e5, .inl (cI, 4, .inl (aN (ds fw 0 2 n)))), (m0, .inr (4, [.ref n0, .ref n1, .ref n2, .int (nI cd), .int (nI dt), .ref e0, .ref e1, .int (nI rt), .ref e2, .ref e3, .ref e4, .int (nI sz9), .int (nI at9), .int (nI fl), .int pl, .int (nI ((wr + (anb n (fCD k)).length) + (dgB dr (42 * k) n).length)), .ref e5])), (e4, .inl (cI, 400, .inl (aN (apl (apl tp wr (anb n (fCD k))) (wr + (anb n (fCD k)).length) (dgB dr (42 * k) n))))), (e0, .inl (cI, 672, .inl (aN dr)))] H := hP
        have hD : va_D A [(n2, .inl (cI, 16, .inl (aN fFO))), (e5, .inl (cI, 4, .inl (aN (ds fw 0 2 n)))), (m0, .inr (4, [.ref n0, .ref n1, .ref n2, .int (nI cd), .int (nI dt), .ref e0, .ref e1, .int (nI rt), .ref e2, .ref e3, .ref e4, .int (nI sz9), .int (nI at9), .int (nI fl), .int pl, .int (nI ((wr + (anb n (fCD k)).length) + (dgB dr (42 * k) n).length)), .ref e5])), (e4, .inl (cI, 400, .inl (aN (apl (apl tp wr (anb n (fCD k))) (wr + (anb n (fCD k)).length) (dgB dr (42 * k) n))))), (e0, .inl (cI, 672, .inl (aN dr)))] := hD
        have e8 : fldM dr k n = anb n (fCD k) ++ dgB dr (42 * k) n := by unfold fldM; rw [if_neg (by omega), if_pos (ho2.mp c_61)]
        rw [e8, apl_app, List.length_append, ← Nat.add_assoc] at hQ
        subst hAe
        subst hQ
        exact W.vret hx hb hr (fun t ht hW => ⟨⟨(ds fw 0 2 n), rfl, trivial, by rw [ht]; exact hP.sub [2, 0, 4, 3, 1] rfl, hD.sub [2, 0, 4, 3, 1] (by decide) rfl⟩, hS.F ht⟩) hS.2.2 dM_writeField_76
def rm_c_fails_1 : Room := ({ frames := 0, cells := 0, slots := 0, locals := 0 } : Room)
set_option maxHeartbeats 4000000 in
set_option maxRecDepth 100000 in
theorem c_fails_1 (l : Launch) (dC : Nat → ClassId) (dI : Nat → Nat → Nat) (m0 : Nat) (n0 : Nat) (n1 : Nat) (n2 : Nat) (cd : Nat) (dt : Nat) (e0 : Nat) (e1 : Nat) (rt : Nat) (e2 : Nat) (e3 : Nat) (e4 : Nat) (sz9 : Nat) (at9 : Nat) (fl : Nat) (pl : Int32) (wr : Nat) (e5 : Nat) (cI : ClassId) (cB : ClassId) (k : Nat) (p9 : Int32) (hfl : fl = 0) (sz : Nat) : Met l yM_fails wsM_fails rm_c_fails_1 (zM (dC, dI) [(cI, .int), (cB, .byte)] [.ref m0, .int (nI k), .int p9] [(m0, .inr (4, [.ref n0, .ref n1, .ref n2, .int (nI cd), .int (nI dt), .ref e0, .ref e1, .int (nI rt), .ref e2, .ref e3, .ref e4, .int (nI sz9), .int (nI at9), .int (nI fl), .int pl, .int (nI wr), .ref e5]))] sz) (zMv (dC, dI) [(m0, .inr (4, [.ref n0, .ref n1, .ref n2, .int (nI cd), .int (nI dt), .ref e0, .ref e1, .int (nI rt), .ref e2, .ref e3, .ref e4, .int (nI sz9), .int (nI at9), .int (nI fl), .int pl, .int (nI wr), .ref e5]))] [(m0, .inr (4, [.ref n0, .ref n1, .ref n2, .int (nI cd), .int (nI dt), .ref e0, .ref e1, .int (nI rt), .ref e2, .ref e3, .ref e4, .int (nI sz9), .int (nI at9), .int (nI k), .int p9, .int (nI wr), .ref e5]))] sz (True)) 0 0 (va_A [(m0, .inr (4, [.ref n0, .ref n1, .ref n2, .int (nI cd), .int (nI dt), .ref e0, .ref e1, .int (nI rt), .ref e2, .ref e3, .ref e4, .int (nI sz9), .int (nI at9), .int (nI fl), .int pl, .int (nI wr), .ref e5]))] sz) := by
  refine Met.ofW (cc := cM_fails) (maxL := 3) (ret := none) (by decide) rfl ?_
  intro p e s m args below meth c s₁ Bd hml hv
  obtain ⟨rfl, hsz, hG, hP, hK, hD0⟩ := hv
  subst hsz
  have hx := Bd.exec
  have hb := Bd.bytes
  have hr := Bd.returns
  have hts := atoms_spec (ws := wsM_fails) Bd.pre
  have hw : ∀ w ∈ BIG, w.before _ s = true := fun w h => hts w (List.mem_cons_of_mem _ h)
  have hown : s.vm.findClass RM = some m.cls := findClass_of_methodNamed Bd.named
  have hlocks := Bd.notSynchronized
  have hD := hD0.self (sz := s.heap.size)
  obtain ⟨A, hAe⟩ : ∃ A, A = va_A [(m0, .inr (4, [.ref n0, .ref n1, .ref n2, .int (nI cd), .int (nI dt), .ref e0, .ref e1, .int (nI rt), .ref e2, .ref e3, .ref e4, .int (nI sz9), .int (nI at9), .int (nI fl), .int pl, .int (nI wr), .ref e5]))] s.heap.size := ⟨_, rfl⟩
  have hA : ∀ q : Nat, s.heap.size ≤ q → A q := fun q h => by rw [hAe]; exact Or.inr h
  rw [← hAe] at hG hD
  have hS : va_S A s.heap s.heap [] := va_S.rf
  have hl := lv_entry ([.ref m0, .int (nI k), .int p9]) (n := 3) (Nat.le_of_ble_eq_true rfl)
  rw [lg_entry_eq]
  generalize (lg_sl ([.ref m0, .int (nI k), .int p9]) ++ List.replicate (3 - (lg_sl ([.ref m0, .int (nI k), .int p9])).length) Slot.unset).toArray = ls at hl ⊢
  have hl : lv_has ls 3 [(0, .ref m0), (1, .int (nI k)), (2, .int p9)] := hl
  refine zq_name (fun Q hQ => ?_)
  change W p l e rm_c_fails_1 s m _ below meth c _ _ _ _ Q _
  refine lv_aload_n hx hb dM_fails_0 rfl (lv_at hl 0 rfl) ?_
  refine va_get (D := (dC, dI)) (ci := 4) (v := .int (nI fl)) (C := RM) (T := TM) (N := 17) hx hb hw inM hown hK hP 0 rfl rfl 13 (by decide) (hw _ w_fl_M_102) (fun _ h9 => h9) rfl dM_fails_1 ?_
  refine zi_ne0 (tgt := 17) hx hb (by omega) dM_fails_4 (by decide) (fun q => False.elim ((q hfl))) (fun c_4 => ?_)
  refine lv_aload_n hx hb dM_fails_7 rfl (lv_at hl 0 rfl) ?_
  refine lv_iload_n hx hb dM_fails_8 rfl (lv_at hl 1 rfl) ?_
  refine va_put (D := (dC, dI)) (ci := 4) (v := .int (nI k)) (ty := .int) (C := RM) (T := TM) (N := 17) hx hb hw inM tyM tyM_ok nmM hown hK hP hD hS 0 rfl rfl 13 (by decide) (hw _ w_fl_M_102) (fun _ h9 => h9) rfl (by decide +kernel) rfl rfl (Nat.le_of_ble_eq_true rfl) dM_fails_9 (fun H locs hP hD hS => ?_)
  have hP : va_P (dC, dI) vwCl [(m0, .inr (4, [.ref n0, .ref n1, .ref n2, .int (nI cd), .int (nI dt), .ref e0, .ref e1, .int (nI rt), .ref e2, .ref e3, .ref e4, .int (nI sz9), .int (nI at9), .int (nI k), .int pl, .int (nI wr), .ref e5]))] H := hP
  have hD : va_D A [(m0, .inr (4, [.ref n0, .ref n1, .ref n2, .int (nI cd), .int (nI dt), .ref e0, .ref e1, .int (nI rt), .ref e2, .ref e3, .ref e4, .int (nI sz9), .int (nI at9), .int (nI k), .int pl, .int (nI wr), .ref e5]))] := hD
  refine lv_aload_n hx hb dM_fails_12 rfl (lv_at hl 0 rfl) ?_
  refine lv_iload_n hx hb dM_fails_13 rfl (lv_at hl 2 rfl) ?_
  refine va_put (D := (dC, dI)) (ci := 4) (v := .int p9) (ty := .int) (C := RM) (T := TM) (N := 17) hx hb hw inM tyM tyM_ok nmM hown hK hP hD hS 0 rfl rfl 14 (by decide) (hw _ w_fl_M_105) (fun _ h9 => h9) rfl (by decide +kernel) rfl rfl (Nat.le_of_ble_eq_true rfl) dM_fails_14 (fun H locs hP hD hS => ?_)
  have hP : va_P (dC, dI) vwCl [(m0, .inr (4, [.ref n0, .ref n1, .ref n2, .int (nI cd), .int (nI dt), .ref e0, .ref e1, .int (nI rt), .ref e2, .ref e3, .ref e4, .int (nI sz9), .int (nI at9), .int (nI k), .int p9, .int (nI wr), .ref e5]))] H := hP
  have hD : va_D A [(m0, .inr (4, [.ref n0, .ref n1, .ref n2, .int (nI cd), .int (nI dt), .ref e0, .ref e1, .int (nI rt), .ref e2, .ref e3, .ref e4, .int (nI sz9), .int (nI at9), .int (nI k), .int p9, .int (nI wr), .ref e5]))] := hD
  subst hAe
  subst hQ
  exact W.vret hx hb hr (fun t ht hW => ⟨⟨(), rfl, trivial, by rw [ht]; exact hP.sub [0] rfl, hD.sub [0] (by decide) rfl⟩, hS.F ht⟩) hS.2.2 dM_fails_17
def rm_c_fails_0 : Room := ({ frames := 0, cells := 0, slots := 0, locals := 0 } : Room)
set_option maxHeartbeats 4000000 in
set_option maxRecDepth 100000 in
theorem c_fails_0 (l : Launch) (dC : Nat → ClassId) (dI : Nat → Nat → Nat) (m0 : Nat) (n0 : Nat) (n1 : Nat) (n2 : Nat) (cd : Nat) (dt : Nat) (e0 : Nat) (e1 : Nat) (rt : Nat) (e2 : Nat) (e3 : Nat) (e4 : Nat) (sz9 : Nat) (at9 : Nat) (fl : Nat) (pl : Int32) (wr : Nat) (e5 : Nat) (cI : ClassId) (cB : ClassId) (k : Nat) (p9 : Int32) (hfl : fl ≠ 0) (hfb : fl < 100) (sz : Nat) : Met l yM_fails wsM_fails rm_c_fails_0 (zM (dC, dI) [(cI, .int), (cB, .byte)] [.ref m0, .int (nI k), .int p9] [(m0, .inr (4, [.ref n0, .ref n1, .ref n2, .int (nI cd), .int (nI dt), .ref e0, .ref e1, .int (nI rt), .ref e2, .ref e3, .ref e4, .int (nI sz9), .int (nI at9), .int (nI fl), .int pl, .int (nI wr), .ref e5]))] sz) (zMv (dC, dI) [(m0, .inr (4, [.ref n0, .ref n1, .ref n2, .int (nI cd), .int (nI dt), .ref e0, .ref e1, .int (nI rt), .ref e2, .ref e3, .ref e4, .int (nI sz9), .int (nI at9), .int (nI fl), .int pl, .int (nI wr), .ref e5]))] [(m0, .inr (4, [.ref n0, .ref n1, .ref n2, .int (nI cd), .int (nI dt), .ref e0, .ref e1, .int (nI rt), .ref e2, .ref e3, .ref e4, .int (nI sz9), .int (nI at9), .int (nI fl), .int pl, .int (nI wr), .ref e5]))] sz (True)) 0 0 (va_A [(m0, .inr (4, [.ref n0, .ref n1, .ref n2, .int (nI cd), .int (nI dt), .ref e0, .ref e1, .int (nI rt), .ref e2, .ref e3, .ref e4, .int (nI sz9), .int (nI at9), .int (nI fl), .int pl, .int (nI wr), .ref e5]))] sz) := by
  refine Met.ofW (cc := cM_fails) (maxL := 3) (ret := none) (by decide) rfl ?_
  intro p e s m args below meth c s₁ Bd hml hv
  obtain ⟨rfl, hsz, hG, hP, hK, hD0⟩ := hv
  subst hsz
  have hx := Bd.exec
  have hb := Bd.bytes
  have hr := Bd.returns
  have hts := atoms_spec (ws := wsM_fails) Bd.pre
  have hw : ∀ w ∈ BIG, w.before _ s = true := fun w h => hts w (List.mem_cons_of_mem _ h)
  have hown : s.vm.findClass RM = some m.cls := findClass_of_methodNamed Bd.named
  have hlocks := Bd.notSynchronized
  have hD := hD0.self (sz := s.heap.size)
  obtain ⟨A, hAe⟩ : ∃ A, A = va_A [(m0, .inr (4, [.ref n0, .ref n1, .ref n2, .int (nI cd), .int (nI dt), .ref e0, .ref e1, .int (nI rt), .ref e2, .ref e3, .ref e4, .int (nI sz9), .int (nI at9), .int (nI fl), .int pl, .int (nI wr), .ref e5]))] s.heap.size := ⟨_, rfl⟩
  have hA : ∀ q : Nat, s.heap.size ≤ q → A q := fun q h => by rw [hAe]; exact Or.inr h
  rw [← hAe] at hG hD
  have hS : va_S A s.heap s.heap [] := va_S.rf
  have hl := lv_entry ([.ref m0, .int (nI k), .int p9]) (n := 3) (Nat.le_of_ble_eq_true rfl)
  rw [lg_entry_eq]
  generalize (lg_sl ([.ref m0, .int (nI k), .int p9]) ++ List.replicate (3 - (lg_sl ([.ref m0, .int (nI k), .int p9])).length) Slot.unset).toArray = ls at hl ⊢
  have hl : lv_has ls 3 [(0, .ref m0), (1, .int (nI k)), (2, .int p9)] := hl
  refine zq_name (fun Q hQ => ?_)
  change W p l e rm_c_fails_0 s m _ below meth c _ _ _ _ Q _
  refine lv_aload_n hx hb dM_fails_0 rfl (lv_at hl 0 rfl) ?_
  refine va_get (D := (dC, dI)) (ci := 4) (v := .int (nI fl)) (C := RM) (T := TM) (N := 17) hx hb hw inM hown hK hP 0 rfl rfl 13 (by decide) (hw _ w_fl_M_102) (fun _ h9 => h9) rfl dM_fails_1 ?_
  refine zi_ne0 (tgt := 17) hx hb (by omega) dM_fails_4 (by decide) (fun c_4 => ?_) (fun q => False.elim ((hfl q)))
  subst hAe
  subst hQ
  exact W.vret hx hb hr (fun t ht hW => ⟨⟨(), rfl, trivial, by rw [ht]; exact hP.sub [0] rfl, hD.sub [0] (by decide) rfl⟩, hS.F ht⟩) hS.2.2 dM_fails_17
def rm_c_takeDigits_ok : Room := ({ frames := 1, cells := 0, slots := 0, locals := 22 } : Room)
set_option maxHeartbeats 4000000 in
set_option maxRecDepth 100000 in
theorem c_takeDigits_ok (l : Launch) (dC : Nat → ClassId) (dI : Nat → Nat → Nat) (m0 : Nat) (n0 : Nat) (n1 : Nat) (n2 : Nat) (cd : Nat) (dt : Nat) (e0 : Nat) (e1 : Nat) (rt : Nat) (e2 : Nat) (e3 : Nat) (e4 : Nat) (sz9 : Nat) (at9 : Nat) (fl : Nat) (pl : Int32) (wr : Nat) (e5 : Nat) (cI : ClassId) (cB : ClassId) (rw : Nat) (N9 : Nat) (r9 : Nat → Nat) (tp : Nat → Nat) (ct : Nat) (fr : Nat) (hsz : sz9 ≤ 400) (hat : at9 ≤ sz9) (htp : ∀ j, tp j < 256) (hN : N9 < 1000) (hb9 : fr + ct ≤ N9) (hc1 : 1 ≤ ct) (hc : ct < 100) (hfl : fl = 0) (hd : dgF tp sz9 at9 ct = none) (sz : Nat) : Met l yM_takeDigits wsM_takeDigits rm_c_takeDigits_ok (zM (dC, dI) [(cI, .int), (cB, .byte)] [.ref m0, .int (nI ct), .ref rw, .int (nI fr)] [(m0, .inr (4, [.ref n0, .ref n1, .ref n2, .int (nI cd), .int (nI dt), .ref e0, .ref e1, .int (nI rt), .ref e2, .ref e3, .ref e4, .int (nI sz9), .int (nI at9), .int (nI fl), .int pl, .int (nI wr), .ref e5])), (e4, .inl (cI, 400, .inl (aN tp))), (rw, .inl (cI, N9, .inl (aN r9)))] sz) (zMv (dC, dI) [(m0, .inr (4, [.ref n0, .ref n1, .ref n2, .int (nI cd), .int (nI dt), .ref e0, .ref e1, .int (nI rt), .ref e2, .ref e3, .ref e4, .int (nI sz9), .int (nI at9), .int (nI fl), .int pl, .int (nI wr), .ref e5])), (e4, .inl (cI, 400, .inl (aN tp))), (rw, .inl (cI, N9, .inl (aN r9)))] [(m0, .inr (4, [.ref n0, .ref n1, .ref n2, .int (nI cd), .int (nI dt), .ref e0, .ref e1, .int (nI rt), .ref e2, .ref e3, .ref e4, .int (nI sz9), .int (nI (at9 + (ct + 1) / 2)), .int (nI fl), .int pl, .int (nI wr), .ref e5])), (e4, .inl (cI, 400, .inl (aN tp))), (rw, .inl (cI, N9, .inl (aN (dgC tp at9 ct fr ct 0 r9))))] sz (True)) 0 0 (va_A [(m0, .inr (4, [.ref n0, .ref n1, .ref n2, .int (nI cd), .int (nI dt), .ref e0, .ref e1, .int (nI rt), .ref e2, .ref e3, .ref e4, .int (nI sz9), .int (nI at9), .int (nI fl), .int pl, .int (nI wr), .ref e5])), (e4, .inl (cI, 400, .inl (aN tp))), (rw, .inl (cI, N9, .inl (aN r9)))] sz) := by
  refine Met.ofW (cc := cM_takeDigits) (maxL := 10) (ret := none) (by decide) rfl ?_
  intro p e s m args below meth c s₁ Bd hml hv
  obtain ⟨rfl, hsz, hG, hP, hK, hD0⟩ := hv
  subst hsz
  have hx := Bd.exec
  have hb := Bd.bytes
  have hr := Bd.returns
  have hts := atoms_spec (ws := wsM_takeDigits) Bd.pre
  have hw : ∀ w ∈ BIG, w.before _ s = true := fun w h => hts w (List.mem_cons_of_mem _ h)
  have hown : s.vm.findClass RM = some m.cls := findClass_of_methodNamed Bd.named
  have hlocks := Bd.notSynchronized
  have hD := hD0.self (sz := s.heap.size)
  obtain ⟨A, hAe⟩ : ∃ A, A = va_A [(m0, .inr (4, [.ref n0, .ref n1, .ref n2, .int (nI cd), .int (nI dt), .ref e0, .ref e1, .int (nI rt), .ref e2, .ref e3, .ref e4, .int (nI sz9), .int (nI at9), .int (nI fl), .int pl, .int (nI wr), .ref e5])), (e4, .inl (cI, 400, .inl (aN tp))), (rw, .inl (cI, N9, .inl (aN r9)))] s.heap.size := ⟨_, rfl⟩
  have hA : ∀ q : Nat, s.heap.size ≤ q → A q := fun q h => by rw [hAe]; exact Or.inr h
  rw [← hAe] at hG hD
  have hS : va_S A s.heap s.heap [] := va_S.rf
  have hl := lv_entry ([.ref m0, .int (nI ct), .ref rw, .int (nI fr)]) (n := 10) (Nat.le_of_ble_eq_true rfl)
  rw [lg_entry_eq]
  generalize (lg_sl ([.ref m0, .int (nI ct), .ref rw, .int (nI fr)]) ++ List.replicate (10 - (lg_sl ([.ref m0, .int (nI ct), .ref rw, .int (nI fr)])).length) Slot.unset).toArray = ls at hl ⊢
  have hl : lv_has ls 10 [(0, .ref m0), (1, .int (nI ct)), (2, .ref rw), (3, .int (nI fr))] := hl
  refine zq_name (fun Q hQ => ?_)
  change W p l e rm_c_takeDigits_ok s m _ below meth c _ _ _ _ Q _
  have hs9 := dgF_fit hd
  have hd := dgF_ok hd
  refine lv_iload_n hx hb dM_takeDigits_0 rfl (lv_at hl 1 rfl) ?_
  refine lv_iconst (v := nI 1) hx hb dM_takeDigits_1 (by decide) ?_
  refine zi_add hx hb dM_takeDigits_2 ?_
  refine lv_iconst (v := nI 2) hx hb dM_takeDigits_3 (by decide) ?_
  refine zi_div hx hb (by omega) (by omega) (by omega) dM_takeDigits_4 ?_
  refine lv_istore (lv' := [(4, .int (nI ((ct + 1) / 2))), (0, .ref m0), (1, .int (nI ct)), (2, .ref rw), (3, .int (nI fr))]) hx hb dM_takeDigits_5 hl (by decide) rfl (fun ls hl => ?_)
  refine lv_aload_n hx hb dM_takeDigits_7 rfl (lv_at hl 1 rfl) ?_
  refine va_get (D := (dC, dI)) (ci := 4) (v := .int (nI at9)) (C := RM) (T := TM) (N := 17) hx hb hw inM hown hK hP 0 rfl rfl 12 (by decide) (hw _ w_fl_M_108) (fun _ h9 => h9) rfl dM_takeDigits_8 ?_
  refine lv_iload hx hb dM_takeDigits_11 (lv_at hl 0 rfl) ?_
  refine zi_add hx hb dM_takeDigits_13 ?_
  refine lv_aload_n hx hb dM_takeDigits_14 rfl (lv_at hl 1 rfl) ?_
  refine va_get (D := (dC, dI)) (ci := 4) (v := .int (nI sz9)) (C := RM) (T := TM) (N := 17) hx hb hw inM hown hK hP 0 rfl rfl 11 (by decide) (hw _ w_fl_M_99) (fun _ h9 => h9) rfl dM_takeDigits_15 ?_
  refine zi_le (tgt := 30) hx hb (by omega) (by omega) dM_takeDigits_18 (by decide) (fun c_18 => ?_) (fun q => False.elim ((by omega)))
  refine lv_iload_n hx hb dM_takeDigits_30 rfl (lv_at hl 2 rfl) ?_
  refine lv_iconst (v := nI 2) hx hb dM_takeDigits_31 (by decide) ?_
  refine zi_rem hx hb (by omega) (by omega) (by omega) dM_takeDigits_32 ?_
  refine lv_istore (lv' := [(5, .int (nI (ct % 2))), (4, .int (nI ((ct + 1) / 2))), (0, .ref m0), (1, .int (nI ct)), (2, .ref rw), (3, .int (nI fr))]) hx hb dM_takeDigits_33 hl (by decide) rfl (fun ls hl => ?_)
  refine lv_iconst (v := nI 0) hx hb dM_takeDigits_35 (by decide) ?_
  refine lv_istore (lv' := [(6, .int (nI 0)), (5, .int (nI (ct % 2))), (4, .int (nI ((ct + 1) / 2))), (0, .ref m0), (1, .int (nI ct)), (2, .ref rw), (3, .int (nI fr))]) hx hb dM_takeDigits_36 hl (by decide) rfl (fun ls hl => ?_)
  have lp_38 : ∀ (fu : Nat) (kb : Nat) (f : Nat → Nat) (hkb : kb ≤ (ct + 1) / 2) (hi : dgL tp at9 (ct % 2) (ct % 2 + ct - 2 * kb) (2 * kb) = none) (hj : dgC tp at9 ct fr (ct - (2 * kb - ct % 2)) (2 * kb - ct % 2) f = dgC tp at9 ct fr ct 0 r9) (hms : (ct + 1) / 2 - kb < fu) (H : Heap) (locs : List Loc) (ls : Array Slot), lv_has ls 10 [(0, .ref m0), (1, .int (nI ct)), (2, .ref rw), (3, .int (nI fr)), (4, .int (nI ((ct + 1) / 2))), (5, .int (nI (ct % 2))), (6, .int (nI kb))] → va_P (dC, dI) vwCl [(m0, .inr (4, [.ref n0, .ref n1, .ref n2, .int (nI cd), .int (nI dt), .ref e0, .ref e1, .int (nI rt), .ref e2, .ref e3, .ref e4, .int (nI sz9), .int (nI (at9 + kb)), .int (nI fl), .int pl, .int (nI wr), .ref e5])), (e4, .inl (cI, 400, .inl (aN tp))), (rw, .inl (cI, N9, .inl (aN f)))] H → va_D A [(m0, .inr (4, [.ref n0, .ref n1, .ref n2, .int (nI cd), .int (nI dt), .ref e0, .ref e1, .int (nI rt), .ref e2, .ref e3, .ref e4, .int (nI sz9), .int (nI (at9 + kb)), .int (nI fl), .int pl, .int (nI wr), .ref e5])), (e4, .inl (cI, 400, .inl (aN tp))), (rw, .inl (cI, N9, .inl (aN f)))] → va_S A s.heap H locs → W p l e rm_c_takeDigits_ok s m ([.ref m0, .int (nI ct), .ref rw, .int (nI fr)] : List Value).toArray below meth c H locs 0 0 Q (F0 m 38 ls []) := by
    intro fu
    induction fu with
    | zero => intro kb f hkb hi hj hms; exact absurd hms (Nat.not_lt_zero _)
    | succ fu ih38 =>
      intro kb f hkb hi hj hms H locs ls hl hP hD hS
      refine lv_iload hx hb dM_takeDigits_38 (lv_at hl 6 rfl) ?_
      refine lv_iload hx hb dM_takeDigits_40 (lv_at hl 4 rfl) ?_
      refine zi_ge (tgt := 183) hx hb (by omega) (by omega) dM_takeDigits_42 (by decide) (fun c_42 => ?_) (fun c_42 => ?_)
      · obtain rfl : kb = (ct + 1) / 2 := by omega
        have hj : f = dgC tp at9 ct fr ct 0 r9 := by have h9 := hj; rw [show ct - (2 * ((ct + 1) / 2) - ct % 2) = 0 by omega] at h9; exact h9
        subst hj
        subst hAe
        subst hQ
        exact W.vret hx hb hr (fun t ht hW => ⟨⟨(), rfl, trivial, by rw [ht]; exact hP.sub [0, 1, 2] rfl, hD.sub [0, 1, 2] (by decide) rfl⟩, hS.F ht⟩) hS.2.2 dM_takeDigits_183
      · refine lv_aload_n hx hb dM_takeDigits_45 rfl (lv_at hl 0 rfl) ?_
        refine va_get (D := (dC, dI)) (ci := 4) (v := .int (nI fl)) (C := RM) (T := TM) (N := 17) hx hb hw inM hown hK hP 0 rfl rfl 13 (by decide) (hw _ w_fl_M_102) (fun _ h9 => h9) rfl dM_takeDigits_46 ?_
        refine zi_ne0 (tgt := 183) hx hb (by omega) dM_takeDigits_49 (by decide) (fun q => False.elim ((q hfl))) (fun c_49 => ?_)
        have ht9 := htp (at9 + kb)
        have hh0 := hf_e tp at9 kb
        have hh1 := hf_o tp at9 kb
        have hi9 := hi
        rw [show ct % 2 + ct - 2 * kb = (ct % 2 + ct - 2 * (kb + 1)) + 2 by omega] at hi9
        obtain ⟨hx1, hx2, hi2⟩ := dgL_two hi9
        rw [hh0] at hx1
        rw [hh1, if_neg (show ¬ 2 * kb + 1 < ct % 2 by omega)] at hx2
        refine lv_aload_n hx hb dM_takeDigits_52 rfl (lv_at hl 0 rfl) ?_
        refine va_get (D := (dC, dI)) (ci := 4) (v := .ref e4) (C := RM) (T := TM) (N := 17) hx hb hw inM hown hK hP 0 rfl rfl 10 (by decide) (hw _ w_fl_M_35) (fun _ h9 => h9) rfl dM_takeDigits_53 ?_
        refine lv_aload_n hx hb dM_takeDigits_56 rfl (lv_at hl 0 rfl) ?_
        refine va_get (D := (dC, dI)) (ci := 4) (v := .int (nI (at9 + kb))) (C := RM) (T := TM) (N := 17) hx hb hw inM hown hK hP 0 rfl rfl 12 (by decide) (hw _ w_fl_M_108) (fun _ h9 => h9) rfl dM_takeDigits_57 ?_
        refine za_ild hx hb hK hP 1 0 rfl rfl (by omega) (by decide) dM_takeDigits_60 ?_
        refine lv_bipush (v := nI 16) hx hb dM_takeDigits_61 (by decide) ?_
        refine zi_div hx hb (by omega) (by omega) (by omega) dM_takeDigits_63 ?_
        refine lv_istore (lv' := [(7, .int (nI ((tp (at9 + kb)) / 16))), (0, .ref m0), (1, .int (nI ct)), (2, .ref rw), (3, .int (nI fr)), (4, .int (nI ((ct + 1) / 2))), (5, .int (nI (ct % 2))), (6, .int (nI kb))]) hx hb dM_takeDigits_64 hl (by decide) rfl (fun ls hl => ?_)
        refine lv_aload_n hx hb dM_takeDigits_66 rfl (lv_at hl 1 rfl) ?_
        refine va_get (D := (dC, dI)) (ci := 4) (v := .ref e4) (C := RM) (T := TM) (N := 17) hx hb hw inM hown hK hP 0 rfl rfl 10 (by decide) (hw _ w_fl_M_35) (fun _ h9 => h9) rfl dM_takeDigits_67 ?_
        refine lv_aload_n hx hb dM_takeDigits_70 rfl (lv_at hl 1 rfl) ?_
        refine va_get (D := (dC, dI)) (ci := 4) (v := .int (nI (at9 + kb))) (C := RM) (T := TM) (N := 17) hx hb hw inM hown hK hP 0 rfl rfl 12 (by decide) (hw _ w_fl_M_108) (fun _ h9 => h9) rfl dM_takeDigits_71 ?_
        refine za_ild hx hb hK hP 1 0 rfl rfl (by omega) (by decide) dM_takeDigits_74 ?_
        refine lv_bipush (v := nI 16) hx hb dM_takeDigits_75 (by decide) ?_
        refine zi_rem hx hb (by omega) (by omega) (by omega) dM_takeDigits_77 ?_
        refine lv_istore (lv' := [(8, .int (nI ((tp (at9 + kb)) % 16))), (7, .int (nI ((tp (at9 + kb)) / 16))), (0, .ref m0), (1, .int (nI ct)), (2, .ref rw), (3, .int (nI fr)), (4, .int (nI ((ct + 1) / 2))), (5, .int (nI (ct % 2))), (6, .int (nI kb))]) hx hb dM_takeDigits_78 hl (by decide) rfl (fun ls hl => ?_)
        refine lv_iload hx hb dM_takeDigits_80 (lv_at hl 7 rfl) ?_
        refine lv_iconst (v := nI 1) hx hb dM_takeDigits_82 (by decide) ?_
        refine zi_ne (tgt := 95) hx hb (by omega) (by omega) dM_takeDigits_83 (by decide) (fun c_83 => ?_) (fun c_83 => ?_)
        · refine lv_iconst (v := nI 0) hx hb dM_takeDigits_95 (by decide) ?_
          refine lv_istore (lv' := [(9, .int (nI 0)), (8, .int (nI ((tp (at9 + kb)) % 16))), (7, .int (nI ((tp (at9 + kb)) / 16))), (0, .ref m0), (1, .int (nI ct)), (2, .ref rw), (3, .int (nI fr)), (4, .int (nI ((ct + 1) / 2))), (5, .int (nI (ct % 2))), (6, .int (nI kb))]) hx hb dM_takeDigits_96 hl (by decide) rfl (fun ls hl => ?_)
          refine lv_iload hx hb dM_takeDigits_98 (lv_at hl 2 rfl) ?_
          refine lv_bipush (v := nI 9) hx hb dM_takeDigits_100 (by decide) ?_
          refine zi_gt (tgt := 122) hx hb (by omega) (by omega) dM_takeDigits_102 (by decide) (fun q => False.elim ((by have h9 := hx1; split at h9 <;> omega))) (fun c_102 => ?_)
          refine lv_iload hx hb dM_takeDigits_105 (lv_at hl 1 rfl) ?_
          refine lv_bipush (v := nI 9) hx hb dM_takeDigits_107 (by decide) ?_
          refine zi_gt (tgt := 122) hx hb (by omega) (by omega) dM_takeDigits_109 (by decide) (fun q => False.elim ((by omega))) (fun c_109 => ?_)
          refine lv_iload hx hb dM_takeDigits_112 (lv_at hl 0 rfl) ?_
          refine lv_if_eq (tgt := 134) hx hb dM_takeDigits_114 (by decide) (fun c_114 => ?_) (fun q => False.elim (absurd q (by decide)))
          refine lv_iload hx hb dM_takeDigits_134 (lv_at hl 0 rfl) ?_
          refine lv_if_ne (tgt := 152) hx hb dM_takeDigits_136 (by decide) (fun q => False.elim (absurd q (by decide))) (fun c_136 => ?_)
          refine lv_aload_n hx hb dM_takeDigits_139 rfl (lv_at hl 5 rfl) ?_
          refine lv_iload_n hx hb dM_takeDigits_140 rfl (lv_at hl 6 rfl) ?_
          refine lv_iconst (v := nI 2) hx hb dM_takeDigits_141 (by decide) ?_
          refine lv_iload hx hb dM_takeDigits_142 (lv_at hl 9 rfl) ?_
          refine zi_mul hx hb dM_takeDigits_144 ?_
          refine zi_add hx hb dM_takeDigits_145 ?_
          refine lv_iload hx hb dM_takeDigits_146 (lv_at hl 8 rfl) ?_
          refine zi_sub hx hb (by omega) dM_takeDigits_148 ?_
          refine lv_iload hx hb dM_takeDigits_149 (lv_at hl 2 rfl) ?_
          refine za_ist hx hb hK hP hD hS 2 0 rfl rfl (by omega) (by omega) dM_takeDigits_151 (fun H locs hP hD hS => ?_)
          have hP : va_P (dC, dI) vwCl [(m0, .inr (4, [.ref n0, .ref n1, .ref n2, .int (nI cd), .int (nI dt), .ref e0, .ref e1, .int (nI rt), .ref e2, .ref e3, .ref e4, .int (nI sz9), .int (nI (at9 + kb)), .int (nI fl), .int pl, .int (nI wr), .ref e5])), (e4, .inl (cI, 400, .inl (aN tp))), (rw, .inl (cI, N9, .inl (aN (nup f ((fr + (2 * kb)) - (ct % 2)) ((tp (at9 + kb)) / 16)))))] H := hP
          have hD : va_D A [(m0, .inr (4, [.ref n0, .ref n1, .ref n2, .int (nI cd), .int (nI dt), .ref e0, .ref e1, .int (nI rt), .ref e2, .ref e3, .ref e4, .int (nI sz9), .int (nI (at9 + kb)), .int (nI fl), .int pl, .int (nI wr), .ref e5])), (e4, .inl (cI, 400, .inl (aN tp))), (rw, .inl (cI, N9, .inl (aN (nup f ((fr + (2 * kb)) - (ct % 2)) ((tp (at9 + kb)) / 16)))))] := hD
          refine lv_aload_n hx hb dM_takeDigits_152 rfl (lv_at hl 5 rfl) ?_
          refine lv_iload_n hx hb dM_takeDigits_153 rfl (lv_at hl 6 rfl) ?_
          refine lv_iconst (v := nI 2) hx hb dM_takeDigits_154 (by decide) ?_
          refine lv_iload hx hb dM_takeDigits_155 (lv_at hl 9 rfl) ?_
          refine zi_mul hx hb dM_takeDigits_157 ?_
          refine zi_add hx hb dM_takeDigits_158 ?_
          refine lv_iconst (v := nI 1) hx hb dM_takeDigits_159 (by decide) ?_
          refine zi_add hx hb dM_takeDigits_160 ?_
          refine lv_iload hx hb dM_takeDigits_161 (lv_at hl 8 rfl) ?_
          refine zi_sub hx hb (by omega) dM_takeDigits_163 ?_
          refine lv_iload hx hb dM_takeDigits_164 (lv_at hl 1 rfl) ?_
          refine za_ist hx hb hK hP hD hS 2 0 rfl rfl (by omega) (by omega) dM_takeDigits_166 (fun H locs hP hD hS => ?_)
          have hP : va_P (dC, dI) vwCl [(m0, .inr (4, [.ref n0, .ref n1, .ref n2, .int (nI cd), .int (nI dt), .ref e0, .ref e1, .int (nI rt), .ref e2, .ref e3, .ref e4, .int (nI sz9), .int (nI (at9 + kb)), .int (nI fl), .int pl, .int (nI wr), .ref e5])), (e4, .inl (cI, 400, .inl (aN tp))), (rw, .inl (cI, N9, .inl (aN (nup (nup f ((fr + (2 * kb)) - (ct % 2)) ((tp (at9 + kb)) / 16)) (((fr + (2 * kb)) + 1) - (ct % 2)) ((tp (at9 + kb)) % 16)))))] H := hP
          have hD : va_D A [(m0, .inr (4, [.ref n0, .ref n1, .ref n2, .int (nI cd), .int (nI dt), .ref e0, .ref e1, .int (nI rt), .ref e2, .ref e3, .ref e4, .int (nI sz9), .int (nI (at9 + kb)), .int (nI fl), .int pl, .int (nI wr), .ref e5])), (e4, .inl (cI, 400, .inl (aN tp))), (rw, .inl (cI, N9, .inl (aN (nup (nup f ((fr + (2 * kb)) - (ct % 2)) ((tp (at9 + kb)) / 16)) (((fr + (2 * kb)) + 1) - (ct % 2)) ((tp (at9 + kb)) % 16)))))] := hD
          refine lv_aload_n hx hb dM_takeDigits_167 rfl (lv_at hl 3 rfl) ?_
          refine lv_dup hx hb dM_takeDigits_168 rfl ?_
          refine va_get (D := (dC, dI)) (ci := 4) (v := .int (nI (at9 + kb))) (C := RM) (T := TM) (N := 17) hx hb hw inM hown hK hP 0 rfl rfl 12 (by decide) (hw _ w_fl_M_108) (fun _ h9 => h9) rfl dM_takeDigits_169 ?_
          refine lv_iconst (v := nI 1) hx hb dM_takeDigits_172 (by decide) ?_
          refine zi_add hx hb dM_takeDigits_173 ?_
          refine va_put (D := (dC, dI)) (ci := 4) (v := .int (nI ((at9 + kb) + 1))) (ty := .int) (C := RM) (T := TM) (N := 17) hx hb hw inM tyM tyM_ok nmM hown hK hP hD hS 0 rfl rfl 12 (by decide) (hw _ w_fl_M_108) (fun _ h9 => h9) rfl (by decide +kernel) rfl rfl (Nat.le_of_ble_eq_true rfl) dM_takeDigits_174 (fun H locs hP hD hS => ?_)
          have hP : va_P (dC, dI) vwCl [(m0, .inr (4, [.ref n0, .ref n1, .ref n2, .int (nI cd), .int (nI dt), .ref e0, .ref e1, .int (nI rt), .ref e2, .ref e3, .ref e4, .int (nI sz9), .int (nI ((at9 + kb) + 1)), .int (nI fl), .int pl, .int (nI wr), .ref e5])), (e4, .inl (cI, 400, .inl (aN tp))), (rw, .inl (cI, N9, .inl (aN (nup (nup f ((fr + (2 * kb)) - (ct % 2)) ((tp (at9 + kb)) / 16)) (((fr + (2 * kb)) + 1) - (ct % 2)) ((tp (at9 + kb)) % 16)))))] H := hP
          have hD : va_D A [(m0, .inr (4, [.ref n0, .ref n1, .ref n2, .int (nI cd), .int (nI dt), .ref e0, .ref e1, .int (nI rt), .ref e2, .ref e3, .ref e4, .int (nI sz9), .int (nI ((at9 + kb) + 1)), .int (nI fl), .int pl, .int (nI wr), .ref e5])), (e4, .inl (cI, 400, .inl (aN tp))), (rw, .inl (cI, N9, .inl (aN (nup (nup f ((fr + (2 * kb)) - (ct % 2)) ((tp (at9 + kb)) / 16)) (((fr + (2 * kb)) + 1) - (ct % 2)) ((tp (at9 + kb)) % 16)))))] := hD
          have hj2 : dgC tp at9 ct fr (ct - (2 * (kb + 1) - ct % 2)) (2 * (kb + 1) - ct % 2) (nup (nup f ((fr + (2 * kb)) - (ct % 2)) ((tp (at9 + kb)) / 16)) (((fr + (2 * kb)) + 1) - (ct % 2)) ((tp (at9 + kb)) % 16)) = dgC tp at9 ct fr ct 0 r9 := by have h9 := hj; rw [dgC_byte f (by omega) (by omega)] at h9; exact h9
          refine lv_iinc (v := nI (kb + 1)) (lv' := [(6, .int (nI (kb + 1))), (9, .int (nI 0)), (8, .int (nI ((tp (at9 + kb)) % 16))), (7, .int (nI ((tp (at9 + kb)) / 16))), (0, .ref m0), (1, .int (nI ct)), (2, .ref rw), (3, .int (nI fr)), (4, .int (nI ((ct + 1) / 2))), (5, .int (nI (ct % 2)))]) hx hb dM_takeDigits_177 hl (k := 9) rfl (zi_incr kb 1) (by decide) rfl (fun ls hl => ?_)
          refine lv_goto (tgt := 38) hx hb dM_takeDigits_180 (by decide) ?_
          exact ih38 (kb + 1) (nup (nup f ((fr + (2 * kb)) - (ct % 2)) ((tp (at9 + kb)) / 16)) (((fr + (2 * kb)) + 1) - (ct % 2)) ((tp (at9 + kb)) % 16)) (by omega) hi2 hj2 (by omega) _ _ _ (lv_sub hl [4, 5, 6, 7, 8, 9, 0] rfl) (hP.sub [0, 1, 2] rfl) (hD.sub [0, 1, 2] (by decide) rfl) hS
        · refine lv_iload hx hb dM_takeDigits_86 (lv_at hl 8 rfl) ?_
          refine zi_ne0 (tgt := 95) hx hb (by omega) dM_takeDigits_88 (by decide) (fun c_88 => ?_) (fun c_88 => ?_)
          · refine lv_iconst (v := nI 0) hx hb dM_takeDigits_95 (by decide) ?_
            refine lv_istore (lv' := [(9, .int (nI 0)), (8, .int (nI ((tp (at9 + kb)) % 16))), (7, .int (nI ((tp (at9 + kb)) / 16))), (0, .ref m0), (1, .int (nI ct)), (2, .ref rw), (3, .int (nI fr)), (4, .int (nI ((ct + 1) / 2))), (5, .int (nI (ct % 2))), (6, .int (nI kb))]) hx hb dM_takeDigits_96 hl (by decide) rfl (fun ls hl => ?_)
            refine lv_iload hx hb dM_takeDigits_98 (lv_at hl 2 rfl) ?_
            refine lv_bipush (v := nI 9) hx hb dM_takeDigits_100 (by decide) ?_
            refine zi_gt (tgt := 122) hx hb (by omega) (by omega) dM_takeDigits_102 (by decide) (fun q => False.elim ((by have h9 := hx1; split at h9 <;> omega))) (fun c_102 => ?_)
            refine lv_iload hx hb dM_takeDigits_105 (lv_at hl 1 rfl) ?_
            refine lv_bipush (v := nI 9) hx hb dM_takeDigits_107 (by decide) ?_
            refine zi_gt (tgt := 122) hx hb (by omega) (by omega) dM_takeDigits_109 (by decide) (fun q => False.elim ((by omega))) (fun c_109 => ?_)
            refine lv_iload hx hb dM_takeDigits_112 (lv_at hl 0 rfl) ?_
            refine lv_if_eq (tgt := 134) hx hb dM_takeDigits_114 (by decide) (fun c_114 => ?_) (fun q => False.elim (absurd q (by decide)))
            refine lv_iload hx hb dM_takeDigits_134 (lv_at hl 0 rfl) ?_
            refine lv_if_ne (tgt := 152) hx hb dM_takeDigits_136 (by decide) (fun q => False.elim (absurd q (by decide))) (fun c_136 => ?_)
            refine lv_aload_n hx hb dM_takeDigits_139 rfl (lv_at hl 5 rfl) ?_
            refine lv_iload_n hx hb dM_takeDigits_140 rfl (lv_at hl 6 rfl) ?_
            refine lv_iconst (v := nI 2) hx hb dM_takeDigits_141 (by decide) ?_
            refine lv_iload hx hb dM_takeDigits_142 (lv_at hl 9 rfl) ?_
            refine zi_mul hx hb dM_takeDigits_144 ?_
            refine zi_add hx hb dM_takeDigits_145 ?_
            refine lv_iload hx hb dM_takeDigits_146 (lv_at hl 8 rfl) ?_
            refine zi_sub hx hb (by omega) dM_takeDigits_148 ?_
            refine lv_iload hx hb dM_takeDigits_149 (lv_at hl 2 rfl) ?_
            refine za_ist hx hb hK hP hD hS 2 0 rfl rfl (by omega) (by omega) dM_takeDigits_151 (fun H locs hP hD hS => ?_)
            have hP : va_P (dC, dI) vwCl [(m0, .inr (4, [.ref n0, .ref n1, .ref n2, .int (nI cd), .int (nI dt), .ref e0, .ref e1, .int (nI rt), .ref e2, .ref e3, .ref e4, .int (nI sz9), .int (nI (at9 + kb)), .int (nI fl), .int pl, .int (nI wr), .ref e5])), (e4, .inl (cI, 400, .inl (aN tp))), (rw, .inl (cI, N9, .inl (aN (nup f ((fr + (2 * kb)) - (ct % 2)) ((tp (at9 + kb)) / 16)))))] H := hP
            have hD : va_D A [(m0, .inr (4, [.ref n0, .ref n1, .ref n2, .int (nI cd), .int (nI dt), .ref e0, .ref e1, .int (nI rt), .ref e2, .ref e3, .ref e4, .int (nI sz9), .int (nI (at9 + kb)), .int (nI fl), .int pl, .int (nI wr), .ref e5])), (e4, .inl (cI, 400, .inl (aN tp))), (rw, .inl (cI, N9, .inl (aN (nup f ((fr + (2 * kb)) - (ct % 2)) ((tp (at9 + kb)) / 16)))))] := hD
            refine lv_aload_n hx hb dM_takeDigits_152 rfl (lv_at hl 5 rfl) ?_
            refine lv_iload_n hx hb dM_takeDigits_153 rfl (lv_at hl 6 rfl) ?_
            refine lv_iconst (v := nI 2) hx hb dM_takeDigits_154 (by decide) ?_
            refine lv_iload hx hb dM_takeDigits_155 (lv_at hl 9 rfl) ?_
            refine zi_mul hx hb dM_takeDigits_157 ?_
            refine zi_add hx hb dM_takeDigits_158 ?_
            refine lv_iconst (v := nI 1) hx hb dM_takeDigits_159 (by decide) ?_
            refine zi_add hx hb dM_takeDigits_160 ?_
            refine lv_iload hx hb dM_takeDigits_161 (lv_at hl 8 rfl) ?_
            refine zi_sub hx hb (by omega) dM_takeDigits_163 ?_
            refine lv_iload hx hb dM_takeDigits_164 (lv_at hl 1 rfl) ?_
            refine za_ist hx hb hK hP hD hS 2 0 rfl rfl (by omega) (by omega) dM_takeDigits_166 (fun H locs hP hD hS => ?_)
            have hP : va_P (dC, dI) vwCl [(m0, .inr (4, [.ref n0, .ref n1, .ref n2, .int (nI cd), .int (nI dt), .ref e0, .ref e1, .int (nI rt), .ref e2, .ref e3, .ref e4, .int (nI sz9), .int (nI (at9 + kb)), .int (nI fl), .int pl, .int (nI wr), .ref e5])), (e4, .inl (cI, 400, .inl (aN tp))), (rw, .inl (cI, N9, .inl (aN (nup (nup f ((fr + (2 * kb)) - (ct % 2)) ((tp (at9 + kb)) / 16)) (((fr + (2 * kb)) + 1) - (ct % 2)) ((tp (at9 + kb)) % 16)))))] H := hP
            have hD : va_D A [(m0, .inr (4, [.ref n0, .ref n1, .ref n2, .int (nI cd), .int (nI dt), .ref e0, .ref e1, .int (nI rt), .ref e2, .ref e3, .ref e4, .int (nI sz9), .int (nI (at9 + kb)), .int (nI fl), .int pl, .int (nI wr), .ref e5])), (e4, .inl (cI, 400, .inl (aN tp))), (rw, .inl (cI, N9, .inl (aN (nup (nup f ((fr + (2 * kb)) - (ct % 2)) ((tp (at9 + kb)) / 16)) (((fr + (2 * kb)) + 1) - (ct % 2)) ((tp (at9 + kb)) % 16)))))] := hD
            refine lv_aload_n hx hb dM_takeDigits_167 rfl (lv_at hl 3 rfl) ?_
            refine lv_dup hx hb dM_takeDigits_168 rfl ?_
            refine va_get (D := (dC, dI)) (ci := 4) (v := .int (nI (at9 + kb))) (C := RM) (T := TM) (N := 17) hx hb hw inM hown hK hP 0 rfl rfl 12 (by decide) (hw _ w_fl_M_108) (fun _ h9 => h9) rfl dM_takeDigits_169 ?_
            refine lv_iconst (v := nI 1) hx hb dM_takeDigits_172 (by decide) ?_
            refine zi_add hx hb dM_takeDigits_173 ?_
            refine va_put (D := (dC, dI)) (ci := 4) (v := .int (nI ((at9 + kb) + 1))) (ty := .int) (C := RM) (T := TM) (N := 17) hx hb hw inM tyM tyM_ok nmM hown hK hP hD hS 0 rfl rfl 12 (by decide) (hw _ w_fl_M_108) (fun _ h9 => h9) rfl (by decide +kernel) rfl rfl (Nat.le_of_ble_eq_true rfl) dM_takeDigits_174 (fun H locs hP hD hS => ?_)
            have hP : va_P (dC, dI) vwCl [(m0, .inr (4, [.ref n0, .ref n1, .ref n2, .int (nI cd), .int (nI dt), .ref e0, .ref e1, .int (nI rt), .ref e2, .ref e3, .ref e4, .int (nI sz9), .int (nI ((at9 + kb) + 1)), .int (nI fl), .int pl, .int (nI wr), .ref e5])), (e4, .inl (cI, 400, .inl (aN tp))), (rw, .inl (cI, N9, .inl (aN (nup (nup f ((fr + (2 * kb)) - (ct % 2)) ((tp (at9 + kb)) / 16)) (((fr + (2 * kb)) + 1) - (ct % 2)) ((tp (at9 + kb)) % 16)))))] H := hP
            have hD : va_D A [(m0, .inr (4, [.ref n0, .ref n1, .ref n2, .int (nI cd), .int (nI dt), .ref e0, .ref e1, .int (nI rt), .ref e2, .ref e3, .ref e4, .int (nI sz9), .int (nI ((at9 + kb) + 1)), .int (nI fl), .int pl, .int (nI wr), .ref e5])), (e4, .inl (cI, 400, .inl (aN tp))), (rw, .inl (cI, N9, .inl (aN (nup (nup f ((fr + (2 * kb)) - (ct % 2)) ((tp (at9 + kb)) / 16)) (((fr + (2 * kb)) + 1) - (ct % 2)) ((tp (at9 + kb)) % 16)))))] := hD
            have hj2 : dgC tp at9 ct fr (ct - (2 * (kb + 1) - ct % 2)) (2 * (kb + 1) - ct % 2) (nup (nup f ((fr + (2 * kb)) - (ct % 2)) ((tp (at9 + kb)) / 16)) (((fr + (2 * kb)) + 1) - (ct % 2)) ((tp (at9 + kb)) % 16)) = dgC tp at9 ct fr ct 0 r9 := by have h9 := hj; rw [dgC_byte f (by omega) (by omega)] at h9; exact h9
            refine lv_iinc (v := nI (kb + 1)) (lv' := [(6, .int (nI (kb + 1))), (9, .int (nI 0)), (8, .int (nI ((tp (at9 + kb)) % 16))), (7, .int (nI ((tp (at9 + kb)) / 16))), (0, .ref m0), (1, .int (nI ct)), (2, .ref rw), (3, .int (nI fr)), (4, .int (nI ((ct + 1) / 2))), (5, .int (nI (ct % 2)))]) hx hb dM_takeDigits_177 hl (k := 9) rfl (zi_incr kb 1) (by decide) rfl (fun ls hl => ?_)
            refine lv_goto (tgt := 38) hx hb dM_takeDigits_180 (by decide) ?_
            exact ih38 (kb + 1) (nup (nup f ((fr + (2 * kb)) - (ct % 2)) ((tp (at9 + kb)) / 16)) (((fr + (2 * kb)) + 1) - (ct % 2)) ((tp (at9 + kb)) % 16)) (by omega) hi2 hj2 (by omega) _ _ _ (lv_sub hl [4, 5, 6, 7, 8, 9, 0] rfl) (hP.sub [0, 1, 2] rfl) (hD.sub [0, 1, 2] (by decide) rfl) hS
          · refine lv_iconst (v := nI 1) hx hb dM_takeDigits_91 (by decide) ?_
            refine lv_goto (tgt := 96) hx hb dM_takeDigits_92 (by decide) ?_
            refine lv_istore (lv' := [(9, .int (nI 1)), (8, .int (nI ((tp (at9 + kb)) % 16))), (7, .int (nI ((tp (at9 + kb)) / 16))), (0, .ref m0), (1, .int (nI ct)), (2, .ref rw), (3, .int (nI fr)), (4, .int (nI ((ct + 1) / 2))), (5, .int (nI (ct % 2))), (6, .int (nI kb))]) hx hb dM_takeDigits_96 hl (by decide) rfl (fun ls hl => ?_)
            refine lv_iload hx hb dM_takeDigits_98 (lv_at hl 2 rfl) ?_
            refine lv_bipush (v := nI 9) hx hb dM_takeDigits_100 (by decide) ?_
            refine zi_gt (tgt := 122) hx hb (by omega) (by omega) dM_takeDigits_102 (by decide) (fun q => False.elim ((by have h9 := hx1; split at h9 <;> omega))) (fun c_102 => ?_)
            refine lv_iload hx hb dM_takeDigits_105 (lv_at hl 1 rfl) ?_
            refine lv_bipush (v := nI 9) hx hb dM_takeDigits_107 (by decide) ?_
            refine zi_gt (tgt := 122) hx hb (by omega) (by omega) dM_takeDigits_109 (by decide) (fun q => False.elim ((by omega))) (fun c_109 => ?_)
            refine lv_iload hx hb dM_takeDigits_112 (lv_at hl 0 rfl) ?_
            refine lv_if_eq (tgt := 134) hx hb dM_takeDigits_114 (by decide) (fun q => False.elim (absurd q (by decide))) (fun c_114 => ?_)
            refine lv_iload hx hb dM_takeDigits_117 (lv_at hl 2 rfl) ?_
            refine zi_le0 (tgt := 134) hx hb (by omega) dM_takeDigits_119 (by decide) (fun c_119 => ?_) (fun q => False.elim ((by rw [if_pos (by omega)] at hx1; omega)))
            refine lv_iload hx hb dM_takeDigits_134 (lv_at hl 0 rfl) ?_
            refine lv_if_ne (tgt := 152) hx hb dM_takeDigits_136 (by decide) (fun c_136 => ?_) (fun q => False.elim (absurd q (by decide)))
            refine lv_aload_n hx hb dM_takeDigits_152 rfl (lv_at hl 5 rfl) ?_
            refine lv_iload_n hx hb dM_takeDigits_153 rfl (lv_at hl 6 rfl) ?_
            refine lv_iconst (v := nI 2) hx hb dM_takeDigits_154 (by decide) ?_
            refine lv_iload hx hb dM_takeDigits_155 (lv_at hl 9 rfl) ?_
            refine zi_mul hx hb dM_takeDigits_157 ?_
            refine zi_add hx hb dM_takeDigits_158 ?_
            refine lv_iconst (v := nI 1) hx hb dM_takeDigits_159 (by decide) ?_
            refine zi_add hx hb dM_takeDigits_160 ?_
            refine lv_iload hx hb dM_takeDigits_161 (lv_at hl 8 rfl) ?_
            refine zi_sub hx hb (by omega) dM_takeDigits_163 ?_
            refine lv_iload hx hb dM_takeDigits_164 (lv_at hl 1 rfl) ?_
            refine za_ist hx hb hK hP hD hS 2 0 rfl rfl (by omega) (by omega) dM_takeDigits_166 (fun H locs hP hD hS => ?_)
            have hP : va_P (dC, dI) vwCl [(m0, .inr (4, [.ref n0, .ref n1, .ref n2, .int (nI cd), .int (nI dt), .ref e0, .ref e1, .int (nI rt), .ref e2, .ref e3, .ref e4, .int (nI sz9), .int (nI (at9 + kb)), .int (nI fl), .int pl, .int (nI wr), .ref e5])), (e4, .inl (cI, 400, .inl (aN tp))), (rw, .inl (cI, N9, .inl (aN (nup f (((fr + (2 * kb)) + 1) - (ct % 2)) ((tp (at9 + kb)) % 16)))))] H := hP
            have hD : va_D A [(m0, .inr (4, [.ref n0, .ref n1, .ref n2, .int (nI cd), .int (nI dt), .ref e0, .ref e1, .int (nI rt), .ref e2, .ref e3, .ref e4, .int (nI sz9), .int (nI (at9 + kb)), .int (nI fl), .int pl, .int (nI wr), .ref e5])), (e4, .inl (cI, 400, .inl (aN tp))), (rw, .inl (cI, N9, .inl (aN (nup f (((fr + (2 * kb)) + 1) - (ct % 2)) ((tp (at9 + kb)) % 16)))))] := hD
            refine lv_aload_n hx hb dM_takeDigits_167 rfl (lv_at hl 3 rfl) ?_
            refine lv_dup hx hb dM_takeDigits_168 rfl ?_
            refine va_get (D := (dC, dI)) (ci := 4) (v := .int (nI (at9 + kb))) (C := RM) (T := TM) (N := 17) hx hb hw inM hown hK hP 0 rfl rfl 12 (by decide) (hw _ w_fl_M_108) (fun _ h9 => h9) rfl dM_takeDigits_169 ?_
            refine lv_iconst (v := nI 1) hx hb dM_takeDigits_172 (by decide) ?_
            refine zi_add hx hb dM_takeDigits_173 ?_
            refine va_put (D := (dC, dI)) (ci := 4) (v := .int (nI ((at9 + kb) + 1))) (ty := .int) (C := RM) (T := TM) (N := 17) hx hb hw inM tyM tyM_ok nmM hown hK hP hD hS 0 rfl rfl 12 (by decide) (hw _ w_fl_M_108) (fun _ h9 => h9) rfl (by decide +kernel) rfl rfl (Nat.le_of_ble_eq_true rfl) dM_takeDigits_174 (fun H locs hP hD hS => ?_)
            have hP : va_P (dC, dI) vwCl [(m0, .inr (4, [.ref n0, .ref n1, .ref n2, .int (nI cd), .int (nI dt), .ref e0, .ref e1, .int (nI rt), .ref e2, .ref e3, .ref e4, .int (nI sz9), .int (nI ((at9 + kb) + 1)), .int (nI fl), .int pl, .int (nI wr), .ref e5])), (e4, .inl (cI, 400, .inl (aN tp))), (rw, .inl (cI, N9, .inl (aN (nup f (((fr + (2 * kb)) + 1) - (ct % 2)) ((tp (at9 + kb)) % 16)))))] H := hP
            have hD : va_D A [(m0, .inr (4, [.ref n0, .ref n1, .ref n2, .int (nI cd), .int (nI dt), .ref e0, .ref e1, .int (nI rt), .ref e2, .ref e3, .ref e4, .int (nI sz9), .int (nI ((at9 + kb) + 1)), .int (nI fl), .int pl, .int (nI wr), .ref e5])), (e4, .inl (cI, 400, .inl (aN tp))), (rw, .inl (cI, N9, .inl (aN (nup f (((fr + (2 * kb)) + 1) - (ct % 2)) ((tp (at9 + kb)) % 16)))))] := hD
            have hj2 : dgC tp at9 ct fr (ct - (2 * (kb + 1) - ct % 2)) (2 * (kb + 1) - ct % 2) (nup f (((fr + (2 * kb)) + 1) - (ct % 2)) ((tp (at9 + kb)) % 16)) = dgC tp at9 ct fr ct 0 r9 := by have h9 := hj; obtain rfl : kb = 0 := (by omega); rw [dgC_front f (by omega)] at h9; exact h9
            refine lv_iinc (v := nI (kb + 1)) (lv' := [(6, .int (nI (kb + 1))), (9, .int (nI 1)), (8, .int (nI ((tp (at9 + kb)) % 16))), (7, .int (nI ((tp (at9 + kb)) / 16))), (0, .ref m0), (1, .int (nI ct)), (2, .ref rw), (3, .int (nI fr)), (4, .int (nI ((ct + 1) / 2))), (5, .int (nI (ct % 2)))]) hx hb dM_takeDigits_177 hl (k := 9) rfl (zi_incr kb 1) (by decide) rfl (fun ls hl => ?_)
            refine lv_goto (tgt := 38) hx hb dM_takeDigits_180 (by decide) ?_
            exact ih38 (kb + 1) (nup f (((fr + (2 * kb)) + 1) - (ct % 2)) ((tp (at9 + kb)) % 16)) (by omega) hi2 hj2 (by omega) _ _ _ (lv_sub hl [4, 5, 6, 7, 8, 9, 0] rfl) (hP.sub [0, 1, 2] rfl) (hD.sub [0, 1, 2] (by decide) rfl) hS
  exact lp_38 (((ct + 1) / 2 - 0) + 1) 0 r9 (by omega) hd (by rw [show 2 * 0 - ct % 2 = 0 by omega]; rfl) (Nat.lt_succ_self _) _ _ _ (lv_sub hl [3, 4, 5, 6, 2, 1, 0] rfl) (hP.sub [0, 1, 2] rfl) (hD.sub [0, 1, 2] (by decide) rfl) hS
def rm_c_takeDigits_no : Room := ({ frames := 1, cells := 0, slots := 0, locals := 22 } : Room)
set_option maxHeartbeats 4000000 in
set_option maxRecDepth 100000 in
theorem c_takeDigits_no (l : Launch) (dC : Nat → ClassId) (dI : Nat → Nat → Nat) (m0 : Nat) (n0 : Nat) (n1 : Nat) (n2 : Nat) (cd : Nat) (dt : Nat) (e0 : Nat) (e1 : Nat) (rt : Nat) (e2 : Nat) (e3 : Nat) (e4 : Nat) (sz9 : Nat) (at9 : Nat) (fl : Nat) (pl : Int32) (wr : Nat) (e5 : Nat) (cI : ClassId) (cB : ClassId) (rw : Nat) (N9 : Nat) (r9 : Nat → Nat) (tp : Nat → Nat) (ct : Nat) (fr : Nat) (k2 : Nat) (p2 : Nat) (hsz : sz9 ≤ 400) (hat : at9 ≤ sz9) (htp : ∀ j, tp j < 256) (hN : N9 < 1000) (hb9 : fr + ct ≤ N9) (hc1 : 1 ≤ ct) (hc : ct < 100) (hfl : fl = 0) (hd : dgF tp sz9 at9 ct = some (k2, p2)) (sz : Nat) : Met l yM_takeDigits wsM_takeDigits rm_c_takeDigits_no (zM (dC, dI) [(cI, .int), (cB, .byte)] [.ref m0, .int (nI ct), .ref rw, .int (nI fr)] [(m0, .inr (4, [.ref n0, .ref n1, .ref n2, .int (nI cd), .int (nI dt), .ref e0, .ref e1, .int (nI rt), .ref e2, .ref e3, .ref e4, .int (nI sz9), .int (nI at9), .int (nI fl), .int pl, .int (nI wr), .ref e5])), (e4, .inl (cI, 400, .inl (aN tp))), (rw, .inl (cI, N9, .inl (aN r9)))] sz) (zSv (dC, dI) [(m0, .inr (4, [.ref n0, .ref n1, .ref n2, .int (nI cd), .int (nI dt), .ref e0, .ref e1, .int (nI rt), .ref e2, .ref e3, .ref e4, .int (nI sz9), .int (nI at9), .int (nI fl), .int pl, .int (nI wr), .ref e5])), (e4, .inl (cI, 400, .inl (aN tp))), (rw, .inl (cI, N9, .inl (aN r9)))] sz (fun (u : Nat × (Nat → Nat)) => True) (fun u => [(m0, .inr (4, [.ref n0, .ref n1, .ref n2, .int (nI cd), .int (nI dt), .ref e0, .ref e1, .int (nI rt), .ref e2, .ref e3, .ref e4, .int (nI sz9), .int (nI u.1), .int (nI k2), .int (nI p2), .int (nI wr), .ref e5])), (e4, .inl (cI, 400, .inl (aN tp))), (rw, .inl (cI, N9, .inl (aN u.2)))])) 0 0 (va_A [(m0, .inr (4, [.ref n0, .ref n1, .ref n2, .int (nI cd), .int (nI dt), .ref e0, .ref e1, .int (nI rt), .ref e2, .ref e3, .ref e4, .int (nI sz9), .int (nI at9), .int (nI fl), .int pl, .int (nI wr), .ref e5])), (e4, .inl (cI, 400, .inl (aN tp))), (rw, .inl (cI, N9, .inl (aN r9)))] sz) := by
  refine Met.ofW (cc := cM_takeDigits) (maxL := 10) (ret := none) (by decide) rfl ?_
  intro p e s m args below meth c s₁ Bd hml hv
  obtain ⟨rfl, hsz, hG, hP, hK, hD0⟩ := hv
  subst hsz
  have hx := Bd.exec
  have hb := Bd.bytes
  have hr := Bd.returns
  have hts := atoms_spec (ws := wsM_takeDigits) Bd.pre
  have hw : ∀ w ∈ BIG, w.before _ s = true := fun w h => hts w (List.mem_cons_of_mem _ h)
  have hown : s.vm.findClass RM = some m.cls := findClass_of_methodNamed Bd.named
  have hlocks := Bd.notSynchronized
  have hD := hD0.self (sz := s.heap.size)
  obtain ⟨A, hAe⟩ : ∃ A, A = va_A [(m0, .inr (4, [.ref n0, .ref n1, .ref n2, .int (nI cd), .int (nI dt), .ref e0, .ref e1, .int (nI rt), .ref e2, .ref e3, .ref e4, .int (nI sz9), .int (nI at9), .int (nI fl), .int pl, .int (nI wr), .ref e5])), (e4, .inl (cI, 400, .inl (aN tp))), (rw, .inl (cI, N9, .inl (aN r9)))] s.heap.size := ⟨_, rfl⟩
  have hA : ∀ q : Nat, s.heap.size ≤ q → A q := fun q h => by rw [hAe]; exact Or.inr h
  rw [← hAe] at hG hD
  have hS : va_S A s.heap s.heap [] := va_S.rf
  have hl := lv_entry ([.ref m0, .int (nI ct), .ref rw, .int (nI fr)]) (n := 10) (Nat.le_of_ble_eq_true rfl)
  rw [lg_entry_eq]
  generalize (lg_sl ([.ref m0, .int (nI ct), .ref rw, .int (nI fr)]) ++ List.replicate (10 - (lg_sl ([.ref m0, .int (nI ct), .ref rw, .int (nI fr)])).length) Slot.unset).toArray = ls at hl ⊢
  have hl : lv_has ls 10 [(0, .ref m0), (1, .int (nI ct)), (2, .ref rw), (3, .int (nI fr))] := hl
  refine zq_name (fun Q hQ => ?_)
  change W p l e rm_c_takeDigits_no s m _ below meth c _ _ _ _ Q _
  by_cases hq : sz9 < at9 + (ct + 1) / 2
  · unfold dgF at hd
    rw [if_pos hq] at hd
    obtain ⟨rfl, rfl⟩ : 1 = k2 ∧ sz9 = p2 := by injection hd with h9; injection h9 with h1 h2; exact ⟨h1, h2⟩
    refine lv_iload_n hx hb dM_takeDigits_0 rfl (lv_at hl 1 rfl) ?_
    refine lv_iconst (v := nI 1) hx hb dM_takeDigits_1 (by decide) ?_
    refine zi_add hx hb dM_takeDigits_2 ?_
    refine lv_iconst (v := nI 2) hx hb dM_takeDigits_3 (by decide) ?_
    refine zi_div hx hb (by omega) (by omega) (by omega) dM_takeDigits_4 ?_
    refine lv_istore (lv' := [(4, .int (nI ((ct + 1) / 2))), (0, .ref m0), (1, .int (nI ct)), (2, .ref rw), (3, .int (nI fr))]) hx hb dM_takeDigits_5 hl (by decide) rfl (fun ls hl => ?_)
    refine lv_aload_n hx hb dM_takeDigits_7 rfl (lv_at hl 1 rfl) ?_
    refine va_get (D := (dC, dI)) (ci := 4) (v := .int (nI at9)) (C := RM) (T := TM) (N := 17) hx hb hw inM hown hK hP 0 rfl rfl 12 (by decide) (hw _ w_fl_M_108) (fun _ h9 => h9) rfl dM_takeDigits_8 ?_
    refine lv_iload hx hb dM_takeDigits_11 (lv_at hl 0 rfl) ?_
    refine zi_add hx hb dM_takeDigits_13 ?_
    refine lv_aload_n hx hb dM_takeDigits_14 rfl (lv_at hl 1 rfl) ?_
    refine va_get (D := (dC, dI)) (ci := 4) (v := .int (nI sz9)) (C := RM) (T := TM) (N := 17) hx hb hw inM hown hK hP 0 rfl rfl 11 (by decide) (hw _ w_fl_M_99) (fun _ h9 => h9) rfl dM_takeDigits_15 ?_
    refine zi_le (tgt := 30) hx hb (by omega) (by omega) dM_takeDigits_18 (by decide) (fun q => False.elim ((by omega))) (fun c_18 => ?_)
    refine lv_aload_n hx hb dM_takeDigits_21 rfl (lv_at hl 1 rfl) ?_
    refine lv_iconst (v := nI 1) hx hb dM_takeDigits_22 (by decide) ?_
    refine lv_aload_n hx hb dM_takeDigits_23 rfl (lv_at hl 1 rfl) ?_
    refine va_get (D := (dC, dI)) (ci := 4) (v := .int (nI sz9)) (C := RM) (T := TM) (N := 17) hx hb hw inM hown hK hP 0 rfl rfl 11 (by decide) (hw _ w_fl_M_99) (fun _ h9 => h9) rfl dM_takeDigits_24 ?_
    have hPc := hP.sub (ws' := [(m0, .inr (4, [.ref n0, .ref n1, .ref n2, .int (nI cd), .int (nI dt), .ref e0, .ref e1, .int (nI rt), .ref e2, .ref e3, .ref e4, .int (nI sz9), .int (nI at9), .int (nI fl), .int pl, .int (nI wr), .ref e5]))]) [0] rfl
    have hDc := hD.sub (ws' := [(m0, .inr (4, [.ref n0, .ref n1, .ref n2, .int (nI cd), .int (nI dt), .ref e0, .ref e1, .int (nI rt), .ref e2, .ref e3, .ref e4, .int (nI sz9), .int (nI at9), .int (nI fl), .int pl, .int (nI wr), .ref e5]))]) [0] (by decide) rfl
    have hFc := va_free (wc := [(m0, .inr (4, [.ref n0, .ref n1, .ref n2, .int (nI cd), .int (nI dt), .ref e0, .ref e1, .int (nI rt), .ref e2, .ref e3, .ref e4, .int (nI sz9), .int (nI at9), .int (nI fl), .int pl, .int (nI wr), .ref e5]))]) hD hS hA [0] rfl
    refine zc_Mv (va_runV (As := [.int (nI 1), .int (nI sz9)]) (rest := []) ⟨hx, hb, hml, hown, hw⟩ (c_fails_1 l dC dI m0 n0 n1 n2 cd dt e0 e1 rt e2 e3 e4 sz9 at9 fl pl wr e5 cI cB 1 (nI sz9) (by omega) s.heap.size) (cwV 2 hw (gV w_ml_M_111 w_im_M_fails w_se_M_fails w_in_M w_co_M_fails) rfl rfl rfl (by decide +kernel) ⟨Nat.le_of_ble_eq_true rfl, Nat.le_of_ble_eq_true rfl⟩) (zM_V hG hS hFc hPc hDc hK 0 rfl rfl) rfl rfl hl.1 rfl (lv_room (Nat.le_of_ble_eq_true rfl)) dM_takeDigits_27 ⟨Nat.le_of_ble_eq_true rfl, Nat.le_of_ble_eq_true rfl⟩) hS hFc (fun H locs h_27 hP1 hD1 hk1 hS => ?_)
    obtain ⟨hP, hD⟩ := va_join (wr := [(e4, .inl (cI, 400, .inl (aN tp))), (rw, .inl (cI, N9, .inl (aN r9)))]) (w1 := [(m0, .inr (4, [.ref n0, .ref n1, .ref n2, .int (nI cd), .int (nI dt), .ref e0, .ref e1, .int (nI rt), .ref e2, .ref e3, .ref e4, .int (nI sz9), .int (nI at9), .int (nI 1), .int (nI sz9), .int (nI wr), .ref e5]))]) hP hD [0] [1, 2] rfl rfl (by decide) (by decide) hk1 hFc hP1 hD1
    have hP : va_P (dC, dI) vwCl [(e4, .inl (cI, 400, .inl (aN tp))), (rw, .inl (cI, N9, .inl (aN r9))), (m0, .inr (4, [.ref n0, .ref n1, .ref n2, .int (nI cd), .int (nI dt), .ref e0, .ref e1, .int (nI rt), .ref e2, .ref e3, .ref e4, .int (nI sz9), .int (nI at9), .int (nI 1), .int (nI sz9), .int (nI wr), .ref e5]))] H := hP
    have hD : va_D A [(e4, .inl (cI, 400, .inl (aN tp))), (rw, .inl (cI, N9, .inl (aN r9))), (m0, .inr (4, [.ref n0, .ref n1, .ref n2, .int (nI cd), .int (nI dt), .ref e0, .ref e1, .int (nI rt), .ref e2, .ref e3, .ref e4, .int (nI sz9), .int (nI at9), .int (nI 1), .int (nI sz9), .int (nI wr), .ref e5]))] := hD
    refine lv_iload_n hx hb dM_takeDigits_30 rfl (lv_at hl 2 rfl) ?_
    refine lv_iconst (v := nI 2) hx hb dM_takeDigits_31 (by decide) ?_
    refine zi_rem hx hb (by omega) (by omega) (by omega) dM_takeDigits_32 ?_
    refine lv_istore (lv' := [(5, .int (nI (ct % 2))), (4, .int (nI ((ct + 1) / 2))), (0, .ref m0), (1, .int (nI ct)), (2, .ref rw), (3, .int (nI fr))]) hx hb dM_takeDigits_33 hl (by decide) rfl (fun ls hl => ?_)
    refine lv_iconst (v := nI 0) hx hb dM_takeDigits_35 (by decide) ?_
    refine lv_istore (lv' := [(6, .int (nI 0)), (5, .int (nI (ct % 2))), (4, .int (nI ((ct + 1) / 2))), (0, .ref m0), (1, .int (nI ct)), (2, .ref rw), (3, .int (nI fr))]) hx hb dM_takeDigits_36 hl (by decide) rfl (fun ls hl => ?_)
    refine lv_iload hx hb dM_takeDigits_38 (lv_at hl 0 rfl) ?_
    refine lv_iload hx hb dM_takeDigits_40 (lv_at hl 2 rfl) ?_
    refine zi_ge (tgt := 183) hx hb (by omega) (by omega) dM_takeDigits_42 (by decide) (fun c_42 => ?_) (fun c_42 => ?_)
    · subst hAe
      subst hQ
      exact W.vret hx hb hr (fun t ht hW => ⟨⟨(at9, r9), rfl, trivial, by rw [ht]; exact hP.sub [2, 0, 1] rfl, hD.sub [2, 0, 1] (by decide) rfl⟩, hS.F ht⟩) hS.2.2 dM_takeDigits_183
    · refine lv_aload_n hx hb dM_takeDigits_45 rfl (lv_at hl 3 rfl) ?_
      refine va_get (D := (dC, dI)) (ci := 4) (v := .int (nI 1)) (C := RM) (T := TM) (N := 17) hx hb hw inM hown hK hP 2 rfl rfl 13 (by decide) (hw _ w_fl_M_102) (fun _ h9 => h9) rfl dM_takeDigits_46 ?_
      refine lv_if_ne (tgt := 183) hx hb dM_takeDigits_49 (by decide) (fun c_49 => ?_) (fun q => False.elim (absurd q (by decide)))
      subst hAe
      subst hQ
      exact W.vret hx hb hr (fun t ht hW => ⟨⟨(at9, r9), rfl, trivial, by rw [ht]; exact hP.sub [2, 0, 1] rfl, hD.sub [2, 0, 1] (by decide) rfl⟩, hS.F ht⟩) hS.2.2 dM_takeDigits_183
  · unfold dgF at hd
    rw [if_neg hq] at hd
    refine lv_iload_n hx hb dM_takeDigits_0 rfl (lv_at hl 1 rfl) ?_
    refine lv_iconst (v := nI 1) hx hb dM_takeDigits_1 (by decide) ?_
    refine zi_add hx hb dM_takeDigits_2 ?_
    refine lv_iconst (v := nI 2) hx hb dM_takeDigits_3 (by decide) ?_
    refine zi_div hx hb (by omega) (by omega) (by omega) dM_takeDigits_4 ?_
    refine lv_istore (lv' := [(4, .int (nI ((ct + 1) / 2))), (0, .ref m0), (1, .int (nI ct)), (2, .ref rw), (3, .int (nI fr))]) hx hb dM_takeDigits_5 hl (by decide) rfl (fun ls hl => ?_)
    refine lv_aload_n hx hb dM_takeDigits_7 rfl (lv_at hl 1 rfl) ?_
    refine va_get (D := (dC, dI)) (ci := 4) (v := .int (nI at9)) (C := RM) (T := TM) (N := 17) hx hb hw inM hown hK hP 0 rfl rfl 12 (by decide) (hw _ w_fl_M_108) (fun _ h9 => h9) rfl dM_takeDigits_8 ?_
    refine lv_iload hx hb dM_takeDigits_11 (lv_at hl 0 rfl) ?_
    refine zi_add hx hb dM_takeDigits_13 ?_
    refine lv_aload_n hx hb dM_takeDigits_14 rfl (lv_at hl 1 rfl) ?_
    refine va_get (D := (dC, dI)) (ci := 4) (v := .int (nI sz9)) (C := RM) (T := TM) (N := 17) hx hb hw inM hown hK hP 0 rfl rfl 11 (by decide) (hw _ w_fl_M_99) (fun _ h9 => h9) rfl dM_takeDigits_15 ?_
    refine zi_le (tgt := 30) hx hb (by omega) (by omega) dM_takeDigits_18 (by decide) (fun c_18 => ?_) (fun q => False.elim ((by omega)))
    refine lv_iload_n hx hb dM_takeDigits_30 rfl (lv_at hl 2 rfl) ?_
    refine lv_iconst (v := nI 2) hx hb dM_takeDigits_31 (by decide) ?_
    refine zi_rem hx hb (by omega) (by omega) (by omega) dM_takeDigits_32 ?_
    refine lv_istore (lv' := [(5, .int (nI (ct % 2))), (4, .int (nI ((ct + 1) / 2))), (0, .ref m0), (1, .int (nI ct)), (2, .ref rw), (3, .int (nI fr))]) hx hb dM_takeDigits_33 hl (by decide) rfl (fun ls hl => ?_)
    refine lv_iconst (v := nI 0) hx hb dM_takeDigits_35 (by decide) ?_
    refine lv_istore (lv' := [(6, .int (nI 0)), (5, .int (nI (ct % 2))), (4, .int (nI ((ct + 1) / 2))), (0, .ref m0), (1, .int (nI ct)), (2, .ref rw), (3, .int (nI fr))]) hx hb dM_takeDigits_36 hl (by decide) rfl (fun ls hl => ?_)
    have lp_38 : ∀ (fu : Nat) (kb : Nat) (f : Nat → Nat) (hkb : kb ≤ (ct + 1) / 2) (hi : dgL tp at9 (ct % 2) (ct % 2 + ct - 2 * kb) (2 * kb) = some (k2, p2)) (hms : (ct + 1) / 2 - kb < fu) (H : Heap) (locs : List Loc) (ls : Array Slot), lv_has ls 10 [(0, .ref m0), (1, .int (nI ct)), (2, .ref rw), (3, .int (nI fr)), (4, .int (nI ((ct + 1) / 2))), (5, .int (nI (ct % 2))), (6, .int (nI kb))] → va_P (dC, dI) vwCl [(m0, .inr (4, [.ref n0, .ref n1, .ref n2, .int (nI cd), .int (nI dt), .ref e0, .ref e1, .int (nI rt), .ref e2, .ref e3, .ref e4, .int (nI sz9), .int (nI (at9 + kb)), .int (nI fl), .int pl, .int (nI wr), .ref e5])), (e4, .inl (cI, 400, .inl (aN tp))), (rw, .inl (cI, N9, .inl (aN f)))] H → va_D A [(m0, .inr (4, [.ref n0, .ref n1, .ref n2, .int (nI cd), .int (nI dt), .ref e0, .ref e1, .int (nI rt), .ref e2, .ref e3, .ref e4, .int (nI sz9), .int (nI (at9 + kb)), .int (nI fl), .int pl, .int (nI wr), .ref e5])), (e4, .inl (cI, 400, .inl (aN tp))), (rw, .inl (cI, N9, .inl (aN f)))] → va_S A s.heap H locs → W p l e rm_c_takeDigits_no s m ([.ref m0, .int (nI ct), .ref rw, .int (nI fr)] : List Value).toArray below meth c H locs 0 0 Q (F0 m 38 ls []) := by
      intro fu
      induction fu with
      | zero => intro kb f hkb hi hms; exact absurd hms (Nat.not_lt_zero _)
      | succ fu ih38 =>
        intro kb f hkb hi hms H locs ls hl hP hD hS
        refine lv_iload hx hb dM_takeDigits_38 (lv_at hl 6 rfl) ?_
        refine lv_iload hx hb dM_takeDigits_40 (lv_at hl 4 rfl) ?_
        refine zi_ge (tgt := 183) hx hb (by omega) (by omega) dM_takeDigits_42 (by decide) (fun q => False.elim ((by have h9 := hi; rw [show ct % 2 + ct - 2 * kb = 0 by omega] at h9; cases h9))) (fun c_42 => ?_)
        refine lv_aload_n hx hb dM_takeDigits_45 rfl (lv_at hl 0 rfl) ?_
        refine va_get (D := (dC, dI)) (ci := 4) (v := .int (nI fl)) (C := RM) (T := TM) (N := 17) hx hb hw inM hown hK hP 0 rfl rfl 13 (by decide) (hw _ w_fl_M_102) (fun _ h9 => h9) rfl dM_takeDigits_46 ?_
        refine zi_ne0 (tgt := 183) hx hb (by omega) dM_takeDigits_49 (by decide) (fun q => False.elim ((q hfl))) (fun c_49 => ?_)
        have ht9 := htp (at9 + kb)
        have hh0 := hf_e tp at9 kb
        have hh1 := hf_o tp at9 kb
        have hi9 := hi
        rw [show ct % 2 + ct - 2 * kb = (ct % 2 + ct - 2 * (kb + 1)) + 2 by omega] at hi9
        rcases dgL_twoN hi9 with ⟨hx1, rfl, hp2⟩ | ⟨hx1, hx2, rfl, hp2⟩ | ⟨hx1, hx2, hi2⟩
        · rw [hh0] at hx1
          obtain rfl : at9 + kb = p2 := by omega
          refine lv_aload_n hx hb dM_takeDigits_52 rfl (lv_at hl 0 rfl) ?_
          refine va_get (D := (dC, dI)) (ci := 4) (v := .ref e4) (C := RM) (T := TM) (N := 17) hx hb hw inM hown hK hP 0 rfl rfl 10 (by decide) (hw _ w_fl_M_35) (fun _ h9 => h9) rfl dM_takeDigits_53 ?_
          refine lv_aload_n hx hb dM_takeDigits_56 rfl (lv_at hl 0 rfl) ?_
          refine va_get (D := (dC, dI)) (ci := 4) (v := .int (nI (at9 + kb))) (C := RM) (T := TM) (N := 17) hx hb hw inM hown hK hP 0 rfl rfl 12 (by decide) (hw _ w_fl_M_108) (fun _ h9 => h9) rfl dM_takeDigits_57 ?_
          refine za_ild hx hb hK hP 1 0 rfl rfl (by omega) (by decide) dM_takeDigits_60 ?_
          refine lv_bipush (v := nI 16) hx hb dM_takeDigits_61 (by decide) ?_
          refine zi_div hx hb (by omega) (by omega) (by omega) dM_takeDigits_63 ?_
          refine lv_istore (lv' := [(7, .int (nI ((tp (at9 + kb)) / 16))), (0, .ref m0), (1, .int (nI ct)), (2, .ref rw), (3, .int (nI fr)), (4, .int (nI ((ct + 1) / 2))), (5, .int (nI (ct % 2))), (6, .int (nI kb))]) hx hb dM_takeDigits_64 hl (by decide) rfl (fun ls hl => ?_)
          refine lv_aload_n hx hb dM_takeDigits_66 rfl (lv_at hl 1 rfl) ?_
          refine va_get (D := (dC, dI)) (ci := 4) (v := .ref e4) (C := RM) (T := TM) (N := 17) hx hb hw inM hown hK hP 0 rfl rfl 10 (by decide) (hw _ w_fl_M_35) (fun _ h9 => h9) rfl dM_takeDigits_67 ?_
          refine lv_aload_n hx hb dM_takeDigits_70 rfl (lv_at hl 1 rfl) ?_
          refine va_get (D := (dC, dI)) (ci := 4) (v := .int (nI (at9 + kb))) (C := RM) (T := TM) (N := 17) hx hb hw inM hown hK hP 0 rfl rfl 12 (by decide) (hw _ w_fl_M_108) (fun _ h9 => h9) rfl dM_takeDigits_71 ?_
          refine za_ild hx hb hK hP 1 0 rfl rfl (by omega) (by decide) dM_takeDigits_74 ?_
          refine lv_bipush (v := nI 16) hx hb dM_takeDigits_75 (by decide) ?_
          refine zi_rem hx hb (by omega) (by omega) (by omega) dM_takeDigits_77 ?_
          refine lv_istore (lv' := [(8, .int (nI ((tp (at9 + kb)) % 16))), (7, .int (nI ((tp (at9 + kb)) / 16))), (0, .ref m0), (1, .int (nI ct)), (2, .ref rw), (3, .int (nI fr)), (4, .int (nI ((ct + 1) / 2))), (5, .int (nI (ct % 2))), (6, .int (nI kb))]) hx hb dM_takeDigits_78 hl (by decide) rfl (fun ls hl => ?_)
          refine lv_iload hx hb dM_takeDigits_80 (lv_at hl 7 rfl) ?_
          refine lv_iconst (v := nI 1) hx hb dM_takeDigits_82 (by decide) ?_
          refine zi_ne (tgt := 95) hx hb (by omega) (by omega) dM_takeDigits_83 (by decide) (fun c_83 => ?_) (fun c_83 => ?_)
          · refine lv_iconst (v := nI 0) hx hb dM_takeDigits_95 (by decide) ?_
            refine lv_istore (lv' := [(9, .int (nI 0)), (8, .int (nI ((tp (at9 + kb)) % 16))), (7, .int (nI ((tp (at9 + kb)) / 16))), (0, .ref m0), (1, .int (nI ct)), (2, .ref rw), (3, .int (nI fr)), (4, .int (nI ((ct + 1) / 2))), (5, .int (nI (ct % 2))), (6, .int (nI kb))]) hx hb dM_takeDigits_96 hl (by decide) rfl (fun ls hl => ?_)
            refine lv_iload hx hb dM_takeDigits_98 (lv_at hl 2 rfl) ?_
            refine lv_bipush (v := nI 9) hx hb dM_takeDigits_100 (by decide) ?_
            refine zi_gt (tgt := 122) hx hb (by omega) (by omega) dM_takeDigits_102 (by decide) (fun c_102 => ?_) (fun c_102 => ?_)
            · refine lv_aload_n hx hb dM_takeDigits_122 rfl (lv_at hl 3 rfl) ?_
              refine lv_iconst (v := nI 2) hx hb dM_takeDigits_123 (by decide) ?_
              refine lv_aload_n hx hb dM_takeDigits_124 rfl (lv_at hl 3 rfl) ?_
              refine va_get (D := (dC, dI)) (ci := 4) (v := .int (nI (at9 + kb))) (C := RM) (T := TM) (N := 17) hx hb hw inM hown hK hP 0 rfl rfl 12 (by decide) (hw _ w_fl_M_108) (fun _ h9 => h9) rfl dM_takeDigits_125 ?_
              have hPc := hP.sub (ws' := [(m0, .inr (4, [.ref n0, .ref n1, .ref n2, .int (nI cd), .int (nI dt), .ref e0, .ref e1, .int (nI rt), .ref e2, .ref e3, .ref e4, .int (nI sz9), .int (nI (at9 + kb)), .int (nI fl), .int pl, .int (nI wr), .ref e5]))]) [0] rfl
              have hDc := hD.sub (ws' := [(m0, .inr (4, [.ref n0, .ref n1, .ref n2, .int (nI cd), .int (nI dt), .ref e0, .ref e1, .int (nI rt), .ref e2, .ref e3, .ref e4, .int (nI sz9), .int (nI (at9 + kb)), .int (nI fl), .int pl, .int (nI wr), .ref e5]))]) [0] (by decide) rfl
              have hFc := va_free (wc := [(m0, .inr (4, [.ref n0, .ref n1, .ref n2, .int (nI cd), .int (nI dt), .ref e0, .ref e1, .int (nI rt), .ref e2, .ref e3, .ref e4, .int (nI sz9), .int (nI (at9 + kb)), .int (nI fl), .int pl, .int (nI wr), .ref e5]))]) hD hS hA [0] rfl
              refine zc_Mv (va_runV (As := [.int (nI 2), .int (nI (at9 + kb))]) (rest := []) ⟨hx, hb, hml, hown, hw⟩ (c_fails_1 l dC dI m0 n0 n1 n2 cd dt e0 e1 rt e2 e3 e4 sz9 (at9 + kb) fl pl wr e5 cI cB 2 (nI (at9 + kb)) (by omega) H.size) (cwV 2 hw (gV w_ml_M_111 w_im_M_fails w_se_M_fails w_in_M w_co_M_fails) rfl rfl rfl (by decide +kernel) ⟨Nat.le_of_ble_eq_true rfl, Nat.le_of_ble_eq_true rfl⟩) (zM_V hG hS hFc hPc hDc hK 0 rfl rfl) rfl rfl hl.1 rfl (lv_room (Nat.le_of_ble_eq_true rfl)) dM_takeDigits_128 ⟨Nat.le_of_ble_eq_true rfl, Nat.le_of_ble_eq_true rfl⟩) hS hFc (fun H locs h_128 hP1 hD1 hk1 hS => ?_)
              obtain ⟨hP, hD⟩ := va_join (wr := [(e4, .inl (cI, 400, .inl (aN tp))), (rw, .inl (cI, N9, .inl (aN f)))]) (w1 := [(m0, .inr (4, [.ref n0, .ref n1, .ref n2, .int (nI cd), .int (nI dt), .ref e0, .ref e1, .int (nI rt), .ref e2, .ref e3, .ref e4, .int (nI sz9), .int (nI (at9 + kb)), .int (nI 2), .int (nI (at9 + kb)), .int (nI wr), .ref e5]))]) hP hD [0] [1, 2] rfl rfl (by decide) (by decide) hk1 hFc hP1 hD1
              have hP : va_P (dC, dI) vwCl [(e4, .inl (cI, 400, .inl (aN tp))), (rw, .inl (cI, N9, .inl (aN f))), (m0, .inr (4, [.ref n0, .ref n1, .ref n2, .int (nI cd), .int (nI dt), .ref e0, .ref e1, .int (nI rt), .ref e2, .ref e3, .ref e4, .int (nI sz9), .int (nI (at9 + kb)), .int (nI 2), .int (nI (at9 + kb)), .int (nI wr), .ref e5]))] H := hP
              have hD : va_D A [(e4, .inl (cI, 400, .inl (aN tp))), (rw, .inl (cI, N9, .inl (aN f))), (m0, .inr (4, [.ref n0, .ref n1, .ref n2, .int (nI cd), .int (nI dt), .ref e0, .ref e1, .int (nI rt), .ref e2, .ref e3, .ref e4, .int (nI sz9), .int (nI (at9 + kb)), .int (nI 2), .int (nI (at9 + kb)), .int (nI wr), .ref e5]))] := hD
              refine lv_goto (tgt := 177) hx hb dM_takeDigits_131 (by decide) ?_
              refine lv_iinc (v := nI (kb + 1)) (lv' := [(6, .int (nI (kb + 1))), (9, .int (nI 0)), (8, .int (nI ((tp (at9 + kb)) % 16))), (7, .int (nI ((tp (at9 + kb)) / 16))), (0, .ref m0), (1, .int (nI ct)), (2, .ref rw), (3, .int (nI fr)), (4, .int (nI ((ct + 1) / 2))), (5, .int (nI (ct % 2)))]) hx hb dM_takeDigits_177 hl (k := 9) rfl (zi_incr kb 1) (by decide) rfl (fun ls hl => ?_)
              refine lv_goto (tgt := 38) hx hb dM_takeDigits_180 (by decide) ?_
              refine lv_iload hx hb dM_takeDigits_38 (lv_at hl 0 rfl) ?_
              refine lv_iload hx hb dM_takeDigits_40 (lv_at hl 8 rfl) ?_
              refine zi_ge (tgt := 183) hx hb (by omega) (by omega) dM_takeDigits_42 (by decide) (fun c_42 => ?_) (fun c_42 => ?_)
              · subst hAe
                subst hQ
                exact W.vret hx hb hr (fun t ht hW => ⟨⟨((at9 + kb), f), rfl, trivial, by rw [ht]; exact hP.sub [2, 0, 1] rfl, hD.sub [2, 0, 1] (by decide) rfl⟩, hS.F ht⟩) hS.2.2 dM_takeDigits_183
              · refine lv_aload_n hx hb dM_takeDigits_45 rfl (lv_at hl 4 rfl) ?_
                refine va_get (D := (dC, dI)) (ci := 4) (v := .int (nI 2)) (C := RM) (T := TM) (N := 17) hx hb hw inM hown hK hP 2 rfl rfl 13 (by decide) (hw _ w_fl_M_102) (fun _ h9 => h9) rfl dM_takeDigits_46 ?_
                refine lv_if_ne (tgt := 183) hx hb dM_takeDigits_49 (by decide) (fun c_49 => ?_) (fun q => False.elim (absurd q (by decide)))
                subst hAe
                subst hQ
                exact W.vret hx hb hr (fun t ht hW => ⟨⟨((at9 + kb), f), rfl, trivial, by rw [ht]; exact hP.sub [2, 0, 1] rfl, hD.sub [2, 0, 1] (by decide) rfl⟩, hS.F ht⟩) hS.2.2 dM_takeDigits_183
            · refine lv_iload hx hb dM_takeDigits_105 (lv_at hl 1 rfl) ?_
              refine lv_bipush (v := nI 9) hx hb dM_takeDigits_107 (by decide) ?_
              refine zi_gt (tgt := 122) hx hb (by omega) (by omega) dM_takeDigits_109 (by decide) (fun c_109 => ?_) (fun c_109 => ?_)
              · refine lv_aload_n hx hb dM_takeDigits_122 rfl (lv_at hl 3 rfl) ?_
                refine lv_iconst (v := nI 2) hx hb dM_takeDigits_123 (by decide) ?_
                refine lv_aload_n hx hb dM_takeDigits_124 rfl (lv_at hl 3 rfl) ?_
                refine va_get (D := (dC, dI)) (ci := 4) (v := .int (nI (at9 + kb))) (C := RM) (T := TM) (N := 17) hx hb hw inM hown hK hP 0 rfl rfl 12 (by decide) (hw _ w_fl_M_108) (fun _ h9 => h9) rfl dM_takeDigits_125 ?_
                have hPc := hP.sub (ws' := [(m0, .inr (4, [.ref n0, .ref n1, .ref n2, .int (nI cd), .int (nI dt), .ref e0, .ref e1, .int (nI rt), .ref e2, .ref e3, .ref e4, .int (nI sz9), .int (nI (at9 + kb)), .int (nI fl), .int pl, .int (nI wr), .ref e5]))]) [0] rfl
                have hDc := hD.sub (ws' := [(m0, .inr (4, [.ref n0, .ref n1, .ref n2, .int (nI cd), .int (nI dt), .ref e0, .ref e1, .int (nI rt), .ref e2, .ref e3, .ref e4, .int (nI sz9), .int (nI (at9 + kb)), .int (nI fl), .int pl, .int (nI wr), .ref e5]))]) [0] (by decide) rfl
                have hFc := va_free (wc := [(m0, .inr (4, [.ref n0, .ref n1, .ref n2, .int (nI cd), .int (nI dt), .ref e0, .ref e1, .int (nI rt), .ref e2, .ref e3, .ref e4, .int (nI sz9), .int (nI (at9 + kb)), .int (nI fl), .int pl, .int (nI wr), .ref e5]))]) hD hS hA [0] rfl
                refine zc_Mv (va_runV (As := [.int (nI 2), .int (nI (at9 + kb))]) (rest := []) ⟨hx, hb, hml, hown, hw⟩ (c_fails_1 l dC dI m0 n0 n1 n2 cd dt e0 e1 rt e2 e3 e4 sz9 (at9 + kb) fl pl wr e5 cI cB 2 (nI (at9 + kb)) (by omega) H.size) (cwV 2 hw (gV w_ml_M_111 w_im_M_fails w_se_M_fails w_in_M w_co_M_fails) rfl rfl rfl (by decide +kernel) ⟨Nat.le_of_ble_eq_true rfl, Nat.le_of_ble_eq_true rfl⟩) (zM_V hG hS hFc hPc hDc hK 0 rfl rfl) rfl rfl hl.1 rfl (lv_room (Nat.le_of_ble_eq_true rfl)) dM_takeDigits_128 ⟨Nat.le_of_ble_eq_true rfl, Nat.le_of_ble_eq_true rfl⟩) hS hFc (fun H locs h_128 hP1 hD1 hk1 hS => ?_)
                obtain ⟨hP, hD⟩ := va_join (wr := [(e4, .inl (cI, 400, .inl (aN tp))), (rw, .inl (cI, N9, .inl (aN f)))]) (w1 := [(m0, .inr (4, [.ref n0, .ref n1, .ref n2, .int (nI cd), .int (nI dt), .ref e0, .ref e1, .int (nI rt), .ref e2, .ref e3, .ref e4, .int (nI sz9), .int (nI (at9 + kb)), .int (nI 2), .int (nI (at9 + kb)), .int (nI wr), .ref e5]))]) hP hD [0] [1, 2] rfl rfl (by decide) (by decide) hk1 hFc hP1 hD1
                have hP : va_P (dC, dI) vwCl [(e4, .inl (cI, 400, .inl (aN tp))), (rw, .inl (cI, N9, .inl (aN f))), (m0, .inr (4, [.ref n0, .ref n1, .ref n2, .int (nI cd), .int (nI dt), .ref e0, .ref e1, .int (nI rt), .ref e2, .ref e3, .ref e4, .int (nI sz9), .int (nI (at9 + kb)), .int (nI 2), .int (nI (at9 + kb)), .int (nI wr), .ref e5]))] H := hP
                have hD : va_D A [(e4, .inl (cI, 400, .inl (aN tp))), (rw, .inl (cI, N9, .inl (aN f))), (m0, .inr (4, [.ref n0, .ref n1, .ref n2, .int (nI cd), .int (nI dt), .ref e0, .ref e1, .int (nI rt), .ref e2, .ref e3, .ref e4, .int (nI sz9), .int (nI (at9 + kb)), .int (nI 2), .int (nI (at9 + kb)), .int (nI wr), .ref e5]))] := hD
                refine lv_goto (tgt := 177) hx hb dM_takeDigits_131 (by decide) ?_
                refine lv_iinc (v := nI (kb + 1)) (lv' := [(6, .int (nI (kb + 1))), (9, .int (nI 0)), (8, .int (nI ((tp (at9 + kb)) % 16))), (7, .int (nI ((tp (at9 + kb)) / 16))), (0, .ref m0), (1, .int (nI ct)), (2, .ref rw), (3, .int (nI fr)), (4, .int (nI ((ct + 1) / 2))), (5, .int (nI (ct % 2)))]) hx hb dM_takeDigits_177 hl (k := 9) rfl (zi_incr kb 1) (by decide) rfl (fun ls hl => ?_)
                refine lv_goto (tgt := 38) hx hb dM_takeDigits_180 (by decide) ?_
                refine lv_iload hx hb dM_takeDigits_38 (lv_at hl 0 rfl) ?_
                refine lv_iload hx hb dM_takeDigits_40 (lv_at hl 8 rfl) ?_
                refine zi_ge (tgt := 183) hx hb (by omega) (by omega) dM_takeDigits_42 (by decide) (fun c_42 => ?_) (fun c_42 => ?_)
                · subst hAe
                  subst hQ
                  exact W.vret hx hb hr (fun t ht hW => ⟨⟨((at9 + kb), f), rfl, trivial, by rw [ht]; exact hP.sub [2, 0, 1] rfl, hD.sub [2, 0, 1] (by decide) rfl⟩, hS.F ht⟩) hS.2.2 dM_takeDigits_183
                · refine lv_aload_n hx hb dM_takeDigits_45 rfl (lv_at hl 4 rfl) ?_
                  refine va_get (D := (dC, dI)) (ci := 4) (v := .int (nI 2)) (C := RM) (T := TM) (N := 17) hx hb hw inM hown hK hP 2 rfl rfl 13 (by decide) (hw _ w_fl_M_102) (fun _ h9 => h9) rfl dM_takeDigits_46 ?_
                  refine lv_if_ne (tgt := 183) hx hb dM_takeDigits_49 (by decide) (fun c_49 => ?_) (fun q => False.elim (absurd q (by decide)))
                  subst hAe
                  subst hQ
                  exact W.vret hx hb hr (fun t ht hW => ⟨⟨((at9 + kb), f), rfl, trivial, by rw [ht]; exact hP.sub [2, 0, 1] rfl, hD.sub [2, 0, 1] (by decide) rfl⟩, hS.F ht⟩) hS.2.2 dM_takeDigits_183
              · refine lv_iload hx hb dM_takeDigits_112 (lv_at hl 0 rfl) ?_
                refine lv_if_eq (tgt := 134) hx hb dM_takeDigits_114 (by decide) (fun c_114 => ?_) (fun q => False.elim (absurd q (by decide)))
                exfalso
                first | omega | (have h9 := hx1; split at h9 <;> omega)
          · refine lv_iload hx hb dM_takeDigits_86 (lv_at hl 8 rfl) ?_
            refine zi_ne0 (tgt := 95) hx hb (by omega) dM_takeDigits_88 (by decide) (fun c_88 => ?_) (fun c_88 => ?_)
            · refine lv_iconst (v := nI 0) hx hb dM_takeDigits_95 (by decide) ?_
              refine lv_istore (lv' := [(9, .int (nI 0)), (8, .int (nI ((tp (at9 + kb)) % 16))), (7, .int (nI ((tp (at9 + kb)) / 16))), (0, .ref m0), (1, .int (nI ct)), (2, .ref rw), (3, .int (nI fr)), (4, .int (nI ((ct + 1) / 2))), (5, .int (nI (ct % 2))), (6, .int (nI kb))]) hx hb dM_takeDigits_96 hl (by decide) rfl (fun ls hl => ?_)
              refine lv_iload hx hb dM_takeDigits_98 (lv_at hl 2 rfl) ?_
              refine lv_bipush (v := nI 9) hx hb dM_takeDigits_100 (by decide) ?_
              refine zi_gt (tgt := 122) hx hb (by omega) (by omega) dM_takeDigits_102 (by decide) (fun c_102 => ?_) (fun c_102 => ?_)
              · refine lv_aload_n hx hb dM_takeDigits_122 rfl (lv_at hl 3 rfl) ?_
                refine lv_iconst (v := nI 2) hx hb dM_takeDigits_123 (by decide) ?_
                refine lv_aload_n hx hb dM_takeDigits_124 rfl (lv_at hl 3 rfl) ?_
                refine va_get (D := (dC, dI)) (ci := 4) (v := .int (nI (at9 + kb))) (C := RM) (T := TM) (N := 17) hx hb hw inM hown hK hP 0 rfl rfl 12 (by decide) (hw _ w_fl_M_108) (fun _ h9 => h9) rfl dM_takeDigits_125 ?_
                have hPc := hP.sub (ws' := [(m0, .inr (4, [.ref n0, .ref n1, .ref n2, .int (nI cd), .int (nI dt), .ref e0, .ref e1, .int (nI rt), .ref e2, .ref e3, .ref e4, .int (nI sz9), .int (nI (at9 + kb)), .int (nI fl), .int pl, .int (nI wr), .ref e5]))]) [0] rfl
                have hDc := hD.sub (ws' := [(m0, .inr (4, [.ref n0, .ref n1, .ref n2, .int (nI cd), .int (nI dt), .ref e0, .ref e1, .int (nI rt), .ref e2, .ref e3, .ref e4, .int (nI sz9), .int (nI (at9 + kb)), .int (nI fl), .int pl, .int (nI wr), .ref e5]))]) [0] (by decide) rfl
                have hFc := va_free (wc := [(m0, .inr (4, [.ref n0, .ref n1, .ref n2, .int (nI cd), .int (nI dt), .ref e0, .ref e1, .int (nI rt), .ref e2, .ref e3, .ref e4, .int (nI sz9), .int (nI (at9 + kb)), .int (nI fl), .int pl, .int (nI wr), .ref e5]))]) hD hS hA [0] rfl
                refine zc_Mv (va_runV (As := [.int (nI 2), .int (nI (at9 + kb))]) (rest := []) ⟨hx, hb, hml, hown, hw⟩ (c_fails_1 l dC dI m0 n0 n1 n2 cd dt e0 e1 rt e2 e3 e4 sz9 (at9 + kb) fl pl wr e5 cI cB 2 (nI (at9 + kb)) (by omega) H.size) (cwV 2 hw (gV w_ml_M_111 w_im_M_fails w_se_M_fails w_in_M w_co_M_fails) rfl rfl rfl (by decide +kernel) ⟨Nat.le_of_ble_eq_true rfl, Nat.le_of_ble_eq_true rfl⟩) (zM_V hG hS hFc hPc hDc hK 0 rfl rfl) rfl rfl hl.1 rfl (lv_room (Nat.le_of_ble_eq_true rfl)) dM_takeDigits_128 ⟨Nat.le_of_ble_eq_true rfl, Nat.le_of_ble_eq_true rfl⟩) hS hFc (fun H locs h_128 hP1 hD1 hk1 hS => ?_)
                obtain ⟨hP, hD⟩ := va_join (wr := [(e4, .inl (cI, 400, .inl (aN tp))), (rw, .inl (cI, N9, .inl (aN f)))]) (w1 := [(m0, .inr (4, [.ref n0, .ref n1, .ref n2, .int (nI cd), .int (nI dt), .ref e0, .ref e1, .int (nI rt), .ref e2, .ref e3, .ref e4, .int (nI sz9), .int (nI (at9 + kb)), .int (nI 2), .int (nI (at9 + kb)), .int (nI wr), .ref e5]))]) hP hD [0] [1, 2] rfl rfl (by decide) (by decide) hk1 hFc hP1 hD1
                have hP : va_P (dC, dI) vwCl [(e4, .inl (cI, 400, .inl (aN tp))), (rw, .inl (cI, N9, .inl (aN f))), (m0, .inr (4, [.ref n0, .ref n1, .ref n2, .int (nI cd), .int (nI dt), .ref e0, .ref e1, .int (nI rt), .ref e2, .ref e3, .ref e4, .int (nI sz9), .int (nI (at9 + kb)), .int (nI 2), .int (nI (at9 + kb)), .int (nI wr), .ref e5]))] H := hP
                have hD : va_D A [(e4, .inl (cI, 400, .inl (aN tp))), (rw, .inl (cI, N9, .inl (aN f))), (m0, .inr (4, [.ref n0, .ref n1, .ref n2, .int (nI cd), .int (nI dt), .ref e0, .ref e1, .int (nI rt), .ref e2, .ref e3, .ref e4, .int (nI sz9), .int (nI (at9 + kb)), .int (nI 2), .int (nI (at9 + kb)), .int (nI wr), .ref e5]))] := hD
                refine lv_goto (tgt := 177) hx hb dM_takeDigits_131 (by decide) ?_
                refine lv_iinc (v := nI (kb + 1)) (lv' := [(6, .int (nI (kb + 1))), (9, .int (nI 0)), (8, .int (nI ((tp (at9 + kb)) % 16))), (7, .int (nI ((tp (at9 + kb)) / 16))), (0, .ref m0), (1, .int (nI ct)), (2, .ref rw), (3, .int (nI fr)), (4, .int (nI ((ct + 1) / 2))), (5, .int (nI (ct % 2)))]) hx hb dM_takeDigits_177 hl (k := 9) rfl (zi_incr kb 1) (by decide) rfl (fun ls hl => ?_)
                refine lv_goto (tgt := 38) hx hb dM_takeDigits_180 (by decide) ?_
                refine lv_iload hx hb dM_takeDigits_38 (lv_at hl 0 rfl) ?_
                refine lv_iload hx hb dM_takeDigits_40 (lv_at hl 8 rfl) ?_
                refine zi_ge (tgt := 183) hx hb (by omega) (by omega) dM_takeDigits_42 (by decide) (fun c_42 => ?_) (fun c_42 => ?_)
                · subst hAe
                  subst hQ
                  exact W.vret hx hb hr (fun t ht hW => ⟨⟨((at9 + kb), f), rfl, trivial, by rw [ht]; exact hP.sub [2, 0, 1] rfl, hD.sub [2, 0, 1] (by decide) rfl⟩, hS.F ht⟩) hS.2.2 dM_takeDigits_183
                · refine lv_aload_n hx hb dM_takeDigits_45 rfl (lv_at hl 4 rfl) ?_
                  refine va_get (D := (dC, dI)) (ci := 4) (v := .int (nI 2)) (C := RM) (T := TM) (N := 17) hx hb hw inM hown hK hP 2 rfl rfl 13 (by decide) (hw _ w_fl_M_102) (fun _ h9 => h9) rfl dM_takeDigits_46 ?_
                  refine lv_if_ne (tgt := 183) hx hb dM_takeDigits_49 (by decide) (fun c_49 => ?_) (fun q => False.elim (absurd q (by decide)))
                  subst hAe
                  subst hQ
                  exact W.vret hx hb hr (fun t ht hW => ⟨⟨((at9 + kb), f), rfl, trivial, by rw [ht]; exact hP.sub [2, 0, 1] rfl, hD.sub [2, 0, 1] (by decide) rfl⟩, hS.F ht⟩) hS.2.2 dM_takeDigits_183
              · refine lv_iload hx hb dM_takeDigits_105 (lv_at hl 1 rfl) ?_
                refine lv_bipush (v := nI 9) hx hb dM_takeDigits_107 (by decide) ?_
                refine zi_gt (tgt := 122) hx hb (by omega) (by omega) dM_takeDigits_109 (by decide) (fun c_109 => ?_) (fun c_109 => ?_)
                · refine lv_aload_n hx hb dM_takeDigits_122 rfl (lv_at hl 3 rfl) ?_
                  refine lv_iconst (v := nI 2) hx hb dM_takeDigits_123 (by decide) ?_
                  refine lv_aload_n hx hb dM_takeDigits_124 rfl (lv_at hl 3 rfl) ?_
                  refine va_get (D := (dC, dI)) (ci := 4) (v := .int (nI (at9 + kb))) (C := RM) (T := TM) (N := 17) hx hb hw inM hown hK hP 0 rfl rfl 12 (by decide) (hw _ w_fl_M_108) (fun _ h9 => h9) rfl dM_takeDigits_125 ?_
                  have hPc := hP.sub (ws' := [(m0, .inr (4, [.ref n0, .ref n1, .ref n2, .int (nI cd), .int (nI dt), .ref e0, .ref e1, .int (nI rt), .ref e2, .ref e3, .ref e4, .int (nI sz9), .int (nI (at9 + kb)), .int (nI fl), .int pl, .int (nI wr), .ref e5]))]) [0] rfl
                  have hDc := hD.sub (ws' := [(m0, .inr (4, [.ref n0, .ref n1, .ref n2, .int (nI cd), .int (nI dt), .ref e0, .ref e1, .int (nI rt), .ref e2, .ref e3, .ref e4, .int (nI sz9), .int (nI (at9 + kb)), .int (nI fl), .int pl, .int (nI wr), .ref e5]))]) [0] (by decide) rfl
                  have hFc := va_free (wc := [(m0, .inr (4, [.ref n0, .ref n1, .ref n2, .int (nI cd), .int (nI dt), .ref e0, .ref e1, .int (nI rt), .ref e2, .ref e3, .ref e4, .int (nI sz9), .int (nI (at9 + kb)), .int (nI fl), .int pl, .int (nI wr), .ref e5]))]) hD hS hA [0] rfl
                  refine zc_Mv (va_runV (As := [.int (nI 2), .int (nI (at9 + kb))]) (rest := []) ⟨hx, hb, hml, hown, hw⟩ (c_fails_1 l dC dI m0 n0 n1 n2 cd dt e0 e1 rt e2 e3 e4 sz9 (at9 + kb) fl pl wr e5 cI cB 2 (nI (at9 + kb)) (by omega) H.size) (cwV 2 hw (gV w_ml_M_111 w_im_M_fails w_se_M_fails w_in_M w_co_M_fails) rfl rfl rfl (by decide +kernel) ⟨Nat.le_of_ble_eq_true rfl, Nat.le_of_ble_eq_true rfl⟩) (zM_V hG hS hFc hPc hDc hK 0 rfl rfl) rfl rfl hl.1 rfl (lv_room (Nat.le_of_ble_eq_true rfl)) dM_takeDigits_128 ⟨Nat.le_of_ble_eq_true rfl, Nat.le_of_ble_eq_true rfl⟩) hS hFc (fun H locs h_128 hP1 hD1 hk1 hS => ?_)
                  obtain ⟨hP, hD⟩ := va_join (wr := [(e4, .inl (cI, 400, .inl (aN tp))), (rw, .inl (cI, N9, .inl (aN f)))]) (w1 := [(m0, .inr (4, [.ref n0, .ref n1, .ref n2, .int (nI cd), .int (nI dt), .ref e0, .ref e1, .int (nI rt), .ref e2, .ref e3, .ref e4, .int (nI sz9), .int (nI (at9 + kb)), .int (nI 2), .int (nI (at9 + kb)), .int (nI wr), .ref e5]))]) hP hD [0] [1, 2] rfl rfl (by decide) (by decide) hk1 hFc hP1 hD1
                  have hP : va_P (dC, dI) vwCl [(e4, .inl (cI, 400, .inl (aN tp))), (rw, .inl (cI, N9, .inl (aN f))), (m0, .inr (4, [.ref n0, .ref n1, .ref n2, .int (nI cd), .int (nI dt), .ref e0, .ref e1, .int (nI rt), .ref e2, .ref e3, .ref e4, .int (nI sz9), .int (nI (at9 + kb)), .int (nI 2), .int (nI (at9 + kb)), .int (nI wr), .ref e5]))] H := hP
                  have hD : va_D A [(e4, .inl (cI, 400, .inl (aN tp))), (rw, .inl (cI, N9, .inl (aN f))), (m0, .inr (4, [.ref n0, .ref n1, .ref n2, .int (nI cd), .int (nI dt), .ref e0, .ref e1, .int (nI rt), .ref e2, .ref e3, .ref e4, .int (nI sz9), .int (nI (at9 + kb)), .int (nI 2), .int (nI (at9 + kb)), .int (nI wr), .ref e5]))] := hD
                  refine lv_goto (tgt := 177) hx hb dM_takeDigits_131 (by decide) ?_
                  refine lv_iinc (v := nI (kb + 1)) (lv' := [(6, .int (nI (kb + 1))), (9, .int (nI 0)), (8, .int (nI ((tp (at9 + kb)) % 16))), (7, .int (nI ((tp (at9 + kb)) / 16))), (0, .ref m0), (1, .int (nI ct)), (2, .ref rw), (3, .int (nI fr)), (4, .int (nI ((ct + 1) / 2))), (5, .int (nI (ct % 2)))]) hx hb dM_takeDigits_177 hl (k := 9) rfl (zi_incr kb 1) (by decide) rfl (fun ls hl => ?_)
                  refine lv_goto (tgt := 38) hx hb dM_takeDigits_180 (by decide) ?_
                  refine lv_iload hx hb dM_takeDigits_38 (lv_at hl 0 rfl) ?_
                  refine lv_iload hx hb dM_takeDigits_40 (lv_at hl 8 rfl) ?_
                  refine zi_ge (tgt := 183) hx hb (by omega) (by omega) dM_takeDigits_42 (by decide) (fun c_42 => ?_) (fun c_42 => ?_)
                  · subst hAe
                    subst hQ
                    exact W.vret hx hb hr (fun t ht hW => ⟨⟨((at9 + kb), f), rfl, trivial, by rw [ht]; exact hP.sub [2, 0, 1] rfl, hD.sub [2, 0, 1] (by decide) rfl⟩, hS.F ht⟩) hS.2.2 dM_takeDigits_183
                  · refine lv_aload_n hx hb dM_takeDigits_45 rfl (lv_at hl 4 rfl) ?_
                    refine va_get (D := (dC, dI)) (ci := 4) (v := .int (nI 2)) (C := RM) (T := TM) (N := 17) hx hb hw inM hown hK hP 2 rfl rfl 13 (by decide) (hw _ w_fl_M_102) (fun _ h9 => h9) rfl dM_takeDigits_46 ?_
                    refine lv_if_ne (tgt := 183) hx hb dM_takeDigits_49 (by decide) (fun c_49 => ?_) (fun q => False.elim (absurd q (by decide)))
                    subst hAe
                    subst hQ
                    exact W.vret hx hb hr (fun t ht hW => ⟨⟨((at9 + kb), f), rfl, trivial, by rw [ht]; exact hP.sub [2, 0, 1] rfl, hD.sub [2, 0, 1] (by decide) rfl⟩, hS.F ht⟩) hS.2.2 dM_takeDigits_183
                · refine lv_iload hx hb dM_takeDigits_112 (lv_at hl 0 rfl) ?_
                  refine lv_if_eq (tgt := 134) hx hb dM_takeDigits_114 (by decide) (fun c_114 => ?_) (fun q => False.elim (absurd q (by decide)))
                  exfalso
                  first | omega | (have h9 := hx1; split at h9 <;> omega)
            · refine lv_iconst (v := nI 1) hx hb dM_takeDigits_91 (by decide) ?_
              refine lv_goto (tgt := 96) hx hb dM_takeDigits_92 (by decide) ?_
              refine lv_istore (lv' := [(9, .int (nI 1)), (8, .int (nI ((tp (at9 + kb)) % 16))), (7, .int (nI ((tp (at9 + kb)) / 16))), (0, .ref m0), (1, .int (nI ct)), (2, .ref rw), (3, .int (nI fr)), (4, .int (nI ((ct + 1) / 2))), (5, .int (nI (ct % 2))), (6, .int (nI kb))]) hx hb dM_takeDigits_96 hl (by decide) rfl (fun ls hl => ?_)
              refine lv_iload hx hb dM_takeDigits_98 (lv_at hl 2 rfl) ?_
              refine lv_bipush (v := nI 9) hx hb dM_takeDigits_100 (by decide) ?_
              refine zi_gt (tgt := 122) hx hb (by omega) (by omega) dM_takeDigits_102 (by decide) (fun c_102 => ?_) (fun c_102 => ?_)
              · refine lv_aload_n hx hb dM_takeDigits_122 rfl (lv_at hl 3 rfl) ?_
                refine lv_iconst (v := nI 2) hx hb dM_takeDigits_123 (by decide) ?_
                refine lv_aload_n hx hb dM_takeDigits_124 rfl (lv_at hl 3 rfl) ?_
                refine va_get (D := (dC, dI)) (ci := 4) (v := .int (nI (at9 + kb))) (C := RM) (T := TM) (N := 17) hx hb hw inM hown hK hP 0 rfl rfl 12 (by decide) (hw _ w_fl_M_108) (fun _ h9 => h9) rfl dM_takeDigits_125 ?_
                have hPc := hP.sub (ws' := [(m0, .inr (4, [.ref n0, .ref n1, .ref n2, .int (nI cd), .int (nI dt), .ref e0, .ref e1, .int (nI rt), .ref e2, .ref e3, .ref e4, .int (nI sz9), .int (nI (at9 + kb)), .int (nI fl), .int pl, .int (nI wr), .ref e5]))]) [0] rfl
                have hDc := hD.sub (ws' := [(m0, .inr (4, [.ref n0, .ref n1, .ref n2, .int (nI cd), .int (nI dt), .ref e0, .ref e1, .int (nI rt), .ref e2, .ref e3, .ref e4, .int (nI sz9), .int (nI (at9 + kb)), .int (nI fl), .int pl, .int (nI wr), .ref e5]))]) [0] (by decide) rfl
                have hFc := va_free (wc := [(m0, .inr (4, [.ref n0, .ref n1, .ref n2, .int (nI cd), .int (nI dt), .ref e0, .ref e1, .int (nI rt), .ref e2, .ref e3, .ref e4, .int (nI sz9), .int (nI (at9 + kb)), .int (nI fl), .int pl, .int (nI wr), .ref e5]))]) hD hS hA [0] rfl
                refine zc_Mv (va_runV (As := [.int (nI 2), .int (nI (at9 + kb))]) (rest := []) ⟨hx, hb, hml, hown, hw⟩ (c_fails_1 l dC dI m0 n0 n1 n2 cd dt e0 e1 rt e2 e3 e4 sz9 (at9 + kb) fl pl wr e5 cI cB 2 (nI (at9 + kb)) (by omega) H.size) (cwV 2 hw (gV w_ml_M_111 w_im_M_fails w_se_M_fails w_in_M w_co_M_fails) rfl rfl rfl (by decide +kernel) ⟨Nat.le_of_ble_eq_true rfl, Nat.le_of_ble_eq_true rfl⟩) (zM_V hG hS hFc hPc hDc hK 0 rfl rfl) rfl rfl hl.1 rfl (lv_room (Nat.le_of_ble_eq_true rfl)) dM_takeDigits_128 ⟨Nat.le_of_ble_eq_true rfl, Nat.le_of_ble_eq_true rfl⟩) hS hFc (fun H locs h_128 hP1 hD1 hk1 hS => ?_)
                obtain ⟨hP, hD⟩ := va_join (wr := [(e4, .inl (cI, 400, .inl (aN tp))), (rw, .inl (cI, N9, .inl (aN f)))]) (w1 := [(m0, .inr (4, [.ref n0, .ref n1, .ref n2, .int (nI cd), .int (nI dt), .ref e0, .ref e1, .int (nI rt), .ref e2, .ref e3, .ref e4, .int (nI sz9), .int (nI (at9 + kb)), .int (nI 2), .int (nI (at9 + kb)), .int (nI wr), .ref e5]))]) hP hD [0] [1, 2] rfl rfl (by decide) (by decide) hk1 hFc hP1 hD1
                have hP : va_P (dC, dI) vwCl [(e4, .inl (cI, 400, .inl (aN tp))), (rw, .inl (cI, N9, .inl (aN f))), (m0, .inr (4, [.ref n0, .ref n1, .ref n2, .int (nI cd), .int (nI dt), .ref e0, .ref e1, .int (nI rt), .ref e2, .ref e3, .ref e4, .int (nI sz9), .int (nI (at9 + kb)), .int (nI 2), .int (nI (at9 + kb)), .int (nI wr), .ref e5]))] H := hP
                have hD : va_D A [(e4, .inl (cI, 400, .inl (aN tp))), (rw, .inl (cI, N9, .inl (aN f))), (m0, .inr (4, [.ref n0, .ref n1, .ref n2, .int (nI cd), .int (nI dt), .ref e0, .ref e1, .int (nI rt), .ref e2, .ref e3, .ref e4, .int (nI sz9), .int (nI (at9 + kb)), .int (nI 2), .int (nI (at9 + kb)), .int (nI wr), .ref e5]))] := hD
                refine lv_goto (tgt := 177) hx hb dM_takeDigits_131 (by decide) ?_
                refine lv_iinc (v := nI (kb + 1)) (lv' := [(6, .int (nI (kb + 1))), (9, .int (nI 1)), (8, .int (nI ((tp (at9 + kb)) % 16))), (7, .int (nI ((tp (at9 + kb)) / 16))), (0, .ref m0), (1, .int (nI ct)), (2, .ref rw), (3, .int (nI fr)), (4, .int (nI ((ct + 1) / 2))), (5, .int (nI (ct % 2)))]) hx hb dM_takeDigits_177 hl (k := 9) rfl (zi_incr kb 1) (by decide) rfl (fun ls hl => ?_)
                refine lv_goto (tgt := 38) hx hb dM_takeDigits_180 (by decide) ?_
                refine lv_iload hx hb dM_takeDigits_38 (lv_at hl 0 rfl) ?_
                refine lv_iload hx hb dM_takeDigits_40 (lv_at hl 8 rfl) ?_
                refine zi_ge (tgt := 183) hx hb (by omega) (by omega) dM_takeDigits_42 (by decide) (fun c_42 => ?_) (fun c_42 => ?_)
                · subst hAe
                  subst hQ
                  exact W.vret hx hb hr (fun t ht hW => ⟨⟨((at9 + kb), f), rfl, trivial, by rw [ht]; exact hP.sub [2, 0, 1] rfl, hD.sub [2, 0, 1] (by decide) rfl⟩, hS.F ht⟩) hS.2.2 dM_takeDigits_183
                · refine lv_aload_n hx hb dM_takeDigits_45 rfl (lv_at hl 4 rfl) ?_
                  refine va_get (D := (dC, dI)) (ci := 4) (v := .int (nI 2)) (C := RM) (T := TM) (N := 17) hx hb hw inM hown hK hP 2 rfl rfl 13 (by decide) (hw _ w_fl_M_102) (fun _ h9 => h9) rfl dM_takeDigits_46 ?_
                  refine lv_if_ne (tgt := 183) hx hb dM_takeDigits_49 (by decide) (fun c_49 => ?_) (fun q => False.elim (absurd q (by decide)))
                  subst hAe
                  subst hQ
                  exact W.vret hx hb hr (fun t ht hW => ⟨⟨((at9 + kb), f), rfl, trivial, by rw [ht]; exact hP.sub [2, 0, 1] rfl, hD.sub [2, 0, 1] (by decide) rfl⟩, hS.F ht⟩) hS.2.2 dM_takeDigits_183
              · refine lv_iload hx hb dM_takeDigits_105 (lv_at hl 1 rfl) ?_
                refine lv_bipush (v := nI 9) hx hb dM_takeDigits_107 (by decide) ?_
                refine zi_gt (tgt := 122) hx hb (by omega) (by omega) dM_takeDigits_109 (by decide) (fun c_109 => ?_) (fun c_109 => ?_)
                · refine lv_aload_n hx hb dM_takeDigits_122 rfl (lv_at hl 3 rfl) ?_
                  refine lv_iconst (v := nI 2) hx hb dM_takeDigits_123 (by decide) ?_
                  refine lv_aload_n hx hb dM_takeDigits_124 rfl (lv_at hl 3 rfl) ?_
                  refine va_get (D := (dC, dI)) (ci := 4) (v := .int (nI (at9 + kb))) (C := RM) (T := TM) (N := 17) hx hb hw inM hown hK hP 0 rfl rfl 12 (by decide) (hw _ w_fl_M_108) (fun _ h9 => h9) rfl dM_takeDigits_125 ?_
                  have hPc := hP.sub (ws' := [(m0, .inr (4, [.ref n0, .ref n1, .ref n2, .int (nI cd), .int (nI dt), .ref e0, .ref e1, .int (nI rt), .ref e2, .ref e3, .ref e4, .int (nI sz9), .int (nI (at9 + kb)), .int (nI fl), .int pl, .int (nI wr), .ref e5]))]) [0] rfl
                  have hDc := hD.sub (ws' := [(m0, .inr (4, [.ref n0, .ref n1, .ref n2, .int (nI cd), .int (nI dt), .ref e0, .ref e1, .int (nI rt), .ref e2, .ref e3, .ref e4, .int (nI sz9), .int (nI (at9 + kb)), .int (nI fl), .int pl, .int (nI wr), .ref e5]))]) [0] (by decide) rfl
                  have hFc := va_free (wc := [(m0, .inr (4, [.ref n0, .ref n1, .ref n2, .int (nI cd), .int (nI dt), .ref e0, .ref e1, .int (nI rt), .ref e2, .ref e3, .ref e4, .int (nI sz9), .int (nI (at9 + kb)), .int (nI fl), .int pl, .int (nI wr), .ref e5]))]) hD hS hA [0] rfl
                  refine zc_Mv (va_runV (As := [.int (nI 2), .int (nI (at9 + kb))]) (rest := []) ⟨hx, hb, hml, hown, hw⟩ (c_fails_1 l dC dI m0 n0 n1 n2 cd dt e0 e1 rt e2 e3 e4 sz9 (at9 + kb) fl pl wr e5 cI cB 2 (nI (at9 + kb)) (by omega) H.size) (cwV 2 hw (gV w_ml_M_111 w_im_M_fails w_se_M_fails w_in_M w_co_M_fails) rfl rfl rfl (by decide +kernel) ⟨Nat.le_of_ble_eq_true rfl, Nat.le_of_ble_eq_true rfl⟩) (zM_V hG hS hFc hPc hDc hK 0 rfl rfl) rfl rfl hl.1 rfl (lv_room (Nat.le_of_ble_eq_true rfl)) dM_takeDigits_128 ⟨Nat.le_of_ble_eq_true rfl, Nat.le_of_ble_eq_true rfl⟩) hS hFc (fun H locs h_128 hP1 hD1 hk1 hS => ?_)
                  obtain ⟨hP, hD⟩ := va_join (wr := [(e4, .inl (cI, 400, .inl (aN tp))), (rw, .inl (cI, N9, .inl (aN f)))]) (w1 := [(m0, .inr (4, [.ref n0, .ref n1, .ref n2, .int (nI cd), .int (nI dt), .ref e0, .ref e1, .int (nI rt), .ref e2, .ref e3, .ref e4, .int (nI sz9), .int (nI (at9 + kb)), .int (nI 2), .int (nI (at9 + kb)), .int (nI wr), .ref e5]))]) hP hD [0] [1, 2] rfl rfl (by decide) (by decide) hk1 hFc hP1 hD1
                  have hP : va_P (dC, dI) vwCl [(e4, .inl (cI, 400, .inl (aN tp))), (rw, .inl (cI, N9, .inl (aN f))), (m0, .inr (4, [.ref n0, .ref n1, .ref n2, .int (nI cd), .int (nI dt), .ref e0, .ref e1, .int (nI rt), .ref e2, .ref e3, .ref e4, .int (nI sz9), .int (nI (at9 + kb)), .int (nI 2), .int (nI (at9 + kb)), .int (nI wr), .ref e5]))] H := hP
                  have hD : va_D A [(e4, .inl (cI, 400, .inl (aN tp))), (rw, .inl (cI, N9, .inl (aN f))), (m0, .inr (4, [.ref n0, .ref n1, .ref n2, .int (nI cd), .int (nI dt), .ref e0, .ref e1, .int (nI rt), .ref e2, .ref e3, .ref e4, .int (nI sz9), .int (nI (at9 + kb)), .int (nI 2), .int (nI (at9 + kb)), .int (nI wr), .ref e5]))] := hD
                  refine lv_goto (tgt := 177) hx hb dM_takeDigits_131 (by decide) ?_
                  refine lv_iinc (v := nI (kb + 1)) (lv' := [(6, .int (nI (kb + 1))), (9, .int (nI 1)), (8, .int (nI ((tp (at9 + kb)) % 16))), (7, .int (nI ((tp (at9 + kb)) / 16))), (0, .ref m0), (1, .int (nI ct)), (2, .ref rw), (3, .int (nI fr)), (4, .int (nI ((ct + 1) / 2))), (5, .int (nI (ct % 2)))]) hx hb dM_takeDigits_177 hl (k := 9) rfl (zi_incr kb 1) (by decide) rfl (fun ls hl => ?_)
                  refine lv_goto (tgt := 38) hx hb dM_takeDigits_180 (by decide) ?_
                  refine lv_iload hx hb dM_takeDigits_38 (lv_at hl 0 rfl) ?_
                  refine lv_iload hx hb dM_takeDigits_40 (lv_at hl 8 rfl) ?_
                  refine zi_ge (tgt := 183) hx hb (by omega) (by omega) dM_takeDigits_42 (by decide) (fun c_42 => ?_) (fun c_42 => ?_)
                  · subst hAe
                    subst hQ
                    exact W.vret hx hb hr (fun t ht hW => ⟨⟨((at9 + kb), f), rfl, trivial, by rw [ht]; exact hP.sub [2, 0, 1] rfl, hD.sub [2, 0, 1] (by decide) rfl⟩, hS.F ht⟩) hS.2.2 dM_takeDigits_183
                  · refine lv_aload_n hx hb dM_takeDigits_45 rfl (lv_at hl 4 rfl) ?_
                    refine va_get (D := (dC, dI)) (ci := 4) (v := .int (nI 2)) (C := RM) (T := TM) (N := 17) hx hb hw inM hown hK hP 2 rfl rfl 13 (by decide) (hw _ w_fl_M_102) (fun _ h9 => h9) rfl dM_takeDigits_46 ?_
                    refine lv_if_ne (tgt := 183) hx hb dM_takeDigits_49 (by decide) (fun c_49 => ?_) (fun q => False.elim (absurd q (by decide)))
                    subst hAe
                    subst hQ
                    exact W.vret hx hb hr (fun t ht hW => ⟨⟨((at9 + kb), f), rfl, trivial, by rw [ht]; exact hP.sub [2, 0, 1] rfl, hD.sub [2, 0, 1] (by decide) rfl⟩, hS.F ht⟩) hS.2.2 dM_takeDigits_183
                · refine lv_iload hx hb dM_takeDigits_112 (lv_at hl 0 rfl) ?_
                  refine lv_if_eq (tgt := 134) hx hb dM_takeDigits_114 (by decide) (fun q => False.elim (absurd q (by decide))) (fun c_114 => ?_)
                  refine lv_iload hx hb dM_takeDigits_117 (lv_at hl 2 rfl) ?_
                  refine zi_le0 (tgt := 134) hx hb (by omega) dM_takeDigits_119 (by decide) (fun c_119 => ?_) (fun c_119 => ?_)
                  · exfalso
                    first | omega | (have h9 := hx1; split at h9 <;> omega)
                  · refine lv_aload_n hx hb dM_takeDigits_122 rfl (lv_at hl 3 rfl) ?_
                    refine lv_iconst (v := nI 2) hx hb dM_takeDigits_123 (by decide) ?_
                    refine lv_aload_n hx hb dM_takeDigits_124 rfl (lv_at hl 3 rfl) ?_
                    refine va_get (D := (dC, dI)) (ci := 4) (v := .int (nI (at9 + kb))) (C := RM) (T := TM) (N := 17) hx hb hw inM hown hK hP 0 rfl rfl 12 (by decide) (hw _ w_fl_M_108) (fun _ h9 => h9) rfl dM_takeDigits_125 ?_
                    have hPc := hP.sub (ws' := [(m0, .inr (4, [.ref n0, .ref n1, .ref n2, .int (nI cd), .int (nI dt), .ref e0, .ref e1, .int (nI rt), .ref e2, .ref e3, .ref e4, .int (nI sz9), .int (nI (at9 + kb)), .int (nI fl), .int pl, .int (nI wr), .ref e5]))]) [0] rfl
                    have hDc := hD.sub (ws' := [(m0, .inr (4, [.ref n0, .ref n1, .ref n2, .int (nI cd), .int (nI dt), .ref e0, .ref e1, .int (nI rt), .ref e2, .ref e3, .ref e4, .int (nI sz9), .int (nI (at9 + kb)), .int (nI fl), .int pl, .int (nI wr), .ref e5]))]) [0] (by decide) rfl
                    have hFc := va_free (wc := [(m0, .inr (4, [.ref n0, .ref n1, .ref n2, .int (nI cd), .int (nI dt), .ref e0, .ref e1, .int (nI rt), .ref e2, .ref e3, .ref e4, .int (nI sz9), .int (nI (at9 + kb)), .int (nI fl), .int pl, .int (nI wr), .ref e5]))]) hD hS hA [0] rfl
                    refine zc_Mv (va_runV (As := [.int (nI 2), .int (nI (at9 + kb))]) (rest := []) ⟨hx, hb, hml, hown, hw⟩ (c_fails_1 l dC dI m0 n0 n1 n2 cd dt e0 e1 rt e2 e3 e4 sz9 (at9 + kb) fl pl wr e5 cI cB 2 (nI (at9 + kb)) (by omega) H.size) (cwV 2 hw (gV w_ml_M_111 w_im_M_fails w_se_M_fails w_in_M w_co_M_fails) rfl rfl rfl (by decide +kernel) ⟨Nat.le_of_ble_eq_true rfl, Nat.le_of_ble_eq_true rfl⟩) (zM_V hG hS hFc hPc hDc hK 0 rfl rfl) rfl rfl hl.1 rfl (lv_room (Nat.le_of_ble_eq_true rfl)) dM_takeDigits_128 ⟨Nat.le_of_ble_eq_true rfl, Nat.le_of_ble_eq_true rfl⟩) hS hFc (fun H locs h_128 hP1 hD1 hk1 hS => ?_)
                    obtain ⟨hP, hD⟩ := va_join (wr := [(e4, .inl (cI, 400, .inl (aN tp))), (rw, .inl (cI, N9, .inl (aN f)))]) (w1 := [(m0, .inr (4, [.ref n0, .ref n1, .ref n2, .int (nI cd), .int (nI dt), .ref e0, .ref e1, .int (nI rt), .ref e2, .ref e3, .ref e4, .int (nI sz9), .int (nI (at9 + kb)), .int (nI 2), .int (nI (at9 + kb)), .int (nI wr), .ref e5]))]) hP hD [0] [1, 2] rfl rfl (by decide) (by decide) hk1 hFc hP1 hD1
                    have hP : va_P (dC, dI) vwCl [(e4, .inl (cI, 400, .inl (aN tp))), (rw, .inl (cI, N9, .inl (aN f))), (m0, .inr (4, [.ref n0, .ref n1, .ref n2, .int (nI cd), .int (nI dt), .ref e0, .ref e1, .int (nI rt), .ref e2, .ref e3, .ref e4, .int (nI sz9), .int (nI (at9 + kb)), .int (nI 2), .int (nI (at9 + kb)), .int (nI wr), .ref e5]))] H := hP
                    have hD : va_D A [(e4, .inl (cI, 400, .inl (aN tp))), (rw, .inl (cI, N9, .inl (aN f))), (m0, .inr (4, [.ref n0, .ref n1, .ref n2, .int (nI cd), .int (nI dt), .ref e0, .ref e1, .int (nI rt), .ref e2, .ref e3, .ref e4, .int (nI sz9), .int (nI (at9 + kb)), .int (nI 2), .int (nI (at9 + kb)), .int (nI wr), .ref e5]))] := hD
                    refine lv_goto (tgt := 177) hx hb dM_takeDigits_131 (by decide) ?_
                    refine lv_iinc (v := nI (kb + 1)) (lv' := [(6, .int (nI (kb + 1))), (9, .int (nI 1)), (8, .int (nI ((tp (at9 + kb)) % 16))), (7, .int (nI ((tp (at9 + kb)) / 16))), (0, .ref m0), (1, .int (nI ct)), (2, .ref rw), (3, .int (nI fr)), (4, .int (nI ((ct + 1) / 2))), (5, .int (nI (ct % 2)))]) hx hb dM_takeDigits_177 hl (k := 9) rfl (zi_incr kb 1) (by decide) rfl (fun ls hl => ?_)
                    refine lv_goto (tgt := 38) hx hb dM_takeDigits_180 (by decide) ?_
                    refine lv_iload hx hb dM_takeDigits_38 (lv_at hl 0 rfl) ?_
                    refine lv_iload hx hb dM_takeDigits_40 (lv_at hl 8 rfl) ?_
                    refine zi_ge (tgt := 183) hx hb (by omega) (by omega) dM_takeDigits_42 (by decide) (fun c_42 => ?_) (fun c_42 => ?_)
                    · subst hAe
                      subst hQ
                      exact W.vret hx hb hr (fun t ht hW => ⟨⟨((at9 + kb), f), rfl, trivial, by rw [ht]; exact hP.sub [2, 0, 1] rfl, hD.sub [2, 0, 1] (by decide) rfl⟩, hS.F ht⟩) hS.2.2 dM_takeDigits_183
                    · refine lv_aload_n hx hb dM_takeDigits_45 rfl (lv_at hl 4 rfl) ?_
                      refine va_get (D := (dC, dI)) (ci := 4) (v := .int (nI 2)) (C := RM) (T := TM) (N := 17) hx hb hw inM hown hK hP 2 rfl rfl 13 (by decide) (hw _ w_fl_M_102) (fun _ h9 => h9) rfl dM_takeDigits_46 ?_
                      refine lv_if_ne (tgt := 183) hx hb dM_takeDigits_49 (by decide) (fun c_49 => ?_) (fun q => False.elim (absurd q (by decide)))
                      subst hAe
                      subst hQ
                      exact W.vret hx hb hr (fun t ht hW => ⟨⟨((at9 + kb), f), rfl, trivial, by rw [ht]; exact hP.sub [2, 0, 1] rfl, hD.sub [2, 0, 1] (by decide) rfl⟩, hS.F ht⟩) hS.2.2 dM_takeDigits_183
        · rw [hh0] at hx1
          rw [hh1, if_neg (show ¬ 2 * kb + 1 < ct % 2 by omega)] at hx2
          obtain rfl : at9 + kb = p2 := by omega
          refine lv_aload_n hx hb dM_takeDigits_52 rfl (lv_at hl 0 rfl) ?_
          refine va_get (D := (dC, dI)) (ci := 4) (v := .ref e4) (C := RM) (T := TM) (N := 17) hx hb hw inM hown hK hP 0 rfl rfl 10 (by decide) (hw _ w_fl_M_35) (fun _ h9 => h9) rfl dM_takeDigits_53 ?_
          refine lv_aload_n hx hb dM_takeDigits_56 rfl (lv_at hl 0 rfl) ?_
          refine va_get (D := (dC, dI)) (ci := 4) (v := .int (nI (at9 + kb))) (C := RM) (T := TM) (N := 17) hx hb hw inM hown hK hP 0 rfl rfl 12 (by decide) (hw _ w_fl_M_108) (fun _ h9 => h9) rfl dM_takeDigits_57 ?_
          refine za_ild hx hb hK hP 1 0 rfl rfl (by omega) (by decide) dM_takeDigits_60 ?_
          refine lv_bipush (v := nI 16) hx hb dM_takeDigits_61 (by decide) ?_
          refine zi_div hx hb (by omega) (by omega) (by omega) dM_takeDigits_63 ?_
          refine lv_istore (lv' := [(7, .int (nI ((tp (at9 + kb)) / 16))), (0, .ref m0), (1, .int (nI ct)), (2, .ref rw), (3, .int (nI fr)), (4, .int (nI ((ct + 1) / 2))), (5, .int (nI (ct % 2))), (6, .int (nI kb))]) hx hb dM_takeDigits_64 hl (by decide) rfl (fun ls hl => ?_)
          refine lv_aload_n hx hb dM_takeDigits_66 rfl (lv_at hl 1 rfl) ?_
          refine va_get (D := (dC, dI)) (ci := 4) (v := .ref e4) (C := RM) (T := TM) (N := 17) hx hb hw inM hown hK hP 0 rfl rfl 10 (by decide) (hw _ w_fl_M_35) (fun _ h9 => h9) rfl dM_takeDigits_67 ?_
          refine lv_aload_n hx hb dM_takeDigits_70 rfl (lv_at hl 1 rfl) ?_
          refine va_get (D := (dC, dI)) (ci := 4) (v := .int (nI (at9 + kb))) (C := RM) (T := TM) (N := 17) hx hb hw inM hown hK hP 0 rfl rfl 12 (by decide) (hw _ w_fl_M_108) (fun _ h9 => h9) rfl dM_takeDigits_71 ?_
          refine za_ild hx hb hK hP 1 0 rfl rfl (by omega) (by decide) dM_takeDigits_74 ?_
          refine lv_bipush (v := nI 16) hx hb dM_takeDigits_75 (by decide) ?_
          refine zi_rem hx hb (by omega) (by omega) (by omega) dM_takeDigits_77 ?_
          refine lv_istore (lv' := [(8, .int (nI ((tp (at9 + kb)) % 16))), (7, .int (nI ((tp (at9 + kb)) / 16))), (0, .ref m0), (1, .int (nI ct)), (2, .ref rw), (3, .int (nI fr)), (4, .int (nI ((ct + 1) / 2))), (5, .int (nI (ct % 2))), (6, .int (nI kb))]) hx hb dM_takeDigits_78 hl (by decide) rfl (fun ls hl => ?_)
          refine lv_iload hx hb dM_takeDigits_80 (lv_at hl 7 rfl) ?_
          refine lv_iconst (v := nI 1) hx hb dM_takeDigits_82 (by decide) ?_
          refine zi_ne (tgt := 95) hx hb (by omega) (by omega) dM_takeDigits_83 (by decide) (fun c_83 => ?_) (fun c_83 => ?_)
          · refine lv_iconst (v := nI 0) hx hb dM_takeDigits_95 (by decide) ?_
            refine lv_istore (lv' := [(9, .int (nI 0)), (8, .int (nI ((tp (at9 + kb)) % 16))), (7, .int (nI ((tp (at9 + kb)) / 16))), (0, .ref m0), (1, .int (nI ct)), (2, .ref rw), (3, .int (nI fr)), (4, .int (nI ((ct + 1) / 2))), (5, .int (nI (ct % 2))), (6, .int (nI kb))]) hx hb dM_takeDigits_96 hl (by decide) rfl (fun ls hl => ?_)
            refine lv_iload hx hb dM_takeDigits_98 (lv_at hl 2 rfl) ?_
            refine lv_bipush (v := nI 9) hx hb dM_takeDigits_100 (by decide) ?_
            refine zi_gt (tgt := 122) hx hb (by omega) (by omega) dM_takeDigits_102 (by decide) (fun c_102 => ?_) (fun c_102 => ?_)
            · refine lv_aload_n hx hb dM_takeDigits_122 rfl (lv_at hl 3 rfl) ?_
              refine lv_iconst (v := nI 2) hx hb dM_takeDigits_123 (by decide) ?_
              refine lv_aload_n hx hb dM_takeDigits_124 rfl (lv_at hl 3 rfl) ?_
              refine va_get (D := (dC, dI)) (ci := 4) (v := .int (nI (at9 + kb))) (C := RM) (T := TM) (N := 17) hx hb hw inM hown hK hP 0 rfl rfl 12 (by decide) (hw _ w_fl_M_108) (fun _ h9 => h9) rfl dM_takeDigits_125 ?_
              have hPc := hP.sub (ws' := [(m0, .inr (4, [.ref n0, .ref n1, .ref n2, .int (nI cd), .int (nI dt), .ref e0, .ref e1, .int (nI rt), .ref e2, .ref e3, .ref e4, .int (nI sz9), .int (nI (at9 + kb)), .int (nI fl), .int pl, .int (nI wr), .ref e5]))]) [0] rfl
              have hDc := hD.sub (ws' := [(m0, .inr (4, [.ref n0, .ref n1, .ref n2, .int (nI cd), .int (nI dt), .ref e0, .ref e1, .int (nI rt), .ref e2, .ref e3, .ref e4, .int (nI sz9), .int (nI (at9 + kb)), .int (nI fl), .int pl, .int (nI wr), .ref e5]))]) [0] (by decide) rfl
              have hFc := va_free (wc := [(m0, .inr (4, [.ref n0, .ref n1, .ref n2, .int (nI cd), .int (nI dt), .ref e0, .ref e1, .int (nI rt), .ref e2, .ref e3, .ref e4, .int (nI sz9), .int (nI (at9 + kb)), .int (nI fl), .int pl, .int (nI wr), .ref e5]))]) hD hS hA [0] rfl
              refine zc_Mv (va_runV (As := [.int (nI 2), .int (nI (at9 + kb))]) (rest := []) ⟨hx, hb, hml, hown, hw⟩ (c_fails_1 l dC dI m0 n0 n1 n2 cd dt e0 e1 rt e2 e3 e4 sz9 (at9 + kb) fl pl wr e5 cI cB 2 (nI (at9 + kb)) (by omega) H.size) (cwV 2 hw (gV w_ml_M_111 w_im_M_fails w_se_M_fails w_in_M w_co_M_fails) rfl rfl rfl (by decide +kernel) ⟨Nat.le_of_ble_eq_true rfl, Nat.le_of_ble_eq_true rfl⟩) (zM_V hG hS hFc hPc hDc hK 0 rfl rfl) rfl rfl hl.1 rfl (lv_room (Nat.le_of_ble_eq_true rfl)) dM_takeDigits_128 ⟨Nat.le_of_ble_eq_true rfl, Nat.le_of_ble_eq_true rfl⟩) hS hFc (fun H locs h_128 hP1 hD1 hk1 hS => ?_)
              obtain ⟨hP, hD⟩ := va_join (wr := [(e4, .inl (cI, 400, .inl (aN tp))), (rw, .inl (cI, N9, .inl (aN f)))]) (w1 := [(m0, .inr (4, [.ref n0, .ref n1, .ref n2, .int (nI cd), .int (nI dt), .ref e0, .ref e1, .int (nI rt), .ref e2, .ref e3, .ref e4, .int (nI sz9), .int (nI (at9 + kb)), .int (nI 2), .int (nI (at9 + kb)), .int (nI wr), .ref e5]))]) hP hD [0] [1, 2] rfl rfl (by decide) (by decide) hk1 hFc hP1 hD1
              have hP : va_P (dC, dI) vwCl [(e4, .inl (cI, 400, .inl (aN tp))), (rw, .inl (cI, N9, .inl (aN f))), (m0, .inr (4, [.ref n0, .ref n1, .ref n2, .int (nI cd), .int (nI dt), .ref e0, .ref e1, .int (nI rt), .ref e2, .ref e3, .ref e4, .int (nI sz9), .int (nI (at9 + kb)), .int (nI 2), .int (nI (at9 + kb)), .int (nI wr), .ref e5]))] H := hP
              have hD : va_D A [(e4, .inl (cI, 400, .inl (aN tp))), (rw, .inl (cI, N9, .inl (aN f))), (m0, .inr (4, [.ref n0, .ref n1, .ref n2, .int (nI cd), .int (nI dt), .ref e0, .ref e1, .int (nI rt), .ref e2, .ref e3, .ref e4, .int (nI sz9), .int (nI (at9 + kb)), .int (nI 2), .int (nI (at9 + kb)), .int (nI wr), .ref e5]))] := hD
              refine lv_goto (tgt := 177) hx hb dM_takeDigits_131 (by decide) ?_
              refine lv_iinc (v := nI (kb + 1)) (lv' := [(6, .int (nI (kb + 1))), (9, .int (nI 0)), (8, .int (nI ((tp (at9 + kb)) % 16))), (7, .int (nI ((tp (at9 + kb)) / 16))), (0, .ref m0), (1, .int (nI ct)), (2, .ref rw), (3, .int (nI fr)), (4, .int (nI ((ct + 1) / 2))), (5, .int (nI (ct % 2)))]) hx hb dM_takeDigits_177 hl (k := 9) rfl (zi_incr kb 1) (by decide) rfl (fun ls hl => ?_)
              refine lv_goto (tgt := 38) hx hb dM_takeDigits_180 (by decide) ?_
              refine lv_iload hx hb dM_takeDigits_38 (lv_at hl 0 rfl) ?_
              refine lv_iload hx hb dM_takeDigits_40 (lv_at hl 8 rfl) ?_
              refine zi_ge (tgt := 183) hx hb (by omega) (by omega) dM_takeDigits_42 (by decide) (fun c_42 => ?_) (fun c_42 => ?_)
              · subst hAe
                subst hQ
                exact W.vret hx hb hr (fun t ht hW => ⟨⟨((at9 + kb), f), rfl, trivial, by rw [ht]; exact hP.sub [2, 0, 1] rfl, hD.sub [2, 0, 1] (by decide) rfl⟩, hS.F ht⟩) hS.2.2 dM_takeDigits_183
              · refine lv_aload_n hx hb dM_takeDigits_45 rfl (lv_at hl 4 rfl) ?_
                refine va_get (D := (dC, dI)) (ci := 4) (v := .int (nI 2)) (C := RM) (T := TM) (N := 17) hx hb hw inM hown hK hP 2 rfl rfl 13 (by decide) (hw _ w_fl_M_102) (fun _ h9 => h9) rfl dM_takeDigits_46 ?_
                refine lv_if_ne (tgt := 183) hx hb dM_takeDigits_49 (by decide) (fun c_49 => ?_) (fun q => False.elim (absurd q (by decide)))
                subst hAe
                subst hQ
                exact W.vret hx hb hr (fun t ht hW => ⟨⟨((at9 + kb), f), rfl, trivial, by rw [ht]; exact hP.sub [2, 0, 1] rfl, hD.sub [2, 0, 1] (by decide) rfl⟩, hS.F ht⟩) hS.2.2 dM_takeDigits_183
            · refine lv_iload hx hb dM_takeDigits_105 (lv_at hl 1 rfl) ?_
              refine lv_bipush (v := nI 9) hx hb dM_takeDigits_107 (by decide) ?_
              refine zi_gt (tgt := 122) hx hb (by omega) (by omega) dM_takeDigits_109 (by decide) (fun c_109 => ?_) (fun c_109 => ?_)
              · refine lv_aload_n hx hb dM_takeDigits_122 rfl (lv_at hl 3 rfl) ?_
                refine lv_iconst (v := nI 2) hx hb dM_takeDigits_123 (by decide) ?_
                refine lv_aload_n hx hb dM_takeDigits_124 rfl (lv_at hl 3 rfl) ?_
                refine va_get (D := (dC, dI)) (ci := 4) (v := .int (nI (at9 + kb))) (C := RM) (T := TM) (N := 17) hx hb hw inM hown hK hP 0 rfl rfl 12 (by decide) (hw _ w_fl_M_108) (fun _ h9 => h9) rfl dM_takeDigits_125 ?_
                have hPc := hP.sub (ws' := [(m0, .inr (4, [.ref n0, .ref n1, .ref n2, .int (nI cd), .int (nI dt), .ref e0, .ref e1, .int (nI rt), .ref e2, .ref e3, .ref e4, .int (nI sz9), .int (nI (at9 + kb)), .int (nI fl), .int pl, .int (nI wr), .ref e5]))]) [0] rfl
                have hDc := hD.sub (ws' := [(m0, .inr (4, [.ref n0, .ref n1, .ref n2, .int (nI cd), .int (nI dt), .ref e0, .ref e1, .int (nI rt), .ref e2, .ref e3, .ref e4, .int (nI sz9), .int (nI (at9 + kb)), .int (nI fl), .int pl, .int (nI wr), .ref e5]))]) [0] (by decide) rfl
                have hFc := va_free (wc := [(m0, .inr (4, [.ref n0, .ref n1, .ref n2, .int (nI cd), .int (nI dt), .ref e0, .ref e1, .int (nI rt), .ref e2, .ref e3, .ref e4, .int (nI sz9), .int (nI (at9 + kb)), .int (nI fl), .int pl, .int (nI wr), .ref e5]))]) hD hS hA [0] rfl
                refine zc_Mv (va_runV (As := [.int (nI 2), .int (nI (at9 + kb))]) (rest := []) ⟨hx, hb, hml, hown, hw⟩ (c_fails_1 l dC dI m0 n0 n1 n2 cd dt e0 e1 rt e2 e3 e4 sz9 (at9 + kb) fl pl wr e5 cI cB 2 (nI (at9 + kb)) (by omega) H.size) (cwV 2 hw (gV w_ml_M_111 w_im_M_fails w_se_M_fails w_in_M w_co_M_fails) rfl rfl rfl (by decide +kernel) ⟨Nat.le_of_ble_eq_true rfl, Nat.le_of_ble_eq_true rfl⟩) (zM_V hG hS hFc hPc hDc hK 0 rfl rfl) rfl rfl hl.1 rfl (lv_room (Nat.le_of_ble_eq_true rfl)) dM_takeDigits_128 ⟨Nat.le_of_ble_eq_true rfl, Nat.le_of_ble_eq_true rfl⟩) hS hFc (fun H locs h_128 hP1 hD1 hk1 hS => ?_)
                obtain ⟨hP, hD⟩ := va_join (wr := [(e4, .inl (cI, 400, .inl (aN tp))), (rw, .inl (cI, N9, .inl (aN f)))]) (w1 := [(m0, .inr (4, [.ref n0, .ref n1, .ref n2, .int (nI cd), .int (nI dt), .ref e0, .ref e1, .int (nI rt), .ref e2, .ref e3, .ref e4, .int (nI sz9), .int (nI (at9 + kb)), .int (nI 2), .int (nI (at9 + kb)), .int (nI wr), .ref e5]))]) hP hD [0] [1, 2] rfl rfl (by decide) (by decide) hk1 hFc hP1 hD1
                have hP : va_P (dC, dI) vwCl [(e4, .inl (cI, 400, .inl (aN tp))), (rw, .inl (cI, N9, .inl (aN f))), (m0, .inr (4, [.ref n0, .ref n1, .ref n2, .int (nI cd), .int (nI dt), .ref e0, .ref e1, .int (nI rt), .ref e2, .ref e3, .ref e4, .int (nI sz9), .int (nI (at9 + kb)), .int (nI 2), .int (nI (at9 + kb)), .int (nI wr), .ref e5]))] H := hP
                have hD : va_D A [(e4, .inl (cI, 400, .inl (aN tp))), (rw, .inl (cI, N9, .inl (aN f))), (m0, .inr (4, [.ref n0, .ref n1, .ref n2, .int (nI cd), .int (nI dt), .ref e0, .ref e1, .int (nI rt), .ref e2, .ref e3, .ref e4, .int (nI sz9), .int (nI (at9 + kb)), .int (nI 2), .int (nI (at9 + kb)), .int (nI wr), .ref e5]))] := hD
                refine lv_goto (tgt := 177) hx hb dM_takeDigits_131 (by decide) ?_
                refine lv_iinc (v := nI (kb + 1)) (lv' := [(6, .int (nI (kb + 1))), (9, .int (nI 0)), (8, .int (nI ((tp (at9 + kb)) % 16))), (7, .int (nI ((tp (at9 + kb)) / 16))), (0, .ref m0), (1, .int (nI ct)), (2, .ref rw), (3, .int (nI fr)), (4, .int (nI ((ct + 1) / 2))), (5, .int (nI (ct % 2)))]) hx hb dM_takeDigits_177 hl (k := 9) rfl (zi_incr kb 1) (by decide) rfl (fun ls hl => ?_)
                refine lv_goto (tgt := 38) hx hb dM_takeDigits_180 (by decide) ?_
                refine lv_iload hx hb dM_takeDigits_38 (lv_at hl 0 rfl) ?_
                refine lv_iload hx hb dM_takeDigits_40 (lv_at hl 8 rfl) ?_
                refine zi_ge (tgt := 183) hx hb (by omega) (by omega) dM_takeDigits_42 (by decide) (fun c_42 => ?_) (fun c_42 => ?_)
                · subst hAe
                  subst hQ
                  exact W.vret hx hb hr (fun t ht hW => ⟨⟨((at9 + kb), f), rfl, trivial, by rw [ht]; exact hP.sub [2, 0, 1] rfl, hD.sub [2, 0, 1] (by decide) rfl⟩, hS.F ht⟩) hS.2.2 dM_takeDigits_183
                · refine lv_aload_n hx hb dM_takeDigits_45 rfl (lv_at hl 4 rfl) ?_
                  refine va_get (D := (dC, dI)) (ci := 4) (v := .int (nI 2)) (C := RM) (T := TM) (N := 17) hx hb hw inM hown hK hP 2 rfl rfl 13 (by decide) (hw _ w_fl_M_102) (fun _ h9 => h9) rfl dM_takeDigits_46 ?_
                  refine lv_if_ne (tgt := 183) hx hb dM_takeDigits_49 (by decide) (fun c_49 => ?_) (fun q => False.elim (absurd q (by decide)))
                  subst hAe
                  subst hQ
                  exact W.vret hx hb hr (fun t ht hW => ⟨⟨((at9 + kb), f), rfl, trivial, by rw [ht]; exact hP.sub [2, 0, 1] rfl, hD.sub [2, 0, 1] (by decide) rfl⟩, hS.F ht⟩) hS.2.2 dM_takeDigits_183
              · refine lv_iload hx hb dM_takeDigits_112 (lv_at hl 0 rfl) ?_
                refine lv_if_eq (tgt := 134) hx hb dM_takeDigits_114 (by decide) (fun c_114 => ?_) (fun q => False.elim (absurd q (by decide)))
                exfalso
                first | omega | (have h9 := hx1; split at h9 <;> omega)
          · refine lv_iload hx hb dM_takeDigits_86 (lv_at hl 8 rfl) ?_
            refine zi_ne0 (tgt := 95) hx hb (by omega) dM_takeDigits_88 (by decide) (fun c_88 => ?_) (fun c_88 => ?_)
            · refine lv_iconst (v := nI 0) hx hb dM_takeDigits_95 (by decide) ?_
              refine lv_istore (lv' := [(9, .int (nI 0)), (8, .int (nI ((tp (at9 + kb)) % 16))), (7, .int (nI ((tp (at9 + kb)) / 16))), (0, .ref m0), (1, .int (nI ct)), (2, .ref rw), (3, .int (nI fr)), (4, .int (nI ((ct + 1) / 2))), (5, .int (nI (ct % 2))), (6, .int (nI kb))]) hx hb dM_takeDigits_96 hl (by decide) rfl (fun ls hl => ?_)
              refine lv_iload hx hb dM_takeDigits_98 (lv_at hl 2 rfl) ?_
              refine lv_bipush (v := nI 9) hx hb dM_takeDigits_100 (by decide) ?_
              refine zi_gt (tgt := 122) hx hb (by omega) (by omega) dM_takeDigits_102 (by decide) (fun c_102 => ?_) (fun c_102 => ?_)
              · refine lv_aload_n hx hb dM_takeDigits_122 rfl (lv_at hl 3 rfl) ?_
                refine lv_iconst (v := nI 2) hx hb dM_takeDigits_123 (by decide) ?_
                refine lv_aload_n hx hb dM_takeDigits_124 rfl (lv_at hl 3 rfl) ?_
                refine va_get (D := (dC, dI)) (ci := 4) (v := .int (nI (at9 + kb))) (C := RM) (T := TM) (N := 17) hx hb hw inM hown hK hP 0 rfl rfl 12 (by decide) (hw _ w_fl_M_108) (fun _ h9 => h9) rfl dM_takeDigits_125 ?_
                have hPc := hP.sub (ws' := [(m0, .inr (4, [.ref n0, .ref n1, .ref n2, .int (nI cd), .int (nI dt), .ref e0, .ref e1, .int (nI rt), .ref e2, .ref e3, .ref e4, .int (nI sz9), .int (nI (at9 + kb)), .int (nI fl), .int pl, .int (nI wr), .ref e5]))]) [0] rfl
                have hDc := hD.sub (ws' := [(m0, .inr (4, [.ref n0, .ref n1, .ref n2, .int (nI cd), .int (nI dt), .ref e0, .ref e1, .int (nI rt), .ref e2, .ref e3, .ref e4, .int (nI sz9), .int (nI (at9 + kb)), .int (nI fl), .int pl, .int (nI wr), .ref e5]))]) [0] (by decide) rfl
                have hFc := va_free (wc := [(m0, .inr (4, [.ref n0, .ref n1, .ref n2, .int (nI cd), .int (nI dt), .ref e0, .ref e1, .int (nI rt), .ref e2, .ref e3, .ref e4, .int (nI sz9), .int (nI (at9 + kb)), .int (nI fl), .int pl, .int (nI wr), .ref e5]))]) hD hS hA [0] rfl
                refine zc_Mv (va_runV (As := [.int (nI 2), .int (nI (at9 + kb))]) (rest := []) ⟨hx, hb, hml, hown, hw⟩ (c_fails_1 l dC dI m0 n0 n1 n2 cd dt e0 e1 rt e2 e3 e4 sz9 (at9 + kb) fl pl wr e5 cI cB 2 (nI (at9 + kb)) (by omega) H.size) (cwV 2 hw (gV w_ml_M_111 w_im_M_fails w_se_M_fails w_in_M w_co_M_fails) rfl rfl rfl (by decide +kernel) ⟨Nat.le_of_ble_eq_true rfl, Nat.le_of_ble_eq_true rfl⟩) (zM_V hG hS hFc hPc hDc hK 0 rfl rfl) rfl rfl hl.1 rfl (lv_room (Nat.le_of_ble_eq_true rfl)) dM_takeDigits_128 ⟨Nat.le_of_ble_eq_true rfl, Nat.le_of_ble_eq_true rfl⟩) hS hFc (fun H locs h_128 hP1 hD1 hk1 hS => ?_)
                obtain ⟨hP, hD⟩ := va_join (wr := [(e4, .inl (cI, 400, .inl (aN tp))), (rw, .inl (cI, N9, .inl (aN f)))]) (w1 := [(m0, .inr (4, [.ref n0, .ref n1, .ref n2, .int (nI cd), .int (nI dt), .ref e0, .ref e1, .int (nI rt), .ref e2, .ref e3, .ref e4, .int (nI sz9), .int (nI (at9 + kb)), .int (nI 2), .int (nI (at9 + kb)), .int (nI wr), .ref e5]))]) hP hD [0] [1, 2] rfl rfl (by decide) (by decide) hk1 hFc hP1 hD1
                have hP : va_P (dC, dI) vwCl [(e4, .inl (cI, 400, .inl (aN tp))), (rw, .inl (cI, N9, .inl (aN f))), (m0, .inr (4, [.ref n0, .ref n1, .ref n2, .int (nI cd), .int (nI dt), .ref e0, .ref e1, .int (nI rt), .ref e2, .ref e3, .ref e4, .int (nI sz9), .int (nI (at9 + kb)), .int (nI 2), .int (nI (at9 + kb)), .int (nI wr), .ref e5]))] H := hP
                have hD : va_D A [(e4, .inl (cI, 400, .inl (aN tp))), (rw, .inl (cI, N9, .inl (aN f))), (m0, .inr (4, [.ref n0, .ref n1, .ref n2, .int (nI cd), .int (nI dt), .ref e0, .ref e1, .int (nI rt), .ref e2, .ref e3, .ref e4, .int (nI sz9), .int (nI (at9 + kb)), .int (nI 2), .int (nI (at9 + kb)), .int (nI wr), .ref e5]))] := hD
                refine lv_goto (tgt := 177) hx hb dM_takeDigits_131 (by decide) ?_
                refine lv_iinc (v := nI (kb + 1)) (lv' := [(6, .int (nI (kb + 1))), (9, .int (nI 0)), (8, .int (nI ((tp (at9 + kb)) % 16))), (7, .int (nI ((tp (at9 + kb)) / 16))), (0, .ref m0), (1, .int (nI ct)), (2, .ref rw), (3, .int (nI fr)), (4, .int (nI ((ct + 1) / 2))), (5, .int (nI (ct % 2)))]) hx hb dM_takeDigits_177 hl (k := 9) rfl (zi_incr kb 1) (by decide) rfl (fun ls hl => ?_)
                refine lv_goto (tgt := 38) hx hb dM_takeDigits_180 (by decide) ?_
                refine lv_iload hx hb dM_takeDigits_38 (lv_at hl 0 rfl) ?_
                refine lv_iload hx hb dM_takeDigits_40 (lv_at hl 8 rfl) ?_
                refine zi_ge (tgt := 183) hx hb (by omega) (by omega) dM_takeDigits_42 (by decide) (fun c_42 => ?_) (fun c_42 => ?_)
                · subst hAe
                  subst hQ
                  exact W.vret hx hb hr (fun t ht hW => ⟨⟨((at9 + kb), f), rfl, trivial, by rw [ht]; exact hP.sub [2, 0, 1] rfl, hD.sub [2, 0, 1] (by decide) rfl⟩, hS.F ht⟩) hS.2.2 dM_takeDigits_183
                · refine lv_aload_n hx hb dM_takeDigits_45 rfl (lv_at hl 4 rfl) ?_
                  refine va_get (D := (dC, dI)) (ci := 4) (v := .int (nI 2)) (C := RM) (T := TM) (N := 17) hx hb hw inM hown hK hP 2 rfl rfl 13 (by decide) (hw _ w_fl_M_102) (fun _ h9 => h9) rfl dM_takeDigits_46 ?_
                  refine lv_if_ne (tgt := 183) hx hb dM_takeDigits_49 (by decide) (fun c_49 => ?_) (fun q => False.elim (absurd q (by decide)))
                  subst hAe
                  subst hQ
                  exact W.vret hx hb hr (fun t ht hW => ⟨⟨((at9 + kb), f), rfl, trivial, by rw [ht]; exact hP.sub [2, 0, 1] rfl, hD.sub [2, 0, 1] (by decide) rfl⟩, hS.F ht⟩) hS.2.2 dM_takeDigits_183
              · refine lv_iload hx hb dM_takeDigits_105 (lv_at hl 1 rfl) ?_
                refine lv_bipush (v := nI 9) hx hb dM_takeDigits_107 (by decide) ?_
                refine zi_gt (tgt := 122) hx hb (by omega) (by omega) dM_takeDigits_109 (by decide) (fun c_109 => ?_) (fun c_109 => ?_)
                · refine lv_aload_n hx hb dM_takeDigits_122 rfl (lv_at hl 3 rfl) ?_
                  refine lv_iconst (v := nI 2) hx hb dM_takeDigits_123 (by decide) ?_
                  refine lv_aload_n hx hb dM_takeDigits_124 rfl (lv_at hl 3 rfl) ?_
                  refine va_get (D := (dC, dI)) (ci := 4) (v := .int (nI (at9 + kb))) (C := RM) (T := TM) (N := 17) hx hb hw inM hown hK hP 0 rfl rfl 12 (by decide) (hw _ w_fl_M_108) (fun _ h9 => h9) rfl dM_takeDigits_125 ?_
                  have hPc := hP.sub (ws' := [(m0, .inr (4, [.ref n0, .ref n1, .ref n2, .int (nI cd), .int (nI dt), .ref e0, .ref e1, .int (nI rt), .ref e2, .ref e3, .ref e4, .int (nI sz9), .int (nI (at9 + kb)), .int (nI fl), .int pl, .int (nI wr), .ref e5]))]) [0] rfl
                  have hDc := hD.sub (ws' := [(m0, .inr (4, [.ref n0, .ref n1, .ref n2, .int (nI cd), .int (nI dt), .ref e0, .ref e1, .int (nI rt), .ref e2, .ref e3, .ref e4, .int (nI sz9), .int (nI (at9 + kb)), .int (nI fl), .int pl, .int (nI wr), .ref e5]))]) [0] (by decide) rfl
                  have hFc := va_free (wc := [(m0, .inr (4, [.ref n0, .ref n1, .ref n2, .int (nI cd), .int (nI dt), .ref e0, .ref e1, .int (nI rt), .ref e2, .ref e3, .ref e4, .int (nI sz9), .int (nI (at9 + kb)), .int (nI fl), .int pl, .int (nI wr), .ref e5]))]) hD hS hA [0] rfl
                  refine zc_Mv (va_runV (As := [.int (nI 2), .int (nI (at9 + kb))]) (rest := []) ⟨hx, hb, hml, hown, hw⟩ (c_fails_1 l dC dI m0 n0 n1 n2 cd dt e0 e1 rt e2 e3 e4 sz9 (at9 + kb) fl pl wr e5 cI cB 2 (nI (at9 + kb)) (by omega) H.size) (cwV 2 hw (gV w_ml_M_111 w_im_M_fails w_se_M_fails w_in_M w_co_M_fails) rfl rfl rfl (by decide +kernel) ⟨Nat.le_of_ble_eq_true rfl, Nat.le_of_ble_eq_true rfl⟩) (zM_V hG hS hFc hPc hDc hK 0 rfl rfl) rfl rfl hl.1 rfl (lv_room (Nat.le_of_ble_eq_true rfl)) dM_takeDigits_128 ⟨Nat.le_of_ble_eq_true rfl, Nat.le_of_ble_eq_true rfl⟩) hS hFc (fun H locs h_128 hP1 hD1 hk1 hS => ?_)
                  obtain ⟨hP, hD⟩ := va_join (wr := [(e4, .inl (cI, 400, .inl (aN tp))), (rw, .inl (cI, N9, .inl (aN f)))]) (w1 := [(m0, .inr (4, [.ref n0, .ref n1, .ref n2, .int (nI cd), .int (nI dt), .ref e0, .ref e1, .int (nI rt), .ref e2, .ref e3, .ref e4, .int (nI sz9), .int (nI (at9 + kb)), .int (nI 2), .int (nI (at9 + kb)), .int (nI wr), .ref e5]))]) hP hD [0] [1, 2] rfl rfl (by decide) (by decide) hk1 hFc hP1 hD1
                  have hP : va_P (dC, dI) vwCl [(e4, .inl (cI, 400, .inl (aN tp))), (rw, .inl (cI, N9, .inl (aN f))), (m0, .inr (4, [.ref n0, .ref n1, .ref n2, .int (nI cd), .int (nI dt), .ref e0, .ref e1, .int (nI rt), .ref e2, .ref e3, .ref e4, .int (nI sz9), .int (nI (at9 + kb)), .int (nI 2), .int (nI (at9 + kb)), .int (nI wr), .ref e5]))] H := hP
                  have hD : va_D A [(e4, .inl (cI, 400, .inl (aN tp))), (rw, .inl (cI, N9, .inl (aN f))), (m0, .inr (4, [.ref n0, .ref n1, .ref n2, .int (nI cd), .int (nI dt), .ref e0, .ref e1, .int (nI rt), .ref e2, .ref e3, .ref e4, .int (nI sz9), .int (nI (at9 + kb)), .int (nI 2), .int (nI (at9 + kb)), .int (nI wr), .ref e5]))] := hD
                  refine lv_goto (tgt := 177) hx hb dM_takeDigits_131 (by decide) ?_
                  refine lv_iinc (v := nI (kb + 1)) (lv' := [(6, .int (nI (kb + 1))), (9, .int (nI 0)), (8, .int (nI ((tp (at9 + kb)) % 16))), (7, .int (nI ((tp (at9 + kb)) / 16))), (0, .ref m0), (1, .int (nI ct)), (2, .ref rw), (3, .int (nI fr)), (4, .int (nI ((ct + 1) / 2))), (5, .int (nI (ct % 2)))]) hx hb dM_takeDigits_177 hl (k := 9) rfl (zi_incr kb 1) (by decide) rfl (fun ls hl => ?_)
                  refine lv_goto (tgt := 38) hx hb dM_takeDigits_180 (by decide) ?_
                  refine lv_iload hx hb dM_takeDigits_38 (lv_at hl 0 rfl) ?_
                  refine lv_iload hx hb dM_takeDigits_40 (lv_at hl 8 rfl) ?_
                  refine zi_ge (tgt := 183) hx hb (by omega) (by omega) dM_takeDigits_42 (by decide) (fun c_42 => ?_) (fun c_42 => ?_)
                  · subst hAe
                    subst hQ
                    exact W.vret hx hb hr (fun t ht hW => ⟨⟨((at9 + kb), f), rfl, trivial, by rw [ht]; exact hP.sub [2, 0, 1] rfl, hD.sub [2, 0, 1] (by decide) rfl⟩, hS.F ht⟩) hS.2.2 dM_takeDigits_183
                  · refine lv_aload_n hx hb dM_takeDigits_45 rfl (lv_at hl 4 rfl) ?_
                    refine va_get (D := (dC, dI)) (ci := 4) (v := .int (nI 2)) (C := RM) (T := TM) (N := 17) hx hb hw inM hown hK hP 2 rfl rfl 13 (by decide) (hw _ w_fl_M_102) (fun _ h9 => h9) rfl dM_takeDigits_46 ?_
                    refine lv_if_ne (tgt := 183) hx hb dM_takeDigits_49 (by decide) (fun c_49 => ?_) (fun q => False.elim (absurd q (by decide)))
                    subst hAe
                    subst hQ
                    exact W.vret hx hb hr (fun t ht hW => ⟨⟨((at9 + kb), f), rfl, trivial, by rw [ht]; exact hP.sub [2, 0, 1] rfl, hD.sub [2, 0, 1] (by decide) rfl⟩, hS.F ht⟩) hS.2.2 dM_takeDigits_183
                · refine lv_iload hx hb dM_takeDigits_112 (lv_at hl 0 rfl) ?_
                  refine lv_if_eq (tgt := 134) hx hb dM_takeDigits_114 (by decide) (fun c_114 => ?_) (fun q => False.elim (absurd q (by decide)))
                  exfalso
                  first | omega | (have h9 := hx1; split at h9 <;> omega)
            · refine lv_iconst (v := nI 1) hx hb dM_takeDigits_91 (by decide) ?_
              refine lv_goto (tgt := 96) hx hb dM_takeDigits_92 (by decide) ?_
              refine lv_istore (lv' := [(9, .int (nI 1)), (8, .int (nI ((tp (at9 + kb)) % 16))), (7, .int (nI ((tp (at9 + kb)) / 16))), (0, .ref m0), (1, .int (nI ct)), (2, .ref rw), (3, .int (nI fr)), (4, .int (nI ((ct + 1) / 2))), (5, .int (nI (ct % 2))), (6, .int (nI kb))]) hx hb dM_takeDigits_96 hl (by decide) rfl (fun ls hl => ?_)
              refine lv_iload hx hb dM_takeDigits_98 (lv_at hl 2 rfl) ?_
              refine lv_bipush (v := nI 9) hx hb dM_takeDigits_100 (by decide) ?_
              refine zi_gt (tgt := 122) hx hb (by omega) (by omega) dM_takeDigits_102 (by decide) (fun c_102 => ?_) (fun c_102 => ?_)
              · refine lv_aload_n hx hb dM_takeDigits_122 rfl (lv_at hl 3 rfl) ?_
                refine lv_iconst (v := nI 2) hx hb dM_takeDigits_123 (by decide) ?_
                refine lv_aload_n hx hb dM_takeDigits_124 rfl (lv_at hl 3 rfl) ?_
                refine va_get (D := (dC, dI)) (ci := 4) (v := .int (nI (at9 + kb))) (C := RM) (T := TM) (N := 17) hx hb hw inM hown hK hP 0 rfl rfl 12 (by decide) (hw _ w_fl_M_108) (fun _ h9 => h9) rfl dM_takeDigits_125 ?_
                have hPc := hP.sub (ws' := [(m0, .inr (4, [.ref n0, .ref n1, .ref n2, .int (nI cd), .int (nI dt), .ref e0, .ref e1, .int (nI rt), .ref e2, .ref e3, .ref e4, .int (nI sz9), .int (nI (at9 + kb)), .int (nI fl), .int pl, .int (nI wr), .ref e5]))]) [0] rfl
                have hDc := hD.sub (ws' := [(m0, .inr (4, [.ref n0, .ref n1, .ref n2, .int (nI cd), .int (nI dt), .ref e0, .ref e1, .int (nI rt), .ref e2, .ref e3, .ref e4, .int (nI sz9), .int (nI (at9 + kb)), .int (nI fl), .int pl, .int (nI wr), .ref e5]))]) [0] (by decide) rfl
                have hFc := va_free (wc := [(m0, .inr (4, [.ref n0, .ref n1, .ref n2, .int (nI cd), .int (nI dt), .ref e0, .ref e1, .int (nI rt), .ref e2, .ref e3, .ref e4, .int (nI sz9), .int (nI (at9 + kb)), .int (nI fl), .int pl, .int (nI wr), .ref e5]))]) hD hS hA [0] rfl
                refine zc_Mv (va_runV (As := [.int (nI 2), .int (nI (at9 + kb))]) (rest := []) ⟨hx, hb, hml, hown, hw⟩ (c_fails_1 l dC dI m0 n0 n1 n2 cd dt e0 e1 rt e2 e3 e4 sz9 (at9 + kb) fl pl wr e5 cI cB 2 (nI (at9 + kb)) (by omega) H.size) (cwV 2 hw (gV w_ml_M_111 w_im_M_fails w_se_M_fails w_in_M w_co_M_fails) rfl rfl rfl (by decide +kernel) ⟨Nat.le_of_ble_eq_true rfl, Nat.le_of_ble_eq_true rfl⟩) (zM_V hG hS hFc hPc hDc hK 0 rfl rfl) rfl rfl hl.1 rfl (lv_room (Nat.le_of_ble_eq_true rfl)) dM_takeDigits_128 ⟨Nat.le_of_ble_eq_true rfl, Nat.le_of_ble_eq_true rfl⟩) hS hFc (fun H locs h_128 hP1 hD1 hk1 hS => ?_)
                obtain ⟨hP, hD⟩ := va_join (wr := [(e4, .inl (cI, 400, .inl (aN tp))), (rw, .inl (cI, N9, .inl (aN f)))]) (w1 := [(m0, .inr (4, [.ref n0, .ref n1, .ref n2, .int (nI cd), .int (nI dt), .ref e0, .ref e1, .int (nI rt), .ref e2, .ref e3, .ref e4, .int (nI sz9), .int (nI (at9 + kb)), .int (nI 2), .int (nI (at9 + kb)), .int (nI wr), .ref e5]))]) hP hD [0] [1, 2] rfl rfl (by decide) (by decide) hk1 hFc hP1 hD1
                have hP : va_P (dC, dI) vwCl [(e4, .inl (cI, 400, .inl (aN tp))), (rw, .inl (cI, N9, .inl (aN f))), (m0, .inr (4, [.ref n0, .ref n1, .ref n2, .int (nI cd), .int (nI dt), .ref e0, .ref e1, .int (nI rt), .ref e2, .ref e3, .ref e4, .int (nI sz9), .int (nI (at9 + kb)), .int (nI 2), .int (nI (at9 + kb)), .int (nI wr), .ref e5]))] H := hP
                have hD : va_D A [(e4, .inl (cI, 400, .inl (aN tp))), (rw, .inl (cI, N9, .inl (aN f))), (m0, .inr (4, [.ref n0, .ref n1, .ref n2, .int (nI cd), .int (nI dt), .ref e0, .ref e1, .int (nI rt), .ref e2, .ref e3, .ref e4, .int (nI sz9), .int (nI (at9 + kb)), .int (nI 2), .int (nI (at9 + kb)), .int (nI wr), .ref e5]))] := hD
                refine lv_goto (tgt := 177) hx hb dM_takeDigits_131 (by decide) ?_
                refine lv_iinc (v := nI (kb + 1)) (lv' := [(6, .int (nI (kb + 1))), (9, .int (nI 1)), (8, .int (nI ((tp (at9 + kb)) % 16))), (7, .int (nI ((tp (at9 + kb)) / 16))), (0, .ref m0), (1, .int (nI ct)), (2, .ref rw), (3, .int (nI fr)), (4, .int (nI ((ct + 1) / 2))), (5, .int (nI (ct % 2)))]) hx hb dM_takeDigits_177 hl (k := 9) rfl (zi_incr kb 1) (by decide) rfl (fun ls hl => ?_)
                refine lv_goto (tgt := 38) hx hb dM_takeDigits_180 (by decide) ?_
                refine lv_iload hx hb dM_takeDigits_38 (lv_at hl 0 rfl) ?_
                refine lv_iload hx hb dM_takeDigits_40 (lv_at hl 8 rfl) ?_
                refine zi_ge (tgt := 183) hx hb (by omega) (by omega) dM_takeDigits_42 (by decide) (fun c_42 => ?_) (fun c_42 => ?_)
                · subst hAe
                  subst hQ
                  exact W.vret hx hb hr (fun t ht hW => ⟨⟨((at9 + kb), f), rfl, trivial, by rw [ht]; exact hP.sub [2, 0, 1] rfl, hD.sub [2, 0, 1] (by decide) rfl⟩, hS.F ht⟩) hS.2.2 dM_takeDigits_183
                · refine lv_aload_n hx hb dM_takeDigits_45 rfl (lv_at hl 4 rfl) ?_
                  refine va_get (D := (dC, dI)) (ci := 4) (v := .int (nI 2)) (C := RM) (T := TM) (N := 17) hx hb hw inM hown hK hP 2 rfl rfl 13 (by decide) (hw _ w_fl_M_102) (fun _ h9 => h9) rfl dM_takeDigits_46 ?_
                  refine lv_if_ne (tgt := 183) hx hb dM_takeDigits_49 (by decide) (fun c_49 => ?_) (fun q => False.elim (absurd q (by decide)))
                  subst hAe
                  subst hQ
                  exact W.vret hx hb hr (fun t ht hW => ⟨⟨((at9 + kb), f), rfl, trivial, by rw [ht]; exact hP.sub [2, 0, 1] rfl, hD.sub [2, 0, 1] (by decide) rfl⟩, hS.F ht⟩) hS.2.2 dM_takeDigits_183
              · refine lv_iload hx hb dM_takeDigits_105 (lv_at hl 1 rfl) ?_
                refine lv_bipush (v := nI 9) hx hb dM_takeDigits_107 (by decide) ?_
                refine zi_gt (tgt := 122) hx hb (by omega) (by omega) dM_takeDigits_109 (by decide) (fun c_109 => ?_) (fun c_109 => ?_)
                · refine lv_aload_n hx hb dM_takeDigits_122 rfl (lv_at hl 3 rfl) ?_
                  refine lv_iconst (v := nI 2) hx hb dM_takeDigits_123 (by decide) ?_
                  refine lv_aload_n hx hb dM_takeDigits_124 rfl (lv_at hl 3 rfl) ?_
                  refine va_get (D := (dC, dI)) (ci := 4) (v := .int (nI (at9 + kb))) (C := RM) (T := TM) (N := 17) hx hb hw inM hown hK hP 0 rfl rfl 12 (by decide) (hw _ w_fl_M_108) (fun _ h9 => h9) rfl dM_takeDigits_125 ?_
                  have hPc := hP.sub (ws' := [(m0, .inr (4, [.ref n0, .ref n1, .ref n2, .int (nI cd), .int (nI dt), .ref e0, .ref e1, .int (nI rt), .ref e2, .ref e3, .ref e4, .int (nI sz9), .int (nI (at9 + kb)), .int (nI fl), .int pl, .int (nI wr), .ref e5]))]) [0] rfl
                  have hDc := hD.sub (ws' := [(m0, .inr (4, [.ref n0, .ref n1, .ref n2, .int (nI cd), .int (nI dt), .ref e0, .ref e1, .int (nI rt), .ref e2, .ref e3, .ref e4, .int (nI sz9), .int (nI (at9 + kb)), .int (nI fl), .int pl, .int (nI wr), .ref e5]))]) [0] (by decide) rfl
                  have hFc := va_free (wc := [(m0, .inr (4, [.ref n0, .ref n1, .ref n2, .int (nI cd), .int (nI dt), .ref e0, .ref e1, .int (nI rt), .ref e2, .ref e3, .ref e4, .int (nI sz9), .int (nI (at9 + kb)), .int (nI fl), .int pl, .int (nI wr), .ref e5]))]) hD hS hA [0] rfl
                  refine zc_Mv (va_runV (As := [.int (nI 2), .int (nI (at9 + kb))]) (rest := []) ⟨hx, hb, hml, hown, hw⟩ (c_fails_1 l dC dI m0 n0 n1 n2 cd dt e0 e1 rt e2 e3 e4 sz9 (at9 + kb) fl pl wr e5 cI cB 2 (nI (at9 + kb)) (by omega) H.size) (cwV 2 hw (gV w_ml_M_111 w_im_M_fails w_se_M_fails w_in_M w_co_M_fails) rfl rfl rfl (by decide +kernel) ⟨Nat.le_of_ble_eq_true rfl, Nat.le_of_ble_eq_true rfl⟩) (zM_V hG hS hFc hPc hDc hK 0 rfl rfl) rfl rfl hl.1 rfl (lv_room (Nat.le_of_ble_eq_true rfl)) dM_takeDigits_128 ⟨Nat.le_of_ble_eq_true rfl, Nat.le_of_ble_eq_true rfl⟩) hS hFc (fun H locs h_128 hP1 hD1 hk1 hS => ?_)
                  obtain ⟨hP, hD⟩ := va_join (wr := [(e4, .inl (cI, 400, .inl (aN tp))), (rw, .inl (cI, N9, .inl (aN f)))]) (w1 := [(m0, .inr (4, [.ref n0, .ref n1, .ref n2, .int (nI cd), .int (nI dt), .ref e0, .ref e1, .int (nI rt), .ref e2, .ref e3, .ref e4, .int (nI sz9), .int (nI (at9 + kb)), .int (nI 2), .int (nI (at9 + kb)), .int (nI wr), .ref e5]))]) hP hD [0] [1, 2] rfl rfl (by decide) (by decide) hk1 hFc hP1 hD1
                  have hP : va_P (dC, dI) vwCl [(e4, .inl (cI, 400, .inl (aN tp))), (rw, .inl (cI, N9, .inl (aN f))), (m0, .inr (4, [.ref n0, .ref n1, .ref n2, .int (nI cd), .int (nI dt), .ref e0, .ref e1, .int (nI rt), .ref e2, .ref e3, .ref e4, .int (nI sz9), .int (nI (at9 + kb)), .int (nI 2), .int (nI (at9 + kb)), .int (nI wr), .ref e5]))] H := hP
                  have hD : va_D A [(e4, .inl (cI, 400, .inl (aN tp))), (rw, .inl (cI, N9, .inl (aN f))), (m0, .inr (4, [.ref n0, .ref n1, .ref n2, .int (nI cd), .int (nI dt), .ref e0, .ref e1, .int (nI rt), .ref e2, .ref e3, .ref e4, .int (nI sz9), .int (nI (at9 + kb)), .int (nI 2), .int (nI (at9 + kb)), .int (nI wr), .ref e5]))] := hD
                  refine lv_goto (tgt := 177) hx hb dM_takeDigits_131 (by decide) ?_
                  refine lv_iinc (v := nI (kb + 1)) (lv' := [(6, .int (nI (kb + 1))), (9, .int (nI 1)), (8, .int (nI ((tp (at9 + kb)) % 16))), (7, .int (nI ((tp (at9 + kb)) / 16))), (0, .ref m0), (1, .int (nI ct)), (2, .ref rw), (3, .int (nI fr)), (4, .int (nI ((ct + 1) / 2))), (5, .int (nI (ct % 2)))]) hx hb dM_takeDigits_177 hl (k := 9) rfl (zi_incr kb 1) (by decide) rfl (fun ls hl => ?_)
                  refine lv_goto (tgt := 38) hx hb dM_takeDigits_180 (by decide) ?_
                  refine lv_iload hx hb dM_takeDigits_38 (lv_at hl 0 rfl) ?_
                  refine lv_iload hx hb dM_takeDigits_40 (lv_at hl 8 rfl) ?_
                  refine zi_ge (tgt := 183) hx hb (by omega) (by omega) dM_takeDigits_42 (by decide) (fun c_42 => ?_) (fun c_42 => ?_)
                  · subst hAe
                    subst hQ
                    exact W.vret hx hb hr (fun t ht hW => ⟨⟨((at9 + kb), f), rfl, trivial, by rw [ht]; exact hP.sub [2, 0, 1] rfl, hD.sub [2, 0, 1] (by decide) rfl⟩, hS.F ht⟩) hS.2.2 dM_takeDigits_183
                  · refine lv_aload_n hx hb dM_takeDigits_45 rfl (lv_at hl 4 rfl) ?_
                    refine va_get (D := (dC, dI)) (ci := 4) (v := .int (nI 2)) (C := RM) (T := TM) (N := 17) hx hb hw inM hown hK hP 2 rfl rfl 13 (by decide) (hw _ w_fl_M_102) (fun _ h9 => h9) rfl dM_takeDigits_46 ?_
                    refine lv_if_ne (tgt := 183) hx hb dM_takeDigits_49 (by decide) (fun c_49 => ?_) (fun q => False.elim (absurd q (by decide)))
                    subst hAe
                    subst hQ
                    exact W.vret hx hb hr (fun t ht hW => ⟨⟨((at9 + kb), f), rfl, trivial, by rw [ht]; exact hP.sub [2, 0, 1] rfl, hD.sub [2, 0, 1] (by decide) rfl⟩, hS.F ht⟩) hS.2.2 dM_takeDigits_183
                · refine lv_iload hx hb dM_takeDigits_112 (lv_at hl 0 rfl) ?_
                  refine lv_if_eq (tgt := 134) hx hb dM_takeDigits_114 (by decide) (fun q => False.elim (absurd q (by decide))) (fun c_114 => ?_)
                  refine lv_iload hx hb dM_takeDigits_117 (lv_at hl 2 rfl) ?_
                  refine zi_le0 (tgt := 134) hx hb (by omega) dM_takeDigits_119 (by decide) (fun c_119 => ?_) (fun c_119 => ?_)
                  · exfalso
                    first | omega | (have h9 := hx1; split at h9 <;> omega)
                  · refine lv_aload_n hx hb dM_takeDigits_122 rfl (lv_at hl 3 rfl) ?_
                    refine lv_iconst (v := nI 2) hx hb dM_takeDigits_123 (by decide) ?_
                    refine lv_aload_n hx hb dM_takeDigits_124 rfl (lv_at hl 3 rfl) ?_
                    refine va_get (D := (dC, dI)) (ci := 4) (v := .int (nI (at9 + kb))) (C := RM) (T := TM) (N := 17) hx hb hw inM hown hK hP 0 rfl rfl 12 (by decide) (hw _ w_fl_M_108) (fun _ h9 => h9) rfl dM_takeDigits_125 ?_
                    have hPc := hP.sub (ws' := [(m0, .inr (4, [.ref n0, .ref n1, .ref n2, .int (nI cd), .int (nI dt), .ref e0, .ref e1, .int (nI rt), .ref e2, .ref e3, .ref e4, .int (nI sz9), .int (nI (at9 + kb)), .int (nI fl), .int pl, .int (nI wr), .ref e5]))]) [0] rfl
                    have hDc := hD.sub (ws' := [(m0, .inr (4, [.ref n0, .ref n1, .ref n2, .int (nI cd), .int (nI dt), .ref e0, .ref e1, .int (nI rt), .ref e2, .ref e3, .ref e4, .int (nI sz9), .int (nI (at9 + kb)), .int (nI fl), .int pl, .int (nI wr), .ref e5]))]) [0] (by decide) rfl
                    have hFc := va_free (wc := [(m0, .inr (4, [.ref n0, .ref n1, .ref n2, .int (nI cd), .int (nI dt), .ref e0, .ref e1, .int (nI rt), .ref e2, .ref e3, .ref e4, .int (nI sz9), .int (nI (at9 + kb)), .int (nI fl), .int pl, .int (nI wr), .ref e5]))]) hD hS hA [0] rfl
                    refine zc_Mv (va_runV (As := [.int (nI 2), .int (nI (at9 + kb))]) (rest := []) ⟨hx, hb, hml, hown, hw⟩ (c_fails_1 l dC dI m0 n0 n1 n2 cd dt e0 e1 rt e2 e3 e4 sz9 (at9 + kb) fl pl wr e5 cI cB 2 (nI (at9 + kb)) (by omega) H.size) (cwV 2 hw (gV w_ml_M_111 w_im_M_fails w_se_M_fails w_in_M w_co_M_fails) rfl rfl rfl (by decide +kernel) ⟨Nat.le_of_ble_eq_true rfl, Nat.le_of_ble_eq_true rfl⟩) (zM_V hG hS hFc hPc hDc hK 0 rfl rfl) rfl rfl hl.1 rfl (lv_room (Nat.le_of_ble_eq_true rfl)) dM_takeDigits_128 ⟨Nat.le_of_ble_eq_true rfl, Nat.le_of_ble_eq_true rfl⟩) hS hFc (fun H locs h_128 hP1 hD1 hk1 hS => ?_)
                    obtain ⟨hP, hD⟩ := va_join (wr := [(e4, .inl (cI, 400, .inl (aN tp))), (rw, .inl (cI, N9, .inl (aN f)))]) (w1 := [(m0, .inr (4, [.ref n0, .ref n1, .ref n2, .int (nI cd), .int (nI dt), .ref e0, .ref e1, .int (nI rt), .ref e2, .ref e3, .ref e4, .int (nI sz9), .int (nI (at9 + kb)), .int (nI 2), .int (nI (at9 + kb)), .int (nI wr), .ref e5]))]) hP hD [0] [1, 2] rfl rfl (by decide) (by decide) hk1 hFc hP1 hD1
                    have hP : va_P (dC, dI) vwCl [(e4, .inl (cI, 400, .inl (aN tp))), (rw, .inl (cI, N9, .inl (aN f))), (m0, .inr (4, [.ref n0, .ref n1, .ref n2, .int (nI cd), .int (nI dt), .ref e0, .ref e1, .int (nI rt), .ref e2, .ref e3, .ref e4, .int (nI sz9), .int (nI (at9 + kb)), .int (nI 2), .int (nI (at9 + kb)), .int (nI wr), .ref e5]))] H := hP
                    have hD : va_D A [(e4, .inl (cI, 400, .inl (aN tp))), (rw, .inl (cI, N9, .inl (aN f))), (m0, .inr (4, [.ref n0, .ref n1, .ref n2, .int (nI cd), .int (nI dt), .ref e0, .ref e1, .int (nI rt), .ref e2, .ref e3, .ref e4, .int (nI sz9), .int (nI (at9 + kb)), .int (nI 2), .int (nI (at9 + kb)), .int (nI wr), .ref e5]))] := hD
                    refine lv_goto (tgt := 177) hx hb dM_takeDigits_131 (by decide) ?_
                    refine lv_iinc (v := nI (kb + 1)) (lv' := [(6, .int (nI (kb + 1))), (9, .int (nI 1)), (8, .int (nI ((tp (at9 + kb)) % 16))), (7, .int (nI ((tp (at9 + kb)) / 16))), (0, .ref m0), (1, .int (nI ct)), (2, .ref rw), (3, .int (nI fr)), (4, .int (nI ((ct + 1) / 2))), (5, .int (nI (ct % 2)))]) hx hb dM_takeDigits_177 hl (k := 9) rfl (zi_incr kb 1) (by decide) rfl (fun ls hl => ?_)
                    refine lv_goto (tgt := 38) hx hb dM_takeDigits_180 (by decide) ?_
                    refine lv_iload hx hb dM_takeDigits_38 (lv_at hl 0 rfl) ?_
                    refine lv_iload hx hb dM_takeDigits_40 (lv_at hl 8 rfl) ?_
                    refine zi_ge (tgt := 183) hx hb (by omega) (by omega) dM_takeDigits_42 (by decide) (fun c_42 => ?_) (fun c_42 => ?_)
                    · subst hAe
                      subst hQ
                      exact W.vret hx hb hr (fun t ht hW => ⟨⟨((at9 + kb), f), rfl, trivial, by rw [ht]; exact hP.sub [2, 0, 1] rfl, hD.sub [2, 0, 1] (by decide) rfl⟩, hS.F ht⟩) hS.2.2 dM_takeDigits_183
                    · refine lv_aload_n hx hb dM_takeDigits_45 rfl (lv_at hl 4 rfl) ?_
                      refine va_get (D := (dC, dI)) (ci := 4) (v := .int (nI 2)) (C := RM) (T := TM) (N := 17) hx hb hw inM hown hK hP 2 rfl rfl 13 (by decide) (hw _ w_fl_M_102) (fun _ h9 => h9) rfl dM_takeDigits_46 ?_
                      refine lv_if_ne (tgt := 183) hx hb dM_takeDigits_49 (by decide) (fun c_49 => ?_) (fun q => False.elim (absurd q (by decide)))
                      subst hAe
                      subst hQ
                      exact W.vret hx hb hr (fun t ht hW => ⟨⟨((at9 + kb), f), rfl, trivial, by rw [ht]; exact hP.sub [2, 0, 1] rfl, hD.sub [2, 0, 1] (by decide) rfl⟩, hS.F ht⟩) hS.2.2 dM_takeDigits_183
        · rw [hh0] at hx1
          rw [hh1, if_neg (show ¬ 2 * kb + 1 < ct % 2 by omega)] at hx2
          refine lv_aload_n hx hb dM_takeDigits_52 rfl (lv_at hl 0 rfl) ?_
          refine va_get (D := (dC, dI)) (ci := 4) (v := .ref e4) (C := RM) (T := TM) (N := 17) hx hb hw inM hown hK hP 0 rfl rfl 10 (by decide) (hw _ w_fl_M_35) (fun _ h9 => h9) rfl dM_takeDigits_53 ?_
          refine lv_aload_n hx hb dM_takeDigits_56 rfl (lv_at hl 0 rfl) ?_
          refine va_get (D := (dC, dI)) (ci := 4) (v := .int (nI (at9 + kb))) (C := RM) (T := TM) (N := 17) hx hb hw inM hown hK hP 0 rfl rfl 12 (by decide) (hw _ w_fl_M_108) (fun _ h9 => h9) rfl dM_takeDigits_57 ?_
          refine za_ild hx hb hK hP 1 0 rfl rfl (by omega) (by decide) dM_takeDigits_60 ?_
          refine lv_bipush (v := nI 16) hx hb dM_takeDigits_61 (by decide) ?_
          refine zi_div hx hb (by omega) (by omega) (by omega) dM_takeDigits_63 ?_
          refine lv_istore (lv' := [(7, .int (nI ((tp (at9 + kb)) / 16))), (0, .ref m0), (1, .int (nI ct)), (2, .ref rw), (3, .int (nI fr)), (4, .int (nI ((ct + 1) / 2))), (5, .int (nI (ct % 2))), (6, .int (nI kb))]) hx hb dM_takeDigits_64 hl (by decide) rfl (fun ls hl => ?_)
          refine lv_aload_n hx hb dM_takeDigits_66 rfl (lv_at hl 1 rfl) ?_
          refine va_get (D := (dC, dI)) (ci := 4) (v := .ref e4) (C := RM) (T := TM) (N := 17) hx hb hw inM hown hK hP 0 rfl rfl 10 (by decide) (hw _ w_fl_M_35) (fun _ h9 => h9) rfl dM_takeDigits_67 ?_
          refine lv_aload_n hx hb dM_takeDigits_70 rfl (lv_at hl 1 rfl) ?_
          refine va_get (D := (dC, dI)) (ci := 4) (v := .int (nI (at9 + kb))) (C := RM) (T := TM) (N := 17) hx hb hw inM hown hK hP 0 rfl rfl 12 (by decide) (hw _ w_fl_M_108) (fun _ h9 => h9) rfl dM_takeDigits_71 ?_
          refine za_ild hx hb hK hP 1 0 rfl rfl (by omega) (by decide) dM_takeDigits_74 ?_
          refine lv_bipush (v := nI 16) hx hb dM_takeDigits_75 (by decide) ?_
          refine zi_rem hx hb (by omega) (by omega) (by omega) dM_takeDigits_77 ?_
          refine lv_istore (lv' := [(8, .int (nI ((tp (at9 + kb)) % 16))), (7, .int (nI ((tp (at9 + kb)) / 16))), (0, .ref m0), (1, .int (nI ct)), (2, .ref rw), (3, .int (nI fr)), (4, .int (nI ((ct + 1) / 2))), (5, .int (nI (ct % 2))), (6, .int (nI kb))]) hx hb dM_takeDigits_78 hl (by decide) rfl (fun ls hl => ?_)
          refine lv_iload hx hb dM_takeDigits_80 (lv_at hl 7 rfl) ?_
          refine lv_iconst (v := nI 1) hx hb dM_takeDigits_82 (by decide) ?_
          refine zi_ne (tgt := 95) hx hb (by omega) (by omega) dM_takeDigits_83 (by decide) (fun c_83 => ?_) (fun c_83 => ?_)
          · refine lv_iconst (v := nI 0) hx hb dM_takeDigits_95 (by decide) ?_
            refine lv_istore (lv' := [(9, .int (nI 0)), (8, .int (nI ((tp (at9 + kb)) % 16))), (7, .int (nI ((tp (at9 + kb)) / 16))), (0, .ref m0), (1, .int (nI ct)), (2, .ref rw), (3, .int (nI fr)), (4, .int (nI ((ct + 1) / 2))), (5, .int (nI (ct % 2))), (6, .int (nI kb))]) hx hb dM_takeDigits_96 hl (by decide) rfl (fun ls hl => ?_)
            refine lv_iload hx hb dM_takeDigits_98 (lv_at hl 2 rfl) ?_
            refine lv_bipush (v := nI 9) hx hb dM_takeDigits_100 (by decide) ?_
            refine zi_gt (tgt := 122) hx hb (by omega) (by omega) dM_takeDigits_102 (by decide) (fun q => False.elim ((by have h9 := hx1; split at h9 <;> omega))) (fun c_102 => ?_)
            refine lv_iload hx hb dM_takeDigits_105 (lv_at hl 1 rfl) ?_
            refine lv_bipush (v := nI 9) hx hb dM_takeDigits_107 (by decide) ?_
            refine zi_gt (tgt := 122) hx hb (by omega) (by omega) dM_takeDigits_109 (by decide) (fun q => False.elim ((by omega))) (fun c_109 => ?_)
            refine lv_iload hx hb dM_takeDigits_112 (lv_at hl 0 rfl) ?_
            refine lv_if_eq (tgt := 134) hx hb dM_takeDigits_114 (by decide) (fun c_114 => ?_) (fun q => False.elim (absurd q (by decide)))
            refine lv_iload hx hb dM_takeDigits_134 (lv_at hl 0 rfl) ?_
            refine lv_if_ne (tgt := 152) hx hb dM_takeDigits_136 (by decide) (fun q => False.elim (absurd q (by decide))) (fun c_136 => ?_)
            refine lv_aload_n hx hb dM_takeDigits_139 rfl (lv_at hl 5 rfl) ?_
            refine lv_iload_n hx hb dM_takeDigits_140 rfl (lv_at hl 6 rfl) ?_
            refine lv_iconst (v := nI 2) hx hb dM_takeDigits_141 (by decide) ?_
            refine lv_iload hx hb dM_takeDigits_142 (lv_at hl 9 rfl) ?_
            refine zi_mul hx hb dM_takeDigits_144 ?_
            refine zi_add hx hb dM_takeDigits_145 ?_
            refine lv_iload hx hb dM_takeDigits_146 (lv_at hl 8 rfl) ?_
            refine zi_sub hx hb (by omega) dM_takeDigits_148 ?_
            refine lv_iload hx hb dM_takeDigits_149 (lv_at hl 2 rfl) ?_
            refine za_ist hx hb hK hP hD hS 2 0 rfl rfl (by omega) (by omega) dM_takeDigits_151 (fun H locs hP hD hS => ?_)
            have hP : va_P (dC, dI) vwCl [(m0, .inr (4, [.ref n0, .ref n1, .ref n2, .int (nI cd), .int (nI dt), .ref e0, .ref e1, .int (nI rt), .ref e2, .ref e3, .ref e4, .int (nI sz9), .int (nI (at9 + kb)), .int (nI fl), .int pl, .int (nI wr), .ref e5])), (e4, .inl (cI, 400, .inl (aN tp))), (rw, .inl (cI, N9, .inl (aN (nup f ((fr + (2 * kb)) - (ct % 2)) ((tp (at9 + kb)) / 16)))))] H := hP
            have hD : va_D A [(m0, .inr (4, [.ref n0, .ref n1, .ref n2, .int (nI cd), .int (nI dt), .ref e0, .ref e1, .int (nI rt), .ref e2, .ref e3, .ref e4, .int (nI sz9), .int (nI (at9 + kb)), .int (nI fl), .int pl, .int (nI wr), .ref e5])), (e4, .inl (cI, 400, .inl (aN tp))), (rw, .inl (cI, N9, .inl (aN (nup f ((fr + (2 * kb)) - (ct % 2)) ((tp (at9 + kb)) / 16)))))] := hD
            refine lv_aload_n hx hb dM_takeDigits_152 rfl (lv_at hl 5 rfl) ?_
            refine lv_iload_n hx hb dM_takeDigits_153 rfl (lv_at hl 6 rfl) ?_
            refine lv_iconst (v := nI 2) hx hb dM_takeDigits_154 (by decide) ?_
            refine lv_iload hx hb dM_takeDigits_155 (lv_at hl 9 rfl) ?_
            refine zi_mul hx hb dM_takeDigits_157 ?_
            refine zi_add hx hb dM_takeDigits_158 ?_
            refine lv_iconst (v := nI 1) hx hb dM_takeDigits_159 (by decide) ?_
            refine zi_add hx hb dM_takeDigits_160 ?_
            refine lv_iload hx hb dM_takeDigits_161 (lv_at hl 8 rfl) ?_
            refine zi_sub hx hb (by omega) dM_takeDigits_163 ?_
            refine lv_iload hx hb dM_takeDigits_164 (lv_at hl 1 rfl) ?_
            refine za_ist hx hb hK hP hD hS 2 0 rfl rfl (by omega) (by omega) dM_takeDigits_166 (fun H locs hP hD hS => ?_)
            have hP : va_P (dC, dI) vwCl [(m0, .inr (4, [.ref n0, .ref n1, .ref n2, .int (nI cd), .int (nI dt), .ref e0, .ref e1, .int (nI rt), .ref e2, .ref e3, .ref e4, .int (nI sz9), .int (nI (at9 + kb)), .int (nI fl), .int pl, .int (nI wr), .ref e5])), (e4, .inl (cI, 400, .inl (aN tp))), (rw, .inl (cI, N9, .inl (aN (nup (nup f ((fr + (2 * kb)) - (ct % 2)) ((tp (at9 + kb)) / 16)) (((fr + (2 * kb)) + 1) - (ct % 2)) ((tp (at9 + kb)) % 16)))))] H := hP
            have hD : va_D A [(m0, .inr (4, [.ref n0, .ref n1, .ref n2, .int (nI cd), .int (nI dt), .ref e0, .ref e1, .int (nI rt), .ref e2, .ref e3, .ref e4, .int (nI sz9), .int (nI (at9 + kb)), .int (nI fl), .int pl, .int (nI wr), .ref e5])), (e4, .inl (cI, 400, .inl (aN tp))), (rw, .inl (cI, N9, .inl (aN (nup (nup f ((fr + (2 * kb)) - (ct % 2)) ((tp (at9 + kb)) / 16)) (((fr + (2 * kb)) + 1) - (ct % 2)) ((tp (at9 + kb)) % 16)))))] := hD
            refine lv_aload_n hx hb dM_takeDigits_167 rfl (lv_at hl 3 rfl) ?_
            refine lv_dup hx hb dM_takeDigits_168 rfl ?_
            refine va_get (D := (dC, dI)) (ci := 4) (v := .int (nI (at9 + kb))) (C := RM) (T := TM) (N := 17) hx hb hw inM hown hK hP 0 rfl rfl 12 (by decide) (hw _ w_fl_M_108) (fun _ h9 => h9) rfl dM_takeDigits_169 ?_
            refine lv_iconst (v := nI 1) hx hb dM_takeDigits_172 (by decide) ?_
            refine zi_add hx hb dM_takeDigits_173 ?_
            refine va_put (D := (dC, dI)) (ci := 4) (v := .int (nI ((at9 + kb) + 1))) (ty := .int) (C := RM) (T := TM) (N := 17) hx hb hw inM tyM tyM_ok nmM hown hK hP hD hS 0 rfl rfl 12 (by decide) (hw _ w_fl_M_108) (fun _ h9 => h9) rfl (by decide +kernel) rfl rfl (Nat.le_of_ble_eq_true rfl) dM_takeDigits_174 (fun H locs hP hD hS => ?_)
            have hP : va_P (dC, dI) vwCl [(m0, .inr (4, [.ref n0, .ref n1, .ref n2, .int (nI cd), .int (nI dt), .ref e0, .ref e1, .int (nI rt), .ref e2, .ref e3, .ref e4, .int (nI sz9), .int (nI ((at9 + kb) + 1)), .int (nI fl), .int pl, .int (nI wr), .ref e5])), (e4, .inl (cI, 400, .inl (aN tp))), (rw, .inl (cI, N9, .inl (aN (nup (nup f ((fr + (2 * kb)) - (ct % 2)) ((tp (at9 + kb)) / 16)) (((fr + (2 * kb)) + 1) - (ct % 2)) ((tp (at9 + kb)) % 16)))))] H := hP
            have hD : va_D A [(m0, .inr (4, [.ref n0, .ref n1, .ref n2, .int (nI cd), .int (nI dt), .ref e0, .ref e1, .int (nI rt), .ref e2, .ref e3, .ref e4, .int (nI sz9), .int (nI ((at9 + kb) + 1)), .int (nI fl), .int pl, .int (nI wr), .ref e5])), (e4, .inl (cI, 400, .inl (aN tp))), (rw, .inl (cI, N9, .inl (aN (nup (nup f ((fr + (2 * kb)) - (ct % 2)) ((tp (at9 + kb)) / 16)) (((fr + (2 * kb)) + 1) - (ct % 2)) ((tp (at9 + kb)) % 16)))))] := hD
            refine lv_iinc (v := nI (kb + 1)) (lv' := [(6, .int (nI (kb + 1))), (9, .int (nI 0)), (8, .int (nI ((tp (at9 + kb)) % 16))), (7, .int (nI ((tp (at9 + kb)) / 16))), (0, .ref m0), (1, .int (nI ct)), (2, .ref rw), (3, .int (nI fr)), (4, .int (nI ((ct + 1) / 2))), (5, .int (nI (ct % 2)))]) hx hb dM_takeDigits_177 hl (k := 9) rfl (zi_incr kb 1) (by decide) rfl (fun ls hl => ?_)
            refine lv_goto (tgt := 38) hx hb dM_takeDigits_180 (by decide) ?_
            exact ih38 (kb + 1) (nup (nup f ((fr + (2 * kb)) - (ct % 2)) ((tp (at9 + kb)) / 16)) (((fr + (2 * kb)) + 1) - (ct % 2)) ((tp (at9 + kb)) % 16)) (by omega) hi2 (by omega) _ _ _ (lv_sub hl [4, 5, 6, 7, 8, 9, 0] rfl) (hP.sub [0, 1, 2] rfl) (hD.sub [0, 1, 2] (by decide) rfl) hS
          · refine lv_iload hx hb dM_takeDigits_86 (lv_at hl 8 rfl) ?_
            refine zi_ne0 (tgt := 95) hx hb (by omega) dM_takeDigits_88 (by decide) (fun c_88 => ?_) (fun c_88 => ?_)
            · refine lv_iconst (v := nI 0) hx hb dM_takeDigits_95 (by decide) ?_
              refine lv_istore (lv' := [(9, .int (nI 0)), (8, .int (nI ((tp (at9 + kb)) % 16))), (7, .int (nI ((tp (at9 + kb)) / 16))), (0, .ref m0), (1, .int (nI ct)), (2, .ref rw), (3, .int (nI fr)), (4, .int (nI ((ct + 1) / 2))), (5, .int (nI (ct % 2))), (6, .int (nI kb))]) hx hb dM_takeDigits_96 hl (by decide) rfl (fun ls hl => ?_)
              refine lv_iload hx hb dM_takeDigits_98 (lv_at hl 2 rfl) ?_
              refine lv_bipush (v := nI 9) hx hb dM_takeDigits_100 (by decide) ?_
              refine zi_gt (tgt := 122) hx hb (by omega) (by omega) dM_takeDigits_102 (by decide) (fun q => False.elim ((by have h9 := hx1; split at h9 <;> omega))) (fun c_102 => ?_)
              refine lv_iload hx hb dM_takeDigits_105 (lv_at hl 1 rfl) ?_
              refine lv_bipush (v := nI 9) hx hb dM_takeDigits_107 (by decide) ?_
              refine zi_gt (tgt := 122) hx hb (by omega) (by omega) dM_takeDigits_109 (by decide) (fun q => False.elim ((by omega))) (fun c_109 => ?_)
              refine lv_iload hx hb dM_takeDigits_112 (lv_at hl 0 rfl) ?_
              refine lv_if_eq (tgt := 134) hx hb dM_takeDigits_114 (by decide) (fun c_114 => ?_) (fun q => False.elim (absurd q (by decide)))
              refine lv_iload hx hb dM_takeDigits_134 (lv_at hl 0 rfl) ?_
              refine lv_if_ne (tgt := 152) hx hb dM_takeDigits_136 (by decide) (fun q => False.elim (absurd q (by decide))) (fun c_136 => ?_)
              refine lv_aload_n hx hb dM_takeDigits_139 rfl (lv_at hl 5 rfl) ?_
              refine lv_iload_n hx hb dM_takeDigits_140 rfl (lv_at hl 6 rfl) ?_
              refine lv_iconst (v := nI 2) hx hb dM_takeDigits_141 (by decide) ?_
              refine lv_iload hx hb dM_takeDigits_142 (lv_at hl 9 rfl) ?_
              refine zi_mul hx hb dM_takeDigits_144 ?_
              refine zi_add hx hb dM_takeDigits_145 ?_
              refine lv_iload hx hb dM_takeDigits_146 (lv_at hl 8 rfl) ?_
              refine zi_sub hx hb (by omega) dM_takeDigits_148 ?_
              refine lv_iload hx hb dM_takeDigits_149 (lv_at hl 2 rfl) ?_
              refine za_ist hx hb hK hP hD hS 2 0 rfl rfl (by omega) (by omega) dM_takeDigits_151 (fun H locs hP hD hS => ?_)
              have hP : va_P (dC, dI) vwCl [(m0, .inr (4, [.ref n0, .ref n1, .ref n2, .int (nI cd), .int (nI dt), .ref e0, .ref e1, .int (nI rt), .ref e2, .ref e3, .ref e4, .int (nI sz9), .int (nI (at9 + kb)), .int (nI fl), .int pl, .int (nI wr), .ref e5])), (e4, .inl (cI, 400, .inl (aN tp))), (rw, .inl (cI, N9, .inl (aN (nup f ((fr + (2 * kb)) - (ct % 2)) ((tp (at9 + kb)) / 16)))))] H := hP
              have hD : va_D A [(m0, .inr (4, [.ref n0, .ref n1, .ref n2, .int (nI cd), .int (nI dt), .ref e0, .ref e1, .int (nI rt), .ref e2, .ref e3, .ref e4, .int (nI sz9), .int (nI (at9 + kb)), .int (nI fl), .int pl, .int (nI wr), .ref e5])), (e4, .inl (cI, 400, .inl (aN tp))), (rw, .inl (cI, N9, .inl (aN (nup f ((fr + (2 * kb)) - (ct % 2)) ((tp (at9 + kb)) / 16)))))] := hD
              refine lv_aload_n hx hb dM_takeDigits_152 rfl (lv_at hl 5 rfl) ?_
              refine lv_iload_n hx hb dM_takeDigits_153 rfl (lv_at hl 6 rfl) ?_
              refine lv_iconst (v := nI 2) hx hb dM_takeDigits_154 (by decide) ?_
              refine lv_iload hx hb dM_takeDigits_155 (lv_at hl 9 rfl) ?_
              refine zi_mul hx hb dM_takeDigits_157 ?_
              refine zi_add hx hb dM_takeDigits_158 ?_
              refine lv_iconst (v := nI 1) hx hb dM_takeDigits_159 (by decide) ?_
              refine zi_add hx hb dM_takeDigits_160 ?_
              refine lv_iload hx hb dM_takeDigits_161 (lv_at hl 8 rfl) ?_
              refine zi_sub hx hb (by omega) dM_takeDigits_163 ?_
              refine lv_iload hx hb dM_takeDigits_164 (lv_at hl 1 rfl) ?_
              refine za_ist hx hb hK hP hD hS 2 0 rfl rfl (by omega) (by omega) dM_takeDigits_166 (fun H locs hP hD hS => ?_)
              have hP : va_P (dC, dI) vwCl [(m0, .inr (4, [.ref n0, .ref n1, .ref n2, .int (nI cd), .int (nI dt), .ref e0, .ref e1, .int (nI rt), .ref e2, .ref e3, .ref e4, .int (nI sz9), .int (nI (at9 + kb)), .int (nI fl), .int pl, .int (nI wr), .ref e5])), (e4, .inl (cI, 400, .inl (aN tp))), (rw, .inl (cI, N9, .inl (aN (nup (nup f ((fr + (2 * kb)) - (ct % 2)) ((tp (at9 + kb)) / 16)) (((fr + (2 * kb)) + 1) - (ct % 2)) ((tp (at9 + kb)) % 16)))))] H := hP
              have hD : va_D A [(m0, .inr (4, [.ref n0, .ref n1, .ref n2, .int (nI cd), .int (nI dt), .ref e0, .ref e1, .int (nI rt), .ref e2, .ref e3, .ref e4, .int (nI sz9), .int (nI (at9 + kb)), .int (nI fl), .int pl, .int (nI wr), .ref e5])), (e4, .inl (cI, 400, .inl (aN tp))), (rw, .inl (cI, N9, .inl (aN (nup (nup f ((fr + (2 * kb)) - (ct % 2)) ((tp (at9 + kb)) / 16)) (((fr + (2 * kb)) + 1) - (ct % 2)) ((tp (at9 + kb)) % 16)))))] := hD
              refine lv_aload_n hx hb dM_takeDigits_167 rfl (lv_at hl 3 rfl) ?_
              refine lv_dup hx hb dM_takeDigits_168 rfl ?_
              refine va_get (D := (dC, dI)) (ci := 4) (v := .int (nI (at9 + kb))) (C := RM) (T := TM) (N := 17) hx hb hw inM hown hK hP 0 rfl rfl 12 (by decide) (hw _ w_fl_M_108) (fun _ h9 => h9) rfl dM_takeDigits_169 ?_
              refine lv_iconst (v := nI 1) hx hb dM_takeDigits_172 (by decide) ?_
              refine zi_add hx hb dM_takeDigits_173 ?_
              refine va_put (D := (dC, dI)) (ci := 4) (v := .int (nI ((at9 + kb) + 1))) (ty := .int) (C := RM) (T := TM) (N := 17) hx hb hw inM tyM tyM_ok nmM hown hK hP hD hS 0 rfl rfl 12 (by decide) (hw _ w_fl_M_108) (fun _ h9 => h9) rfl (by decide +kernel) rfl rfl (Nat.le_of_ble_eq_true rfl) dM_takeDigits_174 (fun H locs hP hD hS => ?_)
              have hP : va_P (dC, dI) vwCl [(m0, .inr (4, [.ref n0, .ref n1, .ref n2, .int (nI cd), .int (nI dt), .ref e0, .ref e1, .int (nI rt), .ref e2, .ref e3, .ref e4, .int (nI sz9), .int (nI ((at9 + kb) + 1)), .int (nI fl), .int pl, .int (nI wr), .ref e5])), (e4, .inl (cI, 400, .inl (aN tp))), (rw, .inl (cI, N9, .inl (aN (nup (nup f ((fr + (2 * kb)) - (ct % 2)) ((tp (at9 + kb)) / 16)) (((fr + (2 * kb)) + 1) - (ct % 2)) ((tp (at9 + kb)) % 16)))))] H := hP
              have hD : va_D A [(m0, .inr (4, [.ref n0, .ref n1, .ref n2, .int (nI cd), .int (nI dt), .ref e0, .ref e1, .int (nI rt), .ref e2, .ref e3, .ref e4, .int (nI sz9), .int (nI ((at9 + kb) + 1)), .int (nI fl), .int pl, .int (nI wr), .ref e5])), (e4, .inl (cI, 400, .inl (aN tp))), (rw, .inl (cI, N9, .inl (aN (nup (nup f ((fr + (2 * kb)) - (ct % 2)) ((tp (at9 + kb)) / 16)) (((fr + (2 * kb)) + 1) - (ct % 2)) ((tp (at9 + kb)) % 16)))))] := hD
              refine lv_iinc (v := nI (kb + 1)) (lv' := [(6, .int (nI (kb + 1))), (9, .int (nI 0)), (8, .int (nI ((tp (at9 + kb)) % 16))), (7, .int (nI ((tp (at9 + kb)) / 16))), (0, .ref m0), (1, .int (nI ct)), (2, .ref rw), (3, .int (nI fr)), (4, .int (nI ((ct + 1) / 2))), (5, .int (nI (ct % 2)))]) hx hb dM_takeDigits_177 hl (k := 9) rfl (zi_incr kb 1) (by decide) rfl (fun ls hl => ?_)
              refine lv_goto (tgt := 38) hx hb dM_takeDigits_180 (by decide) ?_
              exact ih38 (kb + 1) (nup (nup f ((fr + (2 * kb)) - (ct % 2)) ((tp (at9 + kb)) / 16)) (((fr + (2 * kb)) + 1) - (ct % 2)) ((tp (at9 + kb)) % 16)) (by omega) hi2 (by omega) _ _ _ (lv_sub hl [4, 5, 6, 7, 8, 9, 0] rfl) (hP.sub [0, 1, 2] rfl) (hD.sub [0, 1, 2] (by decide) rfl) hS
            · refine lv_iconst (v := nI 1) hx hb dM_takeDigits_91 (by decide) ?_
              refine lv_goto (tgt := 96) hx hb dM_takeDigits_92 (by decide) ?_
              refine lv_istore (lv' := [(9, .int (nI 1)), (8, .int (nI ((tp (at9 + kb)) % 16))), (7, .int (nI ((tp (at9 + kb)) / 16))), (0, .ref m0), (1, .int (nI ct)), (2, .ref rw), (3, .int (nI fr)), (4, .int (nI ((ct + 1) / 2))), (5, .int (nI (ct % 2))), (6, .int (nI kb))]) hx hb dM_takeDigits_96 hl (by decide) rfl (fun ls hl => ?_)
              refine lv_iload hx hb dM_takeDigits_98 (lv_at hl 2 rfl) ?_
              refine lv_bipush (v := nI 9) hx hb dM_takeDigits_100 (by decide) ?_
              refine zi_gt (tgt := 122) hx hb (by omega) (by omega) dM_takeDigits_102 (by decide) (fun q => False.elim ((by have h9 := hx1; split at h9 <;> omega))) (fun c_102 => ?_)
              refine lv_iload hx hb dM_takeDigits_105 (lv_at hl 1 rfl) ?_
              refine lv_bipush (v := nI 9) hx hb dM_takeDigits_107 (by decide) ?_
              refine zi_gt (tgt := 122) hx hb (by omega) (by omega) dM_takeDigits_109 (by decide) (fun q => False.elim ((by omega))) (fun c_109 => ?_)
              refine lv_iload hx hb dM_takeDigits_112 (lv_at hl 0 rfl) ?_
              refine lv_if_eq (tgt := 134) hx hb dM_takeDigits_114 (by decide) (fun q => False.elim (absurd q (by decide))) (fun c_114 => ?_)
              refine lv_iload hx hb dM_takeDigits_117 (lv_at hl 2 rfl) ?_
              refine zi_le0 (tgt := 134) hx hb (by omega) dM_takeDigits_119 (by decide) (fun c_119 => ?_) (fun q => False.elim ((by rw [if_pos (by omega)] at hx1; omega)))
              refine lv_iload hx hb dM_takeDigits_134 (lv_at hl 0 rfl) ?_
              refine lv_if_ne (tgt := 152) hx hb dM_takeDigits_136 (by decide) (fun c_136 => ?_) (fun q => False.elim (absurd q (by decide)))
              refine lv_aload_n hx hb dM_takeDigits_152 rfl (lv_at hl 5 rfl) ?_
              refine lv_iload_n hx hb dM_takeDigits_153 rfl (lv_at hl 6 rfl) ?_
              refine lv_iconst (v := nI 2) hx hb dM_takeDigits_154 (by decide) ?_
              refine lv_iload hx hb dM_takeDigits_155 (lv_at hl 9 rfl) ?_
              refine zi_mul hx hb dM_takeDigits_157 ?_
              refine zi_add hx hb dM_takeDigits_158 ?_
              refine lv_iconst (v := nI 1) hx hb dM_takeDigits_159 (by decide) ?_
              refine zi_add hx hb dM_takeDigits_160 ?_
              refine lv_iload hx hb dM_takeDigits_161 (lv_at hl 8 rfl) ?_
              refine zi_sub hx hb (by omega) dM_takeDigits_163 ?_
              refine lv_iload hx hb dM_takeDigits_164 (lv_at hl 1 rfl) ?_
              refine za_ist hx hb hK hP hD hS 2 0 rfl rfl (by omega) (by omega) dM_takeDigits_166 (fun H locs hP hD hS => ?_)
              have hP : va_P (dC, dI) vwCl [(m0, .inr (4, [.ref n0, .ref n1, .ref n2, .int (nI cd), .int (nI dt), .ref e0, .ref e1, .int (nI rt), .ref e2, .ref e3, .ref e4, .int (nI sz9), .int (nI (at9 + kb)), .int (nI fl), .int pl, .int (nI wr), .ref e5])), (e4, .inl (cI, 400, .inl (aN tp))), (rw, .inl (cI, N9, .inl (aN (nup f (((fr + (2 * kb)) + 1) - (ct % 2)) ((tp (at9 + kb)) % 16)))))] H := hP
              have hD : va_D A [(m0, .inr (4, [.ref n0, .ref n1, .ref n2, .int (nI cd), .int (nI dt), .ref e0, .ref e1, .int (nI rt), .ref e2, .ref e3, .ref e4, .int (nI sz9), .int (nI (at9 + kb)), .int (nI fl), .int pl, .int (nI wr), .ref e5])), (e4, .inl (cI, 400, .inl (aN tp))), (rw, .inl (cI, N9, .inl (aN (nup f (((fr + (2 * kb)) + 1) - (ct % 2)) ((tp (at9 + kb)) % 16)))))] := hD
              refine lv_aload_n hx hb dM_takeDigits_167 rfl (lv_at hl 3 rfl) ?_
              refine lv_dup hx hb dM_takeDigits_168 rfl ?_
              refine va_get (D := (dC, dI)) (ci := 4) (v := .int (nI (at9 + kb))) (C := RM) (T := TM) (N := 17) hx hb hw inM hown hK hP 0 rfl rfl 12 (by decide) (hw _ w_fl_M_108) (fun _ h9 => h9) rfl dM_takeDigits_169 ?_
              refine lv_iconst (v := nI 1) hx hb dM_takeDigits_172 (by decide) ?_
              refine zi_add hx hb dM_takeDigits_173 ?_
              refine va_put (D := (dC, dI)) (ci := 4) (v := .int (nI ((at9 + kb) + 1))) (ty := .int) (C := RM) (T := TM) (N := 17) hx hb hw inM tyM tyM_ok nmM hown hK hP hD hS 0 rfl rfl 12 (by decide) (hw _ w_fl_M_108) (fun _ h9 => h9) rfl (by decide +kernel) rfl rfl (Nat.le_of_ble_eq_true rfl) dM_takeDigits_174 (fun H locs hP hD hS => ?_)
              have hP : va_P (dC, dI) vwCl [(m0, .inr (4, [.ref n0, .ref n1, .ref n2, .int (nI cd), .int (nI dt), .ref e0, .ref e1, .int (nI rt), .ref e2, .ref e3, .ref e4, .int (nI sz9), .int (nI ((at9 + kb) + 1)), .int (nI fl), .int pl, .int (nI wr), .ref e5])), (e4, .inl (cI, 400, .inl (aN tp))), (rw, .inl (cI, N9, .inl (aN (nup f (((fr + (2 * kb)) + 1) - (ct % 2)) ((tp (at9 + kb)) % 16)))))] H := hP
              have hD : va_D A [(m0, .inr (4, [.ref n0, .ref n1, .ref n2, .int (nI cd), .int (nI dt), .ref e0, .ref e1, .int (nI rt), .ref e2, .ref e3, .ref e4, .int (nI sz9), .int (nI ((at9 + kb) + 1)), .int (nI fl), .int pl, .int (nI wr), .ref e5])), (e4, .inl (cI, 400, .inl (aN tp))), (rw, .inl (cI, N9, .inl (aN (nup f (((fr + (2 * kb)) + 1) - (ct % 2)) ((tp (at9 + kb)) % 16)))))] := hD
              refine lv_iinc (v := nI (kb + 1)) (lv' := [(6, .int (nI (kb + 1))), (9, .int (nI 1)), (8, .int (nI ((tp (at9 + kb)) % 16))), (7, .int (nI ((tp (at9 + kb)) / 16))), (0, .ref m0), (1, .int (nI ct)), (2, .ref rw), (3, .int (nI fr)), (4, .int (nI ((ct + 1) / 2))), (5, .int (nI (ct % 2)))]) hx hb dM_takeDigits_177 hl (k := 9) rfl (zi_incr kb 1) (by decide) rfl (fun ls hl => ?_)
              refine lv_goto (tgt := 38) hx hb dM_takeDigits_180 (by decide) ?_
              exact ih38 (kb + 1) (nup f (((fr + (2 * kb)) + 1) - (ct % 2)) ((tp (at9 + kb)) % 16)) (by omega) hi2 (by omega) _ _ _ (lv_sub hl [4, 5, 6, 7, 8, 9, 0] rfl) (hP.sub [0, 1, 2] rfl) (hD.sub [0, 1, 2] (by decide) rfl) hS
    exact lp_38 (((ct + 1) / 2 - 0) + 1) 0 r9 (by omega) hd (Nat.lt_succ_self _) _ _ _ (lv_sub hl [3, 4, 5, 6, 2, 1, 0] rfl) (hP.sub [0, 1, 2] rfl) (hD.sub [0, 1, 2] (by decide) rfl) hS
