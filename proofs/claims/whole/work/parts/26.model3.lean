def rm_c_takeLetters_ok : Room := ({ frames := 1, cells := 0, slots := 0, locals := 22 } : Room)
set_option maxHeartbeats 4000000 in
set_option maxRecDepth 100000 in
theorem c_takeLetters_ok (l : Launch) (dC : Nat → ClassId) (dI : Nat → Nat → Nat) (m0 : Nat) (n0 : Nat) (n1 : Nat) (n2 : Nat) (cd : Nat) (dt : Nat) (e0 : Nat) (e1 : Nat) (rt : Nat) (e2 : Nat) (e3 : Nat) (e4 : Nat) (sz9 : Nat) (at9 : Nat) (fl : Nat) (pl : Int32) (wr : Nat) (e5 : Nat) (cI : ClassId) (cB : ClassId) (rw : Nat) (N9 : Nat) (r9 : Nat → Nat) (tp : Nat → Nat) (ct : Nat) (fr : Nat) (hsz : sz9 ≤ 400) (hat : at9 ≤ sz9) (htp : ∀ j, tp j < 256) (hN : N9 < 1000) (hb9 : fr + ct ≤ N9) (hc1 : 1 ≤ ct) (hc : ct < 100) (hfl : fl = 0) (hd : ltF tp sz9 at9 ct = none) (sz : Nat) : Met l yM_takeLetters wsM_takeLetters rm_c_takeLetters_ok (zM (dC, dI) [(cI, .int), (cB, .byte)] [.ref m0, .int (nI ct), .ref rw, .int (nI fr)] [(m0, .inr (4, [.ref n0, .ref n1, .ref n2, .int (nI cd), .int (nI dt), .ref e0, .ref e1, .int (nI rt), .ref e2, .ref e3, .ref e4, .int (nI sz9), .int (nI at9), .int (nI fl), .int pl, .int (nI wr), .ref e5])), (e4, .inl (cI, 400, .inl (aN tp))), (rw, .inl (cI, N9, .inl (aN r9)))] sz) (zMv (dC, dI) [(m0, .inr (4, [.ref n0, .ref n1, .ref n2, .int (nI cd), .int (nI dt), .ref e0, .ref e1, .int (nI rt), .ref e2, .ref e3, .ref e4, .int (nI sz9), .int (nI at9), .int (nI fl), .int pl, .int (nI wr), .ref e5])), (e4, .inl (cI, 400, .inl (aN tp))), (rw, .inl (cI, N9, .inl (aN r9)))] [(m0, .inr (4, [.ref n0, .ref n1, .ref n2, .int (nI cd), .int (nI dt), .ref e0, .ref e1, .int (nI rt), .ref e2, .ref e3, .ref e4, .int (nI sz9), .int (nI (at9 + ct)), .int (nI fl), .int pl, .int (nI wr), .ref e5])), (e4, .inl (cI, 400, .inl (aN tp))), (rw, .inl (cI, N9, .inl (aN (ltCM tp at9 fr ct 0 r9))))] sz (True)) 0 0 (va_A [(m0, .inr (4, [.ref n0, .ref n1, .ref n2, .int (nI cd), .int (nI dt), .ref e0, .ref e1, .int (nI rt), .ref e2, .ref e3, .ref e4, .int (nI sz9), .int (nI at9), .int (nI fl), .int pl, .int (nI wr), .ref e5])), (e4, .inl (cI, 400, .inl (aN tp))), (rw, .inl (cI, N9, .inl (aN r9)))] sz) := by
  refine Met.ofW (cc := cM_takeLetters) (maxL := 7) (ret := none) (by decide) rfl ?_
  intro p e s m args below meth c s₁ Bd hml hv
  obtain ⟨rfl, hsz, hG, hP, hK, hD0⟩ := hv
  subst hsz
  have hx := Bd.exec
  have hb := Bd.bytes
  have hr := Bd.returns
  have hts := atoms_spec (ws := wsM_takeLetters) Bd.pre
  have hw : ∀ w ∈ BIG, w.before _ s = true := fun w h => hts w (List.mem_cons_of_mem _ h)
  have hown : s.vm.findClass RM = some m.cls := findClass_of_methodNamed Bd.named
  have hlocks := Bd.notSynchronized
  have hD := hD0.self (sz := s.heap.size)
  obtain ⟨A, hAe⟩ : ∃ A, A = va_A [(m0, .inr (4, [.ref n0, .ref n1, .ref n2, .int (nI cd), .int (nI dt), .ref e0, .ref e1, .int (nI rt), .ref e2, .ref e3, .ref e4, .int (nI sz9), .int (nI at9), .int (nI fl), .int pl, .int (nI wr), .ref e5])), (e4, .inl (cI, 400, .inl (aN tp))), (rw, .inl (cI, N9, .inl (aN r9)))] s.heap.size := ⟨_, rfl⟩
  have hA : ∀ q : Nat, s.heap.size ≤ q → A q := fun q h => by rw [hAe]; exact Or.inr h
  rw [← hAe] at hG hD
  have hS : va_S A s.heap s.heap [] := va_S.rf
  have hl := lv_entry ([.ref m0, .int (nI ct), .ref rw, .int (nI fr)]) (n := 7) (Nat.le_of_ble_eq_true rfl)
  rw [lg_entry_eq]
  generalize (lg_sl ([.ref m0, .int (nI ct), .ref rw, .int (nI fr)]) ++ List.replicate (7 - (lg_sl ([.ref m0, .int (nI ct), .ref rw, .int (nI fr)])).length) Slot.unset).toArray = ls at hl ⊢
  have hl : lv_has ls 7 [(0, .ref m0), (1, .int (nI ct)), (2, .ref rw), (3, .int (nI fr))] := hl
  refine zq_name (fun Q hQ => ?_)
  change W p l e rm_c_takeLetters_ok s m _ below meth c _ _ _ _ Q _
  have hs9 := ltF_fit hd
  have hd := ltF_ok hd
  refine lv_aload_n hx hb dM_takeLetters_0 rfl (lv_at hl 0 rfl) ?_
  refine va_get (D := (dC, dI)) (ci := 4) (v := .int (nI at9)) (C := RM) (T := TM) (N := 17) hx hb hw inM hown hK hP 0 rfl rfl 12 (by decide) (hw _ w_fl_M_108) (fun _ h9 => h9) rfl dM_takeLetters_1 ?_
  refine lv_iload_n hx hb dM_takeLetters_4 rfl (lv_at hl 1 rfl) ?_
  refine zi_add hx hb dM_takeLetters_5 ?_
  refine lv_aload_n hx hb dM_takeLetters_6 rfl (lv_at hl 0 rfl) ?_
  refine va_get (D := (dC, dI)) (ci := 4) (v := .int (nI sz9)) (C := RM) (T := TM) (N := 17) hx hb hw inM hown hK hP 0 rfl rfl 11 (by decide) (hw _ w_fl_M_99) (fun _ h9 => h9) rfl dM_takeLetters_7 ?_
  refine zi_le (tgt := 22) hx hb (by omega) (by omega) dM_takeLetters_10 (by decide) (fun c_10 => ?_) (fun q => False.elim ((by omega)))
  refine lv_iconst (v := nI 0) hx hb dM_takeLetters_22 (by decide) ?_
  refine lv_istore (lv' := [(4, .int (nI 0)), (0, .ref m0), (1, .int (nI ct)), (2, .ref rw), (3, .int (nI fr))]) hx hb dM_takeLetters_23 hl (by decide) rfl (fun ls hl => ?_)
  have lp_25 : ∀ (fu : Nat) (k : Nat) (f : Nat → Nat) (hk : k ≤ ct) (hi : ltL tp (ct - k) (at9 + k) = none) (hj : ltCM tp at9 fr (ct - k) k f = ltCM tp at9 fr ct 0 r9) (hms : ct - k < fu) (H : Heap) (locs : List Loc) (ls : Array Slot), lv_has ls 7 [(0, .ref m0), (1, .int (nI ct)), (2, .ref rw), (3, .int (nI fr)), (4, .int (nI k))] → va_P (dC, dI) vwCl [(m0, .inr (4, [.ref n0, .ref n1, .ref n2, .int (nI cd), .int (nI dt), .ref e0, .ref e1, .int (nI rt), .ref e2, .ref e3, .ref e4, .int (nI sz9), .int (nI (at9 + k)), .int (nI fl), .int pl, .int (nI wr), .ref e5])), (e4, .inl (cI, 400, .inl (aN tp))), (rw, .inl (cI, N9, .inl (aN f)))] H → va_D A [(m0, .inr (4, [.ref n0, .ref n1, .ref n2, .int (nI cd), .int (nI dt), .ref e0, .ref e1, .int (nI rt), .ref e2, .ref e3, .ref e4, .int (nI sz9), .int (nI (at9 + k)), .int (nI fl), .int pl, .int (nI wr), .ref e5])), (e4, .inl (cI, 400, .inl (aN tp))), (rw, .inl (cI, N9, .inl (aN f)))] → va_S A s.heap H locs → W p l e rm_c_takeLetters_ok s m ([.ref m0, .int (nI ct), .ref rw, .int (nI fr)] : List Value).toArray below meth c H locs 0 0 Q (F0 m 25 ls []) := by
    intro fu
    induction fu with
    | zero => intro k f hk hi hj hms; exact absurd hms (Nat.not_lt_zero _)
    | succ fu ih25 =>
      intro k f hk hi hj hms H locs ls hl hP hD hS
      refine lv_iload hx hb dM_takeLetters_25 (lv_at hl 4 rfl) ?_
      refine lv_iload_n hx hb dM_takeLetters_27 rfl (lv_at hl 1 rfl) ?_
      refine zi_ge (tgt := 142) hx hb (by omega) (by omega) dM_takeLetters_28 (by decide) (fun c_28 => ?_) (fun c_28 => ?_)
      · obtain rfl : k = ct := by omega
        have hj : f = ltCM tp at9 fr k 0 r9 := by have h9 := hj; rw [Nat.sub_self] at h9; exact h9
        subst hj
        subst hAe
        subst hQ
        exact W.vret hx hb hr (fun t ht hW => ⟨⟨(), rfl, trivial, by rw [ht]; exact hP.sub [0, 1, 2] rfl, hD.sub [0, 1, 2] (by decide) rfl⟩, hS.F ht⟩) hS.2.2 dM_takeLetters_142
      · refine lv_aload_n hx hb dM_takeLetters_31 rfl (lv_at hl 0 rfl) ?_
        refine va_get (D := (dC, dI)) (ci := 4) (v := .int (nI fl)) (C := RM) (T := TM) (N := 17) hx hb hw inM hown hK hP 0 rfl rfl 13 (by decide) (hw _ w_fl_M_102) (fun _ h9 => h9) rfl dM_takeLetters_32 ?_
        refine zi_ne0 (tgt := 142) hx hb (by omega) dM_takeLetters_35 (by decide) (fun q => False.elim ((q hfl))) (fun c_35 => ?_)
        have ht9 := htp (at9 + k)
        have hi9 := hi
        rw [show ct - k = ct - (k + 1) + 1 by omega] at hi9
        unfold ltL at hi9
        have hL : isL (tp (at9 + k)) = true := by
          cases hq : isL (tp (at9 + k)) with
          | true => rfl
          | false => rw [hq] at hi9; cases hi9
        rw [if_pos hL] at hi9
        have hL9 := isL_or hL
        refine lv_aload_n hx hb dM_takeLetters_38 rfl (lv_at hl 0 rfl) ?_
        refine va_get (D := (dC, dI)) (ci := 4) (v := .ref e4) (C := RM) (T := TM) (N := 17) hx hb hw inM hown hK hP 0 rfl rfl 10 (by decide) (hw _ w_fl_M_35) (fun _ h9 => h9) rfl dM_takeLetters_39 ?_
        refine lv_aload_n hx hb dM_takeLetters_42 rfl (lv_at hl 0 rfl) ?_
        refine va_get (D := (dC, dI)) (ci := 4) (v := .int (nI (at9 + k))) (C := RM) (T := TM) (N := 17) hx hb hw inM hown hK hP 0 rfl rfl 12 (by decide) (hw _ w_fl_M_108) (fun _ h9 => h9) rfl dM_takeLetters_43 ?_
        refine za_ild hx hb hK hP 1 0 rfl rfl (by omega) (by decide) dM_takeLetters_46 ?_
        refine lv_istore (lv' := [(5, .int (nI (tp (at9 + k)))), (0, .ref m0), (1, .int (nI ct)), (2, .ref rw), (3, .int (nI fr)), (4, .int (nI k))]) hx hb dM_takeLetters_47 hl (by decide) rfl (fun ls hl => ?_)
        refine lv_iload hx hb dM_takeLetters_49 (lv_at hl 0 rfl) ?_
        refine lv_bipush (v := nI 47) hx hb dM_takeLetters_51 (by decide) ?_
        refine zi_le (tgt := 67) hx hb (by omega) (by omega) dM_takeLetters_53 (by decide) (fun c_53 => ?_) (fun c_53 => ?_)
        · refine lv_iconst (v := nI 0) hx hb dM_takeLetters_67 (by decide) ?_
          refine lv_istore (lv' := [(6, .int (nI 0)), (5, .int (nI (tp (at9 + k)))), (0, .ref m0), (1, .int (nI ct)), (2, .ref rw), (3, .int (nI fr)), (4, .int (nI k))]) hx hb dM_takeLetters_68 hl (by decide) rfl (fun ls hl => ?_)
          refine lv_iload hx hb dM_takeLetters_70 (lv_at hl 0 rfl) ?_
          refine lv_if_ne (tgt := 89) hx hb dM_takeLetters_72 (by decide) (fun q => False.elim (absurd q (by decide))) (fun c_72 => ?_)
          refine lv_iload hx hb dM_takeLetters_75 (lv_at hl 1 rfl) ?_
          refine lv_bipush (v := nI 64) hx hb dM_takeLetters_77 (by decide) ?_
          refine zi_le (tgt := 126) hx hb (by omega) (by omega) dM_takeLetters_79 (by decide) (fun c_79 => ?_) (fun c_79 => ?_)
          · exfalso
            omega
          · refine lv_iload hx hb dM_takeLetters_82 (lv_at hl 1 rfl) ?_
            refine lv_bipush (v := nI 91) hx hb dM_takeLetters_84 (by decide) ?_
            refine zi_ge (tgt := 126) hx hb (by omega) (by omega) dM_takeLetters_86 (by decide) (fun c_86 => ?_) (fun c_86 => ?_)
            · exfalso
              omega
            · refine lv_aload_n hx hb dM_takeLetters_89 rfl (lv_at hl 4 rfl) ?_
              refine lv_iload_n hx hb dM_takeLetters_90 rfl (lv_at hl 5 rfl) ?_
              refine lv_iload hx hb dM_takeLetters_91 (lv_at hl 6 rfl) ?_
              refine zi_add hx hb dM_takeLetters_93 ?_
              refine lv_iload hx hb dM_takeLetters_94 (lv_at hl 0 rfl) ?_
              refine lv_if_eq (tgt := 107) hx hb dM_takeLetters_96 (by decide) (fun c_96 => ?_) (fun q => False.elim (absurd q (by decide)))
              refine lv_iload hx hb dM_takeLetters_107 (lv_at hl 1 rfl) ?_
              refine lv_bipush (v := nI 55) hx hb dM_takeLetters_109 (by decide) ?_
              refine zi_sub hx hb (by omega) dM_takeLetters_111 ?_
              refine zi_v (b := nI (lnum (tp (at9 + k)))) (by unfold lnum; rw [if_neg (by omega)]) ?_
              refine za_ist hx hb hK hP hD hS 2 0 rfl rfl (by omega) (by omega) dM_takeLetters_112 (fun H locs hP hD hS => ?_)
              have hP : va_P (dC, dI) vwCl [(m0, .inr (4, [.ref n0, .ref n1, .ref n2, .int (nI cd), .int (nI dt), .ref e0, .ref e1, .int (nI rt), .ref e2, .ref e3, .ref e4, .int (nI sz9), .int (nI (at9 + k)), .int (nI fl), .int pl, .int (nI wr), .ref e5])), (e4, .inl (cI, 400, .inl (aN tp))), (rw, .inl (cI, N9, .inl (aN (nup f (fr + k) (lnum (tp (at9 + k)))))))] H := hP
              have hD : va_D A [(m0, .inr (4, [.ref n0, .ref n1, .ref n2, .int (nI cd), .int (nI dt), .ref e0, .ref e1, .int (nI rt), .ref e2, .ref e3, .ref e4, .int (nI sz9), .int (nI (at9 + k)), .int (nI fl), .int pl, .int (nI wr), .ref e5])), (e4, .inl (cI, 400, .inl (aN tp))), (rw, .inl (cI, N9, .inl (aN (nup f (fr + k) (lnum (tp (at9 + k)))))))] := hD
              refine lv_aload_n hx hb dM_takeLetters_113 rfl (lv_at hl 2 rfl) ?_
              refine lv_dup hx hb dM_takeLetters_114 rfl ?_
              refine va_get (D := (dC, dI)) (ci := 4) (v := .int (nI (at9 + k))) (C := RM) (T := TM) (N := 17) hx hb hw inM hown hK hP 0 rfl rfl 12 (by decide) (hw _ w_fl_M_108) (fun _ h9 => h9) rfl dM_takeLetters_115 ?_
              refine lv_iconst (v := nI 1) hx hb dM_takeLetters_118 (by decide) ?_
              refine zi_add hx hb dM_takeLetters_119 ?_
              refine va_put (D := (dC, dI)) (ci := 4) (v := .int (nI ((at9 + k) + 1))) (ty := .int) (C := RM) (T := TM) (N := 17) hx hb hw inM tyM tyM_ok nmM hown hK hP hD hS 0 rfl rfl 12 (by decide) (hw _ w_fl_M_108) (fun _ h9 => h9) rfl (by decide +kernel) rfl rfl (Nat.le_of_ble_eq_true rfl) dM_takeLetters_120 (fun H locs hP hD hS => ?_)
              have hP : va_P (dC, dI) vwCl [(m0, .inr (4, [.ref n0, .ref n1, .ref n2, .int (nI cd), .int (nI dt), .ref e0, .ref e1, .int (nI rt), .ref e2, .ref e3, .ref e4, .int (nI sz9), .int (nI ((at9 + k) + 1)), .int (nI fl), .int pl, .int (nI wr), .ref e5])), (e4, .inl (cI, 400, .inl (aN tp))), (rw, .inl (cI, N9, .inl (aN (nup f (fr + k) (lnum (tp (at9 + k)))))))] H := hP
              have hD : va_D A [(m0, .inr (4, [.ref n0, .ref n1, .ref n2, .int (nI cd), .int (nI dt), .ref e0, .ref e1, .int (nI rt), .ref e2, .ref e3, .ref e4, .int (nI sz9), .int (nI ((at9 + k) + 1)), .int (nI fl), .int pl, .int (nI wr), .ref e5])), (e4, .inl (cI, 400, .inl (aN tp))), (rw, .inl (cI, N9, .inl (aN (nup f (fr + k) (lnum (tp (at9 + k)))))))] := hD
              refine lv_goto (tgt := 136) hx hb dM_takeLetters_123 (by decide) ?_
              refine lv_iinc (v := nI (k + 1)) (lv' := [(4, .int (nI (k + 1))), (6, .int (nI 0)), (5, .int (nI (tp (at9 + k)))), (0, .ref m0), (1, .int (nI ct)), (2, .ref rw), (3, .int (nI fr))]) hx hb dM_takeLetters_136 hl (k := 6) rfl (zi_incr k 1) (by decide) rfl (fun ls hl => ?_)
              refine lv_goto (tgt := 25) hx hb dM_takeLetters_139 (by decide) ?_
              exact ih25 (k + 1) (nup f (fr + k) (lnum (tp (at9 + k)))) (by omega) hi9 (by have h9 := hj; rw [show ct - k = ct - (k + 1) + 1 by omega] at h9; exact h9) (by omega) _ _ _ (lv_sub hl [3, 4, 5, 6, 0] rfl) (hP.sub [0, 1, 2] rfl) (hD.sub [0, 1, 2] (by decide) rfl) hS
        · refine lv_iload hx hb dM_takeLetters_56 (lv_at hl 0 rfl) ?_
          refine lv_bipush (v := nI 58) hx hb dM_takeLetters_58 (by decide) ?_
          refine zi_ge (tgt := 67) hx hb (by omega) (by omega) dM_takeLetters_60 (by decide) (fun c_60 => ?_) (fun c_60 => ?_)
          · refine lv_iconst (v := nI 0) hx hb dM_takeLetters_67 (by decide) ?_
            refine lv_istore (lv' := [(6, .int (nI 0)), (5, .int (nI (tp (at9 + k)))), (0, .ref m0), (1, .int (nI ct)), (2, .ref rw), (3, .int (nI fr)), (4, .int (nI k))]) hx hb dM_takeLetters_68 hl (by decide) rfl (fun ls hl => ?_)
            refine lv_iload hx hb dM_takeLetters_70 (lv_at hl 0 rfl) ?_
            refine lv_if_ne (tgt := 89) hx hb dM_takeLetters_72 (by decide) (fun q => False.elim (absurd q (by decide))) (fun c_72 => ?_)
            refine lv_iload hx hb dM_takeLetters_75 (lv_at hl 1 rfl) ?_
            refine lv_bipush (v := nI 64) hx hb dM_takeLetters_77 (by decide) ?_
            refine zi_le (tgt := 126) hx hb (by omega) (by omega) dM_takeLetters_79 (by decide) (fun c_79 => ?_) (fun c_79 => ?_)
            · exfalso
              omega
            · refine lv_iload hx hb dM_takeLetters_82 (lv_at hl 1 rfl) ?_
              refine lv_bipush (v := nI 91) hx hb dM_takeLetters_84 (by decide) ?_
              refine zi_ge (tgt := 126) hx hb (by omega) (by omega) dM_takeLetters_86 (by decide) (fun c_86 => ?_) (fun c_86 => ?_)
              · exfalso
                omega
              · refine lv_aload_n hx hb dM_takeLetters_89 rfl (lv_at hl 4 rfl) ?_
                refine lv_iload_n hx hb dM_takeLetters_90 rfl (lv_at hl 5 rfl) ?_
                refine lv_iload hx hb dM_takeLetters_91 (lv_at hl 6 rfl) ?_
                refine zi_add hx hb dM_takeLetters_93 ?_
                refine lv_iload hx hb dM_takeLetters_94 (lv_at hl 0 rfl) ?_
                refine lv_if_eq (tgt := 107) hx hb dM_takeLetters_96 (by decide) (fun c_96 => ?_) (fun q => False.elim (absurd q (by decide)))
                refine lv_iload hx hb dM_takeLetters_107 (lv_at hl 1 rfl) ?_
                refine lv_bipush (v := nI 55) hx hb dM_takeLetters_109 (by decide) ?_
                refine zi_sub hx hb (by omega) dM_takeLetters_111 ?_
                refine zi_v (b := nI (lnum (tp (at9 + k)))) (by unfold lnum; rw [if_neg (by omega)]) ?_
                refine za_ist hx hb hK hP hD hS 2 0 rfl rfl (by omega) (by omega) dM_takeLetters_112 (fun H locs hP hD hS => ?_)
                have hP : va_P (dC, dI) vwCl [(m0, .inr (4, [.ref n0, .ref n1, .ref n2, .int (nI cd), .int (nI dt), .ref e0, .ref e1, .int (nI rt), .ref e2, .ref e3, .ref e4, .int (nI sz9), .int (nI (at9 + k)), .int (nI fl), .int pl, .int (nI wr), .ref e5])), (e4, .inl (cI, 400, .inl (aN tp))), (rw, .inl (cI, N9, .inl (aN (nup f (fr + k) (lnum (tp (at9 + k)))))))] H := hP
                have hD : va_D A [(m0, .inr (4, [.ref n0, .ref n1, .ref n2, .int (nI cd), .int (nI dt), .ref e0, .ref e1, .int (nI rt), .ref e2, .ref e3, .ref e4, .int (nI sz9), .int (nI (at9 + k)), .int (nI fl), .int pl, .int (nI wr), .ref e5])), (e4, .inl (cI, 400, .inl (aN tp))), (rw, .inl (cI, N9, .inl (aN (nup f (fr + k) (lnum (tp (at9 + k)))))))] := hD
                refine lv_aload_n hx hb dM_takeLetters_113 rfl (lv_at hl 2 rfl) ?_
                refine lv_dup hx hb dM_takeLetters_114 rfl ?_
                refine va_get (D := (dC, dI)) (ci := 4) (v := .int (nI (at9 + k))) (C := RM) (T := TM) (N := 17) hx hb hw inM hown hK hP 0 rfl rfl 12 (by decide) (hw _ w_fl_M_108) (fun _ h9 => h9) rfl dM_takeLetters_115 ?_
                refine lv_iconst (v := nI 1) hx hb dM_takeLetters_118 (by decide) ?_
                refine zi_add hx hb dM_takeLetters_119 ?_
                refine va_put (D := (dC, dI)) (ci := 4) (v := .int (nI ((at9 + k) + 1))) (ty := .int) (C := RM) (T := TM) (N := 17) hx hb hw inM tyM tyM_ok nmM hown hK hP hD hS 0 rfl rfl 12 (by decide) (hw _ w_fl_M_108) (fun _ h9 => h9) rfl (by decide +kernel) rfl rfl (Nat.le_of_ble_eq_true rfl) dM_takeLetters_120 (fun H locs hP hD hS => ?_)
                have hP : va_P (dC, dI) vwCl [(m0, .inr (4, [.ref n0, .ref n1, .ref n2, .int (nI cd), .int (nI dt), .ref e0, .ref e1, .int (nI rt), .ref e2, .ref e3, .ref e4, .int (nI sz9), .int (nI ((at9 + k) + 1)), .int (nI fl), .int pl, .int (nI wr), .ref e5])), (e4, .inl (cI, 400, .inl (aN tp))), (rw, .inl (cI, N9, .inl (aN (nup f (fr + k) (lnum (tp (at9 + k)))))))] H := hP
                have hD : va_D A [(m0, .inr (4, [.ref n0, .ref n1, .ref n2, .int (nI cd), .int (nI dt), .ref e0, .ref e1, .int (nI rt), .ref e2, .ref e3, .ref e4, .int (nI sz9), .int (nI ((at9 + k) + 1)), .int (nI fl), .int pl, .int (nI wr), .ref e5])), (e4, .inl (cI, 400, .inl (aN tp))), (rw, .inl (cI, N9, .inl (aN (nup f (fr + k) (lnum (tp (at9 + k)))))))] := hD
                refine lv_goto (tgt := 136) hx hb dM_takeLetters_123 (by decide) ?_
                refine lv_iinc (v := nI (k + 1)) (lv' := [(4, .int (nI (k + 1))), (6, .int (nI 0)), (5, .int (nI (tp (at9 + k)))), (0, .ref m0), (1, .int (nI ct)), (2, .ref rw), (3, .int (nI fr))]) hx hb dM_takeLetters_136 hl (k := 6) rfl (zi_incr k 1) (by decide) rfl (fun ls hl => ?_)
                refine lv_goto (tgt := 25) hx hb dM_takeLetters_139 (by decide) ?_
                exact ih25 (k + 1) (nup f (fr + k) (lnum (tp (at9 + k)))) (by omega) hi9 (by have h9 := hj; rw [show ct - k = ct - (k + 1) + 1 by omega] at h9; exact h9) (by omega) _ _ _ (lv_sub hl [3, 4, 5, 6, 0] rfl) (hP.sub [0, 1, 2] rfl) (hD.sub [0, 1, 2] (by decide) rfl) hS
          · refine lv_iconst (v := nI 1) hx hb dM_takeLetters_63 (by decide) ?_
            refine lv_goto (tgt := 68) hx hb dM_takeLetters_64 (by decide) ?_
            refine lv_istore (lv' := [(6, .int (nI 1)), (5, .int (nI (tp (at9 + k)))), (0, .ref m0), (1, .int (nI ct)), (2, .ref rw), (3, .int (nI fr)), (4, .int (nI k))]) hx hb dM_takeLetters_68 hl (by decide) rfl (fun ls hl => ?_)
            refine lv_iload hx hb dM_takeLetters_70 (lv_at hl 0 rfl) ?_
            refine lv_if_ne (tgt := 89) hx hb dM_takeLetters_72 (by decide) (fun c_72 => ?_) (fun q => False.elim (absurd q (by decide)))
            refine lv_aload_n hx hb dM_takeLetters_89 rfl (lv_at hl 4 rfl) ?_
            refine lv_iload_n hx hb dM_takeLetters_90 rfl (lv_at hl 5 rfl) ?_
            refine lv_iload hx hb dM_takeLetters_91 (lv_at hl 6 rfl) ?_
            refine zi_add hx hb dM_takeLetters_93 ?_
            refine lv_iload hx hb dM_takeLetters_94 (lv_at hl 0 rfl) ?_
            refine lv_if_eq (tgt := 107) hx hb dM_takeLetters_96 (by decide) (fun q => False.elim (absurd q (by decide))) (fun c_96 => ?_)
            refine lv_iload hx hb dM_takeLetters_99 (lv_at hl 1 rfl) ?_
            refine lv_bipush (v := nI 48) hx hb dM_takeLetters_101 (by decide) ?_
            refine zi_sub hx hb (by omega) dM_takeLetters_103 ?_
            refine lv_goto (tgt := 112) hx hb dM_takeLetters_104 (by decide) ?_
            refine zi_v (b := nI (lnum (tp (at9 + k)))) (by unfold lnum; rw [if_pos (by omega)]) ?_
            refine za_ist hx hb hK hP hD hS 2 0 rfl rfl (by omega) (by omega) dM_takeLetters_112 (fun H locs hP hD hS => ?_)
            have hP : va_P (dC, dI) vwCl [(m0, .inr (4, [.ref n0, .ref n1, .ref n2, .int (nI cd), .int (nI dt), .ref e0, .ref e1, .int (nI rt), .ref e2, .ref e3, .ref e4, .int (nI sz9), .int (nI (at9 + k)), .int (nI fl), .int pl, .int (nI wr), .ref e5])), (e4, .inl (cI, 400, .inl (aN tp))), (rw, .inl (cI, N9, .inl (aN (nup f (fr + k) (lnum (tp (at9 + k)))))))] H := hP
            have hD : va_D A [(m0, .inr (4, [.ref n0, .ref n1, .ref n2, .int (nI cd), .int (nI dt), .ref e0, .ref e1, .int (nI rt), .ref e2, .ref e3, .ref e4, .int (nI sz9), .int (nI (at9 + k)), .int (nI fl), .int pl, .int (nI wr), .ref e5])), (e4, .inl (cI, 400, .inl (aN tp))), (rw, .inl (cI, N9, .inl (aN (nup f (fr + k) (lnum (tp (at9 + k)))))))] := hD
            refine lv_aload_n hx hb dM_takeLetters_113 rfl (lv_at hl 2 rfl) ?_
            refine lv_dup hx hb dM_takeLetters_114 rfl ?_
            refine va_get (D := (dC, dI)) (ci := 4) (v := .int (nI (at9 + k))) (C := RM) (T := TM) (N := 17) hx hb hw inM hown hK hP 0 rfl rfl 12 (by decide) (hw _ w_fl_M_108) (fun _ h9 => h9) rfl dM_takeLetters_115 ?_
            refine lv_iconst (v := nI 1) hx hb dM_takeLetters_118 (by decide) ?_
            refine zi_add hx hb dM_takeLetters_119 ?_
            refine va_put (D := (dC, dI)) (ci := 4) (v := .int (nI ((at9 + k) + 1))) (ty := .int) (C := RM) (T := TM) (N := 17) hx hb hw inM tyM tyM_ok nmM hown hK hP hD hS 0 rfl rfl 12 (by decide) (hw _ w_fl_M_108) (fun _ h9 => h9) rfl (by decide +kernel) rfl rfl (Nat.le_of_ble_eq_true rfl) dM_takeLetters_120 (fun H locs hP hD hS => ?_)
            have hP : va_P (dC, dI) vwCl [(m0, .inr (4, [.ref n0, .ref n1, .ref n2, .int (nI cd), .int (nI dt), .ref e0, .ref e1, .int (nI rt), .ref e2, .ref e3, .ref e4, .int (nI sz9), .int (nI ((at9 + k) + 1)), .int (nI fl), .int pl, .int (nI wr), .ref e5])), (e4, .inl (cI, 400, .inl (aN tp))), (rw, .inl (cI, N9, .inl (aN (nup f (fr + k) (lnum (tp (at9 + k)))))))] H := hP
            have hD : va_D A [(m0, .inr (4, [.ref n0, .ref n1, .ref n2, .int (nI cd), .int (nI dt), .ref e0, .ref e1, .int (nI rt), .ref e2, .ref e3, .ref e4, .int (nI sz9), .int (nI ((at9 + k) + 1)), .int (nI fl), .int pl, .int (nI wr), .ref e5])), (e4, .inl (cI, 400, .inl (aN tp))), (rw, .inl (cI, N9, .inl (aN (nup f (fr + k) (lnum (tp (at9 + k)))))))] := hD
            refine lv_goto (tgt := 136) hx hb dM_takeLetters_123 (by decide) ?_
            refine lv_iinc (v := nI (k + 1)) (lv' := [(4, .int (nI (k + 1))), (6, .int (nI 1)), (5, .int (nI (tp (at9 + k)))), (0, .ref m0), (1, .int (nI ct)), (2, .ref rw), (3, .int (nI fr))]) hx hb dM_takeLetters_136 hl (k := 6) rfl (zi_incr k 1) (by decide) rfl (fun ls hl => ?_)
            refine lv_goto (tgt := 25) hx hb dM_takeLetters_139 (by decide) ?_
            exact ih25 (k + 1) (nup f (fr + k) (lnum (tp (at9 + k)))) (by omega) hi9 (by have h9 := hj; rw [show ct - k = ct - (k + 1) + 1 by omega] at h9; exact h9) (by omega) _ _ _ (lv_sub hl [3, 4, 5, 6, 0] rfl) (hP.sub [0, 1, 2] rfl) (hD.sub [0, 1, 2] (by decide) rfl) hS
  exact lp_25 ((ct - 0) + 1) 0 r9 (by omega) hd rfl (Nat.lt_succ_self _) _ _ _ (lv_sub hl [1, 2, 3, 4, 0] rfl) (hP.sub [0, 1, 2] rfl) (hD.sub [0, 1, 2] (by decide) rfl) hS
def rm_c_takeLetters_no : Room := ({ frames := 1, cells := 0, slots := 0, locals := 22 } : Room)
set_option maxHeartbeats 4000000 in
set_option maxRecDepth 100000 in
theorem c_takeLetters_no (l : Launch) (dC : Nat → ClassId) (dI : Nat → Nat → Nat) (m0 : Nat) (n0 : Nat) (n1 : Nat) (n2 : Nat) (cd : Nat) (dt : Nat) (e0 : Nat) (e1 : Nat) (rt : Nat) (e2 : Nat) (e3 : Nat) (e4 : Nat) (sz9 : Nat) (at9 : Nat) (fl : Nat) (pl : Int32) (wr : Nat) (e5 : Nat) (cI : ClassId) (cB : ClassId) (rw : Nat) (N9 : Nat) (r9 : Nat → Nat) (tp : Nat → Nat) (ct : Nat) (fr : Nat) (k2 : Nat) (p2 : Nat) (hsz : sz9 ≤ 400) (hat : at9 ≤ sz9) (htp : ∀ j, tp j < 256) (hN : N9 < 1000) (hb9 : fr + ct ≤ N9) (hc1 : 1 ≤ ct) (hc : ct < 100) (hfl : fl = 0) (hd : ltF tp sz9 at9 ct = some (k2, p2)) (sz : Nat) : Met l yM_takeLetters wsM_takeLetters rm_c_takeLetters_no (zM (dC, dI) [(cI, .int), (cB, .byte)] [.ref m0, .int (nI ct), .ref rw, .int (nI fr)] [(m0, .inr (4, [.ref n0, .ref n1, .ref n2, .int (nI cd), .int (nI dt), .ref e0, .ref e1, .int (nI rt), .ref e2, .ref e3, .ref e4, .int (nI sz9), .int (nI at9), .int (nI fl), .int pl, .int (nI wr), .ref e5])), (e4, .inl (cI, 400, .inl (aN tp))), (rw, .inl (cI, N9, .inl (aN r9)))] sz) (zSv (dC, dI) [(m0, .inr (4, [.ref n0, .ref n1, .ref n2, .int (nI cd), .int (nI dt), .ref e0, .ref e1, .int (nI rt), .ref e2, .ref e3, .ref e4, .int (nI sz9), .int (nI at9), .int (nI fl), .int pl, .int (nI wr), .ref e5])), (e4, .inl (cI, 400, .inl (aN tp))), (rw, .inl (cI, N9, .inl (aN r9)))] sz (fun (u : Nat × (Nat → Nat)) => True) (fun u => [(m0, .inr (4, [.ref n0, .ref n1, .ref n2, .int (nI cd), .int (nI dt), .ref e0, .ref e1, .int (nI rt), .ref e2, .ref e3, .ref e4, .int (nI sz9), .int (nI u.1), .int (nI k2), .int (nI p2), .int (nI wr), .ref e5])), (e4, .inl (cI, 400, .inl (aN tp))), (rw, .inl (cI, N9, .inl (aN u.2)))])) 0 0 (va_A [(m0, .inr (4, [.ref n0, .ref n1, .ref n2, .int (nI cd), .int (nI dt), .ref e0, .ref e1, .int (nI rt), .ref e2, .ref e3, .ref e4, .int (nI sz9), .int (nI at9), .int (nI fl), .int pl, .int (nI wr), .ref e5])), (e4, .inl (cI, 400, .inl (aN tp))), (rw, .inl (cI, N9, .inl (aN r9)))] sz) := by
  refine Met.ofW (cc := cM_takeLetters) (maxL := 7) (ret := none) (by decide) rfl ?_
  intro p e s m args below meth c s₁ Bd hml hv
  obtain ⟨rfl, hsz, hG, hP, hK, hD0⟩ := hv
  subst hsz
  have hx := Bd.exec
  have hb := Bd.bytes
  have hr := Bd.returns
  have hts := atoms_spec (ws := wsM_takeLetters) Bd.pre
  have hw : ∀ w ∈ BIG, w.before _ s = true := fun w h => hts w (List.mem_cons_of_mem _ h)
  have hown : s.vm.findClass RM = some m.cls := findClass_of_methodNamed Bd.named
  have hlocks := Bd.notSynchronized
  have hD := hD0.self (sz := s.heap.size)
  obtain ⟨A, hAe⟩ : ∃ A, A = va_A [(m0, .inr (4, [.ref n0, .ref n1, .ref n2, .int (nI cd), .int (nI dt), .ref e0, .ref e1, .int (nI rt), .ref e2, .ref e3, .ref e4, .int (nI sz9), .int (nI at9), .int (nI fl), .int pl, .int (nI wr), .ref e5])), (e4, .inl (cI, 400, .inl (aN tp))), (rw, .inl (cI, N9, .inl (aN r9)))] s.heap.size := ⟨_, rfl⟩
  have hA : ∀ q : Nat, s.heap.size ≤ q → A q := fun q h => by rw [hAe]; exact Or.inr h
  rw [← hAe] at hG hD
  have hS : va_S A s.heap s.heap [] := va_S.rf
  have hl := lv_entry ([.ref m0, .int (nI ct), .ref rw, .int (nI fr)]) (n := 7) (Nat.le_of_ble_eq_true rfl)
  rw [lg_entry_eq]
  generalize (lg_sl ([.ref m0, .int (nI ct), .ref rw, .int (nI fr)]) ++ List.replicate (7 - (lg_sl ([.ref m0, .int (nI ct), .ref rw, .int (nI fr)])).length) Slot.unset).toArray = ls at hl ⊢
  have hl : lv_has ls 7 [(0, .ref m0), (1, .int (nI ct)), (2, .ref rw), (3, .int (nI fr))] := hl
  refine zq_name (fun Q hQ => ?_)
  change W p l e rm_c_takeLetters_no s m _ below meth c _ _ _ _ Q _
  by_cases hq : sz9 < at9 + ct
  · unfold ltF at hd
    rw [if_pos hq] at hd
    obtain ⟨rfl, rfl⟩ : 1 = k2 ∧ sz9 = p2 := by injection hd with h9; injection h9 with h1 h2; exact ⟨h1, h2⟩
    refine lv_aload_n hx hb dM_takeLetters_0 rfl (lv_at hl 0 rfl) ?_
    refine va_get (D := (dC, dI)) (ci := 4) (v := .int (nI at9)) (C := RM) (T := TM) (N := 17) hx hb hw inM hown hK hP 0 rfl rfl 12 (by decide) (hw _ w_fl_M_108) (fun _ h9 => h9) rfl dM_takeLetters_1 ?_
    refine lv_iload_n hx hb dM_takeLetters_4 rfl (lv_at hl 1 rfl) ?_
    refine zi_add hx hb dM_takeLetters_5 ?_
    refine lv_aload_n hx hb dM_takeLetters_6 rfl (lv_at hl 0 rfl) ?_
    refine va_get (D := (dC, dI)) (ci := 4) (v := .int (nI sz9)) (C := RM) (T := TM) (N := 17) hx hb hw inM hown hK hP 0 rfl rfl 11 (by decide) (hw _ w_fl_M_99) (fun _ h9 => h9) rfl dM_takeLetters_7 ?_
    refine zi_le (tgt := 22) hx hb (by omega) (by omega) dM_takeLetters_10 (by decide) (fun q => False.elim ((by omega))) (fun c_10 => ?_)
    refine lv_aload_n hx hb dM_takeLetters_13 rfl (lv_at hl 0 rfl) ?_
    refine lv_iconst (v := nI 1) hx hb dM_takeLetters_14 (by decide) ?_
    refine lv_aload_n hx hb dM_takeLetters_15 rfl (lv_at hl 0 rfl) ?_
    refine va_get (D := (dC, dI)) (ci := 4) (v := .int (nI sz9)) (C := RM) (T := TM) (N := 17) hx hb hw inM hown hK hP 0 rfl rfl 11 (by decide) (hw _ w_fl_M_99) (fun _ h9 => h9) rfl dM_takeLetters_16 ?_
    have hPc := hP.sub (ws' := [(m0, .inr (4, [.ref n0, .ref n1, .ref n2, .int (nI cd), .int (nI dt), .ref e0, .ref e1, .int (nI rt), .ref e2, .ref e3, .ref e4, .int (nI sz9), .int (nI at9), .int (nI fl), .int pl, .int (nI wr), .ref e5]))]) [0] rfl
    have hDc := hD.sub (ws' := [(m0, .inr (4, [.ref n0, .ref n1, .ref n2, .int (nI cd), .int (nI dt), .ref e0, .ref e1, .int (nI rt), .ref e2, .ref e3, .ref e4, .int (nI sz9), .int (nI at9), .int (nI fl), .int pl, .int (nI wr), .ref e5]))]) [0] (by decide) rfl
    have hFc := va_free (wc := [(m0, .inr (4, [.ref n0, .ref n1, .ref n2, .int (nI cd), .int (nI dt), .ref e0, .ref e1, .int (nI rt), .ref e2, .ref e3, .ref e4, .int (nI sz9), .int (nI at9), .int (nI fl), .int pl, .int (nI wr), .ref e5]))]) hD hS hA [0] rfl
    refine zc_Mv (va_runV (As := [.int (nI 1), .int (nI sz9)]) (rest := []) ⟨hx, hb, hml, hown, hw⟩ (c_fails_1 l dC dI m0 n0 n1 n2 cd dt e0 e1 rt e2 e3 e4 sz9 at9 fl pl wr e5 cI cB 1 (nI sz9) (by omega) s.heap.size) (cwV 2 hw (gV w_ml_M_111 w_im_M_fails w_se_M_fails w_in_M w_co_M_fails) rfl rfl rfl (by decide +kernel) ⟨Nat.le_of_ble_eq_true rfl, Nat.le_of_ble_eq_true rfl⟩) (zM_V hG hS hFc hPc hDc hK 0 rfl rfl) rfl rfl hl.1 rfl (lv_room (Nat.le_of_ble_eq_true rfl)) dM_takeLetters_19 ⟨Nat.le_of_ble_eq_true rfl, Nat.le_of_ble_eq_true rfl⟩) hS hFc (fun H locs h_19 hP1 hD1 hk1 hS => ?_)
    obtain ⟨hP, hD⟩ := va_join (wr := [(e4, .inl (cI, 400, .inl (aN tp))), (rw, .inl (cI, N9, .inl (aN r9)))]) (w1 := [(m0, .inr (4, [.ref n0, .ref n1, .ref n2, .int (nI cd), .int (nI dt), .ref e0, .ref e1, .int (nI rt), .ref e2, .ref e3, .ref e4, .int (nI sz9), .int (nI at9), .int (nI 1), .int (nI sz9), .int (nI wr), .ref e5]))]) hP hD [0] [1, 2] rfl rfl (by decide) (by decide) hk1 hFc hP1 hD1
    have hP : va_P (dC, dI) vwCl [(e4, .inl (cI, 400, .inl (aN tp))), (rw, .inl (cI, N9, .inl (aN r9))), (m0, .inr (4, [.ref n0, .ref n1, .ref n2, .int (nI cd), .int (nI dt), .ref e0, .ref e1, .int (nI rt), .ref e2, .ref e3, .ref e4, .int (nI sz9), .int (nI at9), .int (nI 1), .int (nI sz9), .int (nI wr), .ref e5]))] H := hP
    have hD : va_D A [(e4, .inl (cI, 400, .inl (aN tp))), (rw, .inl (cI, N9, .inl (aN r9))), (m0, .inr (4, [.ref n0, .ref n1, .ref n2, .int (nI cd), .int (nI dt), .ref e0, .ref e1, .int (nI rt), .ref e2, .ref e3, .ref e4, .int (nI sz9), .int (nI at9), .int (nI 1), .int (nI sz9), .int (nI wr), .ref e5]))] := hD
    refine lv_iconst (v := nI 0) hx hb dM_takeLetters_22 (by decide) ?_
    refine lv_istore (lv' := [(4, .int (nI 0)), (0, .ref m0), (1, .int (nI ct)), (2, .ref rw), (3, .int (nI fr))]) hx hb dM_takeLetters_23 hl (by decide) rfl (fun ls hl => ?_)
    refine lv_iload hx hb dM_takeLetters_25 (lv_at hl 0 rfl) ?_
    refine lv_iload_n hx hb dM_takeLetters_27 rfl (lv_at hl 2 rfl) ?_
    refine zi_ge (tgt := 142) hx hb (by omega) (by omega) dM_takeLetters_28 (by decide) (fun c_28 => ?_) (fun c_28 => ?_)
    · subst hAe
      subst hQ
      exact W.vret hx hb hr (fun t ht hW => ⟨⟨(at9, r9), rfl, trivial, by rw [ht]; exact hP.sub [2, 0, 1] rfl, hD.sub [2, 0, 1] (by decide) rfl⟩, hS.F ht⟩) hS.2.2 dM_takeLetters_142
    · refine lv_aload_n hx hb dM_takeLetters_31 rfl (lv_at hl 1 rfl) ?_
      refine va_get (D := (dC, dI)) (ci := 4) (v := .int (nI 1)) (C := RM) (T := TM) (N := 17) hx hb hw inM hown hK hP 2 rfl rfl 13 (by decide) (hw _ w_fl_M_102) (fun _ h9 => h9) rfl dM_takeLetters_32 ?_
      refine lv_if_ne (tgt := 142) hx hb dM_takeLetters_35 (by decide) (fun c_35 => ?_) (fun q => False.elim (absurd q (by decide)))
      subst hAe
      subst hQ
      exact W.vret hx hb hr (fun t ht hW => ⟨⟨(at9, r9), rfl, trivial, by rw [ht]; exact hP.sub [2, 0, 1] rfl, hD.sub [2, 0, 1] (by decide) rfl⟩, hS.F ht⟩) hS.2.2 dM_takeLetters_142
  · unfold ltF at hd
    rw [if_neg hq] at hd
    refine lv_aload_n hx hb dM_takeLetters_0 rfl (lv_at hl 0 rfl) ?_
    refine va_get (D := (dC, dI)) (ci := 4) (v := .int (nI at9)) (C := RM) (T := TM) (N := 17) hx hb hw inM hown hK hP 0 rfl rfl 12 (by decide) (hw _ w_fl_M_108) (fun _ h9 => h9) rfl dM_takeLetters_1 ?_
    refine lv_iload_n hx hb dM_takeLetters_4 rfl (lv_at hl 1 rfl) ?_
    refine zi_add hx hb dM_takeLetters_5 ?_
    refine lv_aload_n hx hb dM_takeLetters_6 rfl (lv_at hl 0 rfl) ?_
    refine va_get (D := (dC, dI)) (ci := 4) (v := .int (nI sz9)) (C := RM) (T := TM) (N := 17) hx hb hw inM hown hK hP 0 rfl rfl 11 (by decide) (hw _ w_fl_M_99) (fun _ h9 => h9) rfl dM_takeLetters_7 ?_
    refine zi_le (tgt := 22) hx hb (by omega) (by omega) dM_takeLetters_10 (by decide) (fun c_10 => ?_) (fun q => False.elim ((by omega)))
    refine lv_iconst (v := nI 0) hx hb dM_takeLetters_22 (by decide) ?_
    refine lv_istore (lv' := [(4, .int (nI 0)), (0, .ref m0), (1, .int (nI ct)), (2, .ref rw), (3, .int (nI fr))]) hx hb dM_takeLetters_23 hl (by decide) rfl (fun ls hl => ?_)
    have lp_25 : ∀ (fu : Nat) (k : Nat) (f : Nat → Nat) (hk : k ≤ ct) (hi : ltL tp (ct - k) (at9 + k) = some (k2, p2)) (hms : ct - k < fu) (H : Heap) (locs : List Loc) (ls : Array Slot), lv_has ls 7 [(0, .ref m0), (1, .int (nI ct)), (2, .ref rw), (3, .int (nI fr)), (4, .int (nI k))] → va_P (dC, dI) vwCl [(m0, .inr (4, [.ref n0, .ref n1, .ref n2, .int (nI cd), .int (nI dt), .ref e0, .ref e1, .int (nI rt), .ref e2, .ref e3, .ref e4, .int (nI sz9), .int (nI (at9 + k)), .int (nI fl), .int pl, .int (nI wr), .ref e5])), (e4, .inl (cI, 400, .inl (aN tp))), (rw, .inl (cI, N9, .inl (aN f)))] H → va_D A [(m0, .inr (4, [.ref n0, .ref n1, .ref n2, .int (nI cd), .int (nI dt), .ref e0, .ref e1, .int (nI rt), .ref e2, .ref e3, .ref e4, .int (nI sz9), .int (nI (at9 + k)), .int (nI fl), .int pl, .int (nI wr), .ref e5])), (e4, .inl (cI, 400, .inl (aN tp))), (rw, .inl (cI, N9, .inl (aN f)))] → va_S A s.heap H locs → W p l e rm_c_takeLetters_no s m ([.ref m0, .int (nI ct), .ref rw, .int (nI fr)] : List Value).toArray below meth c H locs 0 0 Q (F0 m 25 ls []) := by
      intro fu
      induction fu with
      | zero => intro k f hk hi hms; exact absurd hms (Nat.not_lt_zero _)
      | succ fu ih25 =>
        intro k f hk hi hms H locs ls hl hP hD hS
        refine lv_iload hx hb dM_takeLetters_25 (lv_at hl 4 rfl) ?_
        refine lv_iload_n hx hb dM_takeLetters_27 rfl (lv_at hl 1 rfl) ?_
        refine zi_ge (tgt := 142) hx hb (by omega) (by omega) dM_takeLetters_28 (by decide) (fun q => False.elim ((by have h9 := hi; rw [show ct - k = 0 by omega] at h9; cases h9))) (fun c_28 => ?_)
        refine lv_aload_n hx hb dM_takeLetters_31 rfl (lv_at hl 0 rfl) ?_
        refine va_get (D := (dC, dI)) (ci := 4) (v := .int (nI fl)) (C := RM) (T := TM) (N := 17) hx hb hw inM hown hK hP 0 rfl rfl 13 (by decide) (hw _ w_fl_M_102) (fun _ h9 => h9) rfl dM_takeLetters_32 ?_
        refine zi_ne0 (tgt := 142) hx hb (by omega) dM_takeLetters_35 (by decide) (fun q => False.elim ((q hfl))) (fun c_35 => ?_)
        have ht9 := htp (at9 + k)
        have hi9 := hi
        rw [show ct - k = ct - (k + 1) + 1 by omega] at hi9
        unfold ltL at hi9
        by_cases hL : isL (tp (at9 + k)) = true
        · rw [if_pos hL] at hi9
          have hL9 := isL_or hL
          refine lv_aload_n hx hb dM_takeLetters_38 rfl (lv_at hl 0 rfl) ?_
          refine va_get (D := (dC, dI)) (ci := 4) (v := .ref e4) (C := RM) (T := TM) (N := 17) hx hb hw inM hown hK hP 0 rfl rfl 10 (by decide) (hw _ w_fl_M_35) (fun _ h9 => h9) rfl dM_takeLetters_39 ?_
          refine lv_aload_n hx hb dM_takeLetters_42 rfl (lv_at hl 0 rfl) ?_
          refine va_get (D := (dC, dI)) (ci := 4) (v := .int (nI (at9 + k))) (C := RM) (T := TM) (N := 17) hx hb hw inM hown hK hP 0 rfl rfl 12 (by decide) (hw _ w_fl_M_108) (fun _ h9 => h9) rfl dM_takeLetters_43 ?_
          refine za_ild hx hb hK hP 1 0 rfl rfl (by omega) (by decide) dM_takeLetters_46 ?_
          refine lv_istore (lv' := [(5, .int (nI (tp (at9 + k)))), (0, .ref m0), (1, .int (nI ct)), (2, .ref rw), (3, .int (nI fr)), (4, .int (nI k))]) hx hb dM_takeLetters_47 hl (by decide) rfl (fun ls hl => ?_)
          refine lv_iload hx hb dM_takeLetters_49 (lv_at hl 0 rfl) ?_
          refine lv_bipush (v := nI 47) hx hb dM_takeLetters_51 (by decide) ?_
          refine zi_le (tgt := 67) hx hb (by omega) (by omega) dM_takeLetters_53 (by decide) (fun c_53 => ?_) (fun c_53 => ?_)
          · refine lv_iconst (v := nI 0) hx hb dM_takeLetters_67 (by decide) ?_
            refine lv_istore (lv' := [(6, .int (nI 0)), (5, .int (nI (tp (at9 + k)))), (0, .ref m0), (1, .int (nI ct)), (2, .ref rw), (3, .int (nI fr)), (4, .int (nI k))]) hx hb dM_takeLetters_68 hl (by decide) rfl (fun ls hl => ?_)
            refine lv_iload hx hb dM_takeLetters_70 (lv_at hl 0 rfl) ?_
            refine lv_if_ne (tgt := 89) hx hb dM_takeLetters_72 (by decide) (fun q => False.elim (absurd q (by decide))) (fun c_72 => ?_)
            refine lv_iload hx hb dM_takeLetters_75 (lv_at hl 1 rfl) ?_
            refine lv_bipush (v := nI 64) hx hb dM_takeLetters_77 (by decide) ?_
            refine zi_le (tgt := 126) hx hb (by omega) (by omega) dM_takeLetters_79 (by decide) (fun c_79 => ?_) (fun c_79 => ?_)
            · exfalso
              omega
            · refine lv_iload hx hb dM_takeLetters_82 (lv_at hl 1 rfl) ?_
              refine lv_bipush (v := nI 91) hx hb dM_takeLetters_84 (by decide) ?_
              refine zi_ge (tgt := 126) hx hb (by omega) (by omega) dM_takeLetters_86 (by decide) (fun c_86 => ?_) (fun c_86 => ?_)
              · exfalso
                omega
              · refine lv_aload_n hx hb dM_takeLetters_89 rfl (lv_at hl 4 rfl) ?_
                refine lv_iload_n hx hb dM_takeLetters_90 rfl (lv_at hl 5 rfl) ?_
                refine lv_iload hx hb dM_takeLetters_91 (lv_at hl 6 rfl) ?_
                refine zi_add hx hb dM_takeLetters_93 ?_
                refine lv_iload hx hb dM_takeLetters_94 (lv_at hl 0 rfl) ?_
                refine lv_if_eq (tgt := 107) hx hb dM_takeLetters_96 (by decide) (fun c_96 => ?_) (fun q => False.elim (absurd q (by decide)))
                refine lv_iload hx hb dM_takeLetters_107 (lv_at hl 1 rfl) ?_
                refine lv_bipush (v := nI 55) hx hb dM_takeLetters_109 (by decide) ?_
                refine zi_sub hx hb (by omega) dM_takeLetters_111 ?_
                refine zi_v (b := nI (lnum (tp (at9 + k)))) (by unfold lnum; rw [if_neg (by omega)]) ?_
                refine za_ist hx hb hK hP hD hS 2 0 rfl rfl (by omega) (by omega) dM_takeLetters_112 (fun H locs hP hD hS => ?_)
                have hP : va_P (dC, dI) vwCl [(m0, .inr (4, [.ref n0, .ref n1, .ref n2, .int (nI cd), .int (nI dt), .ref e0, .ref e1, .int (nI rt), .ref e2, .ref e3, .ref e4, .int (nI sz9), .int (nI (at9 + k)), .int (nI fl), .int pl, .int (nI wr), .ref e5])), (e4, .inl (cI, 400, .inl (aN tp))), (rw, .inl (cI, N9, .inl (aN (nup f (fr + k) (lnum (tp (at9 + k)))))))] H := hP
                have hD : va_D A [(m0, .inr (4, [.ref n0, .ref n1, .ref n2, .int (nI cd), .int (nI dt), .ref e0, .ref e1, .int (nI rt), .ref e2, .ref e3, .ref e4, .int (nI sz9), .int (nI (at9 + k)), .int (nI fl), .int pl, .int (nI wr), .ref e5])), (e4, .inl (cI, 400, .inl (aN tp))), (rw, .inl (cI, N9, .inl (aN (nup f (fr + k) (lnum (tp (at9 + k)))))))] := hD
                refine lv_aload_n hx hb dM_takeLetters_113 rfl (lv_at hl 2 rfl) ?_
                refine lv_dup hx hb dM_takeLetters_114 rfl ?_
                refine va_get (D := (dC, dI)) (ci := 4) (v := .int (nI (at9 + k))) (C := RM) (T := TM) (N := 17) hx hb hw inM hown hK hP 0 rfl rfl 12 (by decide) (hw _ w_fl_M_108) (fun _ h9 => h9) rfl dM_takeLetters_115 ?_
                refine lv_iconst (v := nI 1) hx hb dM_takeLetters_118 (by decide) ?_
                refine zi_add hx hb dM_takeLetters_119 ?_
                refine va_put (D := (dC, dI)) (ci := 4) (v := .int (nI ((at9 + k) + 1))) (ty := .int) (C := RM) (T := TM) (N := 17) hx hb hw inM tyM tyM_ok nmM hown hK hP hD hS 0 rfl rfl 12 (by decide) (hw _ w_fl_M_108) (fun _ h9 => h9) rfl (by decide +kernel) rfl rfl (Nat.le_of_ble_eq_true rfl) dM_takeLetters_120 (fun H locs hP hD hS => ?_)
                have hP : va_P (dC, dI) vwCl [(m0, .inr (4, [.ref n0, .ref n1, .ref n2, .int (nI cd), .int (nI dt), .ref e0, .ref e1, .int (nI rt), .ref e2, .ref e3, .ref e4, .int (nI sz9), .int (nI ((at9 + k) + 1)), .int (nI fl), .int pl, .int (nI wr), .ref e5])), (e4, .inl (cI, 400, .inl (aN tp))), (rw, .inl (cI, N9, .inl (aN (nup f (fr + k) (lnum (tp (at9 + k)))))))] H := hP
                have hD : va_D A [(m0, .inr (4, [.ref n0, .ref n1, .ref n2, .int (nI cd), .int (nI dt), .ref e0, .ref e1, .int (nI rt), .ref e2, .ref e3, .ref e4, .int (nI sz9), .int (nI ((at9 + k) + 1)), .int (nI fl), .int pl, .int (nI wr), .ref e5])), (e4, .inl (cI, 400, .inl (aN tp))), (rw, .inl (cI, N9, .inl (aN (nup f (fr + k) (lnum (tp (at9 + k)))))))] := hD
                refine lv_goto (tgt := 136) hx hb dM_takeLetters_123 (by decide) ?_
                refine lv_iinc (v := nI (k + 1)) (lv' := [(4, .int (nI (k + 1))), (6, .int (nI 0)), (5, .int (nI (tp (at9 + k)))), (0, .ref m0), (1, .int (nI ct)), (2, .ref rw), (3, .int (nI fr))]) hx hb dM_takeLetters_136 hl (k := 6) rfl (zi_incr k 1) (by decide) rfl (fun ls hl => ?_)
                refine lv_goto (tgt := 25) hx hb dM_takeLetters_139 (by decide) ?_
                exact ih25 (k + 1) (nup f (fr + k) (lnum (tp (at9 + k)))) (by omega) hi9 (by omega) _ _ _ (lv_sub hl [3, 4, 5, 6, 0] rfl) (hP.sub [0, 1, 2] rfl) (hD.sub [0, 1, 2] (by decide) rfl) hS
          · refine lv_iload hx hb dM_takeLetters_56 (lv_at hl 0 rfl) ?_
            refine lv_bipush (v := nI 58) hx hb dM_takeLetters_58 (by decide) ?_
            refine zi_ge (tgt := 67) hx hb (by omega) (by omega) dM_takeLetters_60 (by decide) (fun c_60 => ?_) (fun c_60 => ?_)
            · refine lv_iconst (v := nI 0) hx hb dM_takeLetters_67 (by decide) ?_
              refine lv_istore (lv' := [(6, .int (nI 0)), (5, .int (nI (tp (at9 + k)))), (0, .ref m0), (1, .int (nI ct)), (2, .ref rw), (3, .int (nI fr)), (4, .int (nI k))]) hx hb dM_takeLetters_68 hl (by decide) rfl (fun ls hl => ?_)
              refine lv_iload hx hb dM_takeLetters_70 (lv_at hl 0 rfl) ?_
              refine lv_if_ne (tgt := 89) hx hb dM_takeLetters_72 (by decide) (fun q => False.elim (absurd q (by decide))) (fun c_72 => ?_)
              refine lv_iload hx hb dM_takeLetters_75 (lv_at hl 1 rfl) ?_
              refine lv_bipush (v := nI 64) hx hb dM_takeLetters_77 (by decide) ?_
              refine zi_le (tgt := 126) hx hb (by omega) (by omega) dM_takeLetters_79 (by decide) (fun c_79 => ?_) (fun c_79 => ?_)
              · exfalso
                omega
              · refine lv_iload hx hb dM_takeLetters_82 (lv_at hl 1 rfl) ?_
                refine lv_bipush (v := nI 91) hx hb dM_takeLetters_84 (by decide) ?_
                refine zi_ge (tgt := 126) hx hb (by omega) (by omega) dM_takeLetters_86 (by decide) (fun c_86 => ?_) (fun c_86 => ?_)
                · exfalso
                  omega
                · refine lv_aload_n hx hb dM_takeLetters_89 rfl (lv_at hl 4 rfl) ?_
                  refine lv_iload_n hx hb dM_takeLetters_90 rfl (lv_at hl 5 rfl) ?_
                  refine lv_iload hx hb dM_takeLetters_91 (lv_at hl 6 rfl) ?_
                  refine zi_add hx hb dM_takeLetters_93 ?_
                  refine lv_iload hx hb dM_takeLetters_94 (lv_at hl 0 rfl) ?_
                  refine lv_if_eq (tgt := 107) hx hb dM_takeLetters_96 (by decide) (fun c_96 => ?_) (fun q => False.elim (absurd q (by decide)))
                  refine lv_iload hx hb dM_takeLetters_107 (lv_at hl 1 rfl) ?_
                  refine lv_bipush (v := nI 55) hx hb dM_takeLetters_109 (by decide) ?_
                  refine zi_sub hx hb (by omega) dM_takeLetters_111 ?_
                  refine zi_v (b := nI (lnum (tp (at9 + k)))) (by unfold lnum; rw [if_neg (by omega)]) ?_
                  refine za_ist hx hb hK hP hD hS 2 0 rfl rfl (by omega) (by omega) dM_takeLetters_112 (fun H locs hP hD hS => ?_)
                  have hP : va_P (dC, dI) vwCl [(m0, .inr (4, [.ref n0, .ref n1, .ref n2, .int (nI cd), .int (nI dt), .ref e0, .ref e1, .int (nI rt), .ref e2, .ref e3, .ref e4, .int (nI sz9), .int (nI (at9 + k)), .int (nI fl), .int pl, .int (nI wr), .ref e5])), (e4, .inl (cI, 400, .inl (aN tp))), (rw, .inl (cI, N9, .inl (aN (nup f (fr + k) (lnum (tp (at9 + k)))))))] H := hP
                  have hD : va_D A [(m0, .inr (4, [.ref n0, .ref n1, .ref n2, .int (nI cd), .int (nI dt), .ref e0, .ref e1, .int (nI rt), .ref e2, .ref e3, .ref e4, .int (nI sz9), .int (nI (at9 + k)), .int (nI fl), .int pl, .int (nI wr), .ref e5])), (e4, .inl (cI, 400, .inl (aN tp))), (rw, .inl (cI, N9, .inl (aN (nup f (fr + k) (lnum (tp (at9 + k)))))))] := hD
                  refine lv_aload_n hx hb dM_takeLetters_113 rfl (lv_at hl 2 rfl) ?_
                  refine lv_dup hx hb dM_takeLetters_114 rfl ?_
                  refine va_get (D := (dC, dI)) (ci := 4) (v := .int (nI (at9 + k))) (C := RM) (T := TM) (N := 17) hx hb hw inM hown hK hP 0 rfl rfl 12 (by decide) (hw _ w_fl_M_108) (fun _ h9 => h9) rfl dM_takeLetters_115 ?_
                  refine lv_iconst (v := nI 1) hx hb dM_takeLetters_118 (by decide) ?_
                  refine zi_add hx hb dM_takeLetters_119 ?_
                  refine va_put (D := (dC, dI)) (ci := 4) (v := .int (nI ((at9 + k) + 1))) (ty := .int) (C := RM) (T := TM) (N := 17) hx hb hw inM tyM tyM_ok nmM hown hK hP hD hS 0 rfl rfl 12 (by decide) (hw _ w_fl_M_108) (fun _ h9 => h9) rfl (by decide +kernel) rfl rfl (Nat.le_of_ble_eq_true rfl) dM_takeLetters_120 (fun H locs hP hD hS => ?_)
                  have hP : va_P (dC, dI) vwCl [(m0, .inr (4, [.ref n0, .ref n1, .ref n2, .int (nI cd), .int (nI dt), .ref e0, .ref e1, .int (nI rt), .ref e2, .ref e3, .ref e4, .int (nI sz9), .int (nI ((at9 + k) + 1)), .int (nI fl), .int pl, .int (nI wr), .ref e5])), (e4, .inl (cI, 400, .inl (aN tp))), (rw, .inl (cI, N9, .inl (aN (nup f (fr + k) (lnum (tp (at9 + k)))))))] H := hP
                  have hD : va_D A [(m0, .inr (4, [.ref n0, .ref n1, .ref n2, .int (nI cd), .int (nI dt), .ref e0, .ref e1, .int (nI rt), .ref e2, .ref e3, .ref e4, .int (nI sz9), .int (nI ((at9 + k) + 1)), .int (nI fl), .int pl, .int (nI wr), .ref e5])), (e4, .inl (cI, 400, .inl (aN tp))), (rw, .inl (cI, N9, .inl (aN (nup f (fr + k) (lnum (tp (at9 + k)))))))] := hD
                  refine lv_goto (tgt := 136) hx hb dM_takeLetters_123 (by decide) ?_
                  refine lv_iinc (v := nI (k + 1)) (lv' := [(4, .int (nI (k + 1))), (6, .int (nI 0)), (5, .int (nI (tp (at9 + k)))), (0, .ref m0), (1, .int (nI ct)), (2, .ref rw), (3, .int (nI fr))]) hx hb dM_takeLetters_136 hl (k := 6) rfl (zi_incr k 1) (by decide) rfl (fun ls hl => ?_)
                  refine lv_goto (tgt := 25) hx hb dM_takeLetters_139 (by decide) ?_
                  exact ih25 (k + 1) (nup f (fr + k) (lnum (tp (at9 + k)))) (by omega) hi9 (by omega) _ _ _ (lv_sub hl [3, 4, 5, 6, 0] rfl) (hP.sub [0, 1, 2] rfl) (hD.sub [0, 1, 2] (by decide) rfl) hS
            · refine lv_iconst (v := nI 1) hx hb dM_takeLetters_63 (by decide) ?_
              refine lv_goto (tgt := 68) hx hb dM_takeLetters_64 (by decide) ?_
              refine lv_istore (lv' := [(6, .int (nI 1)), (5, .int (nI (tp (at9 + k)))), (0, .ref m0), (1, .int (nI ct)), (2, .ref rw), (3, .int (nI fr)), (4, .int (nI k))]) hx hb dM_takeLetters_68 hl (by decide) rfl (fun ls hl => ?_)
              refine lv_iload hx hb dM_takeLetters_70 (lv_at hl 0 rfl) ?_
              refine lv_if_ne (tgt := 89) hx hb dM_takeLetters_72 (by decide) (fun c_72 => ?_) (fun q => False.elim (absurd q (by decide)))
              refine lv_aload_n hx hb dM_takeLetters_89 rfl (lv_at hl 4 rfl) ?_
              refine lv_iload_n hx hb dM_takeLetters_90 rfl (lv_at hl 5 rfl) ?_
              refine lv_iload hx hb dM_takeLetters_91 (lv_at hl 6 rfl) ?_
              refine zi_add hx hb dM_takeLetters_93 ?_
              refine lv_iload hx hb dM_takeLetters_94 (lv_at hl 0 rfl) ?_
              refine lv_if_eq (tgt := 107) hx hb dM_takeLetters_96 (by decide) (fun q => False.elim (absurd q (by decide))) (fun c_96 => ?_)
              refine lv_iload hx hb dM_takeLetters_99 (lv_at hl 1 rfl) ?_
              refine lv_bipush (v := nI 48) hx hb dM_takeLetters_101 (by decide) ?_
              refine zi_sub hx hb (by omega) dM_takeLetters_103 ?_
              refine lv_goto (tgt := 112) hx hb dM_takeLetters_104 (by decide) ?_
              refine zi_v (b := nI (lnum (tp (at9 + k)))) (by unfold lnum; rw [if_pos (by omega)]) ?_
              refine za_ist hx hb hK hP hD hS 2 0 rfl rfl (by omega) (by omega) dM_takeLetters_112 (fun H locs hP hD hS => ?_)
              have hP : va_P (dC, dI) vwCl [(m0, .inr (4, [.ref n0, .ref n1, .ref n2, .int (nI cd), .int (nI dt), .ref e0, .ref e1, .int (nI rt), .ref e2, .ref e3, .ref e4, .int (nI sz9), .int (nI (at9 + k)), .int (nI fl), .int pl, .int (nI wr), .ref e5])), (e4, .inl (cI, 400, .inl (aN tp))), (rw, .inl (cI, N9, .inl (aN (nup f (fr + k) (lnum (tp (at9 + k)))))))] H := hP
              have hD : va_D A [(m0, .inr (4, [.ref n0, .ref n1, .ref n2, .int (nI cd), .int (nI dt), .ref e0, .ref e1, .int (nI rt), .ref e2, .ref e3, .ref e4, .int (nI sz9), .int (nI (at9 + k)), .int (nI fl), .int pl, .int (nI wr), .ref e5])), (e4, .inl (cI, 400, .inl (aN tp))), (rw, .inl (cI, N9, .inl (aN (nup f (fr + k) (lnum (tp (at9 + k)))))))] := hD
              refine lv_aload_n hx hb dM_takeLetters_113 rfl (lv_at hl 2 rfl) ?_
              refine lv_dup hx hb dM_takeLetters_114 rfl ?_
              refine va_get (D := (dC, dI)) (ci := 4) (v := .int (nI (at9 + k))) (C := RM) (T := TM) (N := 17) hx hb hw inM hown hK hP 0 rfl rfl 12 (by decide) (hw _ w_fl_M_108) (fun _ h9 => h9) rfl dM_takeLetters_115 ?_
              refine lv_iconst (v := nI 1) hx hb dM_takeLetters_118 (by decide) ?_
              refine zi_add hx hb dM_takeLetters_119 ?_
              refine va_put (D := (dC, dI)) (ci := 4) (v := .int (nI ((at9 + k) + 1))) (ty := .int) (C := RM) (T := TM) (N := 17) hx hb hw inM tyM tyM_ok nmM hown hK hP hD hS 0 rfl rfl 12 (by decide) (hw _ w_fl_M_108) (fun _ h9 => h9) rfl (by decide +kernel) rfl rfl (Nat.le_of_ble_eq_true rfl) dM_takeLetters_120 (fun H locs hP hD hS => ?_)
              have hP : va_P (dC, dI) vwCl [(m0, .inr (4, [.ref n0, .ref n1, .ref n2, .int (nI cd), .int (nI dt), .ref e0, .ref e1, .int (nI rt), .ref e2, .ref e3, .ref e4, .int (nI sz9), .int (nI ((at9 + k) + 1)), .int (nI fl), .int pl, .int (nI wr), .ref e5])), (e4, .inl (cI, 400, .inl (aN tp))), (rw, .inl (cI, N9, .inl (aN (nup f (fr + k) (lnum (tp (at9 + k)))))))] H := hP
              have hD : va_D A [(m0, .inr (4, [.ref n0, .ref n1, .ref n2, .int (nI cd), .int (nI dt), .ref e0, .ref e1, .int (nI rt), .ref e2, .ref e3, .ref e4, .int (nI sz9), .int (nI ((at9 + k) + 1)), .int (nI fl), .int pl, .int (nI wr), .ref e5])), (e4, .inl (cI, 400, .inl (aN tp))), (rw, .inl (cI, N9, .inl (aN (nup f (fr + k) (lnum (tp (at9 + k)))))))] := hD
              refine lv_goto (tgt := 136) hx hb dM_takeLetters_123 (by decide) ?_
              refine lv_iinc (v := nI (k + 1)) (lv' := [(4, .int (nI (k + 1))), (6, .int (nI 1)), (5, .int (nI (tp (at9 + k)))), (0, .ref m0), (1, .int (nI ct)), (2, .ref rw), (3, .int (nI fr))]) hx hb dM_takeLetters_136 hl (k := 6) rfl (zi_incr k 1) (by decide) rfl (fun ls hl => ?_)
              refine lv_goto (tgt := 25) hx hb dM_takeLetters_139 (by decide) ?_
              exact ih25 (k + 1) (nup f (fr + k) (lnum (tp (at9 + k)))) (by omega) hi9 (by omega) _ _ _ (lv_sub hl [3, 4, 5, 6, 0] rfl) (hP.sub [0, 1, 2] rfl) (hD.sub [0, 1, 2] (by decide) rfl) hS
        · rw [if_neg hL] at hi9
          have hL9 := isL_no (Bool.eq_false_iff.mpr hL)
          obtain ⟨rfl, rfl⟩ : 6 = k2 ∧ at9 + k = p2 := by injection hi9 with h9; injection h9 with h1 h2; exact ⟨h1, h2⟩
          refine lv_aload_n hx hb dM_takeLetters_38 rfl (lv_at hl 0 rfl) ?_
          refine va_get (D := (dC, dI)) (ci := 4) (v := .ref e4) (C := RM) (T := TM) (N := 17) hx hb hw inM hown hK hP 0 rfl rfl 10 (by decide) (hw _ w_fl_M_35) (fun _ h9 => h9) rfl dM_takeLetters_39 ?_
          refine lv_aload_n hx hb dM_takeLetters_42 rfl (lv_at hl 0 rfl) ?_
          refine va_get (D := (dC, dI)) (ci := 4) (v := .int (nI (at9 + k))) (C := RM) (T := TM) (N := 17) hx hb hw inM hown hK hP 0 rfl rfl 12 (by decide) (hw _ w_fl_M_108) (fun _ h9 => h9) rfl dM_takeLetters_43 ?_
          refine za_ild hx hb hK hP 1 0 rfl rfl (by omega) (by decide) dM_takeLetters_46 ?_
          refine lv_istore (lv' := [(5, .int (nI (tp (at9 + k)))), (0, .ref m0), (1, .int (nI ct)), (2, .ref rw), (3, .int (nI fr)), (4, .int (nI k))]) hx hb dM_takeLetters_47 hl (by decide) rfl (fun ls hl => ?_)
          refine lv_iload hx hb dM_takeLetters_49 (lv_at hl 0 rfl) ?_
          refine lv_bipush (v := nI 47) hx hb dM_takeLetters_51 (by decide) ?_
          refine zi_le (tgt := 67) hx hb (by omega) (by omega) dM_takeLetters_53 (by decide) (fun c_53 => ?_) (fun c_53 => ?_)
          · refine lv_iconst (v := nI 0) hx hb dM_takeLetters_67 (by decide) ?_
            refine lv_istore (lv' := [(6, .int (nI 0)), (5, .int (nI (tp (at9 + k)))), (0, .ref m0), (1, .int (nI ct)), (2, .ref rw), (3, .int (nI fr)), (4, .int (nI k))]) hx hb dM_takeLetters_68 hl (by decide) rfl (fun ls hl => ?_)
            refine lv_iload hx hb dM_takeLetters_70 (lv_at hl 0 rfl) ?_
            refine lv_if_ne (tgt := 89) hx hb dM_takeLetters_72 (by decide) (fun q => False.elim (absurd q (by decide))) (fun c_72 => ?_)
            refine lv_iload hx hb dM_takeLetters_75 (lv_at hl 1 rfl) ?_
            refine lv_bipush (v := nI 64) hx hb dM_takeLetters_77 (by decide) ?_
            refine zi_le (tgt := 126) hx hb (by omega) (by omega) dM_takeLetters_79 (by decide) (fun c_79 => ?_) (fun c_79 => ?_)
            · refine lv_aload_n hx hb dM_takeLetters_126 rfl (lv_at hl 2 rfl) ?_
              refine lv_bipush (v := nI 6) hx hb dM_takeLetters_127 (by decide) ?_
              refine lv_aload_n hx hb dM_takeLetters_129 rfl (lv_at hl 2 rfl) ?_
              refine va_get (D := (dC, dI)) (ci := 4) (v := .int (nI (at9 + k))) (C := RM) (T := TM) (N := 17) hx hb hw inM hown hK hP 0 rfl rfl 12 (by decide) (hw _ w_fl_M_108) (fun _ h9 => h9) rfl dM_takeLetters_130 ?_
              have hPc := hP.sub (ws' := [(m0, .inr (4, [.ref n0, .ref n1, .ref n2, .int (nI cd), .int (nI dt), .ref e0, .ref e1, .int (nI rt), .ref e2, .ref e3, .ref e4, .int (nI sz9), .int (nI (at9 + k)), .int (nI fl), .int pl, .int (nI wr), .ref e5]))]) [0] rfl
              have hDc := hD.sub (ws' := [(m0, .inr (4, [.ref n0, .ref n1, .ref n2, .int (nI cd), .int (nI dt), .ref e0, .ref e1, .int (nI rt), .ref e2, .ref e3, .ref e4, .int (nI sz9), .int (nI (at9 + k)), .int (nI fl), .int pl, .int (nI wr), .ref e5]))]) [0] (by decide) rfl
              have hFc := va_free (wc := [(m0, .inr (4, [.ref n0, .ref n1, .ref n2, .int (nI cd), .int (nI dt), .ref e0, .ref e1, .int (nI rt), .ref e2, .ref e3, .ref e4, .int (nI sz9), .int (nI (at9 + k)), .int (nI fl), .int pl, .int (nI wr), .ref e5]))]) hD hS hA [0] rfl
              refine zc_Mv (va_runV (As := [.int (nI 6), .int (nI (at9 + k))]) (rest := []) ⟨hx, hb, hml, hown, hw⟩ (c_fails_1 l dC dI m0 n0 n1 n2 cd dt e0 e1 rt e2 e3 e4 sz9 (at9 + k) fl pl wr e5 cI cB 6 (nI (at9 + k)) (by omega) H.size) (cwV 2 hw (gV w_ml_M_111 w_im_M_fails w_se_M_fails w_in_M w_co_M_fails) rfl rfl rfl (by decide +kernel) ⟨Nat.le_of_ble_eq_true rfl, Nat.le_of_ble_eq_true rfl⟩) (zM_V hG hS hFc hPc hDc hK 0 rfl rfl) rfl rfl hl.1 rfl (lv_room (Nat.le_of_ble_eq_true rfl)) dM_takeLetters_133 ⟨Nat.le_of_ble_eq_true rfl, Nat.le_of_ble_eq_true rfl⟩) hS hFc (fun H locs h_133 hP1 hD1 hk1 hS => ?_)
              obtain ⟨hP, hD⟩ := va_join (wr := [(e4, .inl (cI, 400, .inl (aN tp))), (rw, .inl (cI, N9, .inl (aN f)))]) (w1 := [(m0, .inr (4, [.ref n0, .ref n1, .ref n2, .int (nI cd), .int (nI dt), .ref e0, .ref e1, .int (nI rt), .ref e2, .ref e3, .ref e4, .int (nI sz9), .int (nI (at9 + k)), .int (nI 6), .int (nI (at9 + k)), .int (nI wr), .ref e5]))]) hP hD [0] [1, 2] rfl rfl (by decide) (by decide) hk1 hFc hP1 hD1
              have hP : va_P (dC, dI) vwCl [(e4, .inl (cI, 400, .inl (aN tp))), (rw, .inl (cI, N9, .inl (aN f))), (m0, .inr (4, [.ref n0, .ref n1, .ref n2, .int (nI cd), .int (nI dt), .ref e0, .ref e1, .int (nI rt), .ref e2, .ref e3, .ref e4, .int (nI sz9), .int (nI (at9 + k)), .int (nI 6), .int (nI (at9 + k)), .int (nI wr), .ref e5]))] H := hP
              have hD : va_D A [(e4, .inl (cI, 400, .inl (aN tp))), (rw, .inl (cI, N9, .inl (aN f))), (m0, .inr (4, [.ref n0, .ref n1, .ref n2, .int (nI cd), .int (nI dt), .ref e0, .ref e1, .int (nI rt), .ref e2, .ref e3, .ref e4, .int (nI sz9), .int (nI (at9 + k)), .int (nI 6), .int (nI (at9 + k)), .int (nI wr), .ref e5]))] := hD
              refine lv_iinc (v := nI (k + 1)) (lv' := [(4, .int (nI (k + 1))), (6, .int (nI 0)), (5, .int (nI (tp (at9 + k)))), (0, .ref m0), (1, .int (nI ct)), (2, .ref rw), (3, .int (nI fr))]) hx hb dM_takeLetters_136 hl (k := 6) rfl (zi_incr k 1) (by decide) rfl (fun ls hl => ?_)
              refine lv_goto (tgt := 25) hx hb dM_takeLetters_139 (by decide) ?_
              refine lv_iload hx hb dM_takeLetters_25 (lv_at hl 0 rfl) ?_
              refine lv_iload_n hx hb dM_takeLetters_27 rfl (lv_at hl 4 rfl) ?_
              refine zi_ge (tgt := 142) hx hb (by omega) (by omega) dM_takeLetters_28 (by decide) (fun c_28 => ?_) (fun c_28 => ?_)
              · subst hAe
                subst hQ
                exact W.vret hx hb hr (fun t ht hW => ⟨⟨((at9 + k), f), rfl, trivial, by rw [ht]; exact hP.sub [2, 0, 1] rfl, hD.sub [2, 0, 1] (by decide) rfl⟩, hS.F ht⟩) hS.2.2 dM_takeLetters_142
              · refine lv_aload_n hx hb dM_takeLetters_31 rfl (lv_at hl 3 rfl) ?_
                refine va_get (D := (dC, dI)) (ci := 4) (v := .int (nI 6)) (C := RM) (T := TM) (N := 17) hx hb hw inM hown hK hP 2 rfl rfl 13 (by decide) (hw _ w_fl_M_102) (fun _ h9 => h9) rfl dM_takeLetters_32 ?_
                refine lv_if_ne (tgt := 142) hx hb dM_takeLetters_35 (by decide) (fun c_35 => ?_) (fun q => False.elim (absurd q (by decide)))
                subst hAe
                subst hQ
                exact W.vret hx hb hr (fun t ht hW => ⟨⟨((at9 + k), f), rfl, trivial, by rw [ht]; exact hP.sub [2, 0, 1] rfl, hD.sub [2, 0, 1] (by decide) rfl⟩, hS.F ht⟩) hS.2.2 dM_takeLetters_142
            · refine lv_iload hx hb dM_takeLetters_82 (lv_at hl 1 rfl) ?_
              refine lv_bipush (v := nI 91) hx hb dM_takeLetters_84 (by decide) ?_
              refine zi_ge (tgt := 126) hx hb (by omega) (by omega) dM_takeLetters_86 (by decide) (fun c_86 => ?_) (fun c_86 => ?_)
              · refine lv_aload_n hx hb dM_takeLetters_126 rfl (lv_at hl 2 rfl) ?_
                refine lv_bipush (v := nI 6) hx hb dM_takeLetters_127 (by decide) ?_
                refine lv_aload_n hx hb dM_takeLetters_129 rfl (lv_at hl 2 rfl) ?_
                refine va_get (D := (dC, dI)) (ci := 4) (v := .int (nI (at9 + k))) (C := RM) (T := TM) (N := 17) hx hb hw inM hown hK hP 0 rfl rfl 12 (by decide) (hw _ w_fl_M_108) (fun _ h9 => h9) rfl dM_takeLetters_130 ?_
                have hPc := hP.sub (ws' := [(m0, .inr (4, [.ref n0, .ref n1, .ref n2, .int (nI cd), .int (nI dt), .ref e0, .ref e1, .int (nI rt), .ref e2, .ref e3, .ref e4, .int (nI sz9), .int (nI (at9 + k)), .int (nI fl), .int pl, .int (nI wr), .ref e5]))]) [0] rfl
                have hDc := hD.sub (ws' := [(m0, .inr (4, [.ref n0, .ref n1, .ref n2, .int (nI cd), .int (nI dt), .ref e0, .ref e1, .int (nI rt), .ref e2, .ref e3, .ref e4, .int (nI sz9), .int (nI (at9 + k)), .int (nI fl), .int pl, .int (nI wr), .ref e5]))]) [0] (by decide) rfl
                have hFc := va_free (wc := [(m0, .inr (4, [.ref n0, .ref n1, .ref n2, .int (nI cd), .int (nI dt), .ref e0, .ref e1, .int (nI rt), .ref e2, .ref e3, .ref e4, .int (nI sz9), .int (nI (at9 + k)), .int (nI fl), .int pl, .int (nI wr), .ref e5]))]) hD hS hA [0] rfl
                refine zc_Mv (va_runV (As := [.int (nI 6), .int (nI (at9 + k))]) (rest := []) ⟨hx, hb, hml, hown, hw⟩ (c_fails_1 l dC dI m0 n0 n1 n2 cd dt e0 e1 rt e2 e3 e4 sz9 (at9 + k) fl pl wr e5 cI cB 6 (nI (at9 + k)) (by omega) H.size) (cwV 2 hw (gV w_ml_M_111 w_im_M_fails w_se_M_fails w_in_M w_co_M_fails) rfl rfl rfl (by decide +kernel) ⟨Nat.le_of_ble_eq_true rfl, Nat.le_of_ble_eq_true rfl⟩) (zM_V hG hS hFc hPc hDc hK 0 rfl rfl) rfl rfl hl.1 rfl (lv_room (Nat.le_of_ble_eq_true rfl)) dM_takeLetters_133 ⟨Nat.le_of_ble_eq_true rfl, Nat.le_of_ble_eq_true rfl⟩) hS hFc (fun H locs h_133 hP1 hD1 hk1 hS => ?_)
                obtain ⟨hP, hD⟩ := va_join (wr := [(e4, .inl (cI, 400, .inl (aN tp))), (rw, .inl (cI, N9, .inl (aN f)))]) (w1 := [(m0, .inr (4, [.ref n0, .ref n1, .ref n2, .int (nI cd), .int (nI dt), .ref e0, .ref e1, .int (nI rt), .ref e2, .ref e3, .ref e4, .int (nI sz9), .int (nI (at9 + k)), .int (nI 6), .int (nI (at9 + k)), .int (nI wr), .ref e5]))]) hP hD [0] [1, 2] rfl rfl (by decide) (by decide) hk1 hFc hP1 hD1
                have hP : va_P (dC, dI) vwCl [(e4, .inl (cI, 400, .inl (aN tp))), (rw, .inl (cI, N9, .inl (aN f))), (m0, .inr (4, [.ref n0, .ref n1, .ref n2, .int (nI cd), .int (nI dt), .ref e0, .ref e1, .int (nI rt), .ref e2, .ref e3, .ref e4, .int (nI sz9), .int (nI (at9 + k)), .int (nI 6), .int (nI (at9 + k)), .int (nI wr), .ref e5]))] H := hP
                have hD : va_D A [(e4, .inl (cI, 400, .inl (aN tp))), (rw, .inl (cI, N9, .inl (aN f))), (m0, .inr (4, [.ref n0, .ref n1, .ref n2, .int (nI cd), .int (nI dt), .ref e0, .ref e1, .int (nI rt), .ref e2, .ref e3, .ref e4, .int (nI sz9), .int (nI (at9 + k)), .int (nI 6), .int (nI (at9 + k)), .int (nI wr), .ref e5]))] := hD
                refine lv_iinc (v := nI (k + 1)) (lv' := [(4, .int (nI (k + 1))), (6, .int (nI 0)), (5, .int (nI (tp (at9 + k)))), (0, .ref m0), (1, .int (nI ct)), (2, .ref rw), (3, .int (nI fr))]) hx hb dM_takeLetters_136 hl (k := 6) rfl (zi_incr k 1) (by decide) rfl (fun ls hl => ?_)
                refine lv_goto (tgt := 25) hx hb dM_takeLetters_139 (by decide) ?_
                refine lv_iload hx hb dM_takeLetters_25 (lv_at hl 0 rfl) ?_
                refine lv_iload_n hx hb dM_takeLetters_27 rfl (lv_at hl 4 rfl) ?_
                refine zi_ge (tgt := 142) hx hb (by omega) (by omega) dM_takeLetters_28 (by decide) (fun c_28 => ?_) (fun c_28 => ?_)
                · subst hAe
                  subst hQ
                  exact W.vret hx hb hr (fun t ht hW => ⟨⟨((at9 + k), f), rfl, trivial, by rw [ht]; exact hP.sub [2, 0, 1] rfl, hD.sub [2, 0, 1] (by decide) rfl⟩, hS.F ht⟩) hS.2.2 dM_takeLetters_142
                · refine lv_aload_n hx hb dM_takeLetters_31 rfl (lv_at hl 3 rfl) ?_
                  refine va_get (D := (dC, dI)) (ci := 4) (v := .int (nI 6)) (C := RM) (T := TM) (N := 17) hx hb hw inM hown hK hP 2 rfl rfl 13 (by decide) (hw _ w_fl_M_102) (fun _ h9 => h9) rfl dM_takeLetters_32 ?_
                  refine lv_if_ne (tgt := 142) hx hb dM_takeLetters_35 (by decide) (fun c_35 => ?_) (fun q => False.elim (absurd q (by decide)))
                  subst hAe
                  subst hQ
                  exact W.vret hx hb hr (fun t ht hW => ⟨⟨((at9 + k), f), rfl, trivial, by rw [ht]; exact hP.sub [2, 0, 1] rfl, hD.sub [2, 0, 1] (by decide) rfl⟩, hS.F ht⟩) hS.2.2 dM_takeLetters_142
              · exfalso
                omega
          · refine lv_iload hx hb dM_takeLetters_56 (lv_at hl 0 rfl) ?_
            refine lv_bipush (v := nI 58) hx hb dM_takeLetters_58 (by decide) ?_
            refine zi_ge (tgt := 67) hx hb (by omega) (by omega) dM_takeLetters_60 (by decide) (fun c_60 => ?_) (fun c_60 => ?_)
            · refine lv_iconst (v := nI 0) hx hb dM_takeLetters_67 (by decide) ?_
              refine lv_istore (lv' := [(6, .int (nI 0)), (5, .int (nI (tp (at9 + k)))), (0, .ref m0), (1, .int (nI ct)), (2, .ref rw), (3, .int (nI fr)), (4, .int (nI k))]) hx hb dM_takeLetters_68 hl (by decide) rfl (fun ls hl => ?_)
              refine lv_iload hx hb dM_takeLetters_70 (lv_at hl 0 rfl) ?_
              refine lv_if_ne (tgt := 89) hx hb dM_takeLetters_72 (by decide) (fun q => False.elim (absurd q (by decide))) (fun c_72 => ?_)
              refine lv_iload hx hb dM_takeLetters_75 (lv_at hl 1 rfl) ?_
              refine lv_bipush (v := nI 64) hx hb dM_takeLetters_77 (by decide) ?_
              refine zi_le (tgt := 126) hx hb (by omega) (by omega) dM_takeLetters_79 (by decide) (fun c_79 => ?_) (fun c_79 => ?_)
              · refine lv_aload_n hx hb dM_takeLetters_126 rfl (lv_at hl 2 rfl) ?_
                refine lv_bipush (v := nI 6) hx hb dM_takeLetters_127 (by decide) ?_
                refine lv_aload_n hx hb dM_takeLetters_129 rfl (lv_at hl 2 rfl) ?_
                refine va_get (D := (dC, dI)) (ci := 4) (v := .int (nI (at9 + k))) (C := RM) (T := TM) (N := 17) hx hb hw inM hown hK hP 0 rfl rfl 12 (by decide) (hw _ w_fl_M_108) (fun _ h9 => h9) rfl dM_takeLetters_130 ?_
                have hPc := hP.sub (ws' := [(m0, .inr (4, [.ref n0, .ref n1, .ref n2, .int (nI cd), .int (nI dt), .ref e0, .ref e1, .int (nI rt), .ref e2, .ref e3, .ref e4, .int (nI sz9), .int (nI (at9 + k)), .int (nI fl), .int pl, .int (nI wr), .ref e5]))]) [0] rfl
                have hDc := hD.sub (ws' := [(m0, .inr (4, [.ref n0, .ref n1, .ref n2, .int (nI cd), .int (nI dt), .ref e0, .ref e1, .int (nI rt), .ref e2, .ref e3, .ref e4, .int (nI sz9), .int (nI (at9 + k)), .int (nI fl), .int pl, .int (nI wr), .ref e5]))]) [0] (by decide) rfl
                have hFc := va_free (wc := [(m0, .inr (4, [.ref n0, .ref n1, .ref n2, .int (nI cd), .int (nI dt), .ref e0, .ref e1, .int (nI rt), .ref e2, .ref e3, .ref e4, .int (nI sz9), .int (nI (at9 + k)), .int (nI fl), .int pl, .int (nI wr), .ref e5]))]) hD hS hA [0] rfl
                refine zc_Mv (va_runV (As := [.int (nI 6), .int (nI (at9 + k))]) (rest := []) ⟨hx, hb, hml, hown, hw⟩ (c_fails_1 l dC dI m0 n0 n1 n2 cd dt e0 e1 rt e2 e3 e4 sz9 (at9 + k) fl pl wr e5 cI cB 6 (nI (at9 + k)) (by omega) H.size) (cwV 2 hw (gV w_ml_M_111 w_im_M_fails w_se_M_fails w_in_M w_co_M_fails) rfl rfl rfl (by decide +kernel) ⟨Nat.le_of_ble_eq_true rfl, Nat.le_of_ble_eq_true rfl⟩) (zM_V hG hS hFc hPc hDc hK 0 rfl rfl) rfl rfl hl.1 rfl (lv_room (Nat.le_of_ble_eq_true rfl)) dM_takeLetters_133 ⟨Nat.le_of_ble_eq_true rfl, Nat.le_of_ble_eq_true rfl⟩) hS hFc (fun H locs h_133 hP1 hD1 hk1 hS => ?_)
                obtain ⟨hP, hD⟩ := va_join (wr := [(e4, .inl (cI, 400, .inl (aN tp))), (rw, .inl (cI, N9, .inl (aN f)))]) (w1 := [(m0, .inr (4, [.ref n0, .ref n1, .ref n2, .int (nI cd), .int (nI dt), .ref e0, .ref e1, .int (nI rt), .ref e2, .ref e3, .ref e4, .int (nI sz9), .int (nI (at9 + k)), .int (nI 6), .int (nI (at9 + k)), .int (nI wr), .ref e5]))]) hP hD [0] [1, 2] rfl rfl (by decide) (by decide) hk1 hFc hP1 hD1
                have hP : va_P (dC, dI) vwCl [(e4, .inl (cI, 400, .inl (aN tp))), (rw, .inl (cI, N9, .inl (aN f))), (m0, .inr (4, [.ref n0, .ref n1, .ref n2, .int (nI cd), .int (nI dt), .ref e0, .ref e1, .int (nI rt), .ref e2, .ref e3, .ref e4, .int (nI sz9), .int (nI (at9 + k)), .int (nI 6), .int (nI (at9 + k)), .int (nI wr), .ref e5]))] H := hP
                have hD : va_D A [(e4, .inl (cI, 400, .inl (aN tp))), (rw, .inl (cI, N9, .inl (aN f))), (m0, .inr (4, [.ref n0, .ref n1, .ref n2, .int (nI cd), .int (nI dt), .ref e0, .ref e1, .int (nI rt), .ref e2, .ref e3, .ref e4, .int (nI sz9), .int (nI (at9 + k)), .int (nI 6), .int (nI (at9 + k)), .int (nI wr), .ref e5]))] := hD
                refine lv_iinc (v := nI (k + 1)) (lv' := [(4, .int (nI (k + 1))), (6, .int (nI 0)), (5, .int (nI (tp (at9 + k)))), (0, .ref m0), (1, .int (nI ct)), (2, .ref rw), (3, .int (nI fr))]) hx hb dM_takeLetters_136 hl (k := 6) rfl (zi_incr k 1) (by decide) rfl (fun ls hl => ?_)
                refine lv_goto (tgt := 25) hx hb dM_takeLetters_139 (by decide) ?_
                refine lv_iload hx hb dM_takeLetters_25 (lv_at hl 0 rfl) ?_
                refine lv_iload_n hx hb dM_takeLetters_27 rfl (lv_at hl 4 rfl) ?_
                refine zi_ge (tgt := 142) hx hb (by omega) (by omega) dM_takeLetters_28 (by decide) (fun c_28 => ?_) (fun c_28 => ?_)
                · subst hAe
                  subst hQ
                  exact W.vret hx hb hr (fun t ht hW => ⟨⟨((at9 + k), f), rfl, trivial, by rw [ht]; exact hP.sub [2, 0, 1] rfl, hD.sub [2, 0, 1] (by decide) rfl⟩, hS.F ht⟩) hS.2.2 dM_takeLetters_142
                · refine lv_aload_n hx hb dM_takeLetters_31 rfl (lv_at hl 3 rfl) ?_
                  refine va_get (D := (dC, dI)) (ci := 4) (v := .int (nI 6)) (C := RM) (T := TM) (N := 17) hx hb hw inM hown hK hP 2 rfl rfl 13 (by decide) (hw _ w_fl_M_102) (fun _ h9 => h9) rfl dM_takeLetters_32 ?_
                  refine lv_if_ne (tgt := 142) hx hb dM_takeLetters_35 (by decide) (fun c_35 => ?_) (fun q => False.elim (absurd q (by decide)))
                  subst hAe
                  subst hQ
                  exact W.vret hx hb hr (fun t ht hW => ⟨⟨((at9 + k), f), rfl, trivial, by rw [ht]; exact hP.sub [2, 0, 1] rfl, hD.sub [2, 0, 1] (by decide) rfl⟩, hS.F ht⟩) hS.2.2 dM_takeLetters_142
              · refine lv_iload hx hb dM_takeLetters_82 (lv_at hl 1 rfl) ?_
                refine lv_bipush (v := nI 91) hx hb dM_takeLetters_84 (by decide) ?_
                refine zi_ge (tgt := 126) hx hb (by omega) (by omega) dM_takeLetters_86 (by decide) (fun c_86 => ?_) (fun c_86 => ?_)
                · refine lv_aload_n hx hb dM_takeLetters_126 rfl (lv_at hl 2 rfl) ?_
                  refine lv_bipush (v := nI 6) hx hb dM_takeLetters_127 (by decide) ?_
                  refine lv_aload_n hx hb dM_takeLetters_129 rfl (lv_at hl 2 rfl) ?_
                  refine va_get (D := (dC, dI)) (ci := 4) (v := .int (nI (at9 + k))) (C := RM) (T := TM) (N := 17) hx hb hw inM hown hK hP 0 rfl rfl 12 (by decide) (hw _ w_fl_M_108) (fun _ h9 => h9) rfl dM_takeLetters_130 ?_
                  have hPc := hP.sub (ws' := [(m0, .inr (4, [.ref n0, .ref n1, .ref n2, .int (nI cd), .int (nI dt), .ref e0, .ref e1, .int (nI rt), .ref e2, .ref e3, .ref e4, .int (nI sz9), .int (nI (at9 + k)), .int (nI fl), .int pl, .int (nI wr), .ref e5]))]) [0] rfl
                  have hDc := hD.sub (ws' := [(m0, .inr (4, [.ref n0, .ref n1, .ref n2, .int (nI cd), .int (nI dt), .ref e0, .ref e1, .int (nI rt), .ref e2, .ref e3, .ref e4, .int (nI sz9), .int (nI (at9 + k)), .int (nI fl), .int pl, .int (nI wr), .ref e5]))]) [0] (by decide) rfl
                  have hFc := va_free (wc := [(m0, .inr (4, [.ref n0, .ref n1, .ref n2, .int (nI cd), .int (nI dt), .ref e0, .ref e1, .int (nI rt), .ref e2, .ref e3, .ref e4, .int (nI sz9), .int (nI (at9 + k)), .int (nI fl), .int pl, .int (nI wr), .ref e5]))]) hD hS hA [0] rfl
                  refine zc_Mv (va_runV (As := [.int (nI 6), .int (nI (at9 + k))]) (rest := []) ⟨hx, hb, hml, hown, hw⟩ (c_fails_1 l dC dI m0 n0 n1 n2 cd dt e0 e1 rt e2 e3 e4 sz9 (at9 + k) fl pl wr e5 cI cB 6 (nI (at9 + k)) (by omega) H.size) (cwV 2 hw (gV w_ml_M_111 w_im_M_fails w_se_M_fails w_in_M w_co_M_fails) rfl rfl rfl (by decide +kernel) ⟨Nat.le_of_ble_eq_true rfl, Nat.le_of_ble_eq_true rfl⟩) (zM_V hG hS hFc hPc hDc hK 0 rfl rfl) rfl rfl hl.1 rfl (lv_room (Nat.le_of_ble_eq_true rfl)) dM_takeLetters_133 ⟨Nat.le_of_ble_eq_true rfl, Nat.le_of_ble_eq_true rfl⟩) hS hFc (fun H locs h_133 hP1 hD1 hk1 hS => ?_)
                  obtain ⟨hP, hD⟩ := va_join (wr := [(e4, .inl (cI, 400, .inl (aN tp))), (rw, .inl (cI, N9, .inl (aN f)))]) (w1 := [(m0, .inr (4, [.ref n0, .ref n1, .ref n2, .int (nI cd), .int (nI dt), .ref e0, .ref e1, .int (nI rt), .ref e2, .ref e3, .ref e4, .int (nI sz9), .int (nI (at9 + k)), .int (nI 6), .int (nI (at9 + k)), .int (nI wr), .ref e5]))]) hP hD [0] [1, 2] rfl rfl (by decide) (by decide) hk1 hFc hP1 hD1
                  have hP : va_P (dC, dI) vwCl [(e4, .inl (cI, 400, .inl (aN tp))), (rw, .inl (cI, N9, .inl (aN f))), (m0, .inr (4, [.ref n0, .ref n1, .ref n2, .int (nI cd), .int (nI dt), .ref e0, .ref e1, .int (nI rt), .ref e2, .ref e3, .ref e4, .int (nI sz9), .int (nI (at9 + k)), .int (nI 6), .int (nI (at9 + k)), .int (nI wr), .ref e5]))] H := hP
                  have hD : va_D A [(e4, .inl (cI, 400, .inl (aN tp))), (rw, .inl (cI, N9, .inl (aN f))), (m0, .inr (4, [.ref n0, .ref n1, .ref n2, .int (nI cd), .int (nI dt), .ref e0, .ref e1, .int (nI rt), .ref e2, .ref e3, .ref e4, .int (nI sz9), .int (nI (at9 + k)), .int (nI 6), .int (nI (at9 + k)), .int (nI wr), .ref e5]))] := hD
                  refine lv_iinc (v := nI (k + 1)) (lv' := [(4, .int (nI (k + 1))), (6, .int (nI 0)), (5, .int (nI (tp (at9 + k)))), (0, .ref m0), (1, .int (nI ct)), (2, .ref rw), (3, .int (nI fr))]) hx hb dM_takeLetters_136 hl (k := 6) rfl (zi_incr k 1) (by decide) rfl (fun ls hl => ?_)
                  refine lv_goto (tgt := 25) hx hb dM_takeLetters_139 (by decide) ?_
                  refine lv_iload hx hb dM_takeLetters_25 (lv_at hl 0 rfl) ?_
                  refine lv_iload_n hx hb dM_takeLetters_27 rfl (lv_at hl 4 rfl) ?_
                  refine zi_ge (tgt := 142) hx hb (by omega) (by omega) dM_takeLetters_28 (by decide) (fun c_28 => ?_) (fun c_28 => ?_)
                  · subst hAe
                    subst hQ
                    exact W.vret hx hb hr (fun t ht hW => ⟨⟨((at9 + k), f), rfl, trivial, by rw [ht]; exact hP.sub [2, 0, 1] rfl, hD.sub [2, 0, 1] (by decide) rfl⟩, hS.F ht⟩) hS.2.2 dM_takeLetters_142
                  · refine lv_aload_n hx hb dM_takeLetters_31 rfl (lv_at hl 3 rfl) ?_
                    refine va_get (D := (dC, dI)) (ci := 4) (v := .int (nI 6)) (C := RM) (T := TM) (N := 17) hx hb hw inM hown hK hP 2 rfl rfl 13 (by decide) (hw _ w_fl_M_102) (fun _ h9 => h9) rfl dM_takeLetters_32 ?_
                    refine lv_if_ne (tgt := 142) hx hb dM_takeLetters_35 (by decide) (fun c_35 => ?_) (fun q => False.elim (absurd q (by decide)))
                    subst hAe
                    subst hQ
                    exact W.vret hx hb hr (fun t ht hW => ⟨⟨((at9 + k), f), rfl, trivial, by rw [ht]; exact hP.sub [2, 0, 1] rfl, hD.sub [2, 0, 1] (by decide) rfl⟩, hS.F ht⟩) hS.2.2 dM_takeLetters_142
                · exfalso
                  omega
            · refine lv_iconst (v := nI 1) hx hb dM_takeLetters_63 (by decide) ?_
              refine lv_goto (tgt := 68) hx hb dM_takeLetters_64 (by decide) ?_
              refine lv_istore (lv' := [(6, .int (nI 1)), (5, .int (nI (tp (at9 + k)))), (0, .ref m0), (1, .int (nI ct)), (2, .ref rw), (3, .int (nI fr)), (4, .int (nI k))]) hx hb dM_takeLetters_68 hl (by decide) rfl (fun ls hl => ?_)
              refine lv_iload hx hb dM_takeLetters_70 (lv_at hl 0 rfl) ?_
              refine lv_if_ne (tgt := 89) hx hb dM_takeLetters_72 (by decide) (fun c_72 => ?_) (fun q => False.elim (absurd q (by decide)))
              exfalso
              omega
    exact lp_25 ((ct - 0) + 1) 0 r9 (by omega) hd (Nat.lt_succ_self _) _ _ _ (lv_sub hl [1, 2, 3, 4, 0] rfl) (hP.sub [0, 1, 2] rfl) (hD.sub [0, 1, 2] (by decide) rfl) hS
def rm_c_isType_ok : Room := ({ frames := 0, cells := 0, slots := 0, locals := 0 } : Room)
set_option maxHeartbeats 4000000 in
set_option maxRecDepth 100000 in
theorem c_isType_ok (l : Launch) (dC : Nat → ClassId) (dI : Nat → Nat → Nat) (cI : ClassId) (cB : ClassId) (t : Nat) (ht : t < 65536) (hty : isTy t = true) (Hc : Heap) : Met l yM_isType wsM_isType rm_c_isType_ok (zR (dC, dI) [(cI, .int), (cB, .byte)] [.int (nI t)] [] Hc) (zRi Hc (fun r => r = nI 1)) 0 0 zNo := by
  refine Met.ofW (cc := cM_isType) (maxL := 2) (ret := (some .boolean)) (by decide) rfl ?_
  intro p e s m args below meth c s₁ Bd hml hv
  obtain ⟨rfl, hH, hG, hP, hK⟩ := hv
  subst hH
  have hx := Bd.exec
  have hb := Bd.bytes
  have hr := Bd.returns
  have hts := atoms_spec (ws := wsM_isType) Bd.pre
  have hw : ∀ w ∈ BIG, w.before _ s = true := fun w h => hts w (List.mem_cons_of_mem _ h)
  have hown : s.vm.findClass RM = some m.cls := findClass_of_methodNamed Bd.named
  have hlocks := Bd.notSynchronized
  have hS : va_S zNo s.heap s.heap [] := va_S.rf
  have hl := lv_entry ([.int (nI t)]) (n := 2) (Nat.le_of_ble_eq_true rfl)
  rw [lg_entry_eq]
  generalize (lg_sl ([.int (nI t)]) ++ List.replicate (2 - (lg_sl ([.int (nI t)])).length) Slot.unset).toArray = ls at hl ⊢
  have hl : lv_has ls 2 [(0, .int (nI t))] := hl
  refine zq_name (fun Q hQ => ?_)
  change W p l e rm_c_isType_ok s m _ below meth c _ _ _ _ Q _
  have hty := isTy_or.mp hty
  refine lv_iload_n hx hb dM_isType_0 rfl (lv_at hl 0 rfl) ?_
  refine lv_bipush (v := nI 100) hx hb dM_isType_1 (by decide) ?_
  refine zi_rem hx hb (by omega) (by omega) (by omega) dM_isType_3 ?_
  refine lv_istore_n (lv' := [(1, .int (nI (t % 100))), (0, .int (nI t))]) hx hb dM_isType_4 rfl hl (by decide) rfl (fun ls hl => ?_)
  refine lv_iload_n hx hb dM_isType_5 rfl (lv_at hl 1 rfl) ?_
  refine lv_bipush (v := nI 100) hx hb dM_isType_6 (by decide) ?_
  refine zi_div hx hb (by omega) (by omega) (by omega) dM_isType_8 ?_
  rcases (show t / 100 = 1 ∨ t / 100 = 2 ∨ t / 100 = 3 ∨ t / 100 = 4 ∨ t / 100 = 5 ∨ (t / 100 < 1 ∨ 5 < t / 100) by omega) with hc9 | hc9 | hc9 | hc9 | hc9 | hc9
  · refine zi_v (b := nI 1) (by rw [hc9]) ?_
    refine lv_tableIn (tgt := 44) (off := 35) hx hb dM_isType_9 (by decide) (by decide) rfl (by decide) ?_
    refine lv_iload_n hx hb dM_isType_44 rfl (lv_at hl 0 rfl) ?_
    refine zi_eq0 (tgt := 59) hx hb (by omega) dM_isType_45 (by decide) (fun c_45 => ?_) (fun c_45 => ?_)
    · refine lv_iconst (v := nI 1) hx hb dM_isType_59 (by decide) ?_
      refine lv_goto (tgt := 64) hx hb dM_isType_60 (by decide) ?_
      subst hQ
      exact W.zret (v := nI 1) hx hb hr (by decide) (fun t ht hW => ⟨⟨nI 1, (), rfl, rfl, ht⟩, hS.F ht⟩) hS.2.2 dM_isType_64
    · refine lv_iload_n hx hb dM_isType_48 rfl (lv_at hl 0 rfl) ?_
      refine lv_iconst (v := nI 1) hx hb dM_isType_49 (by decide) ?_
      refine zi_eq (tgt := 59) hx hb (by omega) (by omega) dM_isType_50 (by decide) (fun c_50 => ?_) (fun c_50 => ?_)
      · refine lv_iconst (v := nI 1) hx hb dM_isType_59 (by decide) ?_
        refine lv_goto (tgt := 64) hx hb dM_isType_60 (by decide) ?_
        subst hQ
        exact W.zret (v := nI 1) hx hb hr (by decide) (fun t ht hW => ⟨⟨nI 1, (), rfl, rfl, ht⟩, hS.F ht⟩) hS.2.2 dM_isType_64
      · refine lv_iload_n hx hb dM_isType_53 rfl (lv_at hl 0 rfl) ?_
        refine lv_bipush (v := nI 10) hx hb dM_isType_54 (by decide) ?_
        refine zi_ne (tgt := 63) hx hb (by omega) (by omega) dM_isType_56 (by decide) (fun c_56 => ?_) (fun c_56 => ?_)
        · refine lv_iconst (v := nI 0) hx hb dM_isType_63 (by decide) ?_
          subst hQ
          exact W.zret (v := nI 0) hx hb hr (by decide) (fun t ht hW => ⟨⟨nI 0, (), rfl, (by exfalso; omega), ht⟩, hS.F ht⟩) hS.2.2 dM_isType_64
        · refine lv_iconst (v := nI 1) hx hb dM_isType_59 (by decide) ?_
          refine lv_goto (tgt := 64) hx hb dM_isType_60 (by decide) ?_
          subst hQ
          exact W.zret (v := nI 1) hx hb hr (by decide) (fun t ht hW => ⟨⟨nI 1, (), rfl, rfl, ht⟩, hS.F ht⟩) hS.2.2 dM_isType_64
  · refine zi_v (b := nI 2) (by rw [hc9]) ?_
    refine lv_tableIn (tgt := 65) (off := 56) hx hb dM_isType_9 (by decide) (by decide) rfl (by decide) ?_
    refine lv_iload_n hx hb dM_isType_65 rfl (lv_at hl 0 rfl) ?_
    refine lv_bipush (v := nI 20) hx hb dM_isType_66 (by decide) ?_
    refine zi_eq (tgt := 83) hx hb (by omega) (by omega) dM_isType_68 (by decide) (fun c_68 => ?_) (fun c_68 => ?_)
    · refine lv_iconst (v := nI 1) hx hb dM_isType_83 (by decide) ?_
      refine lv_goto (tgt := 88) hx hb dM_isType_84 (by decide) ?_
      subst hQ
      exact W.zret (v := nI 1) hx hb hr (by decide) (fun t ht hW => ⟨⟨nI 1, (), rfl, rfl, ht⟩, hS.F ht⟩) hS.2.2 dM_isType_88
    · refine lv_iload_n hx hb dM_isType_71 rfl (lv_at hl 0 rfl) ?_
      refine lv_bipush (v := nI 21) hx hb dM_isType_72 (by decide) ?_
      refine zi_eq (tgt := 83) hx hb (by omega) (by omega) dM_isType_74 (by decide) (fun c_74 => ?_) (fun c_74 => ?_)
      · refine lv_iconst (v := nI 1) hx hb dM_isType_83 (by decide) ?_
        refine lv_goto (tgt := 88) hx hb dM_isType_84 (by decide) ?_
        subst hQ
        exact W.zret (v := nI 1) hx hb hr (by decide) (fun t ht hW => ⟨⟨nI 1, (), rfl, rfl, ht⟩, hS.F ht⟩) hS.2.2 dM_isType_88
      · refine lv_iload_n hx hb dM_isType_77 rfl (lv_at hl 0 rfl) ?_
        refine lv_bipush (v := nI 30) hx hb dM_isType_78 (by decide) ?_
        refine zi_ne (tgt := 87) hx hb (by omega) (by omega) dM_isType_80 (by decide) (fun c_80 => ?_) (fun c_80 => ?_)
        · refine lv_iconst (v := nI 0) hx hb dM_isType_87 (by decide) ?_
          subst hQ
          exact W.zret (v := nI 0) hx hb hr (by decide) (fun t ht hW => ⟨⟨nI 0, (), rfl, (by exfalso; omega), ht⟩, hS.F ht⟩) hS.2.2 dM_isType_88
        · refine lv_iconst (v := nI 1) hx hb dM_isType_83 (by decide) ?_
          refine lv_goto (tgt := 88) hx hb dM_isType_84 (by decide) ?_
          subst hQ
          exact W.zret (v := nI 1) hx hb hr (by decide) (fun t ht hW => ⟨⟨nI 1, (), rfl, rfl, ht⟩, hS.F ht⟩) hS.2.2 dM_isType_88
  · refine zi_v (b := nI 3) (by rw [hc9]) ?_
    refine lv_tableIn (tgt := 128) (off := 119) hx hb dM_isType_9 (by decide) (by decide) rfl (by decide) ?_
    refine lv_iload_n hx hb dM_isType_128 rfl (lv_at hl 1 rfl) ?_
    refine lv_sipush (v := nI 800) hx hb dM_isType_129 (by decide) ?_
    refine zi_eq (tgt := 142) hx hb (by omega) (by omega) dM_isType_132 (by decide) (fun c_132 => ?_) (fun c_132 => ?_)
    · refine lv_iconst (v := nI 1) hx hb dM_isType_142 (by decide) ?_
      refine lv_goto (tgt := 147) hx hb dM_isType_143 (by decide) ?_
      subst hQ
      exact W.zret (v := nI 1) hx hb hr (by decide) (fun t ht hW => ⟨⟨nI 1, (), rfl, rfl, ht⟩, hS.F ht⟩) hS.2.2 dM_isType_147
    · refine lv_iload_n hx hb dM_isType_135 rfl (lv_at hl 1 rfl) ?_
      refine lv_sipush (v := nI 810) hx hb dM_isType_136 (by decide) ?_
      refine zi_ne (tgt := 146) hx hb (by omega) (by omega) dM_isType_139 (by decide) (fun c_139 => ?_) (fun c_139 => ?_)
      · refine lv_iconst (v := nI 0) hx hb dM_isType_146 (by decide) ?_
        subst hQ
        exact W.zret (v := nI 0) hx hb hr (by decide) (fun t ht hW => ⟨⟨nI 0, (), rfl, (by exfalso; omega), ht⟩, hS.F ht⟩) hS.2.2 dM_isType_147
      · refine lv_iconst (v := nI 1) hx hb dM_isType_142 (by decide) ?_
        refine lv_goto (tgt := 147) hx hb dM_isType_143 (by decide) ?_
        subst hQ
        exact W.zret (v := nI 1) hx hb hr (by decide) (fun t ht hW => ⟨⟨nI 1, (), rfl, rfl, ht⟩, hS.F ht⟩) hS.2.2 dM_isType_147
  · refine zi_v (b := nI 4) (by rw [hc9]) ?_
    refine lv_tableIn (tgt := 89) (off := 80) hx hb dM_isType_9 (by decide) (by decide) rfl (by decide) ?_
    refine lv_iload_n hx hb dM_isType_89 rfl (lv_at hl 0 rfl) ?_
    refine zi_eq0 (tgt := 122) hx hb (by omega) dM_isType_90 (by decide) (fun c_90 => ?_) (fun c_90 => ?_)
    · refine lv_iconst (v := nI 1) hx hb dM_isType_122 (by decide) ?_
      refine lv_goto (tgt := 127) hx hb dM_isType_123 (by decide) ?_
      subst hQ
      exact W.zret (v := nI 1) hx hb hr (by decide) (fun t ht hW => ⟨⟨nI 1, (), rfl, rfl, ht⟩, hS.F ht⟩) hS.2.2 dM_isType_127
    · refine lv_iload_n hx hb dM_isType_93 rfl (lv_at hl 0 rfl) ?_
      refine lv_iconst (v := nI 1) hx hb dM_isType_94 (by decide) ?_
      refine zi_eq (tgt := 122) hx hb (by omega) (by omega) dM_isType_95 (by decide) (fun c_95 => ?_) (fun c_95 => ?_)
      · refine lv_iconst (v := nI 1) hx hb dM_isType_122 (by decide) ?_
        refine lv_goto (tgt := 127) hx hb dM_isType_123 (by decide) ?_
        subst hQ
        exact W.zret (v := nI 1) hx hb hr (by decide) (fun t ht hW => ⟨⟨nI 1, (), rfl, rfl, ht⟩, hS.F ht⟩) hS.2.2 dM_isType_127
      · refine lv_iload_n hx hb dM_isType_98 rfl (lv_at hl 0 rfl) ?_
        refine lv_bipush (v := nI 10) hx hb dM_isType_99 (by decide) ?_
        refine zi_eq (tgt := 122) hx hb (by omega) (by omega) dM_isType_101 (by decide) (fun c_101 => ?_) (fun c_101 => ?_)
        · refine lv_iconst (v := nI 1) hx hb dM_isType_122 (by decide) ?_
          refine lv_goto (tgt := 127) hx hb dM_isType_123 (by decide) ?_
          subst hQ
          exact W.zret (v := nI 1) hx hb hr (by decide) (fun t ht hW => ⟨⟨nI 1, (), rfl, rfl, ht⟩, hS.F ht⟩) hS.2.2 dM_isType_127
        · refine lv_iload_n hx hb dM_isType_104 rfl (lv_at hl 0 rfl) ?_
          refine lv_bipush (v := nI 20) hx hb dM_isType_105 (by decide) ?_
          refine zi_eq (tgt := 122) hx hb (by omega) (by omega) dM_isType_107 (by decide) (fun c_107 => ?_) (fun c_107 => ?_)
          · refine lv_iconst (v := nI 1) hx hb dM_isType_122 (by decide) ?_
            refine lv_goto (tgt := 127) hx hb dM_isType_123 (by decide) ?_
            subst hQ
            exact W.zret (v := nI 1) hx hb hr (by decide) (fun t ht hW => ⟨⟨nI 1, (), rfl, rfl, ht⟩, hS.F ht⟩) hS.2.2 dM_isType_127
          · refine lv_iload_n hx hb dM_isType_110 rfl (lv_at hl 0 rfl) ?_
            refine lv_bipush (v := nI 21) hx hb dM_isType_111 (by decide) ?_
            refine zi_eq (tgt := 122) hx hb (by omega) (by omega) dM_isType_113 (by decide) (fun c_113 => ?_) (fun c_113 => ?_)
            · refine lv_iconst (v := nI 1) hx hb dM_isType_122 (by decide) ?_
              refine lv_goto (tgt := 127) hx hb dM_isType_123 (by decide) ?_
              subst hQ
              exact W.zret (v := nI 1) hx hb hr (by decide) (fun t ht hW => ⟨⟨nI 1, (), rfl, rfl, ht⟩, hS.F ht⟩) hS.2.2 dM_isType_127
            · refine lv_iload_n hx hb dM_isType_116 rfl (lv_at hl 0 rfl) ?_
              refine lv_bipush (v := nI 30) hx hb dM_isType_117 (by decide) ?_
              refine zi_ne (tgt := 126) hx hb (by omega) (by omega) dM_isType_119 (by decide) (fun c_119 => ?_) (fun c_119 => ?_)
              · refine lv_iconst (v := nI 0) hx hb dM_isType_126 (by decide) ?_
                subst hQ
                exact W.zret (v := nI 0) hx hb hr (by decide) (fun t ht hW => ⟨⟨nI 0, (), rfl, (by exfalso; omega), ht⟩, hS.F ht⟩) hS.2.2 dM_isType_127
              · refine lv_iconst (v := nI 1) hx hb dM_isType_122 (by decide) ?_
                refine lv_goto (tgt := 127) hx hb dM_isType_123 (by decide) ?_
                subst hQ
                exact W.zret (v := nI 1) hx hb hr (by decide) (fun t ht hW => ⟨⟨nI 1, (), rfl, rfl, ht⟩, hS.F ht⟩) hS.2.2 dM_isType_127
  · refine zi_v (b := nI 5) (by rw [hc9]) ?_
    refine lv_tableIn (tgt := 44) (off := 35) hx hb dM_isType_9 (by decide) (by decide) rfl (by decide) ?_
    refine lv_iload_n hx hb dM_isType_44 rfl (lv_at hl 0 rfl) ?_
    refine zi_eq0 (tgt := 59) hx hb (by omega) dM_isType_45 (by decide) (fun c_45 => ?_) (fun c_45 => ?_)
    · refine lv_iconst (v := nI 1) hx hb dM_isType_59 (by decide) ?_
      refine lv_goto (tgt := 64) hx hb dM_isType_60 (by decide) ?_
      subst hQ
      exact W.zret (v := nI 1) hx hb hr (by decide) (fun t ht hW => ⟨⟨nI 1, (), rfl, rfl, ht⟩, hS.F ht⟩) hS.2.2 dM_isType_64
    · refine lv_iload_n hx hb dM_isType_48 rfl (lv_at hl 0 rfl) ?_
      refine lv_iconst (v := nI 1) hx hb dM_isType_49 (by decide) ?_
      refine zi_eq (tgt := 59) hx hb (by omega) (by omega) dM_isType_50 (by decide) (fun c_50 => ?_) (fun c_50 => ?_)
      · refine lv_iconst (v := nI 1) hx hb dM_isType_59 (by decide) ?_
        refine lv_goto (tgt := 64) hx hb dM_isType_60 (by decide) ?_
        subst hQ
        exact W.zret (v := nI 1) hx hb hr (by decide) (fun t ht hW => ⟨⟨nI 1, (), rfl, rfl, ht⟩, hS.F ht⟩) hS.2.2 dM_isType_64
      · refine lv_iload_n hx hb dM_isType_53 rfl (lv_at hl 0 rfl) ?_
        refine lv_bipush (v := nI 10) hx hb dM_isType_54 (by decide) ?_
        refine zi_ne (tgt := 63) hx hb (by omega) (by omega) dM_isType_56 (by decide) (fun c_56 => ?_) (fun c_56 => ?_)
        · refine lv_iconst (v := nI 0) hx hb dM_isType_63 (by decide) ?_
          subst hQ
          exact W.zret (v := nI 0) hx hb hr (by decide) (fun t ht hW => ⟨⟨nI 0, (), rfl, (by exfalso; omega), ht⟩, hS.F ht⟩) hS.2.2 dM_isType_64
        · refine lv_iconst (v := nI 1) hx hb dM_isType_59 (by decide) ?_
          refine lv_goto (tgt := 64) hx hb dM_isType_60 (by decide) ?_
          subst hQ
          exact W.zret (v := nI 1) hx hb hr (by decide) (fun t ht hW => ⟨⟨nI 1, (), rfl, rfl, ht⟩, hS.F ht⟩) hS.2.2 dM_isType_64
  · refine lv_tableOut (tgt := 128) hx hb dM_isType_9 (by rw [nI_toInt (by omega)]; omega) (by decide) ?_
    refine lv_iload_n hx hb dM_isType_128 rfl (lv_at hl 1 rfl) ?_
    refine lv_sipush (v := nI 800) hx hb dM_isType_129 (by decide) ?_
    refine zi_eq (tgt := 142) hx hb (by omega) (by omega) dM_isType_132 (by decide) (fun c_132 => ?_) (fun c_132 => ?_)
    · refine lv_iconst (v := nI 1) hx hb dM_isType_142 (by decide) ?_
      refine lv_goto (tgt := 147) hx hb dM_isType_143 (by decide) ?_
      subst hQ
      exact W.zret (v := nI 1) hx hb hr (by decide) (fun t ht hW => ⟨⟨nI 1, (), rfl, rfl, ht⟩, hS.F ht⟩) hS.2.2 dM_isType_147
    · refine lv_iload_n hx hb dM_isType_135 rfl (lv_at hl 1 rfl) ?_
      refine lv_sipush (v := nI 810) hx hb dM_isType_136 (by decide) ?_
      refine zi_ne (tgt := 146) hx hb (by omega) (by omega) dM_isType_139 (by decide) (fun c_139 => ?_) (fun c_139 => ?_)
      · refine lv_iconst (v := nI 0) hx hb dM_isType_146 (by decide) ?_
        subst hQ
        exact W.zret (v := nI 0) hx hb hr (by decide) (fun t ht hW => ⟨⟨nI 0, (), rfl, (by exfalso; omega), ht⟩, hS.F ht⟩) hS.2.2 dM_isType_147
      · refine lv_iconst (v := nI 1) hx hb dM_isType_142 (by decide) ?_
        refine lv_goto (tgt := 147) hx hb dM_isType_143 (by decide) ?_
        subst hQ
        exact W.zret (v := nI 1) hx hb hr (by decide) (fun t ht hW => ⟨⟨nI 1, (), rfl, rfl, ht⟩, hS.F ht⟩) hS.2.2 dM_isType_147
def rm_c_isType_no : Room := ({ frames := 0, cells := 0, slots := 0, locals := 0 } : Room)
set_option maxHeartbeats 4000000 in
set_option maxRecDepth 100000 in
theorem c_isType_no (l : Launch) (dC : Nat → ClassId) (dI : Nat → Nat → Nat) (cI : ClassId) (cB : ClassId) (t : Nat) (ht : t < 65536) (hty : isTy t = false) (Hc : Heap) : Met l yM_isType wsM_isType rm_c_isType_no (zR (dC, dI) [(cI, .int), (cB, .byte)] [.int (nI t)] [] Hc) (zRi Hc (fun r => r = nI 0)) 0 0 zNo := by
  refine Met.ofW (cc := cM_isType) (maxL := 2) (ret := (some .boolean)) (by decide) rfl ?_
  intro p e s m args below meth c s₁ Bd hml hv
  obtain ⟨rfl, hH, hG, hP, hK⟩ := hv
  subst hH
  have hx := Bd.exec
  have hb := Bd.bytes
  have hr := Bd.returns
  have hts := atoms_spec (ws := wsM_isType) Bd.pre
  have hw : ∀ w ∈ BIG, w.before _ s = true := fun w h => hts w (List.mem_cons_of_mem _ h)
  have hown : s.vm.findClass RM = some m.cls := findClass_of_methodNamed Bd.named
  have hlocks := Bd.notSynchronized
  have hS : va_S zNo s.heap s.heap [] := va_S.rf
  have hl := lv_entry ([.int (nI t)]) (n := 2) (Nat.le_of_ble_eq_true rfl)
  rw [lg_entry_eq]
  generalize (lg_sl ([.int (nI t)]) ++ List.replicate (2 - (lg_sl ([.int (nI t)])).length) Slot.unset).toArray = ls at hl ⊢
  have hl : lv_has ls 2 [(0, .int (nI t))] := hl
  refine zq_name (fun Q hQ => ?_)
  change W p l e rm_c_isType_no s m _ below meth c _ _ _ _ Q _
  have hty := mt isTy_or.mpr (Bool.eq_false_iff.mp hty)
  refine lv_iload_n hx hb dM_isType_0 rfl (lv_at hl 0 rfl) ?_
  refine lv_bipush (v := nI 100) hx hb dM_isType_1 (by decide) ?_
  refine zi_rem hx hb (by omega) (by omega) (by omega) dM_isType_3 ?_
  refine lv_istore_n (lv' := [(1, .int (nI (t % 100))), (0, .int (nI t))]) hx hb dM_isType_4 rfl hl (by decide) rfl (fun ls hl => ?_)
  refine lv_iload_n hx hb dM_isType_5 rfl (lv_at hl 1 rfl) ?_
  refine lv_bipush (v := nI 100) hx hb dM_isType_6 (by decide) ?_
  refine zi_div hx hb (by omega) (by omega) (by omega) dM_isType_8 ?_
  rcases (show t / 100 = 1 ∨ t / 100 = 2 ∨ t / 100 = 3 ∨ t / 100 = 4 ∨ t / 100 = 5 ∨ (t / 100 < 1 ∨ 5 < t / 100) by omega) with hc9 | hc9 | hc9 | hc9 | hc9 | hc9
  · refine zi_v (b := nI 1) (by rw [hc9]) ?_
    refine lv_tableIn (tgt := 44) (off := 35) hx hb dM_isType_9 (by decide) (by decide) rfl (by decide) ?_
    refine lv_iload_n hx hb dM_isType_44 rfl (lv_at hl 0 rfl) ?_
    refine zi_eq0 (tgt := 59) hx hb (by omega) dM_isType_45 (by decide) (fun c_45 => ?_) (fun c_45 => ?_)
    · refine lv_iconst (v := nI 1) hx hb dM_isType_59 (by decide) ?_
      refine lv_goto (tgt := 64) hx hb dM_isType_60 (by decide) ?_
      subst hQ
      exact W.zret (v := nI 1) hx hb hr (by decide) (fun t ht hW => ⟨⟨nI 1, (), rfl, (by exfalso; omega), ht⟩, hS.F ht⟩) hS.2.2 dM_isType_64
    · refine lv_iload_n hx hb dM_isType_48 rfl (lv_at hl 0 rfl) ?_
      refine lv_iconst (v := nI 1) hx hb dM_isType_49 (by decide) ?_
      refine zi_eq (tgt := 59) hx hb (by omega) (by omega) dM_isType_50 (by decide) (fun c_50 => ?_) (fun c_50 => ?_)
      · refine lv_iconst (v := nI 1) hx hb dM_isType_59 (by decide) ?_
        refine lv_goto (tgt := 64) hx hb dM_isType_60 (by decide) ?_
        subst hQ
        exact W.zret (v := nI 1) hx hb hr (by decide) (fun t ht hW => ⟨⟨nI 1, (), rfl, (by exfalso; omega), ht⟩, hS.F ht⟩) hS.2.2 dM_isType_64
      · refine lv_iload_n hx hb dM_isType_53 rfl (lv_at hl 0 rfl) ?_
        refine lv_bipush (v := nI 10) hx hb dM_isType_54 (by decide) ?_
        refine zi_ne (tgt := 63) hx hb (by omega) (by omega) dM_isType_56 (by decide) (fun c_56 => ?_) (fun c_56 => ?_)
        · refine lv_iconst (v := nI 0) hx hb dM_isType_63 (by decide) ?_
          subst hQ
          exact W.zret (v := nI 0) hx hb hr (by decide) (fun t ht hW => ⟨⟨nI 0, (), rfl, rfl, ht⟩, hS.F ht⟩) hS.2.2 dM_isType_64
        · refine lv_iconst (v := nI 1) hx hb dM_isType_59 (by decide) ?_
          refine lv_goto (tgt := 64) hx hb dM_isType_60 (by decide) ?_
          subst hQ
          exact W.zret (v := nI 1) hx hb hr (by decide) (fun t ht hW => ⟨⟨nI 1, (), rfl, (by exfalso; omega), ht⟩, hS.F ht⟩) hS.2.2 dM_isType_64
  · refine zi_v (b := nI 2) (by rw [hc9]) ?_
    refine lv_tableIn (tgt := 65) (off := 56) hx hb dM_isType_9 (by decide) (by decide) rfl (by decide) ?_
    refine lv_iload_n hx hb dM_isType_65 rfl (lv_at hl 0 rfl) ?_
    refine lv_bipush (v := nI 20) hx hb dM_isType_66 (by decide) ?_
    refine zi_eq (tgt := 83) hx hb (by omega) (by omega) dM_isType_68 (by decide) (fun c_68 => ?_) (fun c_68 => ?_)
    · refine lv_iconst (v := nI 1) hx hb dM_isType_83 (by decide) ?_
      refine lv_goto (tgt := 88) hx hb dM_isType_84 (by decide) ?_
      subst hQ
      exact W.zret (v := nI 1) hx hb hr (by decide) (fun t ht hW => ⟨⟨nI 1, (), rfl, (by exfalso; omega), ht⟩, hS.F ht⟩) hS.2.2 dM_isType_88
    · refine lv_iload_n hx hb dM_isType_71 rfl (lv_at hl 0 rfl) ?_
      refine lv_bipush (v := nI 21) hx hb dM_isType_72 (by decide) ?_
      refine zi_eq (tgt := 83) hx hb (by omega) (by omega) dM_isType_74 (by decide) (fun c_74 => ?_) (fun c_74 => ?_)
      · refine lv_iconst (v := nI 1) hx hb dM_isType_83 (by decide) ?_
        refine lv_goto (tgt := 88) hx hb dM_isType_84 (by decide) ?_
        subst hQ
        exact W.zret (v := nI 1) hx hb hr (by decide) (fun t ht hW => ⟨⟨nI 1, (), rfl, (by exfalso; omega), ht⟩, hS.F ht⟩) hS.2.2 dM_isType_88
      · refine lv_iload_n hx hb dM_isType_77 rfl (lv_at hl 0 rfl) ?_
        refine lv_bipush (v := nI 30) hx hb dM_isType_78 (by decide) ?_
        refine zi_ne (tgt := 87) hx hb (by omega) (by omega) dM_isType_80 (by decide) (fun c_80 => ?_) (fun c_80 => ?_)
        · refine lv_iconst (v := nI 0) hx hb dM_isType_87 (by decide) ?_
          subst hQ
          exact W.zret (v := nI 0) hx hb hr (by decide) (fun t ht hW => ⟨⟨nI 0, (), rfl, rfl, ht⟩, hS.F ht⟩) hS.2.2 dM_isType_88
        · refine lv_iconst (v := nI 1) hx hb dM_isType_83 (by decide) ?_
          refine lv_goto (tgt := 88) hx hb dM_isType_84 (by decide) ?_
          subst hQ
          exact W.zret (v := nI 1) hx hb hr (by decide) (fun t ht hW => ⟨⟨nI 1, (), rfl, (by exfalso; omega), ht⟩, hS.F ht⟩) hS.2.2 dM_isType_88
  · refine zi_v (b := nI 3) (by rw [hc9]) ?_
    refine lv_tableIn (tgt := 128) (off := 119) hx hb dM_isType_9 (by decide) (by decide) rfl (by decide) ?_
    refine lv_iload_n hx hb dM_isType_128 rfl (lv_at hl 1 rfl) ?_
    refine lv_sipush (v := nI 800) hx hb dM_isType_129 (by decide) ?_
    refine zi_eq (tgt := 142) hx hb (by omega) (by omega) dM_isType_132 (by decide) (fun c_132 => ?_) (fun c_132 => ?_)
    · refine lv_iconst (v := nI 1) hx hb dM_isType_142 (by decide) ?_
      refine lv_goto (tgt := 147) hx hb dM_isType_143 (by decide) ?_
      subst hQ
      exact W.zret (v := nI 1) hx hb hr (by decide) (fun t ht hW => ⟨⟨nI 1, (), rfl, (by exfalso; omega), ht⟩, hS.F ht⟩) hS.2.2 dM_isType_147
    · refine lv_iload_n hx hb dM_isType_135 rfl (lv_at hl 1 rfl) ?_
      refine lv_sipush (v := nI 810) hx hb dM_isType_136 (by decide) ?_
      refine zi_ne (tgt := 146) hx hb (by omega) (by omega) dM_isType_139 (by decide) (fun c_139 => ?_) (fun c_139 => ?_)
      · refine lv_iconst (v := nI 0) hx hb dM_isType_146 (by decide) ?_
        subst hQ
        exact W.zret (v := nI 0) hx hb hr (by decide) (fun t ht hW => ⟨⟨nI 0, (), rfl, rfl, ht⟩, hS.F ht⟩) hS.2.2 dM_isType_147
      · refine lv_iconst (v := nI 1) hx hb dM_isType_142 (by decide) ?_
        refine lv_goto (tgt := 147) hx hb dM_isType_143 (by decide) ?_
        subst hQ
        exact W.zret (v := nI 1) hx hb hr (by decide) (fun t ht hW => ⟨⟨nI 1, (), rfl, (by exfalso; omega), ht⟩, hS.F ht⟩) hS.2.2 dM_isType_147
  · refine zi_v (b := nI 4) (by rw [hc9]) ?_
    refine lv_tableIn (tgt := 89) (off := 80) hx hb dM_isType_9 (by decide) (by decide) rfl (by decide) ?_
    refine lv_iload_n hx hb dM_isType_89 rfl (lv_at hl 0 rfl) ?_
    refine zi_eq0 (tgt := 122) hx hb (by omega) dM_isType_90 (by decide) (fun c_90 => ?_) (fun c_90 => ?_)
    · refine lv_iconst (v := nI 1) hx hb dM_isType_122 (by decide) ?_
      refine lv_goto (tgt := 127) hx hb dM_isType_123 (by decide) ?_
      subst hQ
      exact W.zret (v := nI 1) hx hb hr (by decide) (fun t ht hW => ⟨⟨nI 1, (), rfl, (by exfalso; omega), ht⟩, hS.F ht⟩) hS.2.2 dM_isType_127
    · refine lv_iload_n hx hb dM_isType_93 rfl (lv_at hl 0 rfl) ?_
      refine lv_iconst (v := nI 1) hx hb dM_isType_94 (by decide) ?_
      refine zi_eq (tgt := 122) hx hb (by omega) (by omega) dM_isType_95 (by decide) (fun c_95 => ?_) (fun c_95 => ?_)
      · refine lv_iconst (v := nI 1) hx hb dM_isType_122 (by decide) ?_
        refine lv_goto (tgt := 127) hx hb dM_isType_123 (by decide) ?_
        subst hQ
        exact W.zret (v := nI 1) hx hb hr (by decide) (fun t ht hW => ⟨⟨nI 1, (), rfl, (by exfalso; omega), ht⟩, hS.F ht⟩) hS.2.2 dM_isType_127
      · refine lv_iload_n hx hb dM_isType_98 rfl (lv_at hl 0 rfl) ?_
        refine lv_bipush (v := nI 10) hx hb dM_isType_99 (by decide) ?_
        refine zi_eq (tgt := 122) hx hb (by omega) (by omega) dM_isType_101 (by decide) (fun c_101 => ?_) (fun c_101 => ?_)
        · refine lv_iconst (v := nI 1) hx hb dM_isType_122 (by decide) ?_
          refine lv_goto (tgt := 127) hx hb dM_isType_123 (by decide) ?_
          subst hQ
          exact W.zret (v := nI 1) hx hb hr (by decide) (fun t ht hW => ⟨⟨nI 1, (), rfl, (by exfalso; omega), ht⟩, hS.F ht⟩) hS.2.2 dM_isType_127
        · refine lv_iload_n hx hb dM_isType_104 rfl (lv_at hl 0 rfl) ?_
          refine lv_bipush (v := nI 20) hx hb dM_isType_105 (by decide) ?_
          refine zi_eq (tgt := 122) hx hb (by omega) (by omega) dM_isType_107 (by decide) (fun c_107 => ?_) (fun c_107 => ?_)
          · refine lv_iconst (v := nI 1) hx hb dM_isType_122 (by decide) ?_
            refine lv_goto (tgt := 127) hx hb dM_isType_123 (by decide) ?_
            subst hQ
            exact W.zret (v := nI 1) hx hb hr (by decide) (fun t ht hW => ⟨⟨nI 1, (), rfl, (by exfalso; omega), ht⟩, hS.F ht⟩) hS.2.2 dM_isType_127
          · refine lv_iload_n hx hb dM_isType_110 rfl (lv_at hl 0 rfl) ?_
            refine lv_bipush (v := nI 21) hx hb dM_isType_111 (by decide) ?_
            refine zi_eq (tgt := 122) hx hb (by omega) (by omega) dM_isType_113 (by decide) (fun c_113 => ?_) (fun c_113 => ?_)
            · refine lv_iconst (v := nI 1) hx hb dM_isType_122 (by decide) ?_
              refine lv_goto (tgt := 127) hx hb dM_isType_123 (by decide) ?_
              subst hQ
              exact W.zret (v := nI 1) hx hb hr (by decide) (fun t ht hW => ⟨⟨nI 1, (), rfl, (by exfalso; omega), ht⟩, hS.F ht⟩) hS.2.2 dM_isType_127
            · refine lv_iload_n hx hb dM_isType_116 rfl (lv_at hl 0 rfl) ?_
              refine lv_bipush (v := nI 30) hx hb dM_isType_117 (by decide) ?_
              refine zi_ne (tgt := 126) hx hb (by omega) (by omega) dM_isType_119 (by decide) (fun c_119 => ?_) (fun c_119 => ?_)
              · refine lv_iconst (v := nI 0) hx hb dM_isType_126 (by decide) ?_
                subst hQ
                exact W.zret (v := nI 0) hx hb hr (by decide) (fun t ht hW => ⟨⟨nI 0, (), rfl, rfl, ht⟩, hS.F ht⟩) hS.2.2 dM_isType_127
              · refine lv_iconst (v := nI 1) hx hb dM_isType_122 (by decide) ?_
                refine lv_goto (tgt := 127) hx hb dM_isType_123 (by decide) ?_
                subst hQ
                exact W.zret (v := nI 1) hx hb hr (by decide) (fun t ht hW => ⟨⟨nI 1, (), rfl, (by exfalso; omega), ht⟩, hS.F ht⟩) hS.2.2 dM_isType_127
  · refine zi_v (b := nI 5) (by rw [hc9]) ?_
    refine lv_tableIn (tgt := 44) (off := 35) hx hb dM_isType_9 (by decide) (by decide) rfl (by decide) ?_
    refine lv_iload_n hx hb dM_isType_44 rfl (lv_at hl 0 rfl) ?_
    refine zi_eq0 (tgt := 59) hx hb (by omega) dM_isType_45 (by decide) (fun c_45 => ?_) (fun c_45 => ?_)
    · refine lv_iconst (v := nI 1) hx hb dM_isType_59 (by decide) ?_
      refine lv_goto (tgt := 64) hx hb dM_isType_60 (by decide) ?_
      subst hQ
      exact W.zret (v := nI 1) hx hb hr (by decide) (fun t ht hW => ⟨⟨nI 1, (), rfl, (by exfalso; omega), ht⟩, hS.F ht⟩) hS.2.2 dM_isType_64
    · refine lv_iload_n hx hb dM_isType_48 rfl (lv_at hl 0 rfl) ?_
      refine lv_iconst (v := nI 1) hx hb dM_isType_49 (by decide) ?_
      refine zi_eq (tgt := 59) hx hb (by omega) (by omega) dM_isType_50 (by decide) (fun c_50 => ?_) (fun c_50 => ?_)
      · refine lv_iconst (v := nI 1) hx hb dM_isType_59 (by decide) ?_
        refine lv_goto (tgt := 64) hx hb dM_isType_60 (by decide) ?_
        subst hQ
        exact W.zret (v := nI 1) hx hb hr (by decide) (fun t ht hW => ⟨⟨nI 1, (), rfl, (by exfalso; omega), ht⟩, hS.F ht⟩) hS.2.2 dM_isType_64
      · refine lv_iload_n hx hb dM_isType_53 rfl (lv_at hl 0 rfl) ?_
        refine lv_bipush (v := nI 10) hx hb dM_isType_54 (by decide) ?_
        refine zi_ne (tgt := 63) hx hb (by omega) (by omega) dM_isType_56 (by decide) (fun c_56 => ?_) (fun c_56 => ?_)
        · refine lv_iconst (v := nI 0) hx hb dM_isType_63 (by decide) ?_
          subst hQ
          exact W.zret (v := nI 0) hx hb hr (by decide) (fun t ht hW => ⟨⟨nI 0, (), rfl, rfl, ht⟩, hS.F ht⟩) hS.2.2 dM_isType_64
        · refine lv_iconst (v := nI 1) hx hb dM_isType_59 (by decide) ?_
          refine lv_goto (tgt := 64) hx hb dM_isType_60 (by decide) ?_
          subst hQ
          exact W.zret (v := nI 1) hx hb hr (by decide) (fun t ht hW => ⟨⟨nI 1, (), rfl, (by exfalso; omega), ht⟩, hS.F ht⟩) hS.2.2 dM_isType_64
  · refine lv_tableOut (tgt := 128) hx hb dM_isType_9 (by rw [nI_toInt (by omega)]; omega) (by decide) ?_
    refine lv_iload_n hx hb dM_isType_128 rfl (lv_at hl 1 rfl) ?_
    refine lv_sipush (v := nI 800) hx hb dM_isType_129 (by decide) ?_
    refine zi_eq (tgt := 142) hx hb (by omega) (by omega) dM_isType_132 (by decide) (fun c_132 => ?_) (fun c_132 => ?_)
    · refine lv_iconst (v := nI 1) hx hb dM_isType_142 (by decide) ?_
      refine lv_goto (tgt := 147) hx hb dM_isType_143 (by decide) ?_
      subst hQ
      exact W.zret (v := nI 1) hx hb hr (by decide) (fun t ht hW => ⟨⟨nI 1, (), rfl, (by exfalso; omega), ht⟩, hS.F ht⟩) hS.2.2 dM_isType_147
    · refine lv_iload_n hx hb dM_isType_135 rfl (lv_at hl 1 rfl) ?_
      refine lv_sipush (v := nI 810) hx hb dM_isType_136 (by decide) ?_
      refine zi_ne (tgt := 146) hx hb (by omega) (by omega) dM_isType_139 (by decide) (fun c_139 => ?_) (fun c_139 => ?_)
      · refine lv_iconst (v := nI 0) hx hb dM_isType_146 (by decide) ?_
        subst hQ
        exact W.zret (v := nI 0) hx hb hr (by decide) (fun t ht hW => ⟨⟨nI 0, (), rfl, rfl, ht⟩, hS.F ht⟩) hS.2.2 dM_isType_147
      · refine lv_iconst (v := nI 1) hx hb dM_isType_142 (by decide) ?_
        refine lv_goto (tgt := 147) hx hb dM_isType_143 (by decide) ?_
        subst hQ
        exact W.zret (v := nI 1) hx hb hr (by decide) (fun t ht hW => ⟨⟨nI 1, (), rfl, (by exfalso; omega), ht⟩, hS.F ht⟩) hS.2.2 dM_isType_147
def rm_c_Mfeed_ok : Room := ({ frames := 0, cells := 0, slots := 0, locals := 0 } : Room)
set_option maxHeartbeats 4000000 in
set_option maxRecDepth 100000 in
theorem c_Mfeed_ok (l : Launch) (dC : Nat → ClassId) (dI : Nat → Nat → Nat) (m0 : Nat) (n0 : Nat) (n1 : Nat) (n2 : Nat) (cd : Nat) (dt : Nat) (e0 : Nat) (e1 : Nat) (rt : Nat) (e2 : Nat) (e3 : Nat) (e4 : Nat) (sz9 : Nat) (at9 : Nat) (fl : Nat) (pl : Int32) (wr : Nat) (e5 : Nat) (cI : ClassId) (cB : ClassId) (tp : Nat → Nat) (v : Int32) (hl9 : sz9 + 4 ≤ 400) (sz : Nat) : Met l yM_feed wsM_feed rm_c_Mfeed_ok (zM (dC, dI) [(cI, .int), (cB, .byte)] [.ref m0, .int v] [(m0, .inr (4, [.ref n0, .ref n1, .ref n2, .int (nI cd), .int (nI dt), .ref e0, .ref e1, .int (nI rt), .ref e2, .ref e3, .ref e4, .int (nI sz9), .int (nI at9), .int (nI fl), .int pl, .int (nI wr), .ref e5])), (e4, .inl (cI, 400, .inl (aN tp)))] sz) (zMi (dC, dI) [(m0, .inr (4, [.ref n0, .ref n1, .ref n2, .int (nI cd), .int (nI dt), .ref e0, .ref e1, .int (nI rt), .ref e2, .ref e3, .ref e4, .int (nI sz9), .int (nI at9), .int (nI fl), .int pl, .int (nI wr), .ref e5])), (e4, .inl (cI, 400, .inl (aN tp)))] [(m0, .inr (4, [.ref n0, .ref n1, .ref n2, .int (nI 0), .int (nI dt), .ref e0, .ref e1, .int (nI rt), .ref e2, .ref e3, .ref e4, .int (nI (sz9 + 4)), .int (nI at9), .int (nI fl), .int pl, .int (nI wr), .ref e5])), (e4, .inl (cI, 400, .inl (aN (nup (nup (nup (nup tp sz9 (fb v 24)) (sz9 + 1) (fb v 16)) (sz9 + 2) (fb v 8)) (sz9 + 3) (fb v 0)))))] sz (fun r => r = nI (sz9 + 4))) 0 0 (va_A [(m0, .inr (4, [.ref n0, .ref n1, .ref n2, .int (nI cd), .int (nI dt), .ref e0, .ref e1, .int (nI rt), .ref e2, .ref e3, .ref e4, .int (nI sz9), .int (nI at9), .int (nI fl), .int pl, .int (nI wr), .ref e5])), (e4, .inl (cI, 400, .inl (aN tp)))] sz) := by
  refine Met.ofW (cc := cM_feed) (maxL := 3) (ret := (some .int)) (by decide) rfl ?_
  intro p e s m args below meth c s₁ Bd hml hv
  obtain ⟨rfl, hsz, hG, hP, hK, hD0⟩ := hv
  subst hsz
  have hx := Bd.exec
  have hb := Bd.bytes
  have hr := Bd.returns
  have hts := atoms_spec (ws := wsM_feed) Bd.pre
  have hw : ∀ w ∈ BIG, w.before _ s = true := fun w h => hts w (List.mem_cons_of_mem _ h)
  have hown : s.vm.findClass RM = some m.cls := findClass_of_methodNamed Bd.named
  have hlocks := Bd.notSynchronized
  have hD := hD0.self (sz := s.heap.size)
  obtain ⟨A, hAe⟩ : ∃ A, A = va_A [(m0, .inr (4, [.ref n0, .ref n1, .ref n2, .int (nI cd), .int (nI dt), .ref e0, .ref e1, .int (nI rt), .ref e2, .ref e3, .ref e4, .int (nI sz9), .int (nI at9), .int (nI fl), .int pl, .int (nI wr), .ref e5])), (e4, .inl (cI, 400, .inl (aN tp)))] s.heap.size := ⟨_, rfl⟩
  have hA : ∀ q : Nat, s.heap.size ≤ q → A q := fun q h => by rw [hAe]; exact Or.inr h
  rw [← hAe] at hG hD
  have hS : va_S A s.heap s.heap [] := va_S.rf
  have hl := lv_entry ([.ref m0, .int v]) (n := 3) (Nat.le_of_ble_eq_true rfl)
  rw [lg_entry_eq]
  generalize (lg_sl ([.ref m0, .int v]) ++ List.replicate (3 - (lg_sl ([.ref m0, .int v])).length) Slot.unset).toArray = ls at hl ⊢
  have hl : lv_has ls 3 [(0, .ref m0), (1, .int v)] := hl
  refine zq_name (fun Q hQ => ?_)
  change W p l e rm_c_Mfeed_ok s m _ below meth c _ _ _ _ Q _
  refine lv_aload_n hx hb dM_feed_0 rfl (lv_at hl 0 rfl) ?_
  refine lv_aload_n hx hb dM_feed_1 rfl (lv_at hl 0 rfl) ?_
  refine va_get (D := (dC, dI)) (ci := 4) (v := .int (nI sz9)) (C := RM) (T := TM) (N := 17) hx hb hw inM hown hK hP 0 rfl rfl 11 (by decide) (hw _ w_fl_M_99) (fun _ h9 => h9) rfl dM_feed_2 ?_
  refine lv_iconst (v := nI 4) hx hb dM_feed_5 (by decide) ?_
  refine zi_add hx hb dM_feed_6 ?_
  refine lv_sipush (v := nI 400) hx hb dM_feed_7 (by decide) ?_
  refine zi_le (tgt := 17) hx hb (by omega) (by omega) dM_feed_10 (by decide) (fun c_10 => ?_) (fun q => False.elim ((by omega)))
  refine lv_iconst (v := nI 0) hx hb dM_feed_17 (by decide) ?_
  refine va_put (D := (dC, dI)) (ci := 4) (v := .int (nI 0)) (ty := .int) (C := RM) (T := TM) (N := 17) hx hb hw inM tyM tyM_ok nmM hown hK hP hD hS 0 rfl rfl 3 (by decide) (hw _ w_fl_M_45) (fun _ h9 => h9) rfl (by decide +kernel) rfl rfl (Nat.le_of_ble_eq_true rfl) dM_feed_18 (fun H locs hP hD hS => ?_)
  have hP : va_P (dC, dI) vwCl [(m0, .inr (4, [.ref n0, .ref n1, .ref n2, .int (nI 0), .int (nI dt), .ref e0, .ref e1, .int (nI rt), .ref e2, .ref e3, .ref e4, .int (nI sz9), .int (nI at9), .int (nI fl), .int pl, .int (nI wr), .ref e5])), (e4, .inl (cI, 400, .inl (aN tp)))] H := hP
  have hD : va_D A [(m0, .inr (4, [.ref n0, .ref n1, .ref n2, .int (nI 0), .int (nI dt), .ref e0, .ref e1, .int (nI rt), .ref e2, .ref e3, .ref e4, .int (nI sz9), .int (nI at9), .int (nI fl), .int pl, .int (nI wr), .ref e5])), (e4, .inl (cI, 400, .inl (aN tp)))] := hD
  refine lv_aload_n hx hb dM_feed_21 rfl (lv_at hl 0 rfl) ?_
  refine va_get (D := (dC, dI)) (ci := 4) (v := .int (nI 0)) (C := RM) (T := TM) (N := 17) hx hb hw inM hown hK hP 0 rfl rfl 3 (by decide) (hw _ w_fl_M_45) (fun _ h9 => h9) rfl dM_feed_22 ?_
  refine lv_if_le (tgt := 30) hx hb dM_feed_25 (by decide) (fun c_25 => ?_) (fun q => False.elim (absurd q (by decide)))
  refine lv_bipush (v := nI 24) hx hb dM_feed_30 (by decide) ?_
  refine lv_istore_n (lv' := [(2, .int (nI 24)), (0, .ref m0), (1, .int v)]) hx hb dM_feed_32 rfl hl (by decide) rfl (fun ls hl => ?_)
  refine lv_iload_n hx hb dM_feed_33 rfl (lv_at hl 0 rfl) ?_
  refine lv_if_lt (tgt := 69) hx hb dM_feed_34 (by decide) (fun q => False.elim (absurd q (by decide))) (fun c_34 => ?_)
  refine lv_aload_n hx hb dM_feed_37 rfl (lv_at hl 1 rfl) ?_
  refine va_get (D := (dC, dI)) (ci := 4) (v := .ref e4) (C := RM) (T := TM) (N := 17) hx hb hw inM hown hK hP 0 rfl rfl 10 (by decide) (hw _ w_fl_M_35) (fun _ h9 => h9) rfl dM_feed_38 ?_
  refine lv_aload_n hx hb dM_feed_41 rfl (lv_at hl 1 rfl) ?_
  refine va_get (D := (dC, dI)) (ci := 4) (v := .int (nI sz9)) (C := RM) (T := TM) (N := 17) hx hb hw inM hown hK hP 0 rfl rfl 11 (by decide) (hw _ w_fl_M_99) (fun _ h9 => h9) rfl dM_feed_42 ?_
  refine lv_iload_n hx hb dM_feed_45 rfl (lv_at hl 2 rfl) ?_
  refine lv_iload_n hx hb dM_feed_46 rfl (lv_at hl 0 rfl) ?_
  refine lv_ishr hx hb dM_feed_47 ?_
  refine lv_sipush (v := nI 255) hx hb dM_feed_48 (by decide) ?_
  refine lv_iand hx hb dM_feed_51 ?_
  refine zi_v (b := nI (fb v 24)) (pk_and _ 8 (by decide)) ?_
  refine za_ist hx hb hK hP hD hS 1 0 rfl rfl (by omega) (by decide) dM_feed_52 (fun H locs hP hD hS => ?_)
  have hP : va_P (dC, dI) vwCl [(m0, .inr (4, [.ref n0, .ref n1, .ref n2, .int (nI 0), .int (nI dt), .ref e0, .ref e1, .int (nI rt), .ref e2, .ref e3, .ref e4, .int (nI sz9), .int (nI at9), .int (nI fl), .int pl, .int (nI wr), .ref e5])), (e4, .inl (cI, 400, .inl (aN (nup tp sz9 (fb v 24)))))] H := hP
  have hD : va_D A [(m0, .inr (4, [.ref n0, .ref n1, .ref n2, .int (nI 0), .int (nI dt), .ref e0, .ref e1, .int (nI rt), .ref e2, .ref e3, .ref e4, .int (nI sz9), .int (nI at9), .int (nI fl), .int pl, .int (nI wr), .ref e5])), (e4, .inl (cI, 400, .inl (aN (nup tp sz9 (fb v 24)))))] := hD
  refine lv_aload_n hx hb dM_feed_53 rfl (lv_at hl 1 rfl) ?_
  refine lv_dup hx hb dM_feed_54 rfl ?_
  refine va_get (D := (dC, dI)) (ci := 4) (v := .int (nI sz9)) (C := RM) (T := TM) (N := 17) hx hb hw inM hown hK hP 0 rfl rfl 11 (by decide) (hw _ w_fl_M_99) (fun _ h9 => h9) rfl dM_feed_55 ?_
  refine lv_iconst (v := nI 1) hx hb dM_feed_58 (by decide) ?_
  refine zi_add hx hb dM_feed_59 ?_
  refine va_put (D := (dC, dI)) (ci := 4) (v := .int (nI (sz9 + 1))) (ty := .int) (C := RM) (T := TM) (N := 17) hx hb hw inM tyM tyM_ok nmM hown hK hP hD hS 0 rfl rfl 11 (by decide) (hw _ w_fl_M_99) (fun _ h9 => h9) rfl (by decide +kernel) rfl rfl (Nat.le_of_ble_eq_true rfl) dM_feed_60 (fun H locs hP hD hS => ?_)
  have hP : va_P (dC, dI) vwCl [(m0, .inr (4, [.ref n0, .ref n1, .ref n2, .int (nI 0), .int (nI dt), .ref e0, .ref e1, .int (nI rt), .ref e2, .ref e3, .ref e4, .int (nI (sz9 + 1)), .int (nI at9), .int (nI fl), .int pl, .int (nI wr), .ref e5])), (e4, .inl (cI, 400, .inl (aN (nup tp sz9 (fb v 24)))))] H := hP
  have hD : va_D A [(m0, .inr (4, [.ref n0, .ref n1, .ref n2, .int (nI 0), .int (nI dt), .ref e0, .ref e1, .int (nI rt), .ref e2, .ref e3, .ref e4, .int (nI (sz9 + 1)), .int (nI at9), .int (nI fl), .int pl, .int (nI wr), .ref e5])), (e4, .inl (cI, 400, .inl (aN (nup tp sz9 (fb v 24)))))] := hD
  refine lv_iinc (v := nI 16) (lv' := [(2, .int (nI 16)), (0, .ref m0), (1, .int v)]) hx hb dM_feed_63 hl (k := 0) rfl (by decide) (by decide) rfl (fun ls hl => ?_)
  refine lv_goto (tgt := 33) hx hb dM_feed_66 (by decide) ?_
  refine lv_iload_n hx hb dM_feed_33 rfl (lv_at hl 0 rfl) ?_
  refine lv_if_lt (tgt := 69) hx hb dM_feed_34 (by decide) (fun q => False.elim (absurd q (by decide))) (fun c_34 => ?_)
  refine lv_aload_n hx hb dM_feed_37 rfl (lv_at hl 1 rfl) ?_
  refine va_get (D := (dC, dI)) (ci := 4) (v := .ref e4) (C := RM) (T := TM) (N := 17) hx hb hw inM hown hK hP 0 rfl rfl 10 (by decide) (hw _ w_fl_M_35) (fun _ h9 => h9) rfl dM_feed_38 ?_
  refine lv_aload_n hx hb dM_feed_41 rfl (lv_at hl 1 rfl) ?_
  refine va_get (D := (dC, dI)) (ci := 4) (v := .int (nI (sz9 + 1))) (C := RM) (T := TM) (N := 17) hx hb hw inM hown hK hP 0 rfl rfl 11 (by decide) (hw _ w_fl_M_99) (fun _ h9 => h9) rfl dM_feed_42 ?_
  refine lv_iload_n hx hb dM_feed_45 rfl (lv_at hl 2 rfl) ?_
  refine lv_iload_n hx hb dM_feed_46 rfl (lv_at hl 0 rfl) ?_
  refine lv_ishr hx hb dM_feed_47 ?_
  refine lv_sipush (v := nI 255) hx hb dM_feed_48 (by decide) ?_
  refine lv_iand hx hb dM_feed_51 ?_
  refine zi_v (b := nI (fb v 16)) (pk_and _ 8 (by decide)) ?_
  refine za_ist hx hb hK hP hD hS 1 0 rfl rfl (by omega) (by decide) dM_feed_52 (fun H locs hP hD hS => ?_)
  have hP : va_P (dC, dI) vwCl [(m0, .inr (4, [.ref n0, .ref n1, .ref n2, .int (nI 0), .int (nI dt), .ref e0, .ref e1, .int (nI rt), .ref e2, .ref e3, .ref e4, .int (nI (sz9 + 1)), .int (nI at9), .int (nI fl), .int pl, .int (nI wr), .ref e5])), (e4, .inl (cI, 400, .inl (aN (nup (nup tp sz9 (fb v 24)) (sz9 + 1) (fb v 16)))))] H := hP
  have hD : va_D A [(m0, .inr (4, [.ref n0, .ref n1, .ref n2, .int (nI 0), .int (nI dt), .ref e0, .ref e1, .int (nI rt), .ref e2, .ref e3, .ref e4, .int (nI (sz9 + 1)), .int (nI at9), .int (nI fl), .int pl, .int (nI wr), .ref e5])), (e4, .inl (cI, 400, .inl (aN (nup (nup tp sz9 (fb v 24)) (sz9 + 1) (fb v 16)))))] := hD
  refine lv_aload_n hx hb dM_feed_53 rfl (lv_at hl 1 rfl) ?_
  refine lv_dup hx hb dM_feed_54 rfl ?_
  refine va_get (D := (dC, dI)) (ci := 4) (v := .int (nI (sz9 + 1))) (C := RM) (T := TM) (N := 17) hx hb hw inM hown hK hP 0 rfl rfl 11 (by decide) (hw _ w_fl_M_99) (fun _ h9 => h9) rfl dM_feed_55 ?_
  refine lv_iconst (v := nI 1) hx hb dM_feed_58 (by decide) ?_
  refine zi_add hx hb dM_feed_59 ?_
  refine va_put (D := (dC, dI)) (ci := 4) (v := .int (nI ((sz9 + 1) + 1))) (ty := .int) (C := RM) (T := TM) (N := 17) hx hb hw inM tyM tyM_ok nmM hown hK hP hD hS 0 rfl rfl 11 (by decide) (hw _ w_fl_M_99) (fun _ h9 => h9) rfl (by decide +kernel) rfl rfl (Nat.le_of_ble_eq_true rfl) dM_feed_60 (fun H locs hP hD hS => ?_)
  have hP : va_P (dC, dI) vwCl [(m0, .inr (4, [.ref n0, .ref n1, .ref n2, .int (nI 0), .int (nI dt), .ref e0, .ref e1, .int (nI rt), .ref e2, .ref e3, .ref e4, .int (nI ((sz9 + 1) + 1)), .int (nI at9), .int (nI fl), .int pl, .int (nI wr), .ref e5])), (e4, .inl (cI, 400, .inl (aN (nup (nup tp sz9 (fb v 24)) (sz9 + 1) (fb v 16)))))] H := hP
  have hD : va_D A [(m0, .inr (4, [.ref n0, .ref n1, .ref n2, .int (nI 0), .int (nI dt), .ref e0, .ref e1, .int (nI rt), .ref e2, .ref e3, .ref e4, .int (nI ((sz9 + 1) + 1)), .int (nI at9), .int (nI fl), .int pl, .int (nI wr), .ref e5])), (e4, .inl (cI, 400, .inl (aN (nup (nup tp sz9 (fb v 24)) (sz9 + 1) (fb v 16)))))] := hD
  refine lv_iinc (v := nI 8) (lv' := [(2, .int (nI 8)), (0, .ref m0), (1, .int v)]) hx hb dM_feed_63 hl (k := 0) rfl (by decide) (by decide) rfl (fun ls hl => ?_)
  refine lv_goto (tgt := 33) hx hb dM_feed_66 (by decide) ?_
  refine lv_iload_n hx hb dM_feed_33 rfl (lv_at hl 0 rfl) ?_
  refine lv_if_lt (tgt := 69) hx hb dM_feed_34 (by decide) (fun q => False.elim (absurd q (by decide))) (fun c_34 => ?_)
  refine lv_aload_n hx hb dM_feed_37 rfl (lv_at hl 1 rfl) ?_
  refine va_get (D := (dC, dI)) (ci := 4) (v := .ref e4) (C := RM) (T := TM) (N := 17) hx hb hw inM hown hK hP 0 rfl rfl 10 (by decide) (hw _ w_fl_M_35) (fun _ h9 => h9) rfl dM_feed_38 ?_
  refine lv_aload_n hx hb dM_feed_41 rfl (lv_at hl 1 rfl) ?_
  refine va_get (D := (dC, dI)) (ci := 4) (v := .int (nI ((sz9 + 1) + 1))) (C := RM) (T := TM) (N := 17) hx hb hw inM hown hK hP 0 rfl rfl 11 (by decide) (hw _ w_fl_M_99) (fun _ h9 => h9) rfl dM_feed_42 ?_
  refine lv_iload_n hx hb dM_feed_45 rfl (lv_at hl 2 rfl) ?_
  refine lv_iload_n hx hb dM_feed_46 rfl (lv_at hl 0 rfl) ?_
  refine lv_ishr hx hb dM_feed_47 ?_
  refine lv_sipush (v := nI 255) hx hb dM_feed_48 (by decide) ?_
  refine lv_iand hx hb dM_feed_51 ?_
  refine zi_v (b := nI (fb v 8)) (pk_and _ 8 (by decide)) ?_
  refine za_ist hx hb hK hP hD hS 1 0 rfl rfl (by omega) (by decide) dM_feed_52 (fun H locs hP hD hS => ?_)
  have hP : va_P (dC, dI) vwCl [(m0, .inr (4, [.ref n0, .ref n1, .ref n2, .int (nI 0), .int (nI dt), .ref e0, .ref e1, .int (nI rt), .ref e2, .ref e3, .ref e4, .int (nI ((sz9 + 1) + 1)), .int (nI at9), .int (nI fl), .int pl, .int (nI wr), .ref e5])), (e4, .inl (cI, 400, .inl (aN (nup (nup (nup tp sz9 (fb v 24)) (sz9 + 1) (fb v 16)) ((sz9 + 1) + 1) (fb v 8)))))] H := hP
  have hD : va_D A [(m0, .inr (4, [.ref n0, .ref n1, .ref n2, .int (nI 0), .int (nI dt), .ref e0, .ref e1, .int (nI rt), .ref e2, .ref e3, .ref e4, .int (nI ((sz9 + 1) + 1)), .int (nI at9), .int (nI fl), .int pl, .int (nI wr), .ref e5])), (e4, .inl (cI, 400, .inl (aN (nup (nup (nup tp sz9 (fb v 24)) (sz9 + 1) (fb v 16)) ((sz9 + 1) + 1) (fb v 8)))))] := hD
  refine lv_aload_n hx hb dM_feed_53 rfl (lv_at hl 1 rfl) ?_
  refine lv_dup hx hb dM_feed_54 rfl ?_
  refine va_get (D := (dC, dI)) (ci := 4) (v := .int (nI ((sz9 + 1) + 1))) (C := RM) (T := TM) (N := 17) hx hb hw inM hown hK hP 0 rfl rfl 11 (by decide) (hw _ w_fl_M_99) (fun _ h9 => h9) rfl dM_feed_55 ?_
  refine lv_iconst (v := nI 1) hx hb dM_feed_58 (by decide) ?_
  refine zi_add hx hb dM_feed_59 ?_
  refine va_put (D := (dC, dI)) (ci := 4) (v := .int (nI (((sz9 + 1) + 1) + 1))) (ty := .int) (C := RM) (T := TM) (N := 17) hx hb hw inM tyM tyM_ok nmM hown hK hP hD hS 0 rfl rfl 11 (by decide) (hw _ w_fl_M_99) (fun _ h9 => h9) rfl (by decide +kernel) rfl rfl (Nat.le_of_ble_eq_true rfl) dM_feed_60 (fun H locs hP hD hS => ?_)
  have hP : va_P (dC, dI) vwCl [(m0, .inr (4, [.ref n0, .ref n1, .ref n2, .int (nI 0), .int (nI dt), .ref e0, .ref e1, .int (nI rt), .ref e2, .ref e3, .ref e4, .int (nI (((sz9 + 1) + 1) + 1)), .int (nI at9), .int (nI fl), .int pl, .int (nI wr), .ref e5])), (e4, .inl (cI, 400, .inl (aN (nup (nup (nup tp sz9 (fb v 24)) (sz9 + 1) (fb v 16)) ((sz9 + 1) + 1) (fb v 8)))))] H := hP
  have hD : va_D A [(m0, .inr (4, [.ref n0, .ref n1, .ref n2, .int (nI 0), .int (nI dt), .ref e0, .ref e1, .int (nI rt), .ref e2, .ref e3, .ref e4, .int (nI (((sz9 + 1) + 1) + 1)), .int (nI at9), .int (nI fl), .int pl, .int (nI wr), .ref e5])), (e4, .inl (cI, 400, .inl (aN (nup (nup (nup tp sz9 (fb v 24)) (sz9 + 1) (fb v 16)) ((sz9 + 1) + 1) (fb v 8)))))] := hD
  refine lv_iinc (v := nI 0) (lv' := [(2, .int (nI 0)), (0, .ref m0), (1, .int v)]) hx hb dM_feed_63 hl (k := 0) rfl (by decide) (by decide) rfl (fun ls hl => ?_)
  refine lv_goto (tgt := 33) hx hb dM_feed_66 (by decide) ?_
  refine lv_iload_n hx hb dM_feed_33 rfl (lv_at hl 0 rfl) ?_
  refine lv_if_lt (tgt := 69) hx hb dM_feed_34 (by decide) (fun q => False.elim (absurd q (by decide))) (fun c_34 => ?_)
  refine lv_aload_n hx hb dM_feed_37 rfl (lv_at hl 1 rfl) ?_
  refine va_get (D := (dC, dI)) (ci := 4) (v := .ref e4) (C := RM) (T := TM) (N := 17) hx hb hw inM hown hK hP 0 rfl rfl 10 (by decide) (hw _ w_fl_M_35) (fun _ h9 => h9) rfl dM_feed_38 ?_
  refine lv_aload_n hx hb dM_feed_41 rfl (lv_at hl 1 rfl) ?_
  refine va_get (D := (dC, dI)) (ci := 4) (v := .int (nI (((sz9 + 1) + 1) + 1))) (C := RM) (T := TM) (N := 17) hx hb hw inM hown hK hP 0 rfl rfl 11 (by decide) (hw _ w_fl_M_99) (fun _ h9 => h9) rfl dM_feed_42 ?_
  refine lv_iload_n hx hb dM_feed_45 rfl (lv_at hl 2 rfl) ?_
  refine lv_iload_n hx hb dM_feed_46 rfl (lv_at hl 0 rfl) ?_
  refine lv_ishr hx hb dM_feed_47 ?_
  refine lv_sipush (v := nI 255) hx hb dM_feed_48 (by decide) ?_
  refine lv_iand hx hb dM_feed_51 ?_
  refine zi_v (b := nI (fb v 0)) (pk_and _ 8 (by decide)) ?_
  refine za_ist hx hb hK hP hD hS 1 0 rfl rfl (by omega) (by decide) dM_feed_52 (fun H locs hP hD hS => ?_)
  have hP : va_P (dC, dI) vwCl [(m0, .inr (4, [.ref n0, .ref n1, .ref n2, .int (nI 0), .int (nI dt), .ref e0, .ref e1, .int (nI rt), .ref e2, .ref e3, .ref e4, .int (nI (((sz9 + 1) + 1) + 1)), .int (nI at9), .int (nI fl), .int pl, .int (nI wr), .ref e5])), (e4, .inl (cI, 400, .inl (aN (nup (nup (nup (nup tp sz9 (fb v 24)) (sz9 + 1) (fb v 16)) ((sz9 + 1) + 1) (fb v 8)) (((sz9 + 1) + 1) + 1) (fb v 0)))))] H := hP
  have hD : va_D A [(m0, .inr (4, [.ref n0, .ref n1, .ref n2, .int (nI 0), .int (nI dt), .ref e0, .ref e1, .int (nI rt), .ref e2, .ref e3, .ref e4, .int (nI (((sz9 + 1) + 1) + 1)), .int (nI at9), .int (nI fl), .int pl, .int (nI wr), .ref e5])), (e4, .inl (cI, 400, .inl (aN (nup (nup (nup (nup tp sz9 (fb v 24)) (sz9 + 1) (fb v 16)) ((sz9 + 1) + 1) (fb v 8)) (((sz9 + 1) + 1) + 1) (fb v 0)))))] := hD
  refine lv_aload_n hx hb dM_feed_53 rfl (lv_at hl 1 rfl) ?_
  refine lv_dup hx hb dM_feed_54 rfl ?_
  refine va_get (D := (dC, dI)) (ci := 4) (v := .int (nI (((sz9 + 1) + 1) + 1))) (C := RM) (T := TM) (N := 17) hx hb hw inM hown hK hP 0 rfl rfl 11 (by decide) (hw _ w_fl_M_99) (fun _ h9 => h9) rfl dM_feed_55 ?_
  refine lv_iconst (v := nI 1) hx hb dM_feed_58 (by decide) ?_
  refine zi_add hx hb dM_feed_59 ?_
  refine va_put (D := (dC, dI)) (ci := 4) (v := .int (nI ((((sz9 + 1) + 1) + 1) + 1))) (ty := .int) (C := RM) (T := TM) (N := 17) hx hb hw inM tyM tyM_ok nmM hown hK hP hD hS 0 rfl rfl 11 (by decide) (hw _ w_fl_M_99) (fun _ h9 => h9) rfl (by decide +kernel) rfl rfl (Nat.le_of_ble_eq_true rfl) dM_feed_60 (fun H locs hP hD hS => ?_)
  have hP : va_P (dC, dI) vwCl [(m0, .inr (4, [.ref n0, .ref n1, .ref n2, .int (nI 0), .int (nI dt), .ref e0, .ref e1, .int (nI rt), .ref e2, .ref e3, .ref e4, .int (nI ((((sz9 + 1) + 1) + 1) + 1)), .int (nI at9), .int (nI fl), .int pl, .int (nI wr), .ref e5])), (e4, .inl (cI, 400, .inl (aN (nup (nup (nup (nup tp sz9 (fb v 24)) (sz9 + 1) (fb v 16)) ((sz9 + 1) + 1) (fb v 8)) (((sz9 + 1) + 1) + 1) (fb v 0)))))] H := hP
  have hD : va_D A [(m0, .inr (4, [.ref n0, .ref n1, .ref n2, .int (nI 0), .int (nI dt), .ref e0, .ref e1, .int (nI rt), .ref e2, .ref e3, .ref e4, .int (nI ((((sz9 + 1) + 1) + 1) + 1)), .int (nI at9), .int (nI fl), .int pl, .int (nI wr), .ref e5])), (e4, .inl (cI, 400, .inl (aN (nup (nup (nup (nup tp sz9 (fb v 24)) (sz9 + 1) (fb v 16)) ((sz9 + 1) + 1) (fb v 8)) (((sz9 + 1) + 1) + 1) (fb v 0)))))] := hD
  refine lv_iinc (v := (-8)) (lv' := [(2, .int (-8)), (0, .ref m0), (1, .int v)]) hx hb dM_feed_63 hl (k := 0) rfl (by decide) (by decide) rfl (fun ls hl => ?_)
  refine lv_goto (tgt := 33) hx hb dM_feed_66 (by decide) ?_
  refine lv_iload_n hx hb dM_feed_33 rfl (lv_at hl 0 rfl) ?_
  refine lv_if_lt (tgt := 69) hx hb dM_feed_34 (by decide) (fun c_34 => ?_) (fun q => False.elim (absurd q (by decide)))
  refine lv_aload_n hx hb dM_feed_69 rfl (lv_at hl 1 rfl) ?_
  refine va_get (D := (dC, dI)) (ci := 4) (v := .int (nI ((((sz9 + 1) + 1) + 1) + 1))) (C := RM) (T := TM) (N := 17) hx hb hw inM hown hK hP 0 rfl rfl 11 (by decide) (hw _ w_fl_M_99) (fun _ h9 => h9) rfl dM_feed_70 ?_
  subst hAe
  subst hQ
  exact W.iret (v := nI ((((sz9 + 1) + 1) + 1) + 1)) hx hb hr (fun t ht hW => ⟨⟨nI ((((sz9 + 1) + 1) + 1) + 1), (), rfl, rfl, by rw [ht]; exact hP.sub [0, 1] rfl, hD.sub [0, 1] (by decide) rfl⟩, hS.F ht⟩) hS.2.2 dM_feed_73
def rm_c_Mfeed_no : Room := ({ frames := 0, cells := 0, slots := 0, locals := 0 } : Room)
set_option maxHeartbeats 4000000 in
set_option maxRecDepth 100000 in
theorem c_Mfeed_no (l : Launch) (dC : Nat → ClassId) (dI : Nat → Nat → Nat) (m0 : Nat) (n0 : Nat) (n1 : Nat) (n2 : Nat) (cd : Nat) (dt : Nat) (e0 : Nat) (e1 : Nat) (rt : Nat) (e2 : Nat) (e3 : Nat) (e4 : Nat) (sz9 : Nat) (at9 : Nat) (fl : Nat) (pl : Int32) (wr : Nat) (e5 : Nat) (cI : ClassId) (cB : ClassId) (v : Int32) (hl9 : 400 < sz9 + 4) (hsz : sz9 ≤ 400) (sz : Nat) : Met l yM_feed wsM_feed rm_c_Mfeed_no (zM (dC, dI) [(cI, .int), (cB, .byte)] [.ref m0, .int v] [(m0, .inr (4, [.ref n0, .ref n1, .ref n2, .int (nI cd), .int (nI dt), .ref e0, .ref e1, .int (nI rt), .ref e2, .ref e3, .ref e4, .int (nI sz9), .int (nI at9), .int (nI fl), .int pl, .int (nI wr), .ref e5]))] sz) (zMi (dC, dI) [(m0, .inr (4, [.ref n0, .ref n1, .ref n2, .int (nI cd), .int (nI dt), .ref e0, .ref e1, .int (nI rt), .ref e2, .ref e3, .ref e4, .int (nI sz9), .int (nI at9), .int (nI fl), .int pl, .int (nI wr), .ref e5]))] [(m0, .inr (4, [.ref n0, .ref n1, .ref n2, .int (nI 1), .int (nI dt), .ref e0, .ref e1, .int (nI rt), .ref e2, .ref e3, .ref e4, .int (nI sz9), .int (nI at9), .int (nI fl), .int pl, .int (nI wr), .ref e5]))] sz (fun r => r = nI 0)) 0 0 (va_A [(m0, .inr (4, [.ref n0, .ref n1, .ref n2, .int (nI cd), .int (nI dt), .ref e0, .ref e1, .int (nI rt), .ref e2, .ref e3, .ref e4, .int (nI sz9), .int (nI at9), .int (nI fl), .int pl, .int (nI wr), .ref e5]))] sz) := by
  refine Met.ofW (cc := cM_feed) (maxL := 3) (ret := (some .int)) (by decide) rfl ?_
  intro p e s m args below meth c s₁ Bd hml hv
  obtain ⟨rfl, hsz, hG, hP, hK, hD0⟩ := hv
  subst hsz
  have hx := Bd.exec
  have hb := Bd.bytes
  have hr := Bd.returns
  have hts := atoms_spec (ws := wsM_feed) Bd.pre
  have hw : ∀ w ∈ BIG, w.before _ s = true := fun w h => hts w (List.mem_cons_of_mem _ h)
  have hown : s.vm.findClass RM = some m.cls := findClass_of_methodNamed Bd.named
  have hlocks := Bd.notSynchronized
  have hD := hD0.self (sz := s.heap.size)
  obtain ⟨A, hAe⟩ : ∃ A, A = va_A [(m0, .inr (4, [.ref n0, .ref n1, .ref n2, .int (nI cd), .int (nI dt), .ref e0, .ref e1, .int (nI rt), .ref e2, .ref e3, .ref e4, .int (nI sz9), .int (nI at9), .int (nI fl), .int pl, .int (nI wr), .ref e5]))] s.heap.size := ⟨_, rfl⟩
  have hA : ∀ q : Nat, s.heap.size ≤ q → A q := fun q h => by rw [hAe]; exact Or.inr h
  rw [← hAe] at hG hD
  have hS : va_S A s.heap s.heap [] := va_S.rf
  have hl := lv_entry ([.ref m0, .int v]) (n := 3) (Nat.le_of_ble_eq_true rfl)
  rw [lg_entry_eq]
  generalize (lg_sl ([.ref m0, .int v]) ++ List.replicate (3 - (lg_sl ([.ref m0, .int v])).length) Slot.unset).toArray = ls at hl ⊢
  have hl : lv_has ls 3 [(0, .ref m0), (1, .int v)] := hl
  refine zq_name (fun Q hQ => ?_)
  change W p l e rm_c_Mfeed_no s m _ below meth c _ _ _ _ Q _
  refine lv_aload_n hx hb dM_feed_0 rfl (lv_at hl 0 rfl) ?_
  refine lv_aload_n hx hb dM_feed_1 rfl (lv_at hl 0 rfl) ?_
  refine va_get (D := (dC, dI)) (ci := 4) (v := .int (nI sz9)) (C := RM) (T := TM) (N := 17) hx hb hw inM hown hK hP 0 rfl rfl 11 (by decide) (hw _ w_fl_M_99) (fun _ h9 => h9) rfl dM_feed_2 ?_
  refine lv_iconst (v := nI 4) hx hb dM_feed_5 (by decide) ?_
  refine zi_add hx hb dM_feed_6 ?_
  refine lv_sipush (v := nI 400) hx hb dM_feed_7 (by decide) ?_
  refine zi_le (tgt := 17) hx hb (by omega) (by omega) dM_feed_10 (by decide) (fun q => False.elim ((by omega))) (fun c_10 => ?_)
  refine lv_iconst (v := nI 1) hx hb dM_feed_13 (by decide) ?_
  refine lv_goto (tgt := 18) hx hb dM_feed_14 (by decide) ?_
  refine va_put (D := (dC, dI)) (ci := 4) (v := .int (nI 1)) (ty := .int) (C := RM) (T := TM) (N := 17) hx hb hw inM tyM tyM_ok nmM hown hK hP hD hS 0 rfl rfl 3 (by decide) (hw _ w_fl_M_45) (fun _ h9 => h9) rfl (by decide +kernel) rfl rfl (Nat.le_of_ble_eq_true rfl) dM_feed_18 (fun H locs hP hD hS => ?_)
  have hP : va_P (dC, dI) vwCl [(m0, .inr (4, [.ref n0, .ref n1, .ref n2, .int (nI 1), .int (nI dt), .ref e0, .ref e1, .int (nI rt), .ref e2, .ref e3, .ref e4, .int (nI sz9), .int (nI at9), .int (nI fl), .int pl, .int (nI wr), .ref e5]))] H := hP
  have hD : va_D A [(m0, .inr (4, [.ref n0, .ref n1, .ref n2, .int (nI 1), .int (nI dt), .ref e0, .ref e1, .int (nI rt), .ref e2, .ref e3, .ref e4, .int (nI sz9), .int (nI at9), .int (nI fl), .int pl, .int (nI wr), .ref e5]))] := hD
  refine lv_aload_n hx hb dM_feed_21 rfl (lv_at hl 0 rfl) ?_
  refine va_get (D := (dC, dI)) (ci := 4) (v := .int (nI 1)) (C := RM) (T := TM) (N := 17) hx hb hw inM hown hK hP 0 rfl rfl 3 (by decide) (hw _ w_fl_M_45) (fun _ h9 => h9) rfl dM_feed_22 ?_
  refine lv_if_le (tgt := 30) hx hb dM_feed_25 (by decide) (fun q => False.elim (absurd q (by decide))) (fun c_25 => ?_)
  refine lv_iconst (v := nI 0) hx hb dM_feed_28 (by decide) ?_
  subst hAe
  subst hQ
  exact W.iret (v := nI 0) hx hb hr (fun t ht hW => ⟨⟨nI 0, (), rfl, rfl, by rw [ht]; exact hP.sub [0] rfl, hD.sub [0] (by decide) rfl⟩, hS.F ht⟩) hS.2.2 dM_feed_29
def rm_c_Mtrim_ok : Room := ({ frames := 1, cells := 0, slots := 0, locals := 21 } : Room)
set_option maxHeartbeats 4000000 in
set_option maxRecDepth 100000 in
theorem c_Mtrim_ok (l : Launch) (dC : Nat → ClassId) (dI : Nat → Nat → Nat) (m0 : Nat) (n0 : Nat) (n1 : Nat) (n2 : Nat) (cd : Nat) (dt : Nat) (e0 : Nat) (e1 : Nat) (rt : Nat) (e2 : Nat) (e3 : Nat) (e4 : Nat) (sz9 : Nat) (at9 : Nat) (fl : Nat) (pl : Int32) (wr : Nat) (e5 : Nat) (cI : ClassId) (cB : ClassId) (n : Nat) (hsz : sz9 ≤ 400) (hn : n ≤ sz9) (sz : Nat) : Met l yM_trim wsM_trim rm_c_Mtrim_ok (zM (dC, dI) [(cI, .int), (cB, .byte)] [.ref m0, .int (nI n)] [(m0, .inr (4, [.ref n0, .ref n1, .ref n2, .int (nI cd), .int (nI dt), .ref e0, .ref e1, .int (nI rt), .ref e2, .ref e3, .ref e4, .int (nI sz9), .int (nI at9), .int (nI fl), .int pl, .int (nI wr), .ref e5]))] sz) (zMi (dC, dI) [(m0, .inr (4, [.ref n0, .ref n1, .ref n2, .int (nI cd), .int (nI dt), .ref e0, .ref e1, .int (nI rt), .ref e2, .ref e3, .ref e4, .int (nI sz9), .int (nI at9), .int (nI fl), .int pl, .int (nI wr), .ref e5]))] [(m0, .inr (4, [.ref n0, .ref n1, .ref n2, .int (nI 0), .int (nI dt), .ref e0, .ref e1, .int (nI rt), .ref e2, .ref e3, .ref e4, .int (nI (sz9 - n)), .int (nI at9), .int (nI fl), .int pl, .int (nI wr), .ref e5]))] sz (fun r => r = nI (sz9 - n))) 0 0 (va_A [(m0, .inr (4, [.ref n0, .ref n1, .ref n2, .int (nI cd), .int (nI dt), .ref e0, .ref e1, .int (nI rt), .ref e2, .ref e3, .ref e4, .int (nI sz9), .int (nI at9), .int (nI fl), .int pl, .int (nI wr), .ref e5]))] sz) := by
  refine Met.ofW (cc := cM_trim) (maxL := 2) (ret := (some .int)) (by decide) rfl ?_
  intro p e s m args below meth c s₁ Bd hml hv
  obtain ⟨rfl, hsz, hG, hP, hK, hD0⟩ := hv
  subst hsz
  have hx := Bd.exec
  have hb := Bd.bytes
  have hr := Bd.returns
  have hts := atoms_spec (ws := wsM_trim) Bd.pre
  have hw : ∀ w ∈ BIG, w.before _ s = true := fun w h => hts w (List.mem_cons_of_mem _ h)
  have hown : s.vm.findClass RM = some m.cls := findClass_of_methodNamed Bd.named
  have hlocks := Bd.notSynchronized
  have hD := hD0.self (sz := s.heap.size)
  obtain ⟨A, hAe⟩ : ∃ A, A = va_A [(m0, .inr (4, [.ref n0, .ref n1, .ref n2, .int (nI cd), .int (nI dt), .ref e0, .ref e1, .int (nI rt), .ref e2, .ref e3, .ref e4, .int (nI sz9), .int (nI at9), .int (nI fl), .int pl, .int (nI wr), .ref e5]))] s.heap.size := ⟨_, rfl⟩
  have hA : ∀ q : Nat, s.heap.size ≤ q → A q := fun q h => by rw [hAe]; exact Or.inr h
  rw [← hAe] at hG hD
  have hS : va_S A s.heap s.heap [] := va_S.rf
  have hl := lv_entry ([.ref m0, .int (nI n)]) (n := 2) (Nat.le_of_ble_eq_true rfl)
  rw [lg_entry_eq]
  generalize (lg_sl ([.ref m0, .int (nI n)]) ++ List.replicate (2 - (lg_sl ([.ref m0, .int (nI n)])).length) Slot.unset).toArray = ls at hl ⊢
  have hl : lv_has ls 2 [(0, .ref m0), (1, .int (nI n))] := hl
  refine zq_name (fun Q hQ => ?_)
  change W p l e rm_c_Mtrim_ok s m _ below meth c _ _ _ _ Q _
  refine lv_aload_n hx hb dM_trim_0 rfl (lv_at hl 0 rfl) ?_
  refine lv_iload_n hx hb dM_trim_1 rfl (lv_at hl 1 rfl) ?_
  refine zi_lt0 (tgt := 17) hx hb (by omega) dM_trim_2 (by decide) ?_
  refine lv_iload_n hx hb dM_trim_5 rfl (lv_at hl 1 rfl) ?_
  refine lv_aload_n hx hb dM_trim_6 rfl (lv_at hl 0 rfl) ?_
  refine va_get (D := (dC, dI)) (ci := 4) (v := .int (nI sz9)) (C := RM) (T := TM) (N := 17) hx hb hw inM hown hK hP 0 rfl rfl 11 (by decide) (hw _ w_fl_M_99) (fun _ h9 => h9) rfl dM_trim_7 ?_
  refine zi_gt (tgt := 17) hx hb (by omega) (by omega) dM_trim_10 (by decide) (fun q => False.elim ((by omega))) (fun c_10 => ?_)
  refine lv_iconst (v := nI 1) hx hb dM_trim_13 (by decide) ?_
  refine lv_goto (tgt := 18) hx hb dM_trim_14 (by decide) ?_
  have hPc := hP.sub (ws' := [(m0, .inr (4, [.ref n0, .ref n1, .ref n2, .int (nI cd), .int (nI dt), .ref e0, .ref e1, .int (nI rt), .ref e2, .ref e3, .ref e4, .int (nI sz9), .int (nI at9), .int (nI fl), .int pl, .int (nI wr), .ref e5]))]) [0] rfl
  have hDc := hD.sub (ws' := [(m0, .inr (4, [.ref n0, .ref n1, .ref n2, .int (nI cd), .int (nI dt), .ref e0, .ref e1, .int (nI rt), .ref e2, .ref e3, .ref e4, .int (nI sz9), .int (nI at9), .int (nI fl), .int pl, .int (nI wr), .ref e5]))]) [0] (by decide) rfl
  have hFc := va_free (wc := [(m0, .inr (4, [.ref n0, .ref n1, .ref n2, .int (nI cd), .int (nI dt), .ref e0, .ref e1, .int (nI rt), .ref e2, .ref e3, .ref e4, .int (nI sz9), .int (nI at9), .int (nI fl), .int pl, .int (nI wr), .ref e5]))]) hD hS hA [0] rfl
  refine zc_Mi (va_runV (As := [.int (nI 1)]) (rest := []) ⟨hx, hb, hml, hown, hw⟩ (c_goes_1 l dC dI m0 n0 n1 n2 cd dt e0 e1 rt e2 e3 e4 sz9 at9 fl pl wr e5 cI cB s.heap.size) (cwV 1 hw (gV w_ml_M_50 w_im_M_goes w_se_M_goes w_in_M w_co_M_goes) rfl rfl rfl (by decide +kernel) ⟨Nat.le_of_ble_eq_true rfl, Nat.le_of_ble_eq_true rfl⟩) (zM_V hG hS hFc hPc hDc hK 0 rfl rfl) rfl rfl hl.1 rfl (lv_room (Nat.le_of_ble_eq_true rfl)) dM_trim_18 ⟨Nat.le_of_ble_eq_true rfl, Nat.le_of_ble_eq_true rfl⟩) hS hFc (fun r_1 H locs h_18 hP1 hD1 hk1 hS => ?_)
  obtain ⟨hP, hD⟩ := va_join (wr := []) (w1 := [(m0, .inr (4, [.ref n0, .ref n1, .ref n2, .int (nI 0), .int (nI dt), .ref e0, .ref e1, .int (nI rt), .ref e2, .ref e3, .ref e4, .int (nI sz9), .int (nI at9), .int (nI fl), .int pl, .int (nI wr), .ref e5]))]) hP hD [0] [] rfl rfl (by decide) (by decide) hk1 hFc hP1 hD1
  have hP : va_P (dC, dI) vwCl [(m0, .inr (4, [.ref n0, .ref n1, .ref n2, .int (nI 0), .int (nI dt), .ref e0, .ref e1, .int (nI rt), .ref e2, .ref e3, .ref e4, .int (nI sz9), .int (nI at9), .int (nI fl), .int pl, .int (nI wr), .ref e5]))] H := hP
  have hD : va_D A [(m0, .inr (4, [.ref n0, .ref n1, .ref n2, .int (nI 0), .int (nI dt), .ref e0, .ref e1, .int (nI rt), .ref e2, .ref e3, .ref e4, .int (nI sz9), .int (nI at9), .int (nI fl), .int pl, .int (nI wr), .ref e5]))] := hD
  subst h_18
  refine lv_if_ne (tgt := 26) hx hb dM_trim_21 (by decide) (fun c_21 => ?_) (fun q => False.elim (absurd q (by decide)))
  refine lv_aload_n hx hb dM_trim_26 rfl (lv_at hl 0 rfl) ?_
  refine lv_dup hx hb dM_trim_27 rfl ?_
  refine va_get (D := (dC, dI)) (ci := 4) (v := .int (nI sz9)) (C := RM) (T := TM) (N := 17) hx hb hw inM hown hK hP 0 rfl rfl 11 (by decide) (hw _ w_fl_M_99) (fun _ h9 => h9) rfl dM_trim_28 ?_
  refine lv_iload_n hx hb dM_trim_31 rfl (lv_at hl 1 rfl) ?_
  refine zi_sub hx hb (by omega) dM_trim_32 ?_
  refine va_put (D := (dC, dI)) (ci := 4) (v := .int (nI (sz9 - n))) (ty := .int) (C := RM) (T := TM) (N := 17) hx hb hw inM tyM tyM_ok nmM hown hK hP hD hS 0 rfl rfl 11 (by decide) (hw _ w_fl_M_99) (fun _ h9 => h9) rfl (by decide +kernel) rfl rfl (Nat.le_of_ble_eq_true rfl) dM_trim_33 (fun H locs hP hD hS => ?_)
  have hP : va_P (dC, dI) vwCl [(m0, .inr (4, [.ref n0, .ref n1, .ref n2, .int (nI 0), .int (nI dt), .ref e0, .ref e1, .int (nI rt), .ref e2, .ref e3, .ref e4, .int (nI (sz9 - n)), .int (nI at9), .int (nI fl), .int pl, .int (nI wr), .ref e5]))] H := hP
  have hD : va_D A [(m0, .inr (4, [.ref n0, .ref n1, .ref n2, .int (nI 0), .int (nI dt), .ref e0, .ref e1, .int (nI rt), .ref e2, .ref e3, .ref e4, .int (nI (sz9 - n)), .int (nI at9), .int (nI fl), .int pl, .int (nI wr), .ref e5]))] := hD
  refine lv_aload_n hx hb dM_trim_36 rfl (lv_at hl 0 rfl) ?_
  refine va_get (D := (dC, dI)) (ci := 4) (v := .int (nI (sz9 - n))) (C := RM) (T := TM) (N := 17) hx hb hw inM hown hK hP 0 rfl rfl 11 (by decide) (hw _ w_fl_M_99) (fun _ h9 => h9) rfl dM_trim_37 ?_
  subst hAe
  subst hQ
  exact W.iret (v := nI (sz9 - n)) hx hb hr (fun t ht hW => ⟨⟨nI (sz9 - n), (), rfl, rfl, by rw [ht]; exact hP.sub [0] rfl, hD.sub [0] (by decide) rfl⟩, hS.F ht⟩) hS.2.2 dM_trim_40
def rm_c_Mtrim_no : Room := ({ frames := 1, cells := 0, slots := 0, locals := 21 } : Room)
set_option maxHeartbeats 4000000 in
set_option maxRecDepth 100000 in
theorem c_Mtrim_no (l : Launch) (dC : Nat → ClassId) (dI : Nat → Nat → Nat) (m0 : Nat) (n0 : Nat) (n1 : Nat) (n2 : Nat) (cd : Nat) (dt : Nat) (e0 : Nat) (e1 : Nat) (rt : Nat) (e2 : Nat) (e3 : Nat) (e4 : Nat) (sz9 : Nat) (at9 : Nat) (fl : Nat) (pl : Int32) (wr : Nat) (e5 : Nat) (cI : ClassId) (cB : ClassId) (x9 : Int32) (hx9 : x9 < 0 ∨ nI sz9 < x9) (sz : Nat) : Met l yM_trim wsM_trim rm_c_Mtrim_no (zM (dC, dI) [(cI, .int), (cB, .byte)] [.ref m0, .int x9] [(m0, .inr (4, [.ref n0, .ref n1, .ref n2, .int (nI cd), .int (nI dt), .ref e0, .ref e1, .int (nI rt), .ref e2, .ref e3, .ref e4, .int (nI sz9), .int (nI at9), .int (nI fl), .int pl, .int (nI wr), .ref e5]))] sz) (zMi (dC, dI) [(m0, .inr (4, [.ref n0, .ref n1, .ref n2, .int (nI cd), .int (nI dt), .ref e0, .ref e1, .int (nI rt), .ref e2, .ref e3, .ref e4, .int (nI sz9), .int (nI at9), .int (nI fl), .int pl, .int (nI wr), .ref e5]))] [(m0, .inr (4, [.ref n0, .ref n1, .ref n2, .int (nI 1), .int (nI dt), .ref e0, .ref e1, .int (nI rt), .ref e2, .ref e3, .ref e4, .int (nI sz9), .int (nI at9), .int (nI fl), .int pl, .int (nI wr), .ref e5]))] sz (fun r => r = nI 0)) 0 0 (va_A [(m0, .inr (4, [.ref n0, .ref n1, .ref n2, .int (nI cd), .int (nI dt), .ref e0, .ref e1, .int (nI rt), .ref e2, .ref e3, .ref e4, .int (nI sz9), .int (nI at9), .int (nI fl), .int pl, .int (nI wr), .ref e5]))] sz) := by
  refine Met.ofW (cc := cM_trim) (maxL := 2) (ret := (some .int)) (by decide) rfl ?_
  intro p e s m args below meth c s₁ Bd hml hv
  obtain ⟨rfl, hsz, hG, hP, hK, hD0⟩ := hv
  subst hsz
  have hx := Bd.exec
  have hb := Bd.bytes
  have hr := Bd.returns
  have hts := atoms_spec (ws := wsM_trim) Bd.pre
  have hw : ∀ w ∈ BIG, w.before _ s = true := fun w h => hts w (List.mem_cons_of_mem _ h)
  have hown : s.vm.findClass RM = some m.cls := findClass_of_methodNamed Bd.named
  have hlocks := Bd.notSynchronized
  have hD := hD0.self (sz := s.heap.size)
  obtain ⟨A, hAe⟩ : ∃ A, A = va_A [(m0, .inr (4, [.ref n0, .ref n1, .ref n2, .int (nI cd), .int (nI dt), .ref e0, .ref e1, .int (nI rt), .ref e2, .ref e3, .ref e4, .int (nI sz9), .int (nI at9), .int (nI fl), .int pl, .int (nI wr), .ref e5]))] s.heap.size := ⟨_, rfl⟩
  have hA : ∀ q : Nat, s.heap.size ≤ q → A q := fun q h => by rw [hAe]; exact Or.inr h
  rw [← hAe] at hG hD
  have hS : va_S A s.heap s.heap [] := va_S.rf
  have hl := lv_entry ([.ref m0, .int x9]) (n := 2) (Nat.le_of_ble_eq_true rfl)
  rw [lg_entry_eq]
  generalize (lg_sl ([.ref m0, .int x9]) ++ List.replicate (2 - (lg_sl ([.ref m0, .int x9])).length) Slot.unset).toArray = ls at hl ⊢
  have hl : lv_has ls 2 [(0, .ref m0), (1, .int x9)] := hl
  refine zq_name (fun Q hQ => ?_)
  change W p l e rm_c_Mtrim_no s m _ below meth c _ _ _ _ Q _
  refine lv_aload_n hx hb dM_trim_0 rfl (lv_at hl 0 rfl) ?_
  refine lv_iload_n hx hb dM_trim_1 rfl (lv_at hl 1 rfl) ?_
  refine lv_if_lt (tgt := 17) hx hb dM_trim_2 (by decide) (fun c_2 => ?_) (fun c_2 => ?_)
  · refine lv_iconst (v := nI 0) hx hb dM_trim_17 (by decide) ?_
    have hPc := hP.sub (ws' := [(m0, .inr (4, [.ref n0, .ref n1, .ref n2, .int (nI cd), .int (nI dt), .ref e0, .ref e1, .int (nI rt), .ref e2, .ref e3, .ref e4, .int (nI sz9), .int (nI at9), .int (nI fl), .int pl, .int (nI wr), .ref e5]))]) [0] rfl
    have hDc := hD.sub (ws' := [(m0, .inr (4, [.ref n0, .ref n1, .ref n2, .int (nI cd), .int (nI dt), .ref e0, .ref e1, .int (nI rt), .ref e2, .ref e3, .ref e4, .int (nI sz9), .int (nI at9), .int (nI fl), .int pl, .int (nI wr), .ref e5]))]) [0] (by decide) rfl
    have hFc := va_free (wc := [(m0, .inr (4, [.ref n0, .ref n1, .ref n2, .int (nI cd), .int (nI dt), .ref e0, .ref e1, .int (nI rt), .ref e2, .ref e3, .ref e4, .int (nI sz9), .int (nI at9), .int (nI fl), .int pl, .int (nI wr), .ref e5]))]) hD hS hA [0] rfl
    refine zc_Mi (va_runV (As := [.int (nI 0)]) (rest := []) ⟨hx, hb, hml, hown, hw⟩ (c_goes_0 l dC dI m0 n0 n1 n2 cd dt e0 e1 rt e2 e3 e4 sz9 at9 fl pl wr e5 cI cB s.heap.size) (cwV 1 hw (gV w_ml_M_50 w_im_M_goes w_se_M_goes w_in_M w_co_M_goes) rfl rfl rfl (by decide +kernel) ⟨Nat.le_of_ble_eq_true rfl, Nat.le_of_ble_eq_true rfl⟩) (zM_V hG hS hFc hPc hDc hK 0 rfl rfl) rfl rfl hl.1 rfl (lv_room (Nat.le_of_ble_eq_true rfl)) dM_trim_18 ⟨Nat.le_of_ble_eq_true rfl, Nat.le_of_ble_eq_true rfl⟩) hS hFc (fun r_1 H locs h_18 hP1 hD1 hk1 hS => ?_)
    obtain ⟨hP, hD⟩ := va_join (wr := []) (w1 := [(m0, .inr (4, [.ref n0, .ref n1, .ref n2, .int (nI 1), .int (nI dt), .ref e0, .ref e1, .int (nI rt), .ref e2, .ref e3, .ref e4, .int (nI sz9), .int (nI at9), .int (nI fl), .int pl, .int (nI wr), .ref e5]))]) hP hD [0] [] rfl rfl (by decide) (by decide) hk1 hFc hP1 hD1
    have hP : va_P (dC, dI) vwCl [(m0, .inr (4, [.ref n0, .ref n1, .ref n2, .int (nI 1), .int (nI dt), .ref e0, .ref e1, .int (nI rt), .ref e2, .ref e3, .ref e4, .int (nI sz9), .int (nI at9), .int (nI fl), .int pl, .int (nI wr), .ref e5]))] H := hP
    have hD : va_D A [(m0, .inr (4, [.ref n0, .ref n1, .ref n2, .int (nI 1), .int (nI dt), .ref e0, .ref e1, .int (nI rt), .ref e2, .ref e3, .ref e4, .int (nI sz9), .int (nI at9), .int (nI fl), .int pl, .int (nI wr), .ref e5]))] := hD
    subst h_18
    refine lv_if_ne (tgt := 26) hx hb dM_trim_21 (by decide) (fun q => False.elim (absurd q (by decide))) (fun c_21 => ?_)
    refine lv_iconst (v := nI 0) hx hb dM_trim_24 (by decide) ?_
    subst hAe
    subst hQ
    exact W.iret (v := nI 0) hx hb hr (fun t ht hW => ⟨⟨nI 0, (), rfl, rfl, by rw [ht]; exact hP.sub [0] rfl, hD.sub [0] (by decide) rfl⟩, hS.F ht⟩) hS.2.2 dM_trim_25
  · refine lv_iload_n hx hb dM_trim_5 rfl (lv_at hl 1 rfl) ?_
    refine lv_aload_n hx hb dM_trim_6 rfl (lv_at hl 0 rfl) ?_
    refine va_get (D := (dC, dI)) (ci := 4) (v := .int (nI sz9)) (C := RM) (T := TM) (N := 17) hx hb hw inM hown hK hP 0 rfl rfl 11 (by decide) (hw _ w_fl_M_99) (fun _ h9 => h9) rfl dM_trim_7 ?_
    refine lv_icmp_gt (tgt := 17) hx hb dM_trim_10 (by decide) (fun c_10 => ?_) (fun q => False.elim ((hx9.elim c_2 q)))
    refine lv_iconst (v := nI 0) hx hb dM_trim_17 (by decide) ?_
    have hPc := hP.sub (ws' := [(m0, .inr (4, [.ref n0, .ref n1, .ref n2, .int (nI cd), .int (nI dt), .ref e0, .ref e1, .int (nI rt), .ref e2, .ref e3, .ref e4, .int (nI sz9), .int (nI at9), .int (nI fl), .int pl, .int (nI wr), .ref e5]))]) [0] rfl
    have hDc := hD.sub (ws' := [(m0, .inr (4, [.ref n0, .ref n1, .ref n2, .int (nI cd), .int (nI dt), .ref e0, .ref e1, .int (nI rt), .ref e2, .ref e3, .ref e4, .int (nI sz9), .int (nI at9), .int (nI fl), .int pl, .int (nI wr), .ref e5]))]) [0] (by decide) rfl
    have hFc := va_free (wc := [(m0, .inr (4, [.ref n0, .ref n1, .ref n2, .int (nI cd), .int (nI dt), .ref e0, .ref e1, .int (nI rt), .ref e2, .ref e3, .ref e4, .int (nI sz9), .int (nI at9), .int (nI fl), .int pl, .int (nI wr), .ref e5]))]) hD hS hA [0] rfl
    refine zc_Mi (va_runV (As := [.int (nI 0)]) (rest := []) ⟨hx, hb, hml, hown, hw⟩ (c_goes_0 l dC dI m0 n0 n1 n2 cd dt e0 e1 rt e2 e3 e4 sz9 at9 fl pl wr e5 cI cB s.heap.size) (cwV 1 hw (gV w_ml_M_50 w_im_M_goes w_se_M_goes w_in_M w_co_M_goes) rfl rfl rfl (by decide +kernel) ⟨Nat.le_of_ble_eq_true rfl, Nat.le_of_ble_eq_true rfl⟩) (zM_V hG hS hFc hPc hDc hK 0 rfl rfl) rfl rfl hl.1 rfl (lv_room (Nat.le_of_ble_eq_true rfl)) dM_trim_18 ⟨Nat.le_of_ble_eq_true rfl, Nat.le_of_ble_eq_true rfl⟩) hS hFc (fun r_2 H locs h_18 hP1 hD1 hk1 hS => ?_)
    obtain ⟨hP, hD⟩ := va_join (wr := []) (w1 := [(m0, .inr (4, [.ref n0, .ref n1, .ref n2, .int (nI 1), .int (nI dt), .ref e0, .ref e1, .int (nI rt), .ref e2, .ref e3, .ref e4, .int (nI sz9), .int (nI at9), .int (nI fl), .int pl, .int (nI wr), .ref e5]))]) hP hD [0] [] rfl rfl (by decide) (by decide) hk1 hFc hP1 hD1
    have hP : va_P (dC, dI) vwCl [(m0, .inr (4, [.ref n0, .ref n1, .ref n2, .int (nI 1), .int (nI dt), .ref e0, .ref e1, .int (nI rt), .ref e2, .ref e3, .ref e4, .int (nI sz9), .int (nI at9), .int (nI fl), .int pl, .int (nI wr), .ref e5]))] H := hP
    have hD : va_D A [(m0, .inr (4, [.ref n0, .ref n1, .ref n2, .int (nI 1), .int (nI dt), .ref e0, .ref e1, .int (nI rt), .ref e2, .ref e3, .ref e4, .int (nI sz9), .int (nI at9), .int (nI fl), .int pl, .int (nI wr), .ref e5]))] := hD
    subst h_18
    refine lv_if_ne (tgt := 26) hx hb dM_trim_21 (by decide) (fun q => False.elim (absurd q (by decide))) (fun c_21 => ?_)
    refine lv_iconst (v := nI 0) hx hb dM_trim_24 (by decide) ?_
    subst hAe
    subst hQ
    exact W.iret (v := nI 0) hx hb hr (fun t ht hW => ⟨⟨nI 0, (), rfl, rfl, by rw [ht]; exact hP.sub [0] rfl, hD.sub [0] (by decide) rfl⟩, hS.F ht⟩) hS.2.2 dM_trim_25
def rm_c_Mspoil_ok : Room := ({ frames := 1, cells := 0, slots := 0, locals := 21 } : Room)
set_option maxHeartbeats 4000000 in
set_option maxRecDepth 100000 in
theorem c_Mspoil_ok (l : Launch) (dC : Nat → ClassId) (dI : Nat → Nat → Nat) (m0 : Nat) (n0 : Nat) (n1 : Nat) (n2 : Nat) (cd : Nat) (dt : Nat) (e0 : Nat) (e1 : Nat) (rt : Nat) (e2 : Nat) (e3 : Nat) (e4 : Nat) (sz9 : Nat) (at9 : Nat) (fl : Nat) (pl : Int32) (wr : Nat) (e5 : Nat) (cI : ClassId) (cB : ClassId) (tp : Nat → Nat) (i : Nat) (x : Nat) (hsz : sz9 ≤ 400) (hi : i < sz9) (hx9 : x ≤ 255) (sz : Nat) : Met l yM_spoil wsM_spoil rm_c_Mspoil_ok (zM (dC, dI) [(cI, .int), (cB, .byte)] [.ref m0, .int (nI i), .int (nI x)] [(m0, .inr (4, [.ref n0, .ref n1, .ref n2, .int (nI cd), .int (nI dt), .ref e0, .ref e1, .int (nI rt), .ref e2, .ref e3, .ref e4, .int (nI sz9), .int (nI at9), .int (nI fl), .int pl, .int (nI wr), .ref e5])), (e4, .inl (cI, 400, .inl (aN tp)))] sz) (zMi (dC, dI) [(m0, .inr (4, [.ref n0, .ref n1, .ref n2, .int (nI cd), .int (nI dt), .ref e0, .ref e1, .int (nI rt), .ref e2, .ref e3, .ref e4, .int (nI sz9), .int (nI at9), .int (nI fl), .int pl, .int (nI wr), .ref e5])), (e4, .inl (cI, 400, .inl (aN tp)))] [(m0, .inr (4, [.ref n0, .ref n1, .ref n2, .int (nI 0), .int (nI dt), .ref e0, .ref e1, .int (nI rt), .ref e2, .ref e3, .ref e4, .int (nI sz9), .int (nI at9), .int (nI fl), .int pl, .int (nI wr), .ref e5])), (e4, .inl (cI, 400, .inl (aN (nup tp i (tp i ^^^ x)))))] sz (fun r => r = nI (tp i ^^^ x))) 0 0 (va_A [(m0, .inr (4, [.ref n0, .ref n1, .ref n2, .int (nI cd), .int (nI dt), .ref e0, .ref e1, .int (nI rt), .ref e2, .ref e3, .ref e4, .int (nI sz9), .int (nI at9), .int (nI fl), .int pl, .int (nI wr), .ref e5])), (e4, .inl (cI, 400, .inl (aN tp)))] sz) := by
  refine Met.ofW (cc := cM_spoil) (maxL := 3) (ret := (some .int)) (by decide) rfl ?_
  intro p e s m args below meth c s₁ Bd hml hv
  obtain ⟨rfl, hsz, hG, hP, hK, hD0⟩ := hv
  subst hsz
  have hx := Bd.exec
  have hb := Bd.bytes
  have hr := Bd.returns
  have hts := atoms_spec (ws := wsM_spoil) Bd.pre
  have hw : ∀ w ∈ BIG, w.before _ s = true := fun w h => hts w (List.mem_cons_of_mem _ h)
  have hown : s.vm.findClass RM = some m.cls := findClass_of_methodNamed Bd.named
  have hlocks := Bd.notSynchronized
  have hD := hD0.self (sz := s.heap.size)
  obtain ⟨A, hAe⟩ : ∃ A, A = va_A [(m0, .inr (4, [.ref n0, .ref n1, .ref n2, .int (nI cd), .int (nI dt), .ref e0, .ref e1, .int (nI rt), .ref e2, .ref e3, .ref e4, .int (nI sz9), .int (nI at9), .int (nI fl), .int pl, .int (nI wr), .ref e5])), (e4, .inl (cI, 400, .inl (aN tp)))] s.heap.size := ⟨_, rfl⟩
  have hA : ∀ q : Nat, s.heap.size ≤ q → A q := fun q h => by rw [hAe]; exact Or.inr h
  rw [← hAe] at hG hD
  have hS : va_S A s.heap s.heap [] := va_S.rf
  have hl := lv_entry ([.ref m0, .int (nI i), .int (nI x)]) (n := 3) (Nat.le_of_ble_eq_true rfl)
  rw [lg_entry_eq]
  generalize (lg_sl ([.ref m0, .int (nI i), .int (nI x)]) ++ List.replicate (3 - (lg_sl ([.ref m0, .int (nI i), .int (nI x)])).length) Slot.unset).toArray = ls at hl ⊢
  have hl : lv_has ls 3 [(0, .ref m0), (1, .int (nI i)), (2, .int (nI x))] := hl
  refine zq_name (fun Q hQ => ?_)
  change W p l e rm_c_Mspoil_ok s m _ below meth c _ _ _ _ Q _
  refine lv_aload_n hx hb dM_spoil_0 rfl (lv_at hl 0 rfl) ?_
  refine lv_iload_n hx hb dM_spoil_1 rfl (lv_at hl 1 rfl) ?_
  refine zi_lt0 (tgt := 28) hx hb (by omega) dM_spoil_2 (by decide) ?_
  refine lv_iload_n hx hb dM_spoil_5 rfl (lv_at hl 1 rfl) ?_
  refine lv_aload_n hx hb dM_spoil_6 rfl (lv_at hl 0 rfl) ?_
  refine va_get (D := (dC, dI)) (ci := 4) (v := .int (nI sz9)) (C := RM) (T := TM) (N := 17) hx hb hw inM hown hK hP 0 rfl rfl 11 (by decide) (hw _ w_fl_M_99) (fun _ h9 => h9) rfl dM_spoil_7 ?_
  refine zi_ge (tgt := 28) hx hb (by omega) (by omega) dM_spoil_10 (by decide) (fun q => False.elim ((by omega))) (fun c_10 => ?_)
  refine lv_iload_n hx hb dM_spoil_13 rfl (lv_at hl 2 rfl) ?_
  refine zi_lt0 (tgt := 28) hx hb (by omega) dM_spoil_14 (by decide) ?_
  refine lv_iload_n hx hb dM_spoil_17 rfl (lv_at hl 2 rfl) ?_
  refine lv_sipush (v := nI 255) hx hb dM_spoil_18 (by decide) ?_
  refine zi_gt (tgt := 28) hx hb (by omega) (by omega) dM_spoil_21 (by decide) (fun q => False.elim ((by omega))) (fun c_21 => ?_)
  refine lv_iconst (v := nI 1) hx hb dM_spoil_24 (by decide) ?_
  refine lv_goto (tgt := 29) hx hb dM_spoil_25 (by decide) ?_
  have hPc := hP.sub (ws' := [(m0, .inr (4, [.ref n0, .ref n1, .ref n2, .int (nI cd), .int (nI dt), .ref e0, .ref e1, .int (nI rt), .ref e2, .ref e3, .ref e4, .int (nI sz9), .int (nI at9), .int (nI fl), .int pl, .int (nI wr), .ref e5]))]) [0] rfl
  have hDc := hD.sub (ws' := [(m0, .inr (4, [.ref n0, .ref n1, .ref n2, .int (nI cd), .int (nI dt), .ref e0, .ref e1, .int (nI rt), .ref e2, .ref e3, .ref e4, .int (nI sz9), .int (nI at9), .int (nI fl), .int pl, .int (nI wr), .ref e5]))]) [0] (by decide) rfl
  have hFc := va_free (wc := [(m0, .inr (4, [.ref n0, .ref n1, .ref n2, .int (nI cd), .int (nI dt), .ref e0, .ref e1, .int (nI rt), .ref e2, .ref e3, .ref e4, .int (nI sz9), .int (nI at9), .int (nI fl), .int pl, .int (nI wr), .ref e5]))]) hD hS hA [0] rfl
  refine zc_Mi (va_runV (As := [.int (nI 1)]) (rest := []) ⟨hx, hb, hml, hown, hw⟩ (c_goes_1 l dC dI m0 n0 n1 n2 cd dt e0 e1 rt e2 e3 e4 sz9 at9 fl pl wr e5 cI cB s.heap.size) (cwV 1 hw (gV w_ml_M_50 w_im_M_goes w_se_M_goes w_in_M w_co_M_goes) rfl rfl rfl (by decide +kernel) ⟨Nat.le_of_ble_eq_true rfl, Nat.le_of_ble_eq_true rfl⟩) (zM_V hG hS hFc hPc hDc hK 0 rfl rfl) rfl rfl hl.1 rfl (lv_room (Nat.le_of_ble_eq_true rfl)) dM_spoil_29 ⟨Nat.le_of_ble_eq_true rfl, Nat.le_of_ble_eq_true rfl⟩) hS hFc (fun r_1 H locs h_29 hP1 hD1 hk1 hS => ?_)
  obtain ⟨hP, hD⟩ := va_join (wr := [(e4, .inl (cI, 400, .inl (aN tp)))]) (w1 := [(m0, .inr (4, [.ref n0, .ref n1, .ref n2, .int (nI 0), .int (nI dt), .ref e0, .ref e1, .int (nI rt), .ref e2, .ref e3, .ref e4, .int (nI sz9), .int (nI at9), .int (nI fl), .int pl, .int (nI wr), .ref e5]))]) hP hD [0] [1] rfl rfl (by decide) (by decide) hk1 hFc hP1 hD1
  have hP : va_P (dC, dI) vwCl [(e4, .inl (cI, 400, .inl (aN tp))), (m0, .inr (4, [.ref n0, .ref n1, .ref n2, .int (nI 0), .int (nI dt), .ref e0, .ref e1, .int (nI rt), .ref e2, .ref e3, .ref e4, .int (nI sz9), .int (nI at9), .int (nI fl), .int pl, .int (nI wr), .ref e5]))] H := hP
  have hD : va_D A [(e4, .inl (cI, 400, .inl (aN tp))), (m0, .inr (4, [.ref n0, .ref n1, .ref n2, .int (nI 0), .int (nI dt), .ref e0, .ref e1, .int (nI rt), .ref e2, .ref e3, .ref e4, .int (nI sz9), .int (nI at9), .int (nI fl), .int pl, .int (nI wr), .ref e5]))] := hD
  subst h_29
  refine lv_if_ne (tgt := 37) hx hb dM_spoil_32 (by decide) (fun c_32 => ?_) (fun q => False.elim (absurd q (by decide)))
  refine lv_aload_n hx hb dM_spoil_37 rfl (lv_at hl 0 rfl) ?_
  refine va_get (D := (dC, dI)) (ci := 4) (v := .ref e4) (C := RM) (T := TM) (N := 17) hx hb hw inM hown hK hP 1 rfl rfl 10 (by decide) (hw _ w_fl_M_35) (fun _ h9 => h9) rfl dM_spoil_38 ?_
  refine lv_iload_n hx hb dM_spoil_41 rfl (lv_at hl 1 rfl) ?_
  refine lv_dup2_11 hx hb dM_spoil_42 rfl rfl ?_
  refine za_ild hx hb hK hP 0 0 rfl rfl (by omega) (by decide) dM_spoil_43 ?_
  refine lv_iload_n hx hb dM_spoil_44 rfl (lv_at hl 2 rfl) ?_
  refine lv_ixor hx hb dM_spoil_45 ?_
  refine zi_v (b := nI ((tp i) ^^^ x)) (nI_xor _ _) ?_
  refine za_ist hx hb hK hP hD hS 0 0 rfl rfl (by omega) (by decide) dM_spoil_46 (fun H locs hP hD hS => ?_)
  have hP : va_P (dC, dI) vwCl [(e4, .inl (cI, 400, .inl (aN (nup tp i ((tp i) ^^^ x))))), (m0, .inr (4, [.ref n0, .ref n1, .ref n2, .int (nI 0), .int (nI dt), .ref e0, .ref e1, .int (nI rt), .ref e2, .ref e3, .ref e4, .int (nI sz9), .int (nI at9), .int (nI fl), .int pl, .int (nI wr), .ref e5]))] H := hP
  have hD : va_D A [(e4, .inl (cI, 400, .inl (aN (nup tp i ((tp i) ^^^ x))))), (m0, .inr (4, [.ref n0, .ref n1, .ref n2, .int (nI 0), .int (nI dt), .ref e0, .ref e1, .int (nI rt), .ref e2, .ref e3, .ref e4, .int (nI sz9), .int (nI at9), .int (nI fl), .int pl, .int (nI wr), .ref e5]))] := hD
  refine lv_aload_n hx hb dM_spoil_47 rfl (lv_at hl 0 rfl) ?_
  refine va_get (D := (dC, dI)) (ci := 4) (v := .ref e4) (C := RM) (T := TM) (N := 17) hx hb hw inM hown hK hP 1 rfl rfl 10 (by decide) (hw _ w_fl_M_35) (fun _ h9 => h9) rfl dM_spoil_48 ?_
  refine lv_iload_n hx hb dM_spoil_51 rfl (lv_at hl 1 rfl) ?_
  refine za_ild hx hb hK hP 0 0 rfl rfl (by omega) (by decide) dM_spoil_52 ?_
  subst hAe
  subst hQ
  exact W.iret (v := nI ((nup tp i ((tp i) ^^^ x)) i)) hx hb hr (fun t ht hW => ⟨⟨nI ((nup tp i ((tp i) ^^^ x)) i), (), rfl, (by rw [nup_s]), by rw [ht]; exact hP.sub [1, 0] rfl, hD.sub [1, 0] (by decide) rfl⟩, hS.F ht⟩) hS.2.2 dM_spoil_53
def rm_c_Mspoil_no : Room := ({ frames := 1, cells := 0, slots := 0, locals := 21 } : Room)
set_option maxHeartbeats 4000000 in
set_option maxRecDepth 100000 in
theorem c_Mspoil_no (l : Launch) (dC : Nat → ClassId) (dI : Nat → Nat → Nat) (m0 : Nat) (n0 : Nat) (n1 : Nat) (n2 : Nat) (cd : Nat) (dt : Nat) (e0 : Nat) (e1 : Nat) (rt : Nat) (e2 : Nat) (e3 : Nat) (e4 : Nat) (sz9 : Nat) (at9 : Nat) (fl : Nat) (pl : Int32) (wr : Nat) (e5 : Nat) (cI : ClassId) (cB : ClassId) (x1 : Int32) (x2 : Int32) (hx9 : x1 < 0 ∨ nI sz9 ≤ x1 ∨ x2 < 0 ∨ nI 255 < x2) (sz : Nat) : Met l yM_spoil wsM_spoil rm_c_Mspoil_no (zM (dC, dI) [(cI, .int), (cB, .byte)] [.ref m0, .int x1, .int x2] [(m0, .inr (4, [.ref n0, .ref n1, .ref n2, .int (nI cd), .int (nI dt), .ref e0, .ref e1, .int (nI rt), .ref e2, .ref e3, .ref e4, .int (nI sz9), .int (nI at9), .int (nI fl), .int pl, .int (nI wr), .ref e5]))] sz) (zMi (dC, dI) [(m0, .inr (4, [.ref n0, .ref n1, .ref n2, .int (nI cd), .int (nI dt), .ref e0, .ref e1, .int (nI rt), .ref e2, .ref e3, .ref e4, .int (nI sz9), .int (nI at9), .int (nI fl), .int pl, .int (nI wr), .ref e5]))] [(m0, .inr (4, [.ref n0, .ref n1, .ref n2, .int (nI 1), .int (nI dt), .ref e0, .ref e1, .int (nI rt), .ref e2, .ref e3, .ref e4, .int (nI sz9), .int (nI at9), .int (nI fl), .int pl, .int (nI wr), .ref e5]))] sz (fun r => r = nI 0)) 0 0 (va_A [(m0, .inr (4, [.ref n0, .ref n1, .ref n2, .int (nI cd), .int (nI dt), .ref e0, .ref e1, .int (nI rt), .ref e2, .ref e3, .ref e4, .int (nI sz9), .int (nI at9), .int (nI fl), .int pl, .int (nI wr), .ref e5]))] sz) := by
  refine Met.ofW (cc := cM_spoil) (maxL := 3) (ret := (some .int)) (by decide) rfl ?_
  intro p e s m args below meth c s₁ Bd hml hv
  obtain ⟨rfl, hsz, hG, hP, hK, hD0⟩ := hv
  subst hsz
  have hx := Bd.exec
  have hb := Bd.bytes
  have hr := Bd.returns
  have hts := atoms_spec (ws := wsM_spoil) Bd.pre
  have hw : ∀ w ∈ BIG, w.before _ s = true := fun w h => hts w (List.mem_cons_of_mem _ h)
  have hown : s.vm.findClass RM = some m.cls := findClass_of_methodNamed Bd.named
  have hlocks := Bd.notSynchronized
  have hD := hD0.self (sz := s.heap.size)
  obtain ⟨A, hAe⟩ : ∃ A, A = va_A [(m0, .inr (4, [.ref n0, .ref n1, .ref n2, .int (nI cd), .int (nI dt), .ref e0, .ref e1, .int (nI rt), .ref e2, .ref e3, .ref e4, .int (nI sz9), .int (nI at9), .int (nI fl), .int pl, .int (nI wr), .ref e5]))] s.heap.size := ⟨_, rfl⟩
  have hA : ∀ q : Nat, s.heap.size ≤ q → A q := fun q h => by rw [hAe]; exact Or.inr h
  rw [← hAe] at hG hD
  have hS : va_S A s.heap s.heap [] := va_S.rf
  have hl := lv_entry ([.ref m0, .int x1, .int x2]) (n := 3) (Nat.le_of_ble_eq_true rfl)
  rw [lg_entry_eq]
  generalize (lg_sl ([.ref m0, .int x1, .int x2]) ++ List.replicate (3 - (lg_sl ([.ref m0, .int x1, .int x2])).length) Slot.unset).toArray = ls at hl ⊢
  have hl : lv_has ls 3 [(0, .ref m0), (1, .int x1), (2, .int x2)] := hl
  refine zq_name (fun Q hQ => ?_)
  change W p l e rm_c_Mspoil_no s m _ below meth c _ _ _ _ Q _
  refine lv_aload_n hx hb dM_spoil_0 rfl (lv_at hl 0 rfl) ?_
  refine lv_iload_n hx hb dM_spoil_1 rfl (lv_at hl 1 rfl) ?_
  refine lv_if_lt (tgt := 28) hx hb dM_spoil_2 (by decide) (fun c_2 => ?_) (fun c_2 => ?_)
  · refine lv_iconst (v := nI 0) hx hb dM_spoil_28 (by decide) ?_
    have hPc := hP.sub (ws' := [(m0, .inr (4, [.ref n0, .ref n1, .ref n2, .int (nI cd), .int (nI dt), .ref e0, .ref e1, .int (nI rt), .ref e2, .ref e3, .ref e4, .int (nI sz9), .int (nI at9), .int (nI fl), .int pl, .int (nI wr), .ref e5]))]) [0] rfl
    have hDc := hD.sub (ws' := [(m0, .inr (4, [.ref n0, .ref n1, .ref n2, .int (nI cd), .int (nI dt), .ref e0, .ref e1, .int (nI rt), .ref e2, .ref e3, .ref e4, .int (nI sz9), .int (nI at9), .int (nI fl), .int pl, .int (nI wr), .ref e5]))]) [0] (by decide) rfl
    have hFc := va_free (wc := [(m0, .inr (4, [.ref n0, .ref n1, .ref n2, .int (nI cd), .int (nI dt), .ref e0, .ref e1, .int (nI rt), .ref e2, .ref e3, .ref e4, .int (nI sz9), .int (nI at9), .int (nI fl), .int pl, .int (nI wr), .ref e5]))]) hD hS hA [0] rfl
    refine zc_Mi (va_runV (As := [.int (nI 0)]) (rest := []) ⟨hx, hb, hml, hown, hw⟩ (c_goes_0 l dC dI m0 n0 n1 n2 cd dt e0 e1 rt e2 e3 e4 sz9 at9 fl pl wr e5 cI cB s.heap.size) (cwV 1 hw (gV w_ml_M_50 w_im_M_goes w_se_M_goes w_in_M w_co_M_goes) rfl rfl rfl (by decide +kernel) ⟨Nat.le_of_ble_eq_true rfl, Nat.le_of_ble_eq_true rfl⟩) (zM_V hG hS hFc hPc hDc hK 0 rfl rfl) rfl rfl hl.1 rfl (lv_room (Nat.le_of_ble_eq_true rfl)) dM_spoil_29 ⟨Nat.le_of_ble_eq_true rfl, Nat.le_of_ble_eq_true rfl⟩) hS hFc (fun r_1 H locs h_29 hP1 hD1 hk1 hS => ?_)
    obtain ⟨hP, hD⟩ := va_join (wr := []) (w1 := [(m0, .inr (4, [.ref n0, .ref n1, .ref n2, .int (nI 1), .int (nI dt), .ref e0, .ref e1, .int (nI rt), .ref e2, .ref e3, .ref e4, .int (nI sz9), .int (nI at9), .int (nI fl), .int pl, .int (nI wr), .ref e5]))]) hP hD [0] [] rfl rfl (by decide) (by decide) hk1 hFc hP1 hD1
    have hP : va_P (dC, dI) vwCl [(m0, .inr (4, [.ref n0, .ref n1, .ref n2, .int (nI 1), .int (nI dt), .ref e0, .ref e1, .int (nI rt), .ref e2, .ref e3, .ref e4, .int (nI sz9), .int (nI at9), .int (nI fl), .int pl, .int (nI wr), .ref e5]))] H := hP
    have hD : va_D A [(m0, .inr (4, [.ref n0, .ref n1, .ref n2, .int (nI 1), .int (nI dt), .ref e0, .ref e1, .int (nI rt), .ref e2, .ref e3, .ref e4, .int (nI sz9), .int (nI at9), .int (nI fl), .int pl, .int (nI wr), .ref e5]))] := hD
    subst h_29
    refine lv_if_ne (tgt := 37) hx hb dM_spoil_32 (by decide) (fun q => False.elim (absurd q (by decide))) (fun c_32 => ?_)
    refine lv_iconst (v := nI 0) hx hb dM_spoil_35 (by decide) ?_
    subst hAe
    subst hQ
    exact W.iret (v := nI 0) hx hb hr (fun t ht hW => ⟨⟨nI 0, (), rfl, rfl, by rw [ht]; exact hP.sub [0] rfl, hD.sub [0] (by decide) rfl⟩, hS.F ht⟩) hS.2.2 dM_spoil_36
  · refine lv_iload_n hx hb dM_spoil_5 rfl (lv_at hl 1 rfl) ?_
    refine lv_aload_n hx hb dM_spoil_6 rfl (lv_at hl 0 rfl) ?_
    refine va_get (D := (dC, dI)) (ci := 4) (v := .int (nI sz9)) (C := RM) (T := TM) (N := 17) hx hb hw inM hown hK hP 0 rfl rfl 11 (by decide) (hw _ w_fl_M_99) (fun _ h9 => h9) rfl dM_spoil_7 ?_
    refine lv_icmp_ge (tgt := 28) hx hb dM_spoil_10 (by decide) (fun c_10 => ?_) (fun c_10 => ?_)
    · refine lv_iconst (v := nI 0) hx hb dM_spoil_28 (by decide) ?_
      have hPc := hP.sub (ws' := [(m0, .inr (4, [.ref n0, .ref n1, .ref n2, .int (nI cd), .int (nI dt), .ref e0, .ref e1, .int (nI rt), .ref e2, .ref e3, .ref e4, .int (nI sz9), .int (nI at9), .int (nI fl), .int pl, .int (nI wr), .ref e5]))]) [0] rfl
      have hDc := hD.sub (ws' := [(m0, .inr (4, [.ref n0, .ref n1, .ref n2, .int (nI cd), .int (nI dt), .ref e0, .ref e1, .int (nI rt), .ref e2, .ref e3, .ref e4, .int (nI sz9), .int (nI at9), .int (nI fl), .int pl, .int (nI wr), .ref e5]))]) [0] (by decide) rfl
      have hFc := va_free (wc := [(m0, .inr (4, [.ref n0, .ref n1, .ref n2, .int (nI cd), .int (nI dt), .ref e0, .ref e1, .int (nI rt), .ref e2, .ref e3, .ref e4, .int (nI sz9), .int (nI at9), .int (nI fl), .int pl, .int (nI wr), .ref e5]))]) hD hS hA [0] rfl
      refine zc_Mi (va_runV (As := [.int (nI 0)]) (rest := []) ⟨hx, hb, hml, hown, hw⟩ (c_goes_0 l dC dI m0 n0 n1 n2 cd dt e0 e1 rt e2 e3 e4 sz9 at9 fl pl wr e5 cI cB s.heap.size) (cwV 1 hw (gV w_ml_M_50 w_im_M_goes w_se_M_goes w_in_M w_co_M_goes) rfl rfl rfl (by decide +kernel) ⟨Nat.le_of_ble_eq_true rfl, Nat.le_of_ble_eq_true rfl⟩) (zM_V hG hS hFc hPc hDc hK 0 rfl rfl) rfl rfl hl.1 rfl (lv_room (Nat.le_of_ble_eq_true rfl)) dM_spoil_29 ⟨Nat.le_of_ble_eq_true rfl, Nat.le_of_ble_eq_true rfl⟩) hS hFc (fun r_2 H locs h_29 hP1 hD1 hk1 hS => ?_)
      obtain ⟨hP, hD⟩ := va_join (wr := []) (w1 := [(m0, .inr (4, [.ref n0, .ref n1, .ref n2, .int (nI 1), .int (nI dt), .ref e0, .ref e1, .int (nI rt), .ref e2, .ref e3, .ref e4, .int (nI sz9), .int (nI at9), .int (nI fl), .int pl, .int (nI wr), .ref e5]))]) hP hD [0] [] rfl rfl (by decide) (by decide) hk1 hFc hP1 hD1
      have hP : va_P (dC, dI) vwCl [(m0, .inr (4, [.ref n0, .ref n1, .ref n2, .int (nI 1), .int (nI dt), .ref e0, .ref e1, .int (nI rt), .ref e2, .ref e3, .ref e4, .int (nI sz9), .int (nI at9), .int (nI fl), .int pl, .int (nI wr), .ref e5]))] H := hP
      have hD : va_D A [(m0, .inr (4, [.ref n0, .ref n1, .ref n2, .int (nI 1), .int (nI dt), .ref e0, .ref e1, .int (nI rt), .ref e2, .ref e3, .ref e4, .int (nI sz9), .int (nI at9), .int (nI fl), .int pl, .int (nI wr), .ref e5]))] := hD
      subst h_29
      refine lv_if_ne (tgt := 37) hx hb dM_spoil_32 (by decide) (fun q => False.elim (absurd q (by decide))) (fun c_32 => ?_)
      refine lv_iconst (v := nI 0) hx hb dM_spoil_35 (by decide) ?_
      subst hAe
      subst hQ
      exact W.iret (v := nI 0) hx hb hr (fun t ht hW => ⟨⟨nI 0, (), rfl, rfl, by rw [ht]; exact hP.sub [0] rfl, hD.sub [0] (by decide) rfl⟩, hS.F ht⟩) hS.2.2 dM_spoil_36
    · refine lv_iload_n hx hb dM_spoil_13 rfl (lv_at hl 2 rfl) ?_
      refine lv_if_lt (tgt := 28) hx hb dM_spoil_14 (by decide) (fun c_14 => ?_) (fun c_14 => ?_)
      · refine lv_iconst (v := nI 0) hx hb dM_spoil_28 (by decide) ?_
        have hPc := hP.sub (ws' := [(m0, .inr (4, [.ref n0, .ref n1, .ref n2, .int (nI cd), .int (nI dt), .ref e0, .ref e1, .int (nI rt), .ref e2, .ref e3, .ref e4, .int (nI sz9), .int (nI at9), .int (nI fl), .int pl, .int (nI wr), .ref e5]))]) [0] rfl
        have hDc := hD.sub (ws' := [(m0, .inr (4, [.ref n0, .ref n1, .ref n2, .int (nI cd), .int (nI dt), .ref e0, .ref e1, .int (nI rt), .ref e2, .ref e3, .ref e4, .int (nI sz9), .int (nI at9), .int (nI fl), .int pl, .int (nI wr), .ref e5]))]) [0] (by decide) rfl
        have hFc := va_free (wc := [(m0, .inr (4, [.ref n0, .ref n1, .ref n2, .int (nI cd), .int (nI dt), .ref e0, .ref e1, .int (nI rt), .ref e2, .ref e3, .ref e4, .int (nI sz9), .int (nI at9), .int (nI fl), .int pl, .int (nI wr), .ref e5]))]) hD hS hA [0] rfl
        refine zc_Mi (va_runV (As := [.int (nI 0)]) (rest := []) ⟨hx, hb, hml, hown, hw⟩ (c_goes_0 l dC dI m0 n0 n1 n2 cd dt e0 e1 rt e2 e3 e4 sz9 at9 fl pl wr e5 cI cB s.heap.size) (cwV 1 hw (gV w_ml_M_50 w_im_M_goes w_se_M_goes w_in_M w_co_M_goes) rfl rfl rfl (by decide +kernel) ⟨Nat.le_of_ble_eq_true rfl, Nat.le_of_ble_eq_true rfl⟩) (zM_V hG hS hFc hPc hDc hK 0 rfl rfl) rfl rfl hl.1 rfl (lv_room (Nat.le_of_ble_eq_true rfl)) dM_spoil_29 ⟨Nat.le_of_ble_eq_true rfl, Nat.le_of_ble_eq_true rfl⟩) hS hFc (fun r_3 H locs h_29 hP1 hD1 hk1 hS => ?_)
        obtain ⟨hP, hD⟩ := va_join (wr := []) (w1 := [(m0, .inr (4, [.ref n0, .ref n1, .ref n2, .int (nI 1), .int (nI dt), .ref e0, .ref e1, .int (nI rt), .ref e2, .ref e3, .ref e4, .int (nI sz9), .int (nI at9), .int (nI fl), .int pl, .int (nI wr), .ref e5]))]) hP hD [0] [] rfl rfl (by decide) (by decide) hk1 hFc hP1 hD1
        have hP : va_P (dC, dI) vwCl [(m0, .inr (4, [.ref n0, .ref n1, .ref n2, .int (nI 1), .int (nI dt), .ref e0, .ref e1, .int (nI rt), .ref e2, .ref e3, .ref e4, .int (nI sz9), .int (nI at9), .int (nI fl), .int pl, .int (nI wr), .ref e5]))] H := hP
        have hD : va_D A [(m0, .inr (4, [.ref n0, .ref n1, .ref n2, .int (nI 1), .int (nI dt), .ref e0, .ref e1, .int (nI rt), .ref e2, .ref e3, .ref e4, .int (nI sz9), .int (nI at9), .int (nI fl), .int pl, .int (nI wr), .ref e5]))] := hD
        subst h_29
        refine lv_if_ne (tgt := 37) hx hb dM_spoil_32 (by decide) (fun q => False.elim (absurd q (by decide))) (fun c_32 => ?_)
        refine lv_iconst (v := nI 0) hx hb dM_spoil_35 (by decide) ?_
        subst hAe
        subst hQ
        exact W.iret (v := nI 0) hx hb hr (fun t ht hW => ⟨⟨nI 0, (), rfl, rfl, by rw [ht]; exact hP.sub [0] rfl, hD.sub [0] (by decide) rfl⟩, hS.F ht⟩) hS.2.2 dM_spoil_36
      · refine lv_iload_n hx hb dM_spoil_17 rfl (lv_at hl 2 rfl) ?_
        refine lv_sipush (v := nI 255) hx hb dM_spoil_18 (by decide) ?_
        refine lv_icmp_gt (tgt := 28) hx hb dM_spoil_21 (by decide) (fun c_21 => ?_) (fun q => False.elim ((by rcases hx9 with h | h | h | h <;> contradiction)))
        refine lv_iconst (v := nI 0) hx hb dM_spoil_28 (by decide) ?_
        have hPc := hP.sub (ws' := [(m0, .inr (4, [.ref n0, .ref n1, .ref n2, .int (nI cd), .int (nI dt), .ref e0, .ref e1, .int (nI rt), .ref e2, .ref e3, .ref e4, .int (nI sz9), .int (nI at9), .int (nI fl), .int pl, .int (nI wr), .ref e5]))]) [0] rfl
        have hDc := hD.sub (ws' := [(m0, .inr (4, [.ref n0, .ref n1, .ref n2, .int (nI cd), .int (nI dt), .ref e0, .ref e1, .int (nI rt), .ref e2, .ref e3, .ref e4, .int (nI sz9), .int (nI at9), .int (nI fl), .int pl, .int (nI wr), .ref e5]))]) [0] (by decide) rfl
        have hFc := va_free (wc := [(m0, .inr (4, [.ref n0, .ref n1, .ref n2, .int (nI cd), .int (nI dt), .ref e0, .ref e1, .int (nI rt), .ref e2, .ref e3, .ref e4, .int (nI sz9), .int (nI at9), .int (nI fl), .int pl, .int (nI wr), .ref e5]))]) hD hS hA [0] rfl
        refine zc_Mi (va_runV (As := [.int (nI 0)]) (rest := []) ⟨hx, hb, hml, hown, hw⟩ (c_goes_0 l dC dI m0 n0 n1 n2 cd dt e0 e1 rt e2 e3 e4 sz9 at9 fl pl wr e5 cI cB s.heap.size) (cwV 1 hw (gV w_ml_M_50 w_im_M_goes w_se_M_goes w_in_M w_co_M_goes) rfl rfl rfl (by decide +kernel) ⟨Nat.le_of_ble_eq_true rfl, Nat.le_of_ble_eq_true rfl⟩) (zM_V hG hS hFc hPc hDc hK 0 rfl rfl) rfl rfl hl.1 rfl (lv_room (Nat.le_of_ble_eq_true rfl)) dM_spoil_29 ⟨Nat.le_of_ble_eq_true rfl, Nat.le_of_ble_eq_true rfl⟩) hS hFc (fun r_4 H locs h_29 hP1 hD1 hk1 hS => ?_)
        obtain ⟨hP, hD⟩ := va_join (wr := []) (w1 := [(m0, .inr (4, [.ref n0, .ref n1, .ref n2, .int (nI 1), .int (nI dt), .ref e0, .ref e1, .int (nI rt), .ref e2, .ref e3, .ref e4, .int (nI sz9), .int (nI at9), .int (nI fl), .int pl, .int (nI wr), .ref e5]))]) hP hD [0] [] rfl rfl (by decide) (by decide) hk1 hFc hP1 hD1
        have hP : va_P (dC, dI) vwCl [(m0, .inr (4, [.ref n0, .ref n1, .ref n2, .int (nI 1), .int (nI dt), .ref e0, .ref e1, .int (nI rt), .ref e2, .ref e3, .ref e4, .int (nI sz9), .int (nI at9), .int (nI fl), .int pl, .int (nI wr), .ref e5]))] H := hP
        have hD : va_D A [(m0, .inr (4, [.ref n0, .ref n1, .ref n2, .int (nI 1), .int (nI dt), .ref e0, .ref e1, .int (nI rt), .ref e2, .ref e3, .ref e4, .int (nI sz9), .int (nI at9), .int (nI fl), .int pl, .int (nI wr), .ref e5]))] := hD
        subst h_29
        refine lv_if_ne (tgt := 37) hx hb dM_spoil_32 (by decide) (fun q => False.elim (absurd q (by decide))) (fun c_32 => ?_)
        refine lv_iconst (v := nI 0) hx hb dM_spoil_35 (by decide) ?_
        subst hAe
        subst hQ
        exact W.iret (v := nI 0) hx hb hr (fun t ht hW => ⟨⟨nI 0, (), rfl, rfl, by rw [ht]; exact hP.sub [0] rfl, hD.sub [0] (by decide) rfl⟩, hS.F ht⟩) hS.2.2 dM_spoil_36
def rm_c_Mwrite_two : Room := ({ frames := 2, cells := 0, slots := 0, locals := 53 } : Room)
set_option maxHeartbeats 4000000 in
set_option maxRecDepth 100000 in
theorem c_Mwrite_two (l : Launch) (dC : Nat → ClassId) (dI : Nat → Nat → Nat) (m0 : Nat) (n0 : Nat) (n1 : Nat) (n2 : Nat) (cd : Nat) (dt : Nat) (e0 : Nat) (e1 : Nat) (rt : Nat) (e2 : Nat) (e3 : Nat) (e4 : Nat) (sz9 : Nat) (at9 : Nat) (fl : Nat) (pl : Int32) (wr : Nat) (e5 : Nat) (cI : ClassId) (cB : ClassId) (dr : Nat → Nat) (g : Nat → Nat) (tp : Nat → Nat) (fw : Nat → Nat) (ty : Nat) (hty : ty < 10000) (hg : ∀ j, j < 16 → g j ≤ fMM j + 1) (hd9 : ∀ k, k < 16 → fHL k ≠ 0 → ∀ j, j < g k - 1 → dr (42 * k + j) < 2 ^ 31) (hd : s2L g 16 0 = true) (sz : Nat) : Met l yM_write wsM_write rm_c_Mwrite_two (zM (dC, dI) [(cI, .int), (cB, .byte)] [.ref m0, .int (nI ty), .ref e0, .ref e1, .ref e4] [(m0, .inr (4, [.ref n0, .ref n1, .ref n2, .int (nI cd), .int (nI dt), .ref e0, .ref e1, .int (nI rt), .ref e2, .ref e3, .ref e4, .int (nI sz9), .int (nI at9), .int (nI fl), .int pl, .int (nI wr), .ref e5])), (n0, .inl (cI, 16, .inl (aN fFI))), (n2, .inl (cI, 16, .inl (aN fFO))), (e0, .inl (cI, 672, .inl (aN dr))), (e1, .inl (cI, 16, .inl (aP g))), (e4, .inl (cI, 400, .inl (aN tp))), (e5, .inl (cI, 4, .inl (aN fw)))] sz) (zSv (dC, dI) [(m0, .inr (4, [.ref n0, .ref n1, .ref n2, .int (nI cd), .int (nI dt), .ref e0, .ref e1, .int (nI rt), .ref e2, .ref e3, .ref e4, .int (nI sz9), .int (nI at9), .int (nI fl), .int pl, .int (nI wr), .ref e5])), (n0, .inl (cI, 16, .inl (aN fFI))), (n2, .inl (cI, 16, .inl (aN fFO))), (e0, .inl (cI, 672, .inl (aN dr))), (e1, .inl (cI, 16, .inl (aP g))), (e4, .inl (cI, 400, .inl (aN tp))), (e5, .inl (cI, 4, .inl (aN fw)))] sz (fun (u : Nat → Nat) => True) (fun u => [(m0, .inr (4, [.ref n0, .ref n1, .ref n2, .int (nI cd), .int (nI dt), .ref e0, .ref e1, .int (nI rt), .ref e2, .ref e3, .ref e4, .int (nI sz9), .int (nI at9), .int (nI fl), .int pl, .int (nI (wrQ g dr 16 0 18)), .ref e5])), (n0, .inl (cI, 16, .inl (aN fFI))), (n2, .inl (cI, 16, .inl (aN fFO))), (e0, .inl (cI, 672, .inl (aN dr))), (e1, .inl (cI, 16, .inl (aP g))), (e4, .inl (cI, 400, .inl (aN (wrT g dr 16 0 18 (nup (apl (apl tp 0 (anb ty 4)) 2 (List.replicate 16 0)) 2 128))))), (e5, .inl (cI, 4, .inl (aN u)))])) 0 0 (va_A [(m0, .inr (4, [.ref n0, .ref n1, .ref n2, .int (nI cd), .int (nI dt), .ref e0, .ref e1, .int (nI rt), .ref e2, .ref e3, .ref e4, .int (nI sz9), .int (nI at9), .int (nI fl), .int pl, .int (nI wr), .ref e5])), (n0, .inl (cI, 16, .inl (aN fFI))), (n2, .inl (cI, 16, .inl (aN fFO))), (e0, .inl (cI, 672, .inl (aN dr))), (e1, .inl (cI, 16, .inl (aP g))), (e4, .inl (cI, 400, .inl (aN tp))), (e5, .inl (cI, 4, .inl (aN fw)))] sz) := by
  refine Met.ofW (cc := cM_write) (maxL := 8) (ret := none) (by decide) rfl ?_
  intro p e s m args below meth c s₁ Bd hml hv
  obtain ⟨rfl, hsz, hG, hP, hK, hD0⟩ := hv
  subst hsz
  have hx := Bd.exec
  have hb := Bd.bytes
  have hr := Bd.returns
  have hts := atoms_spec (ws := wsM_write) Bd.pre
  have hw : ∀ w ∈ BIG, w.before _ s = true := fun w h => hts w (List.mem_cons_of_mem _ h)
  have hown : s.vm.findClass RM = some m.cls := findClass_of_methodNamed Bd.named
  have hlocks := Bd.notSynchronized
  have hD := hD0.self (sz := s.heap.size)
  obtain ⟨A, hAe⟩ : ∃ A, A = va_A [(m0, .inr (4, [.ref n0, .ref n1, .ref n2, .int (nI cd), .int (nI dt), .ref e0, .ref e1, .int (nI rt), .ref e2, .ref e3, .ref e4, .int (nI sz9), .int (nI at9), .int (nI fl), .int pl, .int (nI wr), .ref e5])), (n0, .inl (cI, 16, .inl (aN fFI))), (n2, .inl (cI, 16, .inl (aN fFO))), (e0, .inl (cI, 672, .inl (aN dr))), (e1, .inl (cI, 16, .inl (aP g))), (e4, .inl (cI, 400, .inl (aN tp))), (e5, .inl (cI, 4, .inl (aN fw)))] s.heap.size := ⟨_, rfl⟩
  have hA : ∀ q : Nat, s.heap.size ≤ q → A q := fun q h => by rw [hAe]; exact Or.inr h
  rw [← hAe] at hG hD
  have hS : va_S A s.heap s.heap [] := va_S.rf
  have hl := lv_entry ([.ref m0, .int (nI ty), .ref e0, .ref e1, .ref e4]) (n := 8) (Nat.le_of_ble_eq_true rfl)
  rw [lg_entry_eq]
  generalize (lg_sl ([.ref m0, .int (nI ty), .ref e0, .ref e1, .ref e4]) ++ List.replicate (8 - (lg_sl ([.ref m0, .int (nI ty), .ref e0, .ref e1, .ref e4])).length) Slot.unset).toArray = ls at hl ⊢
  have hl : lv_has ls 8 [(0, .ref m0), (1, .int (nI ty)), (2, .ref e0), (3, .ref e1), (4, .ref e4)] := hl
  refine zq_name (fun Q hQ => ?_)
  change W p l e rm_c_Mwrite_two s m _ below meth c _ _ _ _ Q _
  refine lv_aload_n hx hb dM_write_0 rfl (lv_at hl 0 rfl) ?_
  refine lv_iconst (v := nI 0) hx hb dM_write_1 (by decide) ?_
  refine va_put (D := (dC, dI)) (ci := 4) (v := .int (nI 0)) (ty := .int) (C := RM) (T := TM) (N := 17) hx hb hw inM tyM tyM_ok nmM hown hK hP hD hS 0 rfl rfl 15 (by decide) (hw _ w_fl_M_84) (fun _ h9 => h9) rfl (by decide +kernel) rfl rfl (Nat.le_of_ble_eq_true rfl) dM_write_2 (fun H locs hP hD hS => ?_)
  have hP : va_P (dC, dI) vwCl [(m0, .inr (4, [.ref n0, .ref n1, .ref n2, .int (nI cd), .int (nI dt), .ref e0, .ref e1, .int (nI rt), .ref e2, .ref e3, .ref e4, .int (nI sz9), .int (nI at9), .int (nI fl), .int pl, .int (nI 0), .ref e5])), (n0, .inl (cI, 16, .inl (aN fFI))), (n2, .inl (cI, 16, .inl (aN fFO))), (e0, .inl (cI, 672, .inl (aN dr))), (e1, .inl (cI, 16, .inl (aP g))), (e4, .inl (cI, 400, .inl (aN tp))), (e5, .inl (cI, 4, .inl (aN fw)))] H := hP
  have hD : va_D A [(m0, .inr (4, [.ref n0, .ref n1, .ref n2, .int (nI cd), .int (nI dt), .ref e0, .ref e1, .int (nI rt), .ref e2, .ref e3, .ref e4, .int (nI sz9), .int (nI at9), .int (nI fl), .int pl, .int (nI 0), .ref e5])), (n0, .inl (cI, 16, .inl (aN fFI))), (n2, .inl (cI, 16, .inl (aN fFO))), (e0, .inl (cI, 672, .inl (aN dr))), (e1, .inl (cI, 16, .inl (aP g))), (e4, .inl (cI, 400, .inl (aN tp))), (e5, .inl (cI, 4, .inl (aN fw)))] := hD
  refine lv_aload_n hx hb dM_write_5 rfl (lv_at hl 0 rfl) ?_
  refine va_get (D := (dC, dI)) (ci := 4) (v := .ref e5) (C := RM) (T := TM) (N := 17) hx hb hw inM hown hK hP 0 rfl rfl 16 (by decide) (hw _ w_fl_M_38) (fun _ h9 => h9) rfl dM_write_6 ?_
  refine lv_iconst (v := nI 0) hx hb dM_write_9 (by decide) ?_
  refine lv_iload_n hx hb dM_write_10 rfl (lv_at hl 1 rfl) ?_
  refine zi_l hx hb (by omega) dM_write_11 ?_
  refine lv_iconst (v := nI 4) hx hb dM_write_12 (by decide) ?_
  have hPc := hP.sub (ws' := [(e5, .inl (cI, 4, .inl (aN fw)))]) [6] rfl
  have hDc := hD.sub (ws' := [(e5, .inl (cI, 4, .inl (aN fw)))]) [6] (by decide) rfl
  have hFc := va_free (wc := [(e5, .inl (cI, 4, .inl (aN fw)))]) hD hS hA [6] rfl
  refine zc_Mv (va_runS (As := [.ref e5, .int (nI 0), .long (lN ty), .int (nI 4)]) (rest := []) ⟨hx, hb, hml, hown, hw⟩ (c_M_setDigits l dC dI e5 cI cB 4 fw 0 ty 4 (by omega) (by omega) (by omega) H.size) (va_cwS 4 hw (gSt w_ml_M_62 w_st_M_setDigits w_in_M w_co_M_setDigits) rfl rfl rfl (by decide +kernel) ⟨Nat.le_of_ble_eq_true rfl, Nat.le_of_ble_eq_true rfl⟩) (zM_S hG hS hFc hPc hDc hK) rfl rfl hl.1 rfl (lv_room (Nat.le_of_ble_eq_true rfl)) dM_write_13 ⟨Nat.le_of_ble_eq_true rfl, Nat.le_of_ble_eq_true rfl⟩) hS hFc (fun H locs h_13 hP1 hD1 hk1 hS => ?_)
  obtain ⟨hP, hD⟩ := va_join (wr := [(m0, .inr (4, [.ref n0, .ref n1, .ref n2, .int (nI cd), .int (nI dt), .ref e0, .ref e1, .int (nI rt), .ref e2, .ref e3, .ref e4, .int (nI sz9), .int (nI at9), .int (nI fl), .int pl, .int (nI 0), .ref e5])), (n0, .inl (cI, 16, .inl (aN fFI))), (n2, .inl (cI, 16, .inl (aN fFO))), (e0, .inl (cI, 672, .inl (aN dr))), (e1, .inl (cI, 16, .inl (aP g))), (e4, .inl (cI, 400, .inl (aN tp)))]) (w1 := [(e5, .inl (cI, 4, .inl (aN (ds fw 0 4 ty))))]) hP hD [6] [0, 1, 2, 3, 4, 5] rfl rfl (by decide) (by decide) hk1 hFc hP1 hD1
  have hP : va_P (dC, dI) vwCl [(m0, .inr (4, [.ref n0, .ref n1, .ref n2, .int (nI cd), .int (nI dt), .ref e0, .ref e1, .int (nI rt), .ref e2, .ref e3, .ref e4, .int (nI sz9), .int (nI at9), .int (nI fl), .int pl, .int (nI 0), .ref e5])), (n0, .inl (cI, 16, .inl (aN fFI))), (n2, .inl (cI, 16, .inl (aN fFO))), (e0, .inl (cI, 672, .inl (aN dr))), (e1, .inl (cI, 16, .inl (aP g))), (e4, .inl (cI, 400, .inl (aN tp))), (e5, .inl (cI, 4, .inl (aN (ds fw 0 4 ty))))] H := hP
  have hD : va_D A [(m0, .inr (4, [.ref n0, .ref n1, .ref n2, .int (nI cd), .int (nI dt), .ref e0, .ref e1, .int (nI rt), .ref e2, .ref e3, .ref e4, .int (nI sz9), .int (nI at9), .int (nI fl), .int pl, .int (nI 0), .ref e5])), (n0, .inl (cI, 16, .inl (aN fFI))), (n2, .inl (cI, 16, .inl (aN fFO))), (e0, .inl (cI, 672, .inl (aN dr))), (e1, .inl (cI, 16, .inl (aP g))), (e4, .inl (cI, 400, .inl (aN tp))), (e5, .inl (cI, 4, .inl (aN (ds fw 0 4 ty))))] := hD
  refine lv_aload_n hx hb dM_write_16 rfl (lv_at hl 0 rfl) ?_
  refine lv_aload hx hb dM_write_17 (lv_at hl 4 rfl) ?_
  refine lv_aload_n hx hb dM_write_19 rfl (lv_at hl 0 rfl) ?_
  refine va_get (D := (dC, dI)) (ci := 4) (v := .ref e5) (C := RM) (T := TM) (N := 17) hx hb hw inM hown hK hP 0 rfl rfl 16 (by decide) (hw _ w_fl_M_38) (fun _ h9 => h9) rfl dM_write_20 ?_
  refine lv_iconst (v := nI 0) hx hb dM_write_23 (by decide) ?_
  refine lv_iconst (v := nI 4) hx hb dM_write_24 (by decide) ?_
  have hPc := hP.sub (ws' := [(m0, .inr (4, [.ref n0, .ref n1, .ref n2, .int (nI cd), .int (nI dt), .ref e0, .ref e1, .int (nI rt), .ref e2, .ref e3, .ref e4, .int (nI sz9), .int (nI at9), .int (nI fl), .int pl, .int (nI 0), .ref e5])), (e4, .inl (cI, 400, .inl (aN tp))), (e5, .inl (cI, 4, .inl (aN (ds fw 0 4 ty))))]) [0, 5, 6] rfl
  have hDc := hD.sub (ws' := [(m0, .inr (4, [.ref n0, .ref n1, .ref n2, .int (nI cd), .int (nI dt), .ref e0, .ref e1, .int (nI rt), .ref e2, .ref e3, .ref e4, .int (nI sz9), .int (nI at9), .int (nI fl), .int pl, .int (nI 0), .ref e5])), (e4, .inl (cI, 400, .inl (aN tp))), (e5, .inl (cI, 4, .inl (aN (ds fw 0 4 ty))))]) [0, 5, 6] (by decide) rfl
  have hFc := va_free (wc := [(m0, .inr (4, [.ref n0, .ref n1, .ref n2, .int (nI cd), .int (nI dt), .ref e0, .ref e1, .int (nI rt), .ref e2, .ref e3, .ref e4, .int (nI sz9), .int (nI at9), .int (nI fl), .int pl, .int (nI 0), .ref e5])), (e4, .inl (cI, 400, .inl (aN tp))), (e5, .inl (cI, 4, .inl (aN (ds fw 0 4 ty))))]) hD hS hA [0, 5, 6] rfl
  refine zc_Mv (va_runV (As := [.ref e4, .ref e5, .int (nI 0), .int (nI 4)]) (rest := []) ⟨hx, hb, hml, hown, hw⟩ (c_M_pack l dC dI m0 n0 n1 n2 cd dt e0 e1 rt e2 e3 e4 sz9 at9 fl pl 0 e5 cI cB e5 4 (ds fw 0 4 ty) tp 0 4 (by omega) (by omega) (by omega) H.size) (cwV 4 hw (gV w_ml_M_87 w_im_M_pack w_se_M_pack w_in_M w_co_M_pack) rfl rfl rfl (by decide +kernel) ⟨Nat.le_of_ble_eq_true rfl, Nat.le_of_ble_eq_true rfl⟩) (zM_V hG hS hFc hPc hDc hK 0 rfl rfl) rfl rfl hl.1 rfl (lv_room (Nat.le_of_ble_eq_true rfl)) dM_write_25 ⟨Nat.le_of_ble_eq_true rfl, Nat.le_of_ble_eq_true rfl⟩) hS hFc (fun H locs h_25 hP1 hD1 hk1 hS => ?_)
  obtain ⟨hP, hD⟩ := va_join (wr := [(n0, .inl (cI, 16, .inl (aN fFI))), (n2, .inl (cI, 16, .inl (aN fFO))), (e0, .inl (cI, 672, .inl (aN dr))), (e1, .inl (cI, 16, .inl (aP g)))]) (w1 := [(m0, .inr (4, [.ref n0, .ref n1, .ref n2, .int (nI cd), .int (nI dt), .ref e0, .ref e1, .int (nI rt), .ref e2, .ref e3, .ref e4, .int (nI sz9), .int (nI at9), .int (nI fl), .int pl, .int (nI (0 + (dgB (ds fw 0 4 ty) 0 4).length)), .ref e5])), (e4, .inl (cI, 400, .inl (aN (apl tp 0 (dgB (ds fw 0 4 ty) 0 4))))), (e5, .inl (cI, 4, .inl (aN (ds fw 0 4 ty))))]) hP hD [0, 5, 6] [1, 2, 3, 4] rfl rfl (by decide) (by decide) hk1 hFc hP1 hD1
  have hP : va_P (dC, dI) vwCl [(n0, .inl (cI, 16, .inl (aN fFI))), (n2, .inl (cI, 16, .inl (aN fFO))), (e0, .inl (cI, 672, .inl (aN dr))), (e1, .inl (cI, 16, .inl (aP g))), (m0, .inr (4, [.ref n0, .ref n1, .ref n2, .int (nI cd), .int (nI dt), .ref e0, .ref e1, .int (nI rt), .ref e2, .ref e3, .ref e4, .int (nI sz9), .int (nI at9), .int (nI fl), .int pl, .int (nI (0 + (dgB (ds fw 0 4 ty) 0 4).length)), .ref e5])), (e4, .inl (cI, 400, .inl (aN (apl tp 0 (dgB (ds fw 0 4 ty) 0 4))))), (e5, .inl (cI, 4, .inl (aN (ds fw 0 4 ty))))] H := hP
  have hD : va_D A [(n0, .inl (cI, 16, .inl (aN fFI))), (n2, .inl (cI, 16, .inl (aN fFO))), (e0, .inl (cI, 672, .inl (aN dr))), (e1, .inl (cI, 16, .inl (aP g))), (m0, .inr (4, [.ref n0, .ref n1, .ref n2, .int (nI cd), .int (nI dt), .ref e0, .ref e1, .int (nI rt), .ref e2, .ref e3, .ref e4, .int (nI sz9), .int (nI at9), .int (nI fl), .int pl, .int (nI (0 + (dgB (ds fw 0 4 ty) 0 4).length)), .ref e5])), (e4, .inl (cI, 400, .inl (aN (apl tp 0 (dgB (ds fw 0 4 ty) 0 4))))), (e5, .inl (cI, 4, .inl (aN (ds fw 0 4 ty))))] := hD
  have e9 := pk4 fw hty
  rw [e9] at hP hD
  have e8 : (anb ty 4).length = 2 := rfl
  rw [e8] at hP hD
  have hP : va_P (dC, dI) vwCl [(n0, .inl (cI, 16, .inl (aN fFI))), (n2, .inl (cI, 16, .inl (aN fFO))), (e0, .inl (cI, 672, .inl (aN dr))), (e1, .inl (cI, 16, .inl (aP g))), (m0, .inr (4, [.ref n0, .ref n1, .ref n2, .int (nI cd), .int (nI dt), .ref e0, .ref e1, .int (nI rt), .ref e2, .ref e3, .ref e4, .int (nI sz9), .int (nI at9), .int (nI fl), .int pl, .int (nI 2), .ref e5])), (e4, .inl (cI, 400, .inl (aN (apl tp 0 (anb ty 4))))), (e5, .inl (cI, 4, .inl (aN (ds fw 0 4 ty))))] H := hP
  have hD : va_D A [(n0, .inl (cI, 16, .inl (aN fFI))), (n2, .inl (cI, 16, .inl (aN fFO))), (e0, .inl (cI, 672, .inl (aN dr))), (e1, .inl (cI, 16, .inl (aP g))), (m0, .inr (4, [.ref n0, .ref n1, .ref n2, .int (nI cd), .int (nI dt), .ref e0, .ref e1, .int (nI rt), .ref e2, .ref e3, .ref e4, .int (nI sz9), .int (nI at9), .int (nI fl), .int pl, .int (nI 2), .ref e5])), (e4, .inl (cI, 400, .inl (aN (apl tp 0 (anb ty 4))))), (e5, .inl (cI, 4, .inl (aN (ds fw 0 4 ty))))] := hD
  refine lv_iconst (v := nI 0) hx hb dM_write_28 (by decide) ?_
  refine lv_istore (lv' := [(5, .int (nI 0)), (0, .ref m0), (1, .int (nI ty)), (2, .ref e0), (3, .ref e1), (4, .ref e4)]) hx hb dM_write_29 hl (by decide) rfl (fun ls hl => ?_)
  refine lv_iconst (v := nI 0) hx hb dM_write_31 (by decide) ?_
  refine lv_istore (lv' := [(6, .int (nI 0)), (5, .int (nI 0)), (0, .ref m0), (1, .int (nI ty)), (2, .ref e0), (3, .ref e1), (4, .ref e4)]) hx hb dM_write_32 hl (by decide) rfl (fun ls hl => ?_)
  have lp_34 : ∀ (fu : Nat) (k : Nat) (sb : Nat) (hk : k ≤ 16) (hsb : sb ≤ 1) (hi : sb = 0 → s2L g (16 - k) k = true) (hms : 16 - k < fu) (H : Heap) (locs : List Loc) (ls : Array Slot), lv_has ls 8 [(0, .ref m0), (2, .ref e0), (3, .ref e1), (4, .ref e4), (5, .int (nI sb)), (6, .int (nI k))] → va_P (dC, dI) vwCl [(n0, .inl (cI, 16, .inl (aN fFI))), (n2, .inl (cI, 16, .inl (aN fFO))), (e0, .inl (cI, 672, .inl (aN dr))), (e1, .inl (cI, 16, .inl (aP g))), (m0, .inr (4, [.ref n0, .ref n1, .ref n2, .int (nI cd), .int (nI dt), .ref e0, .ref e1, .int (nI rt), .ref e2, .ref e3, .ref e4, .int (nI sz9), .int (nI at9), .int (nI fl), .int pl, .int (nI 2), .ref e5])), (e4, .inl (cI, 400, .inl (aN (apl tp 0 (anb ty 4))))), (e5, .inl (cI, 4, .inl (aN (ds fw 0 4 ty))))] H → va_D A [(n0, .inl (cI, 16, .inl (aN fFI))), (n2, .inl (cI, 16, .inl (aN fFO))), (e0, .inl (cI, 672, .inl (aN dr))), (e1, .inl (cI, 16, .inl (aP g))), (m0, .inr (4, [.ref n0, .ref n1, .ref n2, .int (nI cd), .int (nI dt), .ref e0, .ref e1, .int (nI rt), .ref e2, .ref e3, .ref e4, .int (nI sz9), .int (nI at9), .int (nI fl), .int pl, .int (nI 2), .ref e5])), (e4, .inl (cI, 400, .inl (aN (apl tp 0 (anb ty 4))))), (e5, .inl (cI, 4, .inl (aN (ds fw 0 4 ty))))] → va_S A s.heap H locs → W p l e rm_c_Mwrite_two s m ([.ref m0, .int (nI ty), .ref e0, .ref e1, .ref e4] : List Value).toArray below meth c H locs 0 0 Q (F0 m 34 ls []) := by
    intro fu
    induction fu with
    | zero => intro k sb hk hsb hi hms; exact absurd hms (Nat.not_lt_zero _)
    | succ fu ih34 =>
      intro k sb hk hsb hi hms H locs ls hl hP hD hS
      refine lv_iload hx hb dM_write_34 (lv_at hl 5 rfl) ?_
      refine lv_bipush (v := nI 16) hx hb dM_write_36 (by decide) ?_
      refine zi_ge (tgt := 78) hx hb (by omega) (by omega) dM_write_38 (by decide) (fun c_38 => ?_) (fun c_38 => ?_)
      · obtain rfl : sb = 1 := by
          rcases Nat.lt_or_ge 0 sb with h9 | h9
          · omega
          · have h7 := hi (by omega); rw [show 16 - k = 0 by omega] at h7; cases h7
        refine lv_iconst (v := nI 0) hx hb dM_write_78 (by decide) ?_
        refine lv_istore (lv' := [(6, .int (nI 0)), (0, .ref m0), (2, .ref e0), (3, .ref e1), (4, .ref e4), (5, .int (nI 1))]) hx hb dM_write_79 hl (by decide) rfl (fun ls hl => ?_)
        have lp_81 : ∀ (fu : Nat) (j : Nat) (q : Nat) (f : Nat → Nat) (hj : j ≤ 16) (hq : q = 2 + j) (hi9 : apl f q (List.replicate (16 - j) 0) = apl (apl tp 0 (anb ty 4)) 2 (List.replicate 16 0)) (hms : 16 - j < fu) (H : Heap) (locs : List Loc) (ls : Array Slot), lv_has ls 8 [(0, .ref m0), (2, .ref e0), (3, .ref e1), (4, .ref e4), (5, .int (nI 1)), (6, .int (nI j))] → va_P (dC, dI) vwCl [(n0, .inl (cI, 16, .inl (aN fFI))), (n2, .inl (cI, 16, .inl (aN fFO))), (e0, .inl (cI, 672, .inl (aN dr))), (e1, .inl (cI, 16, .inl (aP g))), (m0, .inr (4, [.ref n0, .ref n1, .ref n2, .int (nI cd), .int (nI dt), .ref e0, .ref e1, .int (nI rt), .ref e2, .ref e3, .ref e4, .int (nI sz9), .int (nI at9), .int (nI fl), .int pl, .int (nI q), .ref e5])), (e4, .inl (cI, 400, .inl (aN f))), (e5, .inl (cI, 4, .inl (aN (ds fw 0 4 ty))))] H → va_D A [(n0, .inl (cI, 16, .inl (aN fFI))), (n2, .inl (cI, 16, .inl (aN fFO))), (e0, .inl (cI, 672, .inl (aN dr))), (e1, .inl (cI, 16, .inl (aP g))), (m0, .inr (4, [.ref n0, .ref n1, .ref n2, .int (nI cd), .int (nI dt), .ref e0, .ref e1, .int (nI rt), .ref e2, .ref e3, .ref e4, .int (nI sz9), .int (nI at9), .int (nI fl), .int pl, .int (nI q), .ref e5])), (e4, .inl (cI, 400, .inl (aN f))), (e5, .inl (cI, 4, .inl (aN (ds fw 0 4 ty))))] → va_S A s.heap H locs → W p l e rm_c_Mwrite_two s m ([.ref m0, .int (nI ty), .ref e0, .ref e1, .ref e4] : List Value).toArray below meth c H locs 0 0 Q (F0 m 81 ls []) := by
          intro fu
          induction fu with
          | zero => intro j q f hj hq hi9 hms; exact absurd hms (Nat.not_lt_zero _)
          | succ fu ih81 =>
            intro j q f hj hq hi9 hms H locs ls hl hP hD hS
            refine lv_iload hx hb dM_write_81 (lv_at hl 5 rfl) ?_
            refine lv_iload hx hb dM_write_83 (lv_at hl 4 rfl) ?_
            refine lv_if_eq (tgt := 93) hx hb dM_write_85 (by decide) (fun q => False.elim (absurd q (by decide))) (fun c_85 => ?_)
            refine lv_bipush (v := nI 16) hx hb dM_write_88 (by decide) ?_
            refine lv_goto (tgt := 95) hx hb dM_write_90 (by decide) ?_
            refine zi_ge (tgt := 122) hx hb (by omega) (by omega) dM_write_95 (by decide) (fun c_95 => ?_) (fun c_95 => ?_)
            · have hi9 : f = apl (apl tp 0 (anb ty 4)) 2 (List.replicate 16 0) := by have h9 := hi9; rw [show 16 - j = 0 by omega] at h9; exact h9
              obtain rfl : j = 16 := by omega
              subst hi9
              subst hq
              refine lv_aload hx hb dM_write_122 (lv_at hl 3 rfl) ?_
              refine lv_iconst (v := nI 2) hx hb dM_write_124 (by decide) ?_
              refine lv_iload hx hb dM_write_125 (lv_at hl 4 rfl) ?_
              refine lv_if_eq (tgt := 136) hx hb dM_write_127 (by decide) (fun q => False.elim (absurd q (by decide))) (fun c_127 => ?_)
              refine lv_sipush (v := nI 128) hx hb dM_write_130 (by decide) ?_
              refine lv_goto (tgt := 137) hx hb dM_write_133 (by decide) ?_
              refine za_ist hx hb hK hP hD hS 5 0 rfl rfl (by omega) (by decide) dM_write_137 (fun H locs hP hD hS => ?_)
              have hP : va_P (dC, dI) vwCl [(n0, .inl (cI, 16, .inl (aN fFI))), (n2, .inl (cI, 16, .inl (aN fFO))), (e0, .inl (cI, 672, .inl (aN dr))), (e1, .inl (cI, 16, .inl (aP g))), (m0, .inr (4, [.ref n0, .ref n1, .ref n2, .int (nI cd), .int (nI dt), .ref e0, .ref e1, .int (nI rt), .ref e2, .ref e3, .ref e4, .int (nI sz9), .int (nI at9), .int (nI fl), .int pl, .int (nI (2 + 16)), .ref e5])), (e4, .inl (cI, 400, .inl (aN (nup (apl (apl tp 0 (anb ty 4)) 2 (List.replicate 16 0)) 2 128)))), (e5, .inl (cI, 4, .inl (aN (ds fw 0 4 ty))))] H := hP
              have hD : va_D A [(n0, .inl (cI, 16, .inl (aN fFI))), (n2, .inl (cI, 16, .inl (aN fFO))), (e0, .inl (cI, 672, .inl (aN dr))), (e1, .inl (cI, 16, .inl (aP g))), (m0, .inr (4, [.ref n0, .ref n1, .ref n2, .int (nI cd), .int (nI dt), .ref e0, .ref e1, .int (nI rt), .ref e2, .ref e3, .ref e4, .int (nI sz9), .int (nI at9), .int (nI fl), .int pl, .int (nI (2 + 16)), .ref e5])), (e4, .inl (cI, 400, .inl (aN (nup (apl (apl tp 0 (anb ty 4)) 2 (List.replicate 16 0)) 2 128)))), (e5, .inl (cI, 4, .inl (aN (ds fw 0 4 ty))))] := hD
              refine lv_iconst (v := nI 0) hx hb dM_write_138 (by decide) ?_
              refine lv_istore (lv' := [(6, .int (nI 0)), (0, .ref m0), (2, .ref e0), (3, .ref e1), (4, .ref e4), (5, .int (nI 1))]) hx hb dM_write_139 hl (by decide) rfl (fun ls hl => ?_)
              have hP : va_P (dC, dI) vwCl [(n0, .inl (cI, 16, .inl (aN fFI))), (n2, .inl (cI, 16, .inl (aN fFO))), (e0, .inl (cI, 672, .inl (aN dr))), (e1, .inl (cI, 16, .inl (aP g))), (m0, .inr (4, [.ref n0, .ref n1, .ref n2, .int (nI cd), .int (nI dt), .ref e0, .ref e1, .int (nI rt), .ref e2, .ref e3, .ref e4, .int (nI sz9), .int (nI at9), .int (nI fl), .int pl, .int (nI 18), .ref e5])), (e4, .inl (cI, 400, .inl (aN (nup (apl (apl tp 0 (anb ty 4)) 2 (List.replicate 16 0)) 2 128)))), (e5, .inl (cI, 4, .inl (aN (ds fw 0 4 ty))))] H := hP
              have hD : va_D A [(n0, .inl (cI, 16, .inl (aN fFI))), (n2, .inl (cI, 16, .inl (aN fFO))), (e0, .inl (cI, 672, .inl (aN dr))), (e1, .inl (cI, 16, .inl (aP g))), (m0, .inr (4, [.ref n0, .ref n1, .ref n2, .int (nI cd), .int (nI dt), .ref e0, .ref e1, .int (nI rt), .ref e2, .ref e3, .ref e4, .int (nI sz9), .int (nI at9), .int (nI fl), .int pl, .int (nI 18), .ref e5])), (e4, .inl (cI, 400, .inl (aN (nup (apl (apl tp 0 (anb ty 4)) 2 (List.replicate 16 0)) 2 128)))), (e5, .inl (cI, 4, .inl (aN (ds fw 0 4 ty))))] := hD
              have lp_141 : ∀ (fu : Nat) (k : Nat) (q : Nat) (f : Nat → Nat) (w9 : Nat → Nat) (hk : k ≤ 16) (hr9 : q + fRM k ≤ 162) (hn : wrQ g dr (16 - k) k q = wrQ g dr 16 0 18) (hi : wrT g dr (16 - k) k q f = wrT g dr 16 0 18 (nup (apl (apl tp 0 (anb ty 4)) 2 (List.replicate 16 0)) 2 128)) (hms : 16 - k < fu) (H : Heap) (locs : List Loc) (ls : Array Slot), lv_has ls 8 [(0, .ref m0), (2, .ref e0), (3, .ref e1), (4, .ref e4), (6, .int (nI k))] → va_P (dC, dI) vwCl [(n0, .inl (cI, 16, .inl (aN fFI))), (n2, .inl (cI, 16, .inl (aN fFO))), (e0, .inl (cI, 672, .inl (aN dr))), (e1, .inl (cI, 16, .inl (aP g))), (m0, .inr (4, [.ref n0, .ref n1, .ref n2, .int (nI cd), .int (nI dt), .ref e0, .ref e1, .int (nI rt), .ref e2, .ref e3, .ref e4, .int (nI sz9), .int (nI at9), .int (nI fl), .int pl, .int (nI q), .ref e5])), (e4, .inl (cI, 400, .inl (aN f))), (e5, .inl (cI, 4, .inl (aN w9)))] H → va_D A [(n0, .inl (cI, 16, .inl (aN fFI))), (n2, .inl (cI, 16, .inl (aN fFO))), (e0, .inl (cI, 672, .inl (aN dr))), (e1, .inl (cI, 16, .inl (aP g))), (m0, .inr (4, [.ref n0, .ref n1, .ref n2, .int (nI cd), .int (nI dt), .ref e0, .ref e1, .int (nI rt), .ref e2, .ref e3, .ref e4, .int (nI sz9), .int (nI at9), .int (nI fl), .int pl, .int (nI q), .ref e5])), (e4, .inl (cI, 400, .inl (aN f))), (e5, .inl (cI, 4, .inl (aN w9)))] → va_S A s.heap H locs → W p l e rm_c_Mwrite_two s m ([.ref m0, .int (nI ty), .ref e0, .ref e1, .ref e4] : List Value).toArray below meth c H locs 0 0 Q (F0 m 141 ls []) := by
                intro fu
                induction fu with
                | zero => intro k q f w9 hk hr9 hn hi hms; exact absurd hms (Nat.not_lt_zero _)
                | succ fu ih141 =>
                  intro k q f w9 hk hr9 hn hi hms H locs ls hl hP hD hS
                  refine lv_iload hx hb dM_write_141 (lv_at hl 4 rfl) ?_
                  refine lv_bipush (v := nI 16) hx hb dM_write_143 (by decide) ?_
                  refine zi_ge (tgt := 207) hx hb (by omega) (by omega) dM_write_145 (by decide) (fun c_145 => ?_) (fun c_145 => ?_)
                  · have hi : f = wrT g dr 16 0 18 (nup (apl (apl tp 0 (anb ty 4)) 2 (List.replicate 16 0)) 2 128) := by have h9 := hi; rw [show 16 - k = 0 by omega] at h9; exact h9
                    have hn : q = wrQ g dr 16 0 18 := by have h9 := hn; rw [show 16 - k = 0 by omega] at h9; exact h9
                    subst hi
                    subst hn
                    subst hAe
                    subst hQ
                    exact W.vret hx hb hr (fun t ht hW => ⟨⟨w9, rfl, trivial, by rw [ht]; exact hP.sub [4, 0, 1, 2, 3, 5, 6] rfl, hD.sub [4, 0, 1, 2, 3, 5, 6] (by decide) rfl⟩, hS.F ht⟩) hS.2.2 dM_write_207
                  · have hgk := hg k (by omega)
                    have hmm := fMM_b k (by omega)
                    have hfi := fFI_b k (by omega)
                    refine lv_aload_n hx hb dM_write_148 rfl (lv_at hl 2 rfl) ?_
                    refine lv_iload hx hb dM_write_149 (lv_at hl 4 rfl) ?_
                    refine za_pld hx hb hK hP 3 0 rfl rfl (by omega) (by decide) dM_write_151 ?_
                    refine zp_lt0 (tgt := 201) hx hb (by omega) dM_write_152 (by decide) (fun c_152 => ?_) (fun c_152 => ?_)
                    · have hrs := fRM_s k (by omega)
                      have h8 := hi
                      rw [show 16 - k = 16 - (k + 1) + 1 by omega] at h8
                      unfold wrT at h8
                      rw [if_pos c_152] at h8
                      have h7 := hn
                      rw [show 16 - k = 16 - (k + 1) + 1 by omega] at h7
                      unfold wrQ at h7
                      rw [if_pos c_152] at h7
                      refine lv_iinc (v := nI (k + 1)) (lv' := [(6, .int (nI (k + 1))), (0, .ref m0), (2, .ref e0), (3, .ref e1), (4, .ref e4)]) hx hb dM_write_201 hl (k := 4) rfl (zi_incr k 1) (by decide) rfl (fun ls hl => ?_)
                      refine lv_goto (tgt := 141) hx hb dM_write_204 (by decide) ?_
                      exact ih141 (k + 1) q f w9 (by omega) (by omega) h7 h8 (by omega) _ _ _ (lv_sub hl [1, 2, 3, 4, 0] rfl) (hP.sub [0, 1, 2, 3, 4, 5, 6] rfl) (hD.sub [0, 1, 2, 3, 4, 5, 6] (by decide) rfl) hS
                    · refine lv_aload_n hx hb dM_write_155 rfl (lv_at hl 0 rfl) ?_
                      refine va_get (D := (dC, dI)) (ci := 4) (v := .ref n0) (C := RM) (T := TM) (N := 17) hx hb hw inM hown hK hP 4 rfl rfl 0 (by decide) (hw _ w_fl_M_7) (fun _ h9 => h9) rfl dM_write_156 ?_
                      refine lv_iload hx hb dM_write_159 (lv_at hl 4 rfl) ?_
                      refine za_ild hx hb hK hP 0 0 rfl rfl (by omega) (by decide) dM_write_161 ?_
                      refine lv_iconst (v := nI 1) hx hb dM_write_162 (by decide) ?_
                      refine zi_sub hx hb (by omega) dM_write_163 ?_
                      refine lv_istore (lv' := [(7, .int (nI ((fFI k) - 1))), (0, .ref m0), (2, .ref e0), (3, .ref e1), (4, .ref e4), (6, .int (nI k))]) hx hb dM_write_164 hl (by decide) rfl (fun ls hl => ?_)
                      refine lv_aload hx hb dM_write_166 (lv_at hl 4 rfl) ?_
                      refine lv_iconst (v := nI 2) hx hb dM_write_168 (by decide) ?_
                      refine lv_iload hx hb dM_write_169 (lv_at hl 0 rfl) ?_
                      refine lv_bipush (v := nI 8) hx hb dM_write_171 (by decide) ?_
                      refine zi_div hx hb (by omega) (by omega) (by omega) dM_write_173 ?_
                      refine zi_add hx hb dM_write_174 ?_
                      refine lv_dup2_11 hx hb dM_write_175 rfl rfl ?_
                      refine za_ild hx hb hK hP 5 0 rfl rfl (by omega) (by decide) dM_write_176 ?_
                      refine lv_sipush (v := nI 128) hx hb dM_write_177 (by decide) ?_
                      refine lv_iload hx hb dM_write_180 (lv_at hl 0 rfl) ?_
                      refine lv_bipush (v := nI 8) hx hb dM_write_182 (by decide) ?_
                      refine zi_rem hx hb (by omega) (by omega) (by omega) dM_write_184 ?_
                      refine lv_ishr hx hb dM_write_185 ?_
                      refine zi_v (b := nI (128 / 2 ^ ((fFI k - 1) % 8))) (shr_N (by decide) (by omega)) ?_
                      refine zi_add hx hb dM_write_186 ?_
                      refine za_ist hx hb hK hP hD hS 5 0 rfl rfl (by omega) (by decide) dM_write_187 (fun H locs hP hD hS => ?_)
                      have hP : va_P (dC, dI) vwCl [(n0, .inl (cI, 16, .inl (aN fFI))), (n2, .inl (cI, 16, .inl (aN fFO))), (e0, .inl (cI, 672, .inl (aN dr))), (e1, .inl (cI, 16, .inl (aP g))), (m0, .inr (4, [.ref n0, .ref n1, .ref n2, .int (nI cd), .int (nI dt), .ref e0, .ref e1, .int (nI rt), .ref e2, .ref e3, .ref e4, .int (nI sz9), .int (nI at9), .int (nI fl), .int pl, .int (nI q), .ref e5])), (e4, .inl (cI, 400, .inl (aN (nup f (2 + (((fFI k) - 1) / 8)) ((f (2 + (((fFI k) - 1) / 8))) + (128 / 2 ^ ((fFI k - 1) % 8))))))), (e5, .inl (cI, 4, .inl (aN w9)))] H := hP
                      have hD : va_D A [(n0, .inl (cI, 16, .inl (aN fFI))), (n2, .inl (cI, 16, .inl (aN fFO))), (e0, .inl (cI, 672, .inl (aN dr))), (e1, .inl (cI, 16, .inl (aP g))), (m0, .inr (4, [.ref n0, .ref n1, .ref n2, .int (nI cd), .int (nI dt), .ref e0, .ref e1, .int (nI rt), .ref e2, .ref e3, .ref e4, .int (nI sz9), .int (nI at9), .int (nI fl), .int pl, .int (nI q), .ref e5])), (e4, .inl (cI, 400, .inl (aN (nup f (2 + (((fFI k) - 1) / 8)) ((f (2 + (((fFI k) - 1) / 8))) + (128 / 2 ^ ((fFI k - 1) % 8))))))), (e5, .inl (cI, 4, .inl (aN w9)))] := hD
                      refine lv_aload_n hx hb dM_write_188 rfl (lv_at hl 1 rfl) ?_
                      refine lv_iload hx hb dM_write_189 (lv_at hl 5 rfl) ?_
                      refine lv_aload_n hx hb dM_write_191 rfl (lv_at hl 2 rfl) ?_
                      refine lv_aload_n hx hb dM_write_192 rfl (lv_at hl 3 rfl) ?_
                      refine lv_iload hx hb dM_write_193 (lv_at hl 5 rfl) ?_
                      refine za_pld hx hb hK hP 3 0 rfl rfl (by omega) (by decide) dM_write_195 ?_
                      refine zi_v (b := nI (g k - 1)) (pm_nat (by omega)) ?_
                      refine lv_aload hx hb dM_write_196 (lv_at hl 4 rfl) ?_
                      have hPc := hP.sub (ws' := [(m0, .inr (4, [.ref n0, .ref n1, .ref n2, .int (nI cd), .int (nI dt), .ref e0, .ref e1, .int (nI rt), .ref e2, .ref e3, .ref e4, .int (nI sz9), .int (nI at9), .int (nI fl), .int pl, .int (nI q), .ref e5])), (n2, .inl (cI, 16, .inl (aN fFO))), (e0, .inl (cI, 672, .inl (aN dr))), (e4, .inl (cI, 400, .inl (aN (nup f (2 + (((fFI k) - 1) / 8)) ((f (2 + (((fFI k) - 1) / 8))) + (128 / 2 ^ ((fFI k - 1) % 8))))))), (e5, .inl (cI, 4, .inl (aN w9)))]) [4, 1, 2, 5, 6] rfl
                      have hDc := hD.sub (ws' := [(m0, .inr (4, [.ref n0, .ref n1, .ref n2, .int (nI cd), .int (nI dt), .ref e0, .ref e1, .int (nI rt), .ref e2, .ref e3, .ref e4, .int (nI sz9), .int (nI at9), .int (nI fl), .int pl, .int (nI q), .ref e5])), (n2, .inl (cI, 16, .inl (aN fFO))), (e0, .inl (cI, 672, .inl (aN dr))), (e4, .inl (cI, 400, .inl (aN (nup f (2 + (((fFI k) - 1) / 8)) ((f (2 + (((fFI k) - 1) / 8))) + (128 / 2 ^ ((fFI k - 1) % 8))))))), (e5, .inl (cI, 4, .inl (aN w9)))]) [4, 1, 2, 5, 6] (by decide) rfl
                      have hFc := va_free (wc := [(m0, .inr (4, [.ref n0, .ref n1, .ref n2, .int (nI cd), .int (nI dt), .ref e0, .ref e1, .int (nI rt), .ref e2, .ref e3, .ref e4, .int (nI sz9), .int (nI at9), .int (nI fl), .int pl, .int (nI q), .ref e5])), (n2, .inl (cI, 16, .inl (aN fFO))), (e0, .inl (cI, 672, .inl (aN dr))), (e4, .inl (cI, 400, .inl (aN (nup f (2 + (((fFI k) - 1) / 8)) ((f (2 + (((fFI k) - 1) / 8))) + (128 / 2 ^ ((fFI k - 1) % 8))))))), (e5, .inl (cI, 4, .inl (aN w9)))]) hD hS hA [4, 1, 2, 5, 6] rfl
                      refine zc_Sv (va_runV (As := [.int (nI k), .ref e0, .int (nI (g k - 1)), .ref e4]) (rest := []) ⟨hx, hb, hml, hown, hw⟩ (c_M_writeField l dC dI m0 n0 n1 n2 cd dt e0 e1 rt e2 e3 e4 sz9 at9 fl pl q e5 cI cB dr (nup f (2 + (((fFI k) - 1) / 8)) ((f (2 + (((fFI k) - 1) / 8))) + (128 / 2 ^ ((fFI k - 1) % 8)))) w9 k (g k - 1) (by omega) (by omega) (by omega) (hd9 k (by omega)) H.size) (cwV 4 hw (gV w_ml_M_91 w_im_M_writeField w_se_M_writeField w_in_M w_co_M_writeField) rfl rfl rfl (by decide +kernel) ⟨Nat.le_of_ble_eq_true rfl, Nat.le_of_ble_eq_true rfl⟩) (zM_V hG hS hFc hPc hDc hK 0 rfl rfl) rfl rfl hl.1 rfl (lv_room (Nat.le_of_ble_eq_true rfl)) dM_write_198 ⟨Nat.le_of_ble_eq_true rfl, Nat.le_of_ble_eq_true rfl⟩) hS hFc (fun u_198 H locs h_198 hP1 hD1 hk1 hS => ?_)
                      obtain ⟨hP, hD⟩ := va_join (wr := [(n0, .inl (cI, 16, .inl (aN fFI))), (e1, .inl (cI, 16, .inl (aP g)))]) (w1 := [(m0, .inr (4, [.ref n0, .ref n1, .ref n2, .int (nI cd), .int (nI dt), .ref e0, .ref e1, .int (nI rt), .ref e2, .ref e3, .ref e4, .int (nI sz9), .int (nI at9), .int (nI fl), .int pl, .int (nI (q + (fldM dr k (g k - 1)).length)), .ref e5])), (n2, .inl (cI, 16, .inl (aN fFO))), (e0, .inl (cI, 672, .inl (aN dr))), (e4, .inl (cI, 400, .inl (aN (apl (nup f (2 + (((fFI k) - 1) / 8)) ((f (2 + (((fFI k) - 1) / 8))) + (128 / 2 ^ ((fFI k - 1) % 8)))) q (fldM dr k (g k - 1)))))), (e5, .inl (cI, 4, .inl (aN u_198)))]) hP hD [4, 1, 2, 5, 6] [0, 3] rfl rfl (by decide) (by decide) hk1 hFc hP1 hD1
                      have hP : va_P (dC, dI) vwCl [(n0, .inl (cI, 16, .inl (aN fFI))), (e1, .inl (cI, 16, .inl (aP g))), (m0, .inr (4, [.ref n0, .ref n1, .ref n2, .int (nI cd), .int (nI dt), .ref e0, .ref e1, .int (nI rt), .ref e2, .ref e3, .ref e4, .int (nI sz9), .int (nI at9), .int (nI fl), .int pl, .int (nI (q + (fldM dr k (g k - 1)).length)), .ref e5])), (n2, .inl (cI, 16, .inl (aN fFO))), (e0, .inl (cI, 672, .inl (aN dr))), (e4, .inl (cI, 400, .inl (aN (apl (nup f (2 + (((fFI k) - 1) / 8)) ((f (2 + (((fFI k) - 1) / 8))) + (128 / 2 ^ ((fFI k - 1) % 8)))) q (fldM dr k (g k - 1)))))), (e5, .inl (cI, 4, .inl (aN u_198)))] H := hP
                      have hD : va_D A [(n0, .inl (cI, 16, .inl (aN fFI))), (e1, .inl (cI, 16, .inl (aP g))), (m0, .inr (4, [.ref n0, .ref n1, .ref n2, .int (nI cd), .int (nI dt), .ref e0, .ref e1, .int (nI rt), .ref e2, .ref e3, .ref e4, .int (nI sz9), .int (nI at9), .int (nI fl), .int pl, .int (nI (q + (fldM dr k (g k - 1)).length)), .ref e5])), (n2, .inl (cI, 16, .inl (aN fFO))), (e0, .inl (cI, 672, .inl (aN dr))), (e4, .inl (cI, 400, .inl (aN (apl (nup f (2 + (((fFI k) - 1) / 8)) ((f (2 + (((fFI k) - 1) / 8))) + (128 / 2 ^ ((fFI k - 1) % 8)))) q (fldM dr k (g k - 1)))))), (e5, .inl (cI, 4, .inl (aN u_198)))] := hD
                      have hrs := fRM_s k (by omega)
                      have h8 := hi
                      rw [show 16 - k = 16 - (k + 1) + 1 by omega] at h8
                      unfold wrT at h8
                      rw [if_neg (by omega)] at h8
                      have h7 := hn
                      rw [show 16 - k = 16 - (k + 1) + 1 by omega] at h7
                      unfold wrQ at h7
                      rw [if_neg (by omega)] at h7
                      have hlf := fldM_le (dr := dr) (k := k) (n := g k - 1) (by have := hg k (by omega); omega)
                      refine lv_iinc (v := nI (k + 1)) (lv' := [(6, .int (nI (k + 1))), (7, .int (nI ((fFI k) - 1))), (0, .ref m0), (2, .ref e0), (3, .ref e1), (4, .ref e4)]) hx hb dM_write_201 hl (k := 5) rfl (zi_incr k 1) (by decide) rfl (fun ls hl => ?_)
                      refine lv_goto (tgt := 141) hx hb dM_write_204 (by decide) ?_
                      exact ih141 (k + 1) (q + (fldM dr k (g k - 1)).length) (apl (nup f (2 + (((fFI k) - 1) / 8)) ((f (2 + (((fFI k) - 1) / 8))) + (128 / 2 ^ ((fFI k - 1) % 8)))) q (fldM dr k (g k - 1))) u_198 (by omega) (by omega) h7 h8 (by omega) _ _ _ (lv_sub hl [2, 3, 4, 5, 0] rfl) (hP.sub [0, 3, 4, 1, 2, 5, 6] rfl) (hD.sub [0, 3, 4, 1, 2, 5, 6] (by decide) rfl) hS
              exact lp_141 ((16 - 0) + 1) 0 18 (nup (apl (apl tp 0 (anb ty 4)) 2 (List.replicate 16 0)) 2 128) (ds fw 0 4 ty) (by omega) (by decide) rfl rfl (Nat.lt_succ_self _) _ _ _ (lv_sub hl [1, 2, 3, 4, 0] rfl) (hP.sub [0, 1, 2, 3, 4, 5, 6] rfl) (hD.sub [0, 1, 2, 3, 4, 5, 6] (by decide) rfl) hS
            · refine lv_aload hx hb dM_write_98 (lv_at hl 3 rfl) ?_
              refine lv_aload_n hx hb dM_write_100 rfl (lv_at hl 0 rfl) ?_
              refine va_get (D := (dC, dI)) (ci := 4) (v := .int (nI q)) (C := RM) (T := TM) (N := 17) hx hb hw inM hown hK hP 4 rfl rfl 15 (by decide) (hw _ w_fl_M_84) (fun _ h9 => h9) rfl dM_write_101 ?_
              refine lv_iconst (v := nI 0) hx hb dM_write_104 (by decide) ?_
              refine za_ist hx hb hK hP hD hS 5 0 rfl rfl (by omega) (by decide) dM_write_105 (fun H locs hP hD hS => ?_)
              have hP : va_P (dC, dI) vwCl [(n0, .inl (cI, 16, .inl (aN fFI))), (n2, .inl (cI, 16, .inl (aN fFO))), (e0, .inl (cI, 672, .inl (aN dr))), (e1, .inl (cI, 16, .inl (aP g))), (m0, .inr (4, [.ref n0, .ref n1, .ref n2, .int (nI cd), .int (nI dt), .ref e0, .ref e1, .int (nI rt), .ref e2, .ref e3, .ref e4, .int (nI sz9), .int (nI at9), .int (nI fl), .int pl, .int (nI q), .ref e5])), (e4, .inl (cI, 400, .inl (aN (nup f q 0)))), (e5, .inl (cI, 4, .inl (aN (ds fw 0 4 ty))))] H := hP
              have hD : va_D A [(n0, .inl (cI, 16, .inl (aN fFI))), (n2, .inl (cI, 16, .inl (aN fFO))), (e0, .inl (cI, 672, .inl (aN dr))), (e1, .inl (cI, 16, .inl (aP g))), (m0, .inr (4, [.ref n0, .ref n1, .ref n2, .int (nI cd), .int (nI dt), .ref e0, .ref e1, .int (nI rt), .ref e2, .ref e3, .ref e4, .int (nI sz9), .int (nI at9), .int (nI fl), .int pl, .int (nI q), .ref e5])), (e4, .inl (cI, 400, .inl (aN (nup f q 0)))), (e5, .inl (cI, 4, .inl (aN (ds fw 0 4 ty))))] := hD
              refine lv_aload_n hx hb dM_write_106 rfl (lv_at hl 0 rfl) ?_
              refine lv_dup hx hb dM_write_107 rfl ?_
              refine va_get (D := (dC, dI)) (ci := 4) (v := .int (nI q)) (C := RM) (T := TM) (N := 17) hx hb hw inM hown hK hP 4 rfl rfl 15 (by decide) (hw _ w_fl_M_84) (fun _ h9 => h9) rfl dM_write_108 ?_
              refine lv_iconst (v := nI 1) hx hb dM_write_111 (by decide) ?_
              refine zi_add hx hb dM_write_112 ?_
              refine va_put (D := (dC, dI)) (ci := 4) (v := .int (nI (q + 1))) (ty := .int) (C := RM) (T := TM) (N := 17) hx hb hw inM tyM tyM_ok nmM hown hK hP hD hS 4 rfl rfl 15 (by decide) (hw _ w_fl_M_84) (fun _ h9 => h9) rfl (by decide +kernel) rfl rfl (Nat.le_of_ble_eq_true rfl) dM_write_113 (fun H locs hP hD hS => ?_)
              have hP : va_P (dC, dI) vwCl [(n0, .inl (cI, 16, .inl (aN fFI))), (n2, .inl (cI, 16, .inl (aN fFO))), (e0, .inl (cI, 672, .inl (aN dr))), (e1, .inl (cI, 16, .inl (aP g))), (m0, .inr (4, [.ref n0, .ref n1, .ref n2, .int (nI cd), .int (nI dt), .ref e0, .ref e1, .int (nI rt), .ref e2, .ref e3, .ref e4, .int (nI sz9), .int (nI at9), .int (nI fl), .int pl, .int (nI (q + 1)), .ref e5])), (e4, .inl (cI, 400, .inl (aN (nup f q 0)))), (e5, .inl (cI, 4, .inl (aN (ds fw 0 4 ty))))] H := hP
              have hD : va_D A [(n0, .inl (cI, 16, .inl (aN fFI))), (n2, .inl (cI, 16, .inl (aN fFO))), (e0, .inl (cI, 672, .inl (aN dr))), (e1, .inl (cI, 16, .inl (aP g))), (m0, .inr (4, [.ref n0, .ref n1, .ref n2, .int (nI cd), .int (nI dt), .ref e0, .ref e1, .int (nI rt), .ref e2, .ref e3, .ref e4, .int (nI sz9), .int (nI at9), .int (nI fl), .int pl, .int (nI (q + 1)), .ref e5])), (e4, .inl (cI, 400, .inl (aN (nup f q 0)))), (e5, .inl (cI, 4, .inl (aN (ds fw 0 4 ty))))] := hD
              refine lv_iinc (v := nI (j + 1)) (lv' := [(6, .int (nI (j + 1))), (0, .ref m0), (2, .ref e0), (3, .ref e1), (4, .ref e4), (5, .int (nI 1))]) hx hb dM_write_116 hl (k := 5) rfl (zi_incr j 1) (by decide) rfl (fun ls hl => ?_)
              refine lv_goto (tgt := 81) hx hb dM_write_119 (by decide) ?_
              exact ih81 (j + 1) (q + 1) (nup f q 0) (by omega) (by omega) (by have h9 := hi9; rw [show 16 - j = 16 - (j + 1) + 1 by omega] at h9; exact h9) (by omega) _ _ _ (lv_sub hl [1, 2, 3, 4, 5, 0] rfl) (hP.sub [0, 1, 2, 3, 4, 5, 6] rfl) (hD.sub [0, 1, 2, 3, 4, 5, 6] (by decide) rfl) hS
        exact lp_81 ((16 - 0) + 1) 0 2 (apl tp 0 (anb ty 4)) (by omega) (by omega) rfl (Nat.lt_succ_self _) _ _ _ (lv_sub hl [1, 2, 3, 4, 5, 0] rfl) (hP.sub [0, 1, 2, 3, 4, 5, 6] rfl) (hD.sub [0, 1, 2, 3, 4, 5, 6] (by decide) rfl) hS
      · refine lv_iload hx hb dM_write_41 (lv_at hl 4 rfl) ?_
        refine zi_ne0 (tgt := 65) hx hb (by omega) dM_write_43 (by decide) (fun c_43 => ?_) (fun c_43 => ?_)
        · refine lv_iconst (v := nI 1) hx hb dM_write_65 (by decide) ?_
          refine lv_goto (tgt := 70) hx hb dM_write_66 (by decide) ?_
          refine lv_istore (lv' := [(5, .int (nI 1)), (0, .ref m0), (2, .ref e0), (3, .ref e1), (4, .ref e4), (6, .int (nI k))]) hx hb dM_write_70 hl (by decide) rfl (fun ls hl => ?_)
          have h8 : (1 : Nat) = 0 → s2L g (16 - (k + 1)) (k + 1) = true := fun z => absurd z (by decide)
          refine lv_iinc (v := nI (k + 1)) (lv' := [(6, .int (nI (k + 1))), (5, .int (nI 1)), (0, .ref m0), (2, .ref e0), (3, .ref e1), (4, .ref e4)]) hx hb dM_write_72 hl (k := 5) rfl (zi_incr k 1) (by decide) rfl (fun ls hl => ?_)
          refine lv_goto (tgt := 34) hx hb dM_write_75 (by decide) ?_
          exact ih34 (k + 1) 1 (by omega) (by omega) h8 (by omega) _ _ _ (lv_sub hl [2, 3, 4, 5, 1, 0] rfl) (hP.sub [0, 1, 2, 3, 4, 5, 6] rfl) (hD.sub [0, 1, 2, 3, 4, 5, 6] (by decide) rfl) hS
        · have hgk := hg k (by omega)
          have hmm := fMM_b k (by omega)
          have hfi := fFI_b k (by omega)
          refine lv_aload_n hx hb dM_write_46 rfl (lv_at hl 2 rfl) ?_
          refine lv_iload hx hb dM_write_47 (lv_at hl 5 rfl) ?_
          refine za_pld hx hb hK hP 3 0 rfl rfl (by omega) (by decide) dM_write_49 ?_
          refine zp_lt0 (tgt := 69) hx hb (by omega) dM_write_50 (by decide) (fun c_50 => ?_) (fun c_50 => ?_)
          · refine lv_iconst (v := nI 0) hx hb dM_write_69 (by decide) ?_
            refine lv_istore (lv' := [(5, .int (nI 0)), (0, .ref m0), (2, .ref e0), (3, .ref e1), (4, .ref e4), (6, .int (nI k))]) hx hb dM_write_70 hl (by decide) rfl (fun ls hl => ?_)
            have h8 : (0 : Nat) = 0 → s2L g (16 - (k + 1)) (k + 1) = true := fun _ => by have h9 := hi c_43; rw [show 16 - k = 16 - (k + 1) + 1 by omega] at h9; unfold s2L at h9; rw [if_neg (fun z => by first | exact absurd z.1 (Nat.not_lt.mpr c_62) | exact z.2 c_50)] at h9; exact h9
            refine lv_iinc (v := nI (k + 1)) (lv' := [(6, .int (nI (k + 1))), (5, .int (nI 0)), (0, .ref m0), (2, .ref e0), (3, .ref e1), (4, .ref e4)]) hx hb dM_write_72 hl (k := 5) rfl (zi_incr k 1) (by decide) rfl (fun ls hl => ?_)
            refine lv_goto (tgt := 34) hx hb dM_write_75 (by decide) ?_
            exact ih34 (k + 1) 0 (by omega) (by omega) h8 (by omega) _ _ _ (lv_sub hl [2, 3, 4, 5, 1, 0] rfl) (hP.sub [0, 1, 2, 3, 4, 5, 6] rfl) (hD.sub [0, 1, 2, 3, 4, 5, 6] (by decide) rfl) hS
          · refine lv_aload_n hx hb dM_write_53 rfl (lv_at hl 0 rfl) ?_
            refine va_get (D := (dC, dI)) (ci := 4) (v := .ref n0) (C := RM) (T := TM) (N := 17) hx hb hw inM hown hK hP 4 rfl rfl 0 (by decide) (hw _ w_fl_M_7) (fun _ h9 => h9) rfl dM_write_54 ?_
            refine lv_iload hx hb dM_write_57 (lv_at hl 5 rfl) ?_
            refine za_ild hx hb hK hP 0 0 rfl rfl (by omega) (by decide) dM_write_59 ?_
            refine lv_bipush (v := nI 64) hx hb dM_write_60 (by decide) ?_
            refine zi_le (tgt := 69) hx hb (by omega) (by omega) dM_write_62 (by decide) (fun c_62 => ?_) (fun c_62 => ?_)
            · refine lv_iconst (v := nI 0) hx hb dM_write_69 (by decide) ?_
              refine lv_istore (lv' := [(5, .int (nI 0)), (0, .ref m0), (2, .ref e0), (3, .ref e1), (4, .ref e4), (6, .int (nI k))]) hx hb dM_write_70 hl (by decide) rfl (fun ls hl => ?_)
              have h8 : (0 : Nat) = 0 → s2L g (16 - (k + 1)) (k + 1) = true := fun _ => by have h9 := hi c_43; rw [show 16 - k = 16 - (k + 1) + 1 by omega] at h9; unfold s2L at h9; rw [if_neg (fun z => by first | exact absurd z.1 (Nat.not_lt.mpr c_62) | exact z.2 c_50)] at h9; exact h9
              refine lv_iinc (v := nI (k + 1)) (lv' := [(6, .int (nI (k + 1))), (5, .int (nI 0)), (0, .ref m0), (2, .ref e0), (3, .ref e1), (4, .ref e4)]) hx hb dM_write_72 hl (k := 5) rfl (zi_incr k 1) (by decide) rfl (fun ls hl => ?_)
              refine lv_goto (tgt := 34) hx hb dM_write_75 (by decide) ?_
              exact ih34 (k + 1) 0 (by omega) (by omega) h8 (by omega) _ _ _ (lv_sub hl [2, 3, 4, 5, 1, 0] rfl) (hP.sub [0, 1, 2, 3, 4, 5, 6] rfl) (hD.sub [0, 1, 2, 3, 4, 5, 6] (by decide) rfl) hS
            · refine lv_iconst (v := nI 1) hx hb dM_write_65 (by decide) ?_
              refine lv_goto (tgt := 70) hx hb dM_write_66 (by decide) ?_
              refine lv_istore (lv' := [(5, .int (nI 1)), (0, .ref m0), (2, .ref e0), (3, .ref e1), (4, .ref e4), (6, .int (nI k))]) hx hb dM_write_70 hl (by decide) rfl (fun ls hl => ?_)
              have h8 : (1 : Nat) = 0 → s2L g (16 - (k + 1)) (k + 1) = true := fun z => absurd z (by decide)
              refine lv_iinc (v := nI (k + 1)) (lv' := [(6, .int (nI (k + 1))), (5, .int (nI 1)), (0, .ref m0), (2, .ref e0), (3, .ref e1), (4, .ref e4)]) hx hb dM_write_72 hl (k := 5) rfl (zi_incr k 1) (by decide) rfl (fun ls hl => ?_)
              refine lv_goto (tgt := 34) hx hb dM_write_75 (by decide) ?_
              exact ih34 (k + 1) 1 (by omega) (by omega) h8 (by omega) _ _ _ (lv_sub hl [2, 3, 4, 5, 1, 0] rfl) (hP.sub [0, 1, 2, 3, 4, 5, 6] rfl) (hD.sub [0, 1, 2, 3, 4, 5, 6] (by decide) rfl) hS
  exact lp_34 ((16 - 0) + 1) 0 0 (by omega) (by omega) (fun _ => hd) (Nat.lt_succ_self _) _ _ _ (lv_sub hl [2, 4, 5, 6, 1, 0] rfl) (hP.sub [0, 1, 2, 3, 4, 5, 6] rfl) (hD.sub [0, 1, 2, 3, 4, 5, 6] (by decide) rfl) hS
def rm_c_Mwrite_one : Room := ({ frames := 2, cells := 0, slots := 0, locals := 53 } : Room)
set_option maxHeartbeats 4000000 in
set_option maxRecDepth 100000 in
theorem c_Mwrite_one (l : Launch) (dC : Nat → ClassId) (dI : Nat → Nat → Nat) (m0 : Nat) (n0 : Nat) (n1 : Nat) (n2 : Nat) (cd : Nat) (dt : Nat) (e0 : Nat) (e1 : Nat) (rt : Nat) (e2 : Nat) (e3 : Nat) (e4 : Nat) (sz9 : Nat) (at9 : Nat) (fl : Nat) (pl : Int32) (wr : Nat) (e5 : Nat) (cI : ClassId) (cB : ClassId) (dr : Nat → Nat) (g : Nat → Nat) (tp : Nat → Nat) (fw : Nat → Nat) (ty : Nat) (hty : ty < 10000) (hg : ∀ j, j < 16 → g j ≤ fMM j + 1) (hd9 : ∀ k, k < 16 → fHL k ≠ 0 → ∀ j, j < g k - 1 → dr (42 * k + j) < 2 ^ 31) (hd : s2L g 16 0 = false) (sz : Nat) : Met l yM_write wsM_write rm_c_Mwrite_one (zM (dC, dI) [(cI, .int), (cB, .byte)] [.ref m0, .int (nI ty), .ref e0, .ref e1, .ref e4] [(m0, .inr (4, [.ref n0, .ref n1, .ref n2, .int (nI cd), .int (nI dt), .ref e0, .ref e1, .int (nI rt), .ref e2, .ref e3, .ref e4, .int (nI sz9), .int (nI at9), .int (nI fl), .int pl, .int (nI wr), .ref e5])), (n0, .inl (cI, 16, .inl (aN fFI))), (n2, .inl (cI, 16, .inl (aN fFO))), (e0, .inl (cI, 672, .inl (aN dr))), (e1, .inl (cI, 16, .inl (aP g))), (e4, .inl (cI, 400, .inl (aN tp))), (e5, .inl (cI, 4, .inl (aN fw)))] sz) (zSv (dC, dI) [(m0, .inr (4, [.ref n0, .ref n1, .ref n2, .int (nI cd), .int (nI dt), .ref e0, .ref e1, .int (nI rt), .ref e2, .ref e3, .ref e4, .int (nI sz9), .int (nI at9), .int (nI fl), .int pl, .int (nI wr), .ref e5])), (n0, .inl (cI, 16, .inl (aN fFI))), (n2, .inl (cI, 16, .inl (aN fFO))), (e0, .inl (cI, 672, .inl (aN dr))), (e1, .inl (cI, 16, .inl (aP g))), (e4, .inl (cI, 400, .inl (aN tp))), (e5, .inl (cI, 4, .inl (aN fw)))] sz (fun (u : Nat → Nat) => True) (fun u => [(m0, .inr (4, [.ref n0, .ref n1, .ref n2, .int (nI cd), .int (nI dt), .ref e0, .ref e1, .int (nI rt), .ref e2, .ref e3, .ref e4, .int (nI sz9), .int (nI at9), .int (nI fl), .int pl, .int (nI (wrQ g dr 16 0 10)), .ref e5])), (n0, .inl (cI, 16, .inl (aN fFI))), (n2, .inl (cI, 16, .inl (aN fFO))), (e0, .inl (cI, 672, .inl (aN dr))), (e1, .inl (cI, 16, .inl (aP g))), (e4, .inl (cI, 400, .inl (aN (wrT g dr 16 0 10 (nup (apl (apl tp 0 (anb ty 4)) 2 (List.replicate 8 0)) 2 0))))), (e5, .inl (cI, 4, .inl (aN u)))])) 0 0 (va_A [(m0, .inr (4, [.ref n0, .ref n1, .ref n2, .int (nI cd), .int (nI dt), .ref e0, .ref e1, .int (nI rt), .ref e2, .ref e3, .ref e4, .int (nI sz9), .int (nI at9), .int (nI fl), .int pl, .int (nI wr), .ref e5])), (n0, .inl (cI, 16, .inl (aN fFI))), (n2, .inl (cI, 16, .inl (aN fFO))), (e0, .inl (cI, 672, .inl (aN dr))), (e1, .inl (cI, 16, .inl (aP g))), (e4, .inl (cI, 400, .inl (aN tp))), (e5, .inl (cI, 4, .inl (aN fw)))] sz) := by
  refine Met.ofW (cc := cM_write) (maxL := 8) (ret := none) (by decide) rfl ?_
  intro p e s m args below meth c s₁ Bd hml hv
  obtain ⟨rfl, hsz, hG, hP, hK, hD0⟩ := hv
  subst hsz
  have hx := Bd.exec
  have hb := Bd.bytes
  have hr := Bd.returns
  have hts := atoms_spec (ws := wsM_write) Bd.pre
  have hw : ∀ w ∈ BIG, w.before _ s = true := fun w h => hts w (List.mem_cons_of_mem _ h)
  have hown : s.vm.findClass RM = some m.cls := findClass_of_methodNamed Bd.named
  have hlocks := Bd.notSynchronized
  have hD := hD0.self (sz := s.heap.size)
  obtain ⟨A, hAe⟩ : ∃ A, A = va_A [(m0, .inr (4, [.ref n0, .ref n1, .ref n2, .int (nI cd), .int (nI dt), .ref e0, .ref e1, .int (nI rt), .ref e2, .ref e3, .ref e4, .int (nI sz9), .int (nI at9), .int (nI fl), .int pl, .int (nI wr), .ref e5])), (n0, .inl (cI, 16, .inl (aN fFI))), (n2, .inl (cI, 16, .inl (aN fFO))), (e0, .inl (cI, 672, .inl (aN dr))), (e1, .inl (cI, 16, .inl (aP g))), (e4, .inl (cI, 400, .inl (aN tp))), (e5, .inl (cI, 4, .inl (aN fw)))] s.heap.size := ⟨_, rfl⟩
  have hA : ∀ q : Nat, s.heap.size ≤ q → A q := fun q h => by rw [hAe]; exact Or.inr h
  rw [← hAe] at hG hD
  have hS : va_S A s.heap s.heap [] := va_S.rf
  have hl := lv_entry ([.ref m0, .int (nI ty), .ref e0, .ref e1, .ref e4]) (n := 8) (Nat.le_of_ble_eq_true rfl)
  rw [lg_entry_eq]
  generalize (lg_sl ([.ref m0, .int (nI ty), .ref e0, .ref e1, .ref e4]) ++ List.replicate (8 - (lg_sl ([.ref m0, .int (nI ty), .ref e0, .ref e1, .ref e4])).length) Slot.unset).toArray = ls at hl ⊢
  have hl : lv_has ls 8 [(0, .ref m0), (1, .int (nI ty)), (2, .ref e0), (3, .ref e1), (4, .ref e4)] := hl
  refine zq_name (fun Q hQ => ?_)
  change W p l e rm_c_Mwrite_one s m _ below meth c _ _ _ _ Q _
  refine lv_aload_n hx hb dM_write_0 rfl (lv_at hl 0 rfl) ?_
  refine lv_iconst (v := nI 0) hx hb dM_write_1 (by decide) ?_
  refine va_put (D := (dC, dI)) (ci := 4) (v := .int (nI 0)) (ty := .int) (C := RM) (T := TM) (N := 17) hx hb hw inM tyM tyM_ok nmM hown hK hP hD hS 0 rfl rfl 15 (by decide) (hw _ w_fl_M_84) (fun _ h9 => h9) rfl (by decide +kernel) rfl rfl (Nat.le_of_ble_eq_true rfl) dM_write_2 (fun H locs hP hD hS => ?_)
  have hP : va_P (dC, dI) vwCl [(m0, .inr (4, [.ref n0, .ref n1, .ref n2, .int (nI cd), .int (nI dt), .ref e0, .ref e1, .int (nI rt), .ref e2, .ref e3, .ref e4, .int (nI sz9), .int (nI at9), .int (nI fl), .int pl, .int (nI 0), .ref e5])), (n0, .inl (cI, 16, .inl (aN fFI))), (n2, .inl (cI, 16, .inl (aN fFO))), (e0, .inl (cI, 672, .inl (aN dr))), (e1, .inl (cI, 16, .inl (aP g))), (e4, .inl (cI, 400, .inl (aN tp))), (e5, .inl (cI, 4, .inl (aN fw)))] H := hP
  have hD : va_D A [(m0, .inr (4, [.ref n0, .ref n1, .ref n2, .int (nI cd), .int (nI dt), .ref e0, .ref e1, .int (nI rt), .ref e2, .ref e3, .ref e4, .int (nI sz9), .int (nI at9), .int (nI fl), .int pl, .int (nI 0), .ref e5])), (n0, .inl (cI, 16, .inl (aN fFI))), (n2, .inl (cI, 16, .inl (aN fFO))), (e0, .inl (cI, 672, .inl (aN dr))), (e1, .inl (cI, 16, .inl (aP g))), (e4, .inl (cI, 400, .inl (aN tp))), (e5, .inl (cI, 4, .inl (aN fw)))] := hD
  refine lv_aload_n hx hb dM_write_5 rfl (lv_at hl 0 rfl) ?_
  refine va_get (D := (dC, dI)) (ci := 4) (v := .ref e5) (C := RM) (T := TM) (N := 17) hx hb hw inM hown hK hP 0 rfl rfl 16 (by decide) (hw _ w_fl_M_38) (fun _ h9 => h9) rfl dM_write_6 ?_
  refine lv_iconst (v := nI 0) hx hb dM_write_9 (by decide) ?_
  refine lv_iload_n hx hb dM_write_10 rfl (lv_at hl 1 rfl) ?_
  refine zi_l hx hb (by omega) dM_write_11 ?_
  refine lv_iconst (v := nI 4) hx hb dM_write_12 (by decide) ?_
  have hPc := hP.sub (ws' := [(e5, .inl (cI, 4, .inl (aN fw)))]) [6] rfl
  have hDc := hD.sub (ws' := [(e5, .inl (cI, 4, .inl (aN fw)))]) [6] (by decide) rfl
  have hFc := va_free (wc := [(e5, .inl (cI, 4, .inl (aN fw)))]) hD hS hA [6] rfl
  refine zc_Mv (va_runS (As := [.ref e5, .int (nI 0), .long (lN ty), .int (nI 4)]) (rest := []) ⟨hx, hb, hml, hown, hw⟩ (c_M_setDigits l dC dI e5 cI cB 4 fw 0 ty 4 (by omega) (by omega) (by omega) H.size) (va_cwS 4 hw (gSt w_ml_M_62 w_st_M_setDigits w_in_M w_co_M_setDigits) rfl rfl rfl (by decide +kernel) ⟨Nat.le_of_ble_eq_true rfl, Nat.le_of_ble_eq_true rfl⟩) (zM_S hG hS hFc hPc hDc hK) rfl rfl hl.1 rfl (lv_room (Nat.le_of_ble_eq_true rfl)) dM_write_13 ⟨Nat.le_of_ble_eq_true rfl, Nat.le_of_ble_eq_true rfl⟩) hS hFc (fun H locs h_13 hP1 hD1 hk1 hS => ?_)
  obtain ⟨hP, hD⟩ := va_join (wr := [(m0, .inr (4, [.ref n0, .ref n1, .ref n2, .int (nI cd), .int (nI dt), .ref e0, .ref e1, .int (nI rt), .ref e2, .ref e3, .ref e4, .int (nI sz9), .int (nI at9), .int (nI fl), .int pl, .int (nI 0), .ref e5])), (n0, .inl (cI, 16, .inl (aN fFI))), (n2, .inl (cI, 16, .inl (aN fFO))), (e0, .inl (cI, 672, .inl (aN dr))), (e1, .inl (cI, 16, .inl (aP g))), (e4, .inl (cI, 400, .inl (aN tp)))]) (w1 := [(e5, .inl (cI, 4, .inl (aN (ds fw 0 4 ty))))]) hP hD [6] [0, 1, 2, 3, 4, 5] rfl rfl (by decide) (by decide) hk1 hFc hP1 hD1
  have hP : va_P (dC, dI) vwCl [(m0, .inr (4, [.ref n0, .ref n1, .ref n2, .int (nI cd), .int (nI dt), .ref e0, .ref e1, .int (nI rt), .ref e2, .ref e3, .ref e4, .int (nI sz9), .int (nI at9), .int (nI fl), .int pl, .int (nI 0), .ref e5])), (n0, .inl (cI, 16, .inl (aN fFI))), (n2, .inl (cI, 16, .inl (aN fFO))), (e0, .inl (cI, 672, .inl (aN dr))), (e1, .inl (cI, 16, .inl (aP g))), (e4, .inl (cI, 400, .inl (aN tp))), (e5, .inl (cI, 4, .inl (aN (ds fw 0 4 ty))))] H := hP
  have hD : va_D A [(m0, .inr (4, [.ref n0, .ref n1, .ref n2, .int (nI cd), .int (nI dt), .ref e0, .ref e1, .int (nI rt), .ref e2, .ref e3, .ref e4, .int (nI sz9), .int (nI at9), .int (nI fl), .int pl, .int (nI 0), .ref e5])), (n0, .inl (cI, 16, .inl (aN fFI))), (n2, .inl (cI, 16, .inl (aN fFO))), (e0, .inl (cI, 672, .inl (aN dr))), (e1, .inl (cI, 16, .inl (aP g))), (e4, .inl (cI, 400, .inl (aN tp))), (e5, .inl (cI, 4, .inl (aN (ds fw 0 4 ty))))] := hD
  refine lv_aload_n hx hb dM_write_16 rfl (lv_at hl 0 rfl) ?_
  refine lv_aload hx hb dM_write_17 (lv_at hl 4 rfl) ?_
  refine lv_aload_n hx hb dM_write_19 rfl (lv_at hl 0 rfl) ?_
  refine va_get (D := (dC, dI)) (ci := 4) (v := .ref e5) (C := RM) (T := TM) (N := 17) hx hb hw inM hown hK hP 0 rfl rfl 16 (by decide) (hw _ w_fl_M_38) (fun _ h9 => h9) rfl dM_write_20 ?_
  refine lv_iconst (v := nI 0) hx hb dM_write_23 (by decide) ?_
  refine lv_iconst (v := nI 4) hx hb dM_write_24 (by decide) ?_
  have hPc := hP.sub (ws' := [(m0, .inr (4, [.ref n0, .ref n1, .ref n2, .int (nI cd), .int (nI dt), .ref e0, .ref e1, .int (nI rt), .ref e2, .ref e3, .ref e4, .int (nI sz9), .int (nI at9), .int (nI fl), .int pl, .int (nI 0), .ref e5])), (e4, .inl (cI, 400, .inl (aN tp))), (e5, .inl (cI, 4, .inl (aN (ds fw 0 4 ty))))]) [0, 5, 6] rfl
  have hDc := hD.sub (ws' := [(m0, .inr (4, [.ref n0, .ref n1, .ref n2, .int (nI cd), .int (nI dt), .ref e0, .ref e1, .int (nI rt), .ref e2, .ref e3, .ref e4, .int (nI sz9), .int (nI at9), .int (nI fl), .int pl, .int (nI 0), .ref e5])), (e4, .inl (cI, 400, .inl (aN tp))), (e5, .inl (cI, 4, .inl (aN (ds fw 0 4 ty))))]) [0, 5, 6] (by decide) rfl
  have hFc := va_free (wc := [(m0, .inr (4, [.ref n0, .ref n1, .ref n2, .int (nI cd), .int (nI dt), .ref e0, .ref e1, .int (nI rt), .ref e2, .ref e3, .ref e4, .int (nI sz9), .int (nI at9), .int (nI fl), .int pl, .int (nI 0), .ref e5])), (e4, .inl (cI, 400, .inl (aN tp))), (e5, .inl (cI, 4, .inl (aN (ds fw 0 4 ty))))]) hD hS hA [0, 5, 6] rfl
  refine zc_Mv (va_runV (As := [.ref e4, .ref e5, .int (nI 0), .int (nI 4)]) (rest := []) ⟨hx, hb, hml, hown, hw⟩ (c_M_pack l dC dI m0 n0 n1 n2 cd dt e0 e1 rt e2 e3 e4 sz9 at9 fl pl 0 e5 cI cB e5 4 (ds fw 0 4 ty) tp 0 4 (by omega) (by omega) (by omega) H.size) (cwV 4 hw (gV w_ml_M_87 w_im_M_pack w_se_M_pack w_in_M w_co_M_pack) rfl rfl rfl (by decide +kernel) ⟨Nat.le_of_ble_eq_true rfl, Nat.le_of_ble_eq_true rfl⟩) (zM_V hG hS hFc hPc hDc hK 0 rfl rfl) rfl rfl hl.1 rfl (lv_room (Nat.le_of_ble_eq_true rfl)) dM_write_25 ⟨Nat.le_of_ble_eq_true rfl, Nat.le_of_ble_eq_true rfl⟩) hS hFc (fun H locs h_25 hP1 hD1 hk1 hS => ?_)
  obtain ⟨hP, hD⟩ := va_join (wr := [(n0, .inl (cI, 16, .inl (aN fFI))), (n2, .inl (cI, 16, .inl (aN fFO))), (e0, .inl (cI, 672, .inl (aN dr))), (e1, .inl (cI, 16, .inl (aP g)))]) (w1 := [(m0, .inr (4, [.ref n0, .ref n1, .ref n2, .int (nI cd), .int (nI dt), .ref e0, .ref e1, .int (nI rt), .ref e2, .ref e3, .ref e4, .int (nI sz9), .int (nI at9), .int (nI fl), .int pl, .int (nI (0 + (dgB (ds fw 0 4 ty) 0 4).length)), .ref e5])), (e4, .inl (cI, 400, .inl (aN (apl tp 0 (dgB (ds fw 0 4 ty) 0 4))))), (e5, .inl (cI, 4, .inl (aN (ds fw 0 4 ty))))]) hP hD [0, 5, 6] [1, 2, 3, 4] rfl rfl (by decide) (by decide) hk1 hFc hP1 hD1
  have hP : va_P (dC, dI) vwCl [(n0, .inl (cI, 16, .inl (aN fFI))), (n2, .inl (cI, 16, .inl (aN fFO))), (e0, .inl (cI, 672, .inl (aN dr))), (e1, .inl (cI, 16, .inl (aP g))), (m0, .inr (4, [.ref n0, .ref n1, .ref n2, .int (nI cd), .int (nI dt), .ref e0, .ref e1, .int (nI rt), .ref e2, .ref e3, .ref e4, .int (nI sz9), .int (nI at9), .int (nI fl), .int pl, .int (nI (0 + (dgB (ds fw 0 4 ty) 0 4).length)), .ref e5])), (e4, .inl (cI, 400, .inl (aN (apl tp 0 (dgB (ds fw 0 4 ty) 0 4))))), (e5, .inl (cI, 4, .inl (aN (ds fw 0 4 ty))))] H := hP
  have hD : va_D A [(n0, .inl (cI, 16, .inl (aN fFI))), (n2, .inl (cI, 16, .inl (aN fFO))), (e0, .inl (cI, 672, .inl (aN dr))), (e1, .inl (cI, 16, .inl (aP g))), (m0, .inr (4, [.ref n0, .ref n1, .ref n2, .int (nI cd), .int (nI dt), .ref e0, .ref e1, .int (nI rt), .ref e2, .ref e3, .ref e4, .int (nI sz9), .int (nI at9), .int (nI fl), .int pl, .int (nI (0 + (dgB (ds fw 0 4 ty) 0 4).length)), .ref e5])), (e4, .inl (cI, 400, .inl (aN (apl tp 0 (dgB (ds fw 0 4 ty) 0 4))))), (e5, .inl (cI, 4, .inl (aN (ds fw 0 4 ty))))] := hD
  have e9 := pk4 fw hty
  rw [e9] at hP hD
  have e8 : (anb ty 4).length = 2 := rfl
  rw [e8] at hP hD
  have hP : va_P (dC, dI) vwCl [(n0, .inl (cI, 16, .inl (aN fFI))), (n2, .inl (cI, 16, .inl (aN fFO))), (e0, .inl (cI, 672, .inl (aN dr))), (e1, .inl (cI, 16, .inl (aP g))), (m0, .inr (4, [.ref n0, .ref n1, .ref n2, .int (nI cd), .int (nI dt), .ref e0, .ref e1, .int (nI rt), .ref e2, .ref e3, .ref e4, .int (nI sz9), .int (nI at9), .int (nI fl), .int pl, .int (nI 2), .ref e5])), (e4, .inl (cI, 400, .inl (aN (apl tp 0 (anb ty 4))))), (e5, .inl (cI, 4, .inl (aN (ds fw 0 4 ty))))] H := hP
  have hD : va_D A [(n0, .inl (cI, 16, .inl (aN fFI))), (n2, .inl (cI, 16, .inl (aN fFO))), (e0, .inl (cI, 672, .inl (aN dr))), (e1, .inl (cI, 16, .inl (aP g))), (m0, .inr (4, [.ref n0, .ref n1, .ref n2, .int (nI cd), .int (nI dt), .ref e0, .ref e1, .int (nI rt), .ref e2, .ref e3, .ref e4, .int (nI sz9), .int (nI at9), .int (nI fl), .int pl, .int (nI 2), .ref e5])), (e4, .inl (cI, 400, .inl (aN (apl tp 0 (anb ty 4))))), (e5, .inl (cI, 4, .inl (aN (ds fw 0 4 ty))))] := hD
  refine lv_iconst (v := nI 0) hx hb dM_write_28 (by decide) ?_
  refine lv_istore (lv' := [(5, .int (nI 0)), (0, .ref m0), (1, .int (nI ty)), (2, .ref e0), (3, .ref e1), (4, .ref e4)]) hx hb dM_write_29 hl (by decide) rfl (fun ls hl => ?_)
  refine lv_iconst (v := nI 0) hx hb dM_write_31 (by decide) ?_
  refine lv_istore (lv' := [(6, .int (nI 0)), (5, .int (nI 0)), (0, .ref m0), (1, .int (nI ty)), (2, .ref e0), (3, .ref e1), (4, .ref e4)]) hx hb dM_write_32 hl (by decide) rfl (fun ls hl => ?_)
  have lp_34 : ∀ (fu : Nat) (k : Nat) (hk : k ≤ 16) (hi : s2L g (16 - k) k = false) (hms : 16 - k < fu) (H : Heap) (locs : List Loc) (ls : Array Slot), lv_has ls 8 [(0, .ref m0), (2, .ref e0), (3, .ref e1), (4, .ref e4), (5, .int (nI 0)), (6, .int (nI k))] → va_P (dC, dI) vwCl [(n0, .inl (cI, 16, .inl (aN fFI))), (n2, .inl (cI, 16, .inl (aN fFO))), (e0, .inl (cI, 672, .inl (aN dr))), (e1, .inl (cI, 16, .inl (aP g))), (m0, .inr (4, [.ref n0, .ref n1, .ref n2, .int (nI cd), .int (nI dt), .ref e0, .ref e1, .int (nI rt), .ref e2, .ref e3, .ref e4, .int (nI sz9), .int (nI at9), .int (nI fl), .int pl, .int (nI 2), .ref e5])), (e4, .inl (cI, 400, .inl (aN (apl tp 0 (anb ty 4))))), (e5, .inl (cI, 4, .inl (aN (ds fw 0 4 ty))))] H → va_D A [(n0, .inl (cI, 16, .inl (aN fFI))), (n2, .inl (cI, 16, .inl (aN fFO))), (e0, .inl (cI, 672, .inl (aN dr))), (e1, .inl (cI, 16, .inl (aP g))), (m0, .inr (4, [.ref n0, .ref n1, .ref n2, .int (nI cd), .int (nI dt), .ref e0, .ref e1, .int (nI rt), .ref e2, .ref e3, .ref e4, .int (nI sz9), .int (nI at9), .int (nI fl), .int pl, .int (nI 2), .ref e5])), (e4, .inl (cI, 400, .inl (aN (apl tp 0 (anb ty 4))))), (e5, .inl (cI, 4, .inl (aN (ds fw 0 4 ty))))] → va_S A s.heap H locs → W p l e rm_c_Mwrite_one s m ([.ref m0, .int (nI ty), .ref e0, .ref e1, .ref e4] : List Value).toArray below meth c H locs 0 0 Q (F0 m 34 ls []) := by
    intro fu
    induction fu with
    | zero => intro k hk hi hms; exact absurd hms (Nat.not_lt_zero _)
    | succ fu ih34 =>
      intro k hk hi hms H locs ls hl hP hD hS
      refine lv_iload hx hb dM_write_34 (lv_at hl 5 rfl) ?_
      refine lv_bipush (v := nI 16) hx hb dM_write_36 (by decide) ?_
      refine zi_ge (tgt := 78) hx hb (by omega) (by omega) dM_write_38 (by decide) (fun c_38 => ?_) (fun c_38 => ?_)
      · refine lv_iconst (v := nI 0) hx hb dM_write_78 (by decide) ?_
        refine lv_istore (lv' := [(6, .int (nI 0)), (0, .ref m0), (2, .ref e0), (3, .ref e1), (4, .ref e4), (5, .int (nI 0))]) hx hb dM_write_79 hl (by decide) rfl (fun ls hl => ?_)
        have lp_81 : ∀ (fu : Nat) (j : Nat) (q : Nat) (f : Nat → Nat) (hj : j ≤ 8) (hq : q = 2 + j) (hi9 : apl f q (List.replicate (8 - j) 0) = apl (apl tp 0 (anb ty 4)) 2 (List.replicate 8 0)) (hms : 8 - j < fu) (H : Heap) (locs : List Loc) (ls : Array Slot), lv_has ls 8 [(0, .ref m0), (2, .ref e0), (3, .ref e1), (4, .ref e4), (5, .int (nI 0)), (6, .int (nI j))] → va_P (dC, dI) vwCl [(n0, .inl (cI, 16, .inl (aN fFI))), (n2, .inl (cI, 16, .inl (aN fFO))), (e0, .inl (cI, 672, .inl (aN dr))), (e1, .inl (cI, 16, .inl (aP g))), (m0, .inr (4, [.ref n0, .ref n1, .ref n2, .int (nI cd), .int (nI dt), .ref e0, .ref e1, .int (nI rt), .ref e2, .ref e3, .ref e4, .int (nI sz9), .int (nI at9), .int (nI fl), .int pl, .int (nI q), .ref e5])), (e4, .inl (cI, 400, .inl (aN f))), (e5, .inl (cI, 4, .inl (aN (ds fw 0 4 ty))))] H → va_D A [(n0, .inl (cI, 16, .inl (aN fFI))), (n2, .inl (cI, 16, .inl (aN fFO))), (e0, .inl (cI, 672, .inl (aN dr))), (e1, .inl (cI, 16, .inl (aP g))), (m0, .inr (4, [.ref n0, .ref n1, .ref n2, .int (nI cd), .int (nI dt), .ref e0, .ref e1, .int (nI rt), .ref e2, .ref e3, .ref e4, .int (nI sz9), .int (nI at9), .int (nI fl), .int pl, .int (nI q), .ref e5])), (e4, .inl (cI, 400, .inl (aN f))), (e5, .inl (cI, 4, .inl (aN (ds fw 0 4 ty))))] → va_S A s.heap H locs → W p l e rm_c_Mwrite_one s m ([.ref m0, .int (nI ty), .ref e0, .ref e1, .ref e4] : List Value).toArray below meth c H locs 0 0 Q (F0 m 81 ls []) := by
          intro fu
          induction fu with
          | zero => intro j q f hj hq hi9 hms; exact absurd hms (Nat.not_lt_zero _)
          | succ fu ih81 =>
            intro j q f hj hq hi9 hms H locs ls hl hP hD hS
            refine lv_iload hx hb dM_write_81 (lv_at hl 5 rfl) ?_
            refine lv_iload hx hb dM_write_83 (lv_at hl 4 rfl) ?_
            refine lv_if_eq (tgt := 93) hx hb dM_write_85 (by decide) (fun c_85 => ?_) (fun q => False.elim (absurd q (by decide)))
            refine lv_bipush (v := nI 8) hx hb dM_write_93 (by decide) ?_
            refine zi_ge (tgt := 122) hx hb (by omega) (by omega) dM_write_95 (by decide) (fun c_95 => ?_) (fun c_95 => ?_)
            · have hi9 : f = apl (apl tp 0 (anb ty 4)) 2 (List.replicate 8 0) := by have h9 := hi9; rw [show 8 - j = 0 by omega] at h9; exact h9
              obtain rfl : j = 8 := by omega
              subst hi9
              subst hq
              refine lv_aload hx hb dM_write_122 (lv_at hl 3 rfl) ?_
              refine lv_iconst (v := nI 2) hx hb dM_write_124 (by decide) ?_
              refine lv_iload hx hb dM_write_125 (lv_at hl 4 rfl) ?_
              refine lv_if_eq (tgt := 136) hx hb dM_write_127 (by decide) (fun c_127 => ?_) (fun q => False.elim (absurd q (by decide)))
              refine lv_iconst (v := nI 0) hx hb dM_write_136 (by decide) ?_
              refine za_ist hx hb hK hP hD hS 5 0 rfl rfl (by omega) (by decide) dM_write_137 (fun H locs hP hD hS => ?_)
              have hP : va_P (dC, dI) vwCl [(n0, .inl (cI, 16, .inl (aN fFI))), (n2, .inl (cI, 16, .inl (aN fFO))), (e0, .inl (cI, 672, .inl (aN dr))), (e1, .inl (cI, 16, .inl (aP g))), (m0, .inr (4, [.ref n0, .ref n1, .ref n2, .int (nI cd), .int (nI dt), .ref e0, .ref e1, .int (nI rt), .ref e2, .ref e3, .ref e4, .int (nI sz9), .int (nI at9), .int (nI fl), .int pl, .int (nI (2 + 8)), .ref e5])), (e4, .inl (cI, 400, .inl (aN (nup (apl (apl tp 0 (anb ty 4)) 2 (List.replicate 8 0)) 2 0)))), (e5, .inl (cI, 4, .inl (aN (ds fw 0 4 ty))))] H := hP
              have hD : va_D A [(n0, .inl (cI, 16, .inl (aN fFI))), (n2, .inl (cI, 16, .inl (aN fFO))), (e0, .inl (cI, 672, .inl (aN dr))), (e1, .inl (cI, 16, .inl (aP g))), (m0, .inr (4, [.ref n0, .ref n1, .ref n2, .int (nI cd), .int (nI dt), .ref e0, .ref e1, .int (nI rt), .ref e2, .ref e3, .ref e4, .int (nI sz9), .int (nI at9), .int (nI fl), .int pl, .int (nI (2 + 8)), .ref e5])), (e4, .inl (cI, 400, .inl (aN (nup (apl (apl tp 0 (anb ty 4)) 2 (List.replicate 8 0)) 2 0)))), (e5, .inl (cI, 4, .inl (aN (ds fw 0 4 ty))))] := hD
              refine lv_iconst (v := nI 0) hx hb dM_write_138 (by decide) ?_
              refine lv_istore (lv' := [(6, .int (nI 0)), (0, .ref m0), (2, .ref e0), (3, .ref e1), (4, .ref e4), (5, .int (nI 0))]) hx hb dM_write_139 hl (by decide) rfl (fun ls hl => ?_)
              have hP : va_P (dC, dI) vwCl [(n0, .inl (cI, 16, .inl (aN fFI))), (n2, .inl (cI, 16, .inl (aN fFO))), (e0, .inl (cI, 672, .inl (aN dr))), (e1, .inl (cI, 16, .inl (aP g))), (m0, .inr (4, [.ref n0, .ref n1, .ref n2, .int (nI cd), .int (nI dt), .ref e0, .ref e1, .int (nI rt), .ref e2, .ref e3, .ref e4, .int (nI sz9), .int (nI at9), .int (nI fl), .int pl, .int (nI 10), .ref e5])), (e4, .inl (cI, 400, .inl (aN (nup (apl (apl tp 0 (anb ty 4)) 2 (List.replicate 8 0)) 2 0)))), (e5, .inl (cI, 4, .inl (aN (ds fw 0 4 ty))))] H := hP
              have hD : va_D A [(n0, .inl (cI, 16, .inl (aN fFI))), (n2, .inl (cI, 16, .inl (aN fFO))), (e0, .inl (cI, 672, .inl (aN dr))), (e1, .inl (cI, 16, .inl (aP g))), (m0, .inr (4, [.ref n0, .ref n1, .ref n2, .int (nI cd), .int (nI dt), .ref e0, .ref e1, .int (nI rt), .ref e2, .ref e3, .ref e4, .int (nI sz9), .int (nI at9), .int (nI fl), .int pl, .int (nI 10), .ref e5])), (e4, .inl (cI, 400, .inl (aN (nup (apl (apl tp 0 (anb ty 4)) 2 (List.replicate 8 0)) 2 0)))), (e5, .inl (cI, 4, .inl (aN (ds fw 0 4 ty))))] := hD
              have lp_141 : ∀ (fu : Nat) (k : Nat) (q : Nat) (f : Nat → Nat) (w9 : Nat → Nat) (hk : k ≤ 16) (hr9 : q + fRM k ≤ 162) (hn : wrQ g dr (16 - k) k q = wrQ g dr 16 0 10) (hi : wrT g dr (16 - k) k q f = wrT g dr 16 0 10 (nup (apl (apl tp 0 (anb ty 4)) 2 (List.replicate 8 0)) 2 0)) (hms : 16 - k < fu) (H : Heap) (locs : List Loc) (ls : Array Slot), lv_has ls 8 [(0, .ref m0), (2, .ref e0), (3, .ref e1), (4, .ref e4), (6, .int (nI k))] → va_P (dC, dI) vwCl [(n0, .inl (cI, 16, .inl (aN fFI))), (n2, .inl (cI, 16, .inl (aN fFO))), (e0, .inl (cI, 672, .inl (aN dr))), (e1, .inl (cI, 16, .inl (aP g))), (m0, .inr (4, [.ref n0, .ref n1, .ref n2, .int (nI cd), .int (nI dt), .ref e0, .ref e1, .int (nI rt), .ref e2, .ref e3, .ref e4, .int (nI sz9), .int (nI at9), .int (nI fl), .int pl, .int (nI q), .ref e5])), (e4, .inl (cI, 400, .inl (aN f))), (e5, .inl (cI, 4, .inl (aN w9)))] H → va_D A [(n0, .inl (cI, 16, .inl (aN fFI))), (n2, .inl (cI, 16, .inl (aN fFO))), (e0, .inl (cI, 672, .inl (aN dr))), (e1, .inl (cI, 16, .inl (aP g))), (m0, .inr (4, [.ref n0, .ref n1, .ref n2, .int (nI cd), .int (nI dt), .ref e0, .ref e1, .int (nI rt), .ref e2, .ref e3, .ref e4, .int (nI sz9), .int (nI at9), .int (nI fl), .int pl, .int (nI q), .ref e5])), (e4, .inl (cI, 400, .inl (aN f))), (e5, .inl (cI, 4, .inl (aN w9)))] → va_S A s.heap H locs → W p l e rm_c_Mwrite_one s m ([.ref m0, .int (nI ty), .ref e0, .ref e1, .ref e4] : List Value).toArray below meth c H locs 0 0 Q (F0 m 141 ls []) := by
                intro fu
                induction fu with
                | zero => intro k q f w9 hk hr9 hn hi hms; exact absurd hms (Nat.not_lt_zero _)
                | succ fu ih141 =>
                  intro k q f w9 hk hr9 hn hi hms H locs ls hl hP hD hS
                  refine lv_iload hx hb dM_write_141 (lv_at hl 4 rfl) ?_
                  refine lv_bipush (v := nI 16) hx hb dM_write_143 (by decide) ?_
                  refine zi_ge (tgt := 207) hx hb (by omega) (by omega) dM_write_145 (by decide) (fun c_145 => ?_) (fun c_145 => ?_)
                  · have hi : f = wrT g dr 16 0 10 (nup (apl (apl tp 0 (anb ty 4)) 2 (List.replicate 8 0)) 2 0) := by have h9 := hi; rw [show 16 - k = 0 by omega] at h9; exact h9
                    have hn : q = wrQ g dr 16 0 10 := by have h9 := hn; rw [show 16 - k = 0 by omega] at h9; exact h9
                    subst hi
                    subst hn
                    subst hAe
                    subst hQ
                    exact W.vret hx hb hr (fun t ht hW => ⟨⟨w9, rfl, trivial, by rw [ht]; exact hP.sub [4, 0, 1, 2, 3, 5, 6] rfl, hD.sub [4, 0, 1, 2, 3, 5, 6] (by decide) rfl⟩, hS.F ht⟩) hS.2.2 dM_write_207
                  · have hgk := hg k (by omega)
                    have hmm := fMM_b k (by omega)
                    have hfi := fFI_b k (by omega)
                    refine lv_aload_n hx hb dM_write_148 rfl (lv_at hl 2 rfl) ?_
                    refine lv_iload hx hb dM_write_149 (lv_at hl 4 rfl) ?_
                    refine za_pld hx hb hK hP 3 0 rfl rfl (by omega) (by decide) dM_write_151 ?_
                    refine zp_lt0 (tgt := 201) hx hb (by omega) dM_write_152 (by decide) (fun c_152 => ?_) (fun c_152 => ?_)
                    · have hrs := fRM_s k (by omega)
                      have h8 := hi
                      rw [show 16 - k = 16 - (k + 1) + 1 by omega] at h8
                      unfold wrT at h8
                      rw [if_pos c_152] at h8
                      have h7 := hn
                      rw [show 16 - k = 16 - (k + 1) + 1 by omega] at h7
                      unfold wrQ at h7
                      rw [if_pos c_152] at h7
                      refine lv_iinc (v := nI (k + 1)) (lv' := [(6, .int (nI (k + 1))), (0, .ref m0), (2, .ref e0), (3, .ref e1), (4, .ref e4)]) hx hb dM_write_201 hl (k := 4) rfl (zi_incr k 1) (by decide) rfl (fun ls hl => ?_)
                      refine lv_goto (tgt := 141) hx hb dM_write_204 (by decide) ?_
                      exact ih141 (k + 1) q f w9 (by omega) (by omega) h7 h8 (by omega) _ _ _ (lv_sub hl [1, 2, 3, 4, 0] rfl) (hP.sub [0, 1, 2, 3, 4, 5, 6] rfl) (hD.sub [0, 1, 2, 3, 4, 5, 6] (by decide) rfl) hS
                    · refine lv_aload_n hx hb dM_write_155 rfl (lv_at hl 0 rfl) ?_
                      refine va_get (D := (dC, dI)) (ci := 4) (v := .ref n0) (C := RM) (T := TM) (N := 17) hx hb hw inM hown hK hP 4 rfl rfl 0 (by decide) (hw _ w_fl_M_7) (fun _ h9 => h9) rfl dM_write_156 ?_
                      refine lv_iload hx hb dM_write_159 (lv_at hl 4 rfl) ?_
                      refine za_ild hx hb hK hP 0 0 rfl rfl (by omega) (by decide) dM_write_161 ?_
                      refine lv_iconst (v := nI 1) hx hb dM_write_162 (by decide) ?_
                      refine zi_sub hx hb (by omega) dM_write_163 ?_
                      refine lv_istore (lv' := [(7, .int (nI ((fFI k) - 1))), (0, .ref m0), (2, .ref e0), (3, .ref e1), (4, .ref e4), (6, .int (nI k))]) hx hb dM_write_164 hl (by decide) rfl (fun ls hl => ?_)
                      refine lv_aload hx hb dM_write_166 (lv_at hl 4 rfl) ?_
                      refine lv_iconst (v := nI 2) hx hb dM_write_168 (by decide) ?_
                      refine lv_iload hx hb dM_write_169 (lv_at hl 0 rfl) ?_
                      refine lv_bipush (v := nI 8) hx hb dM_write_171 (by decide) ?_
                      refine zi_div hx hb (by omega) (by omega) (by omega) dM_write_173 ?_
                      refine zi_add hx hb dM_write_174 ?_
                      refine lv_dup2_11 hx hb dM_write_175 rfl rfl ?_
                      refine za_ild hx hb hK hP 5 0 rfl rfl (by omega) (by decide) dM_write_176 ?_
                      refine lv_sipush (v := nI 128) hx hb dM_write_177 (by decide) ?_
                      refine lv_iload hx hb dM_write_180 (lv_at hl 0 rfl) ?_
                      refine lv_bipush (v := nI 8) hx hb dM_write_182 (by decide) ?_
                      refine zi_rem hx hb (by omega) (by omega) (by omega) dM_write_184 ?_
                      refine lv_ishr hx hb dM_write_185 ?_
                      refine zi_v (b := nI (128 / 2 ^ ((fFI k - 1) % 8))) (shr_N (by decide) (by omega)) ?_
                      refine zi_add hx hb dM_write_186 ?_
                      refine za_ist hx hb hK hP hD hS 5 0 rfl rfl (by omega) (by decide) dM_write_187 (fun H locs hP hD hS => ?_)
                      have hP : va_P (dC, dI) vwCl [(n0, .inl (cI, 16, .inl (aN fFI))), (n2, .inl (cI, 16, .inl (aN fFO))), (e0, .inl (cI, 672, .inl (aN dr))), (e1, .inl (cI, 16, .inl (aP g))), (m0, .inr (4, [.ref n0, .ref n1, .ref n2, .int (nI cd), .int (nI dt), .ref e0, .ref e1, .int (nI rt), .ref e2, .ref e3, .ref e4, .int (nI sz9), .int (nI at9), .int (nI fl), .int pl, .int (nI q), .ref e5])), (e4, .inl (cI, 400, .inl (aN (nup f (2 + (((fFI k) - 1) / 8)) ((f (2 + (((fFI k) - 1) / 8))) + (128 / 2 ^ ((fFI k - 1) % 8))))))), (e5, .inl (cI, 4, .inl (aN w9)))] H := hP
                      have hD : va_D A [(n0, .inl (cI, 16, .inl (aN fFI))), (n2, .inl (cI, 16, .inl (aN fFO))), (e0, .inl (cI, 672, .inl (aN dr))), (e1, .inl (cI, 16, .inl (aP g))), (m0, .inr (4, [.ref n0, .ref n1, .ref n2, .int (nI cd), .int (nI dt), .ref e0, .ref e1, .int (nI rt), .ref e2, .ref e3, .ref e4, .int (nI sz9), .int (nI at9), .int (nI fl), .int pl, .int (nI q), .ref e5])), (e4, .inl (cI, 400, .inl (aN (nup f (2 + (((fFI k) - 1) / 8)) ((f (2 + (((fFI k) - 1) / 8))) + (128 / 2 ^ ((fFI k - 1) % 8))))))), (e5, .inl (cI, 4, .inl (aN w9)))] := hD
                      refine lv_aload_n hx hb dM_write_188 rfl (lv_at hl 1 rfl) ?_
                      refine lv_iload hx hb dM_write_189 (lv_at hl 5 rfl) ?_
                      refine lv_aload_n hx hb dM_write_191 rfl (lv_at hl 2 rfl) ?_
                      refine lv_aload_n hx hb dM_write_192 rfl (lv_at hl 3 rfl) ?_
                      refine lv_iload hx hb dM_write_193 (lv_at hl 5 rfl) ?_
                      refine za_pld hx hb hK hP 3 0 rfl rfl (by omega) (by decide) dM_write_195 ?_
                      refine zi_v (b := nI (g k - 1)) (pm_nat (by omega)) ?_
                      refine lv_aload hx hb dM_write_196 (lv_at hl 4 rfl) ?_
                      have hPc := hP.sub (ws' := [(m0, .inr (4, [.ref n0, .ref n1, .ref n2, .int (nI cd), .int (nI dt), .ref e0, .ref e1, .int (nI rt), .ref e2, .ref e3, .ref e4, .int (nI sz9), .int (nI at9), .int (nI fl), .int pl, .int (nI q), .ref e5])), (n2, .inl (cI, 16, .inl (aN fFO))), (e0, .inl (cI, 672, .inl (aN dr))), (e4, .inl (cI, 400, .inl (aN (nup f (2 + (((fFI k) - 1) / 8)) ((f (2 + (((fFI k) - 1) / 8))) + (128 / 2 ^ ((fFI k - 1) % 8))))))), (e5, .inl (cI, 4, .inl (aN w9)))]) [4, 1, 2, 5, 6] rfl
                      have hDc := hD.sub (ws' := [(m0, .inr (4, [.ref n0, .ref n1, .ref n2, .int (nI cd), .int (nI dt), .ref e0, .ref e1, .int (nI rt), .ref e2, .ref e3, .ref e4, .int (nI sz9), .int (nI at9), .int (nI fl), .int pl, .int (nI q), .ref e5])), (n2, .inl (cI, 16, .inl (aN fFO))), (e0, .inl (cI, 672, .inl (aN dr))), (e4, .inl (cI, 400, .inl (aN (nup f (2 + (((fFI k) - 1) / 8)) ((f (2 + (((fFI k) - 1) / 8))) + (128 / 2 ^ ((fFI k - 1) % 8))))))), (e5, .inl (cI, 4, .inl (aN w9)))]) [4, 1, 2, 5, 6] (by decide) rfl
                      have hFc := va_free (wc := [(m0, .inr (4, [.ref n0, .ref n1, .ref n2, .int (nI cd), .int (nI dt), .ref e0, .ref e1, .int (nI rt), .ref e2, .ref e3, .ref e4, .int (nI sz9), .int (nI at9), .int (nI fl), .int pl, .int (nI q), .ref e5])), (n2, .inl (cI, 16, .inl (aN fFO))), (e0, .inl (cI, 672, .inl (aN dr))), (e4, .inl (cI, 400, .inl (aN (nup f (2 + (((fFI k) - 1) / 8)) ((f (2 + (((fFI k) - 1) / 8))) + (128 / 2 ^ ((fFI k - 1) % 8))))))), (e5, .inl (cI, 4, .inl (aN w9)))]) hD hS hA [4, 1, 2, 5, 6] rfl
                      refine zc_Sv (va_runV (As := [.int (nI k), .ref e0, .int (nI (g k - 1)), .ref e4]) (rest := []) ⟨hx, hb, hml, hown, hw⟩ (c_M_writeField l dC dI m0 n0 n1 n2 cd dt e0 e1 rt e2 e3 e4 sz9 at9 fl pl q e5 cI cB dr (nup f (2 + (((fFI k) - 1) / 8)) ((f (2 + (((fFI k) - 1) / 8))) + (128 / 2 ^ ((fFI k - 1) % 8)))) w9 k (g k - 1) (by omega) (by omega) (by omega) (hd9 k (by omega)) H.size) (cwV 4 hw (gV w_ml_M_91 w_im_M_writeField w_se_M_writeField w_in_M w_co_M_writeField) rfl rfl rfl (by decide +kernel) ⟨Nat.le_of_ble_eq_true rfl, Nat.le_of_ble_eq_true rfl⟩) (zM_V hG hS hFc hPc hDc hK 0 rfl rfl) rfl rfl hl.1 rfl (lv_room (Nat.le_of_ble_eq_true rfl)) dM_write_198 ⟨Nat.le_of_ble_eq_true rfl, Nat.le_of_ble_eq_true rfl⟩) hS hFc (fun u_198 H locs h_198 hP1 hD1 hk1 hS => ?_)
                      obtain ⟨hP, hD⟩ := va_join (wr := [(n0, .inl (cI, 16, .inl (aN fFI))), (e1, .inl (cI, 16, .inl (aP g)))]) (w1 := [(m0, .inr (4, [.ref n0, .ref n1, .ref n2, .int (nI cd), .int (nI dt), .ref e0, .ref e1, .int (nI rt), .ref e2, .ref e3, .ref e4, .int (nI sz9), .int (nI at9), .int (nI fl), .int pl, .int (nI (q + (fldM dr k (g k - 1)).length)), .ref e5])), (n2, .inl (cI, 16, .inl (aN fFO))), (e0, .inl (cI, 672, .inl (aN dr))), (e4, .inl (cI, 400, .inl (aN (apl (nup f (2 + (((fFI k) - 1) / 8)) ((f (2 + (((fFI k) - 1) / 8))) + (128 / 2 ^ ((fFI k - 1) % 8)))) q (fldM dr k (g k - 1)))))), (e5, .inl (cI, 4, .inl (aN u_198)))]) hP hD [4, 1, 2, 5, 6] [0, 3] rfl rfl (by decide) (by decide) hk1 hFc hP1 hD1
                      have hP : va_P (dC, dI) vwCl [(n0, .inl (cI, 16, .inl (aN fFI))), (e1, .inl (cI, 16, .inl (aP g))), (m0, .inr (4, [.ref n0, .ref n1, .ref n2, .int (nI cd), .int (nI dt), .ref e0, .ref e1, .int (nI rt), .ref e2, .ref e3, .ref e4, .int (nI sz9), .int (nI at9), .int (nI fl), .int pl, .int (nI (q + (fldM dr k (g k - 1)).length)), .ref e5])), (n2, .inl (cI, 16, .inl (aN fFO))), (e0, .inl (cI, 672, .inl (aN dr))), (e4, .inl (cI, 400, .inl (aN (apl (nup f (2 + (((fFI k) - 1) / 8)) ((f (2 + (((fFI k) - 1) / 8))) + (128 / 2 ^ ((fFI k - 1) % 8)))) q (fldM dr k (g k - 1)))))), (e5, .inl (cI, 4, .inl (aN u_198)))] H := hP
                      have hD : va_D A [(n0, .inl (cI, 16, .inl (aN fFI))), (e1, .inl (cI, 16, .inl (aP g))), (m0, .inr (4, [.ref n0, .ref n1, .ref n2, .int (nI cd), .int (nI dt), .ref e0, .ref e1, .int (nI rt), .ref e2, .ref e3, .ref e4, .int (nI sz9), .int (nI at9), .int (nI fl), .int pl, .int (nI (q + (fldM dr k (g k - 1)).length)), .ref e5])), (n2, .inl (cI, 16, .inl (aN fFO))), (e0, .inl (cI, 672, .inl (aN dr))), (e4, .inl (cI, 400, .inl (aN (apl (nup f (2 + (((fFI k) - 1) / 8)) ((f (2 + (((fFI k) - 1) / 8))) + (128 / 2 ^ ((fFI k - 1) % 8)))) q (fldM dr k (g k - 1)))))), (e5, .inl (cI, 4, .inl (aN u_198)))] := hD
                      have hrs := fRM_s k (by omega)
                      have h8 := hi
                      rw [show 16 - k = 16 - (k + 1) + 1 by omega] at h8
                      unfold wrT at h8
                      rw [if_neg (by omega)] at h8
                      have h7 := hn
                      rw [show 16 - k = 16 - (k + 1) + 1 by omega] at h7
                      unfold wrQ at h7
                      rw [if_neg (by omega)] at h7
                      have hlf := fldM_le (dr := dr) (k := k) (n := g k - 1) (by have := hg k (by omega); omega)
                      refine lv_iinc (v := nI (k + 1)) (lv' := [(6, .int (nI (k + 1))), (7, .int (nI ((fFI k) - 1))), (0, .ref m0), (2, .ref e0), (3, .ref e1), (4, .ref e4)]) hx hb dM_write_201 hl (k := 5) rfl (zi_incr k 1) (by decide) rfl (fun ls hl => ?_)
                      refine lv_goto (tgt := 141) hx hb dM_write_204 (by decide) ?_
                      exact ih141 (k + 1) (q + (fldM dr k (g k - 1)).length) (apl (nup f (2 + (((fFI k) - 1) / 8)) ((f (2 + (((fFI k) - 1) / 8))) + (128 / 2 ^ ((fFI k - 1) % 8)))) q (fldM dr k (g k - 1))) u_198 (by omega) (by omega) h7 h8 (by omega) _ _ _ (lv_sub hl [2, 3, 4, 5, 0] rfl) (hP.sub [0, 3, 4, 1, 2, 5, 6] rfl) (hD.sub [0, 3, 4, 1, 2, 5, 6] (by decide) rfl) hS
              exact lp_141 ((16 - 0) + 1) 0 10 (nup (apl (apl tp 0 (anb ty 4)) 2 (List.replicate 8 0)) 2 0) (ds fw 0 4 ty) (by omega) (by decide) rfl rfl (Nat.lt_succ_self _) _ _ _ (lv_sub hl [1, 2, 3, 4, 0] rfl) (hP.sub [0, 1, 2, 3, 4, 5, 6] rfl) (hD.sub [0, 1, 2, 3, 4, 5, 6] (by decide) rfl) hS
            · refine lv_aload hx hb dM_write_98 (lv_at hl 3 rfl) ?_
              refine lv_aload_n hx hb dM_write_100 rfl (lv_at hl 0 rfl) ?_
              refine va_get (D := (dC, dI)) (ci := 4) (v := .int (nI q)) (C := RM) (T := TM) (N := 17) hx hb hw inM hown hK hP 4 rfl rfl 15 (by decide) (hw _ w_fl_M_84) (fun _ h9 => h9) rfl dM_write_101 ?_
              refine lv_iconst (v := nI 0) hx hb dM_write_104 (by decide) ?_
              refine za_ist hx hb hK hP hD hS 5 0 rfl rfl (by omega) (by decide) dM_write_105 (fun H locs hP hD hS => ?_)
              have hP : va_P (dC, dI) vwCl [(n0, .inl (cI, 16, .inl (aN fFI))), (n2, .inl (cI, 16, .inl (aN fFO))), (e0, .inl (cI, 672, .inl (aN dr))), (e1, .inl (cI, 16, .inl (aP g))), (m0, .inr (4, [.ref n0, .ref n1, .ref n2, .int (nI cd), .int (nI dt), .ref e0, .ref e1, .int (nI rt), .ref e2, .ref e3, .ref e4, .int (nI sz9), .int (nI at9), .int (nI fl), .int pl, .int (nI q), .ref e5])), (e4, .inl (cI, 400, .inl (aN (nup f q 0)))), (e5, .inl (cI, 4, .inl (aN (ds fw 0 4 ty))))] H := hP
              have hD : va_D A [(n0, .inl (cI, 16, .inl (aN fFI))), (n2, .inl (cI, 16, .inl (aN fFO))), (e0, .inl (cI, 672, .inl (aN dr))), (e1, .inl (cI, 16, .inl (aP g))), (m0, .inr (4, [.ref n0, .ref n1, .ref n2, .int (nI cd), .int (nI dt), .ref e0, .ref e1, .int (nI rt), .ref e2, .ref e3, .ref e4, .int (nI sz9), .int (nI at9), .int (nI fl), .int pl, .int (nI q), .ref e5])), (e4, .inl (cI, 400, .inl (aN (nup f q 0)))), (e5, .inl (cI, 4, .inl (aN (ds fw 0 4 ty))))] := hD
              refine lv_aload_n hx hb dM_write_106 rfl (lv_at hl 0 rfl) ?_
              refine lv_dup hx hb dM_write_107 rfl ?_
              refine va_get (D := (dC, dI)) (ci := 4) (v := .int (nI q)) (C := RM) (T := TM) (N := 17) hx hb hw inM hown hK hP 4 rfl rfl 15 (by decide) (hw _ w_fl_M_84) (fun _ h9 => h9) rfl dM_write_108 ?_
              refine lv_iconst (v := nI 1) hx hb dM_write_111 (by decide) ?_
              refine zi_add hx hb dM_write_112 ?_
              refine va_put (D := (dC, dI)) (ci := 4) (v := .int (nI (q + 1))) (ty := .int) (C := RM) (T := TM) (N := 17) hx hb hw inM tyM tyM_ok nmM hown hK hP hD hS 4 rfl rfl 15 (by decide) (hw _ w_fl_M_84) (fun _ h9 => h9) rfl (by decide +kernel) rfl rfl (Nat.le_of_ble_eq_true rfl) dM_write_113 (fun H locs hP hD hS => ?_)
              have hP : va_P (dC, dI) vwCl [(n0, .inl (cI, 16, .inl (aN fFI))), (n2, .inl (cI, 16, .inl (aN fFO))), (e0, .inl (cI, 672, .inl (aN dr))), (e1, .inl (cI, 16, .inl (aP g))), (m0, .inr (4, [.ref n0, .ref n1, .ref n2, .int (nI cd), .int (nI dt), .ref e0, .ref e1, .int (nI rt), .ref e2, .ref e3, .ref e4, .int (nI sz9), .int (nI at9), .int (nI fl), .int pl, .int (nI (q + 1)), .ref e5])), (e4, .inl (cI, 400, .inl (aN (nup f q 0)))), (e5, .inl (cI, 4, .inl (aN (ds fw 0 4 ty))))] H := hP
              have hD : va_D A [(n0, .inl (cI, 16, .inl (aN fFI))), (n2, .inl (cI, 16, .inl (aN fFO))), (e0, .inl (cI, 672, .inl (aN dr))), (e1, .inl (cI, 16, .inl (aP g))), (m0, .inr (4, [.ref n0, .ref n1, .ref n2, .int (nI cd), .int (nI dt), .ref e0, .ref e1, .int (nI rt), .ref e2, .ref e3, .ref e4, .int (nI sz9), .int (nI at9), .int (nI fl), .int pl, .int (nI (q + 1)), .ref e5])), (e4, .inl (cI, 400, .inl (aN (nup f q 0)))), (e5, .inl (cI, 4, .inl (aN (ds fw 0 4 ty))))] := hD
              refine lv_iinc (v := nI (j + 1)) (lv' := [(6, .int (nI (j + 1))), (0, .ref m0), (2, .ref e0), (3, .ref e1), (4, .ref e4), (5, .int (nI 0))]) hx hb dM_write_116 hl (k := 5) rfl (zi_incr j 1) (by decide) rfl (fun ls hl => ?_)
              refine lv_goto (tgt := 81) hx hb dM_write_119 (by decide) ?_
              exact ih81 (j + 1) (q + 1) (nup f q 0) (by omega) (by omega) (by have h9 := hi9; rw [show 8 - j = 8 - (j + 1) + 1 by omega] at h9; exact h9) (by omega) _ _ _ (lv_sub hl [1, 2, 3, 4, 5, 0] rfl) (hP.sub [0, 1, 2, 3, 4, 5, 6] rfl) (hD.sub [0, 1, 2, 3, 4, 5, 6] (by decide) rfl) hS
        exact lp_81 ((8 - 0) + 1) 0 2 (apl tp 0 (anb ty 4)) (by omega) (by omega) rfl (Nat.lt_succ_self _) _ _ _ (lv_sub hl [1, 2, 3, 4, 5, 0] rfl) (hP.sub [0, 1, 2, 3, 4, 5, 6] rfl) (hD.sub [0, 1, 2, 3, 4, 5, 6] (by decide) rfl) hS
      · refine lv_iload hx hb dM_write_41 (lv_at hl 4 rfl) ?_
        refine lv_if_ne (tgt := 65) hx hb dM_write_43 (by decide) (fun q => False.elim (absurd q (by decide))) (fun c_43 => ?_)
        have hgk := hg k (by omega)
        have hmm := fMM_b k (by omega)
        have hfi := fFI_b k (by omega)
        refine lv_aload_n hx hb dM_write_46 rfl (lv_at hl 2 rfl) ?_
        refine lv_iload hx hb dM_write_47 (lv_at hl 5 rfl) ?_
        refine za_pld hx hb hK hP 3 0 rfl rfl (by omega) (by decide) dM_write_49 ?_
        refine zp_lt0 (tgt := 69) hx hb (by omega) dM_write_50 (by decide) (fun c_50 => ?_) (fun c_50 => ?_)
        · refine lv_iconst (v := nI 0) hx hb dM_write_69 (by decide) ?_
          refine lv_istore (lv' := [(5, .int (nI 0)), (0, .ref m0), (2, .ref e0), (3, .ref e1), (4, .ref e4), (6, .int (nI k))]) hx hb dM_write_70 hl (by decide) rfl (fun ls hl => ?_)
          have h8 : s2L g (16 - (k + 1)) (k + 1) = false := by have h9 := hi; rw [show 16 - k = 16 - (k + 1) + 1 by omega] at h9; unfold s2L at h9; rw [if_neg (fun z => by first | exact absurd z.1 (Nat.not_lt.mpr c_62) | exact z.2 c_50)] at h9; exact h9
          refine lv_iinc (v := nI (k + 1)) (lv' := [(6, .int (nI (k + 1))), (5, .int (nI 0)), (0, .ref m0), (2, .ref e0), (3, .ref e1), (4, .ref e4)]) hx hb dM_write_72 hl (k := 5) rfl (zi_incr k 1) (by decide) rfl (fun ls hl => ?_)
          refine lv_goto (tgt := 34) hx hb dM_write_75 (by decide) ?_
          exact ih34 (k + 1) (by omega) h8 (by omega) _ _ _ (lv_sub hl [2, 3, 4, 5, 1, 0] rfl) (hP.sub [0, 1, 2, 3, 4, 5, 6] rfl) (hD.sub [0, 1, 2, 3, 4, 5, 6] (by decide) rfl) hS
        · refine lv_aload_n hx hb dM_write_53 rfl (lv_at hl 0 rfl) ?_
          refine va_get (D := (dC, dI)) (ci := 4) (v := .ref n0) (C := RM) (T := TM) (N := 17) hx hb hw inM hown hK hP 4 rfl rfl 0 (by decide) (hw _ w_fl_M_7) (fun _ h9 => h9) rfl dM_write_54 ?_
          refine lv_iload hx hb dM_write_57 (lv_at hl 5 rfl) ?_
          refine za_ild hx hb hK hP 0 0 rfl rfl (by omega) (by decide) dM_write_59 ?_
          refine lv_bipush (v := nI 64) hx hb dM_write_60 (by decide) ?_
          refine zi_le (tgt := 69) hx hb (by omega) (by omega) dM_write_62 (by decide) (fun c_62 => ?_) (fun q => False.elim ((by have h9 := hi; rw [show 16 - k = 16 - (k + 1) + 1 by omega] at h9; unfold s2L at h9; rw [if_pos ⟨q, by omega⟩] at h9; cases h9)))
          refine lv_iconst (v := nI 0) hx hb dM_write_69 (by decide) ?_
          refine lv_istore (lv' := [(5, .int (nI 0)), (0, .ref m0), (2, .ref e0), (3, .ref e1), (4, .ref e4), (6, .int (nI k))]) hx hb dM_write_70 hl (by decide) rfl (fun ls hl => ?_)
          have h8 : s2L g (16 - (k + 1)) (k + 1) = false := by have h9 := hi; rw [show 16 - k = 16 - (k + 1) + 1 by omega] at h9; unfold s2L at h9; rw [if_neg (fun z => by first | exact absurd z.1 (Nat.not_lt.mpr c_62) | exact z.2 c_50)] at h9; exact h9
          refine lv_iinc (v := nI (k + 1)) (lv' := [(6, .int (nI (k + 1))), (5, .int (nI 0)), (0, .ref m0), (2, .ref e0), (3, .ref e1), (4, .ref e4)]) hx hb dM_write_72 hl (k := 5) rfl (zi_incr k 1) (by decide) rfl (fun ls hl => ?_)
          refine lv_goto (tgt := 34) hx hb dM_write_75 (by decide) ?_
          exact ih34 (k + 1) (by omega) h8 (by omega) _ _ _ (lv_sub hl [2, 3, 4, 5, 1, 0] rfl) (hP.sub [0, 1, 2, 3, 4, 5, 6] rfl) (hD.sub [0, 1, 2, 3, 4, 5, 6] (by decide) rfl) hS
  exact lp_34 ((16 - 0) + 1) 0 (by omega) hd (Nat.lt_succ_self _) _ _ _ (lv_sub hl [2, 4, 5, 6, 1, 0] rfl) (hP.sub [0, 1, 2, 3, 4, 5, 6] rfl) (hD.sub [0, 1, 2, 3, 4, 5, 6] (by decide) rfl) hS
def rm_c_Mcompose : Room := ({ frames := 3, cells := 0, slots := 0, locals := 80 } : Room)
set_option maxHeartbeats 4000000 in
set_option maxRecDepth 100000 in
theorem c_Mcompose (l : Launch) (dC : Nat → ClassId) (dI : Nat → Nat → Nat) (m0 : Nat) (n0 : Nat) (n1 : Nat) (n2 : Nat) (cd : Nat) (dt : Nat) (e0 : Nat) (e1 : Nat) (rt : Nat) (e2 : Nat) (e3 : Nat) (e4 : Nat) (sz9 : Nat) (at9 : Nat) (fl : Nat) (pl : Int32) (wr : Nat) (e5 : Nat) (cI : ClassId) (cB : ClassId) (dr : Nat → Nat) (g : Nat → Nat) (tp : Nat → Nat) (fw : Nat → Nat) (hty : dt < 10000) (hg : ∀ j, j < 16 → g j ≤ fMM j + 1) (hd9 : ∀ k, k < 16 → fHL k ≠ 0 → ∀ j, j < g k - 1 → dr (42 * k + j) < 2 ^ 31) (sz : Nat) : Met l yM_compose wsM_compose rm_c_Mcompose (zM (dC, dI) [(cI, .int), (cB, .byte)] [.ref m0] [(m0, .inr (4, [.ref n0, .ref n1, .ref n2, .int (nI cd), .int (nI dt), .ref e0, .ref e1, .int (nI rt), .ref e2, .ref e3, .ref e4, .int (nI sz9), .int (nI at9), .int (nI fl), .int pl, .int (nI wr), .ref e5])), (n0, .inl (cI, 16, .inl (aN fFI))), (n2, .inl (cI, 16, .inl (aN fFO))), (e0, .inl (cI, 672, .inl (aN dr))), (e1, .inl (cI, 16, .inl (aP g))), (e4, .inl (cI, 400, .inl (aN tp))), (e5, .inl (cI, 4, .inl (aN fw)))] sz) (zSi (dC, dI) [(m0, .inr (4, [.ref n0, .ref n1, .ref n2, .int (nI cd), .int (nI dt), .ref e0, .ref e1, .int (nI rt), .ref e2, .ref e3, .ref e4, .int (nI sz9), .int (nI at9), .int (nI fl), .int pl, .int (nI wr), .ref e5])), (n0, .inl (cI, 16, .inl (aN fFI))), (n2, .inl (cI, 16, .inl (aN fFO))), (e0, .inl (cI, 672, .inl (aN dr))), (e1, .inl (cI, 16, .inl (aP g))), (e4, .inl (cI, 400, .inl (aN tp))), (e5, .inl (cI, 4, .inl (aN fw)))] sz (fun r (u : Nat → Nat) => r = nI (mN g dr)) (fun u => [(m0, .inr (4, [.ref n0, .ref n1, .ref n2, .int (nI 0), .int (nI dt), .ref e0, .ref e1, .int (nI rt), .ref e2, .ref e3, .ref e4, .int (nI (mN g dr)), .int (nI at9), .int (nI fl), .int pl, .int (nI (mN g dr)), .ref e5])), (n0, .inl (cI, 16, .inl (aN fFI))), (n2, .inl (cI, 16, .inl (aN fFO))), (e0, .inl (cI, 672, .inl (aN dr))), (e1, .inl (cI, 16, .inl (aP g))), (e4, .inl (cI, 400, .inl (aN (mT g dr dt tp)))), (e5, .inl (cI, 4, .inl (aN u)))])) 0 0 (va_A [(m0, .inr (4, [.ref n0, .ref n1, .ref n2, .int (nI cd), .int (nI dt), .ref e0, .ref e1, .int (nI rt), .ref e2, .ref e3, .ref e4, .int (nI sz9), .int (nI at9), .int (nI fl), .int pl, .int (nI wr), .ref e5])), (n0, .inl (cI, 16, .inl (aN fFI))), (n2, .inl (cI, 16, .inl (aN fFO))), (e0, .inl (cI, 672, .inl (aN dr))), (e1, .inl (cI, 16, .inl (aP g))), (e4, .inl (cI, 400, .inl (aN tp))), (e5, .inl (cI, 4, .inl (aN fw)))] sz) := by
  refine Met.ofW (cc := cM_compose) (maxL := 1) (ret := (some .int)) (by decide) rfl ?_
  intro p e s m args below meth c s₁ Bd hml hv
  obtain ⟨rfl, hsz, hG, hP, hK, hD0⟩ := hv
  subst hsz
  have hx := Bd.exec
  have hb := Bd.bytes
  have hr := Bd.returns
  have hts := atoms_spec (ws := wsM_compose) Bd.pre
  have hw : ∀ w ∈ BIG, w.before _ s = true := fun w h => hts w (List.mem_cons_of_mem _ h)
  have hown : s.vm.findClass RM = some m.cls := findClass_of_methodNamed Bd.named
  have hlocks := Bd.notSynchronized
  have hD := hD0.self (sz := s.heap.size)
  obtain ⟨A, hAe⟩ : ∃ A, A = va_A [(m0, .inr (4, [.ref n0, .ref n1, .ref n2, .int (nI cd), .int (nI dt), .ref e0, .ref e1, .int (nI rt), .ref e2, .ref e3, .ref e4, .int (nI sz9), .int (nI at9), .int (nI fl), .int pl, .int (nI wr), .ref e5])), (n0, .inl (cI, 16, .inl (aN fFI))), (n2, .inl (cI, 16, .inl (aN fFO))), (e0, .inl (cI, 672, .inl (aN dr))), (e1, .inl (cI, 16, .inl (aP g))), (e4, .inl (cI, 400, .inl (aN tp))), (e5, .inl (cI, 4, .inl (aN fw)))] s.heap.size := ⟨_, rfl⟩
  have hA : ∀ q : Nat, s.heap.size ≤ q → A q := fun q h => by rw [hAe]; exact Or.inr h
  rw [← hAe] at hG hD
  have hS : va_S A s.heap s.heap [] := va_S.rf
  have hl := lv_entry ([.ref m0]) (n := 1) (Nat.le_of_ble_eq_true rfl)
  rw [lg_entry_eq]
  generalize (lg_sl ([.ref m0]) ++ List.replicate (1 - (lg_sl ([.ref m0])).length) Slot.unset).toArray = ls at hl ⊢
  have hl : lv_has ls 1 [(0, .ref m0)] := hl
  refine zq_name (fun Q hQ => ?_)
  change W p l e rm_c_Mcompose s m _ below meth c _ _ _ _ Q _
  by_cases hs2 : s2L g 16 0 = true
  · refine lv_aload_n hx hb dM_compose_0 rfl (lv_at hl 0 rfl) ?_
    refine lv_iconst (v := nI 0) hx hb dM_compose_1 (by decide) ?_
    refine va_put (D := (dC, dI)) (ci := 4) (v := .int (nI 0)) (ty := .int) (C := RM) (T := TM) (N := 17) hx hb hw inM tyM tyM_ok nmM hown hK hP hD hS 0 rfl rfl 3 (by decide) (hw _ w_fl_M_45) (fun _ h9 => h9) rfl (by decide +kernel) rfl rfl (Nat.le_of_ble_eq_true rfl) dM_compose_2 (fun H locs hP hD hS => ?_)
    have hP : va_P (dC, dI) vwCl [(m0, .inr (4, [.ref n0, .ref n1, .ref n2, .int (nI 0), .int (nI dt), .ref e0, .ref e1, .int (nI rt), .ref e2, .ref e3, .ref e4, .int (nI sz9), .int (nI at9), .int (nI fl), .int pl, .int (nI wr), .ref e5])), (n0, .inl (cI, 16, .inl (aN fFI))), (n2, .inl (cI, 16, .inl (aN fFO))), (e0, .inl (cI, 672, .inl (aN dr))), (e1, .inl (cI, 16, .inl (aP g))), (e4, .inl (cI, 400, .inl (aN tp))), (e5, .inl (cI, 4, .inl (aN fw)))] H := hP
    have hD : va_D A [(m0, .inr (4, [.ref n0, .ref n1, .ref n2, .int (nI 0), .int (nI dt), .ref e0, .ref e1, .int (nI rt), .ref e2, .ref e3, .ref e4, .int (nI sz9), .int (nI at9), .int (nI fl), .int pl, .int (nI wr), .ref e5])), (n0, .inl (cI, 16, .inl (aN fFI))), (n2, .inl (cI, 16, .inl (aN fFO))), (e0, .inl (cI, 672, .inl (aN dr))), (e1, .inl (cI, 16, .inl (aP g))), (e4, .inl (cI, 400, .inl (aN tp))), (e5, .inl (cI, 4, .inl (aN fw)))] := hD
    refine lv_aload_n hx hb dM_compose_5 rfl (lv_at hl 0 rfl) ?_
    refine lv_aload_n hx hb dM_compose_6 rfl (lv_at hl 0 rfl) ?_
    refine va_get (D := (dC, dI)) (ci := 4) (v := .int (nI dt)) (C := RM) (T := TM) (N := 17) hx hb hw inM hown hK hP 0 rfl rfl 4 (by decide) (hw _ w_fl_M_19) (fun _ h9 => h9) rfl dM_compose_7 ?_
    refine lv_aload_n hx hb dM_compose_10 rfl (lv_at hl 0 rfl) ?_
    refine va_get (D := (dC, dI)) (ci := 4) (v := .ref e0) (C := RM) (T := TM) (N := 17) hx hb hw inM hown hK hP 0 rfl rfl 5 (by decide) (hw _ w_fl_M_23) (fun _ h9 => h9) rfl dM_compose_11 ?_
    refine lv_aload_n hx hb dM_compose_14 rfl (lv_at hl 0 rfl) ?_
    refine va_get (D := (dC, dI)) (ci := 4) (v := .ref e1) (C := RM) (T := TM) (N := 17) hx hb hw inM hown hK hP 0 rfl rfl 6 (by decide) (hw _ w_fl_M_26) (fun _ h9 => h9) rfl dM_compose_15 ?_
    refine lv_aload_n hx hb dM_compose_18 rfl (lv_at hl 0 rfl) ?_
    refine va_get (D := (dC, dI)) (ci := 4) (v := .ref e4) (C := RM) (T := TM) (N := 17) hx hb hw inM hown hK hP 0 rfl rfl 10 (by decide) (hw _ w_fl_M_35) (fun _ h9 => h9) rfl dM_compose_19 ?_
    have hPc := hP.sub (ws' := [(m0, .inr (4, [.ref n0, .ref n1, .ref n2, .int (nI 0), .int (nI dt), .ref e0, .ref e1, .int (nI rt), .ref e2, .ref e3, .ref e4, .int (nI sz9), .int (nI at9), .int (nI fl), .int pl, .int (nI wr), .ref e5])), (n0, .inl (cI, 16, .inl (aN fFI))), (n2, .inl (cI, 16, .inl (aN fFO))), (e0, .inl (cI, 672, .inl (aN dr))), (e1, .inl (cI, 16, .inl (aP g))), (e4, .inl (cI, 400, .inl (aN tp))), (e5, .inl (cI, 4, .inl (aN fw)))]) [0, 1, 2, 3, 4, 5, 6] rfl
    have hDc := hD.sub (ws' := [(m0, .inr (4, [.ref n0, .ref n1, .ref n2, .int (nI 0), .int (nI dt), .ref e0, .ref e1, .int (nI rt), .ref e2, .ref e3, .ref e4, .int (nI sz9), .int (nI at9), .int (nI fl), .int pl, .int (nI wr), .ref e5])), (n0, .inl (cI, 16, .inl (aN fFI))), (n2, .inl (cI, 16, .inl (aN fFO))), (e0, .inl (cI, 672, .inl (aN dr))), (e1, .inl (cI, 16, .inl (aP g))), (e4, .inl (cI, 400, .inl (aN tp))), (e5, .inl (cI, 4, .inl (aN fw)))]) [0, 1, 2, 3, 4, 5, 6] (by decide) rfl
    have hFc := va_free (wc := [(m0, .inr (4, [.ref n0, .ref n1, .ref n2, .int (nI 0), .int (nI dt), .ref e0, .ref e1, .int (nI rt), .ref e2, .ref e3, .ref e4, .int (nI sz9), .int (nI at9), .int (nI fl), .int pl, .int (nI wr), .ref e5])), (n0, .inl (cI, 16, .inl (aN fFI))), (n2, .inl (cI, 16, .inl (aN fFO))), (e0, .inl (cI, 672, .inl (aN dr))), (e1, .inl (cI, 16, .inl (aP g))), (e4, .inl (cI, 400, .inl (aN tp))), (e5, .inl (cI, 4, .inl (aN fw)))]) hD hS hA [0, 1, 2, 3, 4, 5, 6] rfl
    refine zc_Sv (va_runV (As := [.int (nI dt), .ref e0, .ref e1, .ref e4]) (rest := []) ⟨hx, hb, hml, hown, hw⟩ (c_Mwrite_two l dC dI m0 n0 n1 n2 0 dt e0 e1 rt e2 e3 e4 sz9 at9 fl pl wr e5 cI cB dr g tp fw dt hty hg hd9 hs2 H.size) (cwV 4 hw (gV w_ml_M_95 w_im_M_write w_se_M_write w_in_M w_co_M_write) rfl rfl rfl (by decide +kernel) ⟨Nat.le_of_ble_eq_true rfl, Nat.le_of_ble_eq_true rfl⟩) (zM_V hG hS hFc hPc hDc hK 0 rfl rfl) rfl rfl hl.1 rfl (lv_room (Nat.le_of_ble_eq_true rfl)) dM_compose_22 ⟨Nat.le_of_ble_eq_true rfl, Nat.le_of_ble_eq_true rfl⟩) hS hFc (fun u_22 H locs h_22 hP1 hD1 hk1 hS => ?_)
    obtain ⟨hP, hD⟩ := va_join (wr := []) (w1 := [(m0, .inr (4, [.ref n0, .ref n1, .ref n2, .int (nI 0), .int (nI dt), .ref e0, .ref e1, .int (nI rt), .ref e2, .ref e3, .ref e4, .int (nI sz9), .int (nI at9), .int (nI fl), .int pl, .int (nI (wrQ g dr 16 0 18)), .ref e5])), (n0, .inl (cI, 16, .inl (aN fFI))), (n2, .inl (cI, 16, .inl (aN fFO))), (e0, .inl (cI, 672, .inl (aN dr))), (e1, .inl (cI, 16, .inl (aP g))), (e4, .inl (cI, 400, .inl (aN (wrT g dr 16 0 18 (nup (apl (apl tp 0 (anb dt 4)) 2 (List.replicate 16 0)) 2 128))))), (e5, .inl (cI, 4, .inl (aN u_22)))]) hP hD [0, 1, 2, 3, 4, 5, 6] [] rfl rfl (by decide) (by decide) hk1 hFc hP1 hD1
    have hP : va_P (dC, dI) vwCl [(m0, .inr (4, [.ref n0, .ref n1, .ref n2, .int (nI 0), .int (nI dt), .ref e0, .ref e1, .int (nI rt), .ref e2, .ref e3, .ref e4, .int (nI sz9), .int (nI at9), .int (nI fl), .int pl, .int (nI (wrQ g dr 16 0 18)), .ref e5])), (n0, .inl (cI, 16, .inl (aN fFI))), (n2, .inl (cI, 16, .inl (aN fFO))), (e0, .inl (cI, 672, .inl (aN dr))), (e1, .inl (cI, 16, .inl (aP g))), (e4, .inl (cI, 400, .inl (aN (wrT g dr 16 0 18 (nup (apl (apl tp 0 (anb dt 4)) 2 (List.replicate 16 0)) 2 128))))), (e5, .inl (cI, 4, .inl (aN u_22)))] H := hP
    have hD : va_D A [(m0, .inr (4, [.ref n0, .ref n1, .ref n2, .int (nI 0), .int (nI dt), .ref e0, .ref e1, .int (nI rt), .ref e2, .ref e3, .ref e4, .int (nI sz9), .int (nI at9), .int (nI fl), .int pl, .int (nI (wrQ g dr 16 0 18)), .ref e5])), (n0, .inl (cI, 16, .inl (aN fFI))), (n2, .inl (cI, 16, .inl (aN fFO))), (e0, .inl (cI, 672, .inl (aN dr))), (e1, .inl (cI, 16, .inl (aP g))), (e4, .inl (cI, 400, .inl (aN (wrT g dr 16 0 18 (nup (apl (apl tp 0 (anb dt 4)) 2 (List.replicate 16 0)) 2 128))))), (e5, .inl (cI, 4, .inl (aN u_22)))] := hD
    refine lv_aload_n hx hb dM_compose_25 rfl (lv_at hl 0 rfl) ?_
    refine lv_aload_n hx hb dM_compose_26 rfl (lv_at hl 0 rfl) ?_
    refine va_get (D := (dC, dI)) (ci := 4) (v := .int (nI (wrQ g dr 16 0 18))) (C := RM) (T := TM) (N := 17) hx hb hw inM hown hK hP 0 rfl rfl 15 (by decide) (hw _ w_fl_M_84) (fun _ h9 => h9) rfl dM_compose_27 ?_
    refine va_put (D := (dC, dI)) (ci := 4) (v := .int (nI (wrQ g dr 16 0 18))) (ty := .int) (C := RM) (T := TM) (N := 17) hx hb hw inM tyM tyM_ok nmM hown hK hP hD hS 0 rfl rfl 11 (by decide) (hw _ w_fl_M_99) (fun _ h9 => h9) rfl (by decide +kernel) rfl rfl (Nat.le_of_ble_eq_true rfl) dM_compose_30 (fun H locs hP hD hS => ?_)
    have hP : va_P (dC, dI) vwCl [(m0, .inr (4, [.ref n0, .ref n1, .ref n2, .int (nI 0), .int (nI dt), .ref e0, .ref e1, .int (nI rt), .ref e2, .ref e3, .ref e4, .int (nI (wrQ g dr 16 0 18)), .int (nI at9), .int (nI fl), .int pl, .int (nI (wrQ g dr 16 0 18)), .ref e5])), (n0, .inl (cI, 16, .inl (aN fFI))), (n2, .inl (cI, 16, .inl (aN fFO))), (e0, .inl (cI, 672, .inl (aN dr))), (e1, .inl (cI, 16, .inl (aP g))), (e4, .inl (cI, 400, .inl (aN (wrT g dr 16 0 18 (nup (apl (apl tp 0 (anb dt 4)) 2 (List.replicate 16 0)) 2 128))))), (e5, .inl (cI, 4, .inl (aN u_22)))] H := hP
    have hD : va_D A [(m0, .inr (4, [.ref n0, .ref n1, .ref n2, .int (nI 0), .int (nI dt), .ref e0, .ref e1, .int (nI rt), .ref e2, .ref e3, .ref e4, .int (nI (wrQ g dr 16 0 18)), .int (nI at9), .int (nI fl), .int pl, .int (nI (wrQ g dr 16 0 18)), .ref e5])), (n0, .inl (cI, 16, .inl (aN fFI))), (n2, .inl (cI, 16, .inl (aN fFO))), (e0, .inl (cI, 672, .inl (aN dr))), (e1, .inl (cI, 16, .inl (aP g))), (e4, .inl (cI, 400, .inl (aN (wrT g dr 16 0 18 (nup (apl (apl tp 0 (anb dt 4)) 2 (List.replicate 16 0)) 2 128))))), (e5, .inl (cI, 4, .inl (aN u_22)))] := hD
    refine lv_aload_n hx hb dM_compose_33 rfl (lv_at hl 0 rfl) ?_
    refine va_get (D := (dC, dI)) (ci := 4) (v := .int (nI (wrQ g dr 16 0 18))) (C := RM) (T := TM) (N := 17) hx hb hw inM hown hK hP 0 rfl rfl 11 (by decide) (hw _ w_fl_M_99) (fun _ h9 => h9) rfl dM_compose_34 ?_
    rw [show mN g dr = _ from if_pos hs2, show mT g dr dt tp = _ from if_pos hs2] at hQ
    subst hAe
    subst hQ
    exact W.iret (v := nI (wrQ g dr 16 0 18)) hx hb hr (fun t ht hW => ⟨⟨nI (wrQ g dr 16 0 18), u_22, rfl, rfl, by rw [ht]; exact hP.sub [0, 1, 2, 3, 4, 5, 6] rfl, hD.sub [0, 1, 2, 3, 4, 5, 6] (by decide) rfl⟩, hS.F ht⟩) hS.2.2 dM_compose_37
  · refine lv_aload_n hx hb dM_compose_0 rfl (lv_at hl 0 rfl) ?_
    refine lv_iconst (v := nI 0) hx hb dM_compose_1 (by decide) ?_
    refine va_put (D := (dC, dI)) (ci := 4) (v := .int (nI 0)) (ty := .int) (C := RM) (T := TM) (N := 17) hx hb hw inM tyM tyM_ok nmM hown hK hP hD hS 0 rfl rfl 3 (by decide) (hw _ w_fl_M_45) (fun _ h9 => h9) rfl (by decide +kernel) rfl rfl (Nat.le_of_ble_eq_true rfl) dM_compose_2 (fun H locs hP hD hS => ?_)
    have hP : va_P (dC, dI) vwCl [(m0, .inr (4, [.ref n0, .ref n1, .ref n2, .int (nI 0), .int (nI dt), .ref e0, .ref e1, .int (nI rt), .ref e2, .ref e3, .ref e4, .int (nI sz9), .int (nI at9), .int (nI fl), .int pl, .int (nI wr), .ref e5])), (n0, .inl (cI, 16, .inl (aN fFI))), (n2, .inl (cI, 16, .inl (aN fFO))), (e0, .inl (cI, 672, .inl (aN dr))), (e1, .inl (cI, 16, .inl (aP g))), (e4, .inl (cI, 400, .inl (aN tp))), (e5, .inl (cI, 4, .inl (aN fw)))] H := hP
    have hD : va_D A [(m0, .inr (4, [.ref n0, .ref n1, .ref n2, .int (nI 0), .int (nI dt), .ref e0, .ref e1, .int (nI rt), .ref e2, .ref e3, .ref e4, .int (nI sz9), .int (nI at9), .int (nI fl), .int pl, .int (nI wr), .ref e5])), (n0, .inl (cI, 16, .inl (aN fFI))), (n2, .inl (cI, 16, .inl (aN fFO))), (e0, .inl (cI, 672, .inl (aN dr))), (e1, .inl (cI, 16, .inl (aP g))), (e4, .inl (cI, 400, .inl (aN tp))), (e5, .inl (cI, 4, .inl (aN fw)))] := hD
    refine lv_aload_n hx hb dM_compose_5 rfl (lv_at hl 0 rfl) ?_
    refine lv_aload_n hx hb dM_compose_6 rfl (lv_at hl 0 rfl) ?_
    refine va_get (D := (dC, dI)) (ci := 4) (v := .int (nI dt)) (C := RM) (T := TM) (N := 17) hx hb hw inM hown hK hP 0 rfl rfl 4 (by decide) (hw _ w_fl_M_19) (fun _ h9 => h9) rfl dM_compose_7 ?_
    refine lv_aload_n hx hb dM_compose_10 rfl (lv_at hl 0 rfl) ?_
    refine va_get (D := (dC, dI)) (ci := 4) (v := .ref e0) (C := RM) (T := TM) (N := 17) hx hb hw inM hown hK hP 0 rfl rfl 5 (by decide) (hw _ w_fl_M_23) (fun _ h9 => h9) rfl dM_compose_11 ?_
    refine lv_aload_n hx hb dM_compose_14 rfl (lv_at hl 0 rfl) ?_
    refine va_get (D := (dC, dI)) (ci := 4) (v := .ref e1) (C := RM) (T := TM) (N := 17) hx hb hw inM hown hK hP 0 rfl rfl 6 (by decide) (hw _ w_fl_M_26) (fun _ h9 => h9) rfl dM_compose_15 ?_
    refine lv_aload_n hx hb dM_compose_18 rfl (lv_at hl 0 rfl) ?_
    refine va_get (D := (dC, dI)) (ci := 4) (v := .ref e4) (C := RM) (T := TM) (N := 17) hx hb hw inM hown hK hP 0 rfl rfl 10 (by decide) (hw _ w_fl_M_35) (fun _ h9 => h9) rfl dM_compose_19 ?_
    have hPc := hP.sub (ws' := [(m0, .inr (4, [.ref n0, .ref n1, .ref n2, .int (nI 0), .int (nI dt), .ref e0, .ref e1, .int (nI rt), .ref e2, .ref e3, .ref e4, .int (nI sz9), .int (nI at9), .int (nI fl), .int pl, .int (nI wr), .ref e5])), (n0, .inl (cI, 16, .inl (aN fFI))), (n2, .inl (cI, 16, .inl (aN fFO))), (e0, .inl (cI, 672, .inl (aN dr))), (e1, .inl (cI, 16, .inl (aP g))), (e4, .inl (cI, 400, .inl (aN tp))), (e5, .inl (cI, 4, .inl (aN fw)))]) [0, 1, 2, 3, 4, 5, 6] rfl
    have hDc := hD.sub (ws' := [(m0, .inr (4, [.ref n0, .ref n1, .ref n2, .int (nI 0), .int (nI dt), .ref e0, .ref e1, .int (nI rt), .ref e2, .ref e3, .ref e4, .int (nI sz9), .int (nI at9), .int (nI fl), .int pl, .int (nI wr), .ref e5])), (n0, .inl (cI, 16, .inl (aN fFI))), (n2, .inl (cI, 16, .inl (aN fFO))), (e0, .inl (cI, 672, .inl (aN dr))), (e1, .inl (cI, 16, .inl (aP g))), (e4, .inl (cI, 400, .inl (aN tp))), (e5, .inl (cI, 4, .inl (aN fw)))]) [0, 1, 2, 3, 4, 5, 6] (by decide) rfl
    have hFc := va_free (wc := [(m0, .inr (4, [.ref n0, .ref n1, .ref n2, .int (nI 0), .int (nI dt), .ref e0, .ref e1, .int (nI rt), .ref e2, .ref e3, .ref e4, .int (nI sz9), .int (nI at9), .int (nI fl), .int pl, .int (nI wr), .ref e5])), (n0, .inl (cI, 16, .inl (aN fFI))), (n2, .inl (cI, 16, .inl (aN fFO))), (e0, .inl (cI, 672, .inl (aN dr))), (e1, .inl (cI, 16, .inl (aP g))), (e4, .inl (cI, 400, .inl (aN tp))), (e5, .inl (cI, 4, .inl (aN fw)))]) hD hS hA [0, 1, 2, 3, 4, 5, 6] rfl
    refine zc_Sv (va_runV (As := [.int (nI dt), .ref e0, .ref e1, .ref e4]) (rest := []) ⟨hx, hb, hml, hown, hw⟩ (c_Mwrite_one l dC dI m0 n0 n1 n2 0 dt e0 e1 rt e2 e3 e4 sz9 at9 fl pl wr e5 cI cB dr g tp fw dt hty hg hd9 (Bool.eq_false_iff.mpr hs2) H.size) (cwV 4 hw (gV w_ml_M_95 w_im_M_write w_se_M_write w_in_M w_co_M_write) rfl rfl rfl (by decide +kernel) ⟨Nat.le_of_ble_eq_true rfl, Nat.le_of_ble_eq_true rfl⟩) (zM_V hG hS hFc hPc hDc hK 0 rfl rfl) rfl rfl hl.1 rfl (lv_room (Nat.le_of_ble_eq_true rfl)) dM_compose_22 ⟨Nat.le_of_ble_eq_true rfl, Nat.le_of_ble_eq_true rfl⟩) hS hFc (fun u_22 H locs h_22 hP1 hD1 hk1 hS => ?_)
    obtain ⟨hP, hD⟩ := va_join (wr := []) (w1 := [(m0, .inr (4, [.ref n0, .ref n1, .ref n2, .int (nI 0), .int (nI dt), .ref e0, .ref e1, .int (nI rt), .ref e2, .ref e3, .ref e4, .int (nI sz9), .int (nI at9), .int (nI fl), .int pl, .int (nI (wrQ g dr 16 0 10)), .ref e5])), (n0, .inl (cI, 16, .inl (aN fFI))), (n2, .inl (cI, 16, .inl (aN fFO))), (e0, .inl (cI, 672, .inl (aN dr))), (e1, .inl (cI, 16, .inl (aP g))), (e4, .inl (cI, 400, .inl (aN (wrT g dr 16 0 10 (nup (apl (apl tp 0 (anb dt 4)) 2 (List.replicate 8 0)) 2 0))))), (e5, .inl (cI, 4, .inl (aN u_22)))]) hP hD [0, 1, 2, 3, 4, 5, 6] [] rfl rfl (by decide) (by decide) hk1 hFc hP1 hD1
    have hP : va_P (dC, dI) vwCl [(m0, .inr (4, [.ref n0, .ref n1, .ref n2, .int (nI 0), .int (nI dt), .ref e0, .ref e1, .int (nI rt), .ref e2, .ref e3, .ref e4, .int (nI sz9), .int (nI at9), .int (nI fl), .int pl, .int (nI (wrQ g dr 16 0 10)), .ref e5])), (n0, .inl (cI, 16, .inl (aN fFI))), (n2, .inl (cI, 16, .inl (aN fFO))), (e0, .inl (cI, 672, .inl (aN dr))), (e1, .inl (cI, 16, .inl (aP g))), (e4, .inl (cI, 400, .inl (aN (wrT g dr 16 0 10 (nup (apl (apl tp 0 (anb dt 4)) 2 (List.replicate 8 0)) 2 0))))), (e5, .inl (cI, 4, .inl (aN u_22)))] H := hP
    have hD : va_D A [(m0, .inr (4, [.ref n0, .ref n1, .ref n2, .int (nI 0), .int (nI dt), .ref e0, .ref e1, .int (nI rt), .ref e2, .ref e3, .ref e4, .int (nI sz9), .int (nI at9), .int (nI fl), .int pl, .int (nI (wrQ g dr 16 0 10)), .ref e5])), (n0, .inl (cI, 16, .inl (aN fFI))), (n2, .inl (cI, 16, .inl (aN fFO))), (e0, .inl (cI, 672, .inl (aN dr))), (e1, .inl (cI, 16, .inl (aP g))), (e4, .inl (cI, 400, .inl (aN (wrT g dr 16 0 10 (nup (apl (apl tp 0 (anb dt 4)) 2 (List.replicate 8 0)) 2 0))))), (e5, .inl (cI, 4, .inl (aN u_22)))] := hD
    refine lv_aload_n hx hb dM_compose_25 rfl (lv_at hl 0 rfl) ?_
    refine lv_aload_n hx hb dM_compose_26 rfl (lv_at hl 0 rfl) ?_
    refine va_get (D := (dC, dI)) (ci := 4) (v := .int (nI (wrQ g dr 16 0 10))) (C := RM) (T := TM) (N := 17) hx hb hw inM hown hK hP 0 rfl rfl 15 (by decide) (hw _ w_fl_M_84) (fun _ h9 => h9) rfl dM_compose_27 ?_
    refine va_put (D := (dC, dI)) (ci := 4) (v := .int (nI (wrQ g dr 16 0 10))) (ty := .int) (C := RM) (T := TM) (N := 17) hx hb hw inM tyM tyM_ok nmM hown hK hP hD hS 0 rfl rfl 11 (by decide) (hw _ w_fl_M_99) (fun _ h9 => h9) rfl (by decide +kernel) rfl rfl (Nat.le_of_ble_eq_true rfl) dM_compose_30 (fun H locs hP hD hS => ?_)
    have hP : va_P (dC, dI) vwCl [(m0, .inr (4, [.ref n0, .ref n1, .ref n2, .int (nI 0), .int (nI dt), .ref e0, .ref e1, .int (nI rt), .ref e2, .ref e3, .ref e4, .int (nI (wrQ g dr 16 0 10)), .int (nI at9), .int (nI fl), .int pl, .int (nI (wrQ g dr 16 0 10)), .ref e5])), (n0, .inl (cI, 16, .inl (aN fFI))), (n2, .inl (cI, 16, .inl (aN fFO))), (e0, .inl (cI, 672, .inl (aN dr))), (e1, .inl (cI, 16, .inl (aP g))), (e4, .inl (cI, 400, .inl (aN (wrT g dr 16 0 10 (nup (apl (apl tp 0 (anb dt 4)) 2 (List.replicate 8 0)) 2 0))))), (e5, .inl (cI, 4, .inl (aN u_22)))] H := hP
    have hD : va_D A [(m0, .inr (4, [.ref n0, .ref n1, .ref n2, .int (nI 0), .int (nI dt), .ref e0, .ref e1, .int (nI rt), .ref e2, .ref e3, .ref e4, .int (nI (wrQ g dr 16 0 10)), .int (nI at9), .int (nI fl), .int pl, .int (nI (wrQ g dr 16 0 10)), .ref e5])), (n0, .inl (cI, 16, .inl (aN fFI))), (n2, .inl (cI, 16, .inl (aN fFO))), (e0, .inl (cI, 672, .inl (aN dr))), (e1, .inl (cI, 16, .inl (aP g))), (e4, .inl (cI, 400, .inl (aN (wrT g dr 16 0 10 (nup (apl (apl tp 0 (anb dt 4)) 2 (List.replicate 8 0)) 2 0))))), (e5, .inl (cI, 4, .inl (aN u_22)))] := hD
    refine lv_aload_n hx hb dM_compose_33 rfl (lv_at hl 0 rfl) ?_
    refine va_get (D := (dC, dI)) (ci := 4) (v := .int (nI (wrQ g dr 16 0 10))) (C := RM) (T := TM) (N := 17) hx hb hw inM hown hK hP 0 rfl rfl 11 (by decide) (hw _ w_fl_M_99) (fun _ h9 => h9) rfl dM_compose_34 ?_
    rw [show mN g dr = _ from if_neg hs2, show mT g dr dt tp = _ from if_neg hs2] at hQ
    subst hAe
    subst hQ
    exact W.iret (v := nI (wrQ g dr 16 0 10)) hx hb hr (fun t ht hW => ⟨⟨nI (wrQ g dr 16 0 10), u_22, rfl, rfl, by rw [ht]; exact hP.sub [0, 1, 2, 3, 4, 5, 6] rfl, hD.sub [0, 1, 2, 3, 4, 5, 6] (by decide) rfl⟩, hS.F ht⟩) hS.2.2 dM_compose_37
